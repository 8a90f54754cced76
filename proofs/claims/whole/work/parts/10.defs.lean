def f_X0_init (F : Nat) (a0 : Nat) (h : jH) : Option jH :=
  j_b2 (jn_A 100 h 6) (fun a1 h2 =>
  (jp_R 0 0 h2 a0 a1).bind (fun h3 =>
  j_b2 (jn_A 100 h3 6) (fun a4 h5 =>
  (jp_R 0 1 h5 a0 a4).bind (fun h6 =>
  j_b2 (jn_A 100 h6 7) (fun a7 h8 =>
  (jp_R 0 2 h8 a0 a7).bind (fun h9 =>
  j_b2 (jn_A 100 h9 10) (fun a10 h11 =>
  (jp_R 0 3 h11 a0 a10).bind (fun h12 =>
  some h12))))))))
def f_X2_init (F : Nat) (a0 : Nat) (h : jH) : Option jH :=
  j_b2 (jn_A 100 h 8) (fun a1 h2 =>
  (jp_R 2 1 h2 a0 a1).bind (fun h3 =>
  j_b2 (jn_A 100 h3 8) (fun a4 h5 =>
  (jp_R 2 2 h5 a0 a4).bind (fun h6 =>
  j_b2 (jn_A 100 h6 8) (fun a7 h8 =>
  (jp_R 2 3 h8 a0 a7).bind (fun h9 =>
  j_b2 (jn_A 100 h9 8) (fun a10 h11 =>
  (jp_R 2 4 h11 a0 a10).bind (fun h12 =>
  j_b2 (jn_A 100 h12 8) (fun a13 h14 =>
  (jp_R 2 5 h14 a0 a13).bind (fun h15 =>
  some h15))))))))))
def f_X3_init (F : Nat) (a0 : Nat) (h : jH) : Option jH :=
  j_b2 (jn_A 100 h 10) (fun a1 h2 =>
  (jp_R 3 1 h2 a0 a1).bind (fun h3 =>
  j_b2 (jn_A 100 h3 10) (fun a4 h5 =>
  (jp_R 3 2 h5 a0 a4).bind (fun h6 =>
  j_b2 (jn_A 100 h6 10) (fun a7 h8 =>
  (jp_R 3 3 h8 a0 a7).bind (fun h9 =>
  j_b2 (jn_A 100 h9 60) (fun a10 h11 =>
  (jp_R 3 4 h11 a0 a10).bind (fun h12 =>
  j_b2 (jn_A 100 h12 50) (fun a13 h14 =>
  (jp_R 3 5 h14 a0 a13).bind (fun h15 =>
  j_b2 (jn_A 100 h15 10) (fun a16 h17 =>
  (jp_R 3 6 h17 a0 a16).bind (fun h18 =>
  j_b2 (jn_A 100 h18 7) (fun a19 h20 =>
  (jp_R 3 7 h20 a0 a19).bind (fun h21 =>
  some h21))))))))))))))
def f_X7_init (F : Nat) (a0 : Nat) (h : jH) : Option jH :=
  j_b2 (jn_A 100 h 4) (fun a1 h2 =>
  (jp_R 7 2 h2 a0 a1).bind (fun h3 =>
  j_b2 (jn_A 100 h3 4) (fun a4 h5 =>
  (jp_R 7 3 h5 a0 a4).bind (fun h6 =>
  j_b2 (jn_A 100 h6 4) (fun a7 h8 =>
  (jp_R 7 4 h8 a0 a7).bind (fun h9 =>
  j_b2 (jn_A 100 h9 30) (fun a10 h11 =>
  (jp_R 7 5 h11 a0 a10).bind (fun h12 =>
  some h12))))))))
def f_X4_init_L15 (F : Nat) (x0 : Nat) : Nat → Int32 → jH → Option jH
  | 0, _, _ => none
  | n + 1, x1, h =>
    if (12 : Int32) < x1 then
      some h
    else
      (jg_R 4 0 h x0).bind (fun v4 =>
      j_b2 (jn_O 7 6 h) (fun a5 h6 =>
      (f_X7_init F a5 h6).bind (fun h7 =>
      (jb_R h7 v4 x1 a5).bind (fun h8 =>
      f_X4_init_L15 F x0 n (x1 + 1) h8))))
def f_X4_init (F : Nat) (a0 : Nat) (h : jH) : Option jH :=
  j_b2 (jn_A 104 h 13) (fun a1 h2 =>
  (jp_R 4 0 h2 a0 a1).bind (fun h3 =>
  f_X4_init_L15 F a0  F 0 h3))
def f_X5_init (F : Nat) (a0 : Nat) (h : jH) : Option jH :=
  j_b2 (jn_A 100 h 12) (fun a1 h2 =>
  (jp_R 5 0 h2 a0 a1).bind (fun h3 =>
  j_b2 (jn_A 100 h3 12) (fun a4 h5 =>
  (jp_R 5 1 h5 a0 a4).bind (fun h6 =>
  j_b2 (jn_A 100 h6 13) (fun a7 h8 =>
  (jp_R 5 4 h8 a0 a7).bind (fun h9 =>
  j_b2 (jn_A 100 h9 1536) (fun a10 h11 =>
  (jp_R 5 5 h11 a0 a10).bind (fun h12 =>
  j_b2 (jn_A 100 h12 1536) (fun a13 h14 =>
  (jp_R 5 6 h14 a0 a13).bind (fun h15 =>
  some h15))))))))))
def f_X6_init (F : Nat) (a0 : Nat) (h : jH) : Option jH :=
  j_b2 (jn_A 103 h 12) (fun a1 h2 =>
  (jp_R 6 0 h2 a0 a1).bind (fun h3 =>
  some h3))
def f_X8_becomeNone (F : Nat) (a0 : Nat) (h : jH) : Option jH :=
  j_gd 8 h a0 (
    (jg_R 8 1 h a0).bind (fun v1 =>
    (jb_I 100 h v1 0 1000).bind (fun h2 =>
    (jg_R 8 1 h2 a0).bind (fun v3 =>
    (jb_I 100 h2 v3 1 1).bind (fun h4 =>
    (jg_R 8 1 h4 a0).bind (fun v5 =>
    (jb_I 100 h4 v5 2 2043).bind (fun h6 =>
    (jp_I 8 4 h6 a0 3).bind (fun h7 =>
    some h7))))))))
def f_X8_init (F : Nat) (a0 : Nat) (h : jH) : Option jH :=
  j_b2 (jn_A 100 h 5) (fun a1 h2 =>
  (jp_R 8 0 h2 a0 a1).bind (fun h3 =>
  j_b2 (jn_A 100 h3 40) (fun a4 h5 =>
  (jp_R 8 1 h5 a0 a4).bind (fun h6 =>
  j_b2 (jn_A 100 h6 40) (fun a7 h8 =>
  (jp_R 8 2 h8 a0 a7).bind (fun h9 =>
  j_b2 (jn_A 100 h9 7) (fun a10 h11 =>
  (jp_R 8 3 h11 a0 a10).bind (fun h12 =>
  (jp_I 8 4 h12 a0 0).bind (fun h13 =>
  (f_X8_becomeNone F a0 h13).bind (fun h14 =>
  some h14))))))))))
def f_X9_init (F : Nat) (a0 : Nat) (h : jH) : Option jH :=
  j_b2 (jn_A 100 h 80) (fun a1 h2 =>
  (jp_R 9 0 h2 a0 a1).bind (fun h3 =>
  some h3))
def f_X10_init (F : Nat) (a0 : Nat) (h : jH) : Option jH :=
  j_b2 (jn_O 9 4 h) (fun a1 h2 =>
  (f_X9_init F a1 h2).bind (fun h3 =>
  (jp_R 10 0 h3 a0 a1).bind (fun h4 =>
  j_b2 (jn_O 6 2 h4) (fun a5 h6 =>
  (f_X6_init F a5 h6).bind (fun h7 =>
  (jp_R 10 1 h7 a0 a5).bind (fun h8 =>
  j_b2 (jn_O 3 8 h8) (fun a9 h10 =>
  (f_X3_init F a9 h10).bind (fun h11 =>
  (jp_R 10 2 h11 a0 a9).bind (fun h12 =>
  j_b2 (jn_O 2 6 h12) (fun a13 h14 =>
  (f_X2_init F a13 h14).bind (fun h15 =>
  (jp_R 10 3 h15 a0 a13).bind (fun h16 =>
  j_b2 (jn_O 7 6 h16) (fun a17 h18 =>
  (f_X7_init F a17 h18).bind (fun h19 =>
  (jp_R 10 4 h19 a0 a17).bind (fun h20 =>
  j_b2 (jn_O 4 3 h20) (fun a21 h22 =>
  (f_X4_init F a21 h22).bind (fun h23 =>
  (jp_R 10 5 h23 a0 a21).bind (fun h24 =>
  j_b2 (jn_A 104 h24 2) (fun a25 h26 =>
  j_b2 (jn_O 7 6 h26) (fun a27 h28 =>
  (f_X7_init F a27 h28).bind (fun h29 =>
  (jb_R h29 a25 0 a27).bind (fun h30 =>
  j_b2 (jn_O 7 6 h30) (fun a31 h32 =>
  (f_X7_init F a31 h32).bind (fun h33 =>
  (jb_R h33 a25 1 a31).bind (fun h34 =>
  (jp_R 10 6 h34 a0 a25).bind (fun h35 =>
  j_b2 (jn_A 102 h35 2) (fun a36 h37 =>
  (jp_R 10 7 h37 a0 a36).bind (fun h38 =>
  j_b2 (jn_O 0 4 h38) (fun a39 h40 =>
  (f_X0_init F a39 h40).bind (fun h41 =>
  (jp_R 10 8 h41 a0 a39).bind (fun h42 =>
  j_b2 (jn_O 5 9 h42) (fun a43 h44 =>
  (f_X5_init F a43 h44).bind (fun h45 =>
  (jp_R 10 9 h45 a0 a43).bind (fun h46 =>
  j_b2 (jn_A 100 h46 21) (fun a47 h48 =>
  (jp_R 10 10 h48 a0 a47).bind (fun h49 =>
  j_b2 (jn_A 100 h49 10) (fun a50 h51 =>
  (jp_R 10 11 h51 a0 a50).bind (fun h52 =>
  j_b2 (jn_A 100 h52 10) (fun a53 h54 =>
  (jp_R 10 12 h54 a0 a53).bind (fun h55 =>
  j_b2 (jn_A 100 h55 5) (fun a56 h57 =>
  (jp_R 10 13 h57 a0 a56).bind (fun h58 =>
  j_b2 (jn_A 100 h58 4) (fun a59 h60 =>
  (jp_R 10 14 h60 a0 a59).bind (fun h61 =>
  j_b2 (jn_O 8 5 h61) (fun a62 h63 =>
  (f_X8_init F a62 h63).bind (fun h64 =>
  (jp_R 10 15 h64 a0 a62).bind (fun h65 =>
  j_b2 (jn_O 8 5 h65) (fun a66 h67 =>
  (f_X8_init F a66 h67).bind (fun h68 =>
  (jp_R 10 16 h68 a0 a66).bind (fun h69 =>
  (jp_I 10 17 h69 a0 1).bind (fun h70 =>
  (jp_I 10 18 h70 a0 0).bind (fun h71 =>
  (jp_I 10 19 h71 a0 0).bind (fun h72 =>
  some h72)))))))))))))))))))))))))))))))))))))))))))))))))))))
def f_X9_addFour_L20 (F : Nat) (x0 : Nat) (x1 : Int32) (k55 : jH → Option (Int32 × jH)) : Nat → Int32 → jH → Option (Int32 × jH)
  | 0, _, _ => none
  | n + 1, x2, h =>
    if (4 : Int32) ≤ x2 then
      k55 h
    else
      (jg_R 9 0 h x0).bind (fun v3 =>
      (jg_I 9 1 h x0).bind (fun v4 =>
      (jb_I 100 h v3 (v4 + x2) (((x1.toUInt32 >>> (((24 : Int32) - ((8 : Int32) * x2)).toUInt32 &&& Int32.toUInt32 31)).toInt32) &&& (255 : Int32))).bind (fun h5 =>
      f_X9_addFour_L20 F x0 x1 k55 n (x2 + 1) h5)))
def f_X9_addFour (F : Nat) (a0 : Nat) (a1 : Int32) (h : jH) : Option (Int32 × jH) :=
  j_gd 9 h a0 (
    (jg_I 9 1 h a0).bind (fun v1 =>
    if v1 < 0 then
      some (0, h)
    else
      (jg_I 9 1 h a0).bind (fun v2 =>
      if v2 ≤ 76 then
        f_X9_addFour_L20 F a0 a1 (fun (h6 : jH) =>
          (jg_I 9 1 h6 a0).bind (fun v7 =>
          (jp_I 9 1 h6 a0 (v7 + (4 : Int32))).bind (fun h8 =>
          some (1, h8)))) F 0 h
      else
        some (0, h))))
def f_X10_sign (F : Nat) (a0 : Nat) (a1 : Int32) (h : jH) : Option (Int32 × jH) :=
  j_gd 10 h a0 (
    (jg_R 10 0 h a0).bind (fun v1 =>
    j_b2 (f_X9_addFour F v1 a1 h) (fun v3 h2 =>
    if v3 = 0 then
      some ((-1), h2)
    else
      (jg_R 10 0 h2 a0).bind (fun v4 =>
      (jg_I 9 1 h2 v4).bind (fun v5 =>
      some (v5, h2))))))
def f_X10_end (F : Nat) (a0 : Nat) (a1 : Int32) (h : jH) : Option (Int32 × jH) :=
  j_gd 10 h a0 (
    if a1 < 0 then
      some (0, h)
    else
      (jg_R 10 0 h a0).bind (fun v1 =>
      (jg_I 9 1 h v1).bind (fun v2 =>
      if a1 ≤ v2 then
        (jg_R 10 0 h a0).bind (fun v3 =>
        (jp_I 9 1 h v3 a1).bind (fun h4 =>
        some (1, h4)))
      else
        some (0, h))))
def f_X10_forget_L10 (F : Nat) (x0 : Nat) : Nat → Int32 → jH → Option jH
  | 0, _, _ => none
  | n + 1, x1, h =>
    if (2 : Int32) ≤ x1 then
      some h
    else
      (jg_R 10 7 h x0).bind (fun v3 =>
      (jb_I 102 h v3 x1 0).bind (fun h4 =>
      f_X10_forget_L10 F x0 n (x1 + 1) h4))
def f_X10_forget (F : Nat) (a0 : Nat) (h : jH) : Option jH :=
  j_gd 10 h a0 (
    (jg_R 10 5 h a0).bind (fun v1 =>
    (jp_I 4 2 h v1 0).bind (fun h2 =>
    f_X10_forget_L10 F a0  F 0 h2)))
def f_X10_stationsNeeded_L4 (F : Nat) (x0 : Nat) (k34 : Int32 → jH → Option (Int32 × jH)) : Nat → Int32 → Int32 → jH → Option (Int32 × jH)
  | 0, _, _, _ => none
  | n + 1, x1, x2, h =>
    (jg_I 10 18 h x0).bind (fun v1 =>
    if v1 ≤ x2 then
      k34 x1 h
    else
      (jg_R 10 4 h x0).bind (fun v2 =>
      (jg_R 7 2 h v2).bind (fun v3 =>
      (ja_I 100 h v3 x2).bind (fun v4 =>
      f_X10_stationsNeeded_L4 F x0 k34 n (j_max x1 (v4 + (1 : Int32))) (x2 + 1) h))))
def f_X10_stationsNeeded_L36 (F : Nat) (x0 : Nat) : Nat → Int32 → Int32 → jH → Option (Int32 × jH)
  | 0, _, _, _ => none
  | n + 1, x1, x2, h =>
    (jg_R 10 3 h x0).bind (fun v7 =>
    (jg_I 2 0 h v7).bind (fun v8 =>
    if v8 ≤ x2 then
      some (x1, h)
    else
      (jg_R 10 3 h x0).bind (fun v9 =>
      (jg_R 2 3 h v9).bind (fun v10 =>
      (ja_I 100 h v10 x2).bind (fun v11 =>
      f_X10_stationsNeeded_L36 F x0 n (j_max x1 (v11 + (1 : Int32))) (x2 + 1) h)))))
def f_X10_stationsNeeded (F : Nat) (a0 : Nat) (h : jH) : Option (Int32 × jH) :=
  j_gd 10 h a0 (
    f_X10_stationsNeeded_L4 F a0 (fun (y5 : Int32) (h6 : jH) =>
      f_X10_stationsNeeded_L36 F a0  F y5 0 h6) F 1 0 h)
def f_X7_closeBooks_L4 (F : Nat) (x0 : Nat) : Nat → Int32 → jH → Option jH
  | 0, _, _ => none
  | n + 1, x2, h =>
    if (30 : Int32) ≤ x2 then
      some h
    else
      (jg_R 7 5 h x0).bind (fun v1 =>
      (jb_I 100 h v1 x2 0).bind (fun h2 =>
      f_X7_closeBooks_L4 F x0 n (x2 + 1) h2))
def f_X7_closeBooks (F : Nat) (a0 : Nat) (a1 : Int32) (h : jH) : Option jH :=
  j_gd 7 h a0 (
    f_X7_closeBooks_L4 F a0  F (a1 * (5 : Int32)) h)
def f_X10_road (F : Nat) (a0 : Nat) (a1 : Int32) (h : jH) : Option (Int32 × jH) :=
  j_gd 10 h a0 (
    j_b2 (f_X10_stationsNeeded F a0 h) (fun v2 h1 =>
    if a1 < v2 then
      some ((-1), h1)
    else
      if a1 ≤ 6 then
        (jg_I 10 17 h1 a0).bind (fun v3 =>
        (jg_R 10 4 h1 a0).bind (fun v4 =>
        (f_X7_closeBooks F v4 a1 h1).bind (fun h5 =>
        (jp_I 10 17 h5 a0 a1).bind (fun h6 =>
        (f_X10_forget F a0 h6).bind (fun h7 =>
        some (v3, h7))))))
      else
        some ((-1), h1)))
def f_X9_peek (F : Nat) (a0 : Nat) (h : jH) : Option (Int32 × jH) :=
  j_gd 9 h a0 (
    (jg_I 9 2 h a0).bind (fun v1 =>
    if v1 < 0 then
      some ((-1), h)
    else
      (jg_I 9 2 h a0).bind (fun v2 =>
      (jg_I 9 3 h a0).bind (fun v3 =>
      if v3 ≤ v2 then
        some ((-1), h)
      else
        (jg_R 9 0 h a0).bind (fun v4 =>
        (jg_I 9 2 h a0).bind (fun v5 =>
        (ja_I 100 h v4 v5).bind (fun v6 =>
        some (v6, h))))))))
def f_X9_take (F : Nat) (a0 : Nat) (a1 : Int32) (h : jH) : Option (Int32 × jH) :=
  j_gd 9 h a0 (
    j_b2 (f_X9_peek F a0 h) (fun v2 h1 =>
    if v2 = a1 then
      (jg_I 9 2 h1 a0).bind (fun v3 =>
      (jp_I 9 2 h1 a0 (v3 + (1 : Int32))).bind (fun h4 =>
      some (1, h4)))
    else
      some (0, h1)))
def f_X9_takeFrom (F : Nat) (a0 : Nat) (a1 : Int32) (a2 : Int32) (h : jH) : Option (Int32 × jH) :=
  j_gd 9 h a0 (
    (jg_I 9 2 h a0).bind (fun v1 =>
    j_jn (fun (s2 : Int32) (h3 : jH) =>
      if s2 < 0 then
        some ((-1), h3)
      else
        if s2 < a2 then
          (jg_I 9 2 h3 a0).bind (fun v4 =>
          (jp_I 9 2 h3 a0 (v4 + (1 : Int32))).bind (fun h5 =>
          some (s2, h5)))
        else
          some ((-1), h3)) (fun J33 =>
      j_jn (fun (h6 : jH) =>
        J33 (-1) h6) (fun J32 =>
        if v1 < 0 then
          J32 h
        else
          (jg_I 9 2 h a0).bind (fun v7 =>
          (jg_I 9 3 h a0).bind (fun v8 =>
          if v8 ≤ v7 then
            J32 h
          else
            (jg_R 9 0 h a0).bind (fun v9 =>
            (jg_I 9 2 h a0).bind (fun v10 =>
            (ja_I 100 h v9 v10).bind (fun v11 =>
            J33 (v11 - a1) h)))))))))
def f_X9_takeNumber_L11 (F : Nat) (x0 : Nat) (x1 : Int32) : Nat → Int32 → Int32 → jH → Option (Int32 × jH)
  | 0, _, _, _ => none
  | n + 1, x2, x3, h =>
    if x1 ≤ x3 then
      some (x2, h)
    else
      if x2 < 0 then
        some (x2, h)
      else
        j_b2 (f_X9_takeFrom F x0 48 10 h) (fun v4 h3 =>
        if (0 : Int32) ≤ v4 then
          f_X9_takeNumber_L11 F x0 x1 n ((x2 * (10 : Int32)) + v4) (x3 + 1) h3
        else
          some (x2, h3))
def f_X9_takeNumber (F : Nat) (a0 : Nat) (a1 : Int32) (h : jH) : Option (Int32 × jH) :=
  j_gd 9 h a0 (
    j_b2 (f_X9_takeFrom F a0 48 10 h) (fun v2 h1 =>
    f_X9_takeNumber_L11 F a0 a1  F v2 1 h1))
def f_X10_readAct (F : Nat) (a0 : Nat) (a1 : Int32) (h : jH) : Option (Int32 × jH) :=
  j_gd 10 h a0 (
    (jg_R 10 0 h a0).bind (fun v1 =>
    j_b2 (f_X9_take F v1 119 h) (fun v3 h2 =>
    if v3 = 0 then
      (jg_R 10 0 h2 a0).bind (fun v4 =>
      j_b2 (f_X9_takeFrom F v4 97 4 h2) (fun v6 h5 =>
      if (0 : Int32) ≤ v6 then
        (jg_R 10 0 h5 a0).bind (fun v7 =>
        j_b2 (f_X9_takeFrom F v7 48 10 h5) (fun v9 h8 =>
        j_jn (fun (z10 : Int32) (h11 : jH) =>
          (jg_R 10 10 h11 a0).bind (fun v12 =>
          (jb_I 100 h11 v12 a1 ((v6 * (16 : Int32)) + z10)).bind (fun h13 =>
          if z10 < 0 then
            some (0, h13)
          else
            some (1, h13)))) (fun J128 =>
          if (0 : Int32) ≤ v9 then
            J128 v9 h8
          else
            (jg_R 10 0 h8 a0).bind (fun v14 =>
            j_b2 (f_X9_take F v14 62 h8) (fun v16 h15 =>
            j_jn (fun (s17 : Int32) (h18 : jH) =>
              J128 s17 h18) (fun J127 =>
              if v16 = 0 then
                (jg_R 10 0 h15 a0).bind (fun v19 =>
                j_b2 (f_X9_take F v19 60 h15) (fun v21 h20 =>
                if v21 = 0 then
                  (jg_R 10 0 h20 a0).bind (fun v22 =>
                  j_b2 (f_X9_take F v22 33 h20) (fun v24 h23 =>
                  if v24 = 0 then
                    J127 (-1) h23
                  else
                    J127 12 h23))
                else
                  J127 11 h20))
              else
                J127 10 h15))))))
      else
        some (0, h5)))
    else
      (jg_R 10 0 h2 a0).bind (fun v25 =>
      j_b2 (f_X9_takeNumber F v25 2 h2) (fun v27 h26 =>
      (jg_R 10 10 h26 a0).bind (fun v28 =>
      (jb_I 100 h26 v28 a1 ((1000 : Int32) + v27)).bind (fun h29 =>
      if v27 < 0 then
        some (0, h29)
      else
        some (1, h29))))))))
def f_X2_readErrand (F : Nat) (a0 : Nat) (a1 : Nat) (a2 : Int32) (a3 : Int32) (a4 : Int32) (h : jH) : Option (Int32 × jH) :=
  j_gd 2 h a0 (
    (jg_R 2 1 h a0).bind (fun v1 =>
    j_b2 (f_X9_takeFrom F a1 97 a3 h) (fun v3 h2 =>
    (jb_I 100 h2 v1 a2 v3).bind (fun h4 =>
    (jg_R 2 1 h4 a0).bind (fun v5 =>
    (ja_I 100 h4 v5 a2).bind (fun v6 =>
    if (0 : Int32) ≤ v6 then
      (jg_R 2 2 h4 a0).bind (fun v7 =>
      j_b2 (f_X9_takeFrom F a1 48 10 h4) (fun v9 h8 =>
      (jb_I 100 h8 v7 a2 v9).bind (fun h10 =>
      (jg_R 2 2 h10 a0).bind (fun v11 =>
      (ja_I 100 h10 v11 a2).bind (fun v12 =>
      if (0 : Int32) ≤ v12 then
        (jg_R 2 3 h10 a0).bind (fun v13 =>
        j_b2 (f_X9_takeFrom F a1 48 a4 h10) (fun v15 h14 =>
        (jb_I 100 h14 v13 a2 v15).bind (fun h16 =>
        (jg_R 2 3 h16 a0).bind (fun v17 =>
        (ja_I 100 h16 v17 a2).bind (fun v18 =>
        if v18 < 0 then
          some (0, h16)
        else
          j_b2 (f_X9_take F a1 61 h16) (fun v20 h19 =>
          if v20 = 0 then
            some (0, h19)
          else
            (jg_R 2 4 h19 a0).bind (fun v21 =>
            j_b2 (f_X9_takeNumber F a1 2 h19) (fun v23 h22 =>
            (jb_I 100 h22 v21 a2 v23).bind (fun h24 =>
            (jg_R 2 4 h24 a0).bind (fun v25 =>
            (ja_I 100 h24 v25 a2).bind (fun v26 =>
            if v26 < 0 then
              some (0, h24)
            else
              some (1, h24))))))))))))
      else
        some (0, h10))))))
    else
      some (0, h4)))))))
def f_X3_letter (F : Nat) (a0 : Nat) (a1 : Int32) (a2 : Int32) (h : jH) : Option (Int32 × jH) :=
  j_gd 3 h a0 (
    (jg_R 3 4 h a0).bind (fun v1 =>
    (ja_I 100 h v1 ((a1 * (6 : Int32)) + a2)).bind (fun v2 =>
    some (v2, h))))
def f_X3_vowelOf (F : Nat) (a0 : Int32) (h : jH) : Option (Int32 × jH) :=
  if a0 = 97 then
    some (0, h)
  else if a0 = 101 then
    some (1, h)
  else if a0 = 105 then
    some (2, h)
  else if a0 = 111 then
    some (3, h)
  else if a0 = 117 then
    some (4, h)
  else 
    some ((-1), h)
def f_X3_countVowels_L9 (F : Nat) (x0 : Nat) (x1 : Int32) (k31 : jH → Option jH) : Nat → Int32 → jH → Option jH
  | 0, _, _ => none
  | n + 1, x2, h =>
    if (5 : Int32) ≤ x2 then
      k31 h
    else
      (jg_R 3 5 h x0).bind (fun v3 =>
      (jb_I 100 h v3 ((x1 * (5 : Int32)) + x2) 0).bind (fun h4 =>
      f_X3_countVowels_L9 F x0 x1 k31 n (x2 + 1) h4))
def f_X3_countVowels_L33 (F : Nat) (x0 : Nat) (x1 : Int32) : Nat → Int32 → jH → Option jH
  | 0, _, _ => none
  | n + 1, x2, h =>
    (jg_R 3 1 h x0).bind (fun v6 =>
    (ja_I 100 h v6 x1).bind (fun v7 =>
    if v7 ≤ x2 then
      some h
    else
      j_b2 (f_X3_letter F x0 x1 x2 h) (fun v9 h8 =>
      j_b2 (f_X3_vowelOf F v9 h8) (fun v11 h10 =>
      j_jn (fun (h12 : jH) =>
        f_X3_countVowels_L33 F x0 x1 n (x2 + 1) h12) (fun J81 =>
        if v11 < 0 then
          J81 h10
        else
          (jg_R 3 5 h10 x0).bind (fun v13 =>
          (ja_I 100 h10 v13 ((x1 * (5 : Int32)) + v11)).bind (fun v14 =>
          (jb_I 100 h10 v13 ((x1 * (5 : Int32)) + v11) (v14 + (1 : Int32))).bind (fun h15 =>
          (jg_R 3 6 h15 x0).bind (fun v16 =>
          (ja_I 100 h15 v16 x1).bind (fun v17 =>
          (jb_I 100 h15 v16 x1 (v17 + (1 : Int32))).bind (fun h18 =>
          J81 h18)))))))))))
def f_X3_countVowels (F : Nat) (a0 : Nat) (a1 : Int32) (h : jH) : Option jH :=
  j_gd 3 h a0 (
    (jg_R 3 6 h a0).bind (fun v1 =>
    (jb_I 100 h v1 a1 0).bind (fun h2 =>
    f_X3_countVowels_L9 F a0 a1 (fun (h5 : jH) =>
      f_X3_countVowels_L33 F a0 a1  F 0 h5) F 0 h2)))
def f_X3_readWord_L44 (F : Nat) (x0 : Nat) (x1 : Nat) (x2 : Int32) (k98 : Int32 → jH → Option (Int32 × jH)) : Nat → Int32 → Int32 → jH → Option (Int32 × jH)
  | 0, _, _, _ => none
  | n + 1, x3, x4, h =>
    if (6 : Int32) ≤ x4 then
      k98 x3 h
    else
      if x3 = x4 then
        j_b2 (f_X9_takeFrom F x1 97 26 h) (fun v12 h11 =>
        j_jn (fun (z13 : Int32) (h14 : jH) =>
          f_X3_readWord_L44 F x0 x1 x2 k98 n z13 (x4 + 1) h14) (fun J92 =>
          if v12 < 0 then
            J92 x3 h11
          else
            (jg_R 3 4 h11 x0).bind (fun v15 =>
            (jb_I 100 h11 v15 ((x2 * (6 : Int32)) + x4) ((97 : Int32) + v12)).bind (fun h16 =>
            J92 (x3 + 1) h16))))
      else
        k98 x3 h
def f_X3_readWord (F : Nat) (a0 : Nat) (a1 : Nat) (a2 : Int32) (h : jH) : Option (Int32 × jH) :=
  j_gd 3 h a0 (
    (jg_R 3 2 h a0).bind (fun v1 =>
    j_b2 (f_X9_takeFrom F a1 48 10 h) (fun v3 h2 =>
    (jb_I 100 h2 v1 a2 v3).bind (fun h4 =>
    (jg_R 3 2 h4 a0).bind (fun v5 =>
    (ja_I 100 h4 v5 a2).bind (fun v6 =>
    if (0 : Int32) ≤ v6 then
      (jg_R 3 3 h4 a0).bind (fun v7 =>
      j_b2 (f_X9_takeFrom F a1 48 10 h4) (fun v9 h8 =>
      (jb_I 100 h8 v7 a2 v9).bind (fun h10 =>
      f_X3_readWord_L44 F a0 a1 a2 (fun (y17 : Int32) (h18 : jH) =>
        (jg_R 3 1 h18 a0).bind (fun v19 =>
        (jb_I 100 h18 v19 a2 y17).bind (fun h20 =>
        (f_X3_countVowels F a0 a2 h20).bind (fun h21 =>
        if y17 ≤ 0 then
          some (0, h21)
        else
          some (1, h21))))) F 0 0 h10)))
    else
      some (0, h4)))))))
def f_X7_readTraveller (F : Nat) (a0 : Nat) (a1 : Nat) (a2 : Int32) (a3 : Int32) (h : jH) : Option (Int32 × jH) :=
  j_gd 7 h a0 (
    (jg_R 7 2 h a0).bind (fun v1 =>
    j_b2 (f_X9_takeFrom F a1 48 a3 h) (fun v3 h2 =>
    (jb_I 100 h2 v1 a2 v3).bind (fun h4 =>
    (jg_R 7 2 h4 a0).bind (fun v5 =>
    (ja_I 100 h4 v5 a2).bind (fun v6 =>
    if v6 < 0 then
      some (0, h4)
    else
      j_b2 (f_X9_take F a1 58 h4) (fun v8 h7 =>
      if v8 = 0 then
        some (0, h7)
      else
        (jg_R 7 3 h7 a0).bind (fun v9 =>
        j_b2 (f_X9_takeNumber F a1 3 h7) (fun v11 h10 =>
        (jb_I 100 h10 v9 a2 v11).bind (fun h12 =>
        (jg_R 7 4 h12 a0).bind (fun v13 =>
        (jb_I 100 h12 v13 a2 0).bind (fun h14 =>
        (jg_R 7 3 h14 a0).bind (fun v15 =>
        (ja_I 100 h14 v15 a2).bind (fun v16 =>
        if v16 < 0 then
          some (0, h14)
        else
          some (1, h14)))))))))))))))
def f_X10_readLine (F : Nat) (a0 : Nat) (a1 : Int32) (a2 : Int32) (h : jH) : Option (Int32 × jH) :=
  j_gd 10 h a0 (
    if a1 = 0 then
      (jg_R 10 2 h a0).bind (fun v1 =>
      (jg_R 10 0 h a0).bind (fun v2 =>
      j_b2 (f_X3_readWord F v1 v2 a2 h) (fun v4 h3 =>
      j_rz v4 h3)))
    else if a1 = 1 then
      (jg_R 10 4 h a0).bind (fun v5 =>
      (jg_R 10 0 h a0).bind (fun v6 =>
      (jg_I 10 17 h a0).bind (fun v7 =>
      j_b2 (f_X7_readTraveller F v5 v6 a2 v7 h) (fun v9 h8 =>
      j_rz v9 h8))))
    else if a1 = 2 then
      (jg_R 10 3 h a0).bind (fun v10 =>
      (jg_R 10 0 h a0).bind (fun v11 =>
      (jg_I 10 18 h a0).bind (fun v12 =>
      (jg_I 10 17 h a0).bind (fun v13 =>
      j_b2 (f_X2_readErrand F v10 v11 a2 v12 v13 h) (fun v15 h14 =>
      j_rz v15 h14)))))
    else 
      j_b2 (f_X10_readAct F a0 a2 h) (fun v17 h16 =>
      j_rz v17 h16))
def f_X9_fault (F : Nat) (a0 : Nat) (h : jH) : Option (Int32 × jH) :=
  j_gd 9 h a0 (
    (jg_I 9 2 h a0).bind (fun v1 =>
    some ((((-1) : Int32) - v1), h)))
def f_X9_isOver (F : Nat) (a0 : Nat) (h : jH) : Option (Int32 × jH) :=
  j_gd 9 h a0 (
    (jg_I 9 2 h a0).bind (fun v1 =>
    (jg_I 9 1 h a0).bind (fun v2 =>
    if v1 = v2 then
      some (1, h)
    else
      some (0, h))))
def f_X10_linesUpTo_L3 (F : Nat) (x0 : Nat) (x1 : Int32) (x2 : Int32) (x3 : Int32) (k25 : jH → Option (Int32 × jH)) (k45 : Int32 → jH → Option (Int32 × jH)) (k74 : jH → Option (Int32 × jH)) : Nat → Int32 → jH → Option (Int32 × jH)
  | 0, _, _ => none
  | n + 1, x4, h =>
    if x3 < (x2 + x4) then
      k74 h
    else
      j_b2 (f_X10_readLine F x0 x1 ((x2 + x4) - (1 : Int32)) h) (fun v2 h1 =>
      if v2 = 0 then
        k25 h1
      else
        (jg_R 10 0 h1 x0).bind (fun v3 =>
        j_b2 (f_X9_take F v3 59 h1) (fun v5 h4 =>
        if v5 = 0 then
          k45 x4 h4
        else
          f_X10_linesUpTo_L3 F x0 x1 x2 x3 k25 k45 k74 n (x4 + 1) h4)))
def f_X10_linesUpTo (F : Nat) (a0 : Nat) (a1 : Int32) (a2 : Int32) (a3 : Int32) (h : jH) : Option (Int32 × jH) :=
  j_gd 10 h a0 (
    f_X10_linesUpTo_L3 F a0 a1 a2 a3 (fun (h6 : jH) =>
      (jg_R 10 0 h6 a0).bind (fun v7 =>
      j_b2 (f_X9_fault F v7 h6) (fun v9 h8 =>
      some (v9, h8)))) (fun (y10 : Int32) (h11 : jH) =>
      (jg_R 10 0 h11 a0).bind (fun v12 =>
      j_b2 (f_X9_isOver F v12 h11) (fun v14 h13 =>
      if v14 = 0 then
        (jg_R 10 0 h13 a0).bind (fun v15 =>
        j_b2 (f_X9_fault F v15 h13) (fun v17 h16 =>
        some (v17, h16)))
      else
        some (y10, h13)))) (fun (h18 : jH) =>
      (jg_R 10 0 h18 a0).bind (fun v19 =>
      j_b2 (f_X9_fault F v19 h18) (fun v21 h20 =>
      some (v21, h20)))) F 1 h)
def f_X9_open (F : Nat) (a0 : Nat) (a1 : Int32) (h : jH) : Option jH :=
  j_gd 9 h a0 (
    (jp_I 9 2 h a0 0).bind (fun h1 =>
    (jg_I 9 1 h1 a0).bind (fun v2 =>
    (jp_I 9 3 h1 a0 (j_min v2 (j_min a1 80))).bind (fun h3 =>
    some h3))))
def f_X10_readLines (F : Nat) (a0 : Nat) (a1 : Int32) (a2 : Int32) (a3 : Int32) (a4 : Int32) (h : jH) : Option (Int32 × jH) :=
  j_gd 10 h a0 (
    (jg_R 10 0 h a0).bind (fun v1 =>
    (f_X9_open F v1 a2 h).bind (fun h2 =>
    (jg_R 10 0 h2 a0).bind (fun v3 =>
    (jg_I 9 1 h2 v3).bind (fun v4 =>
    j_jn (fun (s5 : Int32) (h6 : jH) =>
      (jg_R 10 0 h6 a0).bind (fun v7 =>
      (jp_I 9 1 h6 v7 0).bind (fun h8 =>
      some (s5, h8)))) (fun J30 =>
      if v4 = 0 then
        J30 0 h2
      else
        j_b2 (f_X10_linesUpTo F a0 a1 a3 a4 h2) (fun v10 h9 =>
        J30 v10 h9)))))))
def f_X10_words (F : Nat) (a0 : Nat) (h : jH) : Option (Int32 × jH) :=
  j_gd 10 h a0 (
    (jg_R 10 2 h a0).bind (fun v1 =>
    (jg_I 3 0 h v1).bind (fun v2 =>
    j_b2 (f_X10_readLines F a0 0 76 v2 10 h) (fun v4 h3 =>
    if v4 ≤ 0 then
      some (v4, h3)
    else
      (jg_R 10 2 h3 a0).bind (fun v5 =>
      (jg_I 3 0 h3 v5).bind (fun v6 =>
      (jp_I 3 0 h3 v5 (v6 + v4)).bind (fun h7 =>
      (f_X10_forget F a0 h7).bind (fun h8 =>
      some (v4, h8)))))))))
def f_X10_travellers (F : Nat) (a0 : Nat) (h : jH) : Option (Int32 × jH) :=
  j_gd 10 h a0 (
    (jg_I 10 18 h a0).bind (fun v1 =>
    j_b2 (f_X10_readLines F a0 1 40 v1 4 h) (fun v3 h2 =>
    if v3 ≤ 0 then
      some (v3, h2)
    else
      (jg_I 10 18 h2 a0).bind (fun v4 =>
      (jp_I 10 18 h2 a0 (v4 + v3)).bind (fun h5 =>
      (f_X10_forget F a0 h5).bind (fun h6 =>
      some (v3, h6)))))))
def f_X10_errands (F : Nat) (a0 : Nat) (h : jH) : Option (Int32 × jH) :=
  j_gd 10 h a0 (
    (jg_R 10 3 h a0).bind (fun v1 =>
    (jg_I 2 0 h v1).bind (fun v2 =>
    j_b2 (f_X10_readLines F a0 2 76 v2 8 h) (fun v4 h3 =>
    if v4 ≤ 0 then
      some (v4, h3)
    else
      (jg_R 10 3 h3 a0).bind (fun v5 =>
      (jg_I 2 0 h3 v5).bind (fun v6 =>
      (jp_I 2 0 h3 v5 (v6 + v4)).bind (fun h7 =>
      (f_X10_forget F a0 h7).bind (fun h8 =>
      some (v4, h8)))))))))
def f_X8_put (F : Nat) (a0 : Nat) (a1 : Int32) (h : jH) : Option (Int32 × jH) :=
  j_gd 8 h a0 (
    (jg_I 8 4 h a0).bind (fun v1 =>
    if v1 < 40 then
      (jg_R 8 1 h a0).bind (fun v2 =>
      (jg_I 8 4 h a0).bind (fun v3 =>
      (jb_I 100 h v2 v3 a1).bind (fun h4 =>
      (jg_I 8 4 h4 a0).bind (fun v5 =>
      (jp_I 8 4 h4 a0 (v5 + (1 : Int32))).bind (fun h6 =>
      some (1, h6))))))
    else
      some (0, h)))
def f_X8_takeEither (F : Nat) (a0 : Nat) (a1 : Int32) (a2 : Int32) (h : jH) : Option (Int32 × jH) :=
  j_b2 (f_X9_take F a0 a1 h) (fun v2 h1 =>
  if v2 = 0 then
    j_b2 (f_X9_take F a0 a2 h1) (fun v4 h3 =>
    if v4 = 0 then
      some ((-1), h3)
    else
      some (a2, h3))
  else
    some (a1, h1))
def f_X8_factOf (F : Nat) (a0 : Int32) (h : jH) : Option (Int32 × jH) :=
  if a0 = 100 then
    some (6, h)
  else if a0 = 104 then
    some (2, h)
  else if a0 = 108 then
    some (3, h)
  else if a0 = 110 then
    some (5, h)
  else if a0 = 112 then
    some (4, h)
  else if a0 = 115 then
    some (1, h)
  else if a0 = 118 then
    some (0, h)
  else 
    some ((-1), h)
def b_X8_readComparison (F : Nat) (rec : Nat → Nat → Nat → Int32 → jH → Option (Int32 × jH)) (a0 : Nat) (a1 : Nat) (a2 : Int32) (h : jH) : Option (Int32 × jH) :=
  j_gd 8 h a0 (
    j_b2 (rec 1 a0 a1 a2 h) (fun v2 h1 =>
    if v2 = 0 then
      some (0, h1)
    else
      j_b2 (f_X8_takeEither F a1 60 62 h1) (fun v4 h3 =>
      j_jn (fun (z5 : Int32) (h6 : jH) =>
        j_jn (fun (h7 : jH) =>
          some (1, h7)) (fun J60 =>
          if z5 = (-1) then
            J60 h6
          else
            j_b2 (rec 1 a0 a1 a2 h6) (fun v9 h8 =>
            if v9 = 0 then
              some (0, h8)
            else
              j_b2 (f_X8_put F a0 ((2000 : Int32) + z5) h8) (fun v11 h10 =>
              if v11 = 0 then
                some (0, h10)
              else
                J60 h10)))) (fun J34 =>
        if v4 = (-1) then
          j_b2 (f_X8_takeEither F a1 61 61 h3) (fun v13 h12 =>
          J34 v13 h12)
        else
          J34 v4 h3))))
def f_X8_readSum_L13 (F : Nat) (rec : Nat → Nat → Nat → Int32 → jH → Option (Int32 × jH)) (x0 : Nat) (x1 : Nat) (x2 : Int32) : Nat → Int32 → Int32 → Int32 → jH → Option (Int32 × jH)
  | 0, _, _, _, _ => none
  | n + 1, x3, x4, x5, h =>
    if (40 : Int32) ≤ x5 then
      j_rz x3 h
    else
      if x3 = 0 then
        j_rz x3 h
      else
        if x4 = (-1) then
          j_rz x3 h
        else
          j_b2 (f_X8_takeEither F x1 43 45 h) (fun v4 h3 =>
          j_jn (fun (s5 : Int32) (h6 : jH) =>
            f_X8_readSum_L13 F rec x0 x1 x2 n s5 v4 (x5 + 1) h6) (fun J73 =>
            j_jn (fun (h7 : jH) =>
              J73 1 h7) (fun J68 =>
              if v4 = (-1) then
                J68 h3
              else
                j_b2 (rec 2 x0 x1 x2 h3) (fun v9 h8 =>
                j_jn (fun (h10 : jH) =>
                  J73 0 h10) (fun J72 =>
                  if v9 = 0 then
                    J72 h8
                  else
                    j_b2 (f_X8_put F x0 ((2000 : Int32) + v4) h8) (fun v12 h11 =>
                    if v12 = 0 then
                      J72 h11
                    else
                      J68 h11))))))
def b_X8_readSum (F : Nat) (rec : Nat → Nat → Nat → Int32 → jH → Option (Int32 × jH)) (a0 : Nat) (a1 : Nat) (a2 : Int32) (h : jH) : Option (Int32 × jH) :=
  j_gd 8 h a0 (
    j_b2 (rec 2 a0 a1 a2 h) (fun v2 h1 =>
    f_X8_readSum_L13 F rec a0 a1 a2  F v2 0 0 h1))
def f_X8_readProduct_L13 (F : Nat) (rec : Nat → Nat → Nat → Int32 → jH → Option (Int32 × jH)) (x0 : Nat) (x1 : Nat) (x2 : Int32) : Nat → Int32 → Int32 → Int32 → jH → Option (Int32 × jH)
  | 0, _, _, _, _ => none
  | n + 1, x3, x4, x5, h =>
    if (40 : Int32) ≤ x5 then
      j_rz x3 h
    else
      if x3 = 0 then
        j_rz x3 h
      else
        if x4 = (-1) then
          j_rz x3 h
        else
          j_b2 (f_X8_takeEither F x1 42 47 h) (fun v4 h3 =>
          j_jn (fun (s5 : Int32) (h6 : jH) =>
            f_X8_readProduct_L13 F rec x0 x1 x2 n s5 v4 (x5 + 1) h6) (fun J73 =>
            j_jn (fun (h7 : jH) =>
              J73 1 h7) (fun J68 =>
              if v4 = (-1) then
                J68 h3
              else
                j_b2 (rec 3 x0 x1 x2 h3) (fun v9 h8 =>
                j_jn (fun (h10 : jH) =>
                  J73 0 h10) (fun J72 =>
                  if v9 = 0 then
                    J72 h8
                  else
                    j_b2 (f_X8_put F x0 ((2000 : Int32) + v4) h8) (fun v12 h11 =>
                    if v12 = 0 then
                      J72 h11
                    else
                      J68 h11))))))
def b_X8_readProduct (F : Nat) (rec : Nat → Nat → Nat → Int32 → jH → Option (Int32 × jH)) (a0 : Nat) (a1 : Nat) (a2 : Int32) (h : jH) : Option (Int32 × jH) :=
  j_gd 8 h a0 (
    j_b2 (rec 3 a0 a1 a2 h) (fun v2 h1 =>
    f_X8_readProduct_L13 F rec a0 a1 a2  F v2 0 0 h1))
def f_X8_readFactor_L2 (F : Nat) (rec : Nat → Nat → Nat → Int32 → jH → Option (Int32 × jH)) (x0 : Nat) (x1 : Nat) (x2 : Int32) (k23 : Int32 → jH → Option (Int32 × jH)) : Nat → Int32 → jH → Option (Int32 × jH)
  | 0, _, _ => none
  | n + 1, x3, h =>
    if (40 : Int32) ≤ x3 then
      k23 x3 h
    else
      j_b2 (f_X9_take F x1 45 h) (fun v2 h1 =>
      if v2 = 0 then
        k23 x3 h1
      else
        f_X8_readFactor_L2 F rec x0 x1 x2 k23 n (x3 + 1) h1)
def b_X8_readFactor (F : Nat) (rec : Nat → Nat → Nat → Int32 → jH → Option (Int32 × jH)) (a0 : Nat) (a1 : Nat) (a2 : Int32) (h : jH) : Option (Int32 × jH) :=
  j_gd 8 h a0 (
    f_X8_readFactor_L2 F rec a0 a1 a2 (fun (y3 : Int32) (h4 : jH) =>
      j_b2 (rec 4 a0 a1 a2 h4) (fun v6 h5 =>
      if v6 = 0 then
        some (0, h5)
      else
        (j_rem y3 2).bind (fun v7 =>
        j_jn (fun (h8 : jH) =>
          some (1, h8)) (fun J48 =>
          if v7 = 0 then
            J48 h5
          else
            j_b2 (f_X8_put F a0 2000 h5) (fun v10 h9 =>
            if v10 = 0 then
              some (0, h9)
            else
              J48 h9))))) F 0 h)
def b_X8_readThing (F : Nat) (rec : Nat → Nat → Nat → Int32 → jH → Option (Int32 × jH)) (a0 : Nat) (a1 : Nat) (a2 : Int32) (h : jH) : Option (Int32 × jH) :=
  j_gd 8 h a0 (
    j_jn (fun (h1 : jH) =>
      j_b2 (f_X9_takeNumber F a1 3 h1) (fun v3 h2 =>
      if v3 < 0 then
        j_b2 (f_X9_peek F a1 h2) (fun v5 h4 =>
        j_b2 (f_X8_factOf F v5 h4) (fun v7 h6 =>
        if v7 < 0 then
          some (0, h6)
        else
          j_b2 (f_X9_peek F a1 h6) (fun v9 h8 =>
          j_b2 (f_X9_take F a1 v9 h8) (fun v11 h10 =>
          if v11 = 0 then
            some (0, h10)
          else
            j_b2 (f_X8_put F a0 ((1000 : Int32) + v7) h10) (fun v13 h12 =>
            if v13 = 0 then
              some (0, h12)
            else
              some (1, h12))))))
      else
        j_b2 (f_X8_put F a0 v3 h2) (fun v15 h14 =>
        j_rz v15 h14))) (fun J40 =>
      if (4 : Int32) ≤ a2 then
        J40 h
      else
        j_b2 (f_X9_take F a1 40 h) (fun v17 h16 =>
        if v17 = 0 then
          J40 h16
        else
          j_b2 (rec 0 a0 a1 (a2 + (1 : Int32)) h16) (fun v19 h18 =>
          if v19 = 0 then
            some (0, h18)
          else
            j_b2 (f_X9_take F a1 41 h18) (fun v21 h20 =>
            if v21 = 0 then
              some (0, h20)
            else
              some (1, h20))))))
def f_gR (F : Nat) : Nat → Nat → Nat → Nat → Int32 → jH → Option (Int32 × jH)
  | 0, _, _, _, _, _ => none
  | n + 1, m, a0, a1, a2, h => match m with
    | 0 => b_X8_readComparison F (f_gR F n) a0 a1 a2 h
    | 1 => b_X8_readSum F (f_gR F n) a0 a1 a2 h
    | 2 => b_X8_readProduct F (f_gR F n) a0 a1 a2 h
    | 3 => b_X8_readFactor F (f_gR F n) a0 a1 a2 h
    | _ => b_X8_readThing F (f_gR F n) a0 a1 a2 h
def f_X8_readComparison (F : Nat) (a0 : Nat) (a1 : Nat) (a2 : Int32) (h : jH) : Option (Int32 × jH) := f_gR F 400 0 a0 a1 a2 h
def f_X8_readSum (F : Nat) (a0 : Nat) (a1 : Nat) (a2 : Int32) (h : jH) : Option (Int32 × jH) := f_gR F 400 1 a0 a1 a2 h
def f_X8_readProduct (F : Nat) (a0 : Nat) (a1 : Nat) (a2 : Int32) (h : jH) : Option (Int32 × jH) := f_gR F 400 2 a0 a1 a2 h
def f_X8_readFactor (F : Nat) (a0 : Nat) (a1 : Nat) (a2 : Int32) (h : jH) : Option (Int32 × jH) := f_gR F 400 3 a0 a1 a2 h
def f_X8_readThing (F : Nat) (a0 : Nat) (a1 : Nat) (a2 : Int32) (h : jH) : Option (Int32 × jH) := f_gR F 400 4 a0 a1 a2 h
def f_X8_read (F : Nat) (a0 : Nat) (a1 : Nat) (h : jH) : Option (Int32 × jH) :=
  j_gd 8 h a0 (
    j_b2 (f_X9_isOver F a1 h) (fun v2 h1 =>
    if v2 = 0 then
      (jp_I 8 4 h1 a0 0).bind (fun h3 =>
      j_b2 (f_X8_readComparison F a0 a1 0 h3) (fun v5 h4 =>
      if v5 = 0 then
        some (0, h4)
      else
        j_b2 (f_X9_isOver F a1 h4) (fun v7 h6 =>
        if v7 = 0 then
          some (0, h6)
        else
          some (1, h6))))
    else
      (f_X8_becomeNone F a0 h1).bind (fun h8 =>
      some (1, h8))))
def f_X10_readSpareTariff (F : Nat) (a0 : Nat) (h : jH) : Option (Int32 × jH) :=
  j_gd 10 h a0 (
    (jg_R 10 0 h a0).bind (fun v1 =>
    (f_X9_open F v1 40 h).bind (fun h2 =>
    (jg_R 10 16 h2 a0).bind (fun v3 =>
    (jg_R 10 0 h2 a0).bind (fun v4 =>
    j_b2 (f_X8_read F v3 v4 h2) (fun v6 h5 =>
    j_jn (fun (s7 : Int32) (h8 : jH) =>
      (jg_R 10 0 h8 a0).bind (fun v9 =>
      (jp_I 9 1 h8 v9 0).bind (fun h10 =>
      some (s7, h10)))) (fun J34 =>
      if v6 = 0 then
        (jg_R 10 0 h5 a0).bind (fun v11 =>
        j_b2 (f_X9_fault F v11 h5) (fun v13 h12 =>
        J34 v13 h12))
      else
        J34 0 h5)))))))
def f_X10_rule (F : Nat) (a0 : Nat) (h : jH) : Option (Int32 × jH) :=
  j_gd 10 h a0 (
    j_b2 (f_X10_readSpareTariff F a0 h) (fun v2 h1 =>
    if v2 = 0 then
      (jg_R 10 15 h1 a0).bind (fun v3 =>
      (jg_R 10 16 h1 a0).bind (fun v4 =>
      (jp_R 10 15 h1 a0 v4).bind (fun h5 =>
      (jp_R 10 16 h5 a0 v3).bind (fun h6 =>
      some (v2, h6)))))
    else
      some (v2, h1)))
def f_X10_isWord (F : Nat) (a0 : Nat) (a1 : Int32) (h : jH) : Option (Int32 × jH) :=
  j_gd 10 h a0 (
    if a1 < 0 then
      some (0, h)
    else
      (jg_R 10 2 h a0).bind (fun v1 =>
      (jg_I 3 0 h v1).bind (fun v2 =>
      if v2 ≤ a1 then
        some (0, h)
      else
        some (1, h))))
def f_X3_heardIn (F : Nat) (a0 : Nat) (a1 : Int32) (a2 : Int32) (h : jH) : Option (Int32 × jH) :=
  j_gd 3 h a0 (
    (jg_R 3 5 h a0).bind (fun v1 =>
    (ja_I 100 h v1 ((a1 * (5 : Int32)) + a2)).bind (fun v2 =>
    some (v2, h))))
def f_X3_vowelsOf (F : Nat) (a0 : Nat) (a1 : Int32) (h : jH) : Option (Int32 × jH) :=
  j_gd 3 h a0 (
    (jg_R 3 6 h a0).bind (fun v1 =>
    (ja_I 100 h v1 a1).bind (fun v2 =>
    some (v2, h))))
def f_X10_word (F : Nat) (a0 : Nat) (a1 : Int32) (a2 : Int32) (h : jH) : Option (Option Int32 × jH) :=
  j_gd 10 h a0 (
    j_b2 (f_X10_isWord F a0 a1 h) (fun v2 h1 =>
    if v2 = 0 then
      some (none, js_N h1 (999, 0) 6)
    else
      if a2 = 0 then
        (jg_R 10 2 h1 a0).bind (fun v3 =>
        (jg_R 3 1 h1 v3).bind (fun v4 =>
        (ja_I 100 h1 v4 a1).bind (fun v5 =>
        some (some v5, h1))))
      else if a2 = 1 then
        (jg_R 10 2 h1 a0).bind (fun v6 =>
        j_b2 (f_X3_vowelsOf F v6 a1 h1) (fun v8 h7 =>
        some (some v8, h7)))
      else if a2 = 2 then
        (jg_R 10 2 h1 a0).bind (fun v9 =>
        (jg_R 3 2 h1 v9).bind (fun v10 =>
        (ja_I 100 h1 v10 a1).bind (fun v11 =>
        some (some v11, h1))))
      else if a2 = 3 then
        (jg_R 10 2 h1 a0).bind (fun v12 =>
        (jg_R 3 3 h1 v12).bind (fun v13 =>
        (ja_I 100 h1 v13 a1).bind (fun v14 =>
        some (some v14, h1))))
      else if a2 = 4 then
        (jg_R 10 2 h1 a0).bind (fun v15 =>
        j_b2 (f_X3_heardIn F v15 a1 (a2 - (4 : Int32)) h1) (fun v17 h16 =>
        some (some v17, h16)))
      else if a2 = 5 then
        (jg_R 10 2 h1 a0).bind (fun v18 =>
        j_b2 (f_X3_heardIn F v18 a1 (a2 - (4 : Int32)) h1) (fun v20 h19 =>
        some (some v20, h19)))
      else if a2 = 6 then
        (jg_R 10 2 h1 a0).bind (fun v21 =>
        j_b2 (f_X3_heardIn F v21 a1 (a2 - (4 : Int32)) h1) (fun v23 h22 =>
        some (some v23, h22)))
      else if a2 = 7 then
        (jg_R 10 2 h1 a0).bind (fun v24 =>
        j_b2 (f_X3_heardIn F v24 a1 (a2 - (4 : Int32)) h1) (fun v26 h25 =>
        some (some v26, h25)))
      else if a2 = 8 then
        (jg_R 10 2 h1 a0).bind (fun v27 =>
        j_b2 (f_X3_heardIn F v27 a1 (a2 - (4 : Int32)) h1) (fun v29 h28 =>
        some (some v29, h28)))
      else 
        some (none, js_N h1 (999, 0) 6)))
def f_X10_isTraveller (F : Nat) (a0 : Nat) (a1 : Int32) (h : jH) : Option (Int32 × jH) :=
  j_gd 10 h a0 (
    if a1 < 0 then
      some (0, h)
    else
      (jg_I 10 18 h a0).bind (fun v1 =>
      if v1 ≤ a1 then
        some (0, h)
      else
        some (1, h)))
def f_X2_of_L4 (F : Nat) (x0 : Nat) (x1 : Int32) : Nat → Int32 → Int32 → jH → Option (Int32 × jH)
  | 0, _, _, _ => none
  | n + 1, x2, x3, h =>
    (jg_I 2 0 h x0).bind (fun v1 =>
    if v1 ≤ x3 then
      some (x2, h)
    else
      (jg_R 2 1 h x0).bind (fun v2 =>
      (ja_I 100 h v2 x3).bind (fun v3 =>
      j_jn (fun (z4 : Int32) (h5 : jH) =>
        f_X2_of_L4 F x0 x1 n z4 (x3 + 1) h5) (fun J28 =>
        if v3 = x1 then
          J28 (x2 ||| ((1 : Int32) <<< (x3 &&& 31))) h
        else
          J28 x2 h))))
def f_X2_of (F : Nat) (a0 : Nat) (a1 : Int32) (h : jH) : Option (Int32 × jH) :=
  j_gd 2 h a0 (
    f_X2_of_L4 F a0 a1  F 0 0 h)
def f_X2_sumOf_L5 (F : Nat) (x0 : Nat) (x1 : Nat) (x2 : Int32) : Nat → Int32 → Int32 → jH → Option (Int32 × jH)
  | 0, _, _, _ => none
  | n + 1, x3, x4, h =>
    (jg_I 2 0 h x0).bind (fun v1 =>
    if v1 ≤ x4 then
      some (x3, h)
    else
      (ja_I 100 h x1 x4).bind (fun v2 =>
      f_X2_sumOf_L5 F x0 x1 x2 n (x3 + (((x2 >>> (x4 &&& 31)) &&& (1 : Int32)) * v2)) (x4 + 1) h))
def f_X2_sumOf (F : Nat) (a0 : Nat) (a1 : Nat) (a2 : Int32) (h : jH) : Option (Int32 × jH) :=
  j_gd 2 h a0 (
    f_X2_sumOf_L5 F a0 a1 a2  F 0 0 h)
def f_X10_traveller (F : Nat) (a0 : Nat) (a1 : Int32) (a2 : Int32) (h : jH) : Option (Option Int32 × jH) :=
  j_gd 10 h a0 (
    j_b2 (f_X10_isTraveller F a0 a1 h) (fun v2 h1 =>
    if v2 = 0 then
      some (none, js_N h1 (999, 0) 6)
    else
      if a2 = 0 then
        (jg_R 10 4 h1 a0).bind (fun v3 =>
        (jg_R 7 2 h1 v3).bind (fun v4 =>
        (ja_I 100 h1 v4 a1).bind (fun v5 =>
        some (some v5, h1))))
      else if a2 = 1 then
        (jg_R 10 4 h1 a0).bind (fun v6 =>
        (jg_R 7 3 h1 v6).bind (fun v7 =>
        (ja_I 100 h1 v7 a1).bind (fun v8 =>
        some (some v8, h1))))
      else if a2 = 2 then
        (jg_R 10 4 h1 a0).bind (fun v9 =>
        (jg_R 7 4 h1 v9).bind (fun v10 =>
        (ja_I 100 h1 v10 a1).bind (fun v11 =>
        some (some v11, h1))))
      else if a2 = 3 then
        (jg_R 10 3 h1 a0).bind (fun v12 =>
        j_b2 (f_X2_of F v12 a1 h1) (fun v14 h13 =>
        (jg_R 10 4 h13 a0).bind (fun v15 =>
        (jg_I 7 1 h13 v15).bind (fun v16 =>
        some (some (v14 &&& (v16 ^^^ ((-1) : Int32))), h13)))))
      else if a2 = 4 then
        (jg_R 10 3 h1 a0).bind (fun v17 =>
        (jg_R 10 3 h1 a0).bind (fun v18 =>
        (jg_R 2 4 h1 v18).bind (fun v19 =>
        (jg_R 10 3 h1 a0).bind (fun v20 =>
        j_b2 (f_X2_of F v20 a1 h1) (fun v22 h21 =>
        (jg_R 10 4 h21 a0).bind (fun v23 =>
        (jg_I 7 1 h21 v23).bind (fun v24 =>
        j_b2 (f_X2_sumOf F v17 v19 (v22 &&& v24) h21) (fun v26 h25 =>
        some (some v26, h25)))))))))
      else 
        some (none, js_N h1 (999, 0) 6)))
def f_X10_errand (F : Nat) (a0 : Nat) (a1 : Int32) (a2 : Int32) (h : jH) : Option (Option Int32 × jH) :=
  j_gd 10 h a0 (
    j_jn (fun (h1 : jH) =>
      some (none, js_N h1 (999, 0) 6)) (fun J15 =>
      if a1 < 0 then
        J15 h
      else
        (jg_R 10 3 h a0).bind (fun v2 =>
        (jg_I 2 0 h v2).bind (fun v3 =>
        if a1 < v3 then
          if a2 = 0 then
            (jg_R 10 3 h a0).bind (fun v4 =>
            (jg_R 2 1 h v4).bind (fun v5 =>
            (ja_I 100 h v5 a1).bind (fun v6 =>
            some (some v6, h))))
          else if a2 = 1 then
            (jg_R 10 3 h a0).bind (fun v7 =>
            (jg_R 2 2 h v7).bind (fun v8 =>
            (ja_I 100 h v8 a1).bind (fun v9 =>
            some (some v9, h))))
          else if a2 = 2 then
            (jg_R 10 3 h a0).bind (fun v10 =>
            (jg_R 2 3 h v10).bind (fun v11 =>
            (ja_I 100 h v11 a1).bind (fun v12 =>
            some (some v12, h))))
          else if a2 = 3 then
            (jg_R 10 3 h a0).bind (fun v13 =>
            (jg_R 2 4 h v13).bind (fun v14 =>
            (ja_I 100 h v14 a1).bind (fun v15 =>
            some (some v15, h))))
          else if a2 = 4 then
            (jg_R 10 4 h a0).bind (fun v16 =>
            (jg_I 7 1 h v16).bind (fun v17 =>
            some (some ((v17 >>> (a1 &&& 31)) &&& (1 : Int32)), h)))
          else 
            some (none, js_N h (999, 0) 6)
        else
          J15 h))))
def f_X10_isStation (F : Nat) (a0 : Nat) (a1 : Int32) (h : jH) : Option (Int32 × jH) :=
  j_gd 10 h a0 (
    if a1 < 0 then
      some (0, h)
    else
      (jg_I 10 17 h a0).bind (fun v1 =>
      if v1 ≤ a1 then
        some (0, h)
      else
        some (1, h)))
def f_X10_book (F : Nat) (a0 : Nat) (a1 : Int32) (a2 : Int32) (h : jH) : Option (Option Int32 × jH) :=
  j_gd 10 h a0 (
    j_b2 (f_X10_isStation F a0 a1 h) (fun v2 h1 =>
    j_jn (fun (h3 : jH) =>
      some (none, js_N h3 (999, 0) 6)) (fun J17 =>
      if v2 = 0 then
        J17 h1
      else
        if a2 < 0 then
          J17 h1
        else
          if a2 < 5 then
            (jg_R 10 4 h1 a0).bind (fun v4 =>
            (jg_R 7 5 h1 v4).bind (fun v5 =>
            (ja_I 100 h1 v5 ((a1 * (5 : Int32)) + a2)).bind (fun v6 =>
            some (some v6, h1))))
          else
            J17 h1)))
def f_X10_between (F : Nat) (a0 : Int32) (a1 : Int32) (h : jH) : Option (Int32 × jH) :=
  if (0 : Int32) ≤ a0 then
    some ((j_min a0 a1), h)
  else
    some (0, h)
def f_X10_entry (F : Nat) (a0 : Int32) (a1 : Int32) (h : jH) : Option (Int32 × jH) :=
  if a0 = 0 then
    some ((a1.toInt8.toInt32), h)
  else
    if a0 = 1 then
      some ((a1.toInt16.toInt32), h)
    else
      some (a1, h)
def f_X10_pursesInAll_L4 (F : Nat) (x0 : Nat) : Nat → Int32 → Int32 → jH → Option (Int32 × jH)
  | 0, _, _, _ => none
  | n + 1, x1, x2, h =>
    (jg_I 10 18 h x0).bind (fun v1 =>
    if v1 ≤ x2 then
      some (x1, h)
    else
      (jg_R 10 4 h x0).bind (fun v2 =>
      (jg_R 7 3 h v2).bind (fun v3 =>
      (ja_I 100 h v3 x2).bind (fun v4 =>
      f_X10_pursesInAll_L4 F x0 n (x1 + v4) (x2 + 1) h))))
def f_X10_pursesInAll (F : Nat) (a0 : Nat) (h : jH) : Option (Int32 × jH) :=
  j_gd 10 h a0 (
    f_X10_pursesInAll_L4 F a0  F 0 0 h)
def f_X10_sheet_L43 (F : Nat) (x0 : Nat) (x1 : Int32) (x2 : Int32) (x3 : Int32) (x4 : Int32) (x5 : Int32) (k100 : jH → Option (Int32 × jH)) : Nat → Int32 → jH → Option (Int32 × jH)
  | 0, _, _ => none
  | n + 1, x6, h =>
    (jg_I 10 18 h x0).bind (fun v4 =>
    if v4 ≤ x6 then
      k100 h
    else
      (jg_R 10 4 h x0).bind (fun v5 =>
      (jg_R 7 3 h v5).bind (fun v6 =>
      j_jn (fun (s7 : Int32) (s8 : Int32) (s9 : Nat) (h10 : jH) =>
        (jb_I 100 h10 s9 s8 s7).bind (fun h11 =>
        f_X10_sheet_L43 F x0 x1 x2 x3 x4 x5 k100 n (x6 + 1) h11)) (fun J93 =>
        j_jn (fun (s12 : Int32) (s13 : Nat) (h14 : jH) =>
          J93 0 s12 s13 h14) (fun J72 =>
          if x5 = 0 then
            if x6 < x2 then
              j_b2 (f_X10_entry F x1 (x3 + (x6 * x4)) h) (fun v16 h15 =>
              j_b2 (f_X10_between F v16 9999 h15) (fun v18 h17 =>
              J93 v18 x6 v6 h17))
            else
              J72 x6 v6 h
          else
            J72 x6 v6 h)))))
def f_X10_sheet (F : Nat) (a0 : Nat) (a1 : Int32) (a2 : Int32) (a3 : Int32) (a4 : Int32) (h : jH) : Option (Int32 × jH) :=
  j_gd 10 h a0 (
    if a1 < 0 then
      some ((-1), h)
    else
      if (3 : Int32) < a1 then
        some ((-1), h)
      else
        if a2 ≤ 4 then
          j_jn (fun (s1 : Int32) (h2 : jH) =>
            j_jn (fun (h3 : jH) =>
              f_X10_sheet_L43 F a0 a1 a2 a3 a4 s1 (fun (h19 : jH) =>
                if s1 = 0 then
                  j_b2 (f_X10_pursesInAll F a0 h19) (fun v21 h20 =>
                  some (v21, h20))
                else
                  some ((-3), h19)) F 0 h3) (fun J40 =>
              if s1 = 0 then
                if (0 : Int32) ≤ a2 then
                  J40 h2
                else
                  some ((-2), h2)
              else
                J40 h2)) (fun J26 =>
            if a1 = 3 then
              J26 1 h
            else
              J26 0 h)
        else
          some ((-1), h))
def f_X6_add (F : Nat) (a0 : Nat) (a1 : Int64) (h : jH) : Option jH :=
  j_gd 6 h a0 (
    (jg_I 6 1 h a0).bind (fun v1 =>
    if v1 < 0 then
      some h
    else
      (jg_I 6 1 h a0).bind (fun v2 =>
      if (12 : Int32) ≤ v2 then
        some h
      else
        (jg_R 6 0 h a0).bind (fun v3 =>
        (jg_I 6 1 h a0).bind (fun v4 =>
        (jb_L h v3 v4 a1).bind (fun h5 =>
        (jg_I 6 1 h5 a0).bind (fun v6 =>
        (jp_I 6 1 h5 a0 (v6 + (1 : Int32))).bind (fun h7 =>
        some h7))))))))
def f_X6_clear (F : Nat) (a0 : Nat) (h : jH) : Option jH :=
  j_gd 6 h a0 (
    (jp_I 6 1 h a0 0).bind (fun h1 =>
    some h1))
def f_J7_fill_53178_L5 (F : Nat) (x0 : Nat) (x1 : Int32) (x3 : Int32) : Nat → Int32 → jH → Option jH
  | 0, _, _ => none
  | n + 1, x2, h =>
    if x3 ≤ x2 then
      some h
    else
      (jb_I 100 h x0 x2 x1).bind (fun h2 =>
      f_J7_fill_53178_L5 F x0 x1 x3 n (x2 + 1) h2)
def f_J7_fill_53178 (F : Nat) (a0 : Nat) (a1 : Int32) (h : jH) : Option jH :=
  (jn_len 100 h a0).bind (fun v1 =>
  f_J7_fill_53178_L5 F a0 a1 v1  F 0 h)
def f_X8_joined (F : Nat) (a0 : Int32) (a1 : Int32) (a2 : Int32) (h : jH) : Option (Int32 × jH) :=
  if a0 = 42 then
    some ((a1 * a2), h)
  else if a0 = 43 then
    some ((a1 + a2), h)
  else if a0 = 45 then
    some ((a1 - a2), h)
  else if a0 = 47 then
    if a2 = 0 then
      some (0, h)
    else
      (j_div a1 a2).bind (fun v1 =>
      some (v1, h))
  else if a0 = 60 then
    if a2 ≤ a1 then
      some (0, h)
    else
      some (1, h)
  else if a0 = 62 then
    if a1 ≤ a2 then
      some (0, h)
    else
      some (1, h)
  else 
    if a1 = a2 then
      some (1, h)
    else
      some (0, h)
def f_X8_value_L4 (F : Nat) (x0 : Nat) (k140 : jH → Option (Int32 × jH)) : Nat → Int32 → Int32 → jH → Option (Int32 × jH)
  | 0, _, _, _ => none
  | n + 1, x1, x2, h =>
    (jg_I 8 4 h x0).bind (fun v1 =>
    if v1 ≤ x2 then
      k140 h
    else
      (jg_R 8 1 h x0).bind (fun v2 =>
      (ja_I 100 h v2 x2).bind (fun v3 =>
      j_jn (fun (z4 : Int32) (h5 : jH) =>
        f_X8_value_L4 F x0 k140 n z4 (x2 + 1) h5) (fun J134 =>
        j_jn (fun (h6 : jH) =>
          j_jn (fun (h7 : jH) =>
            if x1 ≤ 1 then
              J134 x1 h7
            else
              (jg_R 8 2 h7 x0).bind (fun v8 =>
              (jg_R 8 2 h7 x0).bind (fun v9 =>
              (ja_I 100 h7 v9 ((x1 + (-1)) - (1 : Int32))).bind (fun v10 =>
              (jg_R 8 2 h7 x0).bind (fun v11 =>
              (ja_I 100 h7 v11 (x1 + (-1))).bind (fun v12 =>
              j_b2 (f_X8_joined F (v3 - (2000 : Int32)) v10 v12 h7) (fun v14 h13 =>
              (jb_I 100 h13 v8 ((x1 + (-1)) - (1 : Int32)) v14).bind (fun h15 =>
              J134 (x1 + (-1)) h15)))))))) (fun J96 =>
            if v3 = 2000 then
              if x1 ≤ 0 then
                J96 h6
              else
                (jg_R 8 2 h6 x0).bind (fun v16 =>
                (jg_R 8 2 h6 x0).bind (fun v17 =>
                (ja_I 100 h6 v17 (x1 - (1 : Int32))).bind (fun v18 =>
                (jb_I 100 h6 v16 (x1 - (1 : Int32)) (-v18)).bind (fun h19 =>
                J134 x1 h19))))
            else
              J96 h6)) (fun J65 =>
          if (2000 : Int32) ≤ v3 then
            J65 h
          else
            if (40 : Int32) ≤ x1 then
              J65 h
            else
              (jg_R 8 2 h x0).bind (fun v20 =>
              j_jn (fun (s21 : Int32) (s22 : Int32) (s23 : Nat) (h24 : jH) =>
                (jb_I 100 h24 s23 s22 s21).bind (fun h25 =>
                J134 (x1 + 1) h25)) (fun J58 =>
                if (1000 : Int32) ≤ v3 then
                  (jg_R 8 3 h x0).bind (fun v26 =>
                  (ja_I 100 h v26 (v3 - (1000 : Int32))).bind (fun v27 =>
                  J58 v27 x1 v20 h))
                else
                  J58 v3 x1 v20 h)))))))
def f_X8_value (F : Nat) (a0 : Nat) (h : jH) : Option (Int32 × jH) :=
  j_gd 8 h a0 (
    f_X8_value_L4 F a0 (fun (h28 : jH) =>
      (jg_R 8 2 h28 a0).bind (fun v29 =>
      (ja_I 100 h28 v29 0).bind (fun v30 =>
      some (v30, h28)))) F 0 0 h)
def f_X8_charge_L54 (F : Nat) (x0 : Nat) (x1 : Nat) (x2 : Int32) : Nat → Int32 → Int32 → Int32 → jH → Option (Int32 × jH)
  | 0, _, _, _, _ => none
  | n + 1, x5, x6, x7, h =>
    (jg_R 3 1 h x1).bind (fun v14 =>
    (ja_I 100 h v14 x2).bind (fun v15 =>
    if v15 ≤ x7 then
      some (x5, h)
    else
      j_b2 (f_X3_letter F x1 x2 x7 h) (fun v17 h16 =>
      j_b2 (f_X3_vowelOf F v17 h16) (fun v19 h18 =>
      j_jn (fun (z20 : Int32) (h21 : jH) =>
        f_X8_charge_L54 F x0 x1 x2 n z20 v17 (x7 + 1) h21) (fun J161 =>
        if v19 < 0 then
          J161 x5 h18
        else
          (jg_R 8 3 h18 x0).bind (fun v22 =>
          (jb_I 100 h18 v22 0 v19).bind (fun h23 =>
          (jg_R 8 3 h23 x0).bind (fun v24 =>
          (jb_I 100 h23 v24 4 x7).bind (fun h25 =>
          (jg_R 8 3 h25 x0).bind (fun v26 =>
          j_jn (fun (s27 : Int32) (s28 : Int32) (s29 : Nat) (h30 : jH) =>
            (jb_I 100 h30 s29 s28 s27).bind (fun h31 =>
            j_b2 (f_X8_value F x0 h31) (fun v33 h32 =>
            j_b2 (f_X10_between F v33 99 h32) (fun v35 h34 =>
            (jg_R 8 0 h34 x0).bind (fun v36 =>
            (ja_I 100 h34 v36 v19).bind (fun v37 =>
            (jb_I 100 h34 v36 v19 (v37 + v35)).bind (fun h38 =>
            (jg_R 8 3 h38 x0).bind (fun v39 =>
            (ja_I 100 h38 v39 5).bind (fun v40 =>
            (jb_I 100 h38 v39 5 (v40 + (1 : Int32))).bind (fun h41 =>
            J161 (x5 + v35) h41)))))))))) (fun J120 =>
            if v17 = x6 then
              J120 1 6 v26 h25
            else
              J120 0 6 v26 h25)))))))))))
def f_X8_charge (F : Nat) (a0 : Nat) (a1 : Nat) (a2 : Int32) (a3 : Int32) (a4 : Int32) (h : jH) : Option (Int32 × jH) :=
  j_gd 8 h a0 (
    (jg_R 8 0 h a0).bind (fun v1 =>
    (f_J7_fill_53178 F v1 0 h).bind (fun h2 =>
    (jg_R 8 3 h2 a0).bind (fun v3 =>
    (jb_I 100 h2 v3 1 a3).bind (fun h4 =>
    (jg_R 8 3 h4 a0).bind (fun v5 =>
    (j_rem a4 24).bind (fun v6 =>
    (jb_I 100 h4 v5 2 v6).bind (fun h7 =>
    (jg_R 8 3 h7 a0).bind (fun v8 =>
    (jg_R 3 1 h7 a1).bind (fun v9 =>
    (ja_I 100 h7 v9 a2).bind (fun v10 =>
    (jb_I 100 h7 v8 3 v10).bind (fun h11 =>
    (jg_R 8 3 h11 a0).bind (fun v12 =>
    (jb_I 100 h11 v12 5 0).bind (fun h13 =>
    f_X8_charge_L54 F a0 a1 a2  F 0 (-1) 0 h13))))))))))))))
def f_X10_toll_L49 (F : Nat) (x0 : Nat) (x3 : Int32) : Nat → Int32 → jH → Option (Int32 × jH)
  | 0, _, _ => none
  | n + 1, x4, h =>
    if (5 : Int32) ≤ x4 then
      some (x3, h)
    else
      (jg_R 10 1 h x0).bind (fun v13 =>
      (jg_R 10 15 h x0).bind (fun v14 =>
      (jg_R 8 0 h v14).bind (fun v15 =>
      (ja_I 100 h v15 x4).bind (fun v16 =>
      (f_X6_add F v13 (v16.toInt64) h).bind (fun h17 =>
      f_X10_toll_L49 F x0 x3 n (x4 + 1) h17)))))
def f_X10_toll (F : Nat) (a0 : Nat) (a1 : Int32) (a2 : Int32) (h : jH) : Option (Int32 × jH) :=
  j_gd 10 h a0 (
    j_b2 (f_X10_isWord F a0 a1 h) (fun v2 h1 =>
    if v2 = 0 then
      some ((-1), h1)
    else
      j_b2 (f_X10_isStation F a0 a2 h1) (fun v4 h3 =>
      if v4 = 0 then
        some ((-1), h3)
      else
        (jg_R 10 15 h3 a0).bind (fun v5 =>
        (jg_R 10 2 h3 a0).bind (fun v6 =>
        (jg_R 10 4 h3 a0).bind (fun v7 =>
        (jg_I 7 0 h3 v7).bind (fun v8 =>
        j_b2 (f_X8_charge F v5 v6 a1 a2 v8 h3) (fun v10 h9 =>
        (jg_R 10 1 h9 a0).bind (fun v11 =>
        (f_X6_clear F v11 h9).bind (fun h12 =>
        f_X10_toll_L49 F a0 v10  F 0 h12))))))))))
def f_X10_move (F : Nat) (a0 : Nat) (a1 : Int32) (a2 : Int32) (h : jH) : Option (Int32 × jH) :=
  j_gd 10 h a0 (
    j_b2 (f_X10_isTraveller F a0 a1 h) (fun v2 h1 =>
    if v2 = 0 then
      some ((-1), h1)
    else
      if a2 < 0 then
        some ((-1), h1)
      else
        if a2 ≤ 1 then
          (jg_R 10 4 h1 a0).bind (fun v3 =>
          (jg_R 7 2 h1 v3).bind (fun v4 =>
          (ja_I 100 h1 v4 a1).bind (fun v5 =>
          j_jn (fun (s6 : Int32) (s7 : Int32) (h8 : jH) =>
            j_b2 (f_X10_isStation F a0 (s7 + s6) h8) (fun v10 h9 =>
            if v10 = 0 then
              some ((-2), h9)
            else
              (jg_R 10 4 h9 a0).bind (fun v11 =>
              (jg_R 7 2 h9 v11).bind (fun v12 =>
              (jb_I 100 h9 v12 a1 (s7 + s6)).bind (fun h13 =>
              some ((s7 + s6), h13)))))) (fun J38 =>
            if a2 = 1 then
              J38 1 v5 h1
            else
              J38 (-1) v5 h1))))
        else
          some ((-1), h1)))
def f_X10_goes (F : Nat) (a0 : Nat) (a1 : Int32) (a2 : Int32) (h : jH) : Option (Int32 × jH) :=
  j_gd 10 h a0 (
    j_b2 (f_X10_move F a0 a1 a2 h) (fun v2 h1 =>
    if v2 < 0 then
      some (v2, h1)
    else
      (jg_R 10 4 h1 a0).bind (fun v3 =>
      (jg_I 7 0 h1 v3).bind (fun v4 =>
      (jp_I 7 0 h1 v3 (v4 + (1 : Int32))).bind (fun h5 =>
      some (v2, h5))))))
def f_X4_slot (F : Nat) (a0 : Nat) (a1 : Int32) (h : jH) : Option (Int32 × jH) :=
  j_gd 4 h a0 (
    (jg_I 4 1 h a0).bind (fun v1 =>
    (j_rem (v1 + a1) 13).bind (fun v2 =>
    some (v2, h))))
def f_X4_confirm (F : Nat) (a0 : Nat) (h : jH) : Option jH :=
  j_gd 4 h a0 (
    (jg_I 4 2 h a0).bind (fun v1 =>
    if (12 : Int32) ≤ v1 then
      j_b2 (f_X4_slot F a0 1 h) (fun v3 h2 =>
      (jp_I 4 1 h2 a0 v3).bind (fun h4 =>
      some h4))
    else
      (jg_I 4 2 h a0).bind (fun v5 =>
      (jp_I 4 2 h a0 (v5 + (1 : Int32))).bind (fun h6 =>
      some h6))))
def f_X7_copy (F : Nat) (a0 : Nat) (a1 : Nat) (h : jH) : Option jH :=
  j_gd 7 h a0 (
    (jg_I 7 0 h a1).bind (fun v1 =>
    (jp_I 7 0 h a0 v1).bind (fun h2 =>
    (jg_I 7 1 h2 a1).bind (fun v3 =>
    (jp_I 7 1 h2 a0 v3).bind (fun h4 =>
    (jg_R 7 2 h4 a1).bind (fun v5 =>
    (jg_R 7 2 h4 a0).bind (fun v6 =>
    (j_copy h4 v5 0 v6 0 4).bind (fun h7 =>
    (jg_R 7 3 h7 a1).bind (fun v8 =>
    (jg_R 7 3 h7 a0).bind (fun v9 =>
    (j_copy h7 v8 0 v9 0 4).bind (fun h10 =>
    (jg_R 7 4 h10 a1).bind (fun v11 =>
    (jg_R 7 4 h10 a0).bind (fun v12 =>
    (j_copy h10 v11 0 v12 0 4).bind (fun h13 =>
    (jg_R 7 5 h13 a1).bind (fun v14 =>
    (jg_R 7 5 h13 a0).bind (fun v15 =>
    (j_copy h13 v14 0 v15 0 30).bind (fun h16 =>
    some h16)))))))))))))))))
def f_X4_mark (F : Nat) (a0 : Nat) (a1 : Nat) (h : jH) : Option jH :=
  j_gd 4 h a0 (
    (jg_R 4 0 h a0).bind (fun v1 =>
    (jg_I 4 2 h a0).bind (fun v2 =>
    j_b2 (f_X4_slot F a0 v2 h) (fun v4 h3 =>
    (ja_R h3 v1 v4).bind (fun v5 =>
    (f_X7_copy F v5 a1 h3).bind (fun h6 =>
    some h6))))))
def f_X10_walk (F : Nat) (a0 : Nat) (a1 : Int32) (a2 : Int32) (h : jH) : Option (Int32 × jH) :=
  j_gd 10 h a0 (
    (jg_R 10 5 h a0).bind (fun v1 =>
    (jg_R 10 4 h a0).bind (fun v2 =>
    (f_X4_mark F v1 v2 h).bind (fun h3 =>
    j_b2 (f_X10_goes F a0 a1 a2 h3) (fun v5 h4 =>
    if v5 < 0 then
      some (v5, h4)
    else
      (jg_R 10 5 h4 a0).bind (fun v6 =>
      (f_X4_confirm F v6 h4).bind (fun h7 =>
      some (v5, h7))))))))
def f_X10_pause (F : Nat) (a0 : Nat) (a1 : Int32) (h : jH) : Option (Int32 × jH) :=
  j_gd 10 h a0 (
    if a1 < 0 then
      some ((-1), h)
    else
      if a1 ≤ 99 then
        j_jn (fun (h1 : jH) =>
          (jg_R 10 4 h1 a0).bind (fun v2 =>
          (jg_I 7 0 h1 v2).bind (fun v3 =>
          (jp_I 7 0 h1 v2 (v3 + a1)).bind (fun h4 =>
          (jg_R 10 4 h4 a0).bind (fun v5 =>
          (jg_I 7 0 h4 v5).bind (fun v6 =>
          some (v6, h4))))))) (fun J34 =>
          if a1 ≤ 0 then
            J34 h
          else
            (jg_R 10 5 h a0).bind (fun v7 =>
            (jg_R 10 4 h a0).bind (fun v8 =>
            (f_X4_mark F v7 v8 h).bind (fun h9 =>
            (jg_R 10 5 h9 a0).bind (fun v10 =>
            (f_X4_confirm F v10 h9).bind (fun h11 =>
            J34 h11))))))
      else
        some ((-1), h))
def f_X3_means (F : Nat) (a0 : Nat) (a1 : Int32) (a2 : Int32) (h : jH) : Option (Int32 × jH) :=
  j_gd 3 h a0 (
    (jg_R 3 2 h a0).bind (fun v1 =>
    (ja_I 100 h v1 a1).bind (fun v2 =>
    j_jn (fun (h3 : jH) =>
      some (1, h3)) (fun J20 =>
      if v2 = a2 then
        J20 h
      else
        (jg_R 3 3 h a0).bind (fun v4 =>
        (ja_I 100 h v4 a1).bind (fun v5 =>
        if v5 = a2 then
          J20 h
        else
          some (0, h)))))))
def f_X2_metBy_L6 (F : Nat) (x0 : Nat) (x1 : Nat) (x2 : Int32) (x3 : Int32) : Nat → Int32 → Int32 → jH → Option (Int32 × jH)
  | 0, _, _, _ => none
  | n + 1, x4, x5, h =>
    (jg_I 2 0 h x0).bind (fun v1 =>
    if v1 ≤ x5 then
      some (x4, h)
    else
      (jg_R 2 3 h x0).bind (fun v2 =>
      (ja_I 100 h v2 x5).bind (fun v3 =>
      j_jn (fun (z4 : Int32) (h5 : jH) =>
        f_X2_metBy_L6 F x0 x1 x2 x3 n z4 (x5 + 1) h5) (fun J50 =>
        if v3 = x3 then
          (jg_R 2 2 h x0).bind (fun v6 =>
          (ja_I 100 h v6 x5).bind (fun v7 =>
          j_b2 (f_X3_means F x1 x2 v7 h) (fun v9 h8 =>
          if v9 = 0 then
            J50 x4 h8
          else
            J50 (x4 ||| ((1 : Int32) <<< (x5 &&& 31))) h8)))
        else
          J50 x4 h))))
def f_X2_metBy (F : Nat) (a0 : Nat) (a1 : Nat) (a2 : Int32) (a3 : Int32) (h : jH) : Option (Int32 × jH) :=
  j_gd 2 h a0 (
    f_X2_metBy_L6 F a0 a1 a2 a3  F 0 0 h)
def f_X10_speak_L98 (F : Nat) (x0 : Nat) (x1 : Int32) (x2 : Int32) (x3 : Int32) (x4 : Int32) (k137 : jH → Option (Int32 × jH)) : Nat → Int32 → jH → Option (Int32 × jH)
  | 0, _, _ => none
  | n + 1, x5, h =>
    if (5 : Int32) ≤ x5 then
      k137 h
    else
      (jg_R 10 4 h x0).bind (fun v25 =>
      (jg_R 7 5 h v25).bind (fun v26 =>
      (ja_I 100 h v26 ((x3 * (5 : Int32)) + x5)).bind (fun v27 =>
      (jg_R 10 2 h x0).bind (fun v28 =>
      j_b2 (f_X3_heardIn F v28 x2 x5 h) (fun v30 h29 =>
      (jb_I 100 h29 v26 ((x3 * (5 : Int32)) + x5) (v27 + v30)).bind (fun h31 =>
      f_X10_speak_L98 F x0 x1 x2 x3 x4 k137 n (x5 + 1) h31))))))
def f_X10_speak (F : Nat) (a0 : Nat) (a1 : Int32) (a2 : Int32) (h : jH) : Option (Int32 × jH) :=
  j_gd 10 h a0 (
    j_b2 (f_X10_isTraveller F a0 a1 h) (fun v2 h1 =>
    if v2 = 0 then
      some ((-1), h1)
    else
      j_b2 (f_X10_isWord F a0 a2 h1) (fun v4 h3 =>
      if v4 = 0 then
        some ((-1), h3)
      else
        (jg_R 10 4 h3 a0).bind (fun v5 =>
        (jg_R 7 2 h3 v5).bind (fun v6 =>
        (ja_I 100 h3 v6 a1).bind (fun v7 =>
        (jg_R 10 15 h3 a0).bind (fun v8 =>
        (jg_R 10 2 h3 a0).bind (fun v9 =>
        (jg_R 10 4 h3 a0).bind (fun v10 =>
        (jg_I 7 0 h3 v10).bind (fun v11 =>
        j_b2 (f_X8_charge F v8 v9 a2 v7 v11 h3) (fun v13 h12 =>
        (jg_R 10 4 h12 a0).bind (fun v14 =>
        (jg_R 7 3 h12 v14).bind (fun v15 =>
        (ja_I 100 h12 v15 a1).bind (fun v16 =>
        if v13 ≤ v16 then
          (jg_R 10 4 h12 a0).bind (fun v17 =>
          (jg_R 7 3 h12 v17).bind (fun v18 =>
          (ja_I 100 h12 v18 a1).bind (fun v19 =>
          (jb_I 100 h12 v18 a1 (v19 - v13)).bind (fun h20 =>
          (jg_R 10 4 h20 a0).bind (fun v21 =>
          (jg_R 7 4 h20 v21).bind (fun v22 =>
          (ja_I 100 h20 v22 a1).bind (fun v23 =>
          (jb_I 100 h20 v22 a1 (v23 + v13)).bind (fun h24 =>
          f_X10_speak_L98 F a0 a1 a2 v7 v13 (fun (h32 : jH) =>
            (jg_R 10 3 h32 a0).bind (fun v33 =>
            (jg_R 10 2 h32 a0).bind (fun v34 =>
            j_b2 (f_X2_metBy F v33 v34 a2 v7 h32) (fun v36 h35 =>
            (jg_R 10 3 h35 a0).bind (fun v37 =>
            j_b2 (f_X2_of F v37 a1 h35) (fun v39 h38 =>
            (jg_R 10 4 h38 a0).bind (fun v40 =>
            (jg_I 7 1 h38 v40).bind (fun v41 =>
            (jp_I 10 19 h38 a0 ((v36 &&& v39) &&& (v41 ^^^ ((-1) : Int32)))).bind (fun h42 =>
            (jg_R 10 4 h42 a0).bind (fun v43 =>
            (jg_I 7 1 h42 v43).bind (fun v44 =>
            (jg_I 10 19 h42 a0).bind (fun v45 =>
            (jp_I 7 1 h42 v43 (v44 ||| v45)).bind (fun h46 =>
            some (v13, h46)))))))))))))) F 0 h24))))))))
        else
          some ((-2), h12)))))))))))))))
def f_X6_tell (F : Nat) (a0 : Nat) (a1 : Int64) (h : jH) : Option jH :=
  j_gd 6 h a0 (
    (f_X6_clear F a0 h).bind (fun h1 =>
    (f_X6_add F a0 a1 h1).bind (fun h2 =>
    some h2)))
def f_X10_say (F : Nat) (a0 : Nat) (a1 : Int32) (a2 : Int32) (h : jH) : Option (Int32 × jH) :=
  j_gd 10 h a0 (
    (jg_R 10 5 h a0).bind (fun v1 =>
    (jg_R 10 4 h a0).bind (fun v2 =>
    (f_X4_mark F v1 v2 h).bind (fun h3 =>
    j_b2 (f_X10_speak F a0 a1 a2 h3) (fun v5 h4 =>
    if v5 < 0 then
      some (v5, h4)
    else
      (jg_R 10 5 h4 a0).bind (fun v6 =>
      (f_X4_confirm F v6 h4).bind (fun h7 =>
      (jg_R 10 1 h7 a0).bind (fun v8 =>
      (jg_I 10 19 h7 a0).bind (fun v9 =>
      (f_X6_tell F v8 (v9.toInt64) h7).bind (fun h10 =>
      some (v5, h10)))))))))))
def f_X10_alms (F : Nat) (a0 : Nat) (a1 : Int32) (a2 : Int32) (a3 : Int32) (h : jH) : Option (Int32 × jH) :=
  j_gd 10 h a0 (
    j_b2 (f_X10_isTraveller F a0 a1 h) (fun v2 h1 =>
    if v2 = 0 then
      some ((-1), h1)
    else
      j_b2 (f_X10_isTraveller F a0 a2 h1) (fun v4 h3 =>
      if v4 = 0 then
        some ((-1), h3)
      else
        if a1 = a2 then
          some ((-1), h3)
        else
          if a3 < 1 then
            some ((-1), h3)
          else
            if a3 ≤ 9999 then
              (jg_R 10 4 h3 a0).bind (fun v5 =>
              (jg_R 7 2 h3 v5).bind (fun v6 =>
              (ja_I 100 h3 v6 a1).bind (fun v7 =>
              (jg_R 10 4 h3 a0).bind (fun v8 =>
              (jg_R 7 2 h3 v8).bind (fun v9 =>
              (ja_I 100 h3 v9 a2).bind (fun v10 =>
              if v7 = v10 then
                (jg_R 10 4 h3 a0).bind (fun v11 =>
                (jg_R 7 3 h3 v11).bind (fun v12 =>
                (ja_I 100 h3 v12 a1).bind (fun v13 =>
                if a3 ≤ v13 then
                  (jg_R 10 5 h3 a0).bind (fun v14 =>
                  (jg_R 10 4 h3 a0).bind (fun v15 =>
                  (f_X4_mark F v14 v15 h3).bind (fun h16 =>
                  (jg_R 10 5 h16 a0).bind (fun v17 =>
                  (f_X4_confirm F v17 h16).bind (fun h18 =>
                  (jg_R 10 4 h18 a0).bind (fun v19 =>
                  (jg_R 7 3 h18 v19).bind (fun v20 =>
                  (ja_I 100 h18 v20 a1).bind (fun v21 =>
                  (jb_I 100 h18 v20 a1 (v21 - a3)).bind (fun h22 =>
                  (jg_R 10 4 h22 a0).bind (fun v23 =>
                  (jg_R 7 3 h22 v23).bind (fun v24 =>
                  (jg_R 10 4 h22 a0).bind (fun v25 =>
                  (jg_R 7 3 h22 v25).bind (fun v26 =>
                  (ja_I 100 h22 v26 a2).bind (fun v27 =>
                  j_b2 (f_X10_between F (v27 + a3) 9999 h22) (fun v29 h28 =>
                  (jb_I 100 h28 v24 a2 v29).bind (fun h30 =>
                  (jg_R 10 4 h30 a0).bind (fun v31 =>
                  (jg_R 7 3 h30 v31).bind (fun v32 =>
                  (ja_I 100 h30 v32 a2).bind (fun v33 =>
                  some (v33, h30))))))))))))))))))))
                else
                  some ((-2), h3))))
              else
                some ((-3), h3)))))))
            else
              some ((-1), h3))))
def f_X10_cheapestFor_L8 (F : Nat) (x0 : Nat) (x1 : Int32) (x2 : Int32) : Nat → Int32 → Int32 → Int32 → jH → Option (Int32 × jH)
  | 0, _, _, _, _ => none
  | n + 1, x3, x4, x5, h =>
    (jg_R 10 2 h x0).bind (fun v1 =>
    (jg_I 3 0 h v1).bind (fun v2 =>
    if v2 ≤ x5 then
      some (x3, h)
    else
      (jg_R 10 11 h x0).bind (fun v3 =>
      (ja_I 100 h v3 x5).bind (fun v4 =>
      (jg_R 10 2 h x0).bind (fun v5 =>
      j_b2 (f_X3_vowelsOf F v5 x5 h) (fun v7 h6 =>
      (jg_R 10 2 h6 x0).bind (fun v8 =>
      j_b2 (f_X3_means F v8 x5 x1 h6) (fun v10 h9 =>
      j_jn (fun (z11 : Int32) (z12 : Int32) (h13 : jH) =>
        f_X10_cheapestFor_L8 F x0 x1 x2 n z11 z12 (x5 + 1) h13) (fun J73 =>
        if v10 = 0 then
          J73 x3 x4 h9
        else
          j_jn (fun (h14 : jH) =>
            J73 x5 (v4 + (x2 * v7)) h14) (fun J66 =>
            if x3 = (-1) then
              J66 h9
            else
              if x4 ≤ (v4 + (x2 * v7)) then
                J73 x3 x4 h9
              else
                J66 h9))))))))))
def f_X10_cheapestFor (F : Nat) (a0 : Nat) (a1 : Int32) (a2 : Int32) (h : jH) : Option (Int32 × jH) :=
  j_gd 10 h a0 (
    f_X10_cheapestFor_L8 F a0 a1 a2  F (-1) 0 0 h)
def f_X10_priceAll_L3 (F : Nat) (x0 : Nat) (x1 : Nat) (x2 : Int32) (x3 : Nat) : Nat → Int32 → jH → Option jH
  | 0, _, _ => none
  | n + 1, x4, h =>
    (jg_R 10 2 h x0).bind (fun v1 =>
    (jg_I 3 0 h v1).bind (fun v2 =>
    if v2 ≤ x4 then
      some h
    else
      (jg_R 10 2 h x0).bind (fun v3 =>
      (jg_R 10 4 h x0).bind (fun v4 =>
      (jg_I 7 0 h v4).bind (fun v5 =>
      j_b2 (f_X8_charge F x1 v3 x4 x2 v5 h) (fun v7 h6 =>
      (jb_I 100 h6 x3 x4 v7).bind (fun h8 =>
      f_X10_priceAll_L3 F x0 x1 x2 x3 n (x4 + 1) h8)))))))
def f_X10_priceAll (F : Nat) (a0 : Nat) (a1 : Nat) (a2 : Int32) (a3 : Nat) (h : jH) : Option jH :=
  j_gd 10 h a0 (
    f_X10_priceAll_L3 F a0 a1 a2 a3  F 0 h)
def f_X2_at_L4 (F : Nat) (x0 : Nat) (x1 : Int32) : Nat → Int32 → Int32 → jH → Option (Int32 × jH)
  | 0, _, _, _ => none
  | n + 1, x2, x3, h =>
    (jg_I 2 0 h x0).bind (fun v1 =>
    if v1 ≤ x3 then
      some (x2, h)
    else
      (jg_R 2 3 h x0).bind (fun v2 =>
      (ja_I 100 h v2 x3).bind (fun v3 =>
      j_jn (fun (z4 : Int32) (h5 : jH) =>
        f_X2_at_L4 F x0 x1 n z4 (x3 + 1) h5) (fun J28 =>
        if v3 = x1 then
          J28 (x2 ||| ((1 : Int32) <<< (x3 &&& 31))) h
        else
          J28 x2 h))))
def f_X2_at (F : Nat) (a0 : Nat) (a1 : Int32) (h : jH) : Option (Int32 × jH) :=
  j_gd 2 h a0 (
    f_X2_at_L4 F a0 a1  F 0 0 h)
def f_X2_firstOf_L2 (F : Nat) (x0 : Nat) (x1 : Int32) : Nat → Int32 → jH → Option (Int32 × jH)
  | 0, _, _ => none
  | n + 1, x2, h =>
    (jg_I 2 0 h x0).bind (fun v1 =>
    if v1 ≤ x2 then
      some (0, h)
    else
      if ((x1 >>> (x2 &&& 31)) &&& (1 : Int32)) = 1 then
        some (x2, h)
      else
        f_X2_firstOf_L2 F x0 x1 n (x2 + 1) h)
def f_X2_firstOf (F : Nat) (a0 : Nat) (a1 : Int32) (h : jH) : Option (Int32 × jH) :=
  j_gd 2 h a0 (
    f_X2_firstOf_L2 F a0 a1  F 0 h)
def f_X10_wordForErrand (F : Nat) (a0 : Nat) (a1 : Int32) (h : jH) : Option (Int32 × jH) :=
  j_gd 10 h a0 (
    j_b2 (f_X10_isTraveller F a0 a1 h) (fun v2 h1 =>
    if v2 = 0 then
      some ((-1), h1)
    else
      (jg_R 10 4 h1 a0).bind (fun v3 =>
      (jg_R 7 2 h1 v3).bind (fun v4 =>
      (ja_I 100 h1 v4 a1).bind (fun v5 =>
      (jg_R 10 3 h1 a0).bind (fun v6 =>
      j_b2 (f_X2_of F v6 a1 h1) (fun v8 h7 =>
      (jg_R 10 3 h7 a0).bind (fun v9 =>
      j_b2 (f_X2_at F v9 v5 h7) (fun v11 h10 =>
      (jg_R 10 4 h10 a0).bind (fun v12 =>
      (jg_I 7 1 h10 v12).bind (fun v13 =>
      if ((v8 &&& v11) &&& (v13 ^^^ ((-1) : Int32))) = 0 then
        some ((-1), h10)
      else
        (jg_R 10 15 h10 a0).bind (fun v14 =>
        (jg_R 10 11 h10 a0).bind (fun v15 =>
        (f_X10_priceAll F a0 v14 v5 v15 h10).bind (fun h16 =>
        (jg_R 10 3 h16 a0).bind (fun v17 =>
        (jg_R 2 2 h16 v17).bind (fun v18 =>
        (jg_R 10 3 h16 a0).bind (fun v19 =>
        j_b2 (f_X2_firstOf F v19 ((v8 &&& v11) &&& (v13 ^^^ ((-1) : Int32))) h16) (fun v21 h20 =>
        (ja_I 100 h20 v18 v21).bind (fun v22 =>
        j_b2 (f_X10_cheapestFor F a0 v22 0 h20) (fun v24 h23 =>
        some (v24, h23)))))))))))))))))))))
def f_X10_act (F : Nat) (a0 : Nat) (a1 : Int32) (h : jH) : Option (Int32 × jH) :=
  j_gd 10 h a0 (
    if a1 < 1000 then
      (j_div a1 16).bind (fun v1 =>
      (j_rem a1 16).bind (fun v2 =>
      if v2 = 10 then
        j_b2 (f_X10_goes F a0 v1 1 h) (fun v4 h3 =>
        some ((j_min v4 0), h3))
      else if v2 = 11 then
        j_b2 (f_X10_goes F a0 v1 0 h) (fun v6 h5 =>
        some ((j_min v6 0), h5))
      else if v2 = 12 then
        j_b2 (f_X10_wordForErrand F a0 v1 h) (fun v8 h7 =>
        j_b2 (f_X10_speak F a0 v1 v8 h7) (fun v10 h9 =>
        some (v10, h9)))
      else 
        j_b2 (f_X10_speak F a0 v1 v2 h) (fun v12 h11 =>
        some (v12, h11))))
    else
      (jg_R 10 4 h a0).bind (fun v13 =>
      (jg_I 7 0 h v13).bind (fun v14 =>
      (jp_I 7 0 h v13 (v14 + (a1 - (1000 : Int32)))).bind (fun h15 =>
      some (0, h15)))))
def f_X6_tell_ (F : Nat) (a0 : Nat) (a1 : Int64) (a2 : Int64) (h : jH) : Option jH :=
  j_gd 6 h a0 (
    (f_X6_clear F a0 h).bind (fun h1 =>
    (f_X6_add F a0 a1 h1).bind (fun h2 =>
    (f_X6_add F a0 a2 h2).bind (fun h3 =>
    some h3))))
def f_X10_journey_L35 (F : Nat) (x0 : Nat) (x1 : Int32) (k79 : Int32 → Int32 → Int32 → jH → Option (Int32 × jH)) : Nat → Int32 → Int32 → Int32 → jH → Option (Int32 × jH)
  | 0, _, _, _, _ => none
  | n + 1, x2, x3, x4, h =>
    if x1 ≤ x3 then
      k79 x2 x3 x4 h
    else
      if x4 = 0 then
        (jg_R 10 10 h x0).bind (fun v6 =>
        (ja_I 100 h v6 x3).bind (fun v7 =>
        j_b2 (f_X10_act F x0 v7 h) (fun v9 h8 =>
        j_jn (fun (z10 : Int32) (z11 : Int32) (z12 : Int32) (h13 : jH) =>
          f_X10_journey_L35 F x0 x1 k79 n z10 z11 z12 h13) (fun J76 =>
          if (0 : Int32) ≤ v9 then
            J76 (x2 + v9) (x3 + 1) x4 h8
          else
            J76 x2 x3 1 h8))))
      else
        k79 x2 x3 x4 h
def f_X10_journey (F : Nat) (a0 : Nat) (h : jH) : Option (Int32 × jH) :=
  j_gd 10 h a0 (
    j_b2 (f_X10_readLines F a0 3 60 0 21 h) (fun v2 h1 =>
    if (0 : Int32) ≤ v2 then
      (jg_R 10 5 h1 a0).bind (fun v3 =>
      (jg_R 10 4 h1 a0).bind (fun v4 =>
      (f_X4_mark F v3 v4 h1).bind (fun h5 =>
      f_X10_journey_L35 F a0 v2 (fun (y14 : Int32) (y15 : Int32) (y16 : Int32) (h17 : jH) =>
        j_jn (fun (h18 : jH) =>
          (jg_R 10 1 h18 a0).bind (fun v19 =>
          j_jn (fun (s20 : Int64) (s21 : Nat) (h22 : jH) =>
            (f_X6_tell_ F s21 s20 (y14.toInt64) h22).bind (fun h23 =>
            some (y15, h23))) (fun J104 =>
            if y16 = 0 then
              J104 0 v19 h18
            else
              J104 1 v19 h18))) (fun J90 =>
          if y15 ≤ 0 then
            J90 h17
          else
            (jg_R 10 5 h17 a0).bind (fun v24 =>
            (f_X4_confirm F v24 h17).bind (fun h25 =>
            J90 h25)))) F 0 0 0 h5)))
    else
      some (v2, h1)))
def f_X4_backToMark (F : Nat) (a0 : Nat) (a1 : Nat) (h : jH) : Option jH :=
  j_gd 4 h a0 (
    (jg_R 4 0 h a0).bind (fun v1 =>
    (jg_I 4 2 h a0).bind (fun v2 =>
    j_b2 (f_X4_slot F a0 v2 h) (fun v4 h3 =>
    (ja_R h3 v1 v4).bind (fun v5 =>
    (f_X7_copy F a1 v5 h3).bind (fun h6 =>
    some h6))))))
def f_X4_takeBack (F : Nat) (a0 : Nat) (a1 : Nat) (h : jH) : Option (Int32 × jH) :=
  j_gd 4 h a0 (
    (jg_I 4 2 h a0).bind (fun v1 =>
    if (0 : Int32) < v1 then
      (jg_I 4 2 h a0).bind (fun v2 =>
      (jp_I 4 2 h a0 (v2 - (1 : Int32))).bind (fun h3 =>
      (f_X4_backToMark F a0 a1 h3).bind (fun h4 =>
      some (1, h4))))
    else
      some (0, h)))
def f_X10_undo (F : Nat) (a0 : Nat) (h : jH) : Option (Int32 × jH) :=
  j_gd 10 h a0 (
    (jg_R 10 5 h a0).bind (fun v1 =>
    (jg_R 10 4 h a0).bind (fun v2 =>
    j_b2 (f_X4_takeBack F v1 v2 h) (fun v4 h3 =>
    if v4 = 0 then
      some ((-1), h3)
    else
      (jg_R 10 5 h3 a0).bind (fun v5 =>
      (jg_I 4 2 h3 v5).bind (fun v6 =>
      some (v6, h3)))))))
def f_X10_isMeaning (F : Nat) (a0 : Int32) (h : jH) : Option (Int32 × jH) :=
  if a0 < 0 then
    some (0, h)
  else
    if (10 : Int32) ≤ a0 then
      some (0, h)
    else
      some (1, h)
def f_X3_meaningCount_L4 (F : Nat) (x0 : Nat) (x1 : Int32) : Nat → Int32 → Int32 → jH → Option (Int32 × jH)
  | 0, _, _, _ => none
  | n + 1, x2, x3, h =>
    (jg_I 3 0 h x0).bind (fun v1 =>
    if v1 ≤ x3 then
      some (x2, h)
    else
      j_b2 (f_X3_means F x0 x3 x1 h) (fun v3 h2 =>
      j_jn (fun (z4 : Int32) (h5 : jH) =>
        f_X3_meaningCount_L4 F x0 x1 n z4 (x3 + 1) h5) (fun J24 =>
        if v3 = 0 then
          J24 x2 h2
        else
          J24 (x2 + 1) h2)))
def f_X3_meaningCount (F : Nat) (a0 : Nat) (a1 : Int32) (h : jH) : Option (Int32 × jH) :=
  j_gd 3 h a0 (
    f_X3_meaningCount_L4 F a0 a1  F 0 0 h)
def f_X10_cheapest (F : Nat) (a0 : Nat) (a1 : Int32) (a2 : Int32) (h : jH) : Option (Int32 × jH) :=
  j_gd 10 h a0 (
    j_b2 (f_X10_isMeaning F a1 h) (fun v2 h1 =>
    if v2 = 0 then
      some ((-1), h1)
    else
      j_b2 (f_X10_isStation F a0 a2 h1) (fun v4 h3 =>
      if v4 = 0 then
        some ((-1), h3)
      else
        (jg_R 10 15 h3 a0).bind (fun v5 =>
        (jg_R 10 11 h3 a0).bind (fun v6 =>
        (f_X10_priceAll F a0 v5 a2 v6 h3).bind (fun h7 =>
        j_b2 (f_X10_cheapestFor F a0 a1 0 h7) (fun v9 h8 =>
        if v9 = (-1) then
          some ((-2), h8)
        else
          (jg_R 10 1 h8 a0).bind (fun v10 =>
          (jg_R 10 11 h8 a0).bind (fun v11 =>
          (ja_I 100 h8 v11 v9).bind (fun v12 =>
          (jg_R 10 2 h8 a0).bind (fun v13 =>
          j_b2 (f_X3_meaningCount F v13 a1 h8) (fun v15 h14 =>
          (f_X6_tell_ F v10 (v12.toInt64) (v15.toInt64) h14).bind (fun h16 =>
          some (v9, h16))))))))))))))
def f_X10_readDigits_L2 (F : Nat) (x0 : Nat) (x1 : Int32) (x2 : Int32) (k27 : Int32 → jH → Option (Int32 × jH)) : Nat → Int32 → jH → Option (Int32 × jH)
  | 0, _, _ => none
  | n + 1, x3, h =>
    if x2 ≤ x3 then
      k27 x3 h
    else
      (jg_R 10 0 h x0).bind (fun v1 =>
      j_b2 (f_X9_takeFrom F v1 48 10 h) (fun v3 h2 =>
      if v3 < 0 then
        k27 x3 h2
      else
        f_X10_readDigits_L2 F x0 x1 x2 k27 n (x3 + 1) h2))
def f_X10_readDigits (F : Nat) (a0 : Nat) (a1 : Int32) (a2 : Int32) (h : jH) : Option (Int32 × jH) :=
  j_gd 10 h a0 (
    f_X10_readDigits_L2 F a0 a1 a2 (fun (y4 : Int32) (h5 : jH) =>
      j_jn (fun (h6 : jH) =>
        (jg_R 10 0 h6 a0).bind (fun v7 =>
        j_b2 (f_X9_fault F v7 h6) (fun v9 h8 =>
        some (v9, h8)))) (fun J46 =>
        if y4 < a1 then
          J46 h5
        else
          (jg_R 10 0 h5 a0).bind (fun v10 =>
          j_b2 (f_X9_isOver F v10 h5) (fun v12 h11 =>
          if v12 = 0 then
            J46 h11
          else
            some (0, h11))))) F 0 h)
def f_X10_tellSentence_L11 (F : Nat) (x0 : Nat) (x1 : Int32) : Nat → Int32 → Int32 → jH → Option jH
  | 0, _, _, _ => none
  | n + 1, x2, x3, h =>
    if x1 ≤ x3 then
      some h
    else
      if x1 ≤ x2 then
        some h
      else
        (jg_R 10 1 h x0).bind (fun v3 =>
        (jg_R 10 9 h x0).bind (fun v4 =>
        (jg_R 5 0 h v4).bind (fun v5 =>
        (ja_I 100 h v5 x2).bind (fun v6 =>
        (f_X6_add F v3 (v6.toInt64) h).bind (fun h7 =>
        (jg_R 10 9 h7 x0).bind (fun v8 =>
        (jg_R 5 1 h7 v8).bind (fun v9 =>
        (ja_I 100 h7 v9 x2).bind (fun v10 =>
        f_X10_tellSentence_L11 F x0 x1 n (x2 + v10) (x3 + 1) h7))))))))
def f_X10_tellSentence (F : Nat) (a0 : Nat) (a1 : Int32) (h : jH) : Option jH :=
  j_gd 10 h a0 (
    (jg_R 10 1 h a0).bind (fun v1 =>
    (f_X6_clear F v1 h).bind (fun h2 =>
    f_X10_tellSentence_L11 F a0 a1  F 0 0 h2)))
def f_X3_isCompound (F : Nat) (a0 : Nat) (a1 : Int32) (h : jH) : Option (Int32 × jH) :=
  j_gd 3 h a0 (
    (jg_R 3 3 h a0).bind (fun v1 =>
    (ja_I 100 h v1 a1).bind (fun v2 =>
    if v2 = (-1) then
      some (0, h)
    else
      some (1, h))))
def f_X5_toldBy (F : Nat) (a0 : Nat) (a1 : Int32) (a2 : Nat) (a3 : Int32) (a4 : Int32) (h : jH) : Option (Int32 × jH) :=
  (jg_R 3 2 h a0).bind (fun v1 =>
  (ja_I 100 h v1 a1).bind (fun v2 =>
  (ja_I 100 h a2 a3).bind (fun v3 =>
  if v2 = (v3 - (48 : Int32)) then
    j_b2 (f_X3_isCompound F a0 a1 h) (fun v5 h4 =>
    if v5 = 0 then
      some (1, h4)
    else
      if a4 ≤ (a3 + (1 : Int32)) then
        some (0, h4)
      else
        (jg_R 3 3 h4 a0).bind (fun v6 =>
        (ja_I 100 h4 v6 a1).bind (fun v7 =>
        (ja_I 100 h4 a2 (a3 + (1 : Int32))).bind (fun v8 =>
        if v7 = (v8 - (48 : Int32)) then
          some (2, h4)
        else
          some (0, h4)))))
  else
    some (0, h))))
def f_X5_sentencePrice_L31 (F : Nat) (x0 : Nat) (x1 : Nat) (x2 : Nat) (x3 : Nat) (x4 : Int32) (x5 : Int32) (k129 : jH → Option (Int32 × jH)) : Nat → Int32 → jH → Option (Int32 × jH)
  | 0, _, _ => none
  | n + 1, x6, h =>
    (jg_I 3 0 h x1).bind (fun v5 =>
    if v5 ≤ x6 then
      k129 h
    else
      j_b2 (f_X5_toldBy F x1 x6 x3 x5 x4 h) (fun v7 h6 =>
      j_jn (fun (h8 : jH) =>
        f_X5_sentencePrice_L31 F x0 x1 x2 x3 x4 x5 k129 n (x6 + 1) h8) (fun J123 =>
        if v7 ≤ 0 then
          J123 h6
        else
          (ja_I 100 h6 x2 x6).bind (fun v9 =>
          (jg_R 5 4 h6 x0).bind (fun v10 =>
          (ja_I 100 h6 v10 (x5 + v7)).bind (fun v11 =>
          (jg_R 5 4 h6 x0).bind (fun v12 =>
          (ja_I 100 h6 v12 x5).bind (fun v13 =>
          if v13 ≤ (v9 + v11) then
            J123 h6
          else
            (jg_R 5 4 h6 x0).bind (fun v14 =>
            (ja_I 100 h6 x2 x6).bind (fun v15 =>
            (jg_R 5 4 h6 x0).bind (fun v16 =>
            (ja_I 100 h6 v16 (x5 + v7)).bind (fun v17 =>
            (jb_I 100 h6 v14 x5 (v15 + v17)).bind (fun h18 =>
            (jg_R 5 0 h18 x0).bind (fun v19 =>
            (jb_I 100 h18 v19 x5 x6).bind (fun h20 =>
            (jg_R 5 1 h20 x0).bind (fun v21 =>
            (jb_I 100 h20 v21 x5 v7).bind (fun h22 =>
            J123 h22)))))))))))))))))
def f_X5_sentencePrice_L14 (F : Nat) (x0 : Nat) (x1 : Nat) (x2 : Nat) (x3 : Nat) (x4 : Int32) (k135 : jH → Option (Int32 × jH)) : Nat → Int32 → jH → Option (Int32 × jH)
  | 0, _, _ => none
  | n + 1, x5, h =>
    if x5 < 0 then
      k135 h
    else
      (jg_R 5 4 h x0).bind (fun v3 =>
      (jb_I 100 h v3 x5 1000000).bind (fun h4 =>
      f_X5_sentencePrice_L31 F x0 x1 x2 x3 x4 x5 (fun (h23 : jH) =>
        f_X5_sentencePrice_L14 F x0 x1 x2 x3 x4 k135 n (x5 + (-1)) h23) F 0 h4))
def f_X5_sentencePrice (F : Nat) (a0 : Nat) (a1 : Nat) (a2 : Nat) (a3 : Nat) (a4 : Int32) (h : jH) : Option (Int32 × jH) :=
  j_gd 5 h a0 (
    (jg_R 5 4 h a0).bind (fun v1 =>
    (jb_I 100 h v1 a4 0).bind (fun h2 =>
    f_X5_sentencePrice_L14 F a0 a1 a2 a3 a4 (fun (h24 : jH) =>
      (jg_R 5 4 h24 a0).bind (fun v25 =>
      (ja_I 100 h24 v25 0).bind (fun v26 =>
      if (1000000 : Int32) ≤ v26 then
        some ((-1), h24)
      else
        (jg_R 5 4 h24 a0).bind (fun v27 =>
        (ja_I 100 h24 v27 0).bind (fun v28 =>
        some (v28, h24)))))) F (a4 - (1 : Int32)) h2)))
def f_X10_sentence (F : Nat) (a0 : Nat) (a1 : Int32) (h : jH) : Option (Int32 × jH) :=
  j_gd 10 h a0 (
    (jg_R 10 0 h a0).bind (fun v1 =>
    (f_X9_open F v1 12 h).bind (fun h2 =>
    j_b2 (f_X10_isStation F a0 a1 h2) (fun v4 h3 =>
    j_jn (fun (s5 : Int32) (h6 : jH) =>
      (jg_R 10 0 h6 a0).bind (fun v7 =>
      (jg_I 9 1 h6 v7).bind (fun v8 =>
      (jg_R 10 0 h6 a0).bind (fun v9 =>
      (jp_I 9 1 h6 v9 0).bind (fun h10 =>
      if (0 : Int32) ≤ s5 then
        (jg_R 10 15 h10 a0).bind (fun v11 =>
        (jg_R 10 11 h10 a0).bind (fun v12 =>
        (f_X10_priceAll F a0 v11 a1 v12 h10).bind (fun h13 =>
        (jg_R 10 9 h13 a0).bind (fun v14 =>
        (jg_R 10 2 h13 a0).bind (fun v15 =>
        (jg_R 10 11 h13 a0).bind (fun v16 =>
        (jg_R 10 0 h13 a0).bind (fun v17 =>
        (jg_R 9 0 h13 v17).bind (fun v18 =>
        j_b2 (f_X5_sentencePrice F v14 v15 v16 v18 v8 h13) (fun v20 h19 =>
        if (0 : Int32) ≤ v20 then
          (f_X10_tellSentence F a0 v8 h19).bind (fun h21 =>
          some (v20, h21))
        else
          some ((-200), h19))))))))))
      else
        some (s5, h10)))))) (fun J29 =>
      if v4 = 0 then
        J29 (-100) h3
      else
        j_b2 (f_X10_readDigits F a0 1 12 h3) (fun v23 h22 =>
        J29 v23 h22))))))
def f_X10_when_L48 (F : Nat) (x0 : Nat) (x1 : Int32) (x2 : Int32) (x3 : Int32) (k101 : Int32 → Int32 → jH → Option (Int32 × jH)) : Nat → Int32 → Int32 → Int32 → jH → Option (Int32 × jH)
  | 0, _, _, _, _ => none
  | n + 1, x4, x5, x6, h =>
    if (24 : Int32) ≤ x6 then
      k101 x4 x5 h
    else
      (jg_R 10 15 h x0).bind (fun v11 =>
      (jg_R 10 2 h x0).bind (fun v12 =>
      (jg_R 10 4 h x0).bind (fun v13 =>
      (jg_I 7 0 h v13).bind (fun v14 =>
      j_b2 (f_X8_charge F v11 v12 x1 x2 (v14 + x6) h) (fun v16 h15 =>
      j_jn (fun (z17 : Int32) (z18 : Int32) (h19 : jH) =>
        f_X10_when_L48 F x0 x1 x2 x3 k101 n z17 z18 (x6 + 1) h19) (fun J95 =>
        if x4 ≤ v16 then
          J95 x4 x5 h15
        else
          J95 v16 x6 h15))))))
def f_X10_when (F : Nat) (a0 : Nat) (a1 : Int32) (a2 : Int32) (h : jH) : Option (Int32 × jH) :=
  j_gd 10 h a0 (
    j_b2 (f_X10_isWord F a0 a1 h) (fun v2 h1 =>
    if v2 = 0 then
      some ((-1), h1)
    else
      j_b2 (f_X10_isStation F a0 a2 h1) (fun v4 h3 =>
      if v4 = 0 then
        some ((-1), h3)
      else
        (jg_R 10 15 h3 a0).bind (fun v5 =>
        (jg_R 10 2 h3 a0).bind (fun v6 =>
        (jg_R 10 4 h3 a0).bind (fun v7 =>
        (jg_I 7 0 h3 v7).bind (fun v8 =>
        j_b2 (f_X8_charge F v5 v6 a1 a2 v8 h3) (fun v10 h9 =>
        f_X10_when_L48 F a0 a1 a2 v10 (fun (y20 : Int32) (y21 : Int32) (h22 : jH) =>
          (jg_R 10 1 h22 a0).bind (fun v23 =>
          (f_X6_tell_ F v23 (y20.toInt64) (v10.toInt64) h22).bind (fun h24 =>
          some (y21, h24)))) F v10 0 1 h9))))))))
def f_X10_isShorter (F : Nat) (a0 : Nat) (a1 : Int32) (a2 : Int32) (h : jH) : Option (Int32 × jH) :=
  j_gd 10 h a0 (
    (jg_R 10 2 h a0).bind (fun v1 =>
    (jg_R 3 1 h v1).bind (fun v2 =>
    (ja_I 100 h v2 a1).bind (fun v3 =>
    (jg_R 10 2 h a0).bind (fun v4 =>
    (jg_R 3 1 h v4).bind (fun v5 =>
    (ja_I 100 h v5 a2).bind (fun v6 =>
    j_jn (fun (h7 : jH) =>
      some (1, h7)) (fun J43 =>
      if (v3 - v6) < 0 then
        J43 h
      else
        if (v3 - v6) = 0 then
          (jg_R 10 11 h a0).bind (fun v8 =>
          (ja_I 100 h v8 a1).bind (fun v9 =>
          (jg_R 10 11 h a0).bind (fun v10 =>
          (ja_I 100 h v10 a2).bind (fun v11 =>
          if v11 ≤ v9 then
            some (0, h)
          else
            J43 h))))
        else
          some (0, h)))))))))
def f_X10_shortest_L47 (F : Nat) (x0 : Nat) (x1 : Int32) (x3 : Int32) (k110 : Int32 → jH → Option (Int32 × jH)) : Nat → Int32 → Int32 → jH → Option (Int32 × jH)
  | 0, _, _, _ => none
  | n + 1, x4, x5, h =>
    (jg_R 10 2 h x0).bind (fun v8 =>
    (jg_I 3 0 h v8).bind (fun v9 =>
    if v9 ≤ x5 then
      k110 x4 h
    else
      (jg_R 10 2 h x0).bind (fun v10 =>
      j_b2 (f_X3_means F v10 x5 x1 h) (fun v12 h11 =>
      j_jn (fun (z13 : Int32) (h14 : jH) =>
        f_X10_shortest_L47 F x0 x1 x3 k110 n z13 (x5 + 1) h14) (fun J104 =>
        if v12 = 0 then
          J104 x4 h11
        else
          (jg_R 10 11 h11 x0).bind (fun v15 =>
          (ja_I 100 h11 v15 x5).bind (fun v16 =>
          if x3 < v16 then
            J104 x4 h11
          else
            j_jn (fun (h17 : jH) =>
              J104 x5 h17) (fun J100 =>
              if x4 = (-1) then
                J100 h11
              else
                j_b2 (f_X10_isShorter F x0 x5 x4 h11) (fun v19 h18 =>
                if v19 = 0 then
                  J104 x4 h18
                else
                  J100 h18)))))))))
def f_X10_shortest (F : Nat) (a0 : Nat) (a1 : Int32) (a2 : Int32) (a3 : Int32) (h : jH) : Option (Int32 × jH) :=
  j_gd 10 h a0 (
    j_b2 (f_X10_isMeaning F a1 h) (fun v2 h1 =>
    if v2 = 0 then
      some ((-1), h1)
    else
      j_b2 (f_X10_isStation F a0 a2 h1) (fun v4 h3 =>
      if v4 = 0 then
        some ((-1), h3)
      else
        if a3 < 0 then
          some ((-1), h3)
        else
          if a3 ≤ 9999 then
            (jg_R 10 15 h3 a0).bind (fun v5 =>
            (jg_R 10 11 h3 a0).bind (fun v6 =>
            (f_X10_priceAll F a0 v5 a2 v6 h3).bind (fun h7 =>
            f_X10_shortest_L47 F a0 a1 a3 (fun (y20 : Int32) (h21 : jH) =>
              if y20 = (-1) then
                some ((-2), h21)
              else
                (jg_R 10 1 h21 a0).bind (fun v22 =>
                (jg_R 10 2 h21 a0).bind (fun v23 =>
                (jg_R 3 1 h21 v23).bind (fun v24 =>
                (ja_I 100 h21 v24 y20).bind (fun v25 =>
                (jg_R 10 11 h21 a0).bind (fun v26 =>
                (ja_I 100 h21 v26 y20).bind (fun v27 =>
                (f_X6_tell_ F v22 (v25.toInt64) (v27.toInt64) h21).bind (fun h28 =>
                some (y20, h28))))))))) F (-1) 0 h7)))
          else
            some ((-1), h3))))
def f_X0_fewest_L2 (F : Nat) (x0 : Nat) (x1 : Int32) (x2 : Int32) (k20 : jH → Option (Int32 × jH)) : Nat → Int32 → jH → Option (Int32 × jH)
  | 0, _, _ => none
  | n + 1, x3, h =>
    if x2 < x3 then
      k20 h
    else
      (jg_R 0 2 h x0).bind (fun v1 =>
      (jb_I 100 h v1 x3 x3).bind (fun h2 =>
      f_X0_fewest_L2 F x0 x1 x2 k20 n (x3 + 1) h2))
def f_X0_fewest_L45 (F : Nat) (x0 : Nat) (x1 : Int32) (x2 : Int32) (x3 : Int32) (k129 : jH → Option (Int32 × jH)) : Nat → Int32 → Int32 → jH → Option (Int32 × jH)
  | 0, _, _, _ => none
  | n + 1, x4, x5, h =>
    if x2 < x5 then
      k129 h
    else
      (jg_R 0 0 h x0).bind (fun v8 =>
      (ja_I 100 h v8 (x3 - (1 : Int32))).bind (fun v9 =>
      (jg_R 0 1 h x0).bind (fun v10 =>
      (ja_I 100 h v10 (x5 - (1 : Int32))).bind (fun v11 =>
      j_jn (fun (s12 : Int32) (s13 : Int32) (h14 : jH) =>
        (jg_R 0 2 h14 x0).bind (fun v15 =>
        (ja_I 100 h14 v15 x5).bind (fun v16 =>
        (jg_R 0 2 h14 x0).bind (fun v17 =>
        (jg_R 0 2 h14 x0).bind (fun v18 =>
        (ja_I 100 h14 v18 x5).bind (fun v19 =>
        (jg_R 0 2 h14 x0).bind (fun v20 =>
        (ja_I 100 h14 v20 (x5 - (1 : Int32))).bind (fun v21 =>
        (jb_I 100 h14 v17 x5 (j_min (s13 + s12) ((j_min v19 v21) + (1 : Int32)))).bind (fun h22 =>
        f_X0_fewest_L45 F x0 x1 x2 x3 k129 n v16 (x5 + 1) h22))))))))) (fun J78 =>
        if v9 = v11 then
          J78 0 x4 h
        else
          J78 1 x4 h)))))
def f_X0_fewest_L22 (F : Nat) (x0 : Nat) (x1 : Int32) (x2 : Int32) (k135 : jH → Option (Int32 × jH)) : Nat → Int32 → jH → Option (Int32 × jH)
  | 0, _, _ => none
  | n + 1, x3, h =>
    if x1 < x3 then
      k135 h
    else
      (jg_R 0 2 h x0).bind (fun v4 =>
      (ja_I 100 h v4 0).bind (fun v5 =>
      (jg_R 0 2 h x0).bind (fun v6 =>
      (jb_I 100 h v6 0 x3).bind (fun h7 =>
      f_X0_fewest_L45 F x0 x1 x2 x3 (fun (h23 : jH) =>
        f_X0_fewest_L22 F x0 x1 x2 k135 n (x3 + 1) h23) F v5 1 h7))))
def f_X0_fewest (F : Nat) (a0 : Nat) (a1 : Int32) (a2 : Int32) (h : jH) : Option (Int32 × jH) :=
  j_gd 0 h a0 (
    f_X0_fewest_L2 F a0 a1 a2 (fun (h3 : jH) =>
      f_X0_fewest_L22 F a0 a1 a2 (fun (h24 : jH) =>
        (jg_R 0 2 h24 a0).bind (fun v25 =>
        (ja_I 100 h24 v25 a2).bind (fun v26 =>
        some (v26, h24)))) F 1 h3) F 0 h)
def f_X0_spell_L6 (F : Nat) (x0 : Nat) (x1 : Int32) (x2 : Nat) (x3 : Int32) : Nat → Int32 → Int32 → jH → Option (Int32 × jH)
  | 0, _, _, _ => none
  | n + 1, x4, x5, h =>
    (jg_R 3 1 h x0).bind (fun v1 =>
    (ja_I 100 h v1 x1).bind (fun v2 =>
    if v2 ≤ x5 then
      some (x4, h)
    else
      j_b2 (f_X3_letter F x0 x1 x5 h) (fun v4 h3 =>
      j_jn (fun (z5 : Int32) (h6 : jH) =>
        f_X0_spell_L6 F x0 x1 x2 x3 n z5 (x5 + 1) h6) (fun J47 =>
        j_jn (fun (h7 : jH) =>
          (jb_I 100 h7 x2 x4 v4).bind (fun h8 =>
          J47 (x4 + 1) h8)) (fun J38 =>
          if x3 = 0 then
            J38 h3
          else
            j_b2 (f_X3_vowelOf F v4 h3) (fun v10 h9 =>
            if v10 < 0 then
              J47 x4 h9
            else
              J38 h9))))))
def f_X0_spell (F : Nat) (a0 : Nat) (a1 : Int32) (a2 : Nat) (a3 : Int32) (h : jH) : Option (Int32 × jH) :=
  f_X0_spell_L6 F a0 a1 a2 a3  F 0 0 h
def f_X0_ofLetters (F : Nat) (a0 : Nat) (a1 : Nat) (a2 : Int32) (a3 : Int32) (h : jH) : Option (Int32 × jH) :=
  j_gd 0 h a0 (
    (jg_R 0 0 h a0).bind (fun v1 =>
    j_b2 (f_X0_spell F a1 a2 v1 0 h) (fun v3 h2 =>
    (jg_R 0 1 h2 a0).bind (fun v4 =>
    j_b2 (f_X0_spell F a1 a3 v4 0 h2) (fun v6 h5 =>
    j_b2 (f_X0_fewest F a0 v3 v6 h5) (fun v8 h7 =>
    some (v8, h7)))))))
def f_X0_ofVowels (F : Nat) (a0 : Nat) (a1 : Nat) (a2 : Int32) (a3 : Int32) (h : jH) : Option (Int32 × jH) :=
  j_gd 0 h a0 (
    (jg_R 0 0 h a0).bind (fun v1 =>
    j_b2 (f_X0_spell F a1 a2 v1 1 h) (fun v3 h2 =>
    (jg_R 0 1 h2 a0).bind (fun v4 =>
    j_b2 (f_X0_spell F a1 a3 v4 1 h2) (fun v6 h5 =>
    j_b2 (f_X0_fewest F a0 v3 v6 h5) (fun v8 h7 =>
    some (v8, h7)))))))
def f_X10_differ (F : Nat) (a0 : Nat) (a1 : Int32) (a2 : Int32) (h : jH) : Option (Int32 × jH) :=
  j_gd 10 h a0 (
    j_b2 (f_X10_isWord F a0 a1 h) (fun v2 h1 =>
    if v2 = 0 then
      some ((-1), h1)
    else
      j_b2 (f_X10_isWord F a0 a2 h1) (fun v4 h3 =>
      if v4 = 0 then
        some ((-1), h3)
      else
        (jg_R 10 1 h3 a0).bind (fun v5 =>
        (jg_R 10 8 h3 a0).bind (fun v6 =>
        (jg_R 10 2 h3 a0).bind (fun v7 =>
        j_b2 (f_X0_ofVowels F v6 v7 a1 a2 h3) (fun v9 h8 =>
        (f_X6_tell F v5 (v9.toInt64) h8).bind (fun h10 =>
        (jg_R 10 8 h10 a0).bind (fun v11 =>
        (jg_R 10 2 h10 a0).bind (fun v12 =>
        j_b2 (f_X0_ofLetters F v11 v12 a1 a2 h10) (fun v14 h13 =>
        some (v14, h13))))))))))))
def f_X3_shareMeaning (F : Nat) (a0 : Nat) (a1 : Int32) (a2 : Int32) (h : jH) : Option (Int32 × jH) :=
  j_gd 3 h a0 (
    (jg_R 3 2 h a0).bind (fun v1 =>
    (ja_I 100 h v1 a2).bind (fun v2 =>
    j_b2 (f_X3_means F a0 a1 v2 h) (fun v4 h3 =>
    j_jn (fun (h5 : jH) =>
      some (1, h5)) (fun J36 =>
      if v4 = 0 then
        j_b2 (f_X3_isCompound F a0 a2 h3) (fun v7 h6 =>
        if v7 = 0 then
          some (0, h6)
        else
          (jg_R 3 3 h6 a0).bind (fun v8 =>
          (ja_I 100 h6 v8 a2).bind (fun v9 =>
          j_b2 (f_X3_means F a0 a1 v9 h6) (fun v11 h10 =>
          if v11 = 0 then
            some (0, h10)
          else
            J36 h10))))
      else
        J36 h3)))))
def f_X10_near_L17 (F : Nat) (x0 : Nat) (x1 : Int32) (k84 : Int32 → Int32 → jH → Option (Int32 × jH)) : Nat → Int32 → Int32 → Int32 → jH → Option (Int32 × jH)
  | 0, _, _, _, _ => none
  | n + 1, x2, x3, x4, h =>
    (jg_R 10 2 h x0).bind (fun v3 =>
    (jg_I 3 0 h v3).bind (fun v4 =>
    if v4 ≤ x4 then
      k84 x2 x3 h
    else
      j_jn (fun (s5 : Int32) (h6 : jH) =>
        j_jn (fun (z7 : Int32) (z8 : Int32) (h9 : jH) =>
          f_X10_near_L17 F x0 x1 k84 n z7 z8 (x4 + 1) h9) (fun J78 =>
          if x4 = x1 then
            J78 x2 x3 h6
          else
            j_jn (fun (h10 : jH) =>
              J78 x4 s5 h10) (fun J72 =>
              if x2 = (-1) then
                J72 h6
              else
                if x3 ≤ s5 then
                  J78 x2 x3 h6
                else
                  J72 h6))) (fun J53 =>
        if x4 = x1 then
          J53 0 h
        else
          (jg_R 10 8 h x0).bind (fun v11 =>
          (jg_R 10 2 h x0).bind (fun v12 =>
          j_b2 (f_X0_ofLetters F v11 v12 x1 x4 h) (fun v14 h13 =>
          J53 v14 h13))))))
def f_X10_near (F : Nat) (a0 : Nat) (a1 : Int32) (h : jH) : Option (Int32 × jH) :=
  j_gd 10 h a0 (
    j_b2 (f_X10_isWord F a0 a1 h) (fun v2 h1 =>
    if v2 = 0 then
      some ((-1), h1)
    else
      f_X10_near_L17 F a0 a1 (fun (y15 : Int32) (y16 : Int32) (h17 : jH) =>
        if y15 = (-1) then
          some ((-2), h17)
        else
          (jg_R 10 1 h17 a0).bind (fun v18 =>
          (jg_R 10 2 h17 a0).bind (fun v19 =>
          j_b2 (f_X3_shareMeaning F v19 a1 y15 h17) (fun v21 h20 =>
          j_jn (fun (s22 : Int64) (s23 : Int64) (s24 : Nat) (h25 : jH) =>
            (f_X6_tell_ F s24 s23 s22 h25).bind (fun h26 =>
            some (y15, h26))) (fun J115 =>
            if v21 = 0 then
              J115 0 (y16.toInt64) v18 h20
            else
              J115 1 (y16.toInt64) v18 h20))))) F (-1) 0 0 h1))
def f_X10_commonDivisor_L9 (F : Nat) (k44 : Int64 → jH → Option (Int64 × jH)) : Nat → Int64 → Int64 → Int32 → jH → Option (Int64 × jH)
  | 0, _, _, _, _ => none
  | n + 1, x4, x6, x8, h =>
    if (100 : Int32) ≤ x8 then
      k44 x4 h
    else
      if (lg_cmp x6 (0 : Int64)) = 0 then
        k44 x4 h
      else
        (j_rel x4 x6).bind (fun v1 =>
        f_X10_commonDivisor_L9 F k44 n x6 v1 (x8 + 1) h)
def f_X10_commonDivisor (F : Nat) (a0 : Int64) (a1 : Int64) (h : jH) : Option (Int64 × jH) :=
  f_X10_commonDivisor_L9 F (fun (y2 : Int64) (h3 : jH) =>
    some ((j_maxl y2 1), h3)) F a0 a1 0 h
def f_X10_power_L5 (F : Nat) (x0 : Int32) (x1 : Int32) : Nat → Int64 → Int32 → jH → Option (Int64 × jH)
  | 0, _, _, _ => none
  | n + 1, x2, x4, h =>
    if x1 ≤ x4 then
      some (x2, h)
    else
      f_X10_power_L5 F x0 x1 n (x2 * (x0.toInt64)) (x4 + 1) h
def f_X10_power (F : Nat) (a0 : Int32) (a1 : Int32) (h : jH) : Option (Int64 × jH) :=
  f_X10_power_L5 F a0 a1  F 1 0 h
def f_X10_heard_L49 (F : Nat) (x0 : Nat) (x2 : Int32) (x3 : Int32) (x4 : Int32) (k112 : Int64 → jH → Option (Int32 × jH)) : Nat → Int64 → Int64 → Int32 → jH → Option (Int32 × jH)
  | 0, _, _, _, _ => none
  | n + 1, x5, x7, x9, h =>
    if x3 < x9 then
      k112 x5 h
    else
      if x4 < x9 then
        k112 x5 h
      else
        j_b2 (f_X10_power F x2 (x4 - x9) h) (fun v7 h6 =>
        j_b2 (f_X10_power F ((10 : Int32) - x2) x9 h6) (fun v9 h8 =>
        (j_dil (x7 * ((x4 - x9).toInt64)) ((x9 + (1 : Int32)).toInt64)).bind (fun v10 =>
        f_X10_heard_L49 F x0 x2 x3 x4 k112 n (x5 + ((x7 * v7) * v9)) v10 (x9 + 1) h8)))
def f_X10_heard (F : Nat) (a0 : Nat) (a1 : Int32) (a2 : Int32) (a3 : Int32) (h : jH) : Option (Int32 × jH) :=
  j_gd 10 h a0 (
    j_b2 (f_X10_isWord F a0 a1 h) (fun v2 h1 =>
    if v2 = 0 then
      some ((-1), h1)
    else
      if a2 < 0 then
        some ((-1), h1)
      else
        if (10 : Int32) < a2 then
          some ((-1), h1)
        else
          if a3 < 0 then
            some ((-1), h1)
          else
            if a3 ≤ 2 then
              (jg_R 10 2 h1 a0).bind (fun v3 =>
              (jg_R 3 1 h1 v3).bind (fun v4 =>
              (ja_I 100 h1 v4 a1).bind (fun v5 =>
              f_X10_heard_L49 F a0 a2 a3 v5 (fun (y11 : Int64) (h12 : jH) =>
                j_b2 (f_X10_power F 10 v5 h12) (fun v14 h13 =>
                j_b2 (f_X10_commonDivisor F y11 v14 h13) (fun v16 h15 =>
                (jg_R 10 1 h15 a0).bind (fun v17 =>
                (j_dil y11 v16).bind (fun v18 =>
                (j_dil v14 v16).bind (fun v19 =>
                (f_X6_tell_ F v17 v18 v19 h15).bind (fun h20 =>
                some (0, h20)))))))) F 0 1 0 h1)))
            else
              some ((-1), h1)))
def f_J6_bitCount_0f7a4 (F : Nat) (a0 : Int32) (h : jH) : Option (Int32 × jH) :=
  some (((((((((a0 - (((a0.toUInt32 >>> ((1 : Int32).toUInt32 &&& Int32.toUInt32 31)).toInt32) &&& (1431655765 : Int32))) &&& (858993459 : Int32)) + ((((a0 - (((a0.toUInt32 >>> ((1 : Int32).toUInt32 &&& Int32.toUInt32 31)).toInt32) &&& (1431655765 : Int32))).toUInt32 >>> ((2 : Int32).toUInt32 &&& Int32.toUInt32 31)).toInt32) &&& (858993459 : Int32))) + (((((a0 - (((a0.toUInt32 >>> ((1 : Int32).toUInt32 &&& Int32.toUInt32 31)).toInt32) &&& (1431655765 : Int32))) &&& (858993459 : Int32)) + ((((a0 - (((a0.toUInt32 >>> ((1 : Int32).toUInt32 &&& Int32.toUInt32 31)).toInt32) &&& (1431655765 : Int32))).toUInt32 >>> ((2 : Int32).toUInt32 &&& Int32.toUInt32 31)).toInt32) &&& (858993459 : Int32))).toUInt32 >>> ((4 : Int32).toUInt32 &&& Int32.toUInt32 31)).toInt32)) &&& (252645135 : Int32)) + (((((((a0 - (((a0.toUInt32 >>> ((1 : Int32).toUInt32 &&& Int32.toUInt32 31)).toInt32) &&& (1431655765 : Int32))) &&& (858993459 : Int32)) + ((((a0 - (((a0.toUInt32 >>> ((1 : Int32).toUInt32 &&& Int32.toUInt32 31)).toInt32) &&& (1431655765 : Int32))).toUInt32 >>> ((2 : Int32).toUInt32 &&& Int32.toUInt32 31)).toInt32) &&& (858993459 : Int32))) + (((((a0 - (((a0.toUInt32 >>> ((1 : Int32).toUInt32 &&& Int32.toUInt32 31)).toInt32) &&& (1431655765 : Int32))) &&& (858993459 : Int32)) + ((((a0 - (((a0.toUInt32 >>> ((1 : Int32).toUInt32 &&& Int32.toUInt32 31)).toInt32) &&& (1431655765 : Int32))).toUInt32 >>> ((2 : Int32).toUInt32 &&& Int32.toUInt32 31)).toInt32) &&& (858993459 : Int32))).toUInt32 >>> ((4 : Int32).toUInt32 &&& Int32.toUInt32 31)).toInt32)) &&& (252645135 : Int32)).toUInt32 >>> ((8 : Int32).toUInt32 &&& Int32.toUInt32 31)).toInt32)) + ((((((((a0 - (((a0.toUInt32 >>> ((1 : Int32).toUInt32 &&& Int32.toUInt32 31)).toInt32) &&& (1431655765 : Int32))) &&& (858993459 : Int32)) + ((((a0 - (((a0.toUInt32 >>> ((1 : Int32).toUInt32 &&& Int32.toUInt32 31)).toInt32) &&& (1431655765 : Int32))).toUInt32 >>> ((2 : Int32).toUInt32 &&& Int32.toUInt32 31)).toInt32) &&& (858993459 : Int32))) + (((((a0 - (((a0.toUInt32 >>> ((1 : Int32).toUInt32 &&& Int32.toUInt32 31)).toInt32) &&& (1431655765 : Int32))) &&& (858993459 : Int32)) + ((((a0 - (((a0.toUInt32 >>> ((1 : Int32).toUInt32 &&& Int32.toUInt32 31)).toInt32) &&& (1431655765 : Int32))).toUInt32 >>> ((2 : Int32).toUInt32 &&& Int32.toUInt32 31)).toInt32) &&& (858993459 : Int32))).toUInt32 >>> ((4 : Int32).toUInt32 &&& Int32.toUInt32 31)).toInt32)) &&& (252645135 : Int32)) + (((((((a0 - (((a0.toUInt32 >>> ((1 : Int32).toUInt32 &&& Int32.toUInt32 31)).toInt32) &&& (1431655765 : Int32))) &&& (858993459 : Int32)) + ((((a0 - (((a0.toUInt32 >>> ((1 : Int32).toUInt32 &&& Int32.toUInt32 31)).toInt32) &&& (1431655765 : Int32))).toUInt32 >>> ((2 : Int32).toUInt32 &&& Int32.toUInt32 31)).toInt32) &&& (858993459 : Int32))) + (((((a0 - (((a0.toUInt32 >>> ((1 : Int32).toUInt32 &&& Int32.toUInt32 31)).toInt32) &&& (1431655765 : Int32))) &&& (858993459 : Int32)) + ((((a0 - (((a0.toUInt32 >>> ((1 : Int32).toUInt32 &&& Int32.toUInt32 31)).toInt32) &&& (1431655765 : Int32))).toUInt32 >>> ((2 : Int32).toUInt32 &&& Int32.toUInt32 31)).toInt32) &&& (858993459 : Int32))).toUInt32 >>> ((4 : Int32).toUInt32 &&& Int32.toUInt32 31)).toInt32)) &&& (252645135 : Int32)).toUInt32 >>> ((8 : Int32).toUInt32 &&& Int32.toUInt32 31)).toInt32)).toUInt32 >>> ((16 : Int32).toUInt32 &&& Int32.toUInt32 31)).toInt32)) &&& (63 : Int32)), h)
def f_X0_areFar_L2 (F : Nat) (x0 : Nat) (x1 : Int32) (x2 : Int32) : Nat → Int32 → jH → Option (Int32 × jH)
  | 0, _, _ => none
  | n + 1, x3, h =>
    if x2 ≤ x3 then
      some (1, h)
    else
      j_jn (fun (h1 : jH) =>
        f_X0_areFar_L2 F x0 x1 x2 n (x3 + 1) h1) (fun J31 =>
        if ((x1 >>> (x3 &&& 31)) &&& (1 : Int32)) = 1 then
          (jg_R 0 3 h x0).bind (fun v2 =>
          (ja_I 100 h v2 x3).bind (fun v3 =>
          if (x1 &&& (v3 ^^^ ((-1) : Int32))) = 0 then
            J31 h
          else
            some (0, h)))
        else
          J31 h)
def f_X0_areFar (F : Nat) (a0 : Nat) (a1 : Int32) (a2 : Int32) (h : jH) : Option (Int32 × jH) :=
  j_gd 0 h a0 (
    f_X0_areFar_L2 F a0 a1 a2  F 0 h)
def f_X0_markFar_L22 (F : Nat) (x0 : Nat) (x1 : Nat) (x2 : Int32) (x3 : Int32) (k72 : jH → Option jH) : Nat → Int32 → jH → Option jH
  | 0, _, _ => none
  | n + 1, x4, h =>
    if x3 ≤ x4 then
      k72 h
    else
      j_b2 (f_X0_ofLetters F x0 x1 x3 x4 h) (fun v5 h4 =>
      j_jn (fun (h6 : jH) =>
        f_X0_markFar_L22 F x0 x1 x2 x3 k72 n (x4 + 1) h6) (fun J66 =>
        if v5 < x2 then
          J66 h4
        else
          (jg_R 0 3 h4 x0).bind (fun v7 =>
          (ja_I 100 h4 v7 x3).bind (fun v8 =>
          (jb_I 100 h4 v7 x3 (v8 ||| ((1 : Int32) <<< (x4 &&& 31)))).bind (fun h9 =>
          (jg_R 0 3 h9 x0).bind (fun v10 =>
          (ja_I 100 h9 v10 x4).bind (fun v11 =>
          (jb_I 100 h9 v10 x4 (v11 ||| ((1 : Int32) <<< (x3 &&& 31)))).bind (fun h12 =>
          J66 h12))))))))
def f_X0_markFar_L2 (F : Nat) (x0 : Nat) (x1 : Nat) (x2 : Int32) : Nat → Int32 → jH → Option jH
  | 0, _, _ => none
  | n + 1, x3, h =>
    (jg_I 3 0 h x1).bind (fun v1 =>
    if v1 ≤ x3 then
      some h
    else
      (jg_R 0 3 h x0).bind (fun v2 =>
      (jb_I 100 h v2 x3 ((1 : Int32) <<< (x3 &&& 31))).bind (fun h3 =>
      f_X0_markFar_L22 F x0 x1 x2 x3 (fun (h13 : jH) =>
        f_X0_markFar_L2 F x0 x1 x2 n (x3 + 1) h13) F 0 h3)))
def f_X0_markFar (F : Nat) (a0 : Nat) (a1 : Nat) (a2 : Int32) (h : jH) : Option jH :=
  j_gd 0 h a0 (
    f_X0_markFar_L2 F a0 a1 a2  F 0 h)
def f_X10_priceOf_L4 (F : Nat) (x0 : Nat) (x1 : Int32) : Nat → Int32 → Int32 → jH → Option (Int32 × jH)
  | 0, _, _, _ => none
  | n + 1, x2, x3, h =>
    (jg_R 10 2 h x0).bind (fun v1 =>
    (jg_I 3 0 h v1).bind (fun v2 =>
    if v2 ≤ x3 then
      some (x2, h)
    else
      (jg_R 10 11 h x0).bind (fun v3 =>
      (ja_I 100 h v3 x3).bind (fun v4 =>
      f_X10_priceOf_L4 F x0 x1 n (x2 + (((x1 >>> (x3 &&& 31)) &&& (1 : Int32)) * v4)) (x3 + 1) h))))
def f_X10_priceOf (F : Nat) (a0 : Nat) (a1 : Int32) (h : jH) : Option (Int32 × jH) :=
  j_gd 10 h a0 (
    f_X10_priceOf_L4 F a0 a1  F 0 0 h)
def f_X10_code_L41 (F : Nat) (x0 : Nat) (k114 : Int32 → jH → Option (Int32 × jH)) : Nat → Int32 → Int32 → jH → Option (Int32 × jH)
  | 0, _, _, _ => none
  | n + 1, x2, x3, h =>
    (jg_R 10 2 h x0).bind (fun v7 =>
    (jg_I 3 0 h v7).bind (fun v8 =>
    if ((1 : Int32) <<< (v8 &&& 31)) ≤ x3 then
      k114 x2 h
    else
      j_b2 (f_J6_bitCount_0f7a4 F x3 h) (fun v10 h9 =>
      j_b2 (f_J6_bitCount_0f7a4 F x2 h9) (fun v12 h11 =>
      j_jn (fun (z13 : Int32) (h14 : jH) =>
        f_X10_code_L41 F x0 k114 n z13 (x3 + 1) h14) (fun J108 =>
        if (v10 - v12) < 0 then
          J108 x2 h11
        else
          (jg_R 10 8 h11 x0).bind (fun v15 =>
          (jg_R 10 2 h11 x0).bind (fun v16 =>
          (jg_I 3 0 h11 v16).bind (fun v17 =>
          j_b2 (f_X0_areFar F v15 x3 v17 h11) (fun v19 h18 =>
          if v19 = 0 then
            J108 x2 h18
          else
            j_jn (fun (h20 : jH) =>
              J108 x3 h20) (fun J106 =>
              if (0 : Int32) < (v10 - v12) then
                J106 h18
              else
                j_b2 (f_X10_priceOf F x0 x3 h18) (fun v22 h21 =>
                j_b2 (f_X10_priceOf F x0 x2 h21) (fun v24 h23 =>
                if v24 ≤ v22 then
                  J108 x2 h23
                else
                  J106 h23))))))))))))
def f_X10_code (F : Nat) (a0 : Nat) (a1 : Int32) (h : jH) : Option (Int32 × jH) :=
  j_gd 10 h a0 (
    if a1 < 0 then
      some ((-1), h)
    else
      if a1 ≤ 6 then
        (jg_R 10 15 h a0).bind (fun v1 =>
        (jg_R 10 11 h a0).bind (fun v2 =>
        (f_X10_priceAll F a0 v1 0 v2 h).bind (fun h3 =>
        (jg_R 10 8 h3 a0).bind (fun v4 =>
        (jg_R 10 2 h3 a0).bind (fun v5 =>
        (f_X0_markFar F v4 v5 a1 h3).bind (fun h6 =>
        f_X10_code_L41 F a0 (fun (y25 : Int32) (h26 : jH) =>
          (jg_R 10 1 h26 a0).bind (fun v27 =>
          (f_X6_tell F v27 (y25.toInt64) h26).bind (fun h28 =>
          j_b2 (f_J6_bitCount_0f7a4 F y25 h28) (fun v30 h29 =>
          some (v30, h29))))) F 0 1 h6))))))
      else
        some ((-1), h))
def f_X5_sayAt_L10 (F : Nat) (x0 : Nat) (x2 : Int32) (x3 : Int32) (x4 : Int32) : Nat → Int32 → jH → Option jH
  | 0, _, _ => none
  | n + 1, x5, h =>
    (jg_I 5 7 h x0).bind (fun v1 =>
    if v1 < x5 then
      some h
    else
      (jg_R 5 5 h x0).bind (fun v2 =>
      (ja_I 100 h v2 (x4 + x5)).bind (fun v3 =>
      (jg_R 5 5 h x0).bind (fun v4 =>
      (ja_I 100 h v4 (x4 + (x5 ||| x2))).bind (fun v5 =>
      j_jn (fun (h6 : jH) =>
        f_X5_sayAt_L10 F x0 x2 x3 x4 n (x5 + 1) h6) (fun J64 =>
        if v5 ≤ (v3 + x3) then
          J64 h
        else
          (jg_R 5 5 h x0).bind (fun v7 =>
          (jb_I 100 h v7 (x4 + (x5 ||| x2)) (v3 + x3)).bind (fun h8 =>
          J64 h8))))))))
def f_X5_sayAt (F : Nat) (a0 : Nat) (a1 : Int32) (a2 : Int32) (a3 : Int32) (h : jH) : Option jH :=
  j_gd 5 h a0 (
    f_X5_sayAt_L10 F a0 a2 a3 (a1 * (256 : Int32))  F 0 h)
def f_X10_sayThere_L3 (F : Nat) (x0 : Nat) (x1 : Int32) (x2 : Int32) (x3 : Int32) : Nat → Int32 → jH → Option jH
  | 0, _, _ => none
  | n + 1, x4, h =>
    (jg_R 10 2 h x0).bind (fun v1 =>
    (jg_I 3 0 h v1).bind (fun v2 =>
    if v2 ≤ x4 then
      some h
    else
      if x1 = 0 then
        some h
      else
        (jg_R 10 3 h x0).bind (fun v3 =>
        (jg_R 10 2 h x0).bind (fun v4 =>
        j_b2 (f_X2_metBy F v3 v4 x4 x2 h) (fun v6 h5 =>
        j_jn (fun (h7 : jH) =>
          f_X10_sayThere_L3 F x0 x1 x2 x3 n (x4 + 1) h7) (fun J75 =>
          if (x1 &&& v6) = 0 then
            J75 h5
          else
            (jg_R 10 9 h5 x0).bind (fun v8 =>
            (jg_R 10 15 h5 x0).bind (fun v9 =>
            (jg_R 10 2 h5 x0).bind (fun v10 =>
            (jg_R 10 4 h5 x0).bind (fun v11 =>
            (jg_I 7 0 h5 v11).bind (fun v12 =>
            j_b2 (f_X8_charge F v9 v10 x4 x2 (v12 + x3) h5) (fun v14 h13 =>
            (f_X5_sayAt F v8 x2 (x1 &&& v6) v14 h13).bind (fun h15 =>
            J75 h15)))))))))))))
def f_X10_sayThere (F : Nat) (a0 : Nat) (a1 : Int32) (a2 : Int32) (a3 : Int32) (h : jH) : Option jH :=
  j_gd 10 h a0 (
    f_X10_sayThere_L3 F a0 a1 a2 a3  F 0 h)
def f_X5_begin (F : Nat) (a0 : Nat) (a1 : Int32) (a2 : Int32) (a3 : Int32) (h : jH) : Option jH :=
  j_gd 5 h a0 (
    (jp_I 5 7 h a0 a1).bind (fun h1 =>
    j_b2 (f_J6_bitCount_0f7a4 F a1 h1) (fun v3 h2 =>
    (jp_I 5 3 h2 a0 v3).bind (fun h4 =>
    (jp_I 5 8 h4 a0 a3).bind (fun h5 =>
    (jp_I 5 2 h5 a0 1000000).bind (fun h6 =>
    (jg_R 5 5 h6 a0).bind (fun v7 =>
    (f_J7_fill_53178 F v7 1000000 h6).bind (fun h8 =>
    (jg_R 5 5 h8 a0).bind (fun v9 =>
    (jb_I 100 h8 v9 (a2 * (256 : Int32)) 0).bind (fun h10 =>
    some h10))))))))))
def f_X5_isCheaperNow_L5 (F : Nat) (x0 : Nat) (k39 : Int32 → jH → Option (Int32 × jH)) : Nat → Int32 → Int32 → jH → Option (Int32 × jH)
  | 0, _, _, _ => none
  | n + 1, x1, x2, h =>
    (jg_I 5 8 h x0).bind (fun v1 =>
    if v1 ≤ x2 then
      k39 x1 h
    else
      (jg_R 5 5 h x0).bind (fun v2 =>
      (jg_I 5 7 h x0).bind (fun v3 =>
      (ja_I 100 h v2 ((x2 * (256 : Int32)) + v3)).bind (fun v4 =>
      f_X5_isCheaperNow_L5 F x0 k39 n (j_min x1 v4) (x2 + 1) h))))
def f_X5_isCheaperNow (F : Nat) (a0 : Nat) (h : jH) : Option (Int32 × jH) :=
  j_gd 5 h a0 (
    f_X5_isCheaperNow_L5 F a0 (fun (y5 : Int32) (h6 : jH) =>
      (jg_I 5 2 h6 a0).bind (fun v7 =>
      if y5 < v7 then
        (jp_I 5 2 h6 a0 y5).bind (fun h8 =>
        some (1, h8))
      else
        some (0, h6))) F 1000000 0 h)
def f_X5_walkOn_L12 (F : Nat) (x0 : Nat) (x1 : Int32) (k104 : jH → Option jH) : Nat → Int32 → jH → Option jH
  | 0, _, _ => none
  | n + 1, x2, h =>
    (jg_I 5 7 h x0).bind (fun v2 =>
    if v2 < x2 then
      k104 h
    else
      (jg_R 5 5 h x0).bind (fun v3 =>
      (ja_I 100 h v3 ((x1 * (256 : Int32)) + x2)).bind (fun v4 =>
      j_jn (fun (z5 : Int32) (h6 : jH) =>
        (jg_I 5 8 h6 x0).bind (fun v7 =>
        j_jn (fun (z8 : Int32) (h9 : jH) =>
          (jg_R 5 6 h9 x0).bind (fun v10 =>
          (jb_I 100 h9 v10 ((x1 * (256 : Int32)) + x2) z8).bind (fun h11 =>
          f_X5_walkOn_L12 F x0 x1 k104 n (x2 + 1) h11))) (fun J85 =>
          if v7 ≤ (x1 + (1 : Int32)) then
            J85 z5 h6
          else
            (jg_R 5 5 h6 x0).bind (fun v12 =>
            (ja_I 100 h6 v12 (((x1 + (1 : Int32)) * (256 : Int32)) + x2)).bind (fun v13 =>
            J85 (j_min z5 v13) h6))))) (fun J56 =>
        if x1 ≤ 0 then
          J56 v4 h
        else
          (jg_R 5 5 h x0).bind (fun v14 =>
          (ja_I 100 h v14 (((x1 - (1 : Int32)) * (256 : Int32)) + x2)).bind (fun v15 =>
          J56 (j_min v4 v15) h))))))
def f_X5_walkOn_L2 (F : Nat) (x0 : Nat) (k110 : jH → Option jH) : Nat → Int32 → jH → Option jH
  | 0, _, _ => none
  | n + 1, x1, h =>
    (jg_I 5 8 h x0).bind (fun v1 =>
    if v1 ≤ x1 then
      k110 h
    else
      f_X5_walkOn_L12 F x0 x1 (fun (h16 : jH) =>
        f_X5_walkOn_L2 F x0 k110 n (x1 + 1) h16) F 0 h)
def f_X5_walkOn (F : Nat) (a0 : Nat) (h : jH) : Option jH :=
  j_gd 5 h a0 (
    f_X5_walkOn_L2 F a0 (fun (h17 : jH) =>
      (jg_R 5 5 h17 a0).bind (fun v18 =>
      (jg_R 5 6 h17 a0).bind (fun v19 =>
      (jp_R 5 5 h17 a0 v19).bind (fun h20 =>
      (jp_R 5 6 h20 a0 v18).bind (fun h21 =>
      some h21))))) F 0 h)
def f_X10_soonest_L91 (F : Nat) (x0 : Nat) (x2 : Int32) (x3 : Int32) (x4 : Int32) (x5 : Int32) (x6 : Int32) (x7 : Int32) (k136 : jH → Option (Int32 × jH)) : Nat → Int32 → jH → Option (Int32 × jH)
  | 0, _, _ => none
  | n + 1, x8, h =>
    (jg_I 10 17 h x0).bind (fun v14 =>
    if v14 ≤ x8 then
      k136 h
    else
      if (x5 + x7) < x8 then
        k136 h
      else
        (jg_R 10 3 h x0).bind (fun v15 =>
        j_b2 (f_X2_at F v15 x8 h) (fun v17 h16 =>
        (f_X10_sayThere F x0 (x4 &&& v17) x8 x7 h16).bind (fun h18 =>
        f_X10_soonest_L91 F x0 x2 x3 x4 x5 x6 x7 k136 n (x8 + 1) h18))))
def f_X10_soonest_L52 (F : Nat) (x0 : Nat) (x2 : Int32) (x3 : Int32) (x4 : Int32) (x5 : Int32) : Nat → Int32 → Int32 → jH → Option (Int32 × jH)
  | 0, _, _, _ => none
  | n + 1, x6, x7, h =>
    if x2 < x7 then
      some (x6, h)
    else
      j_jn (fun (h12 : jH) =>
        j_jn (fun (h13 : jH) =>
          f_X10_soonest_L91 F x0 x2 x3 x4 x5 x6 x7 (fun (h19 : jH) =>
            (jg_R 10 9 h19 x0).bind (fun v20 =>
            j_b2 (f_X5_isCheaperNow F v20 h19) (fun v22 h21 =>
            j_jn (fun (z23 : Int32) (h24 : jH) =>
              f_X10_soonest_L52 F x0 x2 x3 x4 x5 n z23 (x7 + 1) h24) (fun J150 =>
              if v22 = 0 then
                J150 x6 h21
              else
                J150 x7 h21)))) F (j_max 0 (x5 - x7)) h13) (fun J80 =>
          if x7 ≤ 0 then
            J80 h12
          else
            (jg_R 10 9 h12 x0).bind (fun v25 =>
            (f_X5_walkOn F v25 h12).bind (fun h26 =>
            J80 h26)))) (fun J68 =>
        if x3 = 0 then
          J68 h
        else
          if x6 = (-1) then
            J68 h
          else
            some (x6, h))
def f_X10_soonest (F : Nat) (a0 : Nat) (a1 : Int32) (a2 : Int32) (a3 : Int32) (h : jH) : Option (Int32 × jH) :=
  j_gd 10 h a0 (
    (jg_R 10 3 h a0).bind (fun v1 =>
    j_b2 (f_X2_of F v1 a1 h) (fun v3 h2 =>
    (jg_R 10 4 h2 a0).bind (fun v4 =>
    (jg_I 7 1 h2 v4).bind (fun v5 =>
    (jg_R 10 4 h2 a0).bind (fun v6 =>
    (jg_R 7 2 h2 v6).bind (fun v7 =>
    (ja_I 100 h2 v7 a1).bind (fun v8 =>
    (jg_R 10 9 h2 a0).bind (fun v9 =>
    (jg_I 10 17 h2 a0).bind (fun v10 =>
    (f_X5_begin F v9 (v3 &&& (v5 ^^^ ((-1) : Int32))) v8 v10 h2).bind (fun h11 =>
    f_X10_soonest_L52 F a0 a2 a3 (v3 &&& (v5 ^^^ ((-1) : Int32))) v8  F (-1) 0 h11)))))))))))
def f_X10_trip (F : Nat) (a0 : Nat) (a1 : Int32) (a2 : Int32) (h : jH) : Option (Int32 × jH) :=
  j_gd 10 h a0 (
    j_b2 (f_X10_isTraveller F a0 a1 h) (fun v2 h1 =>
    if v2 = 0 then
      some ((-1), h1)
    else
      if a2 < 0 then
        some ((-1), h1)
      else
        if a2 ≤ 12 then
          j_b2 (f_X10_soonest F a0 a1 a2 0 h1) (fun v4 h3 =>
          if (0 : Int32) ≤ v4 then
            (jg_R 10 1 h3 a0).bind (fun v5 =>
            (jg_R 10 9 h3 a0).bind (fun v6 =>
            (jg_I 5 3 h3 v6).bind (fun v7 =>
            (f_X6_tell_ F v5 (v4.toInt64) (v7.toInt64) h3).bind (fun h8 =>
            (jg_R 10 9 h8 a0).bind (fun v9 =>
            (jg_I 5 2 h8 v9).bind (fun v10 =>
            some (v10, h8)))))))
          else
            some ((-2), h3))
        else
          some ((-1), h1)))
def f_X10_haste (F : Nat) (a0 : Nat) (a1 : Int32) (h : jH) : Option (Int32 × jH) :=
  j_gd 10 h a0 (
    j_b2 (f_X10_isTraveller F a0 a1 h) (fun v2 h1 =>
    if v2 = 0 then
      some ((-1), h1)
    else
      j_b2 (f_X10_soonest F a0 a1 12 1 h1) (fun v4 h3 =>
      if (0 : Int32) ≤ v4 then
        (jg_R 10 1 h3 a0).bind (fun v5 =>
        (jg_R 10 9 h3 a0).bind (fun v6 =>
        (jg_I 5 2 h3 v6).bind (fun v7 =>
        (f_X6_tell F v5 (v7.toInt64) h3).bind (fun h8 =>
        some (v4, h8)))))
      else
        some ((-2), h3))))
def f_X10_openFor_L54 (F : Nat) (x0 : Nat) : Nat → Int32 → Int32 → jH → Option (Int32 × jH)
  | 0, _, _, _ => none
  | n + 1, x3, x4, h =>
    (jg_R 10 3 h x0).bind (fun v15 =>
    (jg_I 2 0 h v15).bind (fun v16 =>
    if v16 ≤ x4 then
      some (x3, h)
    else
      (jg_R 10 3 h x0).bind (fun v17 =>
      (jg_R 2 2 h v17).bind (fun v18 =>
      (ja_I 100 h v18 x4).bind (fun v19 =>
      j_b2 (f_X10_cheapestFor F x0 v19 0 h) (fun v21 h20 =>
      (jg_R 10 3 h20 x0).bind (fun v22 =>
      (jg_R 2 5 h20 v22).bind (fun v23 =>
      j_jn (fun (s24 : Int32) (s25 : Int32) (s26 : Nat) (h27 : jH) =>
        (jb_I 100 h27 s26 s25 s24).bind (fun h28 =>
        j_jn (fun (z29 : Int32) (h30 : jH) =>
          f_X10_openFor_L54 F x0 n z29 (x4 + 1) h30) (fun J125 =>
          if v21 = (-1) then
            J125 (x3 &&& (((1 : Int32) <<< (x4 &&& 31)) ^^^ ((-1) : Int32))) h28
          else
            J125 x3 h28))) (fun J109 =>
        if v21 = (-1) then
          J109 0 x4 v23 h20
        else
          (jg_R 10 11 h20 x0).bind (fun v31 =>
          (ja_I 100 h20 v31 v21).bind (fun v32 =>
          J109 v32 x4 v23 h20)))))))))))
def f_X10_openFor (F : Nat) (a0 : Nat) (a1 : Int32) (h : jH) : Option (Int32 × jH) :=
  j_gd 10 h a0 (
    (jg_R 10 4 h a0).bind (fun v1 =>
    (jg_R 7 2 h v1).bind (fun v2 =>
    (ja_I 100 h v2 a1).bind (fun v3 =>
    (jg_R 10 3 h a0).bind (fun v4 =>
    j_b2 (f_X2_of F v4 a1 h) (fun v6 h5 =>
    (jg_R 10 3 h5 a0).bind (fun v7 =>
    j_b2 (f_X2_at F v7 v3 h5) (fun v9 h8 =>
    (jg_R 10 4 h8 a0).bind (fun v10 =>
    (jg_I 7 1 h8 v10).bind (fun v11 =>
    (jg_R 10 15 h8 a0).bind (fun v12 =>
    (jg_R 10 11 h8 a0).bind (fun v13 =>
    (f_X10_priceAll F a0 v12 v3 v13 h8).bind (fun h14 =>
    f_X10_openFor_L54 F a0  F ((v6 &&& v9) &&& (v11 ^^^ ((-1) : Int32))) 0 h14)))))))))))))
def f_X10_best_L27 (F : Nat) (x0 : Nat) (x1 : Int32) (x2 : Int32) (k136 : Int32 → Int32 → Int32 → jH → Option (Int32 × jH)) : Nat → Int32 → Int32 → Int32 → Int32 → jH → Option (Int32 × jH)
  | 0, _, _, _, _, _ => none
  | n + 1, x3, x4, x5, x6, h =>
    if x2 < x6 then
      k136 x3 x4 x5 h
    else
      j_jn (fun (s5 : Int32) (h6 : jH) =>
        (jg_R 10 4 h6 x0).bind (fun v7 =>
        (jg_R 7 3 h6 v7).bind (fun v8 =>
        (ja_I 100 h6 v8 x1).bind (fun v9 =>
        j_jn (fun (z10 : Int32) (z11 : Int32) (z12 : Int32) (h13 : jH) =>
          f_X10_best_L27 F x0 x1 x2 k136 n z10 z11 z12 (x6 + 1) h13) (fun J130 =>
          if v9 < s5 then
            J130 x3 x4 x5 h6
          else
            (jg_R 10 3 h6 x0).bind (fun v14 =>
            (jg_R 10 3 h6 x0).bind (fun v15 =>
            (jg_R 2 4 h6 v15).bind (fun v16 =>
            j_b2 (f_X2_sumOf F v14 v16 x6 h6) (fun v18 h17 =>
            j_jn (fun (h19 : jH) =>
              J130 x6 v18 s5 h19) (fun J119 =>
              if x4 < v18 then
                J119 h17
              else
                if v18 = x4 then
                  if x5 ≤ s5 then
                    J130 x3 x4 x5 h17
                  else
                    J119 h17
                else
                  J130 x3 x4 x5 h17)))))))))) (fun J64 =>
        if (x6 &&& (x2 ^^^ ((-1) : Int32))) = 0 then
          (jg_R 10 3 h x0).bind (fun v20 =>
          (jg_R 10 3 h x0).bind (fun v21 =>
          (jg_R 2 5 h v21).bind (fun v22 =>
          j_b2 (f_X2_sumOf F v20 v22 x6 h) (fun v24 h23 =>
          J64 v24 h23))))
        else
          J64 10000 h)
def f_X10_best (F : Nat) (a0 : Nat) (a1 : Int32) (h : jH) : Option (Int32 × jH) :=
  j_gd 10 h a0 (
    j_b2 (f_X10_isTraveller F a0 a1 h) (fun v2 h1 =>
    if v2 = 0 then
      some ((-1), h1)
    else
      j_b2 (f_X10_openFor F a0 a1 h1) (fun v4 h3 =>
      f_X10_best_L27 F a0 a1 v4 (fun (y25 : Int32) (y26 : Int32) (y27 : Int32) (h28 : jH) =>
        (jg_R 10 1 h28 a0).bind (fun v29 =>
        (f_X6_tell_ F v29 (y25.toInt64) (y27.toInt64) h28).bind (fun h30 =>
        some (y26, h30)))) F 0 0 0 1 h3)))
def f_X10_incomeBy_L30 (F : Nat) (x0 : Nat) (x2 : Int32) (x3 : Int32) : Nat → Int32 → Int32 → jH → Option (Int32 × jH)
  | 0, _, _, _ => none
  | n + 1, x4, x5, h =>
    (jg_R 10 3 h x0).bind (fun v7 =>
    (jg_I 2 0 h v7).bind (fun v8 =>
    if v8 ≤ x5 then
      some (x4, h)
    else
      j_jn (fun (s9 : Int32) (h10 : jH) =>
        j_jn (fun (s11 : Int32) (h12 : jH) =>
          j_jn (fun (z13 : Int32) (h14 : jH) =>
            f_X10_incomeBy_L30 F x0 x2 x3 n z13 (x5 + 1) h14) (fun J142 =>
            if s9 = (-1) then
              J142 x4 h12
            else
              (jg_R 10 3 h12 x0).bind (fun v15 =>
              (jg_R 2 4 h12 v15).bind (fun v16 =>
              (ja_I 100 h12 v16 x5).bind (fun v17 =>
              if v17 < s11 then
                J142 x4 h12
              else
                (jg_I 10 19 h12 x0).bind (fun v18 =>
                (jp_I 10 19 h12 x0 (v18 + (1 : Int32))).bind (fun h19 =>
                J142 (x4 + s11) h19))))))) (fun J102 =>
          if s9 = (-1) then
            J102 0 h10
          else
            (jg_R 10 11 h10 x0).bind (fun v20 =>
            (ja_I 100 h10 v20 s9).bind (fun v21 =>
            (jg_R 10 2 h10 x0).bind (fun v22 =>
            j_b2 (f_X3_vowelsOf F v22 s9 h10) (fun v24 h23 =>
            J102 (v21 + (x2 * v24)) h23)))))) (fun J71 =>
        if ((x3 >>> (x5 &&& 31)) &&& (1 : Int32)) = 1 then
          (jg_R 10 3 h x0).bind (fun v25 =>
          (jg_R 2 2 h v25).bind (fun v26 =>
          (ja_I 100 h v26 x5).bind (fun v27 =>
          j_b2 (f_X10_cheapestFor F x0 v27 x2 h) (fun v29 h28 =>
          J71 v29 h28))))
        else
          J71 (-1) h)))
def f_X10_incomeBy (F : Nat) (a0 : Nat) (a1 : Int32) (a2 : Int32) (h : jH) : Option (Int32 × jH) :=
  j_gd 10 h a0 (
    (jg_R 10 3 h a0).bind (fun v1 =>
    j_b2 (f_X2_at F v1 a1 h) (fun v3 h2 =>
    (jg_R 10 4 h2 a0).bind (fun v4 =>
    (jg_I 7 1 h2 v4).bind (fun v5 =>
    (jp_I 10 19 h2 a0 0).bind (fun h6 =>
    f_X10_incomeBy_L30 F a0 a2 (v3 &&& (v5 ^^^ ((-1) : Int32)))  F 0 0 h6))))))
def f_X10_takes (F : Nat) (a0 : Nat) (a1 : Int32) (a2 : Int32) (h : jH) : Option (Int32 × jH) :=
  j_gd 10 h a0 (
    j_b2 (f_X10_isStation F a0 a1 h) (fun v2 h1 =>
    if v2 = 0 then
      some ((-1), h1)
    else
      if a2 < 0 then
        some ((-1), h1)
      else
        if a2 ≤ 99 then
          (jg_R 10 15 h1 a0).bind (fun v3 =>
          (jg_R 10 11 h1 a0).bind (fun v4 =>
          (f_X10_priceAll F a0 v3 a1 v4 h1).bind (fun h5 =>
          j_b2 (f_X10_incomeBy F a0 a1 a2 h5) (fun v7 h6 =>
          (jg_R 10 1 h6 a0).bind (fun v8 =>
          (jg_I 10 19 h6 a0).bind (fun v9 =>
          (f_X6_tell F v8 (v9.toInt64) h6).bind (fun h10 =>
          some (v7, h10))))))))
        else
          some ((-1), h1)))
def f_X10_greed_L38 (F : Nat) (x0 : Nat) (x1 : Int32) (x2 : Int32) (k73 : Int32 → Int32 → jH → Option (Int32 × jH)) : Nat → Int32 → Int32 → Int32 → jH → Option (Int32 × jH)
  | 0, _, _, _, _ => none
  | n + 1, x3, x4, x5, h =>
    if (99 : Int32) < x5 then
      k73 x3 x4 h
    else
      j_b2 (f_X10_incomeBy F x0 x1 x5 h) (fun v9 h8 =>
      j_jn (fun (z10 : Int32) (z11 : Int32) (h12 : jH) =>
        f_X10_greed_L38 F x0 x1 x2 k73 n z10 z11 (x5 + 1) h12) (fun J67 =>
        if v9 ≤ x3 then
          J67 x3 x4 h8
        else
          J67 v9 x5 h8))
def f_X10_greed (F : Nat) (a0 : Nat) (a1 : Int32) (h : jH) : Option (Int32 × jH) :=
  j_gd 10 h a0 (
    j_b2 (f_X10_isStation F a0 a1 h) (fun v2 h1 =>
    if v2 = 0 then
      some ((-1), h1)
    else
      (jg_R 10 15 h1 a0).bind (fun v3 =>
      (jg_R 10 11 h1 a0).bind (fun v4 =>
      (f_X10_priceAll F a0 v3 a1 v4 h1).bind (fun h5 =>
      j_b2 (f_X10_incomeBy F a0 a1 0 h5) (fun v7 h6 =>
      f_X10_greed_L38 F a0 a1 v7 (fun (y13 : Int32) (y14 : Int32) (h15 : jH) =>
        (jg_R 10 1 h15 a0).bind (fun v16 =>
        (f_X6_tell_ F v16 (y13.toInt64) (v7.toInt64) h15).bind (fun h17 =>
        some (y14, h17)))) F v7 0 1 h6))))))
def f_X10_law_L59 (F : Nat) (x0 : Nat) (k120 : Int32 → Int32 → Int32 → jH → Option (Int32 × jH)) : Nat → Int32 → Int32 → Int32 → Int32 → jH → Option (Int32 × jH)
  | 0, _, _, _, _, _ => none
  | n + 1, x3, x4, x5, x6, h =>
    (jg_R 10 2 h x0).bind (fun v11 =>
    (jg_I 3 0 h v11).bind (fun v12 =>
    if v12 ≤ x6 then
      k120 x3 x4 x5 h
    else
      (jg_R 10 12 h x0).bind (fun v13 =>
      (ja_I 100 h v13 x6).bind (fun v14 =>
      (jg_R 10 11 h x0).bind (fun v15 =>
      (ja_I 100 h v15 x6).bind (fun v16 =>
      j_jn (fun (z17 : Int32) (z18 : Int32) (h19 : jH) =>
        f_X10_law_L59 F x0 k120 n z17 z18 (x5 + (v14 - v16)) (x6 + 1) h19) (fun J114 =>
        if (v14 - v16) ≤ 0 then
          if (0 : Int32) ≤ (v14 - v16) then
            J114 x3 x4 h
          else
            J114 x3 (x4 + 1) h
        else
          J114 (x3 + 1) x4 h)))))))
def f_X10_law (F : Nat) (a0 : Nat) (a1 : Int32) (h : jH) : Option (Int32 × jH) :=
  j_gd 10 h a0 (
    j_b2 (f_X10_readSpareTariff F a0 h) (fun v2 h1 =>
    j_b2 (f_X10_isStation F a0 a1 h1) (fun v4 h3 =>
    if v4 = 0 then
      some ((-100), h3)
    else
      if (0 : Int32) ≤ v2 then
        (jg_R 10 15 h3 a0).bind (fun v5 =>
        (jg_R 10 11 h3 a0).bind (fun v6 =>
        (f_X10_priceAll F a0 v5 a1 v6 h3).bind (fun h7 =>
        (jg_R 10 16 h7 a0).bind (fun v8 =>
        (jg_R 10 12 h7 a0).bind (fun v9 =>
        (f_X10_priceAll F a0 v8 a1 v9 h7).bind (fun h10 =>
        f_X10_law_L59 F a0 (fun (y20 : Int32) (y21 : Int32) (y22 : Int32) (h23 : jH) =>
          (jg_R 10 1 h23 a0).bind (fun v24 =>
          (f_X6_tell_ F v24 (y21.toInt64) (y22.toInt64) h23).bind (fun h25 =>
          some (y20, h25)))) F 0 0 0 0 h10))))))
      else
        some (v2, h3))))
def f_X10_leavesNone_L17 (F : Nat) (x0 : Nat) (x1 : Int32) (x2 : Int32) (k47 : Int32 → jH → Option (Int32 × jH)) : Nat → Int32 → Int32 → jH → Option (Int32 × jH)
  | 0, _, _, _ => none
  | n + 1, x3, x4, h =>
    if x1 ≤ x4 then
      k47 x3 h
    else
      (jg_R 10 2 h x0).bind (fun v3 =>
      (jg_R 10 14 h x0).bind (fun v4 =>
      (ja_I 100 h v4 x4).bind (fun v5 =>
      j_b2 (f_X3_heardIn F v3 v5 x2 h) (fun v7 h6 =>
      f_X10_leavesNone_L17 F x0 x1 x2 k47 n (x3 - v7) (x4 + 1) h6))))
def f_X10_leavesNone_L2 (F : Nat) (x0 : Nat) (x1 : Int32) : Nat → Int32 → jH → Option (Int32 × jH)
  | 0, _, _ => none
  | n + 1, x2, h =>
    if (5 : Int32) ≤ x2 then
      some (1, h)
    else
      (jg_R 10 13 h x0).bind (fun v1 =>
      (ja_I 100 h v1 x2).bind (fun v2 =>
      f_X10_leavesNone_L17 F x0 x1 x2 (fun (y8 : Int32) (h9 : jH) =>
        if y8 = 0 then
          f_X10_leavesNone_L2 F x0 x1 n (x2 + 1) h9
        else
          some (0, h9)) F v2 0 h))
def f_X10_leavesNone (F : Nat) (a0 : Nat) (a1 : Int32) (h : jH) : Option (Int32 × jH) :=
  j_gd 10 h a0 (
    f_X10_leavesNone_L2 F a0 a1  F 0 h)
def f_X10_pickNext_L4 (F : Nat) (x0 : Nat) (x1 : Int32) (k32 : Int32 → jH → Option (Int32 × jH)) : Nat → Int32 → jH → Option (Int32 × jH)
  | 0, _, _ => none
  | n + 1, x2, h =>
    if x2 < 0 then
      k32 x2 h
    else
      (jg_R 10 14 h x0).bind (fun v1 =>
      (ja_I 100 h v1 x2).bind (fun v2 =>
      (jg_R 10 2 h x0).bind (fun v3 =>
      (jg_I 3 0 h v3).bind (fun v4 =>
      if v2 < (v4 - (1 : Int32)) then
        k32 x2 h
      else
        f_X10_pickNext_L4 F x0 x1 k32 n (x2 + (-1)) h))))
def f_X10_pickNext_L50 (F : Nat) (x0 : Nat) (x1 : Int32) (x3 : Int32) : Nat → Int32 → jH → Option (Int32 × jH)
  | 0, _, _ => none
  | n + 1, x4, h =>
    if x1 ≤ x4 then
      some (1, h)
    else
      (jg_R 10 14 h x0).bind (fun v9 =>
      (jb_I 100 h v9 x4 x3).bind (fun h10 =>
      f_X10_pickNext_L50 F x0 x1 x3 n (x4 + 1) h10))
def f_X10_pickNext (F : Nat) (a0 : Nat) (a1 : Int32) (h : jH) : Option (Int32 × jH) :=
  j_gd 10 h a0 (
    f_X10_pickNext_L4 F a0 a1 (fun (y5 : Int32) (h6 : jH) =>
      if (0 : Int32) ≤ y5 then
        (jg_R 10 14 h6 a0).bind (fun v7 =>
        (ja_I 100 h6 v7 y5).bind (fun v8 =>
        f_X10_pickNext_L50 F a0 a1 (v8 + (1 : Int32))  F y5 h6))
      else
        some (0, h6)) F (a1 - (1 : Int32)) h)
def f_X10_tellPicked_L2 (F : Nat) (x0 : Nat) (x1 : Int32) : Nat → Int32 → jH → Option jH
  | 0, _, _ => none
  | n + 1, x2, h =>
    if x1 ≤ x2 then
      some h
    else
      (jg_R 10 1 h x0).bind (fun v1 =>
      (jg_R 10 14 h x0).bind (fun v2 =>
      (ja_I 100 h v2 x2).bind (fun v3 =>
      (f_X6_add F v1 (v3.toInt64) h).bind (fun h4 =>
      f_X10_tellPicked_L2 F x0 x1 n (x2 + 1) h4))))
def f_X10_tellPicked (F : Nat) (a0 : Nat) (a1 : Int32) (h : jH) : Option jH :=
  j_gd 10 h a0 (
    f_X10_tellPicked_L2 F a0 a1  F 0 h)
def f_X10_waysToSay_L2 (F : Nat) (x0 : Nat) (x1 : Int32) (k20 : jH → Option (Int32 × jH)) : Nat → Int32 → jH → Option (Int32 × jH)
  | 0, _, _ => none
  | n + 1, x2, h =>
    if x1 ≤ x2 then
      k20 h
    else
      (jg_R 10 14 h x0).bind (fun v1 =>
      (jb_I 100 h v1 x2 0).bind (fun h2 =>
      f_X10_waysToSay_L2 F x0 x1 k20 n (x2 + 1) h2))
def f_X10_waysToSay_L27 (F : Nat) (x0 : Nat) (x1 : Int32) : Nat → Int32 → Int32 → Int32 → jH → Option (Int32 × jH)
  | 0, _, _, _, _ => none
  | n + 1, x2, x3, x4, h =>
    if (1000 : Int32) ≤ x4 then
      some (x2, h)
    else
      if x3 = 0 then
        some (x2, h)
      else
        j_b2 (f_X10_leavesNone F x0 x1 h) (fun v5 h4 =>
        j_jn (fun (z6 : Int32) (h7 : jH) =>
          j_b2 (f_X10_pickNext F x0 x1 h7) (fun v9 h8 =>
          f_X10_waysToSay_L27 F x0 x1 n z6 v9 (x4 + 1) h8)) (fun J65 =>
          if v5 = 0 then
            J65 x2 h4
          else
            (jg_R 10 1 h4 x0).bind (fun v10 =>
            (jg_I 6 1 h4 v10).bind (fun v11 =>
            j_jn (fun (h12 : jH) =>
              J65 (x2 + 1) h12) (fun J62 =>
              if v11 = 0 then
                (f_X10_tellPicked F x0 x1 h4).bind (fun h13 =>
                J62 h13)
              else
                J62 h4)))))
def f_X10_waysToSay (F : Nat) (a0 : Nat) (a1 : Int32) (h : jH) : Option (Int32 × jH) :=
  j_gd 10 h a0 (
    f_X10_waysToSay_L2 F a0 a1 (fun (h3 : jH) =>
      f_X10_waysToSay_L27 F a0 a1  F 0 1 0 h3) F 0 h)
def f_X10_said_L31 (F : Nat) (x0 : Nat) (k60 : jH → Option (Int32 × jH)) : Nat → Int32 → jH → Option (Int32 × jH)
  | 0, _, _ => none
  | n + 1, x2, h =>
    if (5 : Int32) ≤ x2 then
      k60 h
    else
      (jg_R 10 13 h x0).bind (fun v7 =>
      (jg_R 10 0 h x0).bind (fun v8 =>
      (jg_R 9 0 h v8).bind (fun v9 =>
      (ja_I 100 h v9 x2).bind (fun v10 =>
      (jb_I 100 h v7 x2 (v10 - (48 : Int32))).bind (fun h11 =>
      f_X10_said_L31 F x0 k60 n (x2 + 1) h11)))))
def f_X10_said_L71 (F : Nat) (x0 : Nat) : Nat → Int32 → Int32 → jH → Option (Int32 × jH)
  | 0, _, _, _ => none
  | n + 1, x2, x3, h =>
    if (4 : Int32) < x3 then
      some (x2, h)
    else
      (jg_R 10 2 h x0).bind (fun v15 =>
      (jg_I 3 0 h v15).bind (fun v16 =>
      if v16 ≤ 0 then
        some (x2, h)
      else
        j_b2 (f_X10_waysToSay F x0 x3 h) (fun v18 h17 =>
        f_X10_said_L71 F x0 n (x2 + v18) (x3 + 1) h17)))
def f_X10_said (F : Nat) (a0 : Nat) (h : jH) : Option (Int32 × jH) :=
  j_gd 10 h a0 (
    (jg_R 10 0 h a0).bind (fun v1 =>
    (f_X9_open F v1 5 h).bind (fun h2 =>
    j_b2 (f_X10_readDigits F a0 5 5 h2) (fun v4 h3 =>
    (jg_R 10 0 h3 a0).bind (fun v5 =>
    (jp_I 9 1 h3 v5 0).bind (fun h6 =>
    if (0 : Int32) ≤ v4 then
      f_X10_said_L31 F a0 (fun (h12 : jH) =>
        (jg_R 10 1 h12 a0).bind (fun v13 =>
        (f_X6_clear F v13 h12).bind (fun h14 =>
        f_X10_said_L71 F a0  F 0 1 h14))) F 0 h6
    else
      some (v4, h6)))))))
def f_X3_mostAlike_L12 (F : Nat) (x0 : Nat) (x1 : Int32) : Nat → Int32 → Int32 → jH → Option (Int32 × jH)
  | 0, _, _, _ => none
  | n + 1, x2, x3, h =>
    (jg_I 3 0 h x0).bind (fun v3 =>
    if v3 ≤ x3 then
      some (x2, h)
    else
      j_b2 (f_X3_heardIn F x0 x3 x1 h) (fun v5 h4 =>
      (jg_R 3 7 h4 x0).bind (fun v6 =>
      (ja_I 100 h4 v6 v5).bind (fun v7 =>
      (jb_I 100 h4 v6 v5 (v7 + (1 : Int32))).bind (fun h8 =>
      (jg_R 3 7 h8 x0).bind (fun v9 =>
      (ja_I 100 h8 v9 v5).bind (fun v10 =>
      f_X3_mostAlike_L12 F x0 x1 n (j_max x2 v10) (x3 + 1) h8)))))))
def f_X3_mostAlike (F : Nat) (a0 : Nat) (a1 : Int32) (h : jH) : Option (Int32 × jH) :=
  j_gd 3 h a0 (
    (jg_R 3 7 h a0).bind (fun v1 =>
    (f_J7_fill_53178 F v1 0 h).bind (fun h2 =>
    f_X3_mostAlike_L12 F a0 a1  F 0 0 h2)))
def f_X10_ask_L26 (F : Nat) (x0 : Nat) (k58 : Int32 → Int32 → jH → Option (Int32 × jH)) : Nat → Int32 → Int32 → Int32 → jH → Option (Int32 × jH)
  | 0, _, _, _, _ => none
  | n + 1, x1, x2, x3, h =>
    if (5 : Int32) ≤ x3 then
      k58 x1 x2 h
    else
      (jg_R 10 2 h x0).bind (fun v6 =>
      j_b2 (f_X3_mostAlike F v6 x3 h) (fun v8 h7 =>
      j_jn (fun (z9 : Int32) (z10 : Int32) (h11 : jH) =>
        f_X10_ask_L26 F x0 k58 n z9 z10 (x3 + 1) h11) (fun J52 =>
        if x2 ≤ v8 then
          J52 x1 x2 h7
        else
          J52 x3 v8 h7)))
def f_X10_ask (F : Nat) (a0 : Nat) (h : jH) : Option (Int32 × jH) :=
  j_gd 10 h a0 (
    (jg_R 10 2 h a0).bind (fun v1 =>
    (jg_I 3 0 h v1).bind (fun v2 =>
    if v2 = 0 then
      some ((-2), h)
    else
      (jg_R 10 2 h a0).bind (fun v3 =>
      j_b2 (f_X3_mostAlike F v3 0 h) (fun v5 h4 =>
      f_X10_ask_L26 F a0 (fun (y12 : Int32) (y13 : Int32) (h14 : jH) =>
        (jg_R 10 1 h14 a0).bind (fun v15 =>
        (f_X6_tell F v15 (y13.toInt64) h14).bind (fun h16 =>
        some (y12, h16)))) F 0 v5 1 h4)))))
def f_X1_below (F : Nat) (a0 : Nat) (a1 : Int32) (h : jH) : Option (Int32 × jH) :=
  j_gd 1 h a0 (
    (jg_I 1 0 h a0).bind (fun v1 =>
    (jp_I 1 0 h a0 ((v1 * (1103515245 : Int32)) + (12345 : Int32))).bind (fun h2 =>
    if a1 ≤ 0 then
      some (0, h2)
    else
      (jg_I 1 0 h2 a0).bind (fun v3 =>
      (j_rem ((v3.toUInt32 >>> ((16 : Int32).toUInt32 &&& Int32.toUInt32 31)).toInt32) a1).bind (fun v4 =>
      some (v4, h2))))))
def f_X10_drawnAct (F : Nat) (a0 : Nat) (a1 : Nat) (h : jH) : Option (Int32 × jH) :=
  j_gd 10 h a0 (
    (jg_I 10 18 h a0).bind (fun v1 =>
    j_b2 (f_X1_below F a1 v1 h) (fun v3 h2 =>
    j_b2 (f_X1_below F a1 4 h2) (fun v5 h4 =>
    if (2 : Int32) ≤ v5 then
      (jg_R 10 2 h4 a0).bind (fun v6 =>
      (jg_I 3 0 h4 v6).bind (fun v7 =>
      j_b2 (f_X1_below F a1 v7 h4) (fun v9 h8 =>
      j_b2 (f_X10_speak F a0 v3 v9 h8) (fun v11 h10 =>
      some (v11, h10)))))
    else
      j_b2 (f_X10_move F a0 v3 ((1 : Int32) - v5) h4) (fun v13 h12 =>
      some ((j_min v13 0), h12))))))
def f_X1_init (F : Nat) (a0 : Nat) (a1 : Int32) (h : jH) : Option jH :=
  (jp_I 1 0 h a0 a1).bind (fun h1 =>
  some h1)
def f_X10_years_L74 (F : Nat) (x0 : Nat) (x2 : Int32) (x3 : Nat) (x4 : Int32) (k124 : Int32 → Int32 → jH → Option (Int32 × jH)) : Nat → Int32 → Int32 → Int32 → jH → Option (Int32 × jH)
  | 0, _, _, _, _ => none
  | n + 1, x5, x6, x7, h =>
    if x2 ≤ x7 then
      k124 x5 x6 h
    else
      j_b2 (f_X10_drawnAct F x0 x3 h) (fun v15 h14 =>
      j_jn (fun (z16 : Int32) (z17 : Int32) (h18 : jH) =>
        (jg_R 10 4 h18 x0).bind (fun v19 =>
        (jg_I 7 0 h18 v19).bind (fun v20 =>
        (jp_I 7 0 h18 v19 (v20 + (1 : Int32))).bind (fun h21 =>
        f_X10_years_L74 F x0 x2 x3 x4 k124 n z16 z17 (x7 + 1) h21)))) (fun J105 =>
        if (0 : Int32) ≤ v15 then
          J105 (x5 + v15) x6 h14
        else
          J105 x5 (x6 + 1) h14))
def f_X10_years (F : Nat) (a0 : Nat) (a1 : Int32) (a2 : Int32) (h : jH) : Option (Int32 × jH) :=
  j_gd 10 h a0 (
    (jg_I 10 18 h a0).bind (fun v1 =>
    if v1 = 0 then
      some ((-2), h)
    else
      (jg_R 10 2 h a0).bind (fun v2 =>
      (jg_I 3 0 h v2).bind (fun v3 =>
      if v3 = 0 then
        some ((-2), h)
      else
        if a2 < 1 then
          some ((-1), h)
        else
          if a2 ≤ 60 then
            (jg_R 10 5 h a0).bind (fun v4 =>
            (jg_R 10 4 h a0).bind (fun v5 =>
            (f_X4_mark F v4 v5 h).bind (fun h6 =>
            j_b2 (jn_O 1 1 h6) (fun a7 h8 =>
            (f_X1_init F a7 a1 h8).bind (fun h9 =>
            (jg_R 10 4 h9 a0).bind (fun v10 =>
            (jg_I 7 1 h9 v10).bind (fun v11 =>
            j_b2 (f_J6_bitCount_0f7a4 F v11 h9) (fun v13 h12 =>
            f_X10_years_L74 F a0 a2 a7 v13 (fun (y22 : Int32) (y23 : Int32) (h24 : jH) =>
              (jg_R 10 4 h24 a0).bind (fun v25 =>
              (jg_I 7 1 h24 v25).bind (fun v26 =>
              j_b2 (f_J6_bitCount_0f7a4 F v26 h24) (fun v28 h27 =>
              (jg_R 10 5 h27 a0).bind (fun v29 =>
              (jg_R 10 4 h27 a0).bind (fun v30 =>
              (f_X4_backToMark F v29 v30 h27).bind (fun h31 =>
              (jg_R 10 1 h31 a0).bind (fun v32 =>
              (f_X6_tell_ F v32 (y22.toInt64) (y23.toInt64) h31).bind (fun h33 =>
              some ((v28 - v13), h33)))))))))) F 0 0 0 h12))))))))
          else
            some ((-1), h)))))
def f_X10_keep (F : Nat) (a0 : Nat) (a1 : Int32) (h : jH) : Option (Int32 × jH) :=
  j_gd 10 h a0 (
    if a1 < 0 then
      some (0, h)
    else
      if a1 < 2 then
        (jg_R 10 6 h a0).bind (fun v1 =>
        (ja_R h v1 a1).bind (fun v2 =>
        (jg_R 10 4 h a0).bind (fun v3 =>
        (f_X7_copy F v2 v3 h).bind (fun h4 =>
        (jg_R 10 7 h4 a0).bind (fun v5 =>
        (jb_I 102 h4 v5 a1 1).bind (fun h6 =>
        some (1, h6)))))))
      else
        some (0, h))
def f_X10_again (F : Nat) (a0 : Nat) (a1 : Int32) (h : jH) : Option (Int32 × jH) :=
  j_gd 10 h a0 (
    if a1 < 0 then
      some (0, h)
    else
      if (2 : Int32) ≤ a1 then
        some (0, h)
      else
        (jg_R 10 7 h a0).bind (fun v1 =>
        (ja_I 102 h v1 a1).bind (fun v2 =>
        if v2 = 0 then
          some (0, h)
        else
          (jg_R 10 4 h a0).bind (fun v3 =>
          (jg_R 10 6 h a0).bind (fun v4 =>
          (ja_R h v4 a1).bind (fun v5 =>
          (f_X7_copy F v3 v5 h).bind (fun h6 =>
          (jg_R 10 5 h6 a0).bind (fun v7 =>
          (jp_I 4 2 h6 v7 0).bind (fun h8 =>
          some (1, h8))))))))))
def f_X3_compounds_L4 (F : Nat) (x0 : Nat) : Nat → Int32 → Int32 → jH → Option (Int32 × jH)
  | 0, _, _, _ => none
  | n + 1, x1, x2, h =>
    (jg_I 3 0 h x0).bind (fun v1 =>
    if v1 ≤ x2 then
      some (x1, h)
    else
      j_b2 (f_X3_isCompound F x0 x2 h) (fun v3 h2 =>
      j_jn (fun (z4 : Int32) (h5 : jH) =>
        f_X3_compounds_L4 F x0 n z4 (x2 + 1) h5) (fun J26 =>
        if v3 = 0 then
          J26 x1 h2
        else
          J26 (x1 ||| ((1 : Int32) <<< (x2 &&& 31))) h2)))
def f_X3_compounds (F : Nat) (a0 : Nat) (h : jH) : Option (Int32 × jH) :=
  j_gd 3 h a0 (
    f_X3_compounds_L4 F a0  F 0 0 h)
def f_X7_vowelsInBooks_L4 (F : Nat) (x0 : Nat) : Nat → Int32 → Int32 → jH → Option (Int32 × jH)
  | 0, _, _, _ => none
  | n + 1, x1, x2, h =>
    if (30 : Int32) ≤ x2 then
      some (x1, h)
    else
      (jg_R 7 5 h x0).bind (fun v1 =>
      (ja_I 100 h v1 x2).bind (fun v2 =>
      f_X7_vowelsInBooks_L4 F x0 n (x1 + v2) (x2 + 1) h))
def f_X7_vowelsInBooks (F : Nat) (a0 : Nat) (h : jH) : Option (Int32 × jH) :=
  j_gd 7 h a0 (
    f_X7_vowelsInBooks_L4 F a0  F 0 0 h)
def f_X10_count (F : Nat) (a0 : Nat) (a1 : Int32) (h : jH) : Option (Int32 × jH) :=
  j_gd 10 h a0 (
    if a1 = 0 then
      (jg_I 10 17 h a0).bind (fun v1 =>
      some (v1, h))
    else if a1 = 1 then
      (jg_R 10 2 h a0).bind (fun v2 =>
      (jg_I 3 0 h v2).bind (fun v3 =>
      some (v3, h)))
    else if a1 = 2 then
      (jg_I 10 18 h a0).bind (fun v4 =>
      some (v4, h))
    else if a1 = 3 then
      (jg_R 10 3 h a0).bind (fun v5 =>
      (jg_I 2 0 h v5).bind (fun v6 =>
      some (v6, h)))
    else if a1 = 4 then
      (jg_R 10 4 h a0).bind (fun v7 =>
      (jg_I 7 0 h v7).bind (fun v8 =>
      some (v8, h)))
    else if a1 = 5 then
      (jg_R 10 4 h a0).bind (fun v9 =>
      (jg_I 7 1 h v9).bind (fun v10 =>
      some (v10, h)))
    else if a1 = 6 then
      (jg_R 10 4 h a0).bind (fun v11 =>
      j_b2 (f_X7_vowelsInBooks F v11 h) (fun v13 h12 =>
      some (v13, h12)))
    else if a1 = 7 then
      j_b2 (f_X10_pursesInAll F a0 h) (fun v15 h14 =>
      some (v15, h14))
    else if a1 = 8 then
      (jg_R 10 2 h a0).bind (fun v16 =>
      j_b2 (f_X3_compounds F v16 h) (fun v18 h17 =>
      some (v18, h17)))
    else if a1 = 9 then
      (jg_R 10 5 h a0).bind (fun v19 =>
      (jg_I 4 2 h v19).bind (fun v20 =>
      some (v20, h)))
    else if a1 = 10 then
      (jg_R 10 1 h a0).bind (fun v21 =>
      (jg_I 6 1 h v21).bind (fun v22 =>
      some (v22, h)))
    else if a1 = 11 then
      (jg_R 10 0 h a0).bind (fun v23 =>
      (jg_I 9 1 h v23).bind (fun v24 =>
      some (v24, h)))
    else 
      some ((-1), h))
def f_X10_row (F : Nat) (a0 : Nat) (a1 : Int32) (h : jH) : Option (Option Int64 × jH) :=
  j_gd 10 h a0 (
    j_jn (fun (h1 : jH) =>
      some (none, js_N h1 (999, 0) 6)) (fun J15 =>
      if a1 < 0 then
        J15 h
      else
        (jg_R 10 1 h a0).bind (fun v2 =>
        (jg_I 6 1 h v2).bind (fun v3 =>
        if a1 < v3 then
          (jg_R 10 1 h a0).bind (fun v4 =>
          (jg_R 6 0 h v4).bind (fun v5 =>
          (ja_L h v5 a1).bind (fun v6 =>
          some (some v6, h))))
        else
          J15 h))))
def f_X11_init (F : Nat) (a0 : Nat) (h : jH) : Option jH :=
  j_b2 (jn_A 100 h 44) (fun a1 h2 =>
  (jp_R 11 0 h2 a0 a1).bind (fun h3 =>
  (jp_I 11 1 h3 a0 1).bind (fun h4 =>
  j_b2 (jn_A 101 h4 60) (fun a5 h6 =>
  (jp_R 11 3 h6 a0 a5).bind (fun h7 =>
  j_b2 (jn_A 100 h7 10) (fun a8 h9 =>
  (jp_R 11 4 h9 a0 a8).bind (fun h10 =>
  j_b2 (jn_A 100 h10 20) (fun a11 h12 =>
  (jp_R 11 5 h12 a0 a11).bind (fun h13 =>
  j_b2 (jn_A 100 h13 32) (fun a14 h15 =>
  (jp_R 11 8 h15 a0 a14).bind (fun h16 =>
  j_b2 (jn_A 101 h16 80) (fun a17 h18 =>
  (jp_R 11 9 h18 a0 a17).bind (fun h19 =>
  j_b2 (jn_A 103 h19 20) (fun a20 h21 =>
  (jp_R 11 11 h21 a0 a20).bind (fun h22 =>
  j_b2 (jn_A 101 h22 60) (fun a23 h24 =>
  (jp_R 11 19 h24 a0 a23).bind (fun h25 =>
  j_b2 (jn_A 100 h25 10) (fun a26 h27 =>
  (jp_R 11 20 h27 a0 a26).bind (fun h28 =>
  j_b2 (jn_A 100 h28 40) (fun a29 h30 =>
  (jp_R 11 21 h30 a0 a29).bind (fun h31 =>
  j_b2 (jn_A 101 h31 40) (fun a32 h33 =>
  (jp_R 11 22 h33 a0 a32).bind (fun h34 =>
  j_b2 (jn_A 101 h34 40) (fun a35 h36 =>
  (jp_R 11 23 h36 a0 a35).bind (fun h37 =>
  j_b2 (jn_A 100 h37 7) (fun a38 h39 =>
  (jp_R 11 26 h39 a0 a38).bind (fun h40 =>
  j_b2 (jn_A 100 h40 5) (fun a41 h42 =>
  (jp_R 11 27 h42 a0 a41).bind (fun h43 =>
  j_b2 (jn_A 100 h43 528) (fun a44 h45 =>
  (jp_R 11 28 h45 a0 a44).bind (fun h46 =>
  j_b2 (jn_A 100 h46 44) (fun a47 h48 =>
  (jp_R 11 30 h48 a0 a47).bind (fun h49 =>
  j_b2 (jn_A 100 h49 240) (fun a50 h51 =>
  (jp_R 11 32 h51 a0 a50).bind (fun h52 =>
  j_b2 (jn_A 100 h52 13) (fun a53 h54 =>
  (jp_R 11 34 h54 a0 a53).bind (fun h55 =>
  j_b2 (jn_A 100 h55 6) (fun a56 h57 =>
  (jp_R 11 35 h57 a0 a56).bind (fun h58 =>
  j_b2 (jn_A 100 h58 6) (fun a59 h60 =>
  (jp_R 11 36 h60 a0 a59).bind (fun h61 =>
  j_b2 (jn_A 100 h61 49) (fun a62 h63 =>
  (jp_R 11 37 h63 a0 a62).bind (fun h64 =>
  j_b2 (jn_A 100 h64 1536) (fun a65 h66 =>
  (jp_R 11 38 h66 a0 a65).bind (fun h67 =>
  j_b2 (jn_A 100 h67 1536) (fun a68 h69 =>
  (jp_R 11 39 h69 a0 a68).bind (fun h70 =>
  j_b2 (jn_A 100 h70 10) (fun a71 h72 =>
  (jp_R 11 44 h72 a0 a71).bind (fun h73 =>
  j_b2 (jn_A 100 h73 5) (fun a74 h75 =>
  (jp_R 11 45 h75 a0 a74).bind (fun h76 =>
  j_b2 (jn_A 100 h76 4) (fun a77 h78 =>
  (jp_R 11 46 h78 a0 a77).bind (fun h79 =>
  j_b2 (jn_A 100 h79 4) (fun a80 h81 =>
  (jp_R 11 47 h81 a0 a80).bind (fun h82 =>
  j_b2 (jn_A 100 h82 44) (fun a83 h84 =>
  (jp_R 11 51 h84 a0 a83).bind (fun h85 =>
  j_b2 (jn_A 100 h85 88) (fun a86 h87 =>
  (jp_R 11 53 h87 a0 a86).bind (fun h88 =>
  j_b2 (jn_A 102 h88 2) (fun a89 h90 =>
  (jp_R 11 54 h90 a0 a89).bind (fun h91 =>
  j_b2 (jn_A 100 h91 2) (fun a92 h93 =>
  (jp_R 11 55 h93 a0 a92).bind (fun h94 =>
  some h94)))))))))))))))))))))))))))))))))))))))))))))))))))))))))))))))
def f_X11_thrown (F : Nat) (a0 : Nat) (h : jH) : Option (Int32 × jH) :=
  j_gd 11 h a0 (
    (jg_I 11 13 h a0).bind (fun v1 =>
    some (v1, h)))
def f_X11_in (F : Nat) (a0 : Int32) (a1 : Int32) (a2 : Int32) (h : jH) : Option (Int32 × jH) :=
  if a0 < a1 then
    some (0, h)
  else
    if a2 < a0 then
      some (0, h)
    else
      some (1, h)
def f_X11_has (F : Nat) (a0 : Int32) (a1 : Int32) (h : jH) : Option (Int32 × jH) :=
  if ((a0 >>> (a1 &&& 31)) &&& (1 : Int32)) = 1 then
    some (1, h)
  else
    some (0, h)
def f_X11_lost (F : Nat) (a0 : Nat) (h : jH) : Option (Int32 × jH) :=
  j_gd 11 h a0 (
    (jp_I 11 13 h a0 1).bind (fun h1 =>
    some (0, h1)))
def f_X11_tell (F : Nat) (a0 : Nat) (a1 : Int64) (h : jH) : Option jH :=
  j_gd 11 h a0 (
    (jg_R 11 11 h a0).bind (fun v1 =>
    (jg_I 11 12 h a0).bind (fun v2 =>
    (jb_L h v1 v2 a1).bind (fun h3 =>
    (jg_I 11 12 h3 a0).bind (fun v4 =>
    (jp_I 11 12 h3 a0 (v4 + (1 : Int32))).bind (fun h5 =>
    some h5))))))
def f_X11_isStation (F : Nat) (a0 : Nat) (a1 : Int32) (h : jH) : Option (Int32 × jH) :=
  j_gd 11 h a0 (
    (jg_I 11 1 h a0).bind (fun v1 =>
    j_b2 (f_X11_in F a1 0 (v1 - (1 : Int32)) h) (fun v3 h2 =>
    j_rz v3 h2)))
def f_X11_isWord (F : Nat) (a0 : Nat) (a1 : Int32) (h : jH) : Option (Int32 × jH) :=
  j_gd 11 h a0 (
    (jg_I 11 2 h a0).bind (fun v1 =>
    j_b2 (f_X11_in F a1 0 (v1 - (1 : Int32)) h) (fun v3 h2 =>
    j_rz v3 h2)))
def f_X11_isOne (F : Nat) (a0 : Nat) (a1 : Int32) (h : jH) : Option (Int32 × jH) :=
  j_gd 11 h a0 (
    (jg_I 11 6 h a0).bind (fun v1 =>
    j_b2 (f_X11_in F a1 0 (v1 - (1 : Int32)) h) (fun v3 h2 =>
    j_rz v3 h2)))
def f_X11_isMeaning (F : Nat) (a0 : Int32) (h : jH) : Option (Int32 × jH) :=
  j_b2 (f_X11_in F a0 0 9 h) (fun v2 h1 =>
  j_rz v2 h1)
def f_X11_sign_L20 (F : Nat) (x0 : Nat) (x1 : Int32) (k53 : jH → Option (Int32 × jH)) : Nat → Int32 → jH → Option (Int32 × jH)
  | 0, _, _ => none
  | n + 1, x2, h =>
    if x2 < 0 then
      k53 h
    else
      (jg_R 11 9 h x0).bind (fun v3 =>
      (jg_I 11 10 h x0).bind (fun v4 =>
      (jp_I 11 10 h x0 (v4 + (1 : Int32))).bind (fun h5 =>
      (jb_I 101 h5 v3 v4 (((x1 >>> (((8 : Int32) * x2) &&& 31)).toInt8.toInt32).toInt8.toInt32)).bind (fun h6 =>
      f_X11_sign_L20 F x0 x1 k53 n (x2 + (-1)) h6))))
def f_X11_sign (F : Nat) (a0 : Nat) (a1 : Int32) (h : jH) : Option (Int32 × jH) :=
  j_gd 11 h a0 (
    (jp_I 11 13 h a0 0).bind (fun h1 =>
    (jg_I 11 10 h1 a0).bind (fun v2 =>
    if (v2 + (4 : Int32)) ≤ 80 then
      f_X11_sign_L20 F a0 a1 (fun (h7 : jH) =>
        (jg_I 11 10 h7 a0).bind (fun v8 =>
        some (v8, h7))) F 3 h1
    else
      some ((-1), h1))))
def f_X11_end (F : Nat) (a0 : Nat) (a1 : Int32) (h : jH) : Option (Int32 × jH) :=
  j_gd 11 h a0 (
    (jp_I 11 13 h a0 0).bind (fun h1 =>
    (jg_I 11 10 h1 a0).bind (fun v2 =>
    j_b2 (f_X11_in F a1 0 v2 h1) (fun v4 h3 =>
    if v4 = 0 then
      some (0, h3)
    else
      (jp_I 11 10 h3 a0 a1).bind (fun h5 =>
      some (1, h5))))))
def f_X11_begin (F : Nat) (a0 : Nat) (a1 : Nat) (a2 : Int32) (a3 : Int32) (h : jH) : Option jH :=
  j_gd 11 h a0 (
    (jp_R 11 14 h a0 a1).bind (fun h1 =>
    (jp_I 11 15 h1 a0 a2).bind (fun h2 =>
    (jp_I 11 16 h2 a0 a3).bind (fun h3 =>
    (jp_I 11 17 h3 a0 0).bind (fun h4 =>
    (jp_I 11 18 h4 a0 (-1)).bind (fun h5 =>
    some h5))))))
def f_X11_beginText (F : Nat) (a0 : Nat) (a1 : Int32) (h : jH) : Option jH :=
  j_gd 11 h a0 (
    (jg_R 11 9 h a0).bind (fun v1 =>
    (jg_I 11 10 h a0).bind (fun v2 =>
    (f_X11_begin F a0 v1 v2 a1 h).bind (fun h3 =>
    (jp_I 11 10 h3 a0 0).bind (fun h4 =>
    some h4)))))
def f_X11_here (F : Nat) (a0 : Nat) (h : jH) : Option (Int32 × jH) :=
  j_gd 11 h a0 (
    (jg_I 11 17 h a0).bind (fun v1 =>
    (jg_I 11 15 h a0).bind (fun v2 =>
    if v2 ≤ v1 then
      some ((-1), h)
    else
      (jg_I 11 17 h a0).bind (fun v3 =>
      (jg_I 11 16 h a0).bind (fun v4 =>
      if v4 ≤ v3 then
        some ((-1), h)
      else
        (jg_R 11 14 h a0).bind (fun v5 =>
        (jg_I 11 17 h a0).bind (fun v6 =>
        (ja_I 101 h v5 v6).bind (fun v7 =>
        some ((v7 &&& (255 : Int32)), h)))))))))
def f_X11_fine (F : Nat) (a0 : Nat) (h : jH) : Option (Int32 × jH) :=
  j_gd 11 h a0 (
    (jg_I 11 18 h a0).bind (fun v1 =>
    if v1 = (-1) then
      some (1, h)
    else
      some (0, h)))
def f_X11_fault (F : Nat) (a0 : Nat) (a1 : Int32) (h : jH) : Option jH :=
  j_gd 11 h a0 (
    j_b2 (f_X11_fine F a0 h) (fun v2 h1 =>
    if v2 = 0 then
      some h1
    else
      (jp_I 11 18 h1 a0 a1).bind (fun h3 =>
      some h3)))
def f_X11_passes (F : Nat) (a0 : Nat) (a1 : Int32) (h : jH) : Option (Int32 × jH) :=
  j_gd 11 h a0 (
    j_b2 (f_X11_fine F a0 h) (fun v2 h1 =>
    if v2 = 0 then
      some (0, h1)
    else
      j_b2 (f_X11_here F a0 h1) (fun v4 h3 =>
      if v4 = a1 then
        (jg_I 11 17 h3 a0).bind (fun v5 =>
        (jp_I 11 17 h3 a0 (v5 + (1 : Int32))).bind (fun h6 =>
        some (1, h6)))
      else
        some (0, h3))))
def f_X11_need (F : Nat) (a0 : Nat) (a1 : Int32) (h : jH) : Option jH :=
  j_gd 11 h a0 (
    j_b2 (f_X11_passes F a0 a1 h) (fun v2 h1 =>
    if v2 = 0 then
      (jg_I 11 17 h1 a0).bind (fun v3 =>
      (f_X11_fault F a0 v3 h1).bind (fun h4 =>
      some h4))
    else
      some h1))
def f_X11_oneOf (F : Nat) (a0 : Nat) (a1 : Int32) (a2 : Int32) (h : jH) : Option (Int32 × jH) :=
  j_gd 11 h a0 (
    j_b2 (f_X11_fine F a0 h) (fun v2 h1 =>
    if v2 = 0 then
      some (0, h1)
    else
      j_b2 (f_X11_here F a0 h1) (fun v4 h3 =>
      j_b2 (f_X11_in F v4 a1 ((a1 + a2) - (1 : Int32)) h3) (fun v6 h5 =>
      if v6 = 0 then
        (jg_I 11 17 h5 a0).bind (fun v7 =>
        (f_X11_fault F a0 v7 h5).bind (fun h8 =>
        some (0, h8)))
      else
        (jg_I 11 17 h5 a0).bind (fun v9 =>
        (jp_I 11 17 h5 a0 (v9 + (1 : Int32))).bind (fun h10 =>
        (jg_R 11 14 h10 a0).bind (fun v11 =>
        (jg_I 11 17 h10 a0).bind (fun v12 =>
        (ja_I 101 h10 v11 (v12 - (1 : Int32))).bind (fun v13 =>
        some ((v13 - a1), h10))))))))))
def f_X11_number_L11 (F : Nat) (x0 : Nat) (x1 : Int32) : Nat → Int32 → Int32 → jH → Option (Int32 × jH)
  | 0, _, _, _ => none
  | n + 1, x2, x3, h =>
    if x1 ≤ x3 then
      some (x2, h)
    else
      j_b2 (f_X11_fine F x0 h) (fun v4 h3 =>
      if v4 = 0 then
        some (x2, h3)
      else
        j_b2 (f_X11_here F x0 h3) (fun v6 h5 =>
        j_b2 (f_X11_in F v6 48 57 h5) (fun v8 h7 =>
        if v8 = 0 then
          some (x2, h7)
        else
          j_b2 (f_X11_oneOf F x0 48 10 h7) (fun v10 h9 =>
          f_X11_number_L11 F x0 x1 n (((10 : Int32) * x2) + v10) (x3 + 1) h9))))
def f_X11_number (F : Nat) (a0 : Nat) (a1 : Int32) (h : jH) : Option (Int32 × jH) :=
  j_gd 11 h a0 (
    j_b2 (f_X11_oneOf F a0 48 10 h) (fun v2 h1 =>
    f_X11_number_L11 F a0 a1  F v2 1 h1))
def f_X11_wasRight (F : Nat) (a0 : Nat) (h : jH) : Option (Int32 × jH) :=
  j_gd 11 h a0 (
    (jg_I 11 17 h a0).bind (fun v1 =>
    (jg_I 11 15 h a0).bind (fun v2 =>
    j_jn (fun (h3 : jH) =>
      j_b2 (f_X11_fine F a0 h3) (fun v5 h4 =>
      j_rz v5 h4)) (fun J19 =>
      if v2 ≤ v1 then
        J19 h
      else
        (jg_I 11 17 h a0).bind (fun v6 =>
        (f_X11_fault F a0 v6 h).bind (fun h7 =>
        J19 h7))))))
def f_X11_road_L19 (F : Nat) (x0 : Nat) (x1 : Int32) (k45 : jH → Option (Int32 × jH)) : Nat → Int32 → jH → Option (Int32 × jH)
  | 0, _, _ => none
  | n + 1, x2, h =>
    (jg_I 11 6 h x0).bind (fun v4 =>
    if v4 ≤ x2 then
      k45 h
    else
      (jg_R 11 0 h x0).bind (fun v5 =>
      (ja_I 100 h v5 x2).bind (fun v6 =>
      if v6 < x1 then
        f_X11_road_L19 F x0 x1 k45 n (x2 + 1) h
      else
        some ((-1), h))))
def f_X11_road_L47 (F : Nat) (x0 : Nat) (x1 : Int32) (k77 : jH → Option (Int32 × jH)) : Nat → Int32 → jH → Option (Int32 × jH)
  | 0, _, _ => none
  | n + 1, x2, h =>
    (jg_I 11 7 h x0).bind (fun v8 =>
    if v8 ≤ x2 then
      k77 h
    else
      (jg_R 11 8 h x0).bind (fun v9 =>
      (ja_I 100 h v9 (((4 : Int32) * x2) + (2 : Int32))).bind (fun v10 =>
      if v10 < x1 then
        f_X11_road_L47 F x0 x1 k77 n (x2 + 1) h
      else
        some ((-1), h))))
def f_X11_road_L91 (F : Nat) (x0 : Nat) (x2 : Int32) (k113 : jH → Option (Int32 × jH)) : Nat → Int32 → jH → Option (Int32 × jH)
  | 0, _, _ => none
  | n + 1, x3, h =>
    if (30 : Int32) ≤ x3 then
      k113 h
    else
      (jg_R 11 0 h x0).bind (fun v14 =>
      (jb_I 100 h v14 ((14 : Int32) + x3) 0).bind (fun h15 =>
      f_X11_road_L91 F x0 x2 k113 n (x3 + 1) h15))
def f_X11_road (F : Nat) (a0 : Nat) (a1 : Int32) (h : jH) : Option (Int32 × jH) :=
  j_gd 11 h a0 (
    (jp_I 11 13 h a0 0).bind (fun h1 =>
    j_b2 (f_X11_in F a1 1 6 h1) (fun v3 h2 =>
    if v3 = 0 then
      some ((-1), h2)
    else
      f_X11_road_L19 F a0 a1 (fun (h7 : jH) =>
        f_X11_road_L47 F a0 a1 (fun (h11 : jH) =>
          (jg_I 11 1 h11 a0).bind (fun v12 =>
          (jp_I 11 1 h11 a0 a1).bind (fun h13 =>
          f_X11_road_L91 F a0 v12 (fun (h16 : jH) =>
            (jp_I 11 29 h16 a0 0).bind (fun h17 =>
            (jg_I 11 52 h17 a0).bind (fun v18 =>
            (jp_I 11 52 h17 a0 (v18 + (1 : Int32))).bind (fun h19 =>
            some (v12, h19))))) F ((5 : Int32) * a1) h13))) F 0 h7) F 0 h2)))
def f_X11_readWord_L66 (F : Nat) (x0 : Nat) (x1 : Int32) : Nat → jH → Option jH
  | 0, _ => none
  | n + 1, h =>
    j_b2 (f_X11_fine F x0 h) (fun v16 h15 =>
    if v16 = 0 then
      some h15
    else
      (jg_R 11 20 h15 x0).bind (fun v17 =>
      (ja_I 100 h15 v17 x1).bind (fun v18 =>
      j_jn (fun (h19 : jH) =>
        (jg_R 11 20 h19 x0).bind (fun v20 =>
        (ja_I 100 h19 v20 x1).bind (fun v21 =>
        if v21 = 6 then
          (jg_I 11 17 h19 x0).bind (fun v22 =>
          (f_X11_fault F x0 v22 h19).bind (fun h23 =>
          f_X11_readWord_L66 F x0 x1 n h23))
        else
          (jg_R 11 19 h19 x0).bind (fun v24 =>
          (jg_R 11 20 h19 x0).bind (fun v25 =>
          (ja_I 100 h19 v25 x1).bind (fun v26 =>
          j_b2 (f_X11_oneOf F x0 97 26 h19) (fun v28 h27 =>
          (jb_I 101 h27 v24 (((6 : Int32) * x1) + v26) ((v28.toInt8.toInt32).toInt8.toInt32)).bind (fun h29 =>
          (jg_R 11 20 h29 x0).bind (fun v30 =>
          (ja_I 100 h29 v30 x1).bind (fun v31 =>
          (jb_I 100 h29 v30 x1 (v31 + (1 : Int32))).bind (fun h32 =>
          f_X11_readWord_L66 F x0 x1 n h32))))))))))) (fun J96 =>
        if v18 = 0 then
          J96 h15
        else
          j_b2 (f_X11_here F x0 h15) (fun v34 h33 =>
          j_b2 (f_X11_in F v34 97 122 h33) (fun v36 h35 =>
          if v36 = 0 then
            some h35
          else
            J96 h35))))))
def f_X11_readWord (F : Nat) (a0 : Nat) (a1 : Int32) (h : jH) : Option jH :=
  j_gd 11 h a0 (
    (jg_R 11 21 h a0).bind (fun v1 =>
    j_b2 (f_X11_oneOf F a0 48 10 h) (fun v3 h2 =>
    (jb_I 100 h2 v1 ((2 : Int32) * a1) v3).bind (fun h4 =>
    (jg_R 11 21 h4 a0).bind (fun v5 =>
    j_b2 (f_X11_fine F a0 h4) (fun v7 h6 =>
    j_jn (fun (s8 : Int32) (s9 : Int32) (s10 : Nat) (h11 : jH) =>
      (jb_I 100 h11 s10 s9 s8).bind (fun h12 =>
      (jg_R 11 20 h12 a0).bind (fun v13 =>
      (jb_I 100 h12 v13 a1 0).bind (fun h14 =>
      f_X11_readWord_L66 F a0 a1  F h14)))) (fun J58 =>
      j_jn (fun (s37 : Int32) (s38 : Nat) (h39 : jH) =>
        J58 (-1) s37 s38 h39) (fun J57 =>
        if v7 = 0 then
          J57 (((2 : Int32) * a1) + (1 : Int32)) v5 h6
        else
          j_b2 (f_X11_here F a0 h6) (fun v41 h40 =>
          j_b2 (f_X11_in F v41 48 57 h40) (fun v43 h42 =>
          if v43 = 0 then
            J57 (((2 : Int32) * a1) + (1 : Int32)) v5 h42
          else
            j_b2 (f_X11_oneOf F a0 48 10 h42) (fun v45 h44 =>
            J58 v45 (((2 : Int32) * a1) + (1 : Int32)) v5 h44)))))))))))
def f_X11_words_L24 (F : Nat) (x0 : Nat) (k75 : Int32 → jH → Option (Int32 × jH)) : Nat → Int32 → Int32 → jH → Option (Int32 × jH)
  | 0, _, _, _ => none
  | n + 1, x1, x2, h =>
    if x2 = 0 then
      k75 x1 h
    else
      j_b2 (f_X11_fine F x0 h) (fun v5 h4 =>
      if v5 = 0 then
        k75 x1 h4
      else
        (jg_I 11 2 h4 x0).bind (fun v6 =>
        j_jn (fun (h7 : jH) =>
          j_b2 (f_X11_passes F x0 59 h7) (fun v9 h8 =>
          f_X11_words_L24 F x0 k75 n (x1 + 1) v9 h8)) (fun J62 =>
          if (v6 + x1) = 10 then
            (jg_I 11 17 h4 x0).bind (fun v10 =>
            (f_X11_fault F x0 v10 h4).bind (fun h11 =>
            J62 h11))
          else
            (f_X11_readWord F x0 x1 h4).bind (fun h12 =>
            J62 h12))))
def f_X11_words_L99 (F : Nat) (x0 : Nat) (x1 : Int32) (x3 : Int32) (k139 : jH → Option (Int32 × jH)) : Nat → Int32 → jH → Option (Int32 × jH)
  | 0, _, _ => none
  | n + 1, x4, h =>
    if (6 : Int32) ≤ x4 then
      k139 h
    else
      (jg_R 11 3 h x0).bind (fun v18 =>
      (jg_I 11 2 h x0).bind (fun v19 =>
      (jg_R 11 19 h x0).bind (fun v20 =>
      (ja_I 101 h v20 (((6 : Int32) * x3) + x4)).bind (fun v21 =>
      (jb_I 101 h v18 (((6 : Int32) * v19) + x4) (v21.toInt8.toInt32)).bind (fun h22 =>
      f_X11_words_L99 F x0 x1 x3 k139 n (x4 + 1) h22)))))
def f_X11_words_L91 (F : Nat) (x0 : Nat) (x1 : Int32) (k212 : jH → Option (Int32 × jH)) : Nat → Int32 → jH → Option (Int32 × jH)
  | 0, _, _ => none
  | n + 1, x3, h =>
    if x1 ≤ x3 then
      k212 h
    else
      f_X11_words_L99 F x0 x1 x3 (fun (h23 : jH) =>
        (jg_R 11 4 h23 x0).bind (fun v24 =>
        (jg_I 11 2 h23 x0).bind (fun v25 =>
        (jg_R 11 20 h23 x0).bind (fun v26 =>
        (ja_I 100 h23 v26 x3).bind (fun v27 =>
        (jb_I 100 h23 v24 v25 v27).bind (fun h28 =>
        (jg_R 11 5 h28 x0).bind (fun v29 =>
        (jg_I 11 2 h28 x0).bind (fun v30 =>
        (jg_R 11 21 h28 x0).bind (fun v31 =>
        (ja_I 100 h28 v31 ((2 : Int32) * x3)).bind (fun v32 =>
        (jb_I 100 h28 v29 ((2 : Int32) * v30) v32).bind (fun h33 =>
        (jg_R 11 5 h33 x0).bind (fun v34 =>
        (jg_I 11 2 h33 x0).bind (fun v35 =>
        (jg_R 11 21 h33 x0).bind (fun v36 =>
        (ja_I 100 h33 v36 (((2 : Int32) * x3) + (1 : Int32))).bind (fun v37 =>
        (jb_I 100 h33 v34 (((2 : Int32) * v35) + (1 : Int32)) v37).bind (fun h38 =>
        (jg_I 11 2 h38 x0).bind (fun v39 =>
        (jp_I 11 2 h38 x0 (v39 + (1 : Int32))).bind (fun h40 =>
        f_X11_words_L91 F x0 x1 k212 n (x3 + 1) h40)))))))))))))))))) F 0 h
def f_X11_words (F : Nat) (a0 : Nat) (h : jH) : Option (Int32 × jH) :=
  j_gd 11 h a0 (
    (jp_I 11 13 h a0 0).bind (fun h1 =>
    (f_X11_beginText F a0 76 h1).bind (fun h2 =>
    (jg_I 11 15 h2 a0).bind (fun v3 =>
    if v3 = 0 then
      some (0, h2)
    else
      f_X11_words_L24 F a0 (fun (y13 : Int32) (h14 : jH) =>
        j_b2 (f_X11_wasRight F a0 h14) (fun v16 h15 =>
        if v16 = 0 then
          (jg_I 11 18 h15 a0).bind (fun v17 =>
          some ((((-1) : Int32) - v17), h15))
        else
          f_X11_words_L91 F a0 y13 (fun (h41 : jH) =>
            (jp_I 11 29 h41 a0 0).bind (fun h42 =>
            (jg_I 11 52 h42 a0).bind (fun v43 =>
            (jp_I 11 52 h42 a0 (v43 + (1 : Int32))).bind (fun h44 =>
            some (y13, h44))))) F 0 h15)) F 0 1 h2))))
def f_X11_travellers_L24 (F : Nat) (x0 : Nat) (k108 : Int32 → jH → Option (Int32 × jH)) : Nat → Int32 → Int32 → jH → Option (Int32 × jH)
  | 0, _, _, _ => none
  | n + 1, x1, x2, h =>
    if x2 = 0 then
      k108 x1 h
    else
      j_b2 (f_X11_fine F x0 h) (fun v5 h4 =>
      if v5 = 0 then
        k108 x1 h4
      else
        (jg_I 11 6 h4 x0).bind (fun v6 =>
        j_jn (fun (h7 : jH) =>
          j_b2 (f_X11_passes F x0 59 h7) (fun v9 h8 =>
          f_X11_travellers_L24 F x0 k108 n (x1 + 1) v9 h8)) (fun J95 =>
          if (v6 + x1) = 4 then
            (jg_I 11 17 h4 x0).bind (fun v10 =>
            (f_X11_fault F x0 v10 h4).bind (fun h11 =>
            J95 h11))
          else
            (jg_R 11 21 h4 x0).bind (fun v12 =>
            (jg_I 11 1 h4 x0).bind (fun v13 =>
            j_b2 (f_X11_oneOf F x0 48 v13 h4) (fun v15 h14 =>
            (jb_I 100 h14 v12 ((2 : Int32) * x1) v15).bind (fun h16 =>
            (f_X11_need F x0 58 h16).bind (fun h17 =>
            (jg_R 11 21 h17 x0).bind (fun v18 =>
            j_b2 (f_X11_number F x0 3 h17) (fun v20 h19 =>
            (jb_I 100 h19 v18 (((2 : Int32) * x1) + (1 : Int32)) v20).bind (fun h21 =>
            J95 h21)))))))))))
def f_X11_travellers_L124 (F : Nat) (x0 : Nat) (x1 : Int32) (k196 : jH → Option (Int32 × jH)) : Nat → Int32 → jH → Option (Int32 × jH)
  | 0, _, _ => none
  | n + 1, x3, h =>
    if x1 ≤ x3 then
      k196 h
    else
      (jg_R 11 0 h x0).bind (fun v27 =>
      (jg_I 11 6 h x0).bind (fun v28 =>
      (jg_R 11 21 h x0).bind (fun v29 =>
      (ja_I 100 h v29 ((2 : Int32) * x3)).bind (fun v30 =>
      (jb_I 100 h v27 v28 v30).bind (fun h31 =>
      (jg_R 11 0 h31 x0).bind (fun v32 =>
      (jg_I 11 6 h31 x0).bind (fun v33 =>
      (jg_R 11 21 h31 x0).bind (fun v34 =>
      (ja_I 100 h31 v34 (((2 : Int32) * x3) + (1 : Int32))).bind (fun v35 =>
      (jb_I 100 h31 v32 ((4 : Int32) + v33) v35).bind (fun h36 =>
      (jg_R 11 0 h36 x0).bind (fun v37 =>
      (jg_I 11 6 h36 x0).bind (fun v38 =>
      (jb_I 100 h36 v37 ((8 : Int32) + v38) 0).bind (fun h39 =>
      (jg_I 11 6 h39 x0).bind (fun v40 =>
      (jp_I 11 6 h39 x0 (v40 + (1 : Int32))).bind (fun h41 =>
      f_X11_travellers_L124 F x0 x1 k196 n (x3 + 1) h41)))))))))))))))
def f_X11_travellers (F : Nat) (a0 : Nat) (h : jH) : Option (Int32 × jH) :=
  j_gd 11 h a0 (
    (jp_I 11 13 h a0 0).bind (fun h1 =>
    (f_X11_beginText F a0 40 h1).bind (fun h2 =>
    (jg_I 11 15 h2 a0).bind (fun v3 =>
    if v3 = 0 then
      some (0, h2)
    else
      f_X11_travellers_L24 F a0 (fun (y22 : Int32) (h23 : jH) =>
        j_b2 (f_X11_wasRight F a0 h23) (fun v25 h24 =>
        if v25 = 0 then
          (jg_I 11 18 h24 a0).bind (fun v26 =>
          some ((((-1) : Int32) - v26), h24))
        else
          f_X11_travellers_L124 F a0 y22 (fun (h42 : jH) =>
            (jp_I 11 29 h42 a0 0).bind (fun h43 =>
            (jg_I 11 52 h43 a0).bind (fun v44 =>
            (jp_I 11 52 h43 a0 (v44 + (1 : Int32))).bind (fun h45 =>
            some (y22, h45))))) F 0 h24)) F 0 1 h2))))
def f_X11_errands_L24 (F : Nat) (x0 : Nat) (k147 : Int32 → jH → Option (Int32 × jH)) : Nat → Int32 → Int32 → jH → Option (Int32 × jH)
  | 0, _, _, _ => none
  | n + 1, x1, x2, h =>
    if x2 = 0 then
      k147 x1 h
    else
      j_b2 (f_X11_fine F x0 h) (fun v5 h4 =>
      if v5 = 0 then
        k147 x1 h4
      else
        (jg_I 11 7 h4 x0).bind (fun v6 =>
        j_jn (fun (h7 : jH) =>
          j_b2 (f_X11_passes F x0 59 h7) (fun v9 h8 =>
          f_X11_errands_L24 F x0 k147 n (x1 + 1) v9 h8)) (fun J134 =>
          if (v6 + x1) = 8 then
            (jg_I 11 17 h4 x0).bind (fun v10 =>
            (f_X11_fault F x0 v10 h4).bind (fun h11 =>
            J134 h11))
          else
            (jg_R 11 21 h4 x0).bind (fun v12 =>
            (jg_I 11 6 h4 x0).bind (fun v13 =>
            j_b2 (f_X11_oneOf F x0 97 v13 h4) (fun v15 h14 =>
            (jb_I 100 h14 v12 ((4 : Int32) * x1) v15).bind (fun h16 =>
            (jg_R 11 21 h16 x0).bind (fun v17 =>
            j_b2 (f_X11_oneOf F x0 48 10 h16) (fun v19 h18 =>
            (jb_I 100 h18 v17 (((4 : Int32) * x1) + (1 : Int32)) v19).bind (fun h20 =>
            (jg_R 11 21 h20 x0).bind (fun v21 =>
            (jg_I 11 1 h20 x0).bind (fun v22 =>
            j_b2 (f_X11_oneOf F x0 48 v22 h20) (fun v24 h23 =>
            (jb_I 100 h23 v21 (((4 : Int32) * x1) + (2 : Int32)) v24).bind (fun h25 =>
            (f_X11_need F x0 61 h25).bind (fun h26 =>
            (jg_R 11 21 h26 x0).bind (fun v27 =>
            j_b2 (f_X11_number F x0 2 h26) (fun v29 h28 =>
            (jb_I 100 h28 v27 (((4 : Int32) * x1) + (3 : Int32)) v29).bind (fun h30 =>
            J134 h30))))))))))))))))))
def f_X11_errands_L163 (F : Nat) (x0 : Nat) (x1 : Int32) (k195 : jH → Option (Int32 × jH)) : Nat → Int32 → jH → Option (Int32 × jH)
  | 0, _, _ => none
  | n + 1, x3, h =>
    if ((4 : Int32) * x1) ≤ x3 then
      k195 h
    else
      (jg_R 11 8 h x0).bind (fun v36 =>
      (jg_I 11 7 h x0).bind (fun v37 =>
      (jg_R 11 21 h x0).bind (fun v38 =>
      (ja_I 100 h v38 x3).bind (fun v39 =>
      (jb_I 100 h v36 (((4 : Int32) * v37) + x3) v39).bind (fun h40 =>
      f_X11_errands_L163 F x0 x1 k195 n (x3 + 1) h40)))))
def f_X11_errands (F : Nat) (a0 : Nat) (h : jH) : Option (Int32 × jH) :=
  j_gd 11 h a0 (
    (jp_I 11 13 h a0 0).bind (fun h1 =>
    (f_X11_beginText F a0 76 h1).bind (fun h2 =>
    (jg_I 11 15 h2 a0).bind (fun v3 =>
    if v3 = 0 then
      some (0, h2)
    else
      f_X11_errands_L24 F a0 (fun (y31 : Int32) (h32 : jH) =>
        j_b2 (f_X11_wasRight F a0 h32) (fun v34 h33 =>
        if v34 = 0 then
          (jg_I 11 18 h33 a0).bind (fun v35 =>
          some ((((-1) : Int32) - v35), h33))
        else
          f_X11_errands_L163 F a0 y31 (fun (h41 : jH) =>
            (jg_I 11 7 h41 a0).bind (fun v42 =>
            (jp_I 11 7 h41 a0 (v42 + y31)).bind (fun h43 =>
            (jp_I 11 29 h43 a0 0).bind (fun h44 =>
            (jg_I 11 52 h44 a0).bind (fun v45 =>
            (jp_I 11 52 h44 a0 (v45 + (1 : Int32))).bind (fun h46 =>
            some (y31, h46))))))) F 0 h33)) F 0 1 h2))))
def f_X11_letterOf (F : Nat) (a0 : Int32) (h : jH) : Option (Int32 × jH) :=
  if a0 = 118 then
    some (0, h)
  else
    if a0 = 115 then
      some (1, h)
    else
      if a0 = 104 then
        some (2, h)
      else
        if a0 = 108 then
          some (3, h)
        else
          if a0 = 112 then
            some (4, h)
          else
            if a0 = 110 then
              some (5, h)
            else
              if a0 = 100 then
                some (6, h)
              else
                some ((-1), h)
def b_X11_held (F : Nat) (rec : Nat → Nat → Int32 → jH → Option (Int32 × jH)) (a0 : Nat) (a1 : Int32) (h : jH) : Option (Int32 × jH) :=
  j_gd 11 h a0 (
    j_b2 (rec 1 a0 a1 h) (fun v2 h1 =>
    j_b2 (f_X11_passes F a0 60 h1) (fun v4 h3 =>
    if v4 = 0 then
      j_b2 (f_X11_passes F a0 62 h3) (fun v6 h5 =>
      if v6 = 0 then
        j_b2 (f_X11_passes F a0 61 h5) (fun v8 h7 =>
        if v8 = 0 then
          some (v2, h7)
        else
          j_b2 (rec 1 a0 a1 h7) (fun v10 h9 =>
          if v2 = v10 then
            some (1, h9)
          else
            some (0, h9)))
      else
        j_b2 (rec 1 a0 a1 h5) (fun v12 h11 =>
        if v2 ≤ v12 then
          some (0, h11)
        else
          some (1, h11)))
    else
      j_b2 (rec 1 a0 a1 h3) (fun v14 h13 =>
      if v14 ≤ v2 then
        some (0, h13)
      else
        some (1, h13)))))
def f_X11_sum_L6 (F : Nat) (rec : Nat → Nat → Int32 → jH → Option (Int32 × jH)) (x0 : Nat) (x1 : Int32) : Nat → Int32 → jH → Option (Int32 × jH)
  | 0, _, _ => none
  | n + 1, x2, h =>
    j_b2 (f_X11_fine F x0 h) (fun v4 h3 =>
    if v4 = 0 then
      some (x2, h3)
    else
      j_b2 (f_X11_here F x0 h3) (fun v6 h5 =>
      j_jn (fun (h7 : jH) =>
        j_b2 (f_X11_here F x0 h7) (fun v9 h8 =>
        j_jn (fun (s10 : Int32) (h11 : jH) =>
          (jg_I 11 17 h11 x0).bind (fun v12 =>
          (jp_I 11 17 h11 x0 (v12 + (1 : Int32))).bind (fun h13 =>
          j_b2 (rec 2 x0 x1 h13) (fun v15 h14 =>
          j_jn (fun (s16 : Int32) (h17 : jH) =>
            f_X11_sum_L6 F rec x0 x1 n s16 h17) (fun J78 =>
            if s10 = 0 then
              J78 (x2 - v15) h14
            else
              J78 (x2 + v15) h14))))) (fun J45 =>
          if v9 = 43 then
            J45 1 h8
          else
            J45 0 h8))) (fun J31 =>
        if v6 = 43 then
          J31 h5
        else
          j_b2 (f_X11_here F x0 h5) (fun v19 h18 =>
          if v19 = 45 then
            J31 h18
          else
            some (x2, h18)))))
def b_X11_sum (F : Nat) (rec : Nat → Nat → Int32 → jH → Option (Int32 × jH)) (a0 : Nat) (a1 : Int32) (h : jH) : Option (Int32 × jH) :=
  j_gd 11 h a0 (
    j_b2 (rec 2 a0 a1 h) (fun v2 h1 =>
    f_X11_sum_L6 F rec a0 a1  F v2 h1))
def f_X11_product_L6 (F : Nat) (rec : Nat → Nat → Int32 → jH → Option (Int32 × jH)) (x0 : Nat) (x1 : Int32) : Nat → Int32 → jH → Option (Int32 × jH)
  | 0, _, _ => none
  | n + 1, x2, h =>
    j_b2 (f_X11_fine F x0 h) (fun v4 h3 =>
    if v4 = 0 then
      some (x2, h3)
    else
      j_b2 (f_X11_here F x0 h3) (fun v6 h5 =>
      j_jn (fun (h7 : jH) =>
        j_b2 (f_X11_here F x0 h7) (fun v9 h8 =>
        j_jn (fun (s10 : Int32) (h11 : jH) =>
          (jg_I 11 17 h11 x0).bind (fun v12 =>
          (jp_I 11 17 h11 x0 (v12 + (1 : Int32))).bind (fun h13 =>
          j_b2 (rec 3 x0 x1 h13) (fun v15 h14 =>
          j_jn (fun (s16 : Int32) (h17 : jH) =>
            f_X11_product_L6 F rec x0 x1 n s16 h17) (fun J87 =>
            if s10 = 0 then
              if v15 = 0 then
                J87 0 h14
              else
                (j_div x2 v15).bind (fun v18 =>
                J87 v18 h14)
            else
              J87 (x2 * v15) h14))))) (fun J45 =>
          if v9 = 42 then
            J45 1 h8
          else
            J45 0 h8))) (fun J31 =>
        if v6 = 42 then
          J31 h5
        else
          j_b2 (f_X11_here F x0 h5) (fun v20 h19 =>
          if v20 = 47 then
            J31 h19
          else
            some (x2, h19)))))
def b_X11_product (F : Nat) (rec : Nat → Nat → Int32 → jH → Option (Int32 × jH)) (a0 : Nat) (a1 : Int32) (h : jH) : Option (Int32 × jH) :=
  j_gd 11 h a0 (
    j_b2 (rec 3 a0 a1 h) (fun v2 h1 =>
    f_X11_product_L6 F rec a0 a1  F v2 h1))
def b_X11_thing (F : Nat) (rec : Nat → Nat → Int32 → jH → Option (Int32 × jH)) (a0 : Nat) (a1 : Int32) (h : jH) : Option (Int32 × jH) :=
  j_gd 11 h a0 (
    j_b2 (f_X11_passes F a0 45 h) (fun v2 h1 =>
    if v2 = 0 then
      j_b2 (f_X11_fine F a0 h1) (fun v4 h3 =>
      if v4 = 0 then
        some (0, h3)
      else
        j_b2 (f_X11_here F a0 h3) (fun v6 h5 =>
        j_jn (fun (h7 : jH) =>
          j_b2 (f_X11_in F v6 48 57 h7) (fun v9 h8 =>
          if v9 = 0 then
            j_b2 (f_X11_letterOf F v6 h8) (fun v11 h10 =>
            if v11 = (-1) then
              (jg_I 11 17 h10 a0).bind (fun v12 =>
              (f_X11_fault F a0 v12 h10).bind (fun h13 =>
              some (0, h13)))
            else
              (jg_I 11 17 h10 a0).bind (fun v14 =>
              (jp_I 11 17 h10 a0 (v14 + (1 : Int32))).bind (fun h15 =>
              (jg_I 11 25 h15 a0).bind (fun v16 =>
              if v16 = 0 then
                some (0, h15)
              else
                (jg_R 11 26 h15 a0).bind (fun v17 =>
                j_b2 (f_X11_letterOf F v6 h15) (fun v19 h18 =>
                (ja_I 100 h18 v17 v19).bind (fun v20 =>
                some (v20, h18))))))))
          else
            j_b2 (f_X11_number F a0 3 h8) (fun v22 h21 =>
            some (v22, h21)))) (fun J67 =>
          if v6 = 40 then
            if (4 : Int32) ≤ a1 then
              J67 h5
            else
              (jg_I 11 17 h5 a0).bind (fun v23 =>
              (jp_I 11 17 h5 a0 (v23 + (1 : Int32))).bind (fun h24 =>
              j_b2 (rec 0 a0 (a1 + (1 : Int32)) h24) (fun v26 h25 =>
              (f_X11_need F a0 41 h25).bind (fun h27 =>
              some (v26, h27)))))
          else
            J67 h5)))
    else
      j_b2 (rec 3 a0 a1 h1) (fun v29 h28 =>
      some ((-v29), h28))))
def f_gH (F : Nat) : Nat → Nat → Nat → Int32 → jH → Option (Int32 × jH)
  | 0, _, _, _, _ => none
  | n + 1, m, a0, a1, h => match m with
    | 0 => b_X11_held F (f_gH F n) a0 a1 h
    | 1 => b_X11_sum F (f_gH F n) a0 a1 h
    | 2 => b_X11_product F (f_gH F n) a0 a1 h
    | _ => b_X11_thing F (f_gH F n) a0 a1 h
def f_X11_held (F : Nat) (a0 : Nat) (a1 : Int32) (h : jH) : Option (Int32 × jH) := f_gH F 400 0 a0 a1 h
def f_X11_sum (F : Nat) (a0 : Nat) (a1 : Int32) (h : jH) : Option (Int32 × jH) := f_gH F 400 1 a0 a1 h
def f_X11_product (F : Nat) (a0 : Nat) (a1 : Int32) (h : jH) : Option (Int32 × jH) := f_gH F 400 2 a0 a1 h
def f_X11_thing (F : Nat) (a0 : Nat) (a1 : Int32) (h : jH) : Option (Int32 × jH) := f_gH F 400 3 a0 a1 h
def f_X11_readRule (F : Nat) (a0 : Nat) (h : jH) : Option (Int32 × jH) :=
  j_gd 11 h a0 (
    (f_X11_beginText F a0 40 h).bind (fun h1 =>
    (jp_I 11 25 h1 a0 0).bind (fun h2 =>
    (jg_I 11 15 h2 a0).bind (fun v3 =>
    j_jn (fun (h4 : jH) =>
      j_b2 (f_X11_wasRight F a0 h4) (fun v6 h5 =>
      j_rz v6 h5)) (fun J24 =>
      if v3 ≤ 0 then
        J24 h2
      else
        j_b2 (f_X11_held F a0 0 h2) (fun v8 h7 =>
        J24 h7))))))
def f_X11_rule_L26 (F : Nat) (x0 : Nat) (x1 : Int32) (k49 : jH → Option (Int32 × jH)) : Nat → Int32 → jH → Option (Int32 × jH)
  | 0, _, _ => none
  | n + 1, x2, h =>
    if x1 ≤ x2 then
      k49 h
    else
      (jg_R 11 22 h x0).bind (fun v6 =>
      (jg_R 11 9 h x0).bind (fun v7 =>
      (ja_I 101 h v7 x2).bind (fun v8 =>
      (jb_I 101 h v6 x2 (v8.toInt8.toInt32)).bind (fun h9 =>
      f_X11_rule_L26 F x0 x1 k49 n (x2 + 1) h9))))
def f_X11_rule (F : Nat) (a0 : Nat) (h : jH) : Option (Int32 × jH) :=
  j_gd 11 h a0 (
    (jp_I 11 13 h a0 0).bind (fun h1 =>
    (jg_I 11 10 h1 a0).bind (fun v2 =>
    j_b2 (f_X11_readRule F a0 h1) (fun v4 h3 =>
    if v4 = 0 then
      (jg_I 11 18 h3 a0).bind (fun v5 =>
      some ((((-1) : Int32) - v5), h3))
    else
      f_X11_rule_L26 F a0 v2 (fun (h10 : jH) =>
        (jp_I 11 24 h10 a0 v2).bind (fun h11 =>
        some (0, h11))) F 0 h3))))
def f_X11_vowelOf (F : Nat) (a0 : Int32) (h : jH) : Option (Int32 × jH) :=
  if a0 = 0 then
    some (0, h)
  else
    if a0 = 4 then
      some (1, h)
    else
      if a0 = 8 then
        some (2, h)
      else
        if a0 = 14 then
          some (3, h)
        else
          if a0 = 20 then
            some (4, h)
          else
            some ((-1), h)
def f_X11_letter (F : Nat) (a0 : Nat) (a1 : Int32) (a2 : Int32) (h : jH) : Option (Int32 × jH) :=
  j_gd 11 h a0 (
    (jg_R 11 3 h a0).bind (fun v1 =>
    (ja_I 101 h v1 (((6 : Int32) * a1) + a2)).bind (fun v2 =>
    some (v2, h))))
def f_X11_tollOf_L9 (F : Nat) (x0 : Nat) (x1 : Int32) (x2 : Int32) (x3 : Int32) (x4 : Int32) (x5 : Int32) (k29 : jH → Option (Int32 × jH)) : Nat → Int32 → jH → Option (Int32 × jH)
  | 0, _, _ => none
  | n + 1, x6, h =>
    if (5 : Int32) ≤ x6 then
      k29 h
    else
      (jg_R 11 27 h x0).bind (fun v1 =>
      (jb_I 100 h v1 x6 0).bind (fun h2 =>
      f_X11_tollOf_L9 F x0 x1 x2 x3 x4 x5 k29 n (x6 + 1) h2))
def f_X11_tollOf_L32 (F : Nat) (x0 : Nat) (x1 : Int32) (x2 : Int32) (x3 : Int32) : Nat → Int32 → Int32 → Int32 → jH → Option (Int32 × jH)
  | 0, _, _, _, _ => none
  | n + 1, x4, x5, x6, h =>
    (jg_R 11 4 h x0).bind (fun v4 =>
    (ja_I 100 h v4 x1).bind (fun v5 =>
    if v5 ≤ x6 then
      some (x5, h)
    else
      j_b2 (f_X11_letter F x0 x1 x6 h) (fun v7 h6 =>
      j_b2 (f_X11_vowelOf F v7 h6) (fun v9 h8 =>
      j_jn (fun (z10 : Int32) (z11 : Int32) (h12 : jH) =>
        f_X11_tollOf_L32 F x0 x1 x2 x3 n z10 z11 (x6 + 1) h12) (fun J232 =>
        if v9 = (-1) then
          J232 x4 x5 h8
        else
          (jg_I 11 24 h8 x0).bind (fun v13 =>
          j_jn (fun (z14 : Int32) (h15 : jH) =>
            (jg_R 11 27 h15 x0).bind (fun v16 =>
            (ja_I 100 h15 v16 v9).bind (fun v17 =>
            (jb_I 100 h15 v16 v9 (v17 + (j_max 0 (j_min 99 z14)))).bind (fun h18 =>
            J232 (x4 + 1) (x5 + (j_max 0 (j_min 99 z14))) h18)))) (fun J197 =>
            if v13 ≤ 0 then
              J197 (v9 + (1 : Int32)) h8
            else
              (jg_R 11 26 h8 x0).bind (fun v19 =>
              (jb_I 100 h8 v19 0 v9).bind (fun h20 =>
              (jg_R 11 26 h20 x0).bind (fun v21 =>
              (jb_I 100 h20 v21 1 x2).bind (fun h22 =>
              (jg_R 11 26 h22 x0).bind (fun v23 =>
              (j_rem x3 24).bind (fun v24 =>
              (jb_I 100 h22 v23 2 v24).bind (fun h25 =>
              (jg_R 11 26 h25 x0).bind (fun v26 =>
              (jg_R 11 4 h25 x0).bind (fun v27 =>
              (ja_I 100 h25 v27 x1).bind (fun v28 =>
              (jb_I 100 h25 v26 3 v28).bind (fun h29 =>
              (jg_R 11 26 h29 x0).bind (fun v30 =>
              (jb_I 100 h29 v30 4 x6).bind (fun h31 =>
              (jg_R 11 26 h31 x0).bind (fun v32 =>
              (jb_I 100 h31 v32 5 x4).bind (fun h33 =>
              (jg_R 11 26 h33 x0).bind (fun v34 =>
              j_jn (fun (s35 : Int32) (s36 : Int32) (s37 : Nat) (h38 : jH) =>
                (jb_I 100 h38 s37 s36 s35).bind (fun h39 =>
                (jg_R 11 22 h39 x0).bind (fun v40 =>
                (jg_I 11 24 h39 x0).bind (fun v41 =>
                (f_X11_begin F x0 v40 v41 40 h39).bind (fun h42 =>
                (jp_I 11 25 h42 x0 1).bind (fun h43 =>
                j_b2 (f_X11_held F x0 0 h43) (fun v45 h44 =>
                (jp_I 11 25 h44 x0 0).bind (fun h46 =>
                J197 v45 h46)))))))) (fun J165 =>
                j_jn (fun (s47 : Int32) (s48 : Nat) (h49 : jH) =>
                  J165 0 s47 s48 h49) (fun J164 =>
                  if x6 ≤ 0 then
                    J164 6 v34 h33
                  else
                    j_b2 (f_X11_letter F x0 x1 x6 h33) (fun v51 h50 =>
                    j_b2 (f_X11_letter F x0 x1 (x6 - (1 : Int32)) h50) (fun v53 h52 =>
                    if v51 = v53 then
                      J165 1 6 v34 h52
                    else
                      J164 6 v34 h52)))))))))))))))))))))))))))
def f_X11_tollOf (F : Nat) (a0 : Nat) (a1 : Int32) (a2 : Int32) (a3 : Int32) (h : jH) : Option (Int32 × jH) :=
  j_gd 11 h a0 (
    f_X11_tollOf_L9 F a0 a1 a2 a3 0 0 (fun (h3 : jH) =>
      f_X11_tollOf_L32 F a0 a1 a2 a3  F 0 0 0 h3) F 0 h)
def f_X11_tollNow (F : Nat) (a0 : Nat) (a1 : Int32) (a2 : Int32) (h : jH) : Option (Int32 × jH) :=
  j_gd 11 h a0 (
    (jg_R 11 0 h a0).bind (fun v1 =>
    (ja_I 100 h v1 12).bind (fun v2 =>
    j_b2 (f_X11_tollOf F a0 a1 a2 v2 h) (fun v4 h3 =>
    some (v4, h3)))))
def f_X11_often_L5 (F : Nat) (x0 : Nat) (x1 : Int32) (x2 : Int32) : Nat → Int32 → Int32 → jH → Option (Int32 × jH)
  | 0, _, _, _ => none
  | n + 1, x3, x4, h =>
    (jg_R 11 4 h x0).bind (fun v1 =>
    (ja_I 100 h v1 x1).bind (fun v2 =>
    if v2 ≤ x4 then
      some (x3, h)
    else
      j_b2 (f_X11_letter F x0 x1 x4 h) (fun v4 h3 =>
      j_b2 (f_X11_vowelOf F v4 h3) (fun v6 h5 =>
      j_jn (fun (s7 : Int32) (s8 : Int32) (h9 : jH) =>
        f_X11_often_L5 F x0 x1 x2 n (s8 + s7) (x4 + 1) h9) (fun J36 =>
        if v6 = x2 then
          J36 1 x3 h5
        else
          J36 0 x3 h5)))))
def f_X11_often (F : Nat) (a0 : Nat) (a1 : Int32) (a2 : Int32) (h : jH) : Option (Int32 × jH) :=
  j_gd 11 h a0 (
    f_X11_often_L5 F a0 a1 a2  F 0 0 h)
def f_X11_vowelsIn_L4 (F : Nat) (x0 : Nat) (x1 : Int32) : Nat → Int32 → Int32 → jH → Option (Int32 × jH)
  | 0, _, _, _ => none
  | n + 1, x2, x3, h =>
    if (5 : Int32) ≤ x3 then
      some (x2, h)
    else
      j_b2 (f_X11_often F x0 x1 x3 h) (fun v2 h1 =>
      f_X11_vowelsIn_L4 F x0 x1 n (x2 + v2) (x3 + 1) h1)
def f_X11_vowelsIn (F : Nat) (a0 : Nat) (a1 : Int32) (h : jH) : Option (Int32 × jH) :=
  j_gd 11 h a0 (
    f_X11_vowelsIn_L4 F a0 a1  F 0 0 h)
def f_X11_means (F : Nat) (a0 : Nat) (a1 : Int32) (a2 : Int32) (h : jH) : Option (Int32 × jH) :=
  j_gd 11 h a0 (
    (jg_R 11 5 h a0).bind (fun v1 =>
    (ja_I 100 h v1 ((2 : Int32) * a1)).bind (fun v2 =>
    j_jn (fun (h3 : jH) =>
      some (1, h3)) (fun J26 =>
      if v2 = a2 then
        J26 h
      else
        (jg_R 11 5 h a0).bind (fun v4 =>
        (ja_I 100 h v4 (((2 : Int32) * a1) + (1 : Int32))).bind (fun v5 =>
        if v5 = a2 then
          J26 h
        else
          some (0, h)))))))
def f_X11_word (F : Nat) (a0 : Nat) (a1 : Int32) (a2 : Int32) (h : jH) : Option (Int32 × jH) :=
  j_gd 11 h a0 (
    (jp_I 11 13 h a0 0).bind (fun h1 =>
    j_b2 (f_X11_isWord F a0 a1 h1) (fun v3 h2 =>
    j_jn (fun (h4 : jH) =>
      j_b2 (f_X11_lost F a0 h4) (fun v6 h5 =>
      some (v6, h5))) (fun J23 =>
      if v3 = 0 then
        J23 h2
      else
        j_b2 (f_X11_in F a2 0 8 h2) (fun v8 h7 =>
        if v8 = 0 then
          J23 h7
        else
          if a2 = 0 then
            (jg_R 11 4 h7 a0).bind (fun v9 =>
            (ja_I 100 h7 v9 a1).bind (fun v10 =>
            some (v10, h7)))
          else
            if a2 = 1 then
              j_b2 (f_X11_vowelsIn F a0 a1 h7) (fun v12 h11 =>
              some (v12, h11))
            else
              if (4 : Int32) ≤ a2 then
                j_b2 (f_X11_often F a0 a1 (a2 - (4 : Int32)) h7) (fun v14 h13 =>
                some (v14, h13))
              else
                (jg_R 11 5 h7 a0).bind (fun v15 =>
                (ja_I 100 h7 v15 ((((2 : Int32) * a1) + a2) - (2 : Int32))).bind (fun v16 =>
                some (v16, h7))))))))
def f_X11_field (F : Nat) (a0 : Nat) (a1 : Int32) (a2 : Int32) (h : jH) : Option (Int32 × jH) :=
  j_gd 11 h a0 (
    (jg_R 11 8 h a0).bind (fun v1 =>
    (ja_I 100 h v1 (((4 : Int32) * a1) + a2)).bind (fun v2 =>
    some (v2, h))))
def f_X11_openOf_L4 (F : Nat) (x0 : Nat) (x1 : Int32) : Nat → Int32 → Int32 → jH → Option (Int32 × jH)
  | 0, _, _, _ => none
  | n + 1, x2, x3, h =>
    (jg_I 11 7 h x0).bind (fun v1 =>
    if v1 ≤ x3 then
      some (x2, h)
    else
      j_b2 (f_X11_field F x0 x3 0 h) (fun v3 h2 =>
      j_jn (fun (s4 : Int32) (s5 : Int32) (h6 : jH) =>
        f_X11_openOf_L4 F x0 x1 n (s5 ||| s4) (x3 + 1) h6) (fun J44 =>
        j_jn (fun (s7 : Int32) (h8 : jH) =>
          J44 0 s7 h8) (fun J43 =>
          if v3 = x1 then
            (jg_R 11 0 h2 x0).bind (fun v9 =>
            (ja_I 100 h2 v9 13).bind (fun v10 =>
            j_b2 (f_X11_has F v10 x3 h2) (fun v12 h11 =>
            if v12 = 0 then
              J44 ((1 : Int32) <<< (x3 &&& 31)) x2 h11
            else
              J43 x2 h11)))
          else
            J43 x2 h2))))
def f_X11_openOf (F : Nat) (a0 : Nat) (a1 : Int32) (h : jH) : Option (Int32 × jH) :=
  j_gd 11 h a0 (
    f_X11_openOf_L4 F a0 a1  F 0 0 h)
def f_X11_traveller_L59 (F : Nat) (x0 : Nat) (x1 : Int32) : Nat → Int32 → Int32 → jH → Option (Int32 × jH)
  | 0, _, _, _ => none
  | n + 1, x3, x4, h =>
    (jg_I 11 7 h x0).bind (fun v11 =>
    if v11 ≤ x4 then
      some (x3, h)
    else
      j_b2 (f_X11_field F x0 x4 0 h) (fun v13 h12 =>
      j_jn (fun (s14 : Int32) (s15 : Int32) (h16 : jH) =>
        f_X11_traveller_L59 F x0 x1 n (s15 + s14) (x4 + 1) h16) (fun J106 =>
        j_jn (fun (s17 : Int32) (h18 : jH) =>
          J106 0 s17 h18) (fun J105 =>
          if v13 = x1 then
            (jg_R 11 0 h12 x0).bind (fun v19 =>
            (ja_I 100 h12 v19 13).bind (fun v20 =>
            j_b2 (f_X11_has F v20 x4 h12) (fun v22 h21 =>
            if v22 = 0 then
              J105 x3 h21
            else
              j_b2 (f_X11_field F x0 x4 3 h21) (fun v24 h23 =>
              J106 v24 x3 h23))))
          else
            J105 x3 h12))))
def f_X11_traveller (F : Nat) (a0 : Nat) (a1 : Int32) (a2 : Int32) (h : jH) : Option (Int32 × jH) :=
  j_gd 11 h a0 (
    (jp_I 11 13 h a0 0).bind (fun h1 =>
    j_b2 (f_X11_isOne F a0 a1 h1) (fun v3 h2 =>
    j_jn (fun (h4 : jH) =>
      j_b2 (f_X11_lost F a0 h4) (fun v6 h5 =>
      some (v6, h5))) (fun J22 =>
      if v3 = 0 then
        J22 h2
      else
        j_b2 (f_X11_in F a2 0 4 h2) (fun v8 h7 =>
        if v8 = 0 then
          J22 h7
        else
          if (3 : Int32) ≤ a2 then
            if a2 = 3 then
              j_b2 (f_X11_openOf F a0 a1 h7) (fun v10 h9 =>
              some (v10, h9))
            else
              f_X11_traveller_L59 F a0 a1  F 0 0 h7
          else
            (jg_R 11 0 h7 a0).bind (fun v25 =>
            (ja_I 100 h7 v25 (((4 : Int32) * a2) + a1)).bind (fun v26 =>
            some (v26, h7))))))))
def f_X11_errand (F : Nat) (a0 : Nat) (a1 : Int32) (a2 : Int32) (h : jH) : Option (Int32 × jH) :=
  j_gd 11 h a0 (
    (jp_I 11 13 h a0 0).bind (fun h1 =>
    (jg_I 11 7 h1 a0).bind (fun v2 =>
    j_b2 (f_X11_in F a1 0 (v2 - (1 : Int32)) h1) (fun v4 h3 =>
    j_jn (fun (h5 : jH) =>
      j_b2 (f_X11_lost F a0 h5) (fun v7 h6 =>
      some (v7, h6))) (fun J28 =>
      if v4 = 0 then
        J28 h3
      else
        j_b2 (f_X11_in F a2 0 4 h3) (fun v9 h8 =>
        if v9 = 0 then
          J28 h8
        else
          if (4 : Int32) ≤ a2 then
            (jg_R 11 0 h8 a0).bind (fun v10 =>
            (ja_I 100 h8 v10 13).bind (fun v11 =>
            some (((v11 >>> (a1 &&& 31)) &&& (1 : Int32)), h8)))
          else
            j_b2 (f_X11_field F a0 a1 a2 h8) (fun v13 h12 =>
            some (v13, h12))))))))
def f_X11_book (F : Nat) (a0 : Nat) (a1 : Int32) (a2 : Int32) (h : jH) : Option (Int32 × jH) :=
  j_gd 11 h a0 (
    (jp_I 11 13 h a0 0).bind (fun h1 =>
    j_b2 (f_X11_isStation F a0 a1 h1) (fun v3 h2 =>
    j_jn (fun (h4 : jH) =>
      j_b2 (f_X11_lost F a0 h4) (fun v6 h5 =>
      some (v6, h5))) (fun J38 =>
      if v3 = 0 then
        J38 h2
      else
        j_b2 (f_X11_in F a2 0 4 h2) (fun v8 h7 =>
        if v8 = 0 then
          J38 h7
        else
          (jg_R 11 0 h7 a0).bind (fun v9 =>
          (ja_I 100 h7 v9 (((14 : Int32) + ((5 : Int32) * a1)) + a2)).bind (fun v10 =>
          some (v10, h7))))))))
def f_X11_sheet_L42 (F : Nat) (x0 : Nat) (x1 : Int32) (x2 : Int32) (x4 : Int32) (k139 : Int32 → jH → Option (Int32 × jH)) : Nat → Int32 → Int32 → Int32 → jH → Option (Int32 × jH)
  | 0, _, _, _, _ => none
  | n + 1, x5, x6, x7, h =>
    (jg_I 11 6 h x0).bind (fun v5 =>
    if v5 ≤ x7 then
      k139 x5 h
    else
      j_jn (fun (s6 : Int32) (h7 : jH) =>
        (jg_R 11 0 h7 x0).bind (fun v8 =>
        j_jn (fun (s9 : Int32) (s10 : Int32) (s11 : Nat) (h12 : jH) =>
          (jb_I 100 h12 s11 s10 s9).bind (fun h13 =>
          (jg_R 11 0 h13 x0).bind (fun v14 =>
          (ja_I 100 h13 v14 ((4 : Int32) + x7)).bind (fun v15 =>
          f_X11_sheet_L42 F x0 x1 x2 x4 k139 n (x5 + v15) (x6 + x4) (x7 + 1) h13)))) (fun J111 =>
          j_jn (fun (s16 : Int32) (s17 : Nat) (h18 : jH) =>
            J111 0 s16 s17 h18) (fun J95 =>
            if x1 = 3 then
              J95 ((4 : Int32) + x7) v8 h7
            else
              if x7 < x2 then
                J111 (j_max 0 (j_min 9999 s6)) ((4 : Int32) + x7) v8 h7
              else
                J95 ((4 : Int32) + x7) v8 h7)))) (fun J74 =>
        if x1 = 0 then
          J74 (x6.toInt8.toInt32) h
        else
          if x1 = 1 then
            J74 (x6.toInt16.toInt32) h
          else
            J74 x6 h))
def f_X11_sheet (F : Nat) (a0 : Nat) (a1 : Int32) (a2 : Int32) (a3 : Int32) (a4 : Int32) (h : jH) : Option (Int32 × jH) :=
  j_gd 11 h a0 (
    (jp_I 11 13 h a0 0).bind (fun h1 =>
    j_b2 (f_X11_in F a1 0 3 h1) (fun v3 h2 =>
    if v3 = 0 then
      some ((-1), h2)
    else
      if a2 ≤ 4 then
        j_jn (fun (h4 : jH) =>
          f_X11_sheet_L42 F a0 a1 a2 a4 (fun (y19 : Int32) (h20 : jH) =>
            if a1 = 3 then
              some ((-3), h20)
            else
              some (y19, h20)) F 0 a3 0 h4) (fun J33 =>
          if (3 : Int32) ≤ a1 then
            J33 h2
          else
            if (0 : Int32) ≤ a2 then
              J33 h2
            else
              some ((-2), h2))
      else
        some ((-1), h2))))
def f_X11_lay_L2 (F : Nat) (x0 : Nat) (x1 : Nat) (x2 : Int32) : Nat → Int32 → jH → Option jH
  | 0, _, _ => none
  | n + 1, x3, h =>
    if (44 : Int32) ≤ x3 then
      some h
    else
      (ja_I 100 h x0 x3).bind (fun v1 =>
      (jb_I 100 h x1 (x2 + x3) v1).bind (fun h2 =>
      f_X11_lay_L2 F x0 x1 x2 n (x3 + 1) h2))
def f_X11_lay (F : Nat) (a0 : Nat) (a1 : Nat) (a2 : Int32) (h : jH) : Option jH :=
  f_X11_lay_L2 F a0 a1 a2  F 0 h
def f_X11_remember_L11 (F : Nat) (x0 : Nat) (x1 : Nat) (k39 : jH → Option jH) : Nat → Int32 → jH → Option jH
  | 0, _, _ => none
  | n + 1, x2, h =>
    if (484 : Int32) ≤ x2 then
      k39 h
    else
      (jg_R 11 28 h x0).bind (fun v8 =>
      (jg_R 11 28 h x0).bind (fun v9 =>
      (ja_I 100 h v9 (x2 + (44 : Int32))).bind (fun v10 =>
      (jb_I 100 h v8 x2 v10).bind (fun h11 =>
      f_X11_remember_L11 F x0 x1 k39 n (x2 + 1) h11))))
def f_X11_remember (F : Nat) (a0 : Nat) (a1 : Nat) (h : jH) : Option jH :=
  j_gd 11 h a0 (
    (jg_I 11 29 h a0).bind (fun v1 =>
    j_jn (fun (h2 : jH) =>
      (jg_R 11 28 h2 a0).bind (fun v3 =>
      (jg_I 11 29 h2 a0).bind (fun v4 =>
      (f_X11_lay F a1 v3 ((44 : Int32) * v4) h2).bind (fun h5 =>
      (jg_I 11 29 h5 a0).bind (fun v6 =>
      (jp_I 11 29 h5 a0 (v6 + (1 : Int32))).bind (fun h7 =>
      some h7)))))) (fun J49 =>
      if v1 = 12 then
        f_X11_remember_L11 F a0 a1 (fun (h12 : jH) =>
          (jg_I 11 29 h12 a0).bind (fun v13 =>
          (jp_I 11 29 h12 a0 (v13 - (1 : Int32))).bind (fun h14 =>
          J49 h14))) F 0 h
      else
        J49 h)))
def f_X11_toll_L38 (F : Nat) (x0 : Nat) (x3 : Int32) : Nat → Int32 → jH → Option (Int32 × jH)
  | 0, _, _ => none
  | n + 1, x4, h =>
    if (5 : Int32) ≤ x4 then
      some (x3, h)
    else
      (jg_R 11 27 h x0).bind (fun v9 =>
      (ja_I 100 h v9 x4).bind (fun v10 =>
      (f_X11_tell F x0 (v10.toInt64) h).bind (fun h11 =>
      f_X11_toll_L38 F x0 x3 n (x4 + 1) h11)))
def f_X11_toll (F : Nat) (a0 : Nat) (a1 : Int32) (a2 : Int32) (h : jH) : Option (Int32 × jH) :=
  j_gd 11 h a0 (
    (jp_I 11 13 h a0 0).bind (fun h1 =>
    j_b2 (f_X11_isWord F a0 a1 h1) (fun v3 h2 =>
    if v3 = 0 then
      some ((-1), h2)
    else
      j_b2 (f_X11_isStation F a0 a2 h2) (fun v5 h4 =>
      if v5 = 0 then
        some ((-1), h4)
      else
        j_b2 (f_X11_tollNow F a0 a1 a2 h4) (fun v7 h6 =>
        (jp_I 11 12 h6 a0 0).bind (fun h8 =>
        f_X11_toll_L38 F a0 v7  F 0 h8))))))
def f_X11_refusesWalk (F : Nat) (a0 : Nat) (a1 : Nat) (a2 : Int32) (a3 : Int32) (h : jH) : Option (Int32 × jH) :=
  j_gd 11 h a0 (
    j_b2 (f_X11_isOne F a0 a2 h) (fun v2 h1 =>
    if v2 = 0 then
      some ((-1), h1)
    else
      j_b2 (f_X11_in F a3 0 1 h1) (fun v4 h3 =>
      if v4 = 0 then
        some ((-1), h3)
      else
        (ja_I 100 h3 a1 a2).bind (fun v5 =>
        j_b2 (f_X11_isStation F a0 ((v5 + ((2 : Int32) * a3)) - (1 : Int32)) h3) (fun v7 h6 =>
        if v7 = 0 then
          some ((-2), h6)
        else
          some (0, h6))))))
def f_X11_goWalk (F : Nat) (a0 : Nat) (a1 : Int32) (a2 : Int32) (h : jH) : Option (Int32 × jH) :=
  (ja_I 100 h a0 a1).bind (fun v1 =>
  (jb_I 100 h a0 a1 (v1 + (((2 : Int32) * a2) - (1 : Int32)))).bind (fun h2 =>
  (ja_I 100 h2 a0 12).bind (fun v3 =>
  (jb_I 100 h2 a0 12 (v3 + (1 : Int32))).bind (fun h4 =>
  (ja_I 100 h4 a0 a1).bind (fun v5 =>
  some (v5, h4))))))
def f_X11_walk (F : Nat) (a0 : Nat) (a1 : Int32) (a2 : Int32) (h : jH) : Option (Int32 × jH) :=
  j_gd 11 h a0 (
    (jp_I 11 13 h a0 0).bind (fun h1 =>
    (jg_R 11 0 h1 a0).bind (fun v2 =>
    j_b2 (f_X11_refusesWalk F a0 v2 a1 a2 h1) (fun v4 h3 =>
    if (0 : Int32) ≤ v4 then
      (jg_R 11 0 h3 a0).bind (fun v5 =>
      (f_X11_remember F a0 v5 h3).bind (fun h6 =>
      (jg_R 11 0 h6 a0).bind (fun v7 =>
      j_b2 (f_X11_goWalk F v7 a1 a2 h6) (fun v9 h8 =>
      some (v9, h8)))))
    else
      some (v4, h3)))))
def f_X11_pause (F : Nat) (a0 : Nat) (a1 : Int32) (h : jH) : Option (Int32 × jH) :=
  j_gd 11 h a0 (
    (jp_I 11 13 h a0 0).bind (fun h1 =>
    j_b2 (f_X11_in F a1 0 99 h1) (fun v3 h2 =>
    if v3 = 0 then
      some ((-1), h2)
    else
      j_jn (fun (h4 : jH) =>
        (jg_R 11 0 h4 a0).bind (fun v5 =>
        (ja_I 100 h4 v5 12).bind (fun v6 =>
        (jb_I 100 h4 v5 12 (v6 + a1)).bind (fun h7 =>
        (jg_R 11 0 h7 a0).bind (fun v8 =>
        (ja_I 100 h7 v8 12).bind (fun v9 =>
        some (v9, h7))))))) (fun J29 =>
        if a1 ≤ 0 then
          J29 h2
        else
          (jg_R 11 0 h2 a0).bind (fun v10 =>
          (f_X11_remember F a0 v10 h2).bind (fun h11 =>
          J29 h11))))))
def f_X11_refusesSay (F : Nat) (a0 : Nat) (a1 : Nat) (a2 : Int32) (a3 : Int32) (h : jH) : Option (Int32 × jH) :=
  j_gd 11 h a0 (
    j_b2 (f_X11_isOne F a0 a2 h) (fun v2 h1 =>
    if v2 = 0 then
      some ((-1), h1)
    else
      j_b2 (f_X11_isWord F a0 a3 h1) (fun v4 h3 =>
      if v4 = 0 then
        some ((-1), h3)
      else
        (ja_I 100 h3 a1 ((4 : Int32) + a2)).bind (fun v5 =>
        (ja_I 100 h3 a1 a2).bind (fun v6 =>
        (ja_I 100 h3 a1 12).bind (fun v7 =>
        j_b2 (f_X11_tollOf F a0 a3 v6 v7 h3) (fun v9 h8 =>
        if v9 ≤ v5 then
          some (0, h8)
        else
          some ((-2), h8))))))))
def f_X11_goSay_L38 (F : Nat) (x0 : Nat) (x1 : Nat) (x2 : Int32) (x3 : Int32) (x4 : Int32) (k73 : jH → Option (Int32 × jH)) : Nat → Int32 → jH → Option (Int32 × jH)
  | 0, _, _ => none
  | n + 1, x5, h =>
    if (5 : Int32) ≤ x5 then
      k73 h
    else
      (ja_I 100 h x1 x2).bind (fun v9 =>
      (ja_I 100 h x1 (((14 : Int32) + ((5 : Int32) * v9)) + x5)).bind (fun v10 =>
      j_b2 (f_X11_often F x0 x3 x5 h) (fun v12 h11 =>
      (jb_I 100 h11 x1 (((14 : Int32) + ((5 : Int32) * v9)) + x5) (v10 + v12)).bind (fun h13 =>
      f_X11_goSay_L38 F x0 x1 x2 x3 x4 k73 n (x5 + 1) h13))))
def f_X11_goSay_L81 (F : Nat) (x0 : Nat) (x1 : Nat) (x2 : Int32) (x3 : Int32) (x4 : Int32) (k164 : jH → Option (Int32 × jH)) : Nat → Int32 → jH → Option (Int32 × jH)
  | 0, _, _ => none
  | n + 1, x5, h =>
    (jg_I 11 7 h x0).bind (fun v16 =>
    if v16 ≤ x5 then
      k164 h
    else
      (jg_I 11 31 h x0).bind (fun v17 =>
      j_b2 (f_X11_field F x0 x5 0 h) (fun v19 h18 =>
      j_jn (fun (s20 : Int32) (s21 : Int32) (s22 : Nat) (h23 : jH) =>
        (jp_I 11 31 h23 s22 (s21 ||| s20)).bind (fun h24 =>
        f_X11_goSay_L81 F x0 x1 x2 x3 x4 k164 n (x5 + 1) h24)) (fun J154 =>
        j_jn (fun (s25 : Int32) (s26 : Nat) (h27 : jH) =>
          J154 0 s25 s26 h27) (fun J153 =>
          if v19 = x2 then
            j_b2 (f_X11_field F x0 x5 2 h18) (fun v29 h28 =>
            (ja_I 100 h28 x1 x2).bind (fun v30 =>
            if v29 = v30 then
              j_b2 (f_X11_field F x0 x5 1 h28) (fun v32 h31 =>
              j_b2 (f_X11_means F x0 x3 v32 h31) (fun v34 h33 =>
              if v34 = 0 then
                J153 v17 x0 h33
              else
                (ja_I 100 h33 x1 13).bind (fun v35 =>
                j_b2 (f_X11_has F v35 x5 h33) (fun v37 h36 =>
                if v37 = 0 then
                  J154 ((1 : Int32) <<< (x5 &&& 31)) v17 x0 h36
                else
                  J153 v17 x0 h36))))
            else
              J153 v17 x0 h28))
          else
            J153 v17 x0 h18)))))
def f_X11_goSay (F : Nat) (a0 : Nat) (a1 : Nat) (a2 : Int32) (a3 : Int32) (h : jH) : Option (Int32 × jH) :=
  j_gd 11 h a0 (
    (ja_I 100 h a1 a2).bind (fun v1 =>
    (ja_I 100 h a1 12).bind (fun v2 =>
    j_b2 (f_X11_tollOf F a0 a3 v1 v2 h) (fun v4 h3 =>
    (ja_I 100 h3 a1 ((4 : Int32) + a2)).bind (fun v5 =>
    (jb_I 100 h3 a1 ((4 : Int32) + a2) (v5 - v4)).bind (fun h6 =>
    (ja_I 100 h6 a1 ((8 : Int32) + a2)).bind (fun v7 =>
    (jb_I 100 h6 a1 ((8 : Int32) + a2) (v7 + v4)).bind (fun h8 =>
    f_X11_goSay_L38 F a0 a1 a2 a3 v4 (fun (h14 : jH) =>
      (jp_I 11 31 h14 a0 0).bind (fun h15 =>
      f_X11_goSay_L81 F a0 a1 a2 a3 v4 (fun (h38 : jH) =>
        (ja_I 100 h38 a1 13).bind (fun v39 =>
        (jg_I 11 31 h38 a0).bind (fun v40 =>
        (jb_I 100 h38 a1 13 (v39 ||| v40)).bind (fun h41 =>
        some (v4, h41))))) F 0 h15)) F 0 h8))))))))
def f_X11_say (F : Nat) (a0 : Nat) (a1 : Int32) (a2 : Int32) (h : jH) : Option (Int32 × jH) :=
  j_gd 11 h a0 (
    (jp_I 11 13 h a0 0).bind (fun h1 =>
    (jg_R 11 0 h1 a0).bind (fun v2 =>
    j_b2 (f_X11_refusesSay F a0 v2 a1 a2 h1) (fun v4 h3 =>
    if (0 : Int32) ≤ v4 then
      (jg_R 11 0 h3 a0).bind (fun v5 =>
      (f_X11_remember F a0 v5 h3).bind (fun h6 =>
      (jg_R 11 0 h6 a0).bind (fun v7 =>
      j_b2 (f_X11_goSay F a0 v7 a1 a2 h6) (fun v9 h8 =>
      (jp_I 11 12 h8 a0 0).bind (fun h10 =>
      (jg_I 11 31 h10 a0).bind (fun v11 =>
      (f_X11_tell F a0 (v11.toInt64) h10).bind (fun h12 =>
      some (v9, h12))))))))
    else
      some (v4, h3)))))
def f_X11_alms (F : Nat) (a0 : Nat) (a1 : Int32) (a2 : Int32) (a3 : Int32) (h : jH) : Option (Int32 × jH) :=
  j_gd 11 h a0 (
    (jp_I 11 13 h a0 0).bind (fun h1 =>
    j_b2 (f_X11_isOne F a0 a1 h1) (fun v3 h2 =>
    if v3 = 0 then
      some ((-1), h2)
    else
      j_b2 (f_X11_isOne F a0 a2 h2) (fun v5 h4 =>
      if v5 = 0 then
        some ((-1), h4)
      else
        if a1 = a2 then
          some ((-1), h4)
        else
          j_b2 (f_X11_in F a3 1 9999 h4) (fun v7 h6 =>
          if v7 = 0 then
            some ((-1), h6)
          else
            (jg_R 11 0 h6 a0).bind (fun v8 =>
            (ja_I 100 h6 v8 a1).bind (fun v9 =>
            (jg_R 11 0 h6 a0).bind (fun v10 =>
            (ja_I 100 h6 v10 a2).bind (fun v11 =>
            if v9 = v11 then
              (jg_R 11 0 h6 a0).bind (fun v12 =>
              (ja_I 100 h6 v12 ((4 : Int32) + a1)).bind (fun v13 =>
              if a3 ≤ v13 then
                (jg_R 11 0 h6 a0).bind (fun v14 =>
                (f_X11_remember F a0 v14 h6).bind (fun h15 =>
                (jg_R 11 0 h15 a0).bind (fun v16 =>
                (ja_I 100 h15 v16 ((4 : Int32) + a1)).bind (fun v17 =>
                (jb_I 100 h15 v16 ((4 : Int32) + a1) (v17 - a3)).bind (fun h18 =>
                (jg_R 11 0 h18 a0).bind (fun v19 =>
                (jg_R 11 0 h18 a0).bind (fun v20 =>
                (ja_I 100 h18 v20 ((4 : Int32) + a2)).bind (fun v21 =>
                (jb_I 100 h18 v19 ((4 : Int32) + a2) (j_min 9999 (v21 + a3))).bind (fun h22 =>
                (jg_R 11 0 h22 a0).bind (fun v23 =>
                (ja_I 100 h22 v23 ((4 : Int32) + a2)).bind (fun v24 =>
                some (v24, h22))))))))))))
              else
                some ((-2), h6)))
            else
              some ((-3), h6))))))))))
def f_X11_cheapestOf_L5 (F : Nat) (x0 : Nat) (x1 : Int32) (x2 : Int32) : Nat → Int32 → Int32 → jH → Option (Int32 × jH)
  | 0, _, _, _ => none
  | n + 1, x3, x4, h =>
    (jg_I 11 2 h x0).bind (fun v1 =>
    if v1 ≤ x4 then
      some (x3, h)
    else
      j_b2 (f_X11_means F x0 x4 x1 h) (fun v3 h2 =>
      j_jn (fun (z4 : Int32) (h5 : jH) =>
        f_X11_cheapestOf_L5 F x0 x1 x2 n z4 (x4 + 1) h5) (fun J48 =>
        if v3 = 0 then
          J48 x3 h2
        else
          j_jn (fun (h6 : jH) =>
            J48 x4 h6) (fun J45 =>
            if x3 = (-1) then
              J45 h2
            else
              j_b2 (f_X11_tollNow F x0 x4 x2 h2) (fun v8 h7 =>
              j_b2 (f_X11_tollNow F x0 x3 x2 h7) (fun v10 h9 =>
              if v10 ≤ v8 then
                J48 x3 h9
              else
                J45 h9))))))
def f_X11_cheapestOf (F : Nat) (a0 : Nat) (a1 : Int32) (a2 : Int32) (h : jH) : Option (Int32 × jH) :=
  j_gd 11 h a0 (
    f_X11_cheapestOf_L5 F a0 a1 a2  F (-1) 0 h)
def f_X11_wordFor_L2 (F : Nat) (x0 : Nat) (x1 : Int32) (k37 : Int32 → jH → Option (Int32 × jH)) : Nat → Int32 → jH → Option (Int32 × jH)
  | 0, _, _ => none
  | n + 1, x2, h =>
    (jg_I 11 7 h x0).bind (fun v1 =>
    if v1 ≤ x2 then
      some ((-1), h)
    else
      j_b2 (f_X11_openOf F x0 x1 h) (fun v3 h2 =>
      j_b2 (f_X11_has F v3 x2 h2) (fun v5 h4 =>
      j_jn (fun (h6 : jH) =>
        f_X11_wordFor_L2 F x0 x1 k37 n (x2 + 1) h6) (fun J54 =>
        if v5 = 0 then
          J54 h4
        else
          j_b2 (f_X11_field F x0 x2 2 h4) (fun v8 h7 =>
          (jg_R 11 0 h7 x0).bind (fun v9 =>
          (ja_I 100 h7 v9 x1).bind (fun v10 =>
          if v8 = v10 then
            k37 x2 h7
          else
            J54 h7)))))))
def f_X11_wordFor (F : Nat) (a0 : Nat) (a1 : Int32) (h : jH) : Option (Int32 × jH) :=
  j_gd 11 h a0 (
    f_X11_wordFor_L2 F a0 a1 (fun (y11 : Int32) (h12 : jH) =>
      j_b2 (f_X11_field F a0 y11 1 h12) (fun v14 h13 =>
      (jg_R 11 0 h13 a0).bind (fun v15 =>
      (ja_I 100 h13 v15 a1).bind (fun v16 =>
      j_b2 (f_X11_cheapestOf F a0 v14 v16 h13) (fun v18 h17 =>
      some (v18, h17)))))) F 0 h)
def f_X11_act (F : Nat) (a0 : Nat) (a1 : Int32) (a2 : Int32) (a3 : Int32) (h : jH) : Option (Int32 × jH) :=
  j_gd 11 h a0 (
    if a1 = 119 then
      (jg_R 11 0 h a0).bind (fun v1 =>
      (ja_I 100 h v1 12).bind (fun v2 =>
      (jb_I 100 h v1 12 (v2 + a2)).bind (fun h3 =>
      some (1, h3))))
    else
      j_b2 (f_X11_isOne F a0 a2 h) (fun v5 h4 =>
      if v5 = 0 then
        some (0, h4)
      else
        j_jn (fun (h6 : jH) =>
          j_jn (fun (s7 : Int32) (h8 : jH) =>
            (jg_R 11 0 h8 a0).bind (fun v9 =>
            j_b2 (f_X11_refusesWalk F a0 v9 a2 s7 h8) (fun v11 h10 =>
            if (0 : Int32) ≤ v11 then
              (jg_R 11 0 h10 a0).bind (fun v12 =>
              j_b2 (f_X11_goWalk F v12 a2 s7 h10) (fun v14 h13 =>
              some (1, h13)))
            else
              some (0, h10)))) (fun J52 =>
            if a1 = 62 then
              J52 1 h6
            else
              J52 0 h6)) (fun J41 =>
          if a1 = 62 then
            J41 h4
          else
            if a1 = 60 then
              J41 h4
            else
              j_jn (fun (s15 : Int32) (h16 : jH) =>
                if s15 < 0 then
                  some (0, h16)
                else
                  (jg_R 11 0 h16 a0).bind (fun v17 =>
                  j_b2 (f_X11_refusesSay F a0 v17 a2 s15 h16) (fun v19 h18 =>
                  if (0 : Int32) ≤ v19 then
                    (jg_I 11 33 h18 a0).bind (fun v20 =>
                    (jg_R 11 0 h18 a0).bind (fun v21 =>
                    j_b2 (f_X11_goSay F a0 v21 a2 s15 h18) (fun v23 h22 =>
                    (jp_I 11 33 h22 a0 (v20 + v23)).bind (fun h24 =>
                    some (1, h24)))))
                  else
                    some (0, h18)))) (fun J98 =>
                if a1 = 115 then
                  J98 a3 h4
                else
                  j_b2 (f_X11_wordFor F a0 a2 h4) (fun v26 h25 =>
                  J98 v26 h25)))))
def f_X11_readAct (F : Nat) (a0 : Nat) (a1 : Int32) (h : jH) : Option jH :=
  j_gd 11 h a0 (
    j_b2 (f_X11_passes F a0 119 h) (fun v2 h1 =>
    if v2 = 0 then
      (jg_R 11 32 h1 a0).bind (fun v3 =>
      j_b2 (f_X11_oneOf F a0 97 4 h1) (fun v5 h4 =>
      (jb_I 100 h4 v3 (a1 + (1 : Int32)) v5).bind (fun h6 =>
      j_b2 (f_X11_here F a0 h6) (fun v8 h7 =>
      j_b2 (f_X11_fine F a0 h7) (fun v10 h9 =>
      j_jn (fun (h11 : jH) =>
        (jg_I 11 17 h11 a0).bind (fun v12 =>
        (jp_I 11 17 h11 a0 (v12 + (1 : Int32))).bind (fun h13 =>
        (jg_R 11 32 h13 a0).bind (fun v14 =>
        j_b2 (f_X11_in F v8 48 57 h13) (fun v16 h15 =>
        j_jn (fun (s17 : Int32) (s18 : Int32) (s19 : Nat) (h20 : jH) =>
          (jb_I 100 h20 s19 s18 s17).bind (fun h21 =>
          (jg_R 11 32 h21 a0).bind (fun v22 =>
          (jb_I 100 h21 v22 (a1 + (2 : Int32)) (v8 - (48 : Int32))).bind (fun h23 =>
          some h23)))) (fun J127 =>
          if v16 = 0 then
            J127 v8 a1 v14 h15
          else
            J127 115 a1 v14 h15)))))) (fun J95 =>
        if v10 = 0 then
          J95 h9
        else
          if v8 = 62 then
            J95 h9
          else
            if v8 = 60 then
              J95 h9
            else
              if v8 = 33 then
                J95 h9
              else
                j_b2 (f_X11_in F v8 48 57 h9) (fun v25 h24 =>
                if v25 = 0 then
                  (jg_I 11 17 h24 a0).bind (fun v26 =>
                  (f_X11_fault F a0 v26 h24).bind (fun h27 =>
                  J95 h27))
                else
                  J95 h24)))))))
    else
      (jg_R 11 32 h1 a0).bind (fun v28 =>
      (jb_I 100 h1 v28 a1 119).bind (fun h29 =>
      (jg_R 11 32 h29 a0).bind (fun v30 =>
      j_b2 (f_X11_number F a0 2 h29) (fun v32 h31 =>
      (jb_I 100 h31 v30 (a1 + (1 : Int32)) v32).bind (fun h33 =>
      some h33)))))))
def f_X11_journey_L26 (F : Nat) (x0 : Nat) (k57 : Int32 → jH → Option (Int32 × jH)) : Nat → Int32 → Int32 → jH → Option (Int32 × jH)
  | 0, _, _, _ => none
  | n + 1, x1, x2, h =>
    if x2 = 0 then
      k57 x1 h
    else
      j_b2 (f_X11_fine F x0 h) (fun v7 h6 =>
      if v7 = 0 then
        k57 x1 h6
      else
        (f_X11_readAct F x0 ((3 : Int32) * x1) h6).bind (fun h8 =>
        j_b2 (f_X11_passes F x0 59 h8) (fun v10 h9 =>
        f_X11_journey_L26 F x0 k57 n (x1 + 1) v10 h9)))
def f_X11_journey_L90 (F : Nat) (x0 : Nat) (x1 : Int32) (k136 : Int32 → jH → Option (Int32 × jH)) : Nat → Int32 → jH → Option (Int32 × jH)
  | 0, _, _ => none
  | n + 1, x3, h =>
    if x1 ≤ x3 then
      k136 x3 h
    else
      (jg_R 11 32 h x0).bind (fun v20 =>
      (ja_I 100 h v20 ((3 : Int32) * x3)).bind (fun v21 =>
      (jg_R 11 32 h x0).bind (fun v22 =>
      (ja_I 100 h v22 (((3 : Int32) * x3) + (1 : Int32))).bind (fun v23 =>
      (jg_R 11 32 h x0).bind (fun v24 =>
      (ja_I 100 h v24 (((3 : Int32) * x3) + (2 : Int32))).bind (fun v25 =>
      j_b2 (f_X11_act F x0 v21 v23 v25 h) (fun v27 h26 =>
      if v27 = 0 then
        k136 x3 h26
      else
        f_X11_journey_L90 F x0 x1 k136 n (x3 + 1) h26)))))))
def f_X11_journey (F : Nat) (a0 : Nat) (h : jH) : Option (Int32 × jH) :=
  j_gd 11 h a0 (
    (jp_I 11 13 h a0 0).bind (fun h1 =>
    (f_X11_beginText F a0 60 h1).bind (fun h2 =>
    (jg_I 11 15 h2 a0).bind (fun v3 =>
    j_jn (fun (s4 : Int32) (h5 : jH) =>
      f_X11_journey_L26 F a0 (fun (y11 : Int32) (h12 : jH) =>
        j_b2 (f_X11_wasRight F a0 h12) (fun v14 h13 =>
        if v14 = 0 then
          (jg_I 11 18 h13 a0).bind (fun v15 =>
          some ((((-1) : Int32) - v15), h13))
        else
          (jg_R 11 0 h13 a0).bind (fun v16 =>
          (jg_R 11 30 h13 a0).bind (fun v17 =>
          (f_X11_lay F v16 v17 0 h13).bind (fun h18 =>
          (jp_I 11 33 h18 a0 0).bind (fun h19 =>
          f_X11_journey_L90 F a0 y11 (fun (y28 : Int32) (h29 : jH) =>
            j_jn (fun (h30 : jH) =>
              (jp_I 11 12 h30 a0 0).bind (fun h31 =>
              j_jn (fun (s32 : Int64) (s33 : Nat) (h34 : jH) =>
                (f_X11_tell F s33 s32 h34).bind (fun h35 =>
                (jg_I 11 33 h35 a0).bind (fun v36 =>
                (f_X11_tell F a0 (v36.toInt64) h35).bind (fun h37 =>
                some (y28, h37))))) (fun J164 =>
                if y11 ≤ y28 then
                  J164 0 a0 h31
                else
                  J164 1 a0 h31))) (fun J148 =>
              if y28 ≤ 0 then
                J148 h29
              else
                (jg_R 11 30 h29 a0).bind (fun v38 =>
                (f_X11_remember F a0 v38 h29).bind (fun h39 =>
                J148 h39)))) F 0 h19)))))) F 0 s4 h5) (fun J25 =>
      if v3 ≤ 0 then
        J25 0 h2
      else
        J25 1 h2)))))
def f_X11_undo_L26 (F : Nat) (x0 : Nat) (k58 : jH → Option (Int32 × jH)) : Nat → Int32 → jH → Option (Int32 × jH)
  | 0, _, _ => none
  | n + 1, x1, h =>
    if (44 : Int32) ≤ x1 then
      k58 h
    else
      (jg_R 11 0 h x0).bind (fun v5 =>
      (jg_R 11 28 h x0).bind (fun v6 =>
      (jg_I 11 29 h x0).bind (fun v7 =>
      (ja_I 100 h v6 (((44 : Int32) * v7) + x1)).bind (fun v8 =>
      (jb_I 100 h v5 x1 v8).bind (fun h9 =>
      f_X11_undo_L26 F x0 k58 n (x1 + 1) h9)))))
def f_X11_undo (F : Nat) (a0 : Nat) (h : jH) : Option (Int32 × jH) :=
  j_gd 11 h a0 (
    (jp_I 11 13 h a0 0).bind (fun h1 =>
    (jg_I 11 29 h1 a0).bind (fun v2 =>
    if v2 = 0 then
      some ((-1), h1)
    else
      (jg_I 11 29 h1 a0).bind (fun v3 =>
      (jp_I 11 29 h1 a0 (v3 - (1 : Int32))).bind (fun h4 =>
      f_X11_undo_L26 F a0 (fun (h10 : jH) =>
        (jg_I 11 29 h10 a0).bind (fun v11 =>
        some (v11, h10))) F 0 h4)))))
def f_X11_cheapest_L43 (F : Nat) (x0 : Nat) (x1 : Int32) (x2 : Int32) (x3 : Int32) (k78 : Int32 → jH → Option (Int32 × jH)) : Nat → Int32 → Int32 → jH → Option (Int32 × jH)
  | 0, _, _, _ => none
  | n + 1, x4, x5, h =>
    (jg_I 11 2 h x0).bind (fun v8 =>
    if v8 ≤ x5 then
      k78 x4 h
    else
      j_b2 (f_X11_means F x0 x5 x1 h) (fun v10 h9 =>
      j_jn (fun (s11 : Int32) (s12 : Int32) (h13 : jH) =>
        f_X11_cheapest_L43 F x0 x1 x2 x3 k78 n (s12 + s11) (x5 + 1) h13) (fun J69 =>
        if v10 = 0 then
          J69 0 x4 h9
        else
          J69 1 x4 h9)))
def f_X11_cheapest (F : Nat) (a0 : Nat) (a1 : Int32) (a2 : Int32) (h : jH) : Option (Int32 × jH) :=
  j_gd 11 h a0 (
    (jp_I 11 13 h a0 0).bind (fun h1 =>
    j_b2 (f_X11_isMeaning F a1 h1) (fun v3 h2 =>
    if v3 = 0 then
      some ((-1), h2)
    else
      j_b2 (f_X11_isStation F a0 a2 h2) (fun v5 h4 =>
      if v5 = 0 then
        some ((-1), h4)
      else
        j_b2 (f_X11_cheapestOf F a0 a1 a2 h4) (fun v7 h6 =>
        if v7 = (-1) then
          some ((-2), h6)
        else
          f_X11_cheapest_L43 F a0 a1 a2 v7 (fun (y14 : Int32) (h15 : jH) =>
            (jp_I 11 12 h15 a0 0).bind (fun h16 =>
            j_b2 (f_X11_tollNow F a0 v7 a2 h16) (fun v18 h17 =>
            (f_X11_tell F a0 (v18.toInt64) h17).bind (fun h19 =>
            (f_X11_tell F a0 (y14.toInt64) h19).bind (fun h20 =>
            some (v7, h20)))))) F 0 0 h6)))))
def f_X11_tells (F : Nat) (a0 : Nat) (a1 : Int32) (a2 : Int32) (a3 : Int32) (h : jH) : Option (Int32 × jH) :=
  j_gd 11 h a0 (
    (jg_R 11 5 h a0).bind (fun v1 =>
    (ja_I 100 h v1 ((2 : Int32) * a1)).bind (fun v2 =>
    (jg_R 11 9 h a0).bind (fun v3 =>
    (ja_I 101 h v3 a2).bind (fun v4 =>
    if v2 = (v4 - (48 : Int32)) then
      (jg_R 11 5 h a0).bind (fun v5 =>
      (ja_I 100 h v5 (((2 : Int32) * a1) + (1 : Int32))).bind (fun v6 =>
      if v6 = (-1) then
        some (1, h)
      else
        if a3 ≤ (a2 + (1 : Int32)) then
          some (0, h)
        else
          (jg_R 11 5 h a0).bind (fun v7 =>
          (ja_I 100 h v7 (((2 : Int32) * a1) + (1 : Int32))).bind (fun v8 =>
          (jg_R 11 9 h a0).bind (fun v9 =>
          (ja_I 101 h v9 (a2 + (1 : Int32))).bind (fun v10 =>
          if v8 = (v10 - (48 : Int32)) then
            some (2, h)
          else
            some (0, h)))))))
    else
      some (0, h))))))
def f_X11_sentence_L28 (F : Nat) (x0 : Nat) (x1 : Int32) (x2 : Int32) (k55 : Int32 → jH → Option (Int32 × jH)) (k65 : jH → Option (Int32 × jH)) : Nat → Int32 → jH → Option (Int32 × jH)
  | 0, _, _ => none
  | n + 1, x3, h =>
    if x2 ≤ x3 then
      k65 h
    else
      if x3 = 12 then
        k55 x3 h
      else
        (jg_R 11 9 h x0).bind (fun v6 =>
        (ja_I 101 h v6 x3).bind (fun v7 =>
        j_b2 (f_X11_in F v7 48 57 h) (fun v9 h8 =>
        if v9 = 0 then
          k55 x3 h8
        else
          f_X11_sentence_L28 F x0 x1 x2 k55 k65 n (x3 + 1) h8)))
def f_X11_sentence_L98 (F : Nat) (x0 : Nat) (x1 : Int32) (x2 : Int32) (x3 : Int32) (k162 : jH → Option (Int32 × jH)) : Nat → Int32 → jH → Option (Int32 × jH)
  | 0, _, _ => none
  | n + 1, x4, h =>
    (jg_I 11 2 h x0).bind (fun v17 =>
    if v17 ≤ x4 then
      k162 h
    else
      j_b2 (f_X11_tells F x0 x4 x3 x2 h) (fun v19 h18 =>
      j_jn (fun (h20 : jH) =>
        f_X11_sentence_L98 F x0 x1 x2 x3 k162 n (x4 + 1) h20) (fun J156 =>
        if v19 ≤ 0 then
          J156 h18
        else
          (jg_R 11 34 h18 x0).bind (fun v21 =>
          (jg_R 11 34 h18 x0).bind (fun v22 =>
          (ja_I 100 h18 v22 x3).bind (fun v23 =>
          j_b2 (f_X11_tollNow F x0 x4 x1 h18) (fun v25 h24 =>
          (jg_R 11 34 h24 x0).bind (fun v26 =>
          j_b2 (f_X11_tells F x0 x4 x3 x2 h24) (fun v28 h27 =>
          (ja_I 100 h27 v26 (x3 + v28)).bind (fun v29 =>
          (jb_I 100 h27 v21 x3 (j_min v23 (v25 + v29))).bind (fun h30 =>
          J156 h30)))))))))))
def f_X11_sentence_L82 (F : Nat) (x0 : Nat) (x1 : Int32) (x2 : Int32) (k168 : jH → Option (Int32 × jH)) : Nat → Int32 → jH → Option (Int32 × jH)
  | 0, _, _ => none
  | n + 1, x3, h =>
    if x3 < 0 then
      k168 h
    else
      (jg_R 11 34 h x0).bind (fun v15 =>
      (jb_I 100 h v15 x3 100000000).bind (fun h16 =>
      f_X11_sentence_L98 F x0 x1 x2 x3 (fun (h31 : jH) =>
        f_X11_sentence_L82 F x0 x1 x2 k168 n (x3 + (-1)) h31) F 0 h16))
def f_X11_sentence_L199 (F : Nat) (x0 : Nat) (x1 : Int32) (x2 : Int32) (x3 : Int32) (k248 : Int32 → jH → Option (Int32 × jH)) : Nat → Int32 → jH → Option (Int32 × jH)
  | 0, _, _ => none
  | n + 1, x4, h =>
    j_b2 (f_X11_tells F x0 x4 x3 x2 h) (fun v37 h36 =>
    j_jn (fun (h38 : jH) =>
      f_X11_sentence_L199 F x0 x1 x2 x3 k248 n (x4 + 1) h38) (fun J242 =>
      if v37 = 0 then
        J242 h36
      else
        j_b2 (f_X11_tollNow F x0 x4 x1 h36) (fun v40 h39 =>
        (jg_R 11 34 h39 x0).bind (fun v41 =>
        j_b2 (f_X11_tells F x0 x4 x3 x2 h39) (fun v43 h42 =>
        (ja_I 100 h42 v41 (x3 + v43)).bind (fun v44 =>
        (jg_R 11 34 h42 x0).bind (fun v45 =>
        (ja_I 100 h42 v45 x3).bind (fun v46 =>
        if (v40 + v44) = v46 then
          k248 x4 h42
        else
          J242 h42))))))))
def f_X11_sentence_L191 (F : Nat) (x0 : Nat) (x1 : Int32) (x2 : Int32) (k269 : jH → Option (Int32 × jH)) : Nat → Int32 → jH → Option (Int32 × jH)
  | 0, _, _ => none
  | n + 1, x3, h =>
    if x2 ≤ x3 then
      k269 h
    else
      f_X11_sentence_L199 F x0 x1 x2 x3 (fun (y47 : Int32) (h48 : jH) =>
        (f_X11_tell F x0 (y47.toInt64) h48).bind (fun h49 =>
        j_b2 (f_X11_tells F x0 y47 x3 x2 h49) (fun v51 h50 =>
        f_X11_sentence_L191 F x0 x1 x2 k269 n (x3 + v51) h50))) F 0 h
def f_X11_sentence (F : Nat) (a0 : Nat) (a1 : Int32) (h : jH) : Option (Int32 × jH) :=
  j_gd 11 h a0 (
    (jp_I 11 13 h a0 0).bind (fun h1 =>
    (jg_I 11 10 h1 a0).bind (fun v2 =>
    (jp_I 11 10 h1 a0 0).bind (fun h3 =>
    j_b2 (f_X11_isStation F a0 a1 h3) (fun v5 h4 =>
    if v5 = 0 then
      some ((-100), h4)
    else
      f_X11_sentence_L28 F a0 a1 v2 (fun (y10 : Int32) (h11 : jH) =>
        some ((((-1) : Int32) - y10), h11)) (fun (h12 : jH) =>
        if v2 = 0 then
          some ((-1), h12)
        else
          (jg_R 11 34 h12 a0).bind (fun v13 =>
          (jb_I 100 h12 v13 v2 0).bind (fun h14 =>
          f_X11_sentence_L82 F a0 a1 v2 (fun (h32 : jH) =>
            (jg_R 11 34 h32 a0).bind (fun v33 =>
            (ja_I 100 h32 v33 0).bind (fun v34 =>
            if v34 < 100000000 then
              (jp_I 11 12 h32 a0 0).bind (fun h35 =>
              f_X11_sentence_L191 F a0 a1 v2 (fun (h52 : jH) =>
                (jg_R 11 34 h52 a0).bind (fun v53 =>
                (ja_I 100 h52 v53 0).bind (fun v54 =>
                some (v54, h52)))) F 0 h35)
            else
              some ((-200), h32)))) F (v2 - (1 : Int32)) h14))) F 0 h4)))))
def f_X11_when_L28 (F : Nat) (x0 : Nat) (x1 : Int32) (x2 : Int32) (k78 : Int32 → jH → Option (Int32 × jH)) : Nat → Int32 → Int32 → jH → Option (Int32 × jH)
  | 0, _, _, _ => none
  | n + 1, x3, x4, h =>
    if (24 : Int32) ≤ x4 then
      k78 x3 h
    else
      (jg_R 11 0 h x0).bind (fun v6 =>
      (ja_I 100 h v6 12).bind (fun v7 =>
      j_b2 (f_X11_tollOf F x0 x1 x2 (v7 + x4) h) (fun v9 h8 =>
      (jg_R 11 0 h8 x0).bind (fun v10 =>
      (ja_I 100 h8 v10 12).bind (fun v11 =>
      j_b2 (f_X11_tollOf F x0 x1 x2 (v11 + x3) h8) (fun v13 h12 =>
      j_jn (fun (z14 : Int32) (h15 : jH) =>
        f_X11_when_L28 F x0 x1 x2 k78 n z14 (x4 + 1) h15) (fun J72 =>
        if v13 ≤ v9 then
          J72 x3 h12
        else
          J72 x4 h12)))))))
def f_X11_when (F : Nat) (a0 : Nat) (a1 : Int32) (a2 : Int32) (h : jH) : Option (Int32 × jH) :=
  j_gd 11 h a0 (
    (jp_I 11 13 h a0 0).bind (fun h1 =>
    j_b2 (f_X11_isWord F a0 a1 h1) (fun v3 h2 =>
    if v3 = 0 then
      some ((-1), h2)
    else
      j_b2 (f_X11_isStation F a0 a2 h2) (fun v5 h4 =>
      if v5 = 0 then
        some ((-1), h4)
      else
        f_X11_when_L28 F a0 a1 a2 (fun (y16 : Int32) (h17 : jH) =>
          (jp_I 11 12 h17 a0 0).bind (fun h18 =>
          (jg_R 11 0 h18 a0).bind (fun v19 =>
          (ja_I 100 h18 v19 12).bind (fun v20 =>
          j_b2 (f_X11_tollOf F a0 a1 a2 (v20 + y16) h18) (fun v22 h21 =>
          (f_X11_tell F a0 (v22.toInt64) h21).bind (fun h23 =>
          j_b2 (f_X11_tollNow F a0 a1 a2 h23) (fun v25 h24 =>
          (f_X11_tell F a0 (v25.toInt64) h24).bind (fun h26 =>
          some (y16, h26))))))))) F 0 1 h4))))
def f_X11_shortest_L39 (F : Nat) (x0 : Nat) (x1 : Int32) (x2 : Int32) (x3 : Int32) (k139 : Int32 → jH → Option (Int32 × jH)) : Nat → Int32 → Int32 → jH → Option (Int32 × jH)
  | 0, _, _, _ => none
  | n + 1, x4, x5, h =>
    (jg_I 11 2 h x0).bind (fun v8 =>
    if v8 ≤ x5 then
      k139 x4 h
    else
      j_b2 (f_X11_means F x0 x5 x1 h) (fun v10 h9 =>
      j_jn (fun (z11 : Int32) (h12 : jH) =>
        f_X11_shortest_L39 F x0 x1 x2 x3 k139 n z11 (x5 + 1) h12) (fun J133 =>
        if v10 = 0 then
          J133 x4 h9
        else
          j_b2 (f_X11_tollNow F x0 x5 x2 h9) (fun v14 h13 =>
          if v14 ≤ x3 then
            j_jn (fun (h15 : jH) =>
              J133 x5 h15) (fun J129 =>
              if x4 = (-1) then
                J129 h13
              else
                (jg_R 11 4 h13 x0).bind (fun v16 =>
                (ja_I 100 h13 v16 x5).bind (fun v17 =>
                (jg_R 11 4 h13 x0).bind (fun v18 =>
                (ja_I 100 h13 v18 x4).bind (fun v19 =>
                if v17 < v19 then
                  J129 h13
                else
                  (jg_R 11 4 h13 x0).bind (fun v20 =>
                  (ja_I 100 h13 v20 x5).bind (fun v21 =>
                  (jg_R 11 4 h13 x0).bind (fun v22 =>
                  (ja_I 100 h13 v22 x4).bind (fun v23 =>
                  if v21 = v23 then
                    j_b2 (f_X11_tollNow F x0 x5 x2 h13) (fun v25 h24 =>
                    j_b2 (f_X11_tollNow F x0 x4 x2 h24) (fun v27 h26 =>
                    if v27 ≤ v25 then
                      J133 x4 h26
                    else
                      J129 h26))
                  else
                    J133 x4 h13)))))))))
          else
            J133 x4 h13))))
def f_X11_shortest (F : Nat) (a0 : Nat) (a1 : Int32) (a2 : Int32) (a3 : Int32) (h : jH) : Option (Int32 × jH) :=
  j_gd 11 h a0 (
    (jp_I 11 13 h a0 0).bind (fun h1 =>
    j_b2 (f_X11_isMeaning F a1 h1) (fun v3 h2 =>
    if v3 = 0 then
      some ((-1), h2)
    else
      j_b2 (f_X11_isStation F a0 a2 h2) (fun v5 h4 =>
      if v5 = 0 then
        some ((-1), h4)
      else
        j_b2 (f_X11_in F a3 0 9999 h4) (fun v7 h6 =>
        if v7 = 0 then
          some ((-1), h6)
        else
          f_X11_shortest_L39 F a0 a1 a2 a3 (fun (y28 : Int32) (h29 : jH) =>
            if y28 = (-1) then
              some ((-2), h29)
            else
              (jp_I 11 12 h29 a0 0).bind (fun h30 =>
              (jg_R 11 4 h30 a0).bind (fun v31 =>
              (ja_I 100 h30 v31 y28).bind (fun v32 =>
              (f_X11_tell F a0 (v32.toInt64) h30).bind (fun h33 =>
              j_b2 (f_X11_tollNow F a0 y28 a2 h33) (fun v35 h34 =>
              (f_X11_tell F a0 (v35.toInt64) h34).bind (fun h36 =>
              some (y28, h36)))))))) F (-1) 0 h6)))))
def f_X11_changesOf_L15 (F : Nat) (x0 : Nat) (x1 : Int32) (x2 : Int32) (x3 : Int32) (x4 : Int32) (k152 : jH → Option (Int32 × jH)) : Nat → Int32 → jH → Option (Int32 × jH)
  | 0, _, _ => none
  | n + 1, x5, h =>
    if x2 < x5 then
      k152 h
    else
      j_jn (fun (h1 : jH) =>
        f_X11_changesOf_L15 F x0 x1 x2 x3 x4 k152 n (x5 + 1) h1) (fun J146 =>
        j_jn (fun (h2 : jH) =>
          (jg_R 11 37 h2 x0).bind (fun v3 =>
          (jb_I 100 h2 v3 ((x3 * x4) + x5) (x4 + x5)).bind (fun h4 =>
          J146 h4))) (fun J31 =>
          if x4 = 0 then
            J31 h
          else
            if x5 = 0 then
              J31 h
            else
              (jg_R 11 37 h x0).bind (fun v5 =>
              (ja_I 100 h v5 (((x3 * (x4 - (1 : Int32))) + x5) - (1 : Int32))).bind (fun v6 =>
              (jg_R 11 35 h x0).bind (fun v7 =>
              (ja_I 100 h v7 (x4 - (1 : Int32))).bind (fun v8 =>
              (jg_R 11 36 h x0).bind (fun v9 =>
              (ja_I 100 h v9 (x5 - (1 : Int32))).bind (fun v10 =>
              j_jn (fun (s11 : Int32) (s12 : Int32) (h13 : jH) =>
                (jg_R 11 37 h13 x0).bind (fun v14 =>
                (jg_R 11 37 h13 x0).bind (fun v15 =>
                (ja_I 100 h13 v15 ((x3 * (x4 - (1 : Int32))) + x5)).bind (fun v16 =>
                (jg_R 11 37 h13 x0).bind (fun v17 =>
                (ja_I 100 h13 v17 (((x3 * x4) + x5) - (1 : Int32))).bind (fun v18 =>
                (jb_I 100 h13 v14 ((x3 * x4) + x5) (j_min (s12 + s11) ((1 : Int32) + (j_min v16 v18)))).bind (fun h19 =>
                J146 h19))))))) (fun J93 =>
                if v8 = v10 then
                  J93 0 v6 h
                else
                  J93 1 v6 h)))))))))
def f_X11_changesOf_L6 (F : Nat) (x0 : Nat) (x1 : Int32) (x2 : Int32) (x3 : Int32) (k158 : jH → Option (Int32 × jH)) : Nat → Int32 → jH → Option (Int32 × jH)
  | 0, _, _ => none
  | n + 1, x4, h =>
    if x1 < x4 then
      k158 h
    else
      f_X11_changesOf_L15 F x0 x1 x2 x3 x4 (fun (h20 : jH) =>
        f_X11_changesOf_L6 F x0 x1 x2 x3 k158 n (x4 + 1) h20) F 0 h
def f_X11_changesOf (F : Nat) (a0 : Nat) (a1 : Int32) (a2 : Int32) (h : jH) : Option (Int32 × jH) :=
  j_gd 11 h a0 (
    f_X11_changesOf_L6 F a0 a1 a2 7 (fun (h21 : jH) =>
      (jg_R 11 37 h21 a0).bind (fun v22 =>
      (ja_I 100 h21 v22 (((7 : Int32) * a1) + a2)).bind (fun v23 =>
      some (v23, h21)))) F 0 h)
def f_X11_layWord_L6 (F : Nat) (x0 : Nat) (x1 : Int32) (x2 : Nat) (x3 : Int32) : Nat → Int32 → Int32 → jH → Option (Int32 × jH)
  | 0, _, _, _ => none
  | n + 1, x4, x5, h =>
    (jg_R 11 4 h x0).bind (fun v1 =>
    (ja_I 100 h v1 x1).bind (fun v2 =>
    if v2 ≤ x5 then
      some (x4, h)
    else
      j_jn (fun (z3 : Int32) (h4 : jH) =>
        f_X11_layWord_L6 F x0 x1 x2 x3 n z3 (x5 + 1) h4) (fun J52 =>
        j_jn (fun (h5 : jH) =>
          j_b2 (f_X11_letter F x0 x1 x5 h5) (fun v7 h6 =>
          (jb_I 100 h6 x2 x4 v7).bind (fun h8 =>
          J52 (x4 + 1) h8))) (fun J38 =>
          if x3 = 0 then
            J38 h
          else
            j_b2 (f_X11_letter F x0 x1 x5 h) (fun v10 h9 =>
            j_b2 (f_X11_vowelOf F v10 h9) (fun v12 h11 =>
            if v12 = (-1) then
              J52 x4 h11
            else
              J38 h11))))))
def f_X11_layWord (F : Nat) (a0 : Nat) (a1 : Int32) (a2 : Nat) (a3 : Int32) (h : jH) : Option (Int32 × jH) :=
  j_gd 11 h a0 (
    f_X11_layWord_L6 F a0 a1 a2 a3  F 0 0 h)
def f_X11_differBy (F : Nat) (a0 : Nat) (a1 : Int32) (a2 : Int32) (a3 : Int32) (h : jH) : Option (Int32 × jH) :=
  j_gd 11 h a0 (
    (jg_R 11 35 h a0).bind (fun v1 =>
    j_b2 (f_X11_layWord F a0 a1 v1 a3 h) (fun v3 h2 =>
    (jg_R 11 36 h2 a0).bind (fun v4 =>
    j_b2 (f_X11_layWord F a0 a2 v4 a3 h2) (fun v6 h5 =>
    j_b2 (f_X11_changesOf F a0 v3 v6 h5) (fun v8 h7 =>
    some (v8, h7)))))))
def f_X11_differ (F : Nat) (a0 : Nat) (a1 : Int32) (a2 : Int32) (h : jH) : Option (Int32 × jH) :=
  j_gd 11 h a0 (
    (jp_I 11 13 h a0 0).bind (fun h1 =>
    j_b2 (f_X11_isWord F a0 a1 h1) (fun v3 h2 =>
    if v3 = 0 then
      some ((-1), h2)
    else
      j_b2 (f_X11_isWord F a0 a2 h2) (fun v5 h4 =>
      if v5 = 0 then
        some ((-1), h4)
      else
        (jp_I 11 12 h4 a0 0).bind (fun h6 =>
        j_b2 (f_X11_differBy F a0 a1 a2 1 h6) (fun v8 h7 =>
        (f_X11_tell F a0 (v8.toInt64) h7).bind (fun h9 =>
        j_b2 (f_X11_differBy F a0 a1 a2 0 h9) (fun v11 h10 =>
        some (v11, h10)))))))))
def f_X11_share (F : Nat) (a0 : Nat) (a1 : Int32) (a2 : Int32) (h : jH) : Option (Int32 × jH) :=
  j_gd 11 h a0 (
    (jg_R 11 5 h a0).bind (fun v1 =>
    (ja_I 100 h v1 ((2 : Int32) * a1)).bind (fun v2 =>
    j_b2 (f_X11_means F a0 a2 v2 h) (fun v4 h3 =>
    j_jn (fun (h5 : jH) =>
      some (1, h5)) (fun J48 =>
      if v4 = 0 then
        (jg_R 11 5 h3 a0).bind (fun v6 =>
        (ja_I 100 h3 v6 (((2 : Int32) * a1) + (1 : Int32))).bind (fun v7 =>
        if v7 = (-1) then
          some (0, h3)
        else
          (jg_R 11 5 h3 a0).bind (fun v8 =>
          (ja_I 100 h3 v8 (((2 : Int32) * a1) + (1 : Int32))).bind (fun v9 =>
          j_b2 (f_X11_means F a0 a2 v9 h3) (fun v11 h10 =>
          if v11 = 0 then
            some (0, h10)
          else
            J48 h10)))))
      else
        J48 h3)))))
def f_X11_near_L19 (F : Nat) (x0 : Nat) (x1 : Int32) (k62 : Int32 → jH → Option (Int32 × jH)) : Nat → Int32 → Int32 → jH → Option (Int32 × jH)
  | 0, _, _, _ => none
  | n + 1, x2, x3, h =>
    (jg_I 11 2 h x0).bind (fun v4 =>
    if v4 ≤ x3 then
      k62 x2 h
    else
      j_jn (fun (z5 : Int32) (h6 : jH) =>
        f_X11_near_L19 F x0 x1 k62 n z5 (x3 + 1) h6) (fun J56 =>
        if x3 = x1 then
          J56 x2 h
        else
          j_jn (fun (h7 : jH) =>
            J56 x3 h7) (fun J54 =>
            if x2 = (-1) then
              J54 h
            else
              j_b2 (f_X11_differBy F x0 x1 x3 0 h) (fun v9 h8 =>
              j_b2 (f_X11_differBy F x0 x1 x2 0 h8) (fun v11 h10 =>
              if v11 ≤ v9 then
                J56 x2 h10
              else
                J54 h10)))))
def f_X11_near (F : Nat) (a0 : Nat) (a1 : Int32) (h : jH) : Option (Int32 × jH) :=
  j_gd 11 h a0 (
    (jp_I 11 13 h a0 0).bind (fun h1 =>
    j_b2 (f_X11_isWord F a0 a1 h1) (fun v3 h2 =>
    if v3 = 0 then
      some ((-1), h2)
    else
      f_X11_near_L19 F a0 a1 (fun (y12 : Int32) (h13 : jH) =>
        if y12 = (-1) then
          some ((-2), h13)
        else
          (jp_I 11 12 h13 a0 0).bind (fun h14 =>
          j_b2 (f_X11_differBy F a0 a1 y12 0 h14) (fun v16 h15 =>
          (f_X11_tell F a0 (v16.toInt64) h15).bind (fun h17 =>
          j_b2 (f_X11_share F a0 a1 y12 h17) (fun v19 h18 =>
          j_jn (fun (s20 : Int64) (s21 : Nat) (h22 : jH) =>
            (f_X11_tell F s21 s20 h22).bind (fun h23 =>
            some (y12, h23))) (fun J102 =>
            if v19 = 0 then
              J102 0 a0 h18
            else
              J102 1 a0 h18)))))) F (-1) 0 h2)))
def b_X11_common (F : Nat) (rec : Int64 → Int64 → jH → Option (Int64 × jH)) (a0 : Int64) (a1 : Int64) (h : jH) : Option (Int64 × jH) :=
  if (lg_cmp a1 (0 : Int64)) = 0 then
    some (a0, h)
  else
    (j_rel a0 a1).bind (fun v1 =>
    j_b2 (rec a1 v1 h) (fun v3 h2 =>
    some (v3, h2)))
def f_gC (F : Nat) : Nat → Int64 → Int64 → jH → Option (Int64 × jH)
  | 0, _, _, _ => none
  | n + 1, a0, a1, h => b_X11_common F (f_gC F n) a0 a1 h
def f_X11_common (F : Nat) (a0 : Int64) (a1 : Int64) (h : jH) : Option (Int64 × jH) := f_gC F 200 a0 a1 h
def f_X11_power_L5 (F : Nat) (x0 : Int64) (x2 : Int32) : Nat → Int64 → Int32 → jH → Option (Int64 × jH)
  | 0, _, _, _ => none
  | n + 1, x3, x5, h =>
    if x2 ≤ x5 then
      some (x3, h)
    else
      f_X11_power_L5 F x0 x2 n (x3 * x0) (x5 + 1) h
def f_X11_power (F : Nat) (a0 : Int64) (a1 : Int32) (h : jH) : Option (Int64 × jH) :=
  f_X11_power_L5 F a0 a1  F 1 0 h
def f_X11_heard_L43 (F : Nat) (x0 : Nat) (x1 : Int32) (x2 : Int32) (x3 : Int32) (k118 : Int64 → jH → Option (Int32 × jH)) : Nat → Int64 → Int64 → Int32 → jH → Option (Int32 × jH)
  | 0, _, _, _, _ => none
  | n + 1, x4, x6, x8, h =>
    (jg_R 11 4 h x0).bind (fun v8 =>
    (ja_I 100 h v8 x1).bind (fun v9 =>
    if (j_min x3 v9) < x8 then
      k118 x4 h
    else
      j_b2 (f_X11_power F (((10 : Int32) - x2).toInt64) x8 h) (fun v11 h10 =>
      (jg_R 11 4 h10 x0).bind (fun v12 =>
      (ja_I 100 h10 v12 x1).bind (fun v13 =>
      j_b2 (f_X11_power F (x2.toInt64) (v13 - x8) h10) (fun v15 h14 =>
      (jg_R 11 4 h14 x0).bind (fun v16 =>
      (ja_I 100 h14 v16 x1).bind (fun v17 =>
      (j_dil (x6 * ((v17 - x8).toInt64)) ((x8 + (1 : Int32)).toInt64)).bind (fun v18 =>
      f_X11_heard_L43 F x0 x1 x2 x3 k118 n (x4 + ((x6 * v11) * v15)) v18 (x8 + 1) h14)))))))))
def f_X11_heard (F : Nat) (a0 : Nat) (a1 : Int32) (a2 : Int32) (a3 : Int32) (h : jH) : Option (Int32 × jH) :=
  j_gd 11 h a0 (
    (jp_I 11 13 h a0 0).bind (fun h1 =>
    j_b2 (f_X11_isWord F a0 a1 h1) (fun v3 h2 =>
    if v3 = 0 then
      some ((-1), h2)
    else
      j_b2 (f_X11_in F a2 0 10 h2) (fun v5 h4 =>
      if v5 = 0 then
        some ((-1), h4)
      else
        j_b2 (f_X11_in F a3 0 2 h4) (fun v7 h6 =>
        if v7 = 0 then
          some ((-1), h6)
        else
          f_X11_heard_L43 F a0 a1 a2 a3 (fun (y19 : Int64) (h20 : jH) =>
            (jg_R 11 4 h20 a0).bind (fun v21 =>
            (ja_I 100 h20 v21 a1).bind (fun v22 =>
            j_b2 (f_X11_power F 10 v22 h20) (fun v24 h23 =>
            j_b2 (f_X11_common F y19 v24 h23) (fun v26 h25 =>
            (jp_I 11 12 h25 a0 0).bind (fun h27 =>
            (j_dil y19 v26).bind (fun v28 =>
            (f_X11_tell F a0 v28 h27).bind (fun h29 =>
            (j_dil v24 v26).bind (fun v30 =>
            (f_X11_tell F a0 v30 h29).bind (fun h31 =>
            some (0, h31))))))))))) F 0 1 0 h6)))))
def f_X11_areApart_L13 (F : Nat) (x0 : Nat) (x1 : Int32) (x2 : Int32) (x3 : Int32) (k56 : jH → Option (Int32 × jH)) : Nat → Int32 → jH → Option (Int32 × jH)
  | 0, _, _ => none
  | n + 1, x4, h =>
    if x3 ≤ x4 then
      k56 h
    else
      j_b2 (f_X11_has F x1 x3 h) (fun v3 h2 =>
      j_jn (fun (h4 : jH) =>
        f_X11_areApart_L13 F x0 x1 x2 x3 k56 n (x4 + 1) h4) (fun J50 =>
        if v3 = 0 then
          J50 h2
        else
          j_b2 (f_X11_has F x1 x4 h2) (fun v6 h5 =>
          if v6 = 0 then
            J50 h5
          else
            j_b2 (f_X11_differBy F x0 x3 x4 0 h5) (fun v8 h7 =>
            if x2 ≤ v8 then
              J50 h7
            else
              some (0, h7)))))
def f_X11_areApart_L2 (F : Nat) (x0 : Nat) (x1 : Int32) (x2 : Int32) : Nat → Int32 → jH → Option (Int32 × jH)
  | 0, _, _ => none
  | n + 1, x3, h =>
    (jg_I 11 2 h x0).bind (fun v1 =>
    if v1 ≤ x3 then
      some (1, h)
    else
      f_X11_areApart_L13 F x0 x1 x2 x3 (fun (h9 : jH) =>
        f_X11_areApart_L2 F x0 x1 x2 n (x3 + 1) h9) F 0 h)
def f_X11_areApart (F : Nat) (a0 : Nat) (a1 : Int32) (a2 : Int32) (h : jH) : Option (Int32 × jH) :=
  j_gd 11 h a0 (
    f_X11_areApart_L2 F a0 a1 a2  F 0 h)
def f_X11_tollsOf_L5 (F : Nat) (x0 : Nat) (x1 : Int32) (x2 : Int32) : Nat → Int32 → Int32 → jH → Option (Int32 × jH)
  | 0, _, _, _ => none
  | n + 1, x3, x4, h =>
    (jg_I 11 2 h x0).bind (fun v1 =>
    if v1 ≤ x4 then
      some (x3, h)
    else
      j_b2 (f_X11_has F x1 x4 h) (fun v3 h2 =>
      j_jn (fun (s4 : Int32) (s5 : Int32) (h6 : jH) =>
        f_X11_tollsOf_L5 F x0 x1 x2 n (s5 + s4) (x4 + 1) h6) (fun J35 =>
        if v3 = 0 then
          J35 0 x3 h2
        else
          j_b2 (f_X11_tollNow F x0 x4 x2 h2) (fun v8 h7 =>
          J35 v8 x3 h7))))
def f_X11_tollsOf (F : Nat) (a0 : Nat) (a1 : Int32) (a2 : Int32) (h : jH) : Option (Int32 × jH) :=
  j_gd 11 h a0 (
    f_X11_tollsOf_L5 F a0 a1 a2  F 0 0 h)
def f_X11_code_L21 (F : Nat) (x0 : Nat) (x1 : Int32) (k87 : Int32 → jH → Option (Int32 × jH)) : Nat → Int32 → Int32 → jH → Option (Int32 × jH)
  | 0, _, _, _ => none
  | n + 1, x2, x3, h =>
    (jg_I 11 2 h x0).bind (fun v4 =>
    if ((1 : Int32) <<< (v4 &&& 31)) ≤ x3 then
      k87 x2 h
    else
      j_b2 (f_J6_bitCount_0f7a4 F x3 h) (fun v6 h5 =>
      j_b2 (f_J6_bitCount_0f7a4 F x2 h5) (fun v8 h7 =>
      j_jn (fun (z9 : Int32) (h10 : jH) =>
        f_X11_code_L21 F x0 x1 k87 n z9 (x3 + 1) h10) (fun J81 =>
        if (v6 - v8) < 0 then
          J81 x2 h7
        else
          j_jn (fun (h11 : jH) =>
            j_b2 (f_X11_areApart F x0 x3 x1 h11) (fun v13 h12 =>
            if v13 = 0 then
              J81 x2 h12
            else
              J81 x3 h12)) (fun J67 =>
            if (v6 - v8) = 0 then
              j_b2 (f_X11_tollsOf F x0 x3 0 h7) (fun v15 h14 =>
              j_b2 (f_X11_tollsOf F x0 x2 0 h14) (fun v17 h16 =>
              if v17 ≤ v15 then
                J81 x2 h16
              else
                J67 h16))
            else
              J67 h7)))))
def f_X11_code (F : Nat) (a0 : Nat) (a1 : Int32) (h : jH) : Option (Int32 × jH) :=
  j_gd 11 h a0 (
    (jp_I 11 13 h a0 0).bind (fun h1 =>
    j_b2 (f_X11_in F a1 0 6 h1) (fun v3 h2 =>
    if v3 = 0 then
      some ((-1), h2)
    else
      f_X11_code_L21 F a0 a1 (fun (y18 : Int32) (h19 : jH) =>
        (jp_I 11 12 h19 a0 0).bind (fun h20 =>
        (f_X11_tell F a0 (y18.toInt64) h20).bind (fun h21 =>
        j_b2 (f_J6_bitCount_0f7a4 F y18 h21) (fun v23 h22 =>
        some (v23, h22))))) F 0 1 h2)))
def f_X11_does_L6 (F : Nat) (x0 : Nat) (x1 : Int32) (x2 : Int32) (x3 : Int32) : Nat → Int32 → Int32 → jH → Option (Int32 × jH)
  | 0, _, _, _ => none
  | n + 1, x4, x5, h =>
    (jg_I 11 7 h x0).bind (fun v1 =>
    if v1 ≤ x5 then
      some (x4, h)
    else
      j_b2 (f_X11_field F x0 x5 0 h) (fun v3 h2 =>
      j_jn (fun (s4 : Int32) (s5 : Int32) (h6 : jH) =>
        f_X11_does_L6 F x0 x1 x2 x3 n (s5 ||| s4) (x5 + 1) h6) (fun J62 =>
        j_jn (fun (s7 : Int32) (h8 : jH) =>
          J62 0 s7 h8) (fun J61 =>
          if v3 = x1 then
            j_b2 (f_X11_field F x0 x5 2 h2) (fun v10 h9 =>
            if v10 = x3 then
              j_b2 (f_X11_field F x0 x5 1 h9) (fun v12 h11 =>
              j_b2 (f_X11_means F x0 x2 v12 h11) (fun v14 h13 =>
              if v14 = 0 then
                J61 x4 h13
              else
                J62 ((1 : Int32) <<< (x5 &&& 31)) x4 h13))
            else
              J61 x4 h9)
          else
            J61 x4 h2))))
def f_X11_does (F : Nat) (a0 : Nat) (a1 : Int32) (a2 : Int32) (a3 : Int32) (h : jH) : Option (Int32 × jH) :=
  j_gd 11 h a0 (
    f_X11_does_L6 F a0 a1 a2 a3  F 0 0 h)
def f_X11_speak_L53 (F : Nat) (x0 : Nat) (x1 : Int32) (x2 : Int32) (x3 : Int32) (x4 : Int32) (x5 : Int32) (x6 : Int32) (k118 : jH → Option jH) : Nat → Int32 → jH → Option jH
  | 0, _, _ => none
  | n + 1, x7, h =>
    if (256 : Int32) ≤ x7 then
      k118 h
    else
      (jg_R 11 38 h x0).bind (fun v9 =>
      (jg_R 11 38 h x0).bind (fun v10 =>
      (ja_I 100 h v10 (((256 : Int32) * x3) + (x7 ||| x6))).bind (fun v11 =>
      (jg_R 11 38 h x0).bind (fun v12 =>
      (ja_I 100 h v12 (((256 : Int32) * x3) + x7)).bind (fun v13 =>
      (jb_I 100 h v9 (((256 : Int32) * x3) + (x7 ||| x6)) (j_min v11 (v13 + x5))).bind (fun h14 =>
      f_X11_speak_L53 F x0 x1 x2 x3 x4 x5 x6 k118 n (x7 + 1) h14))))))
def f_X11_speak_L13 (F : Nat) (x0 : Nat) (x1 : Int32) (x2 : Int32) (x3 : Int32) (k124 : jH → Option jH) : Nat → Int32 → jH → Option jH
  | 0, _, _ => none
  | n + 1, x4, h =>
    (jg_I 11 2 h x0).bind (fun v2 =>
    if v2 ≤ x4 then
      k124 h
    else
      (jg_R 11 0 h x0).bind (fun v3 =>
      (ja_I 100 h v3 12).bind (fun v4 =>
      j_b2 (f_X11_tollOf F x0 x4 x3 (v4 + x2) h) (fun v6 h5 =>
      j_b2 (f_X11_does F x0 x1 x4 x3 h5) (fun v8 h7 =>
      f_X11_speak_L53 F x0 x1 x2 x3 x4 v6 v8 (fun (h15 : jH) =>
        f_X11_speak_L13 F x0 x1 x2 x3 k124 n (x4 + 1) h15) F 0 h7)))))
def f_X11_speak_L2 (F : Nat) (x0 : Nat) (x1 : Int32) (x2 : Int32) : Nat → Int32 → jH → Option jH
  | 0, _, _ => none
  | n + 1, x3, h =>
    (jg_I 11 1 h x0).bind (fun v1 =>
    if v1 ≤ x3 then
      some h
    else
      f_X11_speak_L13 F x0 x1 x2 x3 (fun (h16 : jH) =>
        f_X11_speak_L2 F x0 x1 x2 n (x3 + 1) h16) F 0 h)
def f_X11_speak (F : Nat) (a0 : Nat) (a1 : Int32) (a2 : Int32) (h : jH) : Option jH :=
  j_gd 11 h a0 (
    f_X11_speak_L2 F a0 a1 a2  F 0 h)
def f_X11_move_L2 (F : Nat) (x0 : Nat) (k95 : jH → Option jH) : Nat → Int32 → jH → Option jH
  | 0, _, _ => none
  | n + 1, x1, h =>
    (jg_R 11 39 h x0).bind (fun v1 =>
    (jn_len 100 h v1).bind (fun v2 =>
    if v2 ≤ x1 then
      k95 h
    else
      (j_div x1 256).bind (fun v3 =>
      (jg_R 11 38 h x0).bind (fun v4 =>
      (ja_I 100 h v4 x1).bind (fun v5 =>
      j_jn (fun (z6 : Int32) (h7 : jH) =>
        (jg_I 11 1 h7 x0).bind (fun v8 =>
        j_jn (fun (z9 : Int32) (h10 : jH) =>
          (jg_R 11 39 h10 x0).bind (fun v11 =>
          (jg_I 11 1 h10 x0).bind (fun v12 =>
          j_jn (fun (s13 : Int32) (s14 : Int32) (s15 : Nat) (h16 : jH) =>
            (jb_I 100 h16 s15 s14 s13).bind (fun h17 =>
            f_X11_move_L2 F x0 k95 n (x1 + 1) h17)) (fun J88 =>
            if v12 ≤ v3 then
              J88 100000000 x1 v11 h10
            else
              J88 z9 x1 v11 h10)))) (fun J68 =>
          if v8 ≤ (v3 + (1 : Int32)) then
            J68 z6 h7
          else
            (jg_R 11 38 h7 x0).bind (fun v18 =>
            (ja_I 100 h7 v18 (x1 + (256 : Int32))).bind (fun v19 =>
            J68 (j_min z6 v19) h7))))) (fun J43 =>
        if v3 ≤ 0 then
          J43 v5 h
        else
          (jg_R 11 38 h x0).bind (fun v20 =>
          (ja_I 100 h v20 (x1 - (256 : Int32))).bind (fun v21 =>
          J43 (j_min v5 v21) h))))))))
def f_X11_move_L97 (F : Nat) (x0 : Nat) : Nat → Int32 → jH → Option jH
  | 0, _, _ => none
  | n + 1, x1, h =>
    (jg_R 11 38 h x0).bind (fun v23 =>
    (jn_len 100 h v23).bind (fun v24 =>
    if v24 ≤ x1 then
      some h
    else
      (jg_R 11 38 h x0).bind (fun v25 =>
      (jg_R 11 39 h x0).bind (fun v26 =>
      (ja_I 100 h v26 x1).bind (fun v27 =>
      (jb_I 100 h v25 x1 v27).bind (fun h28 =>
      f_X11_move_L97 F x0 n (x1 + 1) h28))))))
def f_X11_move (F : Nat) (a0 : Nat) (h : jH) : Option jH :=
  j_gd 11 h a0 (
    f_X11_move_L2 F a0 (fun (h22 : jH) =>
      f_X11_move_L97 F a0  F 0 h22) F 0 h)
def f_X11_leastTrip_L9 (F : Nat) (x0 : Nat) (x1 : Int32) (x2 : Int32) (x3 : Int32) (k35 : jH → Option (Int32 × jH)) : Nat → Int32 → jH → Option (Int32 × jH)
  | 0, _, _ => none
  | n + 1, x4, h =>
    (jg_R 11 38 h x0).bind (fun v3 =>
    (jn_len 100 h v3).bind (fun v4 =>
    if v4 ≤ x4 then
      k35 h
    else
      (jg_R 11 38 h x0).bind (fun v5 =>
      (jb_I 100 h v5 x4 100000000).bind (fun h6 =>
      f_X11_leastTrip_L9 F x0 x1 x2 x3 k35 n (x4 + 1) h6))))
def f_X11_leastTrip_L102 (F : Nat) (x0 : Nat) (x1 : Int32) (x2 : Int32) (x5 : Int32) (k156 : Int32 → jH → Option (Int32 × jH)) : Nat → Int32 → Int32 → jH → Option (Int32 × jH)
  | 0, _, _, _ => none
  | n + 1, x4, x6, h =>
    (jg_I 11 1 h x0).bind (fun v16 =>
    if v16 ≤ x6 then
      k156 x4 h
    else
      (jg_R 11 38 h x0).bind (fun v17 =>
      (ja_I 100 h v17 ((((256 : Int32) * x6) + (256 : Int32)) - (1 : Int32))).bind (fun v18 =>
      j_jn (fun (z19 : Int32) (h20 : jH) =>
        f_X11_leastTrip_L102 F x0 x1 x2 x5 k156 n z19 (x6 + 1) h20) (fun J150 =>
        if v18 < x4 then
          (jp_I 11 42 h x0 x5).bind (fun h21 =>
          J150 v18 h21)
        else
          J150 x4 h))))
def f_X11_leastTrip_L77 (F : Nat) (x0 : Nat) (x1 : Int32) (x2 : Int32) : Nat → Int32 → Int32 → jH → Option (Int32 × jH)
  | 0, _, _, _ => none
  | n + 1, x4, x5, h =>
    if x2 < x5 then
      some (x4, h)
    else
      j_jn (fun (h14 : jH) =>
        (f_X11_speak F x0 x1 x5 h14).bind (fun h15 =>
        f_X11_leastTrip_L102 F x0 x1 x2 x5 (fun (y22 : Int32) (h23 : jH) =>
          (jg_I 11 40 h23 x0).bind (fun v24 =>
          j_jn (fun (h25 : jH) =>
            f_X11_leastTrip_L77 F x0 x1 x2 n y22 (x5 + 1) h25) (fun J184 =>
            if v24 = (-1) then
              if (100000000 : Int32) ≤ y22 then
                J184 h23
              else
                (jp_I 11 40 h23 x0 x5).bind (fun h26 =>
                (jp_I 11 41 h26 x0 y22).bind (fun h27 =>
                J184 h27))
            else
              J184 h23))) F x4 0 h15)) (fun J92 =>
        if x5 ≤ 0 then
          J92 h
        else
          (f_X11_move F x0 h).bind (fun h28 =>
          J92 h28))
def f_X11_leastTrip (F : Nat) (a0 : Nat) (a1 : Int32) (a2 : Int32) (h : jH) : Option (Int32 × jH) :=
  j_gd 11 h a0 (
    j_b2 (f_X11_openOf F a0 a1 h) (fun v2 h1 =>
    f_X11_leastTrip_L9 F a0 a1 a2 v2 (fun (h7 : jH) =>
      (jg_R 11 38 h7 a0).bind (fun v8 =>
      (jg_R 11 0 h7 a0).bind (fun v9 =>
      (ja_I 100 h7 v9 a1).bind (fun v10 =>
      (jb_I 100 h7 v8 (((256 : Int32) * v10) + ((255 : Int32) &&& (v2 ^^^ ((-1) : Int32)))) 0).bind (fun h11 =>
      (jp_I 11 40 h11 a0 (-1)).bind (fun h12 =>
      (jp_I 11 42 h12 a0 (-1)).bind (fun h13 =>
      f_X11_leastTrip_L77 F a0 a1 a2  F 100000000 0 h13))))))) F 0 h1))
def f_X11_trip (F : Nat) (a0 : Nat) (a1 : Int32) (a2 : Int32) (h : jH) : Option (Int32 × jH) :=
  j_gd 11 h a0 (
    (jp_I 11 13 h a0 0).bind (fun h1 =>
    j_b2 (f_X11_isOne F a0 a1 h1) (fun v3 h2 =>
    if v3 = 0 then
      some ((-1), h2)
    else
      j_b2 (f_X11_in F a2 0 12 h2) (fun v5 h4 =>
      if v5 = 0 then
        some ((-1), h4)
      else
        j_b2 (f_X11_leastTrip F a0 a1 a2 h4) (fun v7 h6 =>
        if v7 < 100000000 then
          (jp_I 11 12 h6 a0 0).bind (fun h8 =>
          (jg_I 11 42 h8 a0).bind (fun v9 =>
          (f_X11_tell F a0 (v9.toInt64) h8).bind (fun h10 =>
          j_b2 (f_X11_openOf F a0 a1 h10) (fun v12 h11 =>
          j_b2 (f_J6_bitCount_0f7a4 F v12 h11) (fun v14 h13 =>
          (f_X11_tell F a0 (v14.toInt64) h13).bind (fun h15 =>
          some (v7, h15)))))))
        else
          some ((-2), h6))))))
def f_X11_haste (F : Nat) (a0 : Nat) (a1 : Int32) (h : jH) : Option (Int32 × jH) :=
  j_gd 11 h a0 (
    (jp_I 11 13 h a0 0).bind (fun h1 =>
    j_b2 (f_X11_isOne F a0 a1 h1) (fun v3 h2 =>
    if v3 = 0 then
      some ((-1), h2)
    else
      j_b2 (f_X11_leastTrip F a0 a1 12 h2) (fun v5 h4 =>
      if v5 < 100000000 then
        (jp_I 11 12 h4 a0 0).bind (fun h6 =>
        (jg_I 11 41 h6 a0).bind (fun v7 =>
        (f_X11_tell F a0 (v7.toInt64) h6).bind (fun h8 =>
        (jg_I 11 40 h8 a0).bind (fun v9 =>
        some (v9, h8)))))
      else
        some ((-2), h4)))))
def f_X11_best_L19 (F : Nat) (x0 : Nat) (x1 : Int32) (k90 : Int32 → jH → Option (Int32 × jH)) : Nat → Int32 → Int32 → jH → Option (Int32 × jH)
  | 0, _, _, _ => none
  | n + 1, x2, x3, h =>
    (jg_I 11 7 h x0).bind (fun v4 =>
    if v4 ≤ x3 then
      k90 x2 h
    else
      j_b2 (f_X11_openOf F x0 x1 h) (fun v6 h5 =>
      j_b2 (f_X11_has F v6 x3 h5) (fun v8 h7 =>
      j_jn (fun (s9 : Int32) (s10 : Int32) (h11 : jH) =>
        f_X11_best_L19 F x0 x1 k90 n (s10 ||| s9) (x3 + 1) h11) (fun J82 =>
        j_jn (fun (s12 : Int32) (h13 : jH) =>
          J82 0 s12 h13) (fun J81 =>
          if v8 = 0 then
            J81 x2 h7
          else
            j_b2 (f_X11_field F x0 x3 2 h7) (fun v15 h14 =>
            (jg_R 11 0 h14 x0).bind (fun v16 =>
            (ja_I 100 h14 v16 x1).bind (fun v17 =>
            if v15 = v17 then
              j_b2 (f_X11_field F x0 x3 1 h14) (fun v19 h18 =>
              (jg_R 11 0 h18 x0).bind (fun v20 =>
              (ja_I 100 h18 v20 x1).bind (fun v21 =>
              j_b2 (f_X11_cheapestOf F x0 v19 v21 h18) (fun v23 h22 =>
              if v23 = (-1) then
                J81 x2 h22
              else
                J82 ((1 : Int32) <<< (x3 &&& 31)) x2 h22))))
            else
              J81 x2 h14))))))))
def f_X11_best_L128 (F : Nat) (x0 : Nat) (x1 : Int32) (x2 : Int32) (x3 : Int32) (x4 : Int32) (x5 : Int32) (x6 : Int32) (k200 : Int32 → Int32 → jH → Option (Int32 × jH)) : Nat → Int32 → Int32 → Int32 → jH → Option (Int32 × jH)
  | 0, _, _, _, _ => none
  | n + 1, x7, x8, x9, h =>
    (jg_I 11 7 h x0).bind (fun v30 =>
    if v30 ≤ x9 then
      k200 x7 x8 h
    else
      j_b2 (f_X11_has F x6 x9 h) (fun v32 h31 =>
      j_jn (fun (z33 : Int32) (z34 : Int32) (h35 : jH) =>
        f_X11_best_L128 F x0 x1 x2 x3 x4 x5 x6 k200 n z33 z34 (x9 + 1) h35) (fun J194 =>
        if v32 = 0 then
          J194 x7 x8 h31
        else
          j_b2 (f_X11_field F x0 x9 3 h31) (fun v37 h36 =>
          j_b2 (f_X11_field F x0 x9 1 h36) (fun v39 h38 =>
          (jg_R 11 0 h38 x0).bind (fun v40 =>
          (ja_I 100 h38 v40 x1).bind (fun v41 =>
          j_b2 (f_X11_cheapestOf F x0 v39 v41 h38) (fun v43 h42 =>
          (jg_R 11 0 h42 x0).bind (fun v44 =>
          (ja_I 100 h42 v44 x1).bind (fun v45 =>
          j_b2 (f_X11_tollNow F x0 v43 v45 h42) (fun v47 h46 =>
          J194 (x7 + v37) (x8 + v47) h46)))))))))))
def f_X11_best_L101 (F : Nat) (x0 : Nat) (x1 : Int32) (x2 : Int32) (k254 : Int32 → Int32 → Int32 → jH → Option (Int32 × jH)) : Nat → Int32 → Int32 → Int32 → Int32 → jH → Option (Int32 × jH)
  | 0, _, _, _, _, _ => none
  | n + 1, x3, x4, x5, x6, h =>
    if x2 < x6 then
      k254 x3 x4 x5 h
    else
      j_jn (fun (z26 : Int32) (z27 : Int32) (z28 : Int32) (h29 : jH) =>
        f_X11_best_L101 F x0 x1 x2 k254 n z26 z27 z28 (x6 + 1) h29) (fun J248 =>
        if (x6 &&& (x2 ^^^ ((-1) : Int32))) = 0 then
          f_X11_best_L128 F x0 x1 x2 x3 x4 x5 x6 (fun (y48 : Int32) (y49 : Int32) (h50 : jH) =>
            (jg_R 11 0 h50 x0).bind (fun v51 =>
            (ja_I 100 h50 v51 ((4 : Int32) + x1)).bind (fun v52 =>
            if v52 < y49 then
              J248 x3 x4 x5 h50
            else
              if y48 < x4 then
                J248 x3 x4 x5 h50
              else
                j_jn (fun (h53 : jH) =>
                  J248 x6 y48 y49 h53) (fun J237 =>
                  if y48 = x4 then
                    if y49 < x5 then
                      J237 h50
                    else
                      J248 x3 x4 x5 h50
                  else
                    J237 h50)))) F 0 0 0 h
        else
          J248 x3 x4 x5 h)
def f_X11_best (F : Nat) (a0 : Nat) (a1 : Int32) (h : jH) : Option (Int32 × jH) :=
  j_gd 11 h a0 (
    (jp_I 11 13 h a0 0).bind (fun h1 =>
    j_b2 (f_X11_isOne F a0 a1 h1) (fun v3 h2 =>
    if v3 = 0 then
      some ((-1), h2)
    else
      f_X11_best_L19 F a0 a1 (fun (y24 : Int32) (h25 : jH) =>
        f_X11_best_L101 F a0 a1 y24 (fun (y54 : Int32) (y55 : Int32) (y56 : Int32) (h57 : jH) =>
          (jp_I 11 12 h57 a0 0).bind (fun h58 =>
          (f_X11_tell F a0 (y54.toInt64) h58).bind (fun h59 =>
          (f_X11_tell F a0 (y56.toInt64) h59).bind (fun h60 =>
          some (y55, h60))))) F 0 0 0 1 h25) F 0 0 h2)))
def f_X11_takesBy_L56 (F : Nat) (x0 : Nat) (x1 : Int32) (x2 : Int32) (x3 : Int32) (x4 : Int32) (k110 : Int32 → jH → Option (Int32 × jH)) : Nat → Int32 → Int32 → jH → Option (Int32 × jH)
  | 0, _, _, _ => none
  | n + 1, x5, x6, h =>
    (jg_I 11 2 h x0).bind (fun v11 =>
    if v11 ≤ x6 then
      k110 x5 h
    else
      j_b2 (f_X11_field F x0 x4 1 h) (fun v13 h12 =>
      j_b2 (f_X11_means F x0 x6 v13 h12) (fun v15 h14 =>
      j_jn (fun (z16 : Int32) (h17 : jH) =>
        f_X11_takesBy_L56 F x0 x1 x2 x3 x4 k110 n z16 (x6 + 1) h17) (fun J104 =>
        if v15 = 0 then
          J104 x5 h14
        else
          j_b2 (f_X11_tollNow F x0 x6 x1 h14) (fun v19 h18 =>
          j_b2 (f_X11_vowelsIn F x0 x6 h18) (fun v21 h20 =>
          J104 (j_min x5 (v19 + (x2 * v21))) h20))))))
def f_X11_takesBy_L10 (F : Nat) (x0 : Nat) (x1 : Int32) (x2 : Int32) : Nat → Int32 → Int32 → jH → Option (Int32 × jH)
  | 0, _, _, _ => none
  | n + 1, x3, x4, h =>
    (jg_I 11 7 h x0).bind (fun v2 =>
    if v2 ≤ x4 then
      some (x3, h)
    else
      (jg_R 11 0 h x0).bind (fun v3 =>
      (ja_I 100 h v3 13).bind (fun v4 =>
      j_b2 (f_X11_has F v4 x4 h) (fun v6 h5 =>
      j_jn (fun (z7 : Int32) (h8 : jH) =>
        f_X11_takesBy_L10 F x0 x1 x2 n z7 (x4 + 1) h8) (fun J140 =>
        if v6 = 0 then
          j_b2 (f_X11_field F x0 x4 2 h5) (fun v10 h9 =>
          if v10 = x1 then
            f_X11_takesBy_L56 F x0 x1 x2 x3 x4 (fun (y22 : Int32) (h23 : jH) =>
              j_b2 (f_X11_field F x0 x4 3 h23) (fun v25 h24 =>
              if y22 ≤ v25 then
                (jg_I 11 43 h24 x0).bind (fun v26 =>
                (jp_I 11 43 h24 x0 (v26 + (1 : Int32))).bind (fun h27 =>
                J140 (x3 + y22) h27))
              else
                J140 x3 h24)) F 100000000 0 h9
          else
            J140 x3 h9)
        else
          J140 x3 h5)))))
def f_X11_takesBy (F : Nat) (a0 : Nat) (a1 : Int32) (a2 : Int32) (h : jH) : Option (Int32 × jH) :=
  j_gd 11 h a0 (
    (jp_I 11 43 h a0 0).bind (fun h1 =>
    f_X11_takesBy_L10 F a0 a1 a2  F 0 0 h1))
def f_X11_takes (F : Nat) (a0 : Nat) (a1 : Int32) (a2 : Int32) (h : jH) : Option (Int32 × jH) :=
  j_gd 11 h a0 (
    (jp_I 11 13 h a0 0).bind (fun h1 =>
    j_b2 (f_X11_isStation F a0 a1 h1) (fun v3 h2 =>
    if v3 = 0 then
      some ((-1), h2)
    else
      j_b2 (f_X11_in F a2 0 99 h2) (fun v5 h4 =>
      if v5 = 0 then
        some ((-1), h4)
      else
        j_b2 (f_X11_takesBy F a0 a1 a2 h4) (fun v7 h6 =>
        (jp_I 11 12 h6 a0 0).bind (fun h8 =>
        (jg_I 11 43 h8 a0).bind (fun v9 =>
        (f_X11_tell F a0 (v9.toInt64) h8).bind (fun h10 =>
        some (v7, h10)))))))))
def f_X11_greed_L30 (F : Nat) (x0 : Nat) (x1 : Int32) (x4 : Int32) (k67 : Int32 → Int32 → jH → Option (Int32 × jH)) : Nat → Int32 → Int32 → Int32 → jH → Option (Int32 × jH)
  | 0, _, _, _, _ => none
  | n + 1, x2, x3, x5, h =>
    if (99 : Int32) < x5 then
      k67 x2 x3 h
    else
      j_b2 (f_X11_takesBy F x0 x1 x5 h) (fun v7 h6 =>
      j_jn (fun (z8 : Int32) (z9 : Int32) (h10 : jH) =>
        f_X11_greed_L30 F x0 x1 x4 k67 n z8 z9 (x5 + 1) h10) (fun J61 =>
        if x3 < v7 then
          J61 x5 v7 h6
        else
          J61 x2 x3 h6))
def f_X11_greed (F : Nat) (a0 : Nat) (a1 : Int32) (h : jH) : Option (Int32 × jH) :=
  j_gd 11 h a0 (
    (jp_I 11 13 h a0 0).bind (fun h1 =>
    j_b2 (f_X11_isStation F a0 a1 h1) (fun v3 h2 =>
    if v3 = 0 then
      some ((-1), h2)
    else
      j_b2 (f_X11_takesBy F a0 a1 0 h2) (fun v5 h4 =>
      f_X11_greed_L30 F a0 a1 v5 (fun (y11 : Int32) (y12 : Int32) (h13 : jH) =>
        (jp_I 11 12 h13 a0 0).bind (fun h14 =>
        (f_X11_tell F a0 (y12.toInt64) h14).bind (fun h15 =>
        (f_X11_tell F a0 (v5.toInt64) h15).bind (fun h16 =>
        some (y11, h16))))) F 0 v5 1 h4))))
def f_X11_law_L42 (F : Nat) (x0 : Nat) (x1 : Int32) (x2 : Int32) (k68 : jH → Option (Int32 × jH)) : Nat → Int32 → jH → Option (Int32 × jH)
  | 0, _, _ => none
  | n + 1, x3, h =>
    (jg_I 11 2 h x0).bind (fun v9 =>
    if v9 ≤ x3 then
      k68 h
    else
      (jg_R 11 44 h x0).bind (fun v10 =>
      j_b2 (f_X11_tollNow F x0 x3 x1 h) (fun v12 h11 =>
      (jb_I 100 h11 v10 x3 v12).bind (fun h13 =>
      f_X11_law_L42 F x0 x1 x2 k68 n (x3 + 1) h13))))
def f_X11_law_L95 (F : Nat) (x0 : Nat) (x1 : Int32) (x2 : Int32) (x3 : Nat) (x4 : Int32) (k121 : jH → Option (Int32 × jH)) : Nat → Int32 → jH → Option (Int32 × jH)
  | 0, _, _ => none
  | n + 1, x5, h =>
    if x2 ≤ x5 then
      k121 h
    else
      (jg_R 11 22 h x0).bind (fun v20 =>
      (jg_R 11 9 h x0).bind (fun v21 =>
      (ja_I 101 h v21 x5).bind (fun v22 =>
      (jb_I 101 h v20 x5 (v22.toInt8.toInt32)).bind (fun h23 =>
      f_X11_law_L95 F x0 x1 x2 x3 x4 k121 n (x5 + 1) h23))))
def f_X11_law_L133 (F : Nat) (x0 : Nat) (x1 : Int32) (x3 : Nat) (x4 : Int32) (k202 : Int32 → Int32 → Int32 → jH → Option (Int32 × jH)) : Nat → Int32 → Int32 → Int32 → Int32 → jH → Option (Int32 × jH)
  | 0, _, _, _, _, _ => none
  | n + 1, x5, x6, x7, x8, h =>
    (jg_I 11 2 h x0).bind (fun v25 =>
    if v25 ≤ x8 then
      k202 x5 x6 x7 h
    else
      j_b2 (f_X11_tollNow F x0 x8 x1 h) (fun v27 h26 =>
      (jg_R 11 44 h26 x0).bind (fun v28 =>
      (ja_I 100 h26 v28 x8).bind (fun v29 =>
      j_jn (fun (s30 : Int32) (s31 : Int32) (h32 : jH) =>
        j_jn (fun (s33 : Int32) (s34 : Int32) (h35 : jH) =>
          f_X11_law_L133 F x0 x1 x3 x4 k202 n (s31 + s30) (s34 + s33) (x7 + (v27 - v29)) (x8 + 1) h35) (fun J186 =>
          if (0 : Int32) ≤ (v27 - v29) then
            J186 0 x6 h32
          else
            J186 1 x6 h32)) (fun J171 =>
        if (v27 - v29) ≤ 0 then
          J171 0 x5 h26
        else
          J171 1 x5 h26)))))
def f_X11_law (F : Nat) (a0 : Nat) (a1 : Int32) (h : jH) : Option (Int32 × jH) :=
  j_gd 11 h a0 (
    (jp_I 11 13 h a0 0).bind (fun h1 =>
    (jg_I 11 10 h1 a0).bind (fun v2 =>
    j_b2 (f_X11_isStation F a0 a1 h1) (fun v4 h3 =>
    if v4 = 0 then
      (jp_I 11 10 h3 a0 0).bind (fun h5 =>
      some ((-100), h5))
    else
      j_b2 (f_X11_readRule F a0 h3) (fun v7 h6 =>
      if v7 = 0 then
        (jg_I 11 18 h6 a0).bind (fun v8 =>
        some ((((-1) : Int32) - v8), h6))
      else
        f_X11_law_L42 F a0 a1 v2 (fun (h14 : jH) =>
          (jg_R 11 22 h14 a0).bind (fun v15 =>
          (jg_I 11 24 h14 a0).bind (fun v16 =>
          (jg_R 11 23 h14 a0).bind (fun v17 =>
          (jp_R 11 22 h14 a0 v17).bind (fun h18 =>
          (jp_I 11 24 h18 a0 v2).bind (fun h19 =>
          f_X11_law_L95 F a0 a1 v2 v15 v16 (fun (h24 : jH) =>
            f_X11_law_L133 F a0 a1 v15 v16 (fun (y36 : Int32) (y37 : Int32) (y38 : Int32) (h39 : jH) =>
              (jp_R 11 22 h39 a0 v15).bind (fun h40 =>
              (jp_I 11 24 h40 a0 v16).bind (fun h41 =>
              (jp_I 11 12 h41 a0 0).bind (fun h42 =>
              (f_X11_tell F a0 (y37.toInt64) h42).bind (fun h43 =>
              (f_X11_tell F a0 (y38.toInt64) h43).bind (fun h44 =>
              some (y36, h44))))))) F 0 0 0 0 h24) F 0 h19)))))) F 0 h6)))))
def f_X11_isAll_L10 (F : Nat) (x1 : Nat) (x2 : Int32) : Nat → Int32 → jH → Option (Int32 × jH)
  | 0, _, _ => none
  | n + 1, x3, h =>
    if x2 ≤ x3 then
      some (1, h)
    else
      (ja_I 100 h x1 x3).bind (fun v3 =>
      if v3 = 0 then
        f_X11_isAll_L10 F x1 x2 n (x3 + 1) h
      else
        some (0, h))
def f_X11_isAll (F : Nat) (a0 : Nat) (h : jH) : Option (Int32 × jH) :=
  j_gd 11 h a0 (
    (jg_R 11 45 h a0).bind (fun v1 =>
    (jn_len 100 h v1).bind (fun v2 =>
    f_X11_isAll_L10 F v1 v2  F 0 h)))
def f_X11_take_L2 (F : Nat) (x0 : Nat) (x1 : Int32) (x2 : Int32) : Nat → Int32 → jH → Option jH
  | 0, _, _ => none
  | n + 1, x3, h =>
    if (5 : Int32) ≤ x3 then
      some h
    else
      (jg_R 11 45 h x0).bind (fun v1 =>
      (ja_I 100 h v1 x3).bind (fun v2 =>
      j_b2 (f_X11_often F x0 x1 x3 h) (fun v4 h3 =>
      (jb_I 100 h3 v1 x3 (v2 - (x2 * v4))).bind (fun h5 =>
      f_X11_take_L2 F x0 x1 x2 n (x3 + 1) h5))))
def f_X11_take (F : Nat) (a0 : Nat) (a1 : Int32) (a2 : Int32) (h : jH) : Option jH :=
  j_gd 11 h a0 (
    f_X11_take_L2 F a0 a1 a2  F 0 h)
def f_X11_isFirst_L38 (F : Nat) (x0 : Nat) (x1 : Int32) (k58 : Int32 → jH → Option (Int32 × jH)) : Nat → Int32 → jH → Option (Int32 × jH)
  | 0, _, _ => none
  | n + 1, x2, h =>
    if x1 ≤ x2 then
      some (0, h)
    else
      (jg_R 11 46 h x0).bind (fun v7 =>
      (ja_I 100 h v7 x2).bind (fun v8 =>
      (jg_R 11 47 h x0).bind (fun v9 =>
      (ja_I 100 h v9 x2).bind (fun v10 =>
      if v8 = v10 then
        f_X11_isFirst_L38 F x0 x1 k58 n (x2 + 1) h
      else
        k58 x2 h))))
def f_X11_isFirst (F : Nat) (a0 : Nat) (a1 : Int32) (h : jH) : Option (Int32 × jH) :=
  j_gd 11 h a0 (
    (jg_I 11 49 h a0).bind (fun v1 =>
    j_jn (fun (h2 : jH) =>
      (jg_I 11 49 h2 a0).bind (fun v3 =>
      j_jn (fun (h4 : jH) =>
        some (1, h4)) (fun J30 =>
        if v3 = 0 then
          J30 h2
        else
          (jg_I 11 48 h2 a0).bind (fun v5 =>
          if v5 ≤ a1 then
            some (0, h2)
          else
            J30 h2)))) (fun J15 =>
      if v1 = 0 then
        J15 h
      else
        (jg_I 11 48 h a0).bind (fun v6 =>
        if a1 = v6 then
          f_X11_isFirst_L38 F a0 a1 (fun (y11 : Int32) (h12 : jH) =>
            (jg_R 11 46 h12 a0).bind (fun v13 =>
            (ja_I 100 h12 v13 y11).bind (fun v14 =>
            (jg_R 11 47 h12 a0).bind (fun v15 =>
            (ja_I 100 h12 v15 y11).bind (fun v16 =>
            if v16 ≤ v14 then
              some (0, h12)
            else
              some (1, h12)))))) F 0 h
        else
          J15 h))))
def f_X11_goSaid_L61 (F : Nat) (rec : Nat → Int32 → Int32 → jH → Option jH) (x0 : Nat) (x2 : Int32) : Nat → Int32 → jH → Option jH
  | 0, _, _ => none
  | n + 1, x3, h =>
    (jg_I 11 2 h x0).bind (fun v2 =>
    if v2 ≤ x3 then
      some h
    else
      if (4 : Int32) ≤ x2 then
        some h
      else
        (jg_R 11 46 h x0).bind (fun v3 =>
        (jb_I 100 h v3 x2 x3).bind (fun h4 =>
        (f_X11_take F x0 x3 1 h4).bind (fun h5 =>
        (rec x0 x3 (x2 + (1 : Int32)) h5).bind (fun h6 =>
        (f_X11_take F x0 x3 (-1) h6).bind (fun h7 =>
        f_X11_goSaid_L61 F rec x0 x2 n (x3 + 1) h7))))))
def f_X11_goSaid_L26 (F : Nat) (rec : Nat → Int32 → Int32 → jH → Option jH) (x0 : Nat) (x1 : Int32) (x2 : Int32) (k49 : jH → Option jH) : Nat → Int32 → jH → Option jH
  | 0, _, _ => none
  | n + 1, x3, h =>
    if x2 ≤ x3 then
      k49 h
    else
      (jg_R 11 47 h x0).bind (fun v16 =>
      (jg_R 11 46 h x0).bind (fun v17 =>
      (ja_I 100 h v17 x3).bind (fun v18 =>
      (jb_I 100 h v16 x3 v18).bind (fun h19 =>
      f_X11_goSaid_L26 F rec x0 x1 x2 k49 n (x3 + 1) h19))))
def b_X11_goSaid (F : Nat) (rec : Nat → Int32 → Int32 → jH → Option jH) (a0 : Nat) (a1 : Int32) (a2 : Int32) (h : jH) : Option jH :=
  j_gd 11 h a0 (
    j_jn (fun (h1 : jH) =>
      f_X11_goSaid_L61 F rec a0 a2  F a1 h1) (fun J59 =>
      if a2 ≤ 0 then
        J59 h
      else
        j_b2 (f_X11_isAll F a0 h) (fun v9 h8 =>
        if v9 = 0 then
          J59 h8
        else
          j_b2 (f_X11_isFirst F a0 a2 h8) (fun v11 h10 =>
          j_jn (fun (h12 : jH) =>
            (jg_I 11 49 h12 a0).bind (fun v13 =>
            (jp_I 11 49 h12 a0 (v13 + (1 : Int32))).bind (fun h14 =>
            J59 h14))) (fun J49 =>
            if v11 = 0 then
              J49 h10
            else
              (jp_I 11 48 h10 a0 a2).bind (fun h15 =>
              f_X11_goSaid_L26 F rec a0 a1 a2 (fun (h20 : jH) =>
                J49 h20) F 0 h15))))))
def f_gS (F : Nat) : Nat → Nat → Int32 → Int32 → jH → Option jH
  | 0, _, _, _, _ => none
  | n + 1, a0, a1, a2, h => b_X11_goSaid F (f_gS F n) a0 a1 a2 h
def f_X11_goSaid (F : Nat) (a0 : Nat) (a1 : Int32) (a2 : Int32) (h : jH) : Option jH := f_gS F 10 a0 a1 a2 h
def f_X11_said_L13 (F : Nat) (x0 : Nat) (k38 : jH → Option (Int32 × jH)) : Nat → Int32 → jH → Option (Int32 × jH)
  | 0, _, _ => none
  | n + 1, x1, h =>
    if (5 : Int32) ≤ x1 then
      k38 h
    else
      (jg_R 11 45 h x0).bind (fun v3 =>
      j_b2 (f_X11_oneOf F x0 48 10 h) (fun v5 h4 =>
      (jb_I 100 h4 v3 x1 v5).bind (fun h6 =>
      f_X11_said_L13 F x0 k38 n (x1 + 1) h6)))
def f_X11_said_L70 (F : Nat) (x0 : Nat) (k102 : jH → Option (Int32 × jH)) : Nat → Int32 → jH → Option (Int32 × jH)
  | 0, _, _ => none
  | n + 1, x1, h =>
    (jg_I 11 48 h x0).bind (fun v14 =>
    if v14 ≤ x1 then
      k102 h
    else
      (jg_I 11 49 h x0).bind (fun v15 =>
      if v15 ≤ 0 then
        k102 h
      else
        (jg_R 11 47 h x0).bind (fun v16 =>
        (ja_I 100 h v16 x1).bind (fun v17 =>
        (f_X11_tell F x0 (v17.toInt64) h).bind (fun h18 =>
        f_X11_said_L70 F x0 k102 n (x1 + 1) h18)))))
def f_X11_said (F : Nat) (a0 : Nat) (h : jH) : Option (Int32 × jH) :=
  j_gd 11 h a0 (
    (jp_I 11 13 h a0 0).bind (fun h1 =>
    (f_X11_beginText F a0 80 h1).bind (fun h2 =>
    f_X11_said_L13 F a0 (fun (h7 : jH) =>
      j_b2 (f_X11_wasRight F a0 h7) (fun v9 h8 =>
      if v9 = 0 then
        (jg_I 11 18 h8 a0).bind (fun v10 =>
        some ((((-1) : Int32) - v10), h8))
      else
        (jp_I 11 49 h8 a0 0).bind (fun h11 =>
        (f_X11_goSaid F a0 0 0 h11).bind (fun h12 =>
        (jp_I 11 12 h12 a0 0).bind (fun h13 =>
        f_X11_said_L70 F a0 (fun (h19 : jH) =>
          (jg_I 11 49 h19 a0).bind (fun v20 =>
          some (v20, h19))) F 0 h13))))) F 0 h2)))
def f_X11_ask_L47 (F : Nat) (x0 : Nat) (x1 : Int32) (x2 : Int32) (x3 : Int32) (x4 : Int32) (x5 : Int32) (k84 : Int32 → jH → Option (Int32 × jH)) : Nat → Int32 → Int32 → jH → Option (Int32 × jH)
  | 0, _, _, _ => none
  | n + 1, x6, x7, h =>
    (jg_I 11 2 h x0).bind (fun v3 =>
    if v3 ≤ x7 then
      k84 x6 h
    else
      j_b2 (f_X11_often F x0 x7 x3 h) (fun v5 h4 =>
      j_jn (fun (s6 : Int32) (s7 : Int32) (h8 : jH) =>
        f_X11_ask_L47 F x0 x1 x2 x3 x4 x5 k84 n (s7 + s6) (x7 + 1) h8) (fun J75 =>
        if v5 = x5 then
          J75 1 x6 h4
        else
          J75 0 x6 h4)))
def f_X11_ask_L34 (F : Nat) (x0 : Nat) (x1 : Int32) (x2 : Int32) (x3 : Int32) (k99 : Int32 → jH → Option (Int32 × jH)) : Nat → Int32 → Int32 → jH → Option (Int32 × jH)
  | 0, _, _, _ => none
  | n + 1, x4, x5, h =>
    if (6 : Int32) < x5 then
      k99 x4 h
    else
      f_X11_ask_L47 F x0 x1 x2 x3 x4 x5 (fun (y9 : Int32) (h10 : jH) =>
        f_X11_ask_L34 F x0 x1 x2 x3 k99 n (j_max x4 y9) (x5 + 1) h10) F 0 0 h
def f_X11_ask_L23 (F : Nat) (x0 : Nat) (k119 : Int32 → Int32 → jH → Option (Int32 × jH)) : Nat → Int32 → Int32 → Int32 → jH → Option (Int32 × jH)
  | 0, _, _, _, _ => none
  | n + 1, x1, x2, x3, h =>
    if (5 : Int32) ≤ x3 then
      k119 x1 x2 h
    else
      f_X11_ask_L34 F x0 x1 x2 x3 (fun (y11 : Int32) (h12 : jH) =>
        j_jn (fun (z13 : Int32) (z14 : Int32) (h15 : jH) =>
          f_X11_ask_L23 F x0 k119 n z13 z14 (x3 + 1) h15) (fun J113 =>
          if y11 < x2 then
            J113 x3 y11 h12
          else
            J113 x1 x2 h12)) F 0 0 h
def f_X11_ask (F : Nat) (a0 : Nat) (h : jH) : Option (Int32 × jH) :=
  j_gd 11 h a0 (
    (jp_I 11 13 h a0 0).bind (fun h1 =>
    (jg_I 11 2 h1 a0).bind (fun v2 =>
    if v2 = 0 then
      some ((-2), h1)
    else
      f_X11_ask_L23 F a0 (fun (y16 : Int32) (y17 : Int32) (h18 : jH) =>
        (jp_I 11 12 h18 a0 0).bind (fun h19 =>
        (f_X11_tell F a0 (y17.toInt64) h19).bind (fun h20 =>
        some (y16, h20)))) F (-1) 100000000 0 h1)))
def f_X11_draw (F : Nat) (a0 : Nat) (a1 : Int32) (h : jH) : Option (Int32 × jH) :=
  j_gd 11 h a0 (
    (jg_I 11 50 h a0).bind (fun v1 =>
    (jp_I 11 50 h a0 ((v1 * (1103515245 : Int32)) + (12345 : Int32))).bind (fun h2 =>
    (jg_I 11 50 h2 a0).bind (fun v3 =>
    (j_rem ((v3.toUInt32 >>> ((16 : Int32).toUInt32 &&& Int32.toUInt32 31)).toInt32) a1).bind (fun v4 =>
    some (v4, h2))))))
def f_X11_years_L59 (F : Nat) (x0 : Nat) (x2 : Int32) (k227 : Int32 → Int32 → jH → Option (Int32 × jH)) : Nat → Int32 → Int32 → Int32 → jH → Option (Int32 × jH)
  | 0, _, _, _, _ => none
  | n + 1, x3, x4, x5, h =>
    if x2 ≤ x5 then
      k227 x3 x4 h
    else
      (jg_I 11 6 h x0).bind (fun v10 =>
      j_b2 (f_X11_draw F x0 v10 h) (fun v12 h11 =>
      j_b2 (f_X11_draw F x0 4 h11) (fun v14 h13 =>
      (jg_R 11 51 h13 x0).bind (fun v15 =>
      (ja_I 100 h13 v15 12).bind (fun v16 =>
      j_jn (fun (z17 : Int32) (z18 : Int32) (h19 : jH) =>
        j_jn (fun (s20 : Int32) (s21 : Int32) (h22 : jH) =>
          (jg_R 11 51 h22 x0).bind (fun v23 =>
          (jb_I 100 h22 v23 12 (v16 + (1 : Int32))).bind (fun h24 =>
          f_X11_years_L59 F x0 x2 k227 n z17 (s21 + s20) (x5 + 1) h24))) (fun J207 =>
          if z18 = 0 then
            J207 1 x4 h19
          else
            J207 0 x4 h19)) (fun J195 =>
        if (2 : Int32) ≤ v14 then
          (jg_I 11 2 h13 x0).bind (fun v25 =>
          j_b2 (f_X11_draw F x0 v25 h13) (fun v27 h26 =>
          (jg_R 11 51 h26 x0).bind (fun v28 =>
          j_b2 (f_X11_refusesSay F x0 v28 v12 v27 h26) (fun v30 h29 =>
          j_jn (fun (s31 : Int32) (h32 : jH) =>
            if s31 = 0 then
              J195 x3 s31 h32
            else
              (jg_R 11 51 h32 x0).bind (fun v33 =>
              j_b2 (f_X11_goSay F x0 v33 v12 v27 h32) (fun v35 h34 =>
              J195 (x3 + v35) s31 h34))) (fun J173 =>
            if v30 = 0 then
              J173 1 h29
            else
              J173 0 h29)))))
        else
          (jg_R 11 51 h13 x0).bind (fun v36 =>
          j_b2 (f_X11_refusesWalk F x0 v36 v12 ((1 : Int32) - v14) h13) (fun v38 h37 =>
          j_jn (fun (s39 : Int32) (h40 : jH) =>
            if s39 = 0 then
              J195 x3 s39 h40
            else
              (jg_R 11 51 h40 x0).bind (fun v41 =>
              j_b2 (f_X11_goWalk F v41 v12 ((1 : Int32) - v14) h40) (fun v43 h42 =>
              J195 x3 s39 h42))) (fun J119 =>
            if v38 = 0 then
              J119 1 h37
            else
              J119 0 h37)))))))))
def f_X11_years (F : Nat) (a0 : Nat) (a1 : Int32) (a2 : Int32) (h : jH) : Option (Int32 × jH) :=
  j_gd 11 h a0 (
    (jp_I 11 13 h a0 0).bind (fun h1 =>
    (jg_I 11 6 h1 a0).bind (fun v2 =>
    if v2 = 0 then
      some ((-2), h1)
    else
      (jg_I 11 2 h1 a0).bind (fun v3 =>
      if v3 = 0 then
        some ((-2), h1)
      else
        j_b2 (f_X11_in F a2 1 60 h1) (fun v5 h4 =>
        if v5 = 0 then
          some ((-1), h4)
        else
          (jp_I 11 50 h4 a0 a1).bind (fun h6 =>
          (jg_R 11 0 h6 a0).bind (fun v7 =>
          (jg_R 11 51 h6 a0).bind (fun v8 =>
          (f_X11_lay F v7 v8 0 h6).bind (fun h9 =>
          f_X11_years_L59 F a0 a2 (fun (y44 : Int32) (y45 : Int32) (h46 : jH) =>
            (jp_I 11 12 h46 a0 0).bind (fun h47 =>
            (f_X11_tell F a0 (y44.toInt64) h47).bind (fun h48 =>
            (f_X11_tell F a0 (y45.toInt64) h48).bind (fun h49 =>
            (jg_R 11 51 h49 a0).bind (fun v50 =>
            (ja_I 100 h49 v50 13).bind (fun v51 =>
            j_b2 (f_J6_bitCount_0f7a4 F v51 h49) (fun v53 h52 =>
            (jg_R 11 0 h52 a0).bind (fun v54 =>
            (ja_I 100 h52 v54 13).bind (fun v55 =>
            j_b2 (f_J6_bitCount_0f7a4 F v55 h52) (fun v57 h56 =>
            some ((v53 - v57), h56))))))))))) F 0 0 0 h9)))))))))
def f_X11_keep (F : Nat) (a0 : Nat) (a1 : Int32) (h : jH) : Option (Int32 × jH) :=
  j_gd 11 h a0 (
    (jp_I 11 13 h a0 0).bind (fun h1 =>
    j_b2 (f_X11_in F a1 0 1 h1) (fun v3 h2 =>
    if v3 = 0 then
      some (0, h2)
    else
      (jg_R 11 54 h2 a0).bind (fun v4 =>
      (jb_I 102 h2 v4 a1 1).bind (fun h5 =>
      (jg_R 11 55 h5 a0).bind (fun v6 =>
      (jg_I 11 52 h5 a0).bind (fun v7 =>
      (jb_I 100 h5 v6 a1 v7).bind (fun h8 =>
      (jg_R 11 0 h8 a0).bind (fun v9 =>
      (jg_R 11 53 h8 a0).bind (fun v10 =>
      (f_X11_lay F v9 v10 ((44 : Int32) * a1) h8).bind (fun h11 =>
      some (1, h11))))))))))))
def f_X11_again_L40 (F : Nat) (x0 : Nat) (x1 : Int32) (k69 : jH → Option (Int32 × jH)) : Nat → Int32 → jH → Option (Int32 × jH)
  | 0, _, _ => none
  | n + 1, x2, h =>
    if (44 : Int32) ≤ x2 then
      k69 h
    else
      (jg_R 11 0 h x0).bind (fun v9 =>
      (jg_R 11 53 h x0).bind (fun v10 =>
      (ja_I 100 h v10 (((44 : Int32) * x1) + x2)).bind (fun v11 =>
      (jb_I 100 h v9 x2 v11).bind (fun h12 =>
      f_X11_again_L40 F x0 x1 k69 n (x2 + 1) h12))))
def f_X11_again (F : Nat) (a0 : Nat) (a1 : Int32) (h : jH) : Option (Int32 × jH) :=
  j_gd 11 h a0 (
    (jp_I 11 13 h a0 0).bind (fun h1 =>
    j_b2 (f_X11_in F a1 0 1 h1) (fun v3 h2 =>
    if v3 = 0 then
      some (0, h2)
    else
      (jg_R 11 54 h2 a0).bind (fun v4 =>
      (ja_I 102 h2 v4 a1).bind (fun v5 =>
      if v5 = 0 then
        some (0, h2)
      else
        (jg_R 11 55 h2 a0).bind (fun v6 =>
        (ja_I 100 h2 v6 a1).bind (fun v7 =>
        (jg_I 11 52 h2 a0).bind (fun v8 =>
        if v7 = v8 then
          f_X11_again_L40 F a0 a1 (fun (h13 : jH) =>
            (jp_I 11 29 h13 a0 0).bind (fun h14 =>
            some (1, h14))) F 0 h2
        else
          some (0, h2)))))))))
def f_X11_sumOf_L5 (F : Nat) (x0 : Nat) (x1 : Int32) (x2 : Int32) : Nat → Int32 → Int32 → jH → Option (Int32 × jH)
  | 0, _, _, _ => none
  | n + 1, x3, x4, h =>
    if x2 ≤ x4 then
      some (x3, h)
    else
      (jg_R 11 0 h x0).bind (fun v1 =>
      (ja_I 100 h v1 (x1 + x4)).bind (fun v2 =>
      f_X11_sumOf_L5 F x0 x1 x2 n (x3 + v2) (x4 + 1) h))
def f_X11_sumOf (F : Nat) (a0 : Nat) (a1 : Int32) (a2 : Int32) (h : jH) : Option (Int32 × jH) :=
  j_gd 11 h a0 (
    f_X11_sumOf_L5 F a0 a1 a2  F 0 0 h)
def f_X11_count_L129 (F : Nat) (x0 : Nat) : Nat → Int32 → Int32 → jH → Option (Int32 × jH)
  | 0, _, _, _ => none
  | n + 1, x2, x3, h =>
    (jg_I 11 2 h x0).bind (fun v15 =>
    if v15 ≤ x3 then
      some (x2, h)
    else
      (jg_R 11 5 h x0).bind (fun v16 =>
      (ja_I 100 h v16 (((2 : Int32) * x3) + (1 : Int32))).bind (fun v17 =>
      j_jn (fun (s18 : Int32) (s19 : Int32) (h20 : jH) =>
        f_X11_count_L129 F x0 n (s19 ||| s18) (x3 + 1) h20) (fun J159 =>
        if v17 = (-1) then
          J159 0 x2 h
        else
          J159 ((1 : Int32) <<< (x3 &&& 31)) x2 h))))
def f_X11_count (F : Nat) (a0 : Nat) (a1 : Int32) (h : jH) : Option (Int32 × jH) :=
  j_gd 11 h a0 (
    (jp_I 11 13 h a0 0).bind (fun h1 =>
    if a1 = 0 then
      (jg_I 11 1 h1 a0).bind (fun v2 =>
      some (v2, h1))
    else if a1 = 1 then
      (jg_I 11 2 h1 a0).bind (fun v3 =>
      some (v3, h1))
    else if a1 = 2 then
      (jg_I 11 6 h1 a0).bind (fun v4 =>
      some (v4, h1))
    else if a1 = 3 then
      (jg_I 11 7 h1 a0).bind (fun v5 =>
      some (v5, h1))
    else if a1 = 4 then
      (jg_R 11 0 h1 a0).bind (fun v6 =>
      (ja_I 100 h1 v6 12).bind (fun v7 =>
      some (v7, h1)))
    else if a1 = 5 then
      (jg_R 11 0 h1 a0).bind (fun v8 =>
      (ja_I 100 h1 v8 13).bind (fun v9 =>
      some (v9, h1)))
    else if a1 = 6 then
      j_b2 (f_X11_sumOf F a0 14 30 h1) (fun v11 h10 =>
      some (v11, h10))
    else if a1 = 7 then
      (jg_I 11 6 h1 a0).bind (fun v12 =>
      j_b2 (f_X11_sumOf F a0 4 v12 h1) (fun v14 h13 =>
      some (v14, h13)))
    else if a1 = 8 then
      f_X11_count_L129 F a0  F 0 0 h1
    else if a1 = 9 then
      (jg_I 11 29 h1 a0).bind (fun v21 =>
      some (v21, h1))
    else if a1 = 10 then
      (jg_I 11 12 h1 a0).bind (fun v22 =>
      some (v22, h1))
    else if a1 = 11 then
      (jg_I 11 10 h1 a0).bind (fun v23 =>
      some (v23, h1))
    else 
      some ((-1), h1)))
def f_X11_row (F : Nat) (a0 : Nat) (a1 : Int32) (h : jH) : Option (Int64 × jH) :=
  j_gd 11 h a0 (
    (jp_I 11 13 h a0 0).bind (fun h1 =>
    (jg_I 11 12 h1 a0).bind (fun v2 =>
    j_b2 (f_X11_in F a1 0 (v2 - (1 : Int32)) h1) (fun v4 h3 =>
    if v4 = 0 then
      j_b2 (f_X11_lost F a0 h3) (fun v6 h5 =>
      some ((v6.toInt64), h5))
    else
      (jg_R 11 11 h3 a0).bind (fun v7 =>
      (ja_L h3 v7 a1).bind (fun v8 =>
      some (v8, h3)))))))
def f_L_word (F : Nat) (a0 : Nat) (a1 : Int32) (a2 : Int32) (a3 : Nat) (h : jH) : Option (Int32 × jH) :=
  j_b3 (f_X10_word F a0 a1 a2 h) (fun v1 h2 =>
    (jb_L h2 a3 0 (v1.toInt64)).bind (fun h4 =>
    some (0, h4))) (fun h3 =>
    some (1, h3))
def f_L_traveller (F : Nat) (a0 : Nat) (a1 : Int32) (a2 : Int32) (a3 : Nat) (h : jH) : Option (Int32 × jH) :=
  j_b3 (f_X10_traveller F a0 a1 a2 h) (fun v1 h2 =>
    (jb_L h2 a3 0 (v1.toInt64)).bind (fun h4 =>
    some (0, h4))) (fun h3 =>
    some (1, h3))
def f_L_errand (F : Nat) (a0 : Nat) (a1 : Int32) (a2 : Int32) (a3 : Nat) (h : jH) : Option (Int32 × jH) :=
  j_b3 (f_X10_errand F a0 a1 a2 h) (fun v1 h2 =>
    (jb_L h2 a3 0 (v1.toInt64)).bind (fun h4 =>
    some (0, h4))) (fun h3 =>
    some (1, h3))
def f_L_book (F : Nat) (a0 : Nat) (a1 : Int32) (a2 : Int32) (a3 : Nat) (h : jH) : Option (Int32 × jH) :=
  j_b3 (f_X10_book F a0 a1 a2 h) (fun v1 h2 =>
    (jb_L h2 a3 0 (v1.toInt64)).bind (fun h4 =>
    some (0, h4))) (fun h3 =>
    some (1, h3))
def f_L_row (F : Nat) (a0 : Nat) (a1 : Int32) (a2 : Nat) (h : jH) : Option (Int32 × jH) :=
  j_b3 (f_X10_row F a0 a1 h) (fun v1 h2 =>
    (jb_L h2 a2 0 v1).bind (fun h4 =>
    some (0, h4))) (fun h3 =>
    some (1, h3))
def f_L_law_L23 (F : Nat) (L : Nat) (xs : Nat → Int32) (x1 : Nat) (x2 : Nat) (x3 : Nat) : Nat → Int32 → jH → Option (Int32 × jH)
  | 0, _, _ => none
  | n + 1, x4, h =>
    if ((Int32.ofNat L) - (5 : Int32)) < x4 then
      some (1, h)
    else
      (j_scr L xs x4).bind (fun v9 =>
      j_jn (fun (h10 : jH) =>
        f_L_law_L23 F L xs x1 x2 x3 n (x4 + 5) h10) (fun J1534 =>
        if (v9 &&& (63 : Int32)) = 0 then
          (j_scr L xs (x4 + 1)).bind (fun v11 =>
          j_b2 (f_X10_sign F x1 v11 h) (fun v13 h12 =>
          (j_scr L xs (x4 + 1)).bind (fun v14 =>
          j_b2 (f_X11_sign F x2 v14 h12) (fun v16 h15 =>
          if v13 = v16 then
            J1534 h15
          else
            some (0, h15)))))
        else if (v9 &&& (63 : Int32)) = 1 then
          (j_scr L xs (x4 + 1)).bind (fun v17 =>
          j_b2 (f_X10_end F x1 v17 h) (fun v19 h18 =>
          (j_scr L xs (x4 + 1)).bind (fun v20 =>
          j_b2 (f_X11_end F x2 v20 h18) (fun v22 h21 =>
          if v19 = v22 then
            J1534 h21
          else
            some (0, h21)))))
        else if (v9 &&& (63 : Int32)) = 2 then
          (j_scr L xs (x4 + 1)).bind (fun v23 =>
          j_b2 (f_X10_road F x1 v23 h) (fun v25 h24 =>
          (j_scr L xs (x4 + 1)).bind (fun v26 =>
          j_b2 (f_X11_road F x2 v26 h24) (fun v28 h27 =>
          if v25 = v28 then
            J1534 h27
          else
            some (0, h27)))))
        else if (v9 &&& (63 : Int32)) = 3 then
          j_b2 (f_X10_words F x1 h) (fun v30 h29 =>
          j_b2 (f_X11_words F x2 h29) (fun v32 h31 =>
          if v30 = v32 then
            J1534 h31
          else
            some (0, h31)))
        else if (v9 &&& (63 : Int32)) = 4 then
          j_b2 (f_X10_travellers F x1 h) (fun v34 h33 =>
          j_b2 (f_X11_travellers F x2 h33) (fun v36 h35 =>
          if v34 = v36 then
            J1534 h35
          else
            some (0, h35)))
        else if (v9 &&& (63 : Int32)) = 5 then
          j_b2 (f_X10_errands F x1 h) (fun v38 h37 =>
          j_b2 (f_X11_errands F x2 h37) (fun v40 h39 =>
          if v38 = v40 then
            J1534 h39
          else
            some (0, h39)))
        else if (v9 &&& (63 : Int32)) = 6 then
          j_b2 (f_X10_rule F x1 h) (fun v42 h41 =>
          j_b2 (f_X11_rule F x2 h41) (fun v44 h43 =>
          if v42 = v44 then
            J1534 h43
          else
            some (0, h43)))
        else if (v9 &&& (63 : Int32)) = 7 then
          (j_scr L xs (x4 + 1)).bind (fun v45 =>
          (j_scr L xs (x4 + 2)).bind (fun v46 =>
          j_b2 (f_L_word F x1 v45 v46 x3 h) (fun v48 h47 =>
          (j_scr L xs (x4 + 1)).bind (fun v49 =>
          (j_scr L xs (x4 + 2)).bind (fun v50 =>
          j_b2 (f_X11_word F x2 v49 v50 h47) (fun v52 h51 =>
          j_b2 (f_X11_thrown F x2 h51) (fun v54 h53 =>
          if v54 = v48 then
            j_jn (fun (h55 : jH) =>
              J1534 h55) (fun J404 =>
              if v48 = 0 then
                (ja_L h53 x3 0).bind (fun v56 =>
                if (lg_cmp v56 (v52.toInt64)) = 0 then
                  J404 h53
                else
                  some (0, h53))
              else
                J404 h53)
          else
            some (0, h53))))))))
        else if (v9 &&& (63 : Int32)) = 8 then
          (j_scr L xs (x4 + 1)).bind (fun v57 =>
          (j_scr L xs (x4 + 2)).bind (fun v58 =>
          j_b2 (f_L_traveller F x1 v57 v58 x3 h) (fun v60 h59 =>
          (j_scr L xs (x4 + 1)).bind (fun v61 =>
          (j_scr L xs (x4 + 2)).bind (fun v62 =>
          j_b2 (f_X11_traveller F x2 v61 v62 h59) (fun v64 h63 =>
          j_b2 (f_X11_thrown F x2 h63) (fun v66 h65 =>
          if v66 = v60 then
            j_jn (fun (h67 : jH) =>
              J1534 h67) (fun J472 =>
              if v60 = 0 then
                (ja_L h65 x3 0).bind (fun v68 =>
                if (lg_cmp v68 (v64.toInt64)) = 0 then
                  J472 h65
                else
                  some (0, h65))
              else
                J472 h65)
          else
            some (0, h65))))))))
        else if (v9 &&& (63 : Int32)) = 9 then
          (j_scr L xs (x4 + 1)).bind (fun v69 =>
          (j_scr L xs (x4 + 2)).bind (fun v70 =>
          j_b2 (f_L_errand F x1 v69 v70 x3 h) (fun v72 h71 =>
          (j_scr L xs (x4 + 1)).bind (fun v73 =>
          (j_scr L xs (x4 + 2)).bind (fun v74 =>
          j_b2 (f_X11_errand F x2 v73 v74 h71) (fun v76 h75 =>
          j_b2 (f_X11_thrown F x2 h75) (fun v78 h77 =>
          if v78 = v72 then
            j_jn (fun (h79 : jH) =>
              J1534 h79) (fun J540 =>
              if v72 = 0 then
                (ja_L h77 x3 0).bind (fun v80 =>
                if (lg_cmp v80 (v76.toInt64)) = 0 then
                  J540 h77
                else
                  some (0, h77))
              else
                J540 h77)
          else
            some (0, h77))))))))
        else if (v9 &&& (63 : Int32)) = 10 then
          (j_scr L xs (x4 + 1)).bind (fun v81 =>
          (j_scr L xs (x4 + 2)).bind (fun v82 =>
          j_b2 (f_L_book F x1 v81 v82 x3 h) (fun v84 h83 =>
          (j_scr L xs (x4 + 1)).bind (fun v85 =>
          (j_scr L xs (x4 + 2)).bind (fun v86 =>
          j_b2 (f_X11_book F x2 v85 v86 h83) (fun v88 h87 =>
          j_b2 (f_X11_thrown F x2 h87) (fun v90 h89 =>
          if v90 = v84 then
            j_jn (fun (h91 : jH) =>
              J1534 h91) (fun J608 =>
              if v84 = 0 then
                (ja_L h89 x3 0).bind (fun v92 =>
                if (lg_cmp v92 (v88.toInt64)) = 0 then
                  J608 h89
                else
                  some (0, h89))
              else
                J608 h89)
          else
            some (0, h89))))))))
        else if (v9 &&& (63 : Int32)) = 11 then
          (j_scr L xs (x4 + 1)).bind (fun v93 =>
          (j_scr L xs (x4 + 2)).bind (fun v94 =>
          (j_scr L xs (x4 + 3)).bind (fun v95 =>
          (j_scr L xs (x4 + 4)).bind (fun v96 =>
          j_b2 (f_X10_sheet F x1 v93 v94 v95 v96 h) (fun v98 h97 =>
          (j_scr L xs (x4 + 1)).bind (fun v99 =>
          (j_scr L xs (x4 + 2)).bind (fun v100 =>
          (j_scr L xs (x4 + 3)).bind (fun v101 =>
          (j_scr L xs (x4 + 4)).bind (fun v102 =>
          j_b2 (f_X11_sheet F x2 v99 v100 v101 v102 h97) (fun v104 h103 =>
          if v98 = v104 then
            J1534 h103
          else
            some (0, h103)))))))))))
        else if (v9 &&& (63 : Int32)) = 12 then
          (j_scr L xs (x4 + 1)).bind (fun v105 =>
          (j_scr L xs (x4 + 2)).bind (fun v106 =>
          j_b2 (f_X10_toll F x1 v105 v106 h) (fun v108 h107 =>
          (j_scr L xs (x4 + 1)).bind (fun v109 =>
          (j_scr L xs (x4 + 2)).bind (fun v110 =>
          j_b2 (f_X11_toll F x2 v109 v110 h107) (fun v112 h111 =>
          if v108 = v112 then
            J1534 h111
          else
            some (0, h111)))))))
        else if (v9 &&& (63 : Int32)) = 13 then
          (j_scr L xs (x4 + 1)).bind (fun v113 =>
          (j_scr L xs (x4 + 2)).bind (fun v114 =>
          j_b2 (f_X10_walk F x1 v113 v114 h) (fun v116 h115 =>
          (j_scr L xs (x4 + 1)).bind (fun v117 =>
          (j_scr L xs (x4 + 2)).bind (fun v118 =>
          j_b2 (f_X11_walk F x2 v117 v118 h115) (fun v120 h119 =>
          if v116 = v120 then
            J1534 h119
          else
            some (0, h119)))))))
        else if (v9 &&& (63 : Int32)) = 14 then
          (j_scr L xs (x4 + 1)).bind (fun v121 =>
          j_b2 (f_X10_pause F x1 v121 h) (fun v123 h122 =>
          (j_scr L xs (x4 + 1)).bind (fun v124 =>
          j_b2 (f_X11_pause F x2 v124 h122) (fun v126 h125 =>
          if v123 = v126 then
            J1534 h125
          else
            some (0, h125)))))
        else if (v9 &&& (63 : Int32)) = 15 then
          (j_scr L xs (x4 + 1)).bind (fun v127 =>
          (j_scr L xs (x4 + 2)).bind (fun v128 =>
          j_b2 (f_X10_say F x1 v127 v128 h) (fun v130 h129 =>
          (j_scr L xs (x4 + 1)).bind (fun v131 =>
          (j_scr L xs (x4 + 2)).bind (fun v132 =>
          j_b2 (f_X11_say F x2 v131 v132 h129) (fun v134 h133 =>
          if v130 = v134 then
            J1534 h133
          else
            some (0, h133)))))))
        else if (v9 &&& (63 : Int32)) = 16 then
          (j_scr L xs (x4 + 1)).bind (fun v135 =>
          (j_scr L xs (x4 + 2)).bind (fun v136 =>
          (j_scr L xs (x4 + 3)).bind (fun v137 =>
          j_b2 (f_X10_alms F x1 v135 v136 v137 h) (fun v139 h138 =>
          (j_scr L xs (x4 + 1)).bind (fun v140 =>
          (j_scr L xs (x4 + 2)).bind (fun v141 =>
          (j_scr L xs (x4 + 3)).bind (fun v142 =>
          j_b2 (f_X11_alms F x2 v140 v141 v142 h138) (fun v144 h143 =>
          if v139 = v144 then
            J1534 h143
          else
            some (0, h143)))))))))
        else if (v9 &&& (63 : Int32)) = 17 then
          j_b2 (f_X10_journey F x1 h) (fun v146 h145 =>
          j_b2 (f_X11_journey F x2 h145) (fun v148 h147 =>
          if v146 = v148 then
            J1534 h147
          else
            some (0, h147)))
        else if (v9 &&& (63 : Int32)) = 18 then
          j_b2 (f_X10_undo F x1 h) (fun v150 h149 =>
          j_b2 (f_X11_undo F x2 h149) (fun v152 h151 =>
          if v150 = v152 then
            J1534 h151
          else
            some (0, h151)))
        else if (v9 &&& (63 : Int32)) = 19 then
          (j_scr L xs (x4 + 1)).bind (fun v153 =>
          (j_scr L xs (x4 + 2)).bind (fun v154 =>
          j_b2 (f_X10_cheapest F x1 v153 v154 h) (fun v156 h155 =>
          (j_scr L xs (x4 + 1)).bind (fun v157 =>
          (j_scr L xs (x4 + 2)).bind (fun v158 =>
          j_b2 (f_X11_cheapest F x2 v157 v158 h155) (fun v160 h159 =>
          if v156 = v160 then
            J1534 h159
          else
            some (0, h159)))))))
        else if (v9 &&& (63 : Int32)) = 20 then
          (j_scr L xs (x4 + 1)).bind (fun v161 =>
          j_b2 (f_X10_sentence F x1 v161 h) (fun v163 h162 =>
          (j_scr L xs (x4 + 1)).bind (fun v164 =>
          j_b2 (f_X11_sentence F x2 v164 h162) (fun v166 h165 =>
          if v163 = v166 then
            J1534 h165
          else
            some (0, h165)))))
        else if (v9 &&& (63 : Int32)) = 21 then
          (j_scr L xs (x4 + 1)).bind (fun v167 =>
          (j_scr L xs (x4 + 2)).bind (fun v168 =>
          j_b2 (f_X10_when F x1 v167 v168 h) (fun v170 h169 =>
          (j_scr L xs (x4 + 1)).bind (fun v171 =>
          (j_scr L xs (x4 + 2)).bind (fun v172 =>
          j_b2 (f_X11_when F x2 v171 v172 h169) (fun v174 h173 =>
          if v170 = v174 then
            J1534 h173
          else
            some (0, h173)))))))
        else if (v9 &&& (63 : Int32)) = 22 then
          (j_scr L xs (x4 + 1)).bind (fun v175 =>
          (j_scr L xs (x4 + 2)).bind (fun v176 =>
          (j_scr L xs (x4 + 3)).bind (fun v177 =>
          j_b2 (f_X10_shortest F x1 v175 v176 v177 h) (fun v179 h178 =>
          (j_scr L xs (x4 + 1)).bind (fun v180 =>
          (j_scr L xs (x4 + 2)).bind (fun v181 =>
          (j_scr L xs (x4 + 3)).bind (fun v182 =>
          j_b2 (f_X11_shortest F x2 v180 v181 v182 h178) (fun v184 h183 =>
          if v179 = v184 then
            J1534 h183
          else
            some (0, h183)))))))))
        else if (v9 &&& (63 : Int32)) = 23 then
          (j_scr L xs (x4 + 1)).bind (fun v185 =>
          (j_scr L xs (x4 + 2)).bind (fun v186 =>
          j_b2 (f_X10_differ F x1 v185 v186 h) (fun v188 h187 =>
          (j_scr L xs (x4 + 1)).bind (fun v189 =>
          (j_scr L xs (x4 + 2)).bind (fun v190 =>
          j_b2 (f_X11_differ F x2 v189 v190 h187) (fun v192 h191 =>
          if v188 = v192 then
            J1534 h191
          else
            some (0, h191)))))))
        else if (v9 &&& (63 : Int32)) = 24 then
          (j_scr L xs (x4 + 1)).bind (fun v193 =>
          j_b2 (f_X10_near F x1 v193 h) (fun v195 h194 =>
          (j_scr L xs (x4 + 1)).bind (fun v196 =>
          j_b2 (f_X11_near F x2 v196 h194) (fun v198 h197 =>
          if v195 = v198 then
            J1534 h197
          else
            some (0, h197)))))
        else if (v9 &&& (63 : Int32)) = 25 then
          (j_scr L xs (x4 + 1)).bind (fun v199 =>
          (j_scr L xs (x4 + 2)).bind (fun v200 =>
          (j_scr L xs (x4 + 3)).bind (fun v201 =>
          j_b2 (f_X10_heard F x1 v199 v200 v201 h) (fun v203 h202 =>
          (j_scr L xs (x4 + 1)).bind (fun v204 =>
          (j_scr L xs (x4 + 2)).bind (fun v205 =>
          (j_scr L xs (x4 + 3)).bind (fun v206 =>
          j_b2 (f_X11_heard F x2 v204 v205 v206 h202) (fun v208 h207 =>
          if v203 = v208 then
            J1534 h207
          else
            some (0, h207)))))))))
        else if (v9 &&& (63 : Int32)) = 26 then
          (j_scr L xs (x4 + 1)).bind (fun v209 =>
          j_b2 (f_X10_code F x1 v209 h) (fun v211 h210 =>
          (j_scr L xs (x4 + 1)).bind (fun v212 =>
          j_b2 (f_X11_code F x2 v212 h210) (fun v214 h213 =>
          if v211 = v214 then
            J1534 h213
          else
            some (0, h213)))))
        else if (v9 &&& (63 : Int32)) = 27 then
          (j_scr L xs (x4 + 1)).bind (fun v215 =>
          (j_scr L xs (x4 + 2)).bind (fun v216 =>
          j_b2 (f_X10_trip F x1 v215 v216 h) (fun v218 h217 =>
          (j_scr L xs (x4 + 1)).bind (fun v219 =>
          (j_scr L xs (x4 + 2)).bind (fun v220 =>
          j_b2 (f_X11_trip F x2 v219 v220 h217) (fun v222 h221 =>
          if v218 = v222 then
            J1534 h221
          else
            some (0, h221)))))))
        else if (v9 &&& (63 : Int32)) = 28 then
          (j_scr L xs (x4 + 1)).bind (fun v223 =>
          j_b2 (f_X10_haste F x1 v223 h) (fun v225 h224 =>
          (j_scr L xs (x4 + 1)).bind (fun v226 =>
          j_b2 (f_X11_haste F x2 v226 h224) (fun v228 h227 =>
          if v225 = v228 then
            J1534 h227
          else
            some (0, h227)))))
        else if (v9 &&& (63 : Int32)) = 29 then
          (j_scr L xs (x4 + 1)).bind (fun v229 =>
          j_b2 (f_X10_best F x1 v229 h) (fun v231 h230 =>
          (j_scr L xs (x4 + 1)).bind (fun v232 =>
          j_b2 (f_X11_best F x2 v232 h230) (fun v234 h233 =>
          if v231 = v234 then
            J1534 h233
          else
            some (0, h233)))))
        else if (v9 &&& (63 : Int32)) = 30 then
          (j_scr L xs (x4 + 1)).bind (fun v235 =>
          (j_scr L xs (x4 + 2)).bind (fun v236 =>
          j_b2 (f_X10_takes F x1 v235 v236 h) (fun v238 h237 =>
          (j_scr L xs (x4 + 1)).bind (fun v239 =>
          (j_scr L xs (x4 + 2)).bind (fun v240 =>
          j_b2 (f_X11_takes F x2 v239 v240 h237) (fun v242 h241 =>
          if v238 = v242 then
            J1534 h241
          else
            some (0, h241)))))))
        else if (v9 &&& (63 : Int32)) = 31 then
          (j_scr L xs (x4 + 1)).bind (fun v243 =>
          j_b2 (f_X10_greed F x1 v243 h) (fun v245 h244 =>
          (j_scr L xs (x4 + 1)).bind (fun v246 =>
          j_b2 (f_X11_greed F x2 v246 h244) (fun v248 h247 =>
          if v245 = v248 then
            J1534 h247
          else
            some (0, h247)))))
        else if (v9 &&& (63 : Int32)) = 32 then
          (j_scr L xs (x4 + 1)).bind (fun v249 =>
          j_b2 (f_X10_law F x1 v249 h) (fun v251 h250 =>
          (j_scr L xs (x4 + 1)).bind (fun v252 =>
          j_b2 (f_X11_law F x2 v252 h250) (fun v254 h253 =>
          if v251 = v254 then
            J1534 h253
          else
            some (0, h253)))))
        else if (v9 &&& (63 : Int32)) = 33 then
          j_b2 (f_X10_said F x1 h) (fun v256 h255 =>
          j_b2 (f_X11_said F x2 h255) (fun v258 h257 =>
          if v256 = v258 then
            J1534 h257
          else
            some (0, h257)))
        else if (v9 &&& (63 : Int32)) = 34 then
          j_b2 (f_X10_ask F x1 h) (fun v260 h259 =>
          j_b2 (f_X11_ask F x2 h259) (fun v262 h261 =>
          if v260 = v262 then
            J1534 h261
          else
            some (0, h261)))
        else if (v9 &&& (63 : Int32)) = 35 then
          (j_scr L xs (x4 + 1)).bind (fun v263 =>
          (j_scr L xs (x4 + 2)).bind (fun v264 =>
          j_b2 (f_X10_years F x1 v263 v264 h) (fun v266 h265 =>
          (j_scr L xs (x4 + 1)).bind (fun v267 =>
          (j_scr L xs (x4 + 2)).bind (fun v268 =>
          j_b2 (f_X11_years F x2 v267 v268 h265) (fun v270 h269 =>
          if v266 = v270 then
            J1534 h269
          else
            some (0, h269)))))))
        else if (v9 &&& (63 : Int32)) = 36 then
          (j_scr L xs (x4 + 1)).bind (fun v271 =>
          j_b2 (f_X10_keep F x1 v271 h) (fun v273 h272 =>
          (j_scr L xs (x4 + 1)).bind (fun v274 =>
          j_b2 (f_X11_keep F x2 v274 h272) (fun v276 h275 =>
          if v273 = v276 then
            J1534 h275
          else
            some (0, h275)))))
        else if (v9 &&& (63 : Int32)) = 37 then
          (j_scr L xs (x4 + 1)).bind (fun v277 =>
          j_b2 (f_X10_again F x1 v277 h) (fun v279 h278 =>
          (j_scr L xs (x4 + 1)).bind (fun v280 =>
          j_b2 (f_X11_again F x2 v280 h278) (fun v282 h281 =>
          if v279 = v282 then
            J1534 h281
          else
            some (0, h281)))))
        else if (v9 &&& (63 : Int32)) = 38 then
          (j_scr L xs (x4 + 1)).bind (fun v283 =>
          j_b2 (f_X10_count F x1 v283 h) (fun v285 h284 =>
          (j_scr L xs (x4 + 1)).bind (fun v286 =>
          j_b2 (f_X11_count F x2 v286 h284) (fun v288 h287 =>
          if v285 = v288 then
            J1534 h287
          else
            some (0, h287)))))
        else if (v9 &&& (63 : Int32)) = 39 then
          (j_scr L xs (x4 + 1)).bind (fun v289 =>
          j_b2 (f_L_row F x1 v289 x3 h) (fun v291 h290 =>
          (j_scr L xs (x4 + 1)).bind (fun v292 =>
          j_b2 (f_X11_row F x2 v292 h290) (fun v294 h293 =>
          j_b2 (f_X11_thrown F x2 h293) (fun v296 h295 =>
          if v296 = v291 then
            j_jn (fun (h297 : jH) =>
              J1534 h297) (fun J1531 =>
              if v291 = 0 then
                (ja_L h295 x3 0).bind (fun v298 =>
                if (lg_cmp v298 v294) = 0 then
                  J1531 h295
                else
                  some (0, h295))
              else
                J1531 h295)
          else
            some (0, h295))))))
        else 
          J1534 h))
def f_L_law (F : Nat) (L : Nat) (xs : Nat → Int32) (h : jH) : Option (Int32 × jH) :=
  j_b2 (jn_O 10 20 h) (fun a1 h2 =>
  (f_X10_init F a1 h2).bind (fun h3 =>
  j_b2 (jn_O 11 56 h3) (fun a4 h5 =>
  (f_X11_init F a4 h5).bind (fun h6 =>
  j_b2 (jn_A 103 h6 1) (fun a7 h8 =>
  f_L_law_L23 F L xs a1 a4 a7  F 0 h8)))))
