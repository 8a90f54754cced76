/-! YEARS -/
def jhZ : jH := ((0, 0), fun _ => (0, 0), fun _ _ => 0, fun _ _ => 0, fun _ _ => none)
def bc (x : Int32) : Int32 := ((f_J6_bitCount_0f7a4 5000 x jhZ).getD (0, jhZ)).1
theorem bc_eq (x : Int32) (h : jH) : f_J6_bitCount_0f7a4 5000 x h = some (bc x, h) := rfl
def dr (r : Int32) : Int32 := r * nI 1103515245 + nI 12345
def dk (r : Int32) : Nat := r.toUInt32.toNat >>> 16
theorem dk_lt (r : Int32) : dk r < 65536 := by
  unfold dk
  have := r.toUInt32.toNat_lt
  rw [Nat.shiftRight_eq_div_pow]
  omega
theorem dk_x (r : Int32) : (r.toUInt32 >>> ((nI 16).toUInt32 &&& Int32.toUInt32 (nI 31))).toInt32 = nI (dk r) := by
  refine b_ext (fun j hj => ?_)
  have := b_ushr 16 (by omega) r j
  rw [show (nI 31 : Int32) = 31 from rfl, this, bt_nI hj]
  unfold dk
  rw [Nat.testBit_shiftRight, bt_nat]
def dn (r : Int32) (n : Nat) : Nat := dk r % n
theorem rem_nn {a b : Nat} (ha : a < 2147483648) (h0 : 0 < b) (hb : b < 2147483648) : j_rem (nI a) (nI b) = some (nI (a % b)) := by
  unfold j_rem
  rw [if_neg (nI_ne0 h0 hb)]
  congr 1
  exact pk_rem ha h0 hb
/-- scene, draw, paid, failed -/
abbrev gY : Type := gC × Int32 × Int32 × Int32
def yGo (C : gC) (t : Nat) (o : Option Nat) (r a b : Int32) : gY := match o with
  | some p => (hrC (mvC C t p) (nI 1), r, a, b)
  | none => (hrC C (nI 1), r, a, b + nI 1)
def ySay (c : List Int32) (g : gL) (d : gD) (C : gC) (t w : Nat) (r a b : Int32) : gY :=
  if spT c g C t w ≤ scU C t then (hrC (spC c g d C t w) (nI 1), r, a + nI (spT c g C t w), b) else (hrC C (nI 1), r, a, b + nI 1)
def yT (D : Int32 → Int32) (N : Int32 → Nat → Nat) (P : Nat) (y : gY) : Nat := N (D y.2.1) P
def yK (D : Int32 → Int32) (N : Int32 → Nat → Nat) (y : gY) : Nat := N (D (D y.2.1)) 4
def yW (D : Int32 → Int32) (N : Int32 → Nat → Nat) (g : gL) (y : gY) : Nat := N (D (D (D y.2.1))) (lxW g)
def ySt (D : Int32 → Int32) (N : Int32 → Nat → Nat) (c : List Int32) (g : gL) (d : gD) (P S : Nat) (y : gY) : gY :=
  if yK D N y < 2 then yGo y.1 (yT D N P y) (goP S (scP y.1 (yT D N P y)) (1 - yK D N y)) (D (D y.2.1)) y.2.2.1 y.2.2.2
  else ySay c g d y.1 (yT D N P y) (yW D N g y) (D (D (D y.2.1))) y.2.2.1 y.2.2.2
def yN (D : Int32 → Int32) (N : Int32 → Nat → Nat) (c : List Int32) (g : gL) (d : gD) (P S : Nat) (y : gY) (n : Nat) : gY := fo (fun _ y => ySt D N c g d P S y) 0 n y
theorem yN_s {D : Int32 → Int32} {N : Int32 → Nat → Nat} {c : List Int32} {g : gL} {d : gD} {P S : Nat} {y : gY} {n : Nat} : yN D N c g d P S y (n + 1) = ySt D N c g d P S (yN D N c g d P S y n) := by
  unfold yN
  rw [fo_last]
theorem yGo_1 {C : gC} {t p : Nat} {r a b : Int32} : yGo C t (some p) r a b = (hrC (mvC C t p) (nI 1), r, a, b) := rfl
theorem yGo_0 {C : gC} {t : Nat} {r a b : Int32} : yGo C t none r a b = (hrC C (nI 1), r, a, b + nI 1) := rfl
theorem le00 : nI 0 ≤ nI 0 := by rw [nn_le (by omega) (by omega)]; exact Nat.le_refl 0
theorem nle2 : ¬ nI 0 ≤ -nI 2 := by rw [ng_le (by omega) (by omega) (by omega)]; exact fun h => h
theorem add_0 (x : Int32) : x + nI 0 = x := Int32.add_zero x
theorem dn_lt {r : Int32} {n : Nat} (h : 0 < n) : dn r n < n := Nat.mod_lt _ h
theorem WS_y {D : Int32 → Int32} {N : Int32 → Nat → Nat} {c : List Int32} {g : gL} {d : gD} {P S : Nat} {y : gY} (hN : ∀ r n, 0 < n → N r n < n) (hP : 0 < P) (h : WS y.1 P S) : WS (ySt D N c g d P S y).1 P S := by
  have ht : yT D N P y < P := hN _ _ hP
  by_cases h2 : yK D N y < 2
  · rw [show ySt D N c g d P S y = yGo y.1 (yT D N P y) (goP S (scP y.1 (yT D N P y)) (1 - yK D N y)) (D (D y.2.1)) y.2.2.1 y.2.2.2 from if_pos h2]
    cases e : goP S (scP y.1 (yT D N P y)) (1 - yK D N y) with
    | some p => exact WS_hr (WS_mv h (goP_in (h _ ht).1 e))
    | none => exact WS_hr h
  · rw [show ySt D N c g d P S y = ySay c g d y.1 (yT D N P y) (yW D N g y) (D (D (D y.2.1))) y.2.2.1 y.2.2.2 from if_neg h2]
    unfold ySay
    split
    · exact WS_hr (WS_sp h ht)
    · exact WS_hr h
/-! a new cell, made by the class -/
def qN (q : pQ) (c m : Nat) : pQ := ((q.1.1 + 1, q.1.2 + m), fun b => if b = q.1.1 then (c, 0) else q.2 b)
theorem pR_big {ρ : pP} {n : Nat} (h : 162 ≤ n) : pR ρ n = fun _ => none := by
  funext k
  unfold pR
  have : Nat.blt n 162 = false := by
    cases e : Nat.blt n 162 with
    | false => rfl
    | true => rw [Nat.blt_eq] at e; omega
  rw [this]
  rfl
theorem pSx_big {f : Nat → Nat × Nat} {n : Nat} (h : 162 ≤ n) : pSx f n = f n := by
  unfold pSx
  have : Nat.blt n 162 = false := by
    cases e : Nat.blt n 162 with
    | false => rfl
    | true => rw [Nat.blt_eq] at e; omega
  rw [this]
  rfl
theorem js_hp {q : pQ} {ρ : pP} {L : pL} {I : pI} {c m : Nat} (h : 162 ≤ q.1.1) : js_N (hp q ρ L I) (c, 0) m = hp (qN q c m) ρ (j_row L q.1.1 (fun _ => 0)) (j_row I q.1.1 (fun _ => 0)) := by
  show ((q.1.1 + 1, q.1.2 + m), (fun b => if b = q.1.1 then (c, 0) else pSx q.2 b), j_row I q.1.1 (fun _ => 0), j_row L q.1.1 (fun _ => 0), j_row (pR ρ) q.1.1 (fun _ => none)) = ((q.1.1 + 1, q.1.2 + m), pSx (qN q c m).2, j_row I q.1.1 (fun _ => 0), j_row L q.1.1 (fun _ => 0), pR ρ)
  have e1 : (fun b => if b = q.1.1 then (c, 0) else pSx q.2 b) = pSx (qN q c m).2 := by
    funext b
    by_cases hb : b < 162
    · have hb' : Nat.blt b 162 = true := by rw [Nat.blt_eq]; exact hb
      rw [if_neg (by omega), pSx_at hb', pSx_at hb']
    · rw [pSx_big (by omega), pSx_big (by omega)]
      rfl
  have e2 : j_row (pR ρ) q.1.1 (fun _ => none) = pR ρ := by
    funext b
    unfold j_row
    split
    · rename_i e
      rw [e, pR_big h]
    · rfl
  rw [e1, e2]
theorem hN_g {q : pQ} {ρ : pP} {L : pL} {I : pI} {c k n : Nat} (h : 162 ≤ n) (e : q.2 n = (c, 0)) : jg_I c k (hp q ρ L I) n = some (I n k) := by
  show (if pSx q.2 n = (c, 0) then some (I n k) else none) = _
  rw [pSx_big h, if_pos e]
theorem hN_p {q : pQ} {ρ : pP} {L : pL} {I : pI} {c k n : Nat} {x : Int32} (h : 162 ≤ n) (e : q.2 n = (c, 0)) : jp_I c k (hp q ρ L I) n x = some (hp q ρ L (j_up I n k x)) := by
  show (if pSx q.2 n = (c, 0) then _ else none) = _
  rw [pSx_big h, if_pos e]
  rfl
theorem hN_d {α : Type} {q : pQ} {ρ : pP} {L : pL} {I : pI} {c n : Nat} {x : Option α} (h : 162 ≤ n) (e : q.2 n = (c, 0)) : j_gd c (hp q ρ L I) n x = x := by
  show (if pSx q.2 n = (c, 0) then x else none) = _
  rw [pSx_big h, if_pos e]
theorem x_below {q : pQ} {ρ : pP} {L : pL} {I : pI} {n m : Nat} {r : Int32} (hn : 162 ≤ n) (hq : q.2 n = (1, 0)) (hr : I n 0 = r) (hm : 0 < m) (hm2 : m < 100000) : f_X1_below 5000 n (nI m) (hp q ρ L I) = some (nI (dn (dr r) m), hp q ρ L (j_up I n 0 (dr r))) := by
  have hk := dk_lt (dr r)
  have e := dk_x (dr r)
  simp (disch := first | omega | assumption) only [f_X1_below, hN_d hn hq, ↓oe (hN_g hn hq), ↓oe (hN_p hn hq), hr, lt0, nn_le, if_neg, up_eq]
  rw [show r * nI 1103515245 + nI 12345 = dr r from rfl, e, rem_nn (by omega) hm (by omega), ob]
  rfl
theorem m_draw {q : pQ} {ρ : pP} {L : pL} {I : pI} {m : Nat} {r : Int32} (hr : I 129 50 = r) (hm : 0 < m) (hm2 : m < 100000) : f_X11_draw 5000 129 (nI m) (hp q ρ L I) = some (nI (dn (dr r) m), hp q ρ L (j_up I 129 50 (dr r))) := by
  have hk := dk_lt (dr r)
  have e := dk_x (dr r)
  simp (disch := first | omega | assumption) only [f_X11_draw, ↓bM, ↓bMA, ↓jn_, ↓ob_, ↓b2_, ↓reduceIte, nn_lt, nn_le, nn_eq, nI_add, pk_mul, nn_su, gn_lt, gn_le, ng_lt, ng_le, ng_eq, gn_eq, gg_eq, n_m1, n_cl, if_true, if_false, if_pos, if_neg, lt0, hr, up_eq]
  rw [show r * nI 1103515245 + nI 12345 = dr r from rfl, e, rem_nn (by omega) hm (by omega), ob]
  rfl
theorem x_drawn {q : pQ} {ρ : pP} {L : pL} {I : pI} {D : Int32 → Int32} {N : Int32 → Nat → Nat} {c : List Int32} {g : gL} {d : gD} {P S n : Nat} {y : gY} (hN : ∀ r n, 0 < n → N r n < n) (hB : ∀ (I : pI) m r, I n 0 = r → 0 < m → m < 100000 → f_X1_below 5000 n (nI m) (hp q ρ L I) = some (nI (N (D r) m), hp q ρ L (j_up I n 0 (D r)))) (hn : 162 ≤ n) (hq : q.2 n = (1, 0)) (hQ : XQ c g d P S ρ I) (wQ : WQ c g d P S) (hP : 0 < P) (hW : 0 < lxW g) (hC : XS 19 y.1 P I) (hWS : WS y.1 P S) (hr : I n 0 = y.2.1) :
    ∃ v J, f_X10_drawnAct 5000 0 n (hp q ρ L I) = some (v, hp q ρ L J) ∧ ((nI 0 ≤ v ∧ y.2.2.1 + v = (ySt D N c g d P S y).2.2.1 ∧ y.2.2.2 = (ySt D N c g d P S y).2.2.2) ∨ (¬ nI 0 ≤ v ∧ y.2.2.1 = (ySt D N c g d P S y).2.2.1 ∧ y.2.2.2 + nI 1 = (ySt D N c g d P S y).2.2.2)) ∧ XS 19 (ySt D N c g d P S y).1 P (j_up J 19 0 (J 19 0 + nI 1)) ∧ J n 0 = (ySt D N c g d P S y).2.1 ∧ Fr (tV ρ.1.1) I J ∧ ∀ b, 24 ≤ b → b ≤ 90 → J b = I b := by
  have wQ' := wQ
  obtain ⟨w1, w2, w3, w4, w5⟩ := wQ
  have hA := hQ.1.1
  have hW10 := w2.1
  have tv : ∀ {k : Nat}, tV ρ.1.1 n k = true := by
    intro k
    have e : Nat.ble 161 n = true := Nat.ble_eq_true_of_le (by omega)
    have e1 : Nat.blt n 103 = false := by
      cases e : Nat.blt n 103 with
      | false => rfl
      | true => rw [Nat.blt_eq] at e; omega
    have e2 : Nat.blt n 119 = false := by
      cases e : Nat.blt n 119 with
      | false => rfl
      | true => rw [Nat.blt_eq] at e; omega
    have e3 : Nat.blt n 129 = false := by
      cases e : Nat.blt n 129 with
      | false => rfl
      | true => rw [Nat.blt_eq] at e; omega
    unfold tV tY tX
    rw [e1, e2, e3, e]
    rfl
  have hx : ∀ r, XQ c g d P S ρ (j_up I n 0 r) := fun r => XQ_V (Fr.up Fr.rf tv) hQ
  have e1 : f_X1_below 5000 n (nI P) (hp q ρ L I) = some (nI (yT D N P y), hp q ρ L (j_up I n 0 (D y.2.1))) := hB I P _ hr hP (by omega)
  have e2 : f_X1_below 5000 n (nI 4) (hp q ρ L (j_up I n 0 (D y.2.1))) = some (nI (yK D N y), hp q ρ L (j_up I n 0 (D (D y.2.1)))) := by
    have := hB (j_up I n 0 (D y.2.1)) 4 _ up_eq (by omega) (by omega)
    rw [up_up] at this
    exact this
  have ht : yT D N P y < P := hN _ _ hP
  have h4 : yK D N y < 4 := hN _ _ (by omega)
  have hpl := (hWS _ ht).1
  have hpu := (hWS _ ht).2
  have hC2 : ∀ r, XS 19 y.1 P (j_up I n 0 r) := fun r => XS_k (fun i _ => up_ne (by omega)) hC
  have i18 := hQ.2.2.2.1
  have i17 := hQ.2.2.2.2
  have i5 := hQ.2.1.1
  by_cases h2 : yK D N y < 2
  · rw [show ySt D N c g d P S y = yGo y.1 (yT D N P y) (goP S (scP y.1 (yT D N P y)) (1 - yK D N y)) (D (D y.2.1)) y.2.2.1 y.2.2.2 from if_pos h2]
    have hw2 : 1 - yK D N y < 2 := by omega
    cases hg : goP S (scP y.1 (yT D N P y)) (1 - yK D N y) with
    | some p =>
      rw [yGo_1]
      have hp' := goP_in hpl hg
      have e3 := x_move1 (q := q) (ρ := ρ) (L := L) (I := j_up I n 0 (D (D y.2.1))) (hC2 _) (by rw [up_ne (by omega)]; exact i18) (by rw [up_ne (by omega)]; exact i17) w4 w5 ht hw2 hpl hg
      refine ⟨nI 0, j_up (j_up I n 0 (D (D y.2.1))) 20 (yT D N P y) (nI p), ?_, .inl ⟨le00, add_0 _, rfl⟩, ?_, ?_, Fr.up (Fr.up Fr.rf tv) (by rcases hA with e | e <;> rw [e] <;> rfl), fun b h1 h2 => by rw [up_ne (by omega), up_ne (by omega)]⟩
      · have jm : j_min (nI p) (nI 0) = nI 0 := by rw [jmin_nn (by omega) (by omega), Nat.min_zero]
        simp (disch := first | omega | assumption) only [f_X10_drawnAct, ↓bX, ↓bXA, ↓jn_, ↓ob_, ↓b2_, ↓reduceIte, nn_lt, nn_le, nn_eq, nI_add, pk_mul, nn_su, gn_lt, gn_le, ng_lt, ng_le, ng_eq, gn_eq, gg_eq, n_m1, n_cl, if_true, if_false, if_pos, if_neg, lt0, i18, ↓b2e e1, ↓b2e e2, ↓b2e e3, jm]
      · have := XS_hr (d := nI 1) (XS_mv (t := yT D N P y) (p := p) (hC2 (D (D y.2.1))))
        have e4 : j_up (j_up I n 0 (D (D y.2.1))) 20 (yT D N P y) (nI p) 19 0 = scH y.1 := by rw [up_ne (by omega), up_ne (by omega)]; exact hC.1.1
        rw [e4]
        exact this
      · rw [up_ne (by omega), up_eq]
    | none =>
      rw [yGo_0]
      have e3 := x_move0 (q := q) (ρ := ρ) (L := L) (I := j_up I n 0 (D (D y.2.1))) (hC2 _) (by rw [up_ne (by omega)]; exact i18) (by rw [up_ne (by omega)]; exact i17) w4 w5 ht hw2 hpl hg
      refine ⟨-nI 2, j_up I n 0 (D (D y.2.1)), ?_, .inr ⟨nle2, rfl, rfl⟩, ?_, up_eq, Fr.up Fr.rf tv, fun b h1 h2 => by rw [up_ne (by omega)]⟩
      · have jm : j_min (-nI 2) (nI 0) = -nI 2 := by decide
        simp (disch := first | omega | assumption) only [f_X10_drawnAct, ↓bX, ↓bXA, ↓jn_, ↓ob_, ↓b2_, ↓reduceIte, nn_lt, nn_le, nn_eq, nI_add, pk_mul, nn_su, gn_lt, gn_le, ng_lt, ng_le, ng_eq, gn_eq, gg_eq, n_m1, n_cl, if_true, if_false, if_pos, if_neg, lt0, i18, ↓b2e e1, ↓b2e e2, ↓b2e e3, jm]
      · have e4 : j_up I n 0 (D (D y.2.1)) 19 0 = scH y.1 := by rw [up_ne (by omega)]; exact hC.1.1
        rw [e4]
        exact XS_hr (hC2 _)
  · rw [show ySt D N c g d P S y = ySay c g d y.1 (yT D N P y) (yW D N g y) (D (D (D y.2.1))) y.2.2.1 y.2.2.2 from if_neg h2]
    unfold ySay
    have e3 : f_X1_below 5000 n (nI (lxW g)) (hp q ρ L (j_up I n 0 (D (D y.2.1)))) = some (nI (yW D N g y), hp q ρ L (j_up I n 0 (D (D (D y.2.1))))) := by
      have := hB (j_up I n 0 (D (D y.2.1))) (lxW g) _ up_eq hW (by omega)
      rw [up_up] at this
      exact this
    have hw : yW D N g y < lxW g := hN _ _ hW
    have i5' : j_up I n 0 (D (D y.2.1)) 5 0 = nI (lxW g) := by rw [up_ne (by omega)]; exact i5
    by_cases hle : spT c g y.1 (yT D N P y) (yW D N g y) ≤ scU y.1 (yT D N P y)
    · rw [if_pos hle]
      have h594 : spT c g y.1 (yT D N P y) (yW D N g y) ≤ 594 := tol_le w2 hw
      obtain ⟨K, f1, f2, f3, f4, f5⟩ := x_speak1 (q := q) (L := L) (hx (D (D (D y.2.1)))) wQ' (hC2 _) hWS ht hw hle
      have z : ∀ b, b < 119 → tT ρ.1.1 b := fun b hb => by unfold tT; omega
      refine ⟨nI (spT c g y.1 (yT D N P y) (yW D N g y)), K, ?_, .inl ⟨by rw [nn_le (by omega) (by omega)]; omega, rfl, rfl⟩, ?_, ?_, Fr.tr (Fr.up Fr.rf tv) (Fr_sp hA f4 f5), fun b h1 h2 => by rw [f4 b (z b (by omega)) (by omega) (by omega), up_ne (by omega)]⟩
      · simp (disch := first | omega | assumption) only [f_X10_drawnAct, ↓bX, ↓bXA, ↓jn_, ↓ob_, ↓b2_, ↓reduceIte, nn_lt, nn_le, nn_eq, nI_add, pk_mul, nn_su, gn_lt, gn_le, ng_lt, ng_le, ng_eq, gn_eq, gg_eq, n_m1, n_cl, if_true, if_false, if_pos, if_neg, lt0, i18, ↓b2e e1, ↓b2e e2, i5', ↓b2e e3, ↓b2e f1]
      · rw [f2.1.1]
        exact XS_hr f2
      · rw [f4 n (by unfold tT; omega) (by omega) (by omega), up_eq]
    · rw [if_neg hle]
      obtain ⟨K, f1, f2⟩ := x_speak0 (q := q) (L := L) (hx (D (D (D y.2.1)))) wQ' (hC2 _) ht hw hpu hle
      have z : ∀ b, b < 119 → K b = j_up I n 0 (D (D (D y.2.1))) b := fun b hb => f2 b (by unfold tT; omega)
      have hC3 : XS 19 y.1 P K := XS_k (fun i hi => z _ (by omega)) (hC2 _)
      refine ⟨-nI 2, K, ?_, .inr ⟨nle2, rfl, rfl⟩, ?_, ?_, Fr.tr (Fr.up Fr.rf tv) (Fr_sp0 hA f2), fun b h1 h2 => by rw [z b (by omega), up_ne (by omega)]⟩
      · simp (disch := first | omega | assumption) only [f_X10_drawnAct, ↓bX, ↓bXA, ↓jn_, ↓ob_, ↓b2_, ↓reduceIte, nn_lt, nn_le, nn_eq, nI_add, pk_mul, nn_su, gn_lt, gn_le, ng_lt, ng_le, ng_eq, gn_eq, gg_eq, n_m1, n_cl, if_true, if_false, if_pos, if_neg, lt0, i18, ↓b2e e1, ↓b2e e2, i5', ↓b2e e3, ↓b2e f1]
      · rw [hC3.1.1]
        exact XS_hr hC3
      · rw [f2 n (by unfold tT; omega), up_eq]
theorem x_yearsL {q : pQ} {ρ : pP} {L : pL} {I : pI} {D : Int32 → Int32} {N : Int32 → Nat → Nat} {c : List Int32} {g : gL} {d : gD} {P S n m : Nat} {y : gY} {U : gU} {C0 : gC} (hN : ∀ r n, 0 < n → N r n < n) (hB : ∀ (I : pI) m r, I n 0 = r → 0 < m → m < 100000 → f_X1_below 5000 n (nI m) (hp q ρ L I) = some (nI (N (D r) m), hp q ρ L (j_up I n 0 (D r)))) (hn : 162 ≤ n) (hq : q.2 n = (1, 0)) (hQ : XQ c g d P S ρ I) (wQ : WQ c g d P S) (hP : 0 < P) (hW : 0 < lxW g) (hC : XS 19 y.1 P I) (hWS : WS y.1 P S) (hr : I n 0 = y.2.1) (hV : XV U C0 P I) (hm : m ≤ 60) (h1 : y.2.2.1 = nI 0) (h2 : y.2.2.2 = nI 0) {x4 : Int32} {kk : Int32 → Int32 → jH → Option (Int32 × jH)} :
    ∃ J, f_X10_years_L74 5000 0 (nI m) n x4 kk 5000 (nI 0) (nI 0) (nI 0) (hp q ρ L I) = kk (yN D N c g d P S y m).2.2.1 (yN D N c g d P S y m).2.2.2 (hp q ρ L J) ∧ XS 19 (yN D N c g d P S y m).1 P J ∧ XV U C0 P J ∧ Fr (tV ρ.1.1) I J := by
  have hA := hQ.1.1
  obtain ⟨⟨p, f, J⟩, e1, e2, e3, e4, e5, e6, e7, e8⟩ := loE (fun k (z : Int32 × Int32 × pI) j => f_X10_years_L74 5000 0 (nI m) n x4 kk k z.1 z.2.1 (nI j) (hp q ρ L z.2.2)) (fun z => kk z.1 z.2.1 (hp q ρ L z.2.2)) m (fun j z => z.1 = (yN D N c g d P S y j).2.2.1 ∧ z.2.1 = (yN D N c g d P S y j).2.2.2 ∧ XS 19 (yN D N c g d P S y j).1 P z.2.2 ∧ WS (yN D N c g d P S y j).1 P S ∧ z.2.2 n 0 = (yN D N c g d P S y j).2.1 ∧ XV U C0 P z.2.2 ∧ Fr (tV ρ.1.1) I z.2.2) (by
    rintro k ⟨p, f, J⟩ _
    simp only []
    rw [f_X10_years_L74]
    simp (disch := first | omega | assumption) only [↓bX, ↓bXA, ↓jn_, ↓ob_, ↓b2_, ↓reduceIte, nn_lt, nn_le, nn_eq, nI_add, pk_mul, nn_su, gn_lt, gn_le, ng_lt, ng_le, ng_eq, gn_eq, gg_eq, n_m1, n_cl, if_true, if_false, if_pos, if_neg, lt0, Nat.le_refl]) (by
    rintro k ⟨p, f, J⟩ j hj ⟨p1, p2, p3, p4, p5, p6, p7⟩
    simp only [] at p1 p2 p3 p4 p5 p6 p7
    obtain ⟨v, K, f1, hv, f2, f3, f4, f5⟩ := x_drawn (q := q) (L := L) hN hB hn hq (XQ_V p7 hQ) wQ hP hW p3 p4 p5
    have fr : Fr (tV ρ.1.1) I (j_up K 19 0 (K 19 0 + nI 1)) := Fr.up (Fr.tr p7 f4) (by rcases hA with e | e <;> rw [e] <;> rfl)
    have fv : XV U C0 P (j_up K 19 0 (K 19 0 + nI 1)) := XV_k (fun b h1 h2 => by rw [up_ne (by omega), f5 b h1 h2]) p6
    rcases hv with ⟨v1, v2, v3⟩ | ⟨v1, v2, v3⟩
    · refine ⟨((ySt D N c g d P S (yN D N c g d P S y j)).2.2.1, (ySt D N c g d P S (yN D N c g d P S y j)).2.2.2, j_up K 19 0 (K 19 0 + nI 1)), ?_, ?_⟩
      · simp only []
        rw [f_X10_years_L74, ← v2, ← v3, p1, p2]
        simp (disch := first | omega | assumption) only [↓bX, ↓bXA, ↓jn_, ↓ob_, ↓b2_, ↓reduceIte, nn_lt, nn_le, nn_eq, nI_add, pk_mul, nn_su, gn_lt, gn_le, ng_lt, ng_le, ng_eq, gn_eq, gg_eq, n_m1, n_cl, if_true, if_false, if_pos, if_neg, lt0, ↓b2e f1, v1]
      · rw [yN_s]
        refine ⟨rfl, rfl, f2, WS_y hN hP p4, ?_, fv, fr⟩
        show j_up K 19 0 (K 19 0 + nI 1) n 0 = _
        rw [up_ne (by omega)]
        exact f3
    · refine ⟨((ySt D N c g d P S (yN D N c g d P S y j)).2.2.1, (ySt D N c g d P S (yN D N c g d P S y j)).2.2.2, j_up K 19 0 (K 19 0 + nI 1)), ?_, ?_⟩
      · simp only []
        rw [f_X10_years_L74, ← v2, ← v3, p1, p2]
        simp (disch := first | omega | assumption) only [↓bX, ↓bXA, ↓jn_, ↓ob_, ↓b2_, ↓reduceIte, nn_lt, nn_le, nn_eq, nI_add, pk_mul, nn_su, gn_lt, gn_le, ng_lt, ng_le, ng_eq, gn_eq, gg_eq, n_m1, n_cl, if_true, if_false, if_pos, if_neg, lt0, ↓b2e f1, v1]
      · rw [yN_s]
        refine ⟨rfl, rfl, f2, WS_y hN hP p4, ?_, fv, fr⟩
        show j_up K 19 0 (K 19 0 + nI 1) n 0 = _
        rw [up_ne (by omega)]
        exact f3) m 5000 (nI 0, nI 0, I) 0 (by omega) (by omega) ⟨h1.symm, h2.symm, hC, hWS, hr, hV, Fr.rf⟩
  simp only [] at e1 e2 e3 e4 e5 e6 e7 e8
  exact ⟨J, by rw [e1, e2, e3], e4, e7, e8⟩
