/-! TRIP: the reference by hours -/
def FH (f : Option (Nat × Nat)) (J : pI) : Prop := (f = none → J 129 40 = -nI 1) ∧ ∀ h y, f = some (h, y) → J 129 40 = nI h ∧ J 129 41 = nI y
theorem m_hoursL {q : pQ} {ρ : pP} {L : pL} {I : pI} {r : gT} {g : gL} {d : gD} {P S pl t H : Nat} {hr dn : Int32} (hQ : MQ_ r g d P S ρ I) (hwr : WR r) (wQ : WQ (cmp r) g d P S) (h12 : I 130 12 = hr) (ht : t < 1000) (hpl : pl < S) (hH : H ≤ 12) : ∀ n k N (J : pI) z0, k + n = H + 1 → n < N → Fr tTp I J → MXr (oW d dn t) S (hPre (oW d dn t) (fun w s => bW d g t w s) (fun k w s => tol (cmp r) g w s (hr + nI k)) (lxW g) S pl k) J → J 129 42 = eo (tHc (cmp r) g d S pl t hr dn k).2.1 → FH (tHc (cmp r) g d S pl t hr dn k).2.2 J → ∃ J' z, f_X11_leastTrip_L77 5000 129 (nI t) (nI H) N (nI (om (tHc (cmp r) g d S pl t hr dn k).1 100000000)) (nI k) (hp q (rr ρ z0) L J) = some (nI (om (tHc (cmp r) g d S pl t hr dn (H + 1)).1 100000000), hp q (rr ρ z) L J') ∧ J' 129 42 = eo (tHc (cmp r) g d S pl t hr dn (H + 1)).2.1 ∧ FH (tHc (cmp r) g d S pl t hr dn (H + 1)).2.2 J' ∧ Fr tTp I J'
  | _, _, 0, _, _, _, h, _, _, _, _ => absurd h (Nat.not_lt_zero _)
  | 0, k, N + 1, J, z0, h1, h2, hF, hC, h42, hFH => by
    have : k = H + 1 := by omega
    subst this
    refine ⟨J, z0, ?_, h42, hFH, hF⟩
    rw [f_X11_leastTrip_L77, if_pos (by rw [nn_lt (by omega) (by omega)]; omega)]
  | n + 1, k, N + 1, J, z0, h1, h2, hF, hC, h42, hFH => by
    have hS := wQ.2.2.2.2
    have hE := wQ.2.2.1.1
    have hO := (oW_e (d := d) (dn := dn) (t := t) hE).2
    have hPb : ∀ k w s, w < lxW g → (fun k w s => tol (cmp r) g w s (hr + nI k)) k w s ≤ 594 := fun k w s hw => tol_le wQ.2.1 hw
    have wk : ∃ J1, MXr (oW d dn t) S (hWk (oW d dn t) (fun w s => bW d g t w s) (fun k w s => tol (cmp r) g w s (hr + nI k)) (lxW g) S pl k) J1 ∧ (∀ c, c ≠ 151 → c ≠ 152 → J1 c = J c) ∧ (k = 0 → J1 = J) ∧ (k ≠ 0 → f_X11_move 5000 129 (hp q (rr ρ z0) L J) = some (hp q (rr ρ z0) L J1)) := by
      cases k with
      | zero => exact ⟨J, hC, fun _ _ _ => rfl, fun _ => rfl, fun h => absurd rfl h⟩
      | succ k =>
        obtain ⟨J1, a1, a2, a3⟩ := m_move (q := q) (ρ := rr ρ z0) (L := L) hO hS (hV_G hPb hpl k) (by rw [hF 129 1 rfl]; exact hQ.2.2.2.2) hC
        exact ⟨J1, a2, a3, fun h => (by cases h), fun _ => a1⟩
    obtain ⟨J1, c1, c2, c3, c4⟩ := wk
    have f1 : Fr tTp I J1 := Fr.tr hF (fun b k e => by rw [c2 b (fun g => by rw [g] at e; cases e) (fun g => by rw [g] at e; cases e)])
    obtain ⟨J2, z2, a1, a2, a3, a4, a5, a6⟩ := m_sayA (q := q) (L := L) (k := k) (t := t) hQ hwr wQ h12 ht (hWk_G hPb hpl k) S 0 5000 J1 z0 (by omega) (by omega) f1 c1
    have ehv := hV_w (O := oW d dn t) (B := fun w s => bW d g t w s) (P := fun k w s => tol (cmp r) g w s (hr + nI k)) (W := lxW g) (S := S) (pl := pl) (k := k)
    rw [← ehv] at a2
    have sp : f_X11_speak 5000 129 (nI t) (nI k) (hp q (rr ρ z0) L J1) = some (hp q (rr ρ z2) L J2) := by
      simp (disch := first | omega | assumption) only [f_X11_speak, ↓bM, lt0]
      exact a1
    obtain ⟨e, hee⟩ : ∃ e, e = bsV (oW d dn t) S (hV (oW d dn t) (fun w s => bW d g t w s) (fun k w s => tol (cmp r) g w s (hr + nI k)) (lxW g) S pl k) := ⟨_, rfl⟩
    obtain ⟨x, hxe⟩ : ∃ x, x = tHc (cmp r) g d S pl t hr dn k := ⟨_, rfl⟩
    have es : tHc (cmp r) g d S pl t hr dn (k + 1) = tS e k x := by rw [hee, hxe]; exact tH_s
    have ok := tHc_ok (c := cmp r) (d := d) (t := t) (hr := hr) (dn := dn) wQ.2.1 hpl k
    have ok2 := tHc_ok (c := cmp r) (d := d) (t := t) (hr := hr) (dn := dn) wQ.2.1 hpl (k + 1)
    rw [es] at ok2
    rw [← hxe] at ok h42 hFH ⊢
    have hb : ∀ c, x.1 = some c → c ≤ 594 * oW d dn t := fun y hy => by
      rcases ok with o | ⟨b, h, k', c', o, h1, h2, h3, h4⟩
      · rw [o] at hy; cases hy
      · rw [o] at hy; cases hy; exact h1
    have hb' : ∀ c, (tS e k x).1 = some c → c ≤ 594 * oW d dn t := fun y hy => by
      rcases ok2 with o | ⟨b, h, k', c', o, h1, h2, h3, h4⟩
      · rw [o] at hy; cases hy
      · rw [o] at hy; cases hy; exact h1
    have k1 : ∀ i, J1 129 i = J 129 i := fun i => by rw [c2 129 (by omega) (by omega)]
    obtain ⟨J3, b1, b2, b3, b4⟩ := m_best (q := q) (ρ := rr ρ z2) (L := L) (b := x.1) (h := x.2.1) (x1 := nI t) (x2 := nI H) hO hS (hV_G hPb hpl k) hb (by omega) (kk := fun (y22 : Int32) (h23 : jH) =>
          (jg_I 11 40 h23 129).bind (fun v24 =>
            if v24 = -nI 1 then
              if nI 100000000 ≤ y22 then
                f_X11_leastTrip_L77 5000 129 (nI t) (nI H) N y22 (nI (k + 1)) h23
              else
                (jp_I 11 40 h23 129 (nI k)).bind (fun h26 =>
                (jp_I 11 41 h26 129 y22).bind (fun h27 =>
                f_X11_leastTrip_L77 5000 129 (nI t) (nI H) N y22 (nI (k + 1)) h27))
            else
              f_X11_leastTrip_L77 5000 129 (nI t) (nI H) N y22 (nI (k + 1)) h23)) S 0 5000 J2 (by omega) (by omega) (by rw [a3 129 1 rfl]; exact hQ.2.2.2.2) a2 (by
        show _ = eo x.2.1
        rw [a6, k1, h42])
    have b1' := b1
    rw [show fo (fun s a => omin a (hV (oW d dn t) (fun w s => bW d g t w s) (fun k w s => tol (cmp r) g w s (hr + nI k)) (lxW g) S pl k s (oW d dn t))) 0 0 none = none from rfl, omin_n, ← hee, omin_lt, show (bif olt e x.1 then e else x.1) = (tS e k x).1 from rfl] at b1'
    rw [← hee] at b2
    have j40 : J3 129 40 = J 129 40 := by rw [b3 40 (by omega), a4, k1]
    have j41 : J3 129 41 = J 129 41 := by rw [b3 41 (by omega), a5, k1]
    have f3 : Fr tTp I J3 := Fr.tr a3 (fun b k e => by
      by_cases g : b = 129
      · subst g
        exact b3 k (fun g => by rw [g] at e; cases e)
      · rw [b4 b g])
    have j42 : J3 129 42 = eo (tS e k x).2.1 := b2
    have c3' : MXr (oW d dn t) S (hPre (oW d dn t) (fun w s => bW d g t w s) (fun k w s => tol (cmp r) g w s (hr + nI k)) (lxW g) S pl (k + 1)) J3 := fun s Z d1 d2 => by rw [b4 151 (by omega)]; exact a2 s Z d1 d2
    have o1 : om (tS e k x).1 100000000 ≤ 100000000 := by
      cases hh : (tS e k x).1 with
      | none => exact Nat.le_refl _
      | some c =>
        have := hb' c hh
        show c ≤ 100000000
        omega
    have fin : ∃ J4, (jg_I 11 40 (hp q (rr ρ z2) L J3) 129).bind (fun v24 =>
            if v24 = -nI 1 then
              if nI 100000000 ≤ nI (om (tS e k x).1 100000000) then
                f_X11_leastTrip_L77 5000 129 (nI t) (nI H) N (nI (om (tS e k x).1 100000000)) (nI (k + 1)) (hp q (rr ρ z2) L J3)
              else
                (jp_I 11 40 (hp q (rr ρ z2) L J3) 129 (nI k)).bind (fun h26 =>
                (jp_I 11 41 h26 129 (nI (om (tS e k x).1 100000000))).bind (fun h27 =>
                f_X11_leastTrip_L77 5000 129 (nI t) (nI H) N (nI (om (tS e k x).1 100000000)) (nI (k + 1)) h27))
            else
              f_X11_leastTrip_L77 5000 129 (nI t) (nI H) N (nI (om (tS e k x).1 100000000)) (nI (k + 1)) (hp q (rr ρ z2) L J3)) = f_X11_leastTrip_L77 5000 129 (nI t) (nI H) N (nI (om (tS e k x).1 100000000)) (nI (k + 1)) (hp q (rr ρ z2) L J4) ∧ FH (tS e k x).2.2 J4 ∧ (∀ i, i ≠ 40 → i ≠ 41 → J4 129 i = J3 129 i) ∧ ∀ c, c ≠ 129 → J4 c = J3 c := by
      cases h22 : x.2.2 with
      | some y =>
        obtain ⟨h, y⟩ := y
        have hh := hFH.2 h y h22
        have hhb : h ≤ 12 := by
          rcases ok with o | ⟨b, h', k', c', o, h1, h2, h3, h4⟩
          · rw [o] at h22; cases h22
          · rw [o] at h22
            cases h22
            omega
        have t22 : (tS e k x).2.2 = some (h, y) := by
          unfold tS
          simp only [h22]
        refine ⟨J3, ?_, ⟨fun g => (by rw [t22] at g; cases g), fun h' y' g => by rw [t22] at g; cases g; exact ⟨by rw [j40]; exact hh.1, by rw [j41]; exact hh.2⟩⟩, fun _ _ _ => rfl, fun _ _ => rfl⟩
        have e40 : J3 129 40 = nI h := by rw [j40]; exact hh.1
        simp (disch := first | omega | assumption) only [↓bM, e40, ng_eq, if_false]
      | none =>
        have e40 : J3 129 40 = -nI 1 := by rw [j40]; exact hFH.1 h22
        cases hb1 : (tS e k x).1 with
        | none =>
          have t22 : (tS e k x).2.2 = none := by
            have hb1' : (bif olt e x.1 then e else x.1) = none := hb1
            unfold tS
            simp only [h22, hb1']
          refine ⟨J3, ?_, ⟨fun _ => e40, fun h' y' g => by rw [t22] at g; cases g⟩, fun _ _ _ => rfl, fun _ _ => rfl⟩
          simp (disch := first | omega | assumption) only [↓bM, e40, if_true, om_n, nn_le, Nat.le_refl]
        | some c =>
          have hcb := hb' c hb1
          have t22 : (tS e k x).2.2 = some (k, c) := by
            have hb1' : (bif olt e x.1 then e else x.1) = some c := hb1
            unfold tS
            simp only [h22, hb1']
          refine ⟨j_up (j_up J3 129 40 (nI k)) 129 41 (nI c), ?_, ⟨fun g => (by rw [t22] at g; cases g), fun h' y' g => by rw [t22] at g; cases g; exact ⟨by rw [up_nk (by omega), up_eq], up_eq⟩⟩, fun i i1 i2 => by rw [up_nk i2, up_nk i1], fun c hc => by rw [up_ne hc, up_ne hc]⟩
          simp (disch := first | omega | assumption) only [↓bM, e40, if_true, om_s, nn_le, if_neg, if_false]
    obtain ⟨J4, d1, d2, d3, d4⟩ := fin
    have f4 : Fr tTp I J4 := Fr.tr f3 (fun b k e => by
      by_cases g : b = 129
      · subst g
        exact d3 k (fun g => by rw [g] at e; cases e) (fun g => by rw [g] at e; cases e)
      · rw [d4 b g])
    obtain ⟨J5, z5, g1, g2, g3, g4⟩ := m_hoursL (q := q) (L := L) (dn := dn) hQ hwr wQ h12 ht hpl hH n (k + 1) N J4 z2 (by omega) (by omega) f4 (fun s Z q1 q2 => by rw [d4 151 (by omega)]; exact c3' s Z q1 q2) (by rw [d3 42 (by omega) (by omega), j42, es]) (by rw [es]; exact d2)
    rw [es] at g1
    refine ⟨J5, z5, ?_, g2, g3, g4⟩
    rw [f_X11_leastTrip_L77, if_neg (by rw [nn_lt (by omega) (by omega)]; omega)]
    have tail : (f_X11_speak 5000 129 (nI t) (nI k) (hp q (rr ρ z0) L J1)).bind (fun h15 =>
        f_X11_leastTrip_L102 5000 129 (nI t) (nI H) (nI k) (fun (y22 : Int32) (h23 : jH) =>
          (jg_I 11 40 h23 129).bind (fun v24 =>
            if v24 = -nI 1 then
              if nI 100000000 ≤ y22 then
                f_X11_leastTrip_L77 5000 129 (nI t) (nI H) N y22 (nI (k + 1)) h23
              else
                (jp_I 11 40 h23 129 (nI k)).bind (fun h26 =>
                (jp_I 11 41 h26 129 y22).bind (fun h27 =>
                f_X11_leastTrip_L77 5000 129 (nI t) (nI H) N y22 (nI (k + 1)) h27))
            else
              f_X11_leastTrip_L77 5000 129 (nI t) (nI H) N y22 (nI (k + 1)) h23)) 5000 (nI (om x.1 100000000)) (nI 0) h15) = some (nI (om (tHc (cmp r) g d S pl t hr dn (H + 1)).1 100000000), hp q (rr ρ z5) L J5) := by
      rw [sp, ob]
      exact (b1'.trans d1).trans g1
    rw [← tail]
    by_cases k0 : k = 0
    · have hJ := c3 k0
      subst hJ
      simp (disch := first | omega | assumption) only [jn_, lt0, nn_le, if_pos, if_true, nI_add]
    · simp (disch := first | omega | assumption) only [jn_, lt0, nn_le, if_neg, if_false, ↓oe (c4 k0), nI_add]
theorem U_e {O : Nat} (hO : O < 256) : nI 255 &&& (nI O ^^^ -nI 1) = nI (255 - O) := by
  refine b_ext (fun i hi => ?_)
  rw [b_and, b_xor, show bt (-nI 1) i = true from b_m1 i hi, show bt (nI 255) i = decide (i < 8) from b_255 i, bt_nI hi, bt_nI hi, tb_U hO]
  cases Nat.testBit O i <;> cases decide (i < 8) <;> rfl
theorem m_fill {q : pQ} {ρ : pP} {L : pL} {I : pI} {x1 x2 x3 : Int32} {kk : jH → Option (Int32 × jH)} : ∃ J, f_X11_leastTrip_L9 5000 129 x1 x2 x3 kk 5000 (nI 0) (hp q ρ L I) = kk (hp q ρ L J) ∧ (∀ i, i < 1536 → J 151 i = nI 100000000) ∧ ∀ c, c ≠ 151 → J c = I c := by
  obtain ⟨J, e1, e2, e3⟩ := loE (fun n (z : pI) j => f_X11_leastTrip_L9 5000 129 x1 x2 x3 kk n (nI j) (hp q ρ L z)) (fun z => kk (hp q ρ L z)) 1536 (fun j z => (∀ i, i < j → z 151 i = nI 100000000) ∧ ∀ c, c ≠ 151 → z c = I c) (by
    intro n z p
    rw [f_X11_leastTrip_L9]
    simp (disch := first | omega | assumption) only [↓bM, ↓bMA, nn_le, Nat.le_refl, if_true]) (by
    rintro n z j hj ⟨p1, p2⟩
    refine ⟨j_up z 151 j (nI 100000000), ?_, fun i hi => ?_, fun c hc => by rw [up_ne hc]; exact p2 c hc⟩
    · rw [f_X11_leastTrip_L9]
      simp (disch := first | omega | assumption) only [↓bM, ↓bMA, ↓ob_, lt0, nn_le, if_neg, if_false, nI_add]
    · by_cases g : i = j
      · rw [g, up_eq]
      · rw [up_nk g]
        exact p1 i (by omega)) 1536 5000 I 0 (by omega) (by omega) ⟨fun _ h => absurd h (Nat.not_lt_zero _), fun _ _ => rfl⟩
  exact ⟨J, e1, e2, e3⟩
theorem m_least {q : pQ} {ρ : pP} {L : pL} {I : pI} {r : gT} {g : gL} {d : gD} {C : gC} {P S t H : Nat} (hQ : MQ_ r g d P S ρ I) (hwr : WR r) (wQ : WQ (cmp r) g d P S) (hC : MS 130 0 C P I) (hWS : WS C P S) (ht : t < P) (hH : H ≤ 12) : ∃ J z, f_X11_leastTrip 5000 129 (nI t) (nI H) (hp q ρ L I) = some (nI (om (tHc (cmp r) g d S (scP C t) t (scH C) (scD C) (H + 1)).1 100000000), hp q (rr ρ z) L J) ∧ J 129 42 = eo (tHc (cmp r) g d S (scP C t) t (scH C) (scD C) (H + 1)).2.1 ∧ FH (tHc (cmp r) g d S (scP C t) t (scH C) (scD C) (H + 1)).2.2 J ∧ Fr tTp I J := by
  have hE := wQ.2.2.1.1
  have hS := wQ.2.2.2.2
  have hP4 := wQ.2.2.2.1
  obtain ⟨oe1, hO⟩ := oW_e (d := d) (dn := scD C) (t := t) hE
  have hpl := (hWS t ht).1
  have h0 := (hC.2.1 t ht).1
  have h12 := hC.1.1
  have h13 := hC.1.2
  rw [Nat.zero_add] at h0 h12 h13
  have op := m_openOf (q := q) (ρ := ρ) (L := L) (t := t) (dn := scD C) hQ.2.2.1 wQ.2.2.1 (by omega) (by omega) h13
  rw [oe1] at op
  obtain ⟨J1, a1, a2, a3⟩ := m_fill (q := q) (ρ := ρ) (L := L) (I := I) (x1 := nI t) (x2 := nI H) (x3 := nI (oW d (scD C) t)) (kk := fun (h7 : jH) =>
      (jg_R 11 38 h7 129).bind (fun v8 =>
      (jg_R 11 0 h7 129).bind (fun v9 =>
      (ja_I 100 h7 v9 (nI t)).bind (fun v10 =>
      (jb_I 100 h7 v8 ((nI 256 * v10) + (nI 255 &&& (nI (oW d (scD C) t) ^^^ -nI 1))) (nI 0)).bind (fun h11 =>
      (jp_I 11 40 h11 129 (-nI 1)).bind (fun h12 =>
      (jp_I 11 42 h12 129 (-nI 1)).bind (fun h13 =>
      f_X11_leastTrip_L77 5000 129 (nI t) (nI H) 5000 (nI 100000000) (nI 0) h13)))))))
  have e0 : J1 130 t = nI (scP C t) := by rw [a3 130 (by omega)]; exact h0
  obtain ⟨J2, hJ2⟩ : ∃ J2, J2 = j_up (j_up (j_up J1 151 (256 * scP C t + (255 - oW d (scD C) t)) (nI 0)) 129 40 (-nI 1)) 129 42 (-nI 1) := ⟨_, rfl⟩
  have f2 : Fr tTp I J2 := by
    rw [hJ2]
    exact Fr.up (Fr.up (Fr.up (Tp_151 a3) rfl) rfl) rfl
  have c2 : MXr (oW d (scD C) t) S (stt (scP C t)) J2 := fun s Z d1 d2 => by
    rw [hJ2, up_ne (by omega), up_ne (by omega)]
    unfold rV stt
    by_cases g : s = scP C t ∧ Z = 255 - oW d (scD C) t
    · rw [g.1, g.2, up_eq, if_pos (Nat.le_refl _), if_pos ⟨rfl, Nat.sub_self _⟩]
      rfl
    · rw [up_nk (by omega), a2 _ (by omega)]
      by_cases hz : 255 - oW d (scD C) t ≤ Z
      · rw [if_pos hz, if_neg (by omega)]
        rfl
      · rw [if_neg hz]
        rfl
  obtain ⟨J, z, b1, b2, b3, b4⟩ := m_hoursL (q := q) (L := L) (dn := scD C) (pl := scP C t) (t := t) hQ hwr wQ h12 (by omega) hpl hH (H + 1) 0 5000 J2 ρ.2.2.1 (by omega) (by omega) f2 c2 (by rw [hJ2, up_eq]; rfl) ⟨fun _ => by rw [hJ2, up_nk (by omega), up_eq], fun h y g => by cases g⟩
  refine ⟨J, z, ?_, b2, b3, b4⟩
  rw [rr_id] at b1
  simp (disch := first | omega | assumption) only [f_X11_leastTrip, ↓bM, lt0, ↓b2e op]
  refine a1.trans ?_
  simp (disch := first | omega | assumption) only [↓bM, ↓bMA, ↓ob_, e0, U_e hO, pk_mul, nI_add]
  rw [← hJ2]
  exact b1
