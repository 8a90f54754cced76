/-! JOURNEY -/
theorem Ac_O {I J : pI} (h : Fr tAc I J) : Fr tO I J := fun b k e => by
  refine h b k ?_
  cases e2 : tAc b k with
  | false => rfl
  | true =>
    exfalso
    unfold tAc at e2
    rw [Bool.or_eq_true, Bool.or_eq_true, Bool.and_eq_true, Bool.or_eq_true] at e2
    rcases e2 with e2 | e2 | ⟨e2, e3⟩
    · have := tTo_N (I := fun _ _ => 0) (J := fun b' k' => if b' = b ∧ k' = k then 1 else 0) (fun b' k' e' => by
        by_cases g : b' = b ∧ k' = k
        · obtain ⟨rfl, rfl⟩ := g
          rw [e2] at e'
          cases e'
        · simp only [if_neg g]) b k (by
        unfold tO at e
        rw [Bool.or_eq_false_iff] at e
        exact e.1)
      simp at this
    · rw [Nat.eq_of_beq_eq_true e2] at e
      have : tO 130 k = true := by unfold tO; rw [show Nat.beq 130 130 = true from rfl, Bool.true_or, Bool.true_or, Bool.or_true]
      rw [this] at e
      cases e
    · rw [Nat.eq_of_beq_eq_true e2] at e
      rcases e3 with e3 | e3
      · rw [Nat.eq_of_beq_eq_true e3] at e; cases e
      · rw [Nat.eq_of_beq_eq_true e3] at e; cases e
theorem ac_fr {A : Nat} {I J : pI} {f : Nat → Nat} {n T k p : Nat} {x : Int32} (h : acX (j_up I 1 3 x) f n T k J) : Fr (tY A) (j_up I 1 1 (nI 0)) (j_up (ap J p) 1 1 (nI 0)) ∧ ∀ b, b ≠ 1 → b ≠ 114 → j_up (ap J p) 1 1 (nI 0) b = I b := by
  have row : ∀ b, b ≠ 114 → j_up (ap J p) 1 1 (nI 0) b = j_up (ap (j_up I 1 3 x) p) 1 1 (nI 0) b := fun b hb => up_row (up_row (h.2.2.2 b hb))
  refine ⟨Fr.tr (x_op (x := x) (p := p)) (fun b k hb => ?_), fun b b1 b2 => by rw [row b b2, up_ne b1, ap_ne b1, up_ne b1]⟩
  rw [row b (fun e => by rw [e] at hb; cases hb)]
theorem k_journey : ∀ G, Wr G → ∃ v G', Wr G' ∧ XH (f_X10_journey 5000 0) G v G' ∧ MH (f_X11_journey 5000 129) G v G' := by
  intro G hG
  have hG' := hG
  have wQ := WQ_of hG
  obtain ⟨w1, w2, w3, w4, w5, w6, w7, w8, w9⟩ := hG
  have h80 := w1.1
  have hP4 := w4.1
  have hGt : Wr (sRw (sTx G oTx) (gRw G)) := ⟨WT_0, w2, w3, w4, w5, w6, w7, w8, w9⟩
  obtain ⟨T, hTe⟩ : ∃ T, T = (gTx G).1 := ⟨_, rfl⟩
  obtain ⟨f, hfe⟩ : ∃ f, f = (gTx G).2 := ⟨_, rfl⟩
  obtain ⟨n, hne⟩ : ∃ n, n = min T 60 := ⟨_, rfl⟩
  rw [← hTe] at h80
  have hrd : ∀ p, p ≤ n → (ard f n p).2 ≤ n := fun p hpn => ard_le hpn
  obtain ⟨R, hRe⟩ : ∃ R, R = lns f n T (ard f n) 21 0 0 := ⟨_, rfl⟩
  have lin := lns_in (f := f) (T := T) hrd 21 0 (Nat.zero_le n) (fun j hj => absurd hj (Nat.not_lt_zero j))
  rw [lnP, ← hRe] at lin
  obtain ⟨lin1, lin2, lin3, lin4⟩ := lin
  have hx1 : T ≠ 0 → ∀ q ρ L I, Xr G ρ L I → ∃ J, f_X10_readLines 5000 0 (nI 3) (nI 60) (nI 0) (nI 21) (hp q ρ L I) = some (if R.1 = true then nI R.2.1 else -nI (1 + R.2.2), hp q ρ L (j_up (ap J R.2.2) 1 1 (nI 0))) ∧ acX (j_up I 1 3 (nI n)) f n T R.2.1 J := by
    rintro hT0 q ρ L I ⟨⟨hT, hL, hD, hP, hS, hU, hK, hR, hρ⟩, hW⟩
    have e11 := hT.1
    rw [← hTe] at e11
    have rd0 := Rd_of (m := 60) hT w1 (by omega)
    rw [← hTe, ← hfe, ← hne] at rd0
    have := x_rl1 (q := q) (ρ := ρ) (L := L) (m := 60) (kd := 3) (c0 := 0) (cap := 21) (rd := ard f n) (Inv := acX (j_up I 1 3 (nI n)) f n T) e11 (by omega) (by omega) (by omega) (by omega) hrd (fun k J h => ⟨h.1, h.2.1⟩) (fun k J hk h hn => x_acL hk h hn) (by
      rw [← hne]
      exact ⟨rd0, by rw [up_nk (by omega)]; exact e11, fun j hj => absurd hj (Nat.not_lt_zero j), fun b _ => rfl⟩)
    rw [← hRe] at this
    exact this
  have hm1 : T ≠ 0 → ∀ t q ρ L I ks, Ms t G ρ I → (R.1 = true → ∃ J, f_X11_journey_L26 5000 129 (mKK ks) 5000 (nI 0) (nI 1) (hp q (rr ρ (some 135)) L (mp (bgn (j_up I 129 13 (nI 0)) T 60) 0 (-nI 1))) = ks (nI R.2.1) (hp q (rr ρ (some 135)) L (mp J T (-nI 1))) ∧ acM (bgn (j_up I 129 13 (nI 0)) T 60) (rr ρ (some 135)) f n T R.2.1 J) ∧ (R.1 = false → ∃ J p w k, f_X11_journey_L26 5000 129 (mKK ks) 5000 (nI 0) (nI 1) (hp q (rr ρ (some 135)) L (mp (bgn (j_up I 129 13 (nI 0)) T 60) 0 (-nI 1))) = some (-nI (1 + R.2.2), hp q (rr ρ (some 135)) L (mp J p w)) ∧ acM (bgn (j_up I 129 13 (nI 0)) T 60) (rr ρ (some 135)) f n T k J) := by
    intro hT0 t q ρ L I ks hM
    obtain ⟨hT, hL, hD, hP, hS, hU, hK, hR⟩ := Ms_0 (x := nI 0) hM
    have rd0 := RdM_of (ρ := ρ) (m := 60) hT w1 (by omega)
    rw [← hTe, ← hfe, ← hne] at rd0
    have := m_lns (q := q) (ρ := rr ρ (some 135)) (L := L) (f := f) (n := n) (T := T) (cap := 21) (rd := ard f n) (Inv := acM (bgn (j_up I 129 13 (nI 0)) T 60) (rr ρ (some 135)) f n T) (lp := f_X11_journey_L26 5000 129 (mKK ks)) (body := acB) (ks := ks) (by omega) (by omega) hrd acB_lp (fun k J h => ⟨h.1, h.2.1⟩) (fun k J hk h hn => m_acB hk h hn (by omega)) (fun J kk h hn => m_acC h hn (by omega) kk) 21 0 5000 (bgn (j_up I 129 13 (nI 0)) T 60) (by omega) (by omega) ⟨rd0, bgn_15, fun j hj => absurd hj (Nat.not_lt_zero j), fun b _ => rfl⟩ (Nat.zero_le n)
    rw [lnP, ← hRe] at this
    exact this
  have mfr : ∀ (I J : pI) (p : Nat) (w : Int32), (∀ b, b ≠ 146 → J b = bgn (j_up I 129 13 (nI 0)) T 60 b) → Fr tN (j_up I 129 10 (nI 0)) (mp J p w) := fun I J p w h => by
    refine Fr.mp_ (Fr.tr (bgn_fr (T := T) (m := 60)) (fun b k e => ?_)) rfl rfl
    rw [h b (fun h => by rw [h] at e; cases e)]
  by_cases hok : T = 0 ∨ R.1 = true
  case neg =>
    have hT0 : T ≠ 0 := fun h => hok (.inl h)
    have hRf : R.1 = false := by
      cases h : R.1 with
      | false => rfl
      | true => exact absurd (.inr h) hok
    refine ⟨-nI (1 + R.2.2), sRw (sTx G oTx) (gRw G), hGt, XH_x _ ?_, MH_x _ ?_⟩
    · intro q ρ L I hX
      obtain ⟨J, j1, j2⟩ := hx1 hT0 q ρ L I hX
      rw [hRf, if_neg (by decide)] at j1
      obtain ⟨a1, a2⟩ := ac_fr (A := ρ.1.1) (p := R.2.2) j2
      refine ⟨ρ, L, _, ?_, a1, ⟨rfl, rfl, hX.1.2.2.2.2.2.2.2.2⟩, rfl, ?_⟩
      · simp (disch := first | omega | assumption) only [f_X10_journey, ↓bX, lt0, ↓b2e j1, ng_le, if_false]
      · have hW := hX.2
        unfold XW at hW ⊢
        rw [a2 3 (by omega) (by omega)]
        exact hW
    · rintro t q ρ L I ⟨hM, hW⟩
      obtain ⟨J, p, w, k, j1, j2⟩ := (hm1 hT0 t q ρ L I jKS hM).2 hRf
      have e10 := (Ms_0 (x := nI 0) hM).1.1
      rw [← hTe] at e10
      have e := m_begin (q := q) (ρ := ρ) (L := L) (m := 60) e10
      refine ⟨rr ρ (some 135), L, mp J p w, ?_, mfr I J p w j2.2.2.2, ⟨rfl, rfl, rfl⟩, rfl, ?_⟩
      · rw [jK_eq]
        simp (disch := first | omega | assumption) only [↓bM, ↓oe e, mp_nk, bgn_15, nn_le, if_neg, if_false]
        exact j1
      · unfold MW at hW ⊢
        rw [mp_nk (by omega) (by omega), j2.2.2.2 129 (by omega), bgn_k (by omega) (by omega) (by omega), up_nk (by omega)]
        exact hW
  case pos =>
    obtain ⟨A, hAe⟩ : ∃ A : Nat → Nat × Nat × Nat, A = fun j => aKd f n (lnP (ard f n) j) := ⟨_, rfl⟩
    obtain ⟨K, hKe⟩ : ∃ K, K = if T = 0 then 0 else R.2.1 := ⟨_, rfl⟩
    have hK21 : K ≤ 21 := by
      rw [hKe]
      split
      · omega
      · omega
    have hAok : ∀ j, j < K → aOk (A j) := fun j hj => by
      rw [hAe]
      refine aKd_t (lin1 j ?_).1
      rw [hKe] at hj
      split at hj
      · omega
      · exact hj
    have hx : ∀ q ρ L I, Xr G ρ L I → ∃ J, f_X10_readLines 5000 0 (nI 3) (nI 60) (nI 0) (nI 21) (hp q ρ L I) = some (nI K, hp q ρ L J) ∧ Fr (tY ρ.1.1) (j_up I 1 1 (nI 0)) J ∧ ∀ j, j < K → J 114 j = nI (aX (A j)) := by
      intro q ρ L I hX
      by_cases hT0 : T = 0
      · have e11 := hX.1.1.1
        rw [← hTe, hT0] at e11
        rw [if_pos hT0] at hKe
        rw [hKe]
        exact ⟨_, x_rl0 (q := q) (ρ := ρ) (L := L) (kd := 3) (m := 60) (c0 := 0) (C := 21) e11 (by omega), x_op, fun j hj => absurd hj (Nat.not_lt_zero j)⟩
      · have hRt : R.1 = true := hok.resolve_left hT0
        obtain ⟨J, j1, j2⟩ := hx1 hT0 q ρ L I hX
        rw [if_neg hT0] at hKe
        rw [hRt, if_pos rfl, ← hKe] at j1
        rw [← hKe] at j2
        refine ⟨_, j1, (ac_fr (p := R.2.2) j2).1, fun j hj => ?_⟩
        rw [up_ne (by omega), ap_ne (by omega), hAe]
        exact j2.2.2.1 j hj
    have hm : ∀ t q ρ L I, Ms t G ρ I → ∃ J, (if nI T ≤ nI 0 then
        f_X11_journey_L26 5000 129 (mKK jKS) 5000 (nI 0) (nI 0) (hp q (rr ρ (some 135)) L (mp (bgn (j_up I 129 13 (nI 0)) T 60) 0 (-nI 1)))
      else
        f_X11_journey_L26 5000 129 (mKK jKS) 5000 (nI 0) (nI 1) (hp q (rr ρ (some 135)) L (mp (bgn (j_up I 129 13 (nI 0)) T 60) 0 (-nI 1)))) = jKS (nI K) (hp q (rr ρ (some 135)) L J) ∧ Fr tN (j_up I 129 10 (nI 0)) J ∧ ∀ j, j < K → J 146 (3 * j) = nI (aM (A j).1) ∧ J 146 (3 * j + 1) = nI (A j).2.1 ∧ ((A j).1 = 4 → J 146 (3 * j + 2) = nI (A j).2.2) := by
      intro t q ρ L I hM
      by_cases hT0 : T = 0
      · rw [if_pos (by rw [hT0, nn_le (by omega) (by omega)]; omega)]
        rw [if_pos hT0] at hKe
        rw [hKe]
        refine ⟨mp (bgn (j_up I 129 13 (nI 0)) T 60) 0 (-nI 1), ?_, mfr I _ 0 (-nI 1) (fun b _ => rfl), fun j hj => absurd hj (Nat.not_lt_zero j)⟩
        have rt := m_right (q := q) (ρ := rr ρ (some 135)) (L := L) (I := bgn (j_up I 129 13 (nI 0)) T 60) (p := 0) bgn_15 h80 (by omega)
        rw [if_pos (by omega)] at rt
        rw [acB_lp 4999, if_pos rfl, mKK, rt, b2, if_neg (by decide)]
      · have hRt : R.1 = true := hok.resolve_left hT0
        rw [if_neg (by rw [nn_le (by omega) (by omega)]; omega)]
        obtain ⟨J, j1, j2⟩ := (hm1 hT0 t q ρ L I jKS hM).1 hRt
        rw [if_neg hT0] at hKe
        rw [← hKe] at j1 j2
        refine ⟨_, j1, mfr I J T (-nI 1) j2.2.2.2, fun j hj => ?_⟩
        rw [mp_ne (by omega), hAe]
        exact (j2.2.2.1 j hj).2
    obtain ⟨Z, hZ⟩ : ∃ Z, Z = jrn (cmp (gRu G)) (gLx G) (gDu G) (gP G) (gS G) A K 0 (gN G) (nI 0) := ⟨_, rfl⟩
    obtain ⟨z1, z2, z3⟩ := jrn_in (c := cmp (gRu G)) (d := gDu G) (A := A) w2 K 0 (gN G) (nI 0) w5
    rw [← hZ] at z1 z2 z3
    obtain ⟨U', hU'⟩ : ∃ U', U' = if Z.1 = 0 then gUn G else puU (gUn G) (gN G) := ⟨_, rfl⟩
    have wU' : WU U' (gP G) (gS G) := by
      rw [hU']
      split
      · exact w6
      · exact WU_pu w6 w5
    refine ⟨nI Z.1, sRw (sUn (sN (sTx G oTx) Z.2.1) U') (jRow Z.1 K Z.2.2), ⟨WT_0, w2, w3, w4, z3, wU', w7, by show 2 ≤ 12; omega, w9⟩, ?_, ?_⟩
    · intro q ρ L I hq hX
      obtain ⟨J, j1, j2, j3⟩ := hx q ρ L I hX
      have hXs := Xs_fr (G := sTx G oTx) (ρ' := ρ) j2 rfl hX.1.2.2.2.2.2.2.2.2 (Xs_tx (f := fun _ => 0) hX.1)
      have hXs' := hXs
      obtain ⟨hT, hL, hD, hP, hS, hU, hK, hR, hρ⟩ := hXs
      have hA := (XR_Tf hR).1
      obtain ⟨J1, a1, a2, a3⟩ := x_mark (q := q) (ρ := ρ) (L := L) hP4 hU w6 hS
      have f1 : Fr (tV ρ.1.1) J J1 := Fr_26 (fun a ha => a3 a (by omega))
      have hQ1 := XQ_V f1 (XQ_of hXs')
      have hS1 : XS 19 (gN G) (gP G) J1 := XS_k (fun i hi => a3 _ (by omega)) hS
      obtain ⟨s, hs⟩ : ∃ s : Int64, s = if Z.1 < K then 1 else 0 := ⟨_, rfl⟩
      obtain ⟨J2, b1, b2, b3⟩ := x_jrn (q := q) (L := L) wQ hK21 hAok (kk := fun (y14 : Int32) (y15 : Int32) (y16 : Int32) (h17 : jH) =>
        j_jn (fun (h18 : jH) =>
          (jg_R 10 1 h18 0).bind (fun v19 =>
          j_jn (fun (s20 : Int64) (s21 : Nat) (h22 : jH) =>
            (f_X6_tell_ 5000 s21 s20 (y14.toInt64) h22).bind (fun h23 =>
            some (y15, h23))) (fun J104 =>
            if y16 = nI 0 then
              J104 0 v19 h18
            else
              J104 1 v19 h18))) (fun J90 =>
          if y15 ≤ nI 0 then
            J90 h17
          else
            (jg_R 10 5 h17 0).bind (fun v24 =>
            (f_X4_confirm 5000 v24 h17).bind (fun h25 =>
            J90 h25)))) K 0 5000 (gN G) (nI 0) J1 (by omega) (by omega) hQ1 hS1 w5 (fun j hj => by rw [a3 114 (by omega)]; exact j3 j hj)
      rw [← hZ] at b1 b2
      have hV2 : XV (gUn G) (gN G) (gP G) J2 := XV_k (fun b h1 h2 => b3.2 b (by omega) (by omega) (by omega)) a2
      have tl : ∀ J3 : pI, ((jg_R 10 1 (hp q ρ L J3) 0).bind (fun v19 =>
          j_jn (fun (s20 : Int64) (s21 : Nat) (h22 : jH) =>
            (f_X6_tell_ 5000 s21 s20 (Z.2.2.toInt64) h22).bind (fun h23 =>
            some (nI Z.1, h23))) (fun J104 =>
            if (if Z.1 < K then nI 1 else nI 0) = nI 0 then
              J104 0 v19 (hp q ρ L J3)
            else
              J104 1 v19 (hp q ρ L J3)))) = some (nI Z.1, hp q ρ (j_up (j_up L 4 0 s) 4 1 Z.2.2.toInt64) (j_up J3 3 1 (nI 2))) := fun J3 => by
        by_cases e : Z.1 < K
        · rw [if_pos e] at hs
          simp (disch := first | omega | assumption) only [↓bX, jn_, if_pos e, nn_eq, if_neg, if_false, hs, ↓oe (x_tell2 (q := q) (ρ := ρ) (L := L) (I := J3))]
        · rw [if_neg e] at hs
          simp (disch := first | omega | assumption) only [↓bX, jn_, if_neg e, if_true, hs, ↓oe (x_tell2 (q := q) (ρ := ρ) (L := L) (I := J3))]
      have fin : ∃ J3, f_X10_journey 5000 0 (hp q ρ L I) = some (nI Z.1, hp q ρ (j_up (j_up L 4 0 s) 4 1 Z.2.2.toInt64) (j_up J3 3 1 (nI 2))) ∧ XU U' (gP G) J3 ∧ ∀ a, a ≠ 24 → J3 a = J2 a := by
        by_cases h0 : Z.1 = 0
        · refine ⟨J2, ?_, by rw [hU', if_pos h0]; exact XV_U hV2, fun _ _ => rfl⟩
          simp (disch := first | omega | assumption) only [f_X10_journey, ↓bX, lt0, ↓b2e j1, nn_le, if_pos, Nat.zero_le, if_true, ↓oe a1]
          refine b1.trans ?_
          rw [jn_, if_pos (by rw [nn_le (by omega) (by omega)]; omega)]
          exact tl J2
        · obtain ⟨J3, c1, c2, c3⟩ := x_confirm (q := q) (ρ := ρ) (L := L) w6 hV2
          refine ⟨J3, ?_, by rw [hU', if_neg h0]; exact c2, c3⟩
          simp (disch := first | omega | assumption) only [f_X10_journey, ↓bX, lt0, ↓b2e j1, nn_le, if_pos, Nat.zero_le, if_true, ↓oe a1]
          refine b1.trans ?_
          rw [jn_, if_neg (by rw [nn_le (by omega) (by omega)]; omega)]
          simp (disch := first | omega | assumption) only [↓bX, ↓oe c1]
          exact tl J3
      obtain ⟨J3, c1, c2, c3⟩ := fin
      have f3 : Fr (tV ρ.1.1) J (j_up J3 3 1 (nI 2)) := Fr.up (Fr.tr (Fr.tr f1 b3.1) (Fr_26 (fun a ha => c3 a (by omega)))) (by rcases hA with e | e <;> rw [e] <;> rfl)
      have hfin := Xs_sc (G := sTx G oTx) (C := Z.2.1) (U := U') f3 (XS_k (fun i hi => by rw [up_ne (by omega), c3 _ (by omega)]) b2) (XU_k (fun b h1 h2 => up_ne (by omega)) c2) hXs'
      refine ⟨q, ρ, _, _, c1, ⟨hfin, ?_⟩, ⟨rfl, by rw [up_ne (by omega), up_ne (by omega)], fun b h1 h2 => funext (fun k => by rw [f3 b k (tV_m h1 h2), j2 b k (tY_m h1 h2), up_ne (by omega)])⟩, Nat.le_refl _, Nat.le_succ _, Nat.le_add_right _ _⟩
      show XW (jRow Z.1 K Z.2.2) _ _
      unfold jRow
      rw [← hs]
      exact XW_2
    · rintro t q ρ L I ht ⟨hM, hW⟩
      obtain ⟨J, j1, j2, j3⟩ := hm t q ρ L I hM
      have hMx := Ms_tx (f := fun _ => 0) hM
      have hM1 := Ms_fr (G := sTx G oTx) (ρ' := ρ) j2 rfl hMx
      have hQ1 := MQ_of hM1
      obtain ⟨-, -, -, hP1, hS1, hU1, -, -⟩ := hM1
      have e10 := (Ms_0 (x := nI 0) hM).1.1
      rw [← hTe] at e10
      have e := m_begin (q := q) (ρ := ρ) (L := L) (m := 60) e10
      obtain ⟨J1, a1, a2, a3, a4⟩ := m_lay (q := q) (ρ := rr ρ (some 135)) (L := L) (I := J) (a := 130) (b := 145) (n := 44) (o := 0) rfl rfl rfl rfl (by omega) (by omega) (by omega)
      have hs145 : MS 145 0 (gN G) (gP G) J1 := MS_lay (o' := 0) hP4 (fun k hk => by rw [a2 k hk, Nat.zero_add]) hS1
      obtain ⟨J2, hJ2⟩ : ∃ J2, J2 = j_up J1 129 33 (nI 0) := ⟨_, rfl⟩
      have r2 : ∀ b, b ≠ 129 → b ≠ 145 → J2 b = J b := fun b b1 b2 => by rw [hJ2, up_ne b1, a4 b b2]
      have k2 : ∀ k, k ≠ 33 → J2 129 k = J 129 k := fun k hk => by rw [hJ2, up_nk hk, a4 129 (by omega)]
      have f2 : Fr tN J J2 := fun b k hb => by
        by_cases b1 : b = 129
        · subst b1
          exact k2 k (fun h => by rw [h] at hb; cases hb)
        · rw [r2 b b1 (fun h => by rw [h] at hb; cases hb)]
      have hQ2 : MQ_ (gRu G) (gLx G) (gDu G) (gP G) (gS G) (rr ρ ρ.2.2.1) J2 := MQ_N (z := ρ.2.2.1) f2 hQ1
      obtain ⟨J3, z, b1, b2, b3, b4⟩ := m_jrn (q := q) (L := L) w9 wQ hK21 hAok (kk := jKE (nI K)) K 0 5000 (gN G) (nI 0) J2 (some 135) (by omega) (by omega) hQ2 (MS_k (r2 130 (by omega) (by omega)) hS1) w5 (by rw [hJ2, up_eq]) (fun j hj => by rw [r2 146 (by omega) (by omega)]; exact j3 j hj)
      rw [← hZ] at b1 b2 b3
      have b1' : f_X11_journey_L90 5000 129 (nI K) (jKE (nI K)) 5000 (nI 0) (hp q (rr ρ (some 135)) L J2) = jKE (nI K) (nI Z.1) (hp q (rr ρ z) L J3) := b1
      have mu3 : MU (gUn G) (gP G) J3 := MU_k (by rw [b4 129 29 rfl, k2 29 (by omega)]) (by rw [b4.row 144 (fun k => rfl), r2 144 (by omega) (by omega)]) hU1
      have s3 : MS 145 0 (gN G) (gP G) J3 := MS_k (by rw [b4.row 145 (fun k => rfl), hJ2, up_ne (by omega)]) hs145
      obtain ⟨L', J4, c1, c2, c3, c4, c5, c6⟩ := m_jE (q := q) (ρ := rr ρ z) (L := L) (D := Z.1) hK21 (by omega) mu3 w6 hP4 s3 b2 b3
      rw [← hU'] at c2
      have f4 : Fr tO (j_up I 129 10 (nI 0)) J4 := Fr.tr (Fr.tr (Fr_O (Fr.tr j2 f2)) (Ac_O b4)) c5
      refine ⟨rr ρ z, L', J4, ?_, ⟨Ms_sc (G := sTx G oTx) (ρ' := rr ρ z) f4 rfl c3 c2 hMx, c4⟩, ⟨rfl, rfl⟩, c6 4 (by omega), fun b hb => funext (fun k => by rw [f4 b k (tO_x hb), up_ne (by omega)])⟩
      rw [jK_eq]
      simp (disch := first | omega | assumption) only [↓bM, ↓oe e, mp_nk, bgn_15]
      refine j1.trans ?_
      unfold jKS
      simp (disch := first | omega | assumption) only [↓bM, ↓oe a1]
      rw [← hJ2]
      exact b1'.trans c1
