/-! SAY -/
theorem XQ_of {G : gG} {ρ : pP} {I : pI} (h : Xs G ρ I) : XQ (cmp (gRu G)) (gLx G) (gDu G) (gP G) (gS G) ρ I := by
  obtain ⟨hT, hL, hD, hP, hS, hU, hK, hR, hρ⟩ := h
  exact ⟨XR_Tf hR, hL, hD, hP.1, hP.2⟩
theorem WQ_of {G : gG} (h : Wr G) : WQ (cmp (gRu G)) (gLx G) (gDu G) (gP G) (gS G) := by
  obtain ⟨w1, w2, w3, w4, w5, w6, w7, w8, w9⟩ := h
  exact ⟨cmp_cok w9, w2, w3, w4.1, w4.2.2⟩
theorem MQ_of {t : Nat} {G : gG} {ρ : pP} {I : pI} (h : Ms t G ρ I) : MQ_ (gRu G) (gLx G) (gDu G) (gP G) (gS G) ρ I := by
  obtain ⟨hT, hL, hD, hP, hS, hU, hK, hR⟩ := h
  exact ⟨MR_Ru hR, hL, hD, hP.1, hP.2⟩
theorem XQ_V {c : List Int32} {g : gL} {d : gD} {P S : Nat} {ρ : pP} {I J : pI} (h : Fr (tV ρ.1.1) I J) (g0 : XQ c g d P S ρ I) : XQ c g d P S ρ J := by
  have hA := g0.1.1
  refine XQ_k (h 0 18 rfl) (h 0 17 rfl) (fun b h1 h2 => ?_) (fun b h1 h2 => ?_) ?_ ?_ g0
  · have : b = 5 ∨ b = 6 ∨ b = 7 ∨ b = 8 ∨ b = 9 ∨ b = 10 ∨ b = 11 := by omega
    rcases this with rfl | rfl | rfl | rfl | rfl | rfl | rfl <;> exact h.row _ (fun k => rfl)
  · have : b = 13 ∨ b = 14 ∨ b = 15 ∨ b = 16 ∨ b = 17 := by omega
    rcases this with rfl | rfl | rfl | rfl | rfl <;> exact h.row _ (fun k => rfl)
  · rcases hA with e | e <;> rw [e] at h ⊢ <;> exact h _ _ rfl
  · rcases hA with e | e <;> rw [e] at h ⊢ <;> exact h.row _ (fun k => rfl)
theorem Fr_sp {A : Nat} {I J : pI} (hA : A = 119 ∨ A = 124) (e : ∀ b, tT A b → b ≠ 0 → (b < 19 ∨ 23 < b) → J b = I b) (e2 : ∀ k, k ≠ 19 → J 0 k = I 0 k) : Fr (tV A) I J := fun b k h => by
  by_cases h0 : b = 0
  · subst h0
    by_cases hk : k = 19
    · subst hk; cases h
    · exact e2 k hk
  · by_cases h1 : b < 19 ∨ 23 < b
    · by_cases g : tT A b
      · rw [e b g h0 h1]
      · exfalso
        unfold tT at g
        have : b = A + 1 ∨ b = A + 3 ∨ b = A + 4 := by omega
        rcases hA with rfl | rfl
        · rcases this with rfl | rfl | rfl <;> cases h
        · rcases this with rfl | rfl | rfl <;> cases h
    · exfalso
      unfold tV at h
      rw [Nat.ble_eq_true_of_le (show 19 ≤ b by omega), Nat.ble_eq_true_of_le (show b ≤ 90 by omega)] at h
      simp at h
theorem Fr_sp0 {A : Nat} {I J : pI} (hA : A = 119 ∨ A = 124) (e : ∀ b, tT A b → J b = I b) : Fr (tV A) I J := Fr_sp hA (fun b h _ _ => e b h) (fun k _ => by rw [e 0 (by unfold tT; omega)])
theorem k_say (a b : Int32) : ∀ G, Wr G → ∃ v G', Wr G' ∧ XH (f_X10_say 5000 0 a b) G v G' ∧ MH (f_X11_say 5000 129 a b) G v G' := by
  intro G hG
  have hG' := hG
  have wQ := WQ_of hG
  obtain ⟨w1, w2, w3, w4, w5, w6, w7, w8, w9⟩ := hG
  have hW10 := w2.1
  have xm : ∀ q ρ L I, Xr G ρ L I → ∃ J, f_X4_mark 5000 24 19 (hp q ρ L I) = some (hp q ρ L J) ∧ XV (gUn G) (gN G) (gP G) J ∧ ∀ a, a < 26 ∨ 90 < a → J a = I a := by
    rintro q ρ L I ⟨⟨hT, hL, hD, hP, hS, hU, hK, hR, hρ⟩, hW⟩
    exact x_mark w4.1 hU w6 hS
  rcases ixo a (gP G) (by omega) with h | ⟨t, ht, rfl⟩
  · refine ⟨-nI 1, G, hG', XH_n ?_, MH_0 ?_⟩
    · intro q ρ L I hX
      obtain ⟨J, e1, e2, e3⟩ := xm q ρ L I hX
      obtain ⟨⟨hT, hL, hD, hP, hS, hU, hK, hR, hρ⟩, hW⟩ := hX
      refine ⟨J, ?_, Fr_26 (fun a ha => e3 a (by omega)), by rw [e3 3 (by omega)], XS_k (fun i hi => e3 _ (by omega)) hS, XV_U e2⟩
      simp (disch := first | omega | assumption) only [f_X10_say, ↓bX, ↓bXA, ↓jn_, ↓ob_, ↓b2_, ↓reduceIte, nn_lt, nn_le, nn_eq, nI_add, pk_mul, nn_su, gn_lt, gn_le, ng_lt, ng_le, ng_eq, gn_eq, gg_eq, n_m1, n_cl, if_true, if_false, if_pos, if_neg, lt0, ↓oe e1, f_X10_speak, ↓b2e (x_isT0 (q := q) (ρ := ρ) (L := L) (I := J) (by rw [e3 0 (by omega)]; exact hP.1) h)]
    · rintro t q ρ L I ⟨⟨hT, hL, hD, hP, hS, hU, hK, hR⟩, hW⟩
      simp (disch := first | omega | assumption) only [f_X11_say, f_X11_refusesSay, ↓bM, ↓bMA, ↓jn_, ↓ob_, ↓b2_, ↓reduceIte, nn_lt, nn_le, nn_eq, nI_add, pk_mul, nn_su, gn_lt, gn_le, ng_lt, ng_le, ng_eq, gn_eq, gg_eq, n_m1, n_cl, if_true, if_false, if_pos, if_neg, lt0, ↓b2e (m_isT0 (q := q) (ρ := ρ) (L := L) (I := j_up I 129 13 (nI 0)) (by rw [up_nk (by omega)]; exact hP.1) (by omega) h)]
  rcases ixo b (lxW (gLx G)) (by omega) with h | ⟨w, hw, rfl⟩
  · refine ⟨-nI 1, G, hG', XH_n ?_, MH_0 ?_⟩
    · intro q ρ L I hX
      obtain ⟨J, e1, e2, e3⟩ := xm q ρ L I hX
      obtain ⟨⟨hT, hL, hD, hP, hS, hU, hK, hR, hρ⟩, hW⟩ := hX
      refine ⟨J, ?_, Fr_26 (fun a ha => e3 a (by omega)), by rw [e3 3 (by omega)], XS_k (fun i hi => e3 _ (by omega)) hS, XV_U e2⟩
      simp (disch := first | omega | assumption) only [f_X10_say, ↓bX, ↓bXA, ↓jn_, ↓ob_, ↓b2_, ↓reduceIte, nn_lt, nn_le, nn_eq, nI_add, pk_mul, nn_su, gn_lt, gn_le, ng_lt, ng_le, ng_eq, gn_eq, gg_eq, n_m1, n_cl, if_true, if_false, if_pos, if_neg, lt0, ↓oe e1, f_X10_speak, ↓b2e (x_isT1 (q := q) (ρ := ρ) (L := L) (I := J) (by rw [e3 0 (by omega)]; exact hP.1) (by omega) ht), ↓b2e (x_isW0 (q := q) (ρ := ρ) (L := L) (I := J) (by rw [e3 5 (by omega)]; exact hL.1) h)]
    · rintro t' q ρ L I ⟨⟨hT, hL, hD, hP, hS, hU, hK, hR⟩, hW⟩
      simp (disch := first | omega | assumption) only [f_X11_say, f_X11_refusesSay, ↓bM, ↓bMA, ↓jn_, ↓ob_, ↓b2_, ↓reduceIte, nn_lt, nn_le, nn_eq, nI_add, pk_mul, nn_su, gn_lt, gn_le, ng_lt, ng_le, ng_eq, gn_eq, gg_eq, n_m1, n_cl, if_true, if_false, if_pos, if_neg, lt0, ↓b2e (m_isT1 (q := q) (ρ := ρ) (L := L) (I := j_up I 129 13 (nI 0)) (by rw [up_nk (by omega)]; exact hP.1) (by omega) ht), ↓b2e (m_isW0 (q := q) (ρ := ρ) (L := L) (I := j_up I 129 13 (nI 0)) (by rw [up_nk (by omega)]; exact hL.1) (by omega) h)]
  have hpu := (w5 t ht).2
  by_cases hle : spT (cmp (gRu G)) (gLx G) (gN G) t w ≤ scU (gN G) t
  · have h594 : spT (cmp (gRu G)) (gLx G) (gN G) t w ≤ 594 := tol_le w2 hw
    refine ⟨nI (spT (cmp (gRu G)) (gLx G) (gN G) t w), sRw (sUn (sN G (spC (cmp (gRu G)) (gLx G) (gDu G) (gN G) t w)) (puU (gUn G) (gN G))) (1, fun _ => (spM (gDu G) (gLx G) (gN G) t w).toInt64), ⟨w1, w2, w3, w4, WS_sp w5 ht, WU_pu w6 w5, w7, by simp only []; omega, w9⟩, XH_s _ _ _ ?_, MH_s _ _ _ ?_⟩
    · intro q ρ L I hX
      obtain ⟨J, e1, e2, e3⟩ := xm q ρ L I hX
      have hQ := XQ_V (Fr_26 (fun a ha => e3 a (by omega))) (XQ_of hX.1)
      obtain ⟨⟨hT, hL, hD, hP, hS, hU, hK, hR, hρ⟩, hW⟩ := hX
      have hS' : XS 19 (gN G) (gP G) J := XS_k (fun i hi => e3 _ (by omega)) hS
      obtain ⟨K, f1, f2, f3, f4, f5⟩ := x_speak1 (q := q) (L := L) hQ wQ hS' w5 ht hw hle
      have hA := hQ.1.1
      have z : ∀ b, b < 119 → tT ρ.1.1 b := fun b hb => by unfold tT; omega
      obtain ⟨N, g1, g2, g3⟩ := x_confirm (q := q) (ρ := ρ) (L := L) w6 (XV_k (fun b _ _ => f4 b (z b (by omega)) (by omega) (by omega)) e2)
      have n19 : N 0 19 = spM (gDu G) (gLx G) (gN G) t w := by rw [g3 0 (by omega)]; exact f3
      have hF : Fr (tV ρ.1.1) I N := Fr.tr (Fr.tr (Fr_26 (fun a ha => e3 a (by omega))) (Fr_sp hA f4 f5)) (Fr_26 (fun a ha => g3 a (by omega)))
      refine ⟨j_up L 4 0 (spM (gDu G) (gLx G) (gN G) t w).toInt64, j_up N 3 1 (nI 1), ?_, Fr.up hF (by rcases hA with e | e <;> rw [e] <;> rfl), up_ne (by omega), XW_1, XS_k (fun i hi => by rw [up_ne (by omega), g3 _ (by omega)]) f2, XU_k (fun b _ _ => up_ne (by omega)) g2⟩
      simp (disch := first | omega | assumption) only [f_X10_say, ↓bX, ↓bXA, ↓jn_, ↓ob_, ↓b2_, ↓reduceIte, nn_lt, nn_le, nn_eq, nI_add, pk_mul, nn_su, gn_lt, gn_le, ng_lt, ng_le, ng_eq, gn_eq, gg_eq, n_m1, n_cl, if_true, if_false, if_pos, if_neg, lt0, ↓oe e1, ↓b2e f1, ↓oe g1, n19, ↓oe (x_tell1 (q := q) (ρ := ρ) (L := L) (I := N))]
    · rintro t' q ρ L I ⟨hM, hW⟩
      have hM0 := Ms_0 (x := nI 0) hM
      obtain ⟨J, z, e1, e3⟩ := m_refSay (q := q) (L := L) (a := 130) (.inl rfl) (MQ_of hM0) w9 wQ hM0.2.2.2.2.1 ht hw hpu
      rw [if_pos hle] at e1
      have hQ2 := MQ_k (z := z) (.inl rfl) (Fr_Go (a := 130) e3) (MQ_of hM0)
      obtain ⟨hT, hL, hD, hP, hS, hU, hK, hR⟩ := hM0
      obtain ⟨K, f1, f2, f3⟩ := m_remember (q := q) (ρ := rr ρ z) (L := L) (I := J) (a := 130) (U := gUn G) (C := gN G) (.inl rfl) (MU_k (e3 129 29 rfl) (e3.row 144 (fun k => rfl)) hU) w6 w4.1 (MS_k (e3.row 130 (fun k => rfl)) hS)
      have hQ3 : MQ_ (gRu G) (gLx G) (gDu G) (gP G) (gS G) (rr ρ z) K := by
        obtain ⟨⟨r1, r2, r3, r4⟩, g2, g3, g4, g5⟩ := hQ2
        exact ⟨⟨r1, r2, by rw [f3 129 24 rfl]; exact r3, fun k hk => by rw [f3.row 140 (fun k => rfl)]; exact r4 k hk⟩, ML_k (f3 129 2 rfl) (f3.row 131 (fun k => rfl)) (f3.row 132 (fun k => rfl)) (f3.row 133 (fun k => rfl)) g2, MD_k (f3 129 7 rfl) (f3.row 134 (fun k => rfl)) g3, by rw [f3 129 6 rfl]; exact g4, by rw [f3 129 1 rfl]; exact g5⟩
      have hS3 : MS 130 0 (gN G) (gP G) K := MS_k (by rw [f3.row 130 (fun k => rfl), e3.row 130 (fun k => rfl)]) hS
      obtain ⟨N, z2, g1, g2, g3, g4⟩ := m_goSay (q := q) (L := L) (a := 130) (.inl rfl) hQ3 w9 wQ hS3 w5 ht hw hle
      have n31 : j_up N 129 12 (nI 0) 129 31 = spM (gDu G) (gLx G) (gN G) t w := by rw [up_nk (by omega)]; exact g3
      refine ⟨rr ρ z2, j_up L 136 0 (spM (gDu G) (gLx G) (gN G) t w).toInt64, j_up N 129 12 (nI 1), ?_, ?_, ⟨rfl, rfl, rfl⟩, up_ne (by omega), MW_1, MS_k (up_ne (by omega)) g2, MU_k (by rw [up_nk (by omega), g4 129 29 rfl]) (by rw [up_ne (by omega), g4.row 144 (fun k => rfl)]) f2⟩
      · simp (disch := first | omega | assumption) only [f_X11_say, ↓bM, ↓bMA, ↓jn_, ↓ob_, ↓b2_, ↓reduceIte, nn_lt, nn_le, nn_eq, nI_add, pk_mul, nn_su, gn_lt, gn_le, ng_lt, ng_le, ng_eq, gn_eq, gg_eq, n_m1, n_cl, if_true, if_false, if_pos, if_neg, lt0, ↓b2e e1, Nat.le_refl, ↓oe f1, ↓b2e g1, n31, ↓oe (m_tell (q := q) (ρ := rr (rr ρ z) z2) (L := L) (I := N) (r := 0) (v := (spM (gDu G) (gLx G) (gN G) t w).toInt64) (by omega))]
        rfl
      · have x1 : Fr tO I (j_up I 129 13 (nI 0)) := Fr.up Fr.rf rfl
        have x2 : Fr tO K N := g4.mo (fun b k e => by
          unfold tGo at e
          rw [Bool.or_eq_true, Bool.or_eq_true, Bool.and_eq_true] at e
          rcases e with e | e | ⟨e, e'⟩
          · have y := tTo_N (I := fun b k => if tTo b k = true then 0 else 1) (J := fun _ _ => 1) (fun b k h => by simp [h])
            unfold tO
            cases hN : tN b k with
            | true => rfl
            | false =>
              have := y b k hN
              simp [e] at this
          · unfold tO; rw [e]; simp
          · have e1 := Nat.eq_of_beq_eq_true e
            have e2 := Nat.eq_of_beq_eq_true e'
            subst e1 e2
            rfl)
        exact Fr.up (Fr.tr (Fr.tr (Fr.tr x1 (Fr_O (tTo_N e3))) (Fr_R f3)) x2) rfl
  · refine ⟨-nI 2, G, hG', XH_n ?_, ?_⟩
    · intro q ρ L I hX
      obtain ⟨J, e1, e2, e3⟩ := xm q ρ L I hX
      have hQ := XQ_V (Fr_26 (fun a ha => e3 a (by omega))) (XQ_of hX.1)
      obtain ⟨⟨hT, hL, hD, hP, hS, hU, hK, hR, hρ⟩, hW⟩ := hX
      have hS' : XS 19 (gN G) (gP G) J := XS_k (fun i hi => e3 _ (by omega)) hS
      obtain ⟨K, f1, f2⟩ := x_speak0 (q := q) (L := L) hQ wQ hS' ht hw hpu hle
      have hA := hQ.1.1
      have z : ∀ b, b < 119 → K b = J b := fun b hb => f2 b (by unfold tT; omega)
      refine ⟨K, ?_, Fr.tr (Fr_26 (fun a ha => e3 a (by omega))) (Fr_sp0 hA f2), by rw [z 3 (by omega), e3 3 (by omega)], XS_k (fun i hi => z _ (by omega)) hS', XU_k (fun b _ _ => z b (by omega)) (XV_U e2)⟩
      simp (disch := first | omega | assumption) only [f_X10_say, ↓bX, ↓bXA, ↓jn_, ↓ob_, ↓b2_, ↓reduceIte, nn_lt, nn_le, nn_eq, nI_add, pk_mul, nn_su, gn_lt, gn_le, ng_lt, ng_le, ng_eq, gn_eq, gg_eq, n_m1, n_cl, if_true, if_false, if_pos, if_neg, lt0, ↓oe e1, ↓b2e f1]
    · refine MH_q (G := G) (gRw G) ?_
      rintro t' q ρ L I ⟨hM, hW⟩
      have hM0 := Ms_0 (x := nI 0) hM
      obtain ⟨J, z, e1, e3⟩ := m_refSay (q := q) (L := L) (a := 130) (.inl rfl) (MQ_of hM0) w9 wQ hM0.2.2.2.2.1 ht hw hpu
      rw [if_neg hle] at e1
      refine ⟨rr ρ z, L, J, ?_, Fr.tr (Fr.up Fr.rf rfl) (tTo_N e3), ⟨rfl, rfl, rfl⟩, rfl, ?_⟩
      · simp (disch := first | omega | assumption) only [f_X11_say, ↓bM, ↓bMA, ↓jn_, ↓ob_, ↓b2_, ↓reduceIte, nn_lt, nn_le, nn_eq, nI_add, pk_mul, nn_su, gn_lt, gn_le, ng_lt, ng_le, ng_eq, gn_eq, gg_eq, n_m1, n_cl, if_true, if_false, if_pos, if_neg, lt0, ↓b2e e1]
      · unfold MW at hW ⊢
        rw [e3 129 12 rfl, up_nk (by omega)]
        exact hW
