/-! PAUSE -/
theorem le_out {a : Int32} {n : Nat} (hn : n < 1000000) (h : Out a (n + 1)) (h0 : ¬ a < nI 0) : ¬ a ≤ nI n := by
  rcases h with h | ⟨h1, h2⟩
  · exact absurd h h0
  · obtain ⟨i, hi, rfl⟩ := c_lt0 h1
    rw [nn_le (by omega) hi] at h2
    rw [nn_le hi (by omega)]
    omega
theorem m_inO {a : Int32} {n : Nat} (hn : n < 100000) (h : Out a (n + 1)) (H : jH) : f_X11_in 5000 a (nI 0) (nI n) H = some (nI 0, H) := by
  have := m_in0 (n := n + 1) (by omega) h H
  rw [nn_su (by omega), Nat.add_sub_cancel] at this
  exact this
theorem k_pause (a : Int32) : ∀ G, Wr G → ∃ v G', Wr G' ∧ XH (f_X10_pause 5000 0 a) G v G' ∧ MH (f_X11_pause 5000 129 a) G v G' := by
  intro G hG
  have hG' := hG
  obtain ⟨w1, w2, w3, w4, w5, w6, w7, w8, w9⟩ := hG
  rcases ixo a 100 (by omega) with h | ⟨n, hn, rfl⟩
  · refine ⟨-nI 1, G, hG', XH_0 ?_, MH_0 ?_⟩
    · intro q ρ L I hX
      by_cases h0 : a < nI 0
      · simp (disch := first | omega | assumption) only [f_X10_pause, ↓bX, ↓bXA, ↓jn_, ↓ob_, ↓b2_, ↓reduceIte, nn_lt, nn_le, nn_eq, nI_add, pk_mul, nn_su, gn_lt, gn_le, ng_lt, ng_le, ng_eq, gn_eq, gg_eq, n_m1, n_cl, if_true, if_false, if_pos, if_neg, lt0, h0]
      · have h1 := le_out (n := 99) (by omega) h h0
        simp (disch := first | omega | assumption) only [f_X10_pause, ↓bX, ↓bXA, ↓jn_, ↓ob_, ↓b2_, ↓reduceIte, nn_lt, nn_le, nn_eq, nI_add, pk_mul, nn_su, gn_lt, gn_le, ng_lt, ng_le, ng_eq, gn_eq, gg_eq, n_m1, n_cl, if_true, if_false, if_pos, if_neg, lt0, h0, h1]
    · intro t q ρ L I hM
      simp (disch := first | omega | assumption) only [f_X11_pause, ↓bM, ↓bMA, ↓jn_, ↓ob_, ↓b2_, ↓reduceIte, nn_lt, nn_le, nn_eq, nI_add, pk_mul, nn_su, gn_lt, gn_le, ng_lt, ng_le, ng_eq, gn_eq, gg_eq, n_m1, n_cl, if_true, if_false, if_pos, if_neg, lt0, m_inO (n := 99) (by omega) h]
  · by_cases h0 : n = 0
    · subst h0
      refine ⟨scH (gN G) + nI 0, sRw (sUn (sN G (hrC (gN G) (nI 0))) (gUn G)) (gRw G), ⟨w1, w2, w3, w4, WS_hr w5, w6, w7, w8, w9⟩, XH_s _ _ _ ?_, MH_s _ _ _ ?_⟩
      · rintro q ρ L I ⟨⟨hT, hL, hD, hP, hS, hU, hK, hR, hρ⟩, hW⟩
        have h19 := hS.1.1
        refine ⟨L, j_up I 19 0 (scH (gN G) + nI 0), ?_, Fr_26 (fun a ha => up_ne (by omega)), rfl, ?_, XS_hr hS, XU_k (fun b _ _ => up_ne (by omega)) hU⟩
        · simp (disch := first | omega | assumption) only [f_X10_pause, ↓bX, ↓bXA, ↓jn_, ↓ob_, ↓b2_, ↓reduceIte, nn_lt, nn_le, nn_eq, nI_add, pk_mul, nn_su, gn_lt, gn_le, ng_lt, ng_le, ng_eq, gn_eq, gg_eq, n_m1, n_cl, if_true, if_false, if_pos, if_neg, lt0, h19, up_eq, Nat.le_refl]
        · unfold XW at hW ⊢
          rw [up_ne (by omega)]
          exact hW
      · rintro t q ρ L I ⟨hM, hW⟩
        obtain ⟨hT, hL, hD, hP, hS, hU, hK, hR⟩ := Ms_0 (x := nI 0) hM
        have h12 := hS.1.1
        rw [Nat.zero_add] at h12
        refine ⟨ρ, L, j_up (j_up I 129 13 (nI 0)) 130 12 (scH (gN G) + nI 0), ?_, Fr.up (Fr.up Fr.rf rfl) rfl, ⟨rfl, rfl, rfl⟩, rfl, ?_, MS_hr w4.1 hS, MU_k (by simp (disch := first | omega | assumption) only [up_ne]) (by simp (disch := first | omega | assumption) only [up_ne]) hU⟩
        · simp (disch := first | omega | assumption) only [f_X11_pause, ↓bM, ↓bMA, ↓jn_, ↓ob_, ↓b2_, ↓reduceIte, nn_lt, nn_le, nn_eq, nI_add, pk_mul, nn_su, gn_lt, gn_le, ng_lt, ng_le, ng_eq, gn_eq, gg_eq, n_m1, n_cl, if_true, if_false, if_pos, if_neg, lt0, m_in, Nat.zero_le, and_self, Nat.le_refl, h12, up_eq]
        · unfold MW at hW ⊢
          rw [up_ne (by omega), up_nk (by omega)]
          exact hW
    · refine ⟨scH (gN G) + nI n, sRw (sUn (sN G (hrC (gN G) (nI n))) (puU (gUn G) (gN G))) (gRw G), ⟨w1, w2, w3, w4, WS_hr w5, WU_pu w6 w5, w7, w8, w9⟩, XH_s _ _ _ ?_, MH_s _ _ _ ?_⟩
      · rintro q ρ L I ⟨⟨hT, hL, hD, hP, hS, hU, hK, hR, hρ⟩, hW⟩
        obtain ⟨J, e1, e2, e3⟩ := x_mark (q := q) (ρ := ρ) (L := L) w4.1 hU w6 hS
        obtain ⟨K, f1, f2, f3⟩ := x_confirm (q := q) (ρ := ρ) (L := L) w6 e2
        have hS' : XS 19 (gN G) (gP G) K := XS_k (fun i hi => by rw [f3 _ (by omega), e3 _ (by omega)]) hS
        have h19 := hS'.1.1
        refine ⟨L, j_up K 19 0 (scH (gN G) + nI n), ?_, Fr_26 (fun a ha => by rw [up_ne (by omega), f3 a (by omega), e3 a (by omega)]), rfl, ?_, XS_hr hS', XU_k (fun b _ _ => up_ne (by omega)) f2⟩
        · simp (disch := first | omega | assumption) only [f_X10_pause, ↓bX, ↓bXA, ↓jn_, ↓ob_, ↓b2_, ↓reduceIte, nn_lt, nn_le, nn_eq, nI_add, pk_mul, nn_su, gn_lt, gn_le, ng_lt, ng_le, ng_eq, gn_eq, gg_eq, n_m1, n_cl, if_true, if_false, if_pos, if_neg, lt0, ↓oe e1, ↓oe f1, h19, up_eq]
        · unfold XW at hW ⊢
          rw [up_ne (by omega), f3 3 (by omega), e3 3 (by omega)]
          exact hW
      · rintro t q ρ L I ⟨hM, hW⟩
        obtain ⟨hT, hL, hD, hP, hS, hU, hK, hR⟩ := Ms_0 (x := nI 0) hM
        obtain ⟨J, e1, e2, e3⟩ := m_remember (q := q) (ρ := ρ) (L := L) (a := 130) (.inl rfl) hU w6 w4.1 hS
        have hS' : MS 130 0 (gN G) (gP G) J := MS_k (e3.row 130 (fun k => rfl)) hS
        have h12 := hS'.1.1
        rw [Nat.zero_add] at h12
        refine ⟨ρ, L, j_up J 130 12 (scH (gN G) + nI n), ?_, Fr.up (Fr.tr (Fr.up Fr.rf rfl) (Fr_R e3)) rfl, ⟨rfl, rfl, rfl⟩, rfl, ?_, MS_hr w4.1 hS', MU_k (by simp (disch := first | omega | assumption) only [up_ne]) (by simp (disch := first | omega | assumption) only [up_ne]) e2⟩
        · simp (disch := first | omega | assumption) only [f_X11_pause, ↓bM, ↓bMA, ↓jn_, ↓ob_, ↓b2_, ↓reduceIte, nn_lt, nn_le, nn_eq, nI_add, pk_mul, nn_su, gn_lt, gn_le, ng_lt, ng_le, ng_eq, gn_eq, gg_eq, n_m1, n_cl, if_true, if_false, if_pos, if_neg, lt0, m_in, ↓oe e1, h12, up_eq]
        · unfold MW at hW ⊢
          rw [up_ne (by omega), e3 129 12 rfl, up_nk (by omega)]
          exact hW
/-! UNDO -/
theorem m_undoL {q : pQ} {ρ : pP} {L : pL} {I : pI} {n : Nat} (hn : n < 12) (h29 : I 129 29 = nI n) {kk : jH → Option (Int32 × jH)} : ∃ J, f_X11_undo_L26 5000 129 kk 5000 (nI 0) (hp q ρ L I) = kk (hp q ρ L J) ∧ (∀ k, k < 44 → J 130 k = I 144 (44 * n + k)) ∧ ∀ c, c ≠ 130 → J c = I c := by
  obtain ⟨J, e1, e2, e3⟩ := loE (fun n (s : pI) j => f_X11_undo_L26 5000 129 kk n (nI j) (hp q ρ L s)) (fun s => kk (hp q ρ L s)) 44 (fun j s => (∀ k, k < j → s 130 k = I 144 (44 * n + k)) ∧ ∀ c, c ≠ 130 → s c = I c) (by
    intro n s p
    rw [f_X11_undo_L26]
    simp (disch := first | omega | assumption) only [↓bM, ↓bMA, ↓jn_, ↓ob_, ↓b2_, ↓reduceIte, nn_lt, nn_le, nn_eq, nI_add, pk_mul, nn_su, gn_lt, gn_le, ng_lt, ng_le, ng_eq, gn_eq, gg_eq, n_m1, n_cl, if_true, if_false, if_pos, if_neg, lt0, Nat.le_refl]) (by
    intro m s j hj p
    obtain ⟨p1, p3⟩ := p
    have e29 : s 129 29 = nI n := by rw [p3 129 (by omega)]; exact h29
    refine ⟨j_up s 130 j (s 144 (44 * n + j)), ?_, fun k hk => ?_, fun c hc => ?_⟩
    · rw [f_X11_undo_L26]
      simp (disch := first | omega | assumption) only [↓bM, ↓bMA, ↓jn_, ↓ob_, ↓b2_, ↓reduceIte, nn_lt, nn_le, nn_eq, nI_add, pk_mul, nn_su, gn_lt, gn_le, ng_lt, ng_le, ng_eq, gn_eq, gg_eq, n_m1, n_cl, if_true, if_false, if_pos, if_neg, lt0, e29]
    · by_cases h : k = j
      · subst h
        rw [up_eq, p3 _ (by omega)]
      · rw [up_nk (by omega)]
        exact p1 k (by omega)
    · rw [up_ne hc]
      exact p3 c hc) 44 5000 I 0 (by omega) (by omega) ⟨fun k hk => absurd hk (Nat.not_lt_zero k), fun c _ => rfl⟩
  exact ⟨J, e1, e2, e3⟩
theorem k_undo : ∀ G, Wr G → ∃ v G', Wr G' ∧ XH (f_X10_undo 5000 0) G v G' ∧ MH (f_X11_undo 5000 129) G v G' := by
  intro G hG
  have hG' := hG
  obtain ⟨w1, w2, w3, w4, w5, w6, w7, w8, w9⟩ := hG
  have h12 := w6.1
  by_cases h : (gUn G).1 = 0
  · refine ⟨-nI 1, G, hG', XH_0 ?_, MH_0 ?_⟩
    · rintro q ρ L I ⟨⟨hT, hL, hD, hP, hS, ⟨o, ho, h1, h2, h3⟩, hK, hR, hρ⟩, hW⟩
      rw [h] at h2
      simp (disch := first | omega | assumption) only [f_X10_undo, f_X4_takeBack, ↓bX, ↓bXA, ↓jn_, ↓ob_, ↓b2_, ↓reduceIte, nn_lt, nn_le, nn_eq, nI_add, pk_mul, nn_su, gn_lt, gn_le, ng_lt, ng_le, ng_eq, gn_eq, gg_eq, n_m1, n_cl, if_true, if_false, if_pos, if_neg, lt0, h2]
    · rintro t q ρ L I ⟨⟨hT, hL, hD, hP, hS, hU, hK, hR⟩, hW⟩
      have e29 := hU.1
      rw [h] at e29
      simp (disch := first | omega | assumption) only [f_X11_undo, ↓bM, ↓bMA, ↓jn_, ↓ob_, ↓b2_, ↓reduceIte, nn_lt, nn_le, nn_eq, nI_add, pk_mul, nn_su, gn_lt, gn_le, ng_lt, ng_le, ng_eq, gn_eq, gg_eq, n_m1, n_cl, if_true, if_false, if_pos, if_neg, lt0, up_nk, e29]
  · obtain ⟨n, hn⟩ : ∃ n, (gUn G).1 = n + 1 := ⟨(gUn G).1 - 1, by omega⟩
    refine ⟨nI n, sRw (sUn (sN G ((gUn G).2 n)) (n, (gUn G).2)) (gRw G), ⟨w1, w2, w3, w4, w6.2 n (by omega), ⟨by simp only []; omega, fun i hi => w6.2 i (by simp only [] at hi; omega)⟩, w7, w8, w9⟩, XH_s _ _ _ ?_, MH_s _ _ _ ?_⟩
    · rintro q ρ L I ⟨⟨hT, hL, hD, hP, hS, ⟨o, ho, h1, h2, h3⟩, hK, hR, hρ⟩, hW⟩
      rw [hn] at h2
      have hlt : (o + n) % 13 < 13 := Nat.mod_lt _ (by omega)
      have h1' : j_up I 24 2 (nI n) 24 1 = nI o := by rw [up_nk (by omega)]; exact h1
      obtain ⟨J, e1, e2, e3⟩ := x_copy (q := q) (ρ := ρ) (L := L) (I := j_up I 24 2 (nI n)) (b := 19) (s := 26 + 5 * ((o + n) % 13)) (.inl rfl) (.inr (.inr (.inr ⟨_, hlt, rfl⟩))) (by omega)
      have j2 : J 24 2 = nI n := by rw [e3 24 (by omega)]; exact up_eq
      refine ⟨L, J, ?_, Fr_26 (fun a ha => by rw [e3 a (by omega), up_ne (by omega)]), rfl, ?_, e2 _ _ w4.1 (XS_k (fun j hj => up_ne (by omega)) (h3 n (by omega))), ⟨o, ho, by rw [e3 24 (by omega)]; exact h1', j2, fun i hi => XS_k (fun j hj => by rw [e3 _ (by omega), up_ne (by omega)]) (h3 i (by simp only [] at hi; omega))⟩⟩
      · simp (disch := first | omega | assumption) only [f_X10_undo, f_X4_takeBack, f_X4_backToMark, ↓bX, ↓bXA, ↓jn_, ↓ob_, ↓b2_, ↓reduceIte, nn_lt, nn_le, nn_eq, nI_add, pk_mul, nn_su, gn_lt, gn_le, ng_lt, ng_le, ng_eq, gn_eq, gg_eq, n_m1, n_cl, if_true, if_false, if_pos, if_neg, lt0, h2, Nat.add_sub_cancel, up_eq, ↓b2e (x_slot (q := q) (ρ := ρ) (L := L) (k := n) h1' ho (by omega)), ↓oe (x_scene (q := q) (ρ := ρ) (L := L) (I := j_up I 24 2 (nI n)) hlt), ↓oe e1, j2]
      · unfold XW at hW ⊢
        rw [e3 3 (by omega), up_ne (by omega)]
        exact hW
    · rintro t q ρ L I ⟨hM, hW⟩
      obtain ⟨hT, hL, hD, hP, hS, hU, hK, hR⟩ := Ms_0 (x := nI 0) hM
      have e29 := hU.1
      rw [hn] at e29
      obtain ⟨J, e1, e2, e3⟩ := m_undoL (q := q) (ρ := ρ) (L := L) (n := n) (I := j_up (j_up I 129 13 (nI 0)) 129 29 (nI n)) (by omega) up_eq (kk := fun (h10 : jH) => (jg_I 11 29 h10 129).bind (fun v11 => some (v11, h10)))
      have j29 : J 129 29 = nI n := by rw [e3 129 (by omega)]; exact up_eq
      refine ⟨ρ, L, J, ?_, fun b k e => ?_, ⟨rfl, rfl, rfl⟩, rfl, ?_, MS_lay (I := j_up I 129 13 (nI 0)) (o' := 44 * n) w4.1 (fun k hk => by rw [Nat.zero_add, e2 k hk, up_ne (by omega)]) (hU.2 n (by omega)), ⟨j29, fun i hi => MS_k (by rw [e3 144 (by omega), up_ne (by omega)]) (hU.2 i (by simp only [] at hi; omega))⟩⟩
      · rw [f_X11_undo]
        simp (disch := first | omega | assumption) only [↓bM, ↓bMA, ↓jn_, ↓ob_, ↓b2_, ↓reduceIte, nn_lt, nn_le, nn_eq, nI_add, pk_mul, nn_su, gn_lt, gn_le, ng_lt, ng_le, ng_eq, gn_eq, gg_eq, n_m1, n_cl, if_true, if_false, if_pos, if_neg, lt0, e29, Nat.add_sub_cancel]
        rw [e1]
        simp (disch := first | omega | assumption) only [↓bM, ↓bMA, ↓jn_, ↓ob_, ↓b2_, ↓reduceIte, nn_lt, nn_le, nn_eq, nI_add, pk_mul, nn_su, gn_lt, gn_le, ng_lt, ng_le, ng_eq, gn_eq, gg_eq, n_m1, n_cl, if_true, if_false, if_pos, if_neg, lt0, j29]
      · by_cases h0 : b = 130
        · subst h0; cases e
        · rw [e3 b h0]
          exact (Fr.up (Fr.up Fr.rf rfl) rfl : Fr tO I _) b k e
      · unfold MW at hW ⊢
        rw [e3 129 (by omega), up_nk (by omega), up_nk (by omega)]
        exact hW
