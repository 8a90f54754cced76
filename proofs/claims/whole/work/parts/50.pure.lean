/-! THOSE THAT MAY THROW -/
def TOk {α : Type} (z : α) (fX : jH → Option (Option α × jH)) (fM : jH → Option (α × jH)) (G : gG) : Prop :=
  (∃ v, (∀ q ρ L I, Xr G ρ L I → fX (hp q ρ L I) = some (some v, hp q ρ L I)) ∧ ∀ t q ρ L I, Mr t G ρ L I → fM (hp q ρ L I) = some (v, hp q ρ L (j_up I 129 13 (nI 0)))) ∨
  ((∀ q ρ L I, Xr G ρ L I → fX (hp q ρ L I) = some (none, js_N (hp q ρ L I) (999, 0) 6)) ∧ ∀ t q ρ L I, Mr t G ρ L I → fM (hp q ρ L I) = some (z, hp q ρ L (j_up I 129 13 (nI 1))))
theorem m_lost {q : pQ} {ρ : pP} {L : pL} {I : pI} {x : Int32} : f_X11_lost 5000 129 (hp q ρ L (j_up I 129 13 x)) = some (nI 0, hp q ρ L (j_up I 129 13 (nI 1))) := by
  simp (disch := first | omega | assumption) only [f_X11_lost, kM, kMA, ob_, b2_, jn_, nn_lt, nn_le, nn_eq, nI_add, pk_mul, nn_su, gn_lt, gn_le, ng_lt, ng_le, ng_eq, gn_eq, gg_eq, n_m1, n_cl, if_true, if_false, if_pos, if_neg, ite_self, lt0, up_up]
theorem k_book (a b : Int32) : ∀ G, Wr G → TOk (nI 0) (f_X10_book 5000 0 a b) (f_X11_book 5000 129 a b) G := by
  intro G hG
  obtain ⟨w1, w2, w3, w4, w5, w6, w7, w8, w9⟩ := hG
  rcases ixo a (gS G) (by omega) with h | ⟨s, hs, rfl⟩
  · right
    refine ⟨?_, ?_⟩
    · rintro q ρ L I ⟨⟨hT, hL, hD, hP, hS, hU, hK, hR, hρ⟩, hW⟩
      simp (disch := first | omega | assumption) only [f_X10_book, ↓bX, ↓bXA, ↓jn_, ↓ob_, ↓b2_, ↓reduceIte, nn_lt, nn_le, nn_eq, nI_add, pk_mul, nn_su, gn_lt, gn_le, ng_lt, ng_le, ng_eq, gn_eq, gg_eq, n_m1, n_cl, if_true, if_false, if_pos, if_neg, lt0, ↓b2e (x_isS0 (q := q) (ρ := ρ) (L := L) hP.2 h)]
    · rintro t q ρ L I ⟨hM, hW⟩
      obtain ⟨hT, hL, hD, hP, hS, hU, hK, hR⟩ := Ms_0 (x := nI 0) hM
      simp (disch := first | omega | assumption) only [f_X11_book, ↓bM, ↓bMA, ↓jn_, ↓ob_, ↓b2_, ↓reduceIte, nn_lt, nn_le, nn_eq, nI_add, pk_mul, nn_su, gn_lt, gn_le, ng_lt, ng_le, ng_eq, gn_eq, gg_eq, n_m1, n_cl, if_true, if_false, if_pos, if_neg, lt0, ↓b2e (m_isS0 (q := q) (ρ := ρ) (L := L) hP.2 (by omega) h), ↓b2e (m_lost (q := q) (ρ := ρ) (L := L) (I := I) (x := nI 0))]
  rcases ixo b 5 (by omega) with h | ⟨v, hv, rfl⟩
  · right
    refine ⟨?_, ?_⟩
    · rintro q ρ L I ⟨⟨hT, hL, hD, hP, hS, hU, hK, hR, hρ⟩, hW⟩
      rcases h with h | ⟨h1, h2⟩
      · simp (disch := first | omega | assumption) only [f_X10_book, ↓bX, ↓bXA, ↓jn_, ↓ob_, ↓b2_, ↓reduceIte, nn_lt, nn_le, nn_eq, nI_add, pk_mul, nn_su, gn_lt, gn_le, ng_lt, ng_le, ng_eq, gn_eq, gg_eq, n_m1, n_cl, if_true, if_false, if_pos, if_neg, lt0, ↓b2e (x_isS1 (q := q) (ρ := ρ) (L := L) hP.2 (by omega) hs), h]
      · simp (disch := first | omega | assumption) only [f_X10_book, ↓bX, ↓bXA, ↓jn_, ↓ob_, ↓b2_, ↓reduceIte, nn_lt, nn_le, nn_eq, nI_add, pk_mul, nn_su, gn_lt, gn_le, ng_lt, ng_le, ng_eq, gn_eq, gg_eq, n_m1, n_cl, if_true, if_false, if_pos, if_neg, lt0, ↓b2e (x_isS1 (q := q) (ρ := ρ) (L := L) hP.2 (by omega) hs), h1, i_nlt h2]
    · rintro t q ρ L I ⟨hM, hW⟩
      obtain ⟨hT, hL, hD, hP, hS, hU, hK, hR⟩ := Ms_0 (x := nI 0) hM
      simp (disch := first | omega | assumption) only [f_X11_book, ↓bM, ↓bMA, ↓jn_, ↓ob_, ↓b2_, ↓reduceIte, nn_lt, nn_le, nn_eq, nI_add, pk_mul, nn_su, gn_lt, gn_le, ng_lt, ng_le, ng_eq, gn_eq, gg_eq, n_m1, n_cl, if_true, if_false, if_pos, if_neg, lt0, ↓b2e (m_isS1 (q := q) (ρ := ρ) (L := L) hP.2 (by omega) hs), m_inO (n := 4) (by omega) h, ↓b2e (m_lost (q := q) (ρ := ρ) (L := L) (I := I) (x := nI 0))]
  · left
    refine ⟨scB (gN G) (s * 5 + v), ?_, ?_⟩
    · rintro q ρ L I ⟨⟨hT, hL, hD, hP, hS, hU, hK, hR, hρ⟩, hW⟩
      have e : I 23 (s * 5 + v) = scB (gN G) (s * 5 + v) := hS.2.2 _ (by omega)
      simp (disch := first | omega | assumption) only [f_X10_book, ↓bX, ↓bXA, ↓jn_, ↓ob_, ↓b2_, ↓reduceIte, nn_lt, nn_le, nn_eq, nI_add, pk_mul, nn_su, gn_lt, gn_le, ng_lt, ng_le, ng_eq, gn_eq, gg_eq, n_m1, n_cl, if_true, if_false, if_pos, if_neg, lt0, ↓b2e (x_isS1 (q := q) (ρ := ρ) (L := L) hP.2 (by omega) hs), e]
    · rintro t q ρ L I ⟨hM, hW⟩
      obtain ⟨hT, hL, hD, hP, hS, hU, hK, hR⟩ := Ms_0 (x := nI 0) hM
      have e := hS.2.2 (s * 5 + v) (by omega)
      rw [show 0 + (14 + (s * 5 + v)) = 14 + 5 * s + v by omega] at e
      simp (disch := first | omega | assumption) only [f_X11_book, ↓bM, ↓bMA, ↓jn_, ↓ob_, ↓b2_, ↓reduceIte, nn_lt, nn_le, nn_eq, nI_add, pk_mul, nn_su, gn_lt, gn_le, ng_lt, ng_le, ng_eq, gn_eq, gg_eq, n_m1, n_cl, if_true, if_false, if_pos, if_neg, lt0, ↓b2e (m_isS1 (q := q) (ρ := ρ) (L := L) hP.2 (by omega) hs), m_in, e]
theorem k_row (a : Int32) : ∀ G, Wr G → TOk ((nI 0).toInt64) (f_X10_row 5000 0 a) (f_X11_row 5000 129 a) G := by
  intro G hG
  obtain ⟨w1, w2, w3, w4, w5, w6, w7, w8, w9⟩ := hG
  rcases ixo a (gRw G).1 (by omega) with h | ⟨i, hi, rfl⟩
  · right
    refine ⟨?_, ?_⟩
    · rintro q ρ L I ⟨hX, hW⟩
      have e := hW.1
      rcases h with h | ⟨h1, h2⟩
      · simp (disch := first | omega | assumption) only [f_X10_row, ↓bX, ↓bXA, ↓jn_, ↓ob_, ↓b2_, ↓reduceIte, nn_lt, nn_le, nn_eq, nI_add, pk_mul, nn_su, gn_lt, gn_le, ng_lt, ng_le, ng_eq, gn_eq, gg_eq, n_m1, n_cl, if_true, if_false, if_pos, if_neg, lt0, h]
      · simp (disch := first | omega | assumption) only [f_X10_row, ↓bX, ↓bXA, ↓jn_, ↓ob_, ↓b2_, ↓reduceIte, nn_lt, nn_le, nn_eq, nI_add, pk_mul, nn_su, gn_lt, gn_le, ng_lt, ng_le, ng_eq, gn_eq, gg_eq, n_m1, n_cl, if_true, if_false, if_pos, if_neg, lt0, e, h1, i_nlt h2]
    · rintro t q ρ L I ⟨hM, hW⟩
      have e : j_up I 129 13 (nI 0) 129 12 = nI (gRw G).1 := by rw [up_nk (by omega)]; exact hW.1
      simp (disch := first | omega | assumption) only [f_X11_row, ↓bM, ↓bMA, ↓jn_, ↓ob_, ↓b2_, ↓reduceIte, nn_lt, nn_le, nn_eq, nI_add, pk_mul, nn_su, gn_lt, gn_le, ng_lt, ng_le, ng_eq, gn_eq, gg_eq, n_m1, n_cl, if_true, if_false, if_pos, if_neg, lt0, e, m_in0 (n := (gRw G).1) (by omega) h, ↓b2e (m_lost (q := q) (ρ := ρ) (L := L) (I := I) (x := nI 0))]
  · left
    refine ⟨(gRw G).2 i, ?_, ?_⟩
    · rintro q ρ L I ⟨hX, hW⟩
      have e := hW.1
      have e2 := hW.2 i hi
      simp (disch := first | omega | assumption) only [f_X10_row, ↓bX, ↓bXA, ↓jn_, ↓ob_, ↓b2_, ↓reduceIte, nn_lt, nn_le, nn_eq, nI_add, pk_mul, nn_su, gn_lt, gn_le, ng_lt, ng_le, ng_eq, gn_eq, gg_eq, n_m1, n_cl, if_true, if_false, if_pos, if_neg, lt0, e, e2]
    · rintro t q ρ L I ⟨hM, hW⟩
      have e : j_up I 129 13 (nI 0) 129 12 = nI (gRw G).1 := by rw [up_nk (by omega)]; exact hW.1
      have e2 := hW.2 i hi
      simp (disch := first | omega | assumption) only [f_X11_row, ↓bM, ↓bMA, ↓jn_, ↓ob_, ↓b2_, ↓reduceIte, nn_lt, nn_le, nn_eq, nI_add, pk_mul, nn_su, gn_lt, gn_le, ng_lt, ng_le, ng_eq, gn_eq, gg_eq, n_m1, n_cl, if_true, if_false, if_pos, if_neg, lt0, e, m_in, e2]
theorem k_errand (a b : Int32) : ∀ G, Wr G → TOk (nI 0) (f_X10_errand 5000 0 a b) (f_X11_errand 5000 129 a b) G := by
  intro G hG
  obtain ⟨w1, w2, w3, w4, w5, w6, w7, w8, w9⟩ := hG
  have h8 := w3.1
  rcases ixo a (duE (gDu G)) (by omega) with h | ⟨e, he, rfl⟩
  · right
    refine ⟨?_, ?_⟩
    · rintro q ρ L I ⟨⟨hT, hL, hD, hP, hS, hU, hK, hR, hρ⟩, hW⟩
      have e := hD.1
      rcases h with h | ⟨h1, h2⟩
      · simp (disch := first | omega | assumption) only [f_X10_errand, ↓bX, ↓bXA, ↓jn_, ↓ob_, ↓b2_, ↓reduceIte, nn_lt, nn_le, nn_eq, nI_add, pk_mul, nn_su, gn_lt, gn_le, ng_lt, ng_le, ng_eq, gn_eq, gg_eq, n_m1, n_cl, if_true, if_false, if_pos, if_neg, lt0, h]
      · simp (disch := first | omega | assumption) only [f_X10_errand, ↓bX, ↓bXA, ↓jn_, ↓ob_, ↓b2_, ↓reduceIte, nn_lt, nn_le, nn_eq, nI_add, pk_mul, nn_su, gn_lt, gn_le, ng_lt, ng_le, ng_eq, gn_eq, gg_eq, n_m1, n_cl, if_true, if_false, if_pos, if_neg, lt0, e, h1, i_nlt h2]
    · rintro t q ρ L I ⟨hM, hW⟩
      obtain ⟨hT, hL, hD, hP, hS, hU, hK, hR⟩ := Ms_0 (x := nI 0) hM
      have e := hD.1
      simp (disch := first | omega | assumption) only [f_X11_errand, ↓bM, ↓bMA, ↓jn_, ↓ob_, ↓b2_, ↓reduceIte, nn_lt, nn_le, nn_eq, nI_add, pk_mul, nn_su, gn_lt, gn_le, ng_lt, ng_le, ng_eq, gn_eq, gg_eq, n_m1, n_cl, if_true, if_false, if_pos, if_neg, lt0, e, m_in0 (n := duE (gDu G)) (by omega) h, ↓b2e (m_lost (q := q) (ρ := ρ) (L := L) (I := I) (x := nI 0))]
  rcases ixo b 5 (by omega) with h | ⟨j, hj, rfl⟩
  · right
    refine ⟨?_, ?_⟩
    · rintro q ρ L I ⟨⟨hT, hL, hD, hP, hS, hU, hK, hR, hρ⟩, hW⟩
      have e := hD.1
      have n : ∀ k, k < 5 → ¬ b = nI k := fun k hk hb => by
        subst hb
        rcases h with h | ⟨h1, h2⟩
        · rw [nn_lt (by omega) (by omega)] at h; omega
        · rw [nn_le (by omega) (by omega)] at h2; omega
      simp (disch := first | omega | assumption) only [f_X10_errand, ↓bX, ↓bXA, ↓jn_, ↓ob_, ↓b2_, ↓reduceIte, nn_lt, nn_le, nn_eq, nI_add, pk_mul, nn_su, gn_lt, gn_le, ng_lt, ng_le, ng_eq, gn_eq, gg_eq, n_m1, n_cl, if_true, if_false, if_pos, if_neg, lt0, e, n 0 (by omega), n 1 (by omega), n 2 (by omega), n 3 (by omega), n 4 (by omega)]
    · rintro t q ρ L I ⟨hM, hW⟩
      obtain ⟨hT, hL, hD, hP, hS, hU, hK, hR⟩ := Ms_0 (x := nI 0) hM
      have e := hD.1
      simp (disch := first | omega | assumption) only [f_X11_errand, ↓bM, ↓bMA, ↓jn_, ↓ob_, ↓b2_, ↓reduceIte, nn_lt, nn_le, nn_eq, nI_add, pk_mul, nn_su, gn_lt, gn_le, ng_lt, ng_le, ng_eq, gn_eq, gg_eq, n_m1, n_cl, if_true, if_false, if_pos, if_neg, lt0, e, m_in, m_inO (n := 4) (by omega) h, ↓b2e (m_lost (q := q) (ρ := ρ) (L := L) (I := I) (x := nI 0))]
  left
  have cx : ∀ v, (∀ q ρ L I, Xr G ρ L I → f_X10_errand 5000 0 (nI e) (nI j) (hp q ρ L I) = some (some v, hp q ρ L I)) → (∀ t q ρ L I, Ms t G ρ (j_up I 129 13 (nI 0)) → f_X11_errand 5000 129 (nI e) (nI j) (hp q ρ L I) = some (v, hp q ρ L (j_up I 129 13 (nI 0)))) → (∃ v, (∀ q ρ L I, Xr G ρ L I → f_X10_errand 5000 0 (nI e) (nI j) (hp q ρ L I) = some (some v, hp q ρ L I)) ∧ ∀ t q ρ L I, Mr t G ρ L I → f_X11_errand 5000 129 (nI e) (nI j) (hp q ρ L I) = some (v, hp q ρ L (j_up I 129 13 (nI 0)))) :=
    fun v hx hm => ⟨v, hx, fun t q ρ L I h => hm t q ρ L I (Ms_0 h.1)⟩
  have : j = 0 ∨ j = 1 ∨ j = 2 ∨ j = 3 ∨ j = 4 := by omega
  rcases this with rfl | rfl | rfl | rfl | rfl
  · refine cx (nI (duW (gDu G) e)) ?_ ?_
    · rintro q ρ L I ⟨⟨hT, hL, hD, hP, hS, hU, hK, hR, hρ⟩, hW⟩
      simp (disch := first | omega | assumption) only [f_X10_errand, ↓bX, ↓bXA, ↓jn_, ↓ob_, ↓b2_, ↓reduceIte, nn_lt, nn_le, nn_eq, nI_add, pk_mul, nn_su, gn_lt, gn_le, ng_lt, ng_le, ng_eq, gn_eq, gg_eq, n_m1, n_cl, if_true, if_false, if_pos, if_neg, lt0, hD.1, (hD.2 e he).1]
    · rintro t q ρ L I ⟨hT, hL, hD, hP, hS, hU, hK, hR⟩
      simp (disch := first | omega | assumption) only [f_X11_errand, ↓bM, ↓bMA, ↓jn_, ↓ob_, ↓b2_, ↓reduceIte, nn_lt, nn_le, nn_eq, nI_add, pk_mul, nn_su, gn_lt, gn_le, ng_lt, ng_le, ng_eq, gn_eq, gg_eq, n_m1, n_cl, if_true, if_false, if_pos, if_neg, lt0, hD.1, m_in, ↓b2e (m_field (q := q) (ρ := ρ) (L := L) hD w3 he).1]
  · refine cx (nI (duM (gDu G) e)) ?_ ?_
    · rintro q ρ L I ⟨⟨hT, hL, hD, hP, hS, hU, hK, hR, hρ⟩, hW⟩
      simp (disch := first | omega | assumption) only [f_X10_errand, ↓bX, ↓bXA, ↓jn_, ↓ob_, ↓b2_, ↓reduceIte, nn_lt, nn_le, nn_eq, nI_add, pk_mul, nn_su, gn_lt, gn_le, ng_lt, ng_le, ng_eq, gn_eq, gg_eq, n_m1, n_cl, if_true, if_false, if_pos, if_neg, lt0, hD.1, (hD.2 e he).2.1]
    · rintro t q ρ L I ⟨hT, hL, hD, hP, hS, hU, hK, hR⟩
      simp (disch := first | omega | assumption) only [f_X11_errand, ↓bM, ↓bMA, ↓jn_, ↓ob_, ↓b2_, ↓reduceIte, nn_lt, nn_le, nn_eq, nI_add, pk_mul, nn_su, gn_lt, gn_le, ng_lt, ng_le, ng_eq, gn_eq, gg_eq, n_m1, n_cl, if_true, if_false, if_pos, if_neg, lt0, hD.1, m_in, ↓b2e (m_field (q := q) (ρ := ρ) (L := L) hD w3 he).2.1]
  · refine cx (nI (duP (gDu G) e)) ?_ ?_
    · rintro q ρ L I ⟨⟨hT, hL, hD, hP, hS, hU, hK, hR, hρ⟩, hW⟩
      simp (disch := first | omega | assumption) only [f_X10_errand, ↓bX, ↓bXA, ↓jn_, ↓ob_, ↓b2_, ↓reduceIte, nn_lt, nn_le, nn_eq, nI_add, pk_mul, nn_su, gn_lt, gn_le, ng_lt, ng_le, ng_eq, gn_eq, gg_eq, n_m1, n_cl, if_true, if_false, if_pos, if_neg, lt0, hD.1, (hD.2 e he).2.2.1]
    · rintro t q ρ L I ⟨hT, hL, hD, hP, hS, hU, hK, hR⟩
      simp (disch := first | omega | assumption) only [f_X11_errand, ↓bM, ↓bMA, ↓jn_, ↓ob_, ↓b2_, ↓reduceIte, nn_lt, nn_le, nn_eq, nI_add, pk_mul, nn_su, gn_lt, gn_le, ng_lt, ng_le, ng_eq, gn_eq, gg_eq, n_m1, n_cl, if_true, if_false, if_pos, if_neg, lt0, hD.1, m_in, ↓b2e (m_field (q := q) (ρ := ρ) (L := L) hD w3 he).2.2.1]
  · refine cx (nI (duV (gDu G) e)) ?_ ?_
    · rintro q ρ L I ⟨⟨hT, hL, hD, hP, hS, hU, hK, hR, hρ⟩, hW⟩
      simp (disch := first | omega | assumption) only [f_X10_errand, ↓bX, ↓bXA, ↓jn_, ↓ob_, ↓b2_, ↓reduceIte, nn_lt, nn_le, nn_eq, nI_add, pk_mul, nn_su, gn_lt, gn_le, ng_lt, ng_le, ng_eq, gn_eq, gg_eq, n_m1, n_cl, if_true, if_false, if_pos, if_neg, lt0, hD.1, (hD.2 e he).2.2.2]
    · rintro t q ρ L I ⟨hT, hL, hD, hP, hS, hU, hK, hR⟩
      simp (disch := first | omega | assumption) only [f_X11_errand, ↓bM, ↓bMA, ↓jn_, ↓ob_, ↓b2_, ↓reduceIte, nn_lt, nn_le, nn_eq, nI_add, pk_mul, nn_su, gn_lt, gn_le, ng_lt, ng_le, ng_eq, gn_eq, gg_eq, n_m1, n_cl, if_true, if_false, if_pos, if_neg, lt0, hD.1, m_in, ↓b2e (m_field (q := q) (ρ := ρ) (L := L) hD w3 he).2.2.2]
  · refine cx (if bt (scD (gN G)) e = true then nI 1 else nI 0) ?_ ?_
    · rintro q ρ L I ⟨⟨hT, hL, hD, hP, hS, hU, hK, hR, hρ⟩, hW⟩
      simp (disch := first | omega | assumption) only [f_X10_errand, ↓bX, ↓bXA, ↓jn_, ↓ob_, ↓b2_, ↓reduceIte, nn_lt, nn_le, nn_eq, nI_add, pk_mul, nn_su, gn_lt, gn_le, ng_lt, ng_le, ng_eq, gn_eq, gg_eq, n_m1, n_cl, if_true, if_false, if_pos, if_neg, lt0, hD.1, hS.1.2, sh_1]
    · rintro t q ρ L I ⟨hT, hL, hD, hP, hS, hU, hK, hR⟩
      have e13 := hS.1.2
      rw [Nat.zero_add] at e13
      simp (disch := first | omega | assumption) only [f_X11_errand, ↓bM, ↓bMA, ↓jn_, ↓ob_, ↓b2_, ↓reduceIte, nn_lt, nn_le, nn_eq, nI_add, pk_mul, nn_su, gn_lt, gn_le, ng_lt, ng_le, ng_eq, gn_eq, gg_eq, n_m1, n_cl, if_true, if_false, if_pos, if_neg, lt0, hD.1, m_in, e13, sh_1]
theorem x_sumOf {q : pQ} {ρ : pP} {L : pL} {I : pI} {A E : Nat} {x : Int32} {f : Nat → Int32} (hA : A = 17 ∨ A = 18) (hE : I 13 0 = nI E) (h8 : E ≤ 8) (hf : ∀ e, e < E → I A e = f e) : f_X2_sumOf 5000 13 A x (hp q ρ L I) = some (sumS x f E, hp q ρ L I) := by
  have hAj : ∀ j, j < 8 → ja_I 100 (hp q ρ L I) A (nI j) = some (I A j) := by
    intro j hj
    rcases hA with rfl | rfl <;> exact ha_I rfl rfl rfl hj
  simp only [f_X2_sumOf, kX, lt0]
  refine lo (fun n (s : Int32) j => f_X2_sumOf_L5 5000 13 A x n s (nI j) (hp q ρ L I)) (fun e a => a + (if bt x e = true then nI 1 else nI 0) * f e) (fun s => some (s, hp q ρ L I)) E ?_ ?_ E 5000 (nI 0) 0 (by omega) (by omega)
  · intro n s
    rw [f_X2_sumOf_L5]
    simp (disch := first | omega | assumption) only [↓bX, ↓bXA, ↓jn_, ↓ob_, ↓b2_, ↓reduceIte, nn_lt, nn_le, nn_eq, nI_add, pk_mul, nn_su, gn_lt, gn_le, ng_lt, ng_le, ng_eq, gn_eq, gg_eq, n_m1, n_cl, if_true, if_false, if_pos, if_neg, lt0, hE, Nat.le_refl]
  · intro n s j hj
    have e := hAj j (by omega)
    rw [hf j hj] at e
    rw [f_X2_sumOf_L5]
    simp (disch := first | omega | assumption) only [↓bX, ↓bXA, ↓jn_, ↓ob_, ↓b2_, ↓reduceIte, nn_lt, nn_le, nn_eq, nI_add, pk_mul, nn_su, gn_lt, gn_le, ng_lt, ng_le, ng_eq, gn_eq, gg_eq, n_m1, n_cl, if_true, if_false, if_pos, if_neg, lt0, hE, ↓oe e, sh_1]
theorem sumS_m {x : Int32} {p : Nat → Bool} {f : Nat → Int32} {E : Nat} (h : ∀ e, e < E → bt x e = p e) : sumS x f E = fo (fun e a => a + (if p e = true then f e else nI 0)) 0 E (nI 0) := by
  unfold sumS
  refine fo_congr E 0 _ (fun i s _ hi => ?_)
  rw [h i (by omega)]
  cases p i with
  | true => simp only [if_true]; rw [show nI 1 * f i = f i from Int32.one_mul (f i)]
  | false => simp only [Bool.false_eq_true, if_false]; rw [show nI 0 * f i = nI 0 from Int32.zero_mul]
theorem m_travL {q : pQ} {ρ : pP} {L : pL} {I : pI} {d : gD} {t P S : Nat} {dn : Int32} (hD : MD d I) (hd : WD d P S) (hP : P ≤ 1000) (ht : t < 1000) (h13 : I 130 13 = dn) : f_X11_traveller_L59 5000 129 (nI t) 5000 (nI 0) (nI 0) (hp q ρ L I) = some (sumS (dOf d t &&& dn) (fun e => nI (duV d e)) (duE d), hp q ρ L I) := by
  have h8 := hd.1
  rw [sumS_m (p := fun e => decide (duW d e = t) && bt dn e) (fun e he => by rw [b_and, dOf, mk_bt _ _ _ (by omega) (by omega)]; simp [he])]
  refine lo (fun n (s : Int32) j => f_X11_traveller_L59 5000 129 (nI t) n s (nI j) (hp q ρ L I)) (fun e a => a + (if (decide (duW d e = t) && bt dn e) = true then nI (duV d e) else nI 0)) (fun s => some (s, hp q ρ L I)) (duE d) ?_ ?_ (duE d) 5000 (nI 0) 0 (by omega) (by omega)
  · intro n s
    rw [f_X11_traveller_L59]
    simp (disch := first | omega | assumption) only [↓bM, ↓bMA, ↓jn_, ↓ob_, ↓b2_, ↓reduceIte, nn_lt, nn_le, nn_eq, nI_add, pk_mul, nn_su, gn_lt, gn_le, ng_lt, ng_le, ng_eq, gn_eq, gg_eq, n_m1, n_cl, if_true, if_false, if_pos, if_neg, lt0, hD.1, Nat.le_refl]
  · intro n s j hj
    obtain ⟨f0, f1, f2, f3⟩ := m_field (q := q) (ρ := ρ) (L := L) hD hd hj
    obtain ⟨k1, k2, k3, k4⟩ := hd.2 j hj
    rw [f_X11_traveller_L59]
    by_cases h : duW d j = t
    · have hh := m_has (d := dn) (e := j) (by omega) (hp q ρ L I)
      cases hb : bt dn j with
      | true =>
        rw [hb, if_pos rfl] at hh
        simp (disch := first | omega | assumption) only [↓bM, ↓bMA, ↓jn_, ↓ob_, ↓b2_, ↓reduceIte, nn_lt, nn_le, nn_eq, nI_add, pk_mul, nn_su, gn_lt, gn_le, ng_lt, ng_le, ng_eq, gn_eq, gg_eq, n_m1, n_cl, if_true, if_false, if_pos, if_neg, lt0, hD.1, ↓b2e f0, h, h13, ↓b2e hh, ↓b2e f3, decide_true, Bool.and_self]
      | false =>
        rw [hb] at hh
        simp only [Bool.false_eq_true, if_false] at hh
        simp (disch := first | omega | assumption) only [↓bM, ↓bMA, ↓jn_, ↓ob_, ↓b2_, ↓reduceIte, nn_lt, nn_le, nn_eq, nI_add, pk_mul, nn_su, gn_lt, gn_le, ng_lt, ng_le, ng_eq, gn_eq, gg_eq, n_m1, n_cl, if_true, if_false, if_pos, if_neg, lt0, hD.1, ↓b2e f0, h, h13, ↓b2e hh, decide_true, Bool.and_false, Bool.false_eq_true]
    · simp (disch := first | omega | assumption) only [↓bM, ↓bMA, ↓jn_, ↓ob_, ↓b2_, ↓reduceIte, nn_lt, nn_le, nn_eq, nI_add, pk_mul, nn_su, gn_lt, gn_le, ng_lt, ng_le, ng_eq, gn_eq, gg_eq, n_m1, n_cl, if_true, if_false, if_pos, if_neg, lt0, hD.1, ↓b2e f0, h, decide_false, Bool.false_and, Bool.false_eq_true]
theorem k_traveller (a b : Int32) : ∀ G, Wr G → TOk (nI 0) (f_X10_traveller 5000 0 a b) (f_X11_traveller 5000 129 a b) G := by
  intro G hG
  obtain ⟨w1, w2, w3, w4, w5, w6, w7, w8, w9⟩ := hG
  have h8 := w3.1
  rcases ixo a (gP G) (by omega) with h | ⟨t, ht, rfl⟩
  · right
    refine ⟨?_, ?_⟩
    · rintro q ρ L I ⟨⟨hT, hL, hD, hP, hS, hU, hK, hR, hρ⟩, hW⟩
      simp (disch := first | omega | assumption) only [f_X10_traveller, ↓bX, ↓bXA, ↓jn_, ↓ob_, ↓b2_, ↓reduceIte, nn_lt, nn_le, nn_eq, nI_add, pk_mul, nn_su, gn_lt, gn_le, ng_lt, ng_le, ng_eq, gn_eq, gg_eq, n_m1, n_cl, if_true, if_false, if_pos, if_neg, lt0, ↓b2e (x_isT0 (q := q) (ρ := ρ) (L := L) hP.1 h)]
    · rintro t q ρ L I ⟨hM, hW⟩
      obtain ⟨hT, hL, hD, hP, hS, hU, hK, hR⟩ := Ms_0 (x := nI 0) hM
      simp (disch := first | omega | assumption) only [f_X11_traveller, ↓bM, ↓bMA, ↓jn_, ↓ob_, ↓b2_, ↓reduceIte, nn_lt, nn_le, nn_eq, nI_add, pk_mul, nn_su, gn_lt, gn_le, ng_lt, ng_le, ng_eq, gn_eq, gg_eq, n_m1, n_cl, if_true, if_false, if_pos, if_neg, lt0, ↓b2e (m_isT0 (q := q) (ρ := ρ) (L := L) hP.1 (by omega) h), ↓b2e (m_lost (q := q) (ρ := ρ) (L := L) (I := I) (x := nI 0))]
  rcases ixo b 5 (by omega) with h | ⟨j, hj, rfl⟩
  · right
    refine ⟨?_, ?_⟩
    · rintro q ρ L I ⟨⟨hT, hL, hD, hP, hS, hU, hK, hR, hρ⟩, hW⟩
      have n : ∀ k, k < 5 → ¬ b = nI k := fun k hk hb => by
        subst hb
        rcases h with h | ⟨h1, h2⟩
        · rw [nn_lt (by omega) (by omega)] at h; omega
        · rw [nn_le (by omega) (by omega)] at h2; omega
      simp (disch := first | omega | assumption) only [f_X10_traveller, ↓bX, ↓bXA, ↓jn_, ↓ob_, ↓b2_, ↓reduceIte, nn_lt, nn_le, nn_eq, nI_add, pk_mul, nn_su, gn_lt, gn_le, ng_lt, ng_le, ng_eq, gn_eq, gg_eq, n_m1, n_cl, if_true, if_false, if_pos, if_neg, lt0, ↓b2e (x_isT1 (q := q) (ρ := ρ) (L := L) hP.1 (by omega) ht), n 0 (by omega), n 1 (by omega), n 2 (by omega), n 3 (by omega), n 4 (by omega)]
    · rintro t' q ρ L I ⟨hM, hW⟩
      obtain ⟨hT, hL, hD, hP, hS, hU, hK, hR⟩ := Ms_0 (x := nI 0) hM
      simp (disch := first | omega | assumption) only [f_X11_traveller, ↓bM, ↓bMA, ↓jn_, ↓ob_, ↓b2_, ↓reduceIte, nn_lt, nn_le, nn_eq, nI_add, pk_mul, nn_su, gn_lt, gn_le, ng_lt, ng_le, ng_eq, gn_eq, gg_eq, n_m1, n_cl, if_true, if_false, if_pos, if_neg, lt0, ↓b2e (m_isT1 (q := q) (ρ := ρ) (L := L) hP.1 (by omega) ht), m_inO (n := 4) (by omega) h, ↓b2e (m_lost (q := q) (ρ := ρ) (L := L) (I := I) (x := nI 0))]
  left
  have cx : ∀ v, (∀ q ρ L I, Xr G ρ L I → f_X10_traveller 5000 0 (nI t) (nI j) (hp q ρ L I) = some (some v, hp q ρ L I)) → (∀ t' q ρ L I, Ms t' G ρ (j_up I 129 13 (nI 0)) → f_X11_traveller 5000 129 (nI t) (nI j) (hp q ρ L I) = some (v, hp q ρ L (j_up I 129 13 (nI 0)))) → (∃ v, (∀ q ρ L I, Xr G ρ L I → f_X10_traveller 5000 0 (nI t) (nI j) (hp q ρ L I) = some (some v, hp q ρ L I)) ∧ ∀ t' q ρ L I, Mr t' G ρ L I → f_X11_traveller 5000 129 (nI t) (nI j) (hp q ρ L I) = some (v, hp q ρ L (j_up I 129 13 (nI 0)))) :=
    fun v hx hm => ⟨v, hx, fun t q ρ L I h => hm t q ρ L I (Ms_0 h.1)⟩
  have : j = 0 ∨ j = 1 ∨ j = 2 ∨ j = 3 ∨ j = 4 := by omega
  rcases this with rfl | rfl | rfl | rfl | rfl
  · refine cx (nI (scP (gN G) t)) ?_ ?_
    · rintro q ρ L I ⟨⟨hT, hL, hD, hP, hS, hU, hK, hR, hρ⟩, hW⟩
      have e : I 20 t = nI (scP (gN G) t) := (hS.2.1 t ht).1
      simp (disch := first | omega | assumption) only [f_X10_traveller, ↓bX, ↓bXA, ↓jn_, ↓ob_, ↓b2_, ↓reduceIte, nn_lt, nn_le, nn_eq, nI_add, pk_mul, nn_su, gn_lt, gn_le, ng_lt, ng_le, ng_eq, gn_eq, gg_eq, n_m1, n_cl, if_true, if_false, if_pos, if_neg, lt0, ↓b2e (x_isT1 (q := q) (ρ := ρ) (L := L) hP.1 (by omega) ht), e]
    · rintro t' q ρ L I ⟨hT, hL, hD, hP, hS, hU, hK, hR⟩
      have e := (hS.2.1 t ht).1
      rw [show 0 + t = 4 * 0 + t by omega] at e
      simp (disch := first | omega | assumption) only [f_X11_traveller, ↓bM, ↓bMA, ↓jn_, ↓ob_, ↓b2_, ↓reduceIte, nn_lt, nn_le, nn_eq, nI_add, pk_mul, nn_su, gn_lt, gn_le, ng_lt, ng_le, ng_eq, gn_eq, gg_eq, n_m1, n_cl, if_true, if_false, if_pos, if_neg, lt0, ↓b2e (m_isT1 (q := q) (ρ := ρ) (L := L) hP.1 (by omega) ht), m_in, e]
  · refine cx (nI (scU (gN G) t)) ?_ ?_
    · rintro q ρ L I ⟨⟨hT, hL, hD, hP, hS, hU, hK, hR, hρ⟩, hW⟩
      have e : I 21 t = nI (scU (gN G) t) := (hS.2.1 t ht).2.1
      simp (disch := first | omega | assumption) only [f_X10_traveller, ↓bX, ↓bXA, ↓jn_, ↓ob_, ↓b2_, ↓reduceIte, nn_lt, nn_le, nn_eq, nI_add, pk_mul, nn_su, gn_lt, gn_le, ng_lt, ng_le, ng_eq, gn_eq, gg_eq, n_m1, n_cl, if_true, if_false, if_pos, if_neg, lt0, ↓b2e (x_isT1 (q := q) (ρ := ρ) (L := L) hP.1 (by omega) ht), e]
    · rintro t' q ρ L I ⟨hT, hL, hD, hP, hS, hU, hK, hR⟩
      have e := (hS.2.1 t ht).2.1
      rw [show 0 + (4 + t) = 4 * 1 + t by omega] at e
      simp (disch := first | omega | assumption) only [f_X11_traveller, ↓bM, ↓bMA, ↓jn_, ↓ob_, ↓b2_, ↓reduceIte, nn_lt, nn_le, nn_eq, nI_add, pk_mul, nn_su, gn_lt, gn_le, ng_lt, ng_le, ng_eq, gn_eq, gg_eq, n_m1, n_cl, if_true, if_false, if_pos, if_neg, lt0, ↓b2e (m_isT1 (q := q) (ρ := ρ) (L := L) hP.1 (by omega) ht), m_in, e]
  · refine cx (scS (gN G) t) ?_ ?_
    · rintro q ρ L I ⟨⟨hT, hL, hD, hP, hS, hU, hK, hR, hρ⟩, hW⟩
      have e : I 22 t = scS (gN G) t := (hS.2.1 t ht).2.2
      simp (disch := first | omega | assumption) only [f_X10_traveller, ↓bX, ↓bXA, ↓jn_, ↓ob_, ↓b2_, ↓reduceIte, nn_lt, nn_le, nn_eq, nI_add, pk_mul, nn_su, gn_lt, gn_le, ng_lt, ng_le, ng_eq, gn_eq, gg_eq, n_m1, n_cl, if_true, if_false, if_pos, if_neg, lt0, ↓b2e (x_isT1 (q := q) (ρ := ρ) (L := L) hP.1 (by omega) ht), e]
    · rintro t' q ρ L I ⟨hT, hL, hD, hP, hS, hU, hK, hR⟩
      have e := (hS.2.1 t ht).2.2
      rw [show 0 + (8 + t) = 4 * 2 + t by omega] at e
      simp (disch := first | omega | assumption) only [f_X11_traveller, ↓bM, ↓bMA, ↓jn_, ↓ob_, ↓b2_, ↓reduceIte, nn_lt, nn_le, nn_eq, nI_add, pk_mul, nn_su, gn_lt, gn_le, ng_lt, ng_le, ng_eq, gn_eq, gg_eq, n_m1, n_cl, if_true, if_false, if_pos, if_neg, lt0, ↓b2e (m_isT1 (q := q) (ρ := ρ) (L := L) hP.1 (by omega) ht), m_in, e]
  · refine cx (dOpen (gDu G) (scD (gN G)) t) ?_ ?_
    · rintro q ρ L I ⟨⟨hT, hL, hD, hP, hS, hU, hK, hR, hρ⟩, hW⟩
      have e : I 19 1 = scD (gN G) := hS.1.2
      simp (disch := first | omega | assumption) only [f_X10_traveller, ↓bX, ↓bXA, ↓jn_, ↓ob_, ↓b2_, ↓reduceIte, nn_lt, nn_le, nn_eq, nI_add, pk_mul, nn_su, gn_lt, gn_le, ng_lt, ng_le, ng_eq, gn_eq, gg_eq, n_m1, n_cl, if_true, if_false, if_pos, if_neg, lt0, ↓b2e (x_isT1 (q := q) (ρ := ρ) (L := L) hP.1 (by omega) ht), ↓b2e (x_of (q := q) (ρ := ρ) (L := L) (t := t) hD w3 (by omega) (by omega)), e, open_eq]
    · rintro t' q ρ L I ⟨hT, hL, hD, hP, hS, hU, hK, hR⟩
      have e := hS.1.2
      rw [Nat.zero_add] at e
      simp (disch := first | omega | assumption) only [f_X11_traveller, ↓bM, ↓bMA, ↓jn_, ↓ob_, ↓b2_, ↓reduceIte, nn_lt, nn_le, nn_eq, nI_add, pk_mul, nn_su, gn_lt, gn_le, ng_lt, ng_le, ng_eq, gn_eq, gg_eq, n_m1, n_cl, if_true, if_false, if_pos, if_neg, lt0, ↓b2e (m_isT1 (q := q) (ρ := ρ) (L := L) hP.1 (by omega) ht), m_in, ↓b2e (m_openOf (q := q) (ρ := ρ) (L := L) (t := t) hD w3 (by omega) (by omega) e)]
  · refine cx (sumS (dOf (gDu G) t &&& scD (gN G)) (fun e => nI (duV (gDu G) e)) (duE (gDu G))) ?_ ?_
    · rintro q ρ L I ⟨⟨hT, hL, hD, hP, hS, hU, hK, hR, hρ⟩, hW⟩
      have e : I 19 1 = scD (gN G) := hS.1.2
      have e2 := x_sumOf (q := q) (ρ := ρ) (L := L) (A := 17) (x := dOf (gDu G) t &&& scD (gN G)) (f := fun e => nI (duV (gDu G) e)) (.inl rfl) hD.1 h8 (fun e he => (hD.2 e he).2.2.2)
      simp (disch := first | omega | assumption) only [f_X10_traveller, ↓bX, ↓bXA, ↓jn_, ↓ob_, ↓b2_, ↓reduceIte, nn_lt, nn_le, nn_eq, nI_add, pk_mul, nn_su, gn_lt, gn_le, ng_lt, ng_le, ng_eq, gn_eq, gg_eq, n_m1, n_cl, if_true, if_false, if_pos, if_neg, lt0, ↓b2e (x_isT1 (q := q) (ρ := ρ) (L := L) hP.1 (by omega) ht), ↓b2e (x_of (q := q) (ρ := ρ) (L := L) (t := t) hD w3 (by omega) (by omega)), e, ↓b2e e2]
    · rintro t' q ρ L I ⟨hT, hL, hD, hP, hS, hU, hK, hR⟩
      have e := hS.1.2
      rw [Nat.zero_add] at e
      simp (disch := first | omega | assumption) only [f_X11_traveller, ↓bM, ↓bMA, ↓jn_, ↓ob_, ↓b2_, ↓reduceIte, nn_lt, nn_le, nn_eq, nI_add, pk_mul, nn_su, gn_lt, gn_le, ng_lt, ng_le, ng_eq, gn_eq, gg_eq, n_m1, n_cl, if_true, if_false, if_pos, if_neg, lt0, ↓b2e (m_isT1 (q := q) (ρ := ρ) (L := L) hP.1 (by omega) ht), m_in]
      exact m_travL hD w3 (by omega) (by omega) e
theorem k_word (a b : Int32) : ∀ G, Wr G → TOk (nI 0) (f_X10_word 5000 0 a b) (f_X11_word 5000 129 a b) G := by
  intro G hG
  obtain ⟨w1, w2, w3, w4, w5, w6, w7, w8, w9⟩ := hG
  have h10 := w2.1
  rcases ixo a (lxW (gLx G)) (by omega) with h | ⟨w, hw, rfl⟩
  · right
    refine ⟨?_, ?_⟩
    · rintro q ρ L I ⟨⟨hT, hL, hD, hP, hS, hU, hK, hR, hρ⟩, hW⟩
      simp (disch := first | omega | assumption) only [f_X10_word, ↓bX, ↓bXA, ↓jn_, ↓ob_, ↓b2_, ↓reduceIte, nn_lt, nn_le, nn_eq, nI_add, pk_mul, nn_su, gn_lt, gn_le, ng_lt, ng_le, ng_eq, gn_eq, gg_eq, n_m1, n_cl, if_true, if_false, if_pos, if_neg, lt0, ↓b2e (x_isW0 (q := q) (ρ := ρ) (L := L) hL.1 h)]
    · rintro t q ρ L I ⟨hM, hW⟩
      obtain ⟨hT, hL, hD, hP, hS, hU, hK, hR⟩ := Ms_0 (x := nI 0) hM
      simp (disch := first | omega | assumption) only [f_X11_word, ↓bM, ↓bMA, ↓jn_, ↓ob_, ↓b2_, ↓reduceIte, nn_lt, nn_le, nn_eq, nI_add, pk_mul, nn_su, gn_lt, gn_le, ng_lt, ng_le, ng_eq, gn_eq, gg_eq, n_m1, n_cl, if_true, if_false, if_pos, if_neg, lt0, ↓b2e (m_isW0 (q := q) (ρ := ρ) (L := L) hL.1 (by omega) h), ↓b2e (m_lost (q := q) (ρ := ρ) (L := L) (I := I) (x := nI 0))]
  rcases ixo b 9 (by omega) with h | ⟨j, hj, rfl⟩
  · right
    refine ⟨?_, ?_⟩
    · rintro q ρ L I ⟨⟨hT, hL, hD, hP, hS, hU, hK, hR, hρ⟩, hW⟩
      have n : ∀ k, k < 9 → ¬ b = nI k := fun k hk hb => by
        subst hb
        rcases h with h | ⟨h1, h2⟩
        · rw [nn_lt (by omega) (by omega)] at h; omega
        · rw [nn_le (by omega) (by omega)] at h2; omega
      simp (disch := first | omega | assumption) only [f_X10_word, ↓bX, ↓bXA, ↓jn_, ↓ob_, ↓b2_, ↓reduceIte, nn_lt, nn_le, nn_eq, nI_add, pk_mul, nn_su, gn_lt, gn_le, ng_lt, ng_le, ng_eq, gn_eq, gg_eq, n_m1, n_cl, if_true, if_false, if_pos, if_neg, lt0, ↓b2e (x_isW1 (q := q) (ρ := ρ) (L := L) hL.1 (by omega) hw), n 0 (by omega), n 1 (by omega), n 2 (by omega), n 3 (by omega), n 4 (by omega), n 5 (by omega), n 6 (by omega), n 7 (by omega), n 8 (by omega)]
    · rintro t' q ρ L I ⟨hM, hW⟩
      obtain ⟨hT, hL, hD, hP, hS, hU, hK, hR⟩ := Ms_0 (x := nI 0) hM
      simp (disch := first | omega | assumption) only [f_X11_word, ↓bM, ↓bMA, ↓jn_, ↓ob_, ↓b2_, ↓reduceIte, nn_lt, nn_le, nn_eq, nI_add, pk_mul, nn_su, gn_lt, gn_le, ng_lt, ng_le, ng_eq, gn_eq, gg_eq, n_m1, n_cl, if_true, if_false, if_pos, if_neg, lt0, ↓b2e (m_isW1 (q := q) (ρ := ρ) (L := L) hL.1 (by omega) hw), m_inO (n := 8) (by omega) h, ↓b2e (m_lost (q := q) (ρ := ρ) (L := L) (I := I) (x := nI 0))]
  left
  have cx : ∀ v, (∀ q ρ L I, Xr G ρ L I → f_X10_word 5000 0 (nI w) (nI j) (hp q ρ L I) = some (some v, hp q ρ L I)) → (∀ t q ρ L I, Ms t G ρ (j_up I 129 13 (nI 0)) → f_X11_word 5000 129 (nI w) (nI j) (hp q ρ L I) = some (v, hp q ρ L (j_up I 129 13 (nI 0)))) → (∃ v, (∀ q ρ L I, Xr G ρ L I → f_X10_word 5000 0 (nI w) (nI j) (hp q ρ L I) = some (some v, hp q ρ L I)) ∧ ∀ t q ρ L I, Mr t G ρ L I → f_X11_word 5000 129 (nI w) (nI j) (hp q ρ L I) = some (v, hp q ρ L (j_up I 129 13 (nI 0)))) :=
    fun v hx hm => ⟨v, hx, fun t q ρ L I h => hm t q ρ L I (Ms_0 h.1)⟩
  have : j = 0 ∨ j = 1 ∨ j = 2 ∨ j = 3 ∨ j = 4 ∨ j = 5 ∨ j = 6 ∨ j = 7 ∨ j = 8 := by omega
  rcases this with rfl | rfl | rfl | rfl | rfl | rfl | rfl | rfl | rfl
  · refine cx (nI (lxN (gLx G) w)) ?_ ?_
    · rintro q ρ L I ⟨⟨hT, hL, hD, hP, hS, hU, hK, hR, hρ⟩, hW⟩
      simp (disch := first | omega | assumption) only [f_X10_word, ↓bX, ↓bXA, ↓jn_, ↓ob_, ↓b2_, ↓reduceIte, nn_lt, nn_le, nn_eq, nI_add, pk_mul, nn_su, gn_lt, gn_le, ng_lt, ng_le, ng_eq, gn_eq, gg_eq, n_m1, n_cl, if_true, if_false, if_pos, if_neg, lt0, ↓b2e (x_isW1 (q := q) (ρ := ρ) (L := L) hL.1 (by omega) hw), (hL.2 w hw).1.1]
    · rintro t' q ρ L I ⟨hT, hL, hD, hP, hS, hU, hK, hR⟩
      simp (disch := first | omega | assumption) only [f_X11_word, ↓bM, ↓bMA, ↓jn_, ↓ob_, ↓b2_, ↓reduceIte, nn_lt, nn_le, nn_eq, nI_add, pk_mul, nn_su, gn_lt, gn_le, ng_lt, ng_le, ng_eq, gn_eq, gg_eq, n_m1, n_cl, if_true, if_false, if_pos, if_neg, lt0, ↓b2e (m_isW1 (q := q) (ρ := ρ) (L := L) hL.1 (by omega) hw), m_in, (hL.2 w hw).1.1]
  · refine cx (nI (vws (lxL (gLx G) w) (lxN (gLx G) w))) ?_ ?_
    · rintro q ρ L I ⟨⟨hT, hL, hD, hP, hS, hU, hK, hR, hρ⟩, hW⟩
      simp (disch := first | omega | assumption) only [f_X10_word, ↓bX, ↓bXA, ↓jn_, ↓ob_, ↓b2_, ↓reduceIte, nn_lt, nn_le, nn_eq, nI_add, pk_mul, nn_su, gn_lt, gn_le, ng_lt, ng_le, ng_eq, gn_eq, gg_eq, n_m1, n_cl, if_true, if_false, if_pos, if_neg, lt0, ↓b2e (x_isW1 (q := q) (ρ := ρ) (L := L) hL.1 (by omega) hw), ↓b2e (x_vowelsOf (q := q) (ρ := ρ) (L := L) hL w2 hw)]
    · rintro t' q ρ L I ⟨hT, hL, hD, hP, hS, hU, hK, hR⟩
      simp (disch := first | omega | assumption) only [f_X11_word, ↓bM, ↓bMA, ↓jn_, ↓ob_, ↓b2_, ↓reduceIte, nn_lt, nn_le, nn_eq, nI_add, pk_mul, nn_su, gn_lt, gn_le, ng_lt, ng_le, ng_eq, gn_eq, gg_eq, n_m1, n_cl, if_true, if_false, if_pos, if_neg, lt0, ↓b2e (m_isW1 (q := q) (ρ := ρ) (L := L) hL.1 (by omega) hw), m_in, ↓b2e (m_vowelsIn (q := q) (ρ := ρ) (L := L) hL w2 hw)]
  · refine cx (nI (lxA (gLx G) w)) ?_ ?_
    · rintro q ρ L I ⟨⟨hT, hL, hD, hP, hS, hU, hK, hR, hρ⟩, hW⟩
      simp (disch := first | omega | assumption) only [f_X10_word, ↓bX, ↓bXA, ↓jn_, ↓ob_, ↓b2_, ↓reduceIte, nn_lt, nn_le, nn_eq, nI_add, pk_mul, nn_su, gn_lt, gn_le, ng_lt, ng_le, ng_eq, gn_eq, gg_eq, n_m1, n_cl, if_true, if_false, if_pos, if_neg, lt0, ↓b2e (x_isW1 (q := q) (ρ := ρ) (L := L) hL.1 (by omega) hw), (hL.2 w hw).1.2.1]
    · rintro t' q ρ L I ⟨hT, hL, hD, hP, hS, hU, hK, hR⟩
      simp (disch := first | omega | assumption) only [f_X11_word, ↓bM, ↓bMA, ↓jn_, ↓ob_, ↓b2_, ↓reduceIte, nn_lt, nn_le, nn_eq, nI_add, pk_mul, nn_su, gn_lt, gn_le, ng_lt, ng_le, ng_eq, gn_eq, gg_eq, n_m1, n_cl, if_true, if_false, if_pos, if_neg, lt0, ↓b2e (m_isW1 (q := q) (ρ := ρ) (L := L) hL.1 (by omega) hw), m_in, Nat.add_sub_cancel, (hL.2 w hw).1.2.1]
  · refine cx (lxB (gLx G) w) ?_ ?_
    · rintro q ρ L I ⟨⟨hT, hL, hD, hP, hS, hU, hK, hR, hρ⟩, hW⟩
      simp (disch := first | omega | assumption) only [f_X10_word, ↓bX, ↓bXA, ↓jn_, ↓ob_, ↓b2_, ↓reduceIte, nn_lt, nn_le, nn_eq, nI_add, pk_mul, nn_su, gn_lt, gn_le, ng_lt, ng_le, ng_eq, gn_eq, gg_eq, n_m1, n_cl, if_true, if_false, if_pos, if_neg, lt0, ↓b2e (x_isW1 (q := q) (ρ := ρ) (L := L) hL.1 (by omega) hw), (hL.2 w hw).1.2.2.1]
    · rintro t' q ρ L I ⟨hT, hL, hD, hP, hS, hU, hK, hR⟩
      have e := (hL.2 w hw).1.2.2
      rw [show 2 * w + 1 = 2 * w + 3 - 2 by omega] at e
      simp (disch := first | omega | assumption) only [f_X11_word, ↓bM, ↓bMA, ↓jn_, ↓ob_, ↓b2_, ↓reduceIte, nn_lt, nn_le, nn_eq, nI_add, pk_mul, nn_su, gn_lt, gn_le, ng_lt, ng_le, ng_eq, gn_eq, gg_eq, n_m1, n_cl, if_true, if_false, if_pos, if_neg, lt0, ↓b2e (m_isW1 (q := q) (ρ := ρ) (L := L) hL.1 (by omega) hw), m_in, e]
  · refine cx (nI (oft (lxL (gLx G) w) (lxN (gLx G) w) 0)) ?_ ?_
    · rintro q ρ L I ⟨⟨hT, hL, hD, hP, hS, hU, hK, hR, hρ⟩, hW⟩
      simp (disch := first | omega | assumption) only [f_X10_word, ↓bX, ↓bXA, ↓jn_, ↓ob_, ↓b2_, ↓reduceIte, nn_lt, nn_le, nn_eq, nI_add, pk_mul, nn_su, gn_lt, gn_le, ng_lt, ng_le, ng_eq, gn_eq, gg_eq, n_m1, n_cl, if_true, if_false, if_pos, if_neg, lt0, ↓b2e (x_isW1 (q := q) (ρ := ρ) (L := L) hL.1 (by omega) hw), x_heardIn hL w2 hw]
    · rintro t' q ρ L I ⟨hT, hL, hD, hP, hS, hU, hK, hR⟩
      simp (disch := first | omega | assumption) only [f_X11_word, ↓bM, ↓bMA, ↓jn_, ↓ob_, ↓b2_, ↓reduceIte, nn_lt, nn_le, nn_eq, nI_add, pk_mul, nn_su, gn_lt, gn_le, ng_lt, ng_le, ng_eq, gn_eq, gg_eq, n_m1, n_cl, if_true, if_false, if_pos, if_neg, lt0, ↓b2e (m_isW1 (q := q) (ρ := ρ) (L := L) hL.1 (by omega) hw), m_in, m_often hL w2 hw]
  · refine cx (nI (oft (lxL (gLx G) w) (lxN (gLx G) w) 1)) ?_ ?_
    · rintro q ρ L I ⟨⟨hT, hL, hD, hP, hS, hU, hK, hR, hρ⟩, hW⟩
      simp (disch := first | omega | assumption) only [f_X10_word, ↓bX, ↓bXA, ↓jn_, ↓ob_, ↓b2_, ↓reduceIte, nn_lt, nn_le, nn_eq, nI_add, pk_mul, nn_su, gn_lt, gn_le, ng_lt, ng_le, ng_eq, gn_eq, gg_eq, n_m1, n_cl, if_true, if_false, if_pos, if_neg, lt0, ↓b2e (x_isW1 (q := q) (ρ := ρ) (L := L) hL.1 (by omega) hw), x_heardIn hL w2 hw]
    · rintro t' q ρ L I ⟨hT, hL, hD, hP, hS, hU, hK, hR⟩
      simp (disch := first | omega | assumption) only [f_X11_word, ↓bM, ↓bMA, ↓jn_, ↓ob_, ↓b2_, ↓reduceIte, nn_lt, nn_le, nn_eq, nI_add, pk_mul, nn_su, gn_lt, gn_le, ng_lt, ng_le, ng_eq, gn_eq, gg_eq, n_m1, n_cl, if_true, if_false, if_pos, if_neg, lt0, ↓b2e (m_isW1 (q := q) (ρ := ρ) (L := L) hL.1 (by omega) hw), m_in, m_often hL w2 hw]
  · refine cx (nI (oft (lxL (gLx G) w) (lxN (gLx G) w) 2)) ?_ ?_
    · rintro q ρ L I ⟨⟨hT, hL, hD, hP, hS, hU, hK, hR, hρ⟩, hW⟩
      simp (disch := first | omega | assumption) only [f_X10_word, ↓bX, ↓bXA, ↓jn_, ↓ob_, ↓b2_, ↓reduceIte, nn_lt, nn_le, nn_eq, nI_add, pk_mul, nn_su, gn_lt, gn_le, ng_lt, ng_le, ng_eq, gn_eq, gg_eq, n_m1, n_cl, if_true, if_false, if_pos, if_neg, lt0, ↓b2e (x_isW1 (q := q) (ρ := ρ) (L := L) hL.1 (by omega) hw), x_heardIn hL w2 hw]
    · rintro t' q ρ L I ⟨hT, hL, hD, hP, hS, hU, hK, hR⟩
      simp (disch := first | omega | assumption) only [f_X11_word, ↓bM, ↓bMA, ↓jn_, ↓ob_, ↓b2_, ↓reduceIte, nn_lt, nn_le, nn_eq, nI_add, pk_mul, nn_su, gn_lt, gn_le, ng_lt, ng_le, ng_eq, gn_eq, gg_eq, n_m1, n_cl, if_true, if_false, if_pos, if_neg, lt0, ↓b2e (m_isW1 (q := q) (ρ := ρ) (L := L) hL.1 (by omega) hw), m_in, m_often hL w2 hw]
  · refine cx (nI (oft (lxL (gLx G) w) (lxN (gLx G) w) 3)) ?_ ?_
    · rintro q ρ L I ⟨⟨hT, hL, hD, hP, hS, hU, hK, hR, hρ⟩, hW⟩
      simp (disch := first | omega | assumption) only [f_X10_word, ↓bX, ↓bXA, ↓jn_, ↓ob_, ↓b2_, ↓reduceIte, nn_lt, nn_le, nn_eq, nI_add, pk_mul, nn_su, gn_lt, gn_le, ng_lt, ng_le, ng_eq, gn_eq, gg_eq, n_m1, n_cl, if_true, if_false, if_pos, if_neg, lt0, ↓b2e (x_isW1 (q := q) (ρ := ρ) (L := L) hL.1 (by omega) hw), x_heardIn hL w2 hw]
    · rintro t' q ρ L I ⟨hT, hL, hD, hP, hS, hU, hK, hR⟩
      simp (disch := first | omega | assumption) only [f_X11_word, ↓bM, ↓bMA, ↓jn_, ↓ob_, ↓b2_, ↓reduceIte, nn_lt, nn_le, nn_eq, nI_add, pk_mul, nn_su, gn_lt, gn_le, ng_lt, ng_le, ng_eq, gn_eq, gg_eq, n_m1, n_cl, if_true, if_false, if_pos, if_neg, lt0, ↓b2e (m_isW1 (q := q) (ρ := ρ) (L := L) hL.1 (by omega) hw), m_in, m_often hL w2 hw]
  · refine cx (nI (oft (lxL (gLx G) w) (lxN (gLx G) w) 4)) ?_ ?_
    · rintro q ρ L I ⟨⟨hT, hL, hD, hP, hS, hU, hK, hR, hρ⟩, hW⟩
      simp (disch := first | omega | assumption) only [f_X10_word, ↓bX, ↓bXA, ↓jn_, ↓ob_, ↓b2_, ↓reduceIte, nn_lt, nn_le, nn_eq, nI_add, pk_mul, nn_su, gn_lt, gn_le, ng_lt, ng_le, ng_eq, gn_eq, gg_eq, n_m1, n_cl, if_true, if_false, if_pos, if_neg, lt0, ↓b2e (x_isW1 (q := q) (ρ := ρ) (L := L) hL.1 (by omega) hw), x_heardIn hL w2 hw]
    · rintro t' q ρ L I ⟨hT, hL, hD, hP, hS, hU, hK, hR⟩
      simp (disch := first | omega | assumption) only [f_X11_word, ↓bM, ↓bMA, ↓jn_, ↓ob_, ↓b2_, ↓reduceIte, nn_lt, nn_le, nn_eq, nI_add, pk_mul, nn_su, gn_lt, gn_le, ng_lt, ng_le, ng_eq, gn_eq, gg_eq, n_m1, n_cl, if_true, if_false, if_pos, if_neg, lt0, ↓b2e (m_isW1 (q := q) (ρ := ρ) (L := L) hL.1 (by omega) hw), m_in, m_often hL w2 hw]
