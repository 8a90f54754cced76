/-! A RULE IS READ: the reference -/
theorem m_readR {q : pQ} {ρ : pP} {L : pL} {I : pI} {g : gT} (hT : MT g I) (w : WT g) : ∃ p x bb, f_X11_readRule 5000 129 (hp q ρ L I) = some (bo bb, hp q (rr ρ (some 135)) L (mp (j_up (bgn I g.1 40) 129 25 (nI 0)) p x)) ∧ (bb = true ↔ cmpOk g) ∧ (bb = false → x = nI (cmpP g)) := by
  have h80 := w.1
  have bg := m_begin (q := q) (ρ := ρ) (L := L) (m := 40) hT.1
  have hR0 := RdM_of (ρ := ρ) (m := 40) hT w (by omega)
  have hR : RdM (rr ρ (some 135)) (j_up (bgn I g.1 40) 129 25 (nI 0)) g.2 (min g.1 40) := RdM_k hR0 (by rw [up_nk (by omega)]) (by rw [up_nk (by omega)]) (fun b hb => up_ne (by omega))
  have h15 : j_up (bgn I g.1 40) 129 25 (nI 0) 129 15 = nI g.1 := by rw [up_nk (by omega)]; exact bgn_15
  by_cases h0 : g.1 = 0
  · have ok : cmpOk g := .inl h0
    have rt := m_right (q := q) (ρ := rr ρ (some 135)) (L := L) (p := 0) h15 h80 (by omega)
    rw [if_pos (by omega)] at rt
    refine ⟨0, -nI 1, true, ?_, ⟨fun _ => ok, fun _ => rfl⟩, fun h => (by cases h)⟩
    rw [h0] at h15 rt bg ⊢
    simp (disch := first | omega | assumption) only [f_X11_readRule, ↓bM, ↓bMA, ↓jn_, ↓ob_, ↓b2_, ↓reduceIte, nn_lt, nn_le, nn_eq, nI_add, pk_mul, nn_su, gn_lt, gn_le, ng_lt, ng_le, ng_eq, gn_eq, gg_eq, n_m1, n_cl, if_true, if_false, if_pos, if_neg, lt0, ↓oe bg, mp_co, mp_nk, h15, ↓b2e rt, jrz_1, bo_t]
  · obtain ⟨o, ho⟩ : ∃ o, o = pExp g.2 (min g.1 40) 4 0 := ⟨_, rfl⟩
    have gd := Gd_exp (f := g.2) (n := min g.1 40) 4 0 (by omega)
    have hP : cmpP g = o.2.1 := by rw [ho]; exact if_neg h0
    have hok : cmpOk g ↔ (o.1 = true ∧ o.2.1 = g.1) := by
      rw [ho]
      exact ⟨fun h => h.resolve_left h0, fun h => .inr h⟩
    obtain ⟨v, e1, e2⟩ := h_exp (q := q) (L := L) (fx := fun _ => nI 0) hR (by omega) (.inl ⟨up_eq, fun _ => rfl⟩) 4 0 400 (by omega) (by omega) 0 (by omega)
    rw [← ho] at e1 gd
    have he : f_X11_held 5000 129 (nI 0) (hp q (rr ρ (some 135)) L (mp (j_up (bgn I g.1 40) 129 25 (nI 0)) 0 (-nI 1))) = some (v, hp q (rr ρ (some 135)) L (mp (j_up (bgn I g.1 40) 129 25 (nI 0)) o.2.1 (mW o))) := e1
    cases h1 : o.1 with
    | false =>
      have hw : mW o = nI o.2.1 := by unfold mW; rw [h1]; rfl
      rw [hw] at he
      have rt := m_wrong (q := q) (ρ := rr ρ (some 135)) (L := L) (p := o.2.1) (x := o.2.1) h15 h80 (by omega) (by omega)
      refine ⟨o.2.1, nI o.2.1, false, ?_, ⟨fun h => (by cases h), fun h => by rw [hok, h1] at h; cases h.1⟩, fun _ => by rw [hP]⟩
      simp (disch := first | omega | assumption) only [f_X11_readRule, ↓bM, ↓bMA, ↓jn_, ↓ob_, ↓b2_, ↓reduceIte, nn_lt, nn_le, nn_eq, nI_add, pk_mul, nn_su, gn_lt, gn_le, ng_lt, ng_le, ng_eq, gn_eq, gg_eq, n_m1, n_cl, if_true, if_false, if_pos, if_neg, lt0, ↓oe bg, mp_co, mp_nk, h15, ↓b2e he, ↓b2e rt, jrz_0, bo_f]
    | true =>
      have hw : mW o = -nI 1 := by unfold mW; rw [h1]; rfl
      rw [hw] at he
      have rt := m_right (q := q) (ρ := rr ρ (some 135)) (L := L) (p := o.2.1) h15 h80 (by omega)
      by_cases h2 : o.2.1 = g.1
      · rw [if_pos (by omega)] at rt
        refine ⟨o.2.1, -nI 1, true, ?_, ⟨fun _ => hok.mpr ⟨h1, h2⟩, fun _ => rfl⟩, fun h => (by cases h)⟩
        simp (disch := first | omega | assumption) only [f_X11_readRule, ↓bM, ↓bMA, ↓jn_, ↓ob_, ↓b2_, ↓reduceIte, nn_lt, nn_le, nn_eq, nI_add, pk_mul, nn_su, gn_lt, gn_le, ng_lt, ng_le, ng_eq, gn_eq, gg_eq, n_m1, n_cl, if_true, if_false, if_pos, if_neg, lt0, ↓oe bg, mp_co, mp_nk, h15, ↓b2e he, ↓b2e rt, jrz_1, bo_t]
      · rw [if_neg (by omega)] at rt
        refine ⟨o.2.1, nI o.2.1, false, ?_, ⟨fun h => (by cases h), fun h => absurd (hok.mp h).2 h2⟩, fun _ => by rw [hP]⟩
        simp (disch := first | omega | assumption) only [f_X11_readRule, ↓bM, ↓bMA, ↓jn_, ↓ob_, ↓b2_, ↓reduceIte, nn_lt, nn_le, nn_eq, nI_add, pk_mul, nn_su, gn_lt, gn_le, ng_lt, ng_le, ng_eq, gn_eq, gg_eq, n_m1, n_cl, if_true, if_false, if_pos, if_neg, lt0, ↓oe bg, mp_co, mp_nk, h15, ↓b2e he, ↓b2e rt, jrz_0, bo_f]
