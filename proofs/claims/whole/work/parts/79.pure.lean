/-! A RULE IS READ: the class -/
theorem x_none {q : pQ} {ρ : pP} {L : pL} {I : pI} {A p : Nat} (hA : A = 119 ∨ A = 124) : f_X8_becomeNone 5000 A (hp q ρ L (ap I p)) = some (hp q ρ L (ap (cw I A [nI 1000, nI 1, nI 2043]) p)) := by
  have e : j_up (j_up (j_up (j_up I (A + 2) 0 (nI 1000)) (A + 2) 1 (nI 1)) (A + 2) 2 (nI 2043)) A 4 (nI 3) = cw I A [nI 1000, nI 1, nI 2043] := by
    funext b k
    simp only [j_up, cw, List.length_cons, List.length_nil]
    by_cases h1 : b = A
    · by_cases h2 : k = 4
      · simp only [h1, h2, and_self, if_true]
      · have h3 : ¬ A = A + 2 := by omega
        simp only [h1, h2, h3, and_false, false_and, if_false, if_true]
    · by_cases h2 : b = A + 2
      · subst h2
        rcases (show k = 0 ∨ k = 1 ∨ k = 2 ∨ 3 ≤ k by omega) with rfl | rfl | rfl | h3
        · simp [h1]
        · simp [h1]
        · simp [h1]
        · have a0 : ¬ k = 0 := by omega
          have a1 : ¬ k = 1 := by omega
          have a2 : ¬ k = 2 := by omega
          have a3 : ¬ k < 3 := by omega
          simp [h1, a0, a1, a2, a3]
      · simp only [h1, h2, false_and, if_false]
  simp (disch := first | omega | assumption) only [f_X8_becomeNone, kT hA, ob_, b2_, jn_, nn_lt, nn_le, nn_eq, nI_add, pk_mul, nn_su, gn_lt, gn_le, ng_lt, ng_le, ng_eq, gn_eq, gg_eq, n_m1, n_cl, if_true, if_false, if_pos, if_neg, ite_self, lt0, ap_co]
  rw [← e]
theorem cw_nil {I : pI} {A : Nat} : j_up I A 4 (nI 0) = cw I A [] := by
  funext b k
  simp only [j_up, cw, List.length_nil]
  by_cases h1 : b = A <;> by_cases h2 : k = 4 <;> simp [h1, h2]
theorem x_read {q : pQ} {ρ : pP} {L : pL} {I : pI} {A T : Nat} {f : Nat → Nat} (hA : A = 119 ∨ A = 124) (hT : I 1 1 = nI T) (hT80 : T ≤ 80) (hR : Rd I f (min T 40)) : ∃ c bb, f_X8_read 5000 A 1 (hp q ρ L (ap I 0)) = some (bo bb, hp q ρ L (ap (cw I A c) (cmpP (T, f)))) ∧ (bb = true ↔ cmpOk (T, f)) ∧ (cmpOk (T, f) → c = cmp (T, f)) ∧ cmpP (T, f) ≤ min T 40 := by
  have ov := x_isOver (q := q) (ρ := ρ) (L := L) (p := 0) hT hT80 (by omega)
  by_cases h0 : T = 0
  · subst h0
    have ok : cmpOk (0, f) := .inl rfl
    have hP : cmpP (0, f) = 0 := if_pos rfl
    have hC : cmp (0, f) = [nI 1000, nI 1, nI 2043] := if_pos rfl
    refine ⟨[nI 1000, nI 1, nI 2043], true, ?_, ⟨fun _ => ok, fun _ => rfl⟩, fun _ => hC.symm, by rw [hP]; omega⟩
    rw [if_pos rfl] at ov
    rw [hP, bo_t]
    simp (disch := first | omega | assumption) only [f_X8_read, kT hA, ob_, b2_, jn_, nn_lt, nn_le, nn_eq, nI_add, pk_mul, nn_su, gn_lt, gn_le, ng_lt, ng_le, ng_eq, gn_eq, gg_eq, n_m1, n_cl, if_true, if_false, if_pos, if_neg, ite_self, lt0, ov, x_none hA]
  · rw [if_neg (by omega)] at ov
    obtain ⟨o, ho⟩ : ∃ o, o = pExp f (min T 40) 4 0 := ⟨_, rfl⟩
    have g := Gd_exp (f := f) (n := min T 40) 4 0 (by omega)
    have hP : cmpP (T, f) = o.2.1 := by rw [ho]; exact if_neg h0
    have hok : cmpOk (T, f) ↔ (o.1 = true ∧ o.2.1 = T) := by
      rw [ho]
      exact ⟨fun h => h.resolve_left h0, fun h => .inr h⟩
    have e := r_exp (q := q) (ρ := ρ) (L := L) hA hR (by omega) 4 0 375 (by omega) [] 0 (by omega) (Nat.le_refl 0)
    rw [← ho, show 375 + 5 * (4 + 1) = 400 from rfl] at e
    rw [← ho] at g
    unfold pEnd at e
    rw [List.nil_append] at e
    have ov2 := x_isOver (q := q) (ρ := ρ) (L := L) (I := cw I A o.2.2) (p := o.2.1) (T := T) (by rw [cw_ne (by omega) (by omega)]; exact hT) hT80 (by omega)
    have hcc : cmpOk (T, f) → o.2.2 = cmp (T, f) := fun h => by
      obtain ⟨h1, h2⟩ := hok.mp h
      have : min T 40 = T := by omega
      rw [ho, this]
      exact (if_neg h0).symm
    have hPl : cmpP (T, f) ≤ min T 40 := by rw [hP]; exact g.2.1
    refine ⟨o.2.2, o.1 && decide (o.2.1 = T), ?_, ?_, hcc, hPl⟩
    rotate_left
    · rw [hok, Bool.and_eq_true, decide_eq_true_iff]
    · rw [hP]
      cases h1 : o.1 with
      | false =>
        rw [h1, bo_f] at e
        rw [Bool.false_and, bo_f]
        simp (disch := first | omega | assumption) only [f_X8_read, f_X8_readComparison, kT hA, ob_, b2_, jn_, nn_lt, nn_le, nn_eq, nI_add, pk_mul, nn_su, gn_lt, gn_le, ng_lt, ng_le, ng_eq, gn_eq, gg_eq, n_m1, n_cl, if_true, if_false, if_pos, if_neg, ite_self, lt0, ov, ap_co]
        rw [cw_nil, e, b2]
        simp (disch := first | omega | assumption) only [if_true]
      | true =>
        rw [h1, bo_t] at e
        by_cases h2 : o.2.1 = T
        · rw [decide_eq_true h2, Bool.and_self, bo_t]
          rw [if_pos h2] at ov2
          simp (disch := first | omega | assumption) only [f_X8_read, f_X8_readComparison, kT hA, ob_, b2_, jn_, nn_lt, nn_le, nn_eq, nI_add, pk_mul, nn_su, gn_lt, gn_le, ng_lt, ng_le, ng_eq, gn_eq, gg_eq, n_m1, n_cl, if_true, if_false, if_pos, if_neg, ite_self, lt0, ov, ap_co]
          rw [cw_nil, e, b2]
          simp (disch := first | omega | assumption) only [ob_, b2_, jn_, nn_lt, nn_le, nn_eq, nI_add, pk_mul, nn_su, gn_lt, gn_le, ng_lt, ng_le, ng_eq, gn_eq, gg_eq, n_m1, n_cl, if_true, if_false, if_pos, if_neg, ite_self, lt0, ov2]
        · rw [decide_eq_false h2, Bool.and_false, bo_f]
          rw [if_neg h2] at ov2
          simp (disch := first | omega | assumption) only [f_X8_read, f_X8_readComparison, kT hA, ob_, b2_, jn_, nn_lt, nn_le, nn_eq, nI_add, pk_mul, nn_su, gn_lt, gn_le, ng_lt, ng_le, ng_eq, gn_eq, gg_eq, n_m1, n_cl, if_true, if_false, if_pos, if_neg, ite_self, lt0, ov, ap_co]
          rw [cw_nil, e, b2]
          simp (disch := first | omega | assumption) only [ob_, b2_, jn_, nn_lt, nn_le, nn_eq, nI_add, pk_mul, nn_su, gn_lt, gn_le, ng_lt, ng_le, ng_eq, gn_eq, gg_eq, n_m1, n_cl, if_true, if_false, if_pos, if_neg, ite_self, lt0, ov2]
