/-! RULE -/
theorem by8_by8 {b : Nat} : (by8 b).toInt8.toInt32 = by8 b := by
  unfold by8
  rw [Int8.toInt8_toInt32]
theorem m_ruL {q : pQ} {ρ : pP} {L : pL} {I : pI} {T : Nat} {f : Nat → Nat} (hT : T ≤ 40) (hρ : ρ.2.2.2.1 = 140) (hf : ∀ k, k < T → I 135 k = by8 (f k)) {kk : jH → Option (Int32 × jH)} : ∃ J, f_X11_rule_L26 5000 129 (nI T) kk 5000 (nI 0) (hp q ρ L I) = kk (hp q ρ L J) ∧ (∀ k, k < T → J 140 k = by8 (f k)) ∧ ∀ b, b ≠ 140 → J b = I b := by
  obtain ⟨J, e1, e2⟩ := loE (fun m (z : pI) j => f_X11_rule_L26 5000 129 (nI T) kk m (nI j) (hp q ρ L z)) (fun z => kk (hp q ρ L z)) T (fun j z => (∀ k, k < j → z 140 k = by8 (f k)) ∧ ∀ b, b ≠ 140 → z b = I b) (by
    intro m z p
    rw [f_X11_rule_L26]
    simp (disch := first | omega | assumption) only [↓bM, ↓bMA, ↓jn_, ↓ob_, ↓b2_, ↓reduceIte, nn_lt, nn_le, nn_eq, nI_add, pk_mul, nn_su, gn_lt, gn_le, ng_lt, ng_le, ng_eq, gn_eq, gg_eq, n_m1, n_cl, if_true, if_false, if_pos, if_neg, lt0]) (by
    rintro m z j hj ⟨p1, p2⟩
    have z5 : z 135 j = by8 (f j) := by rw [p2 135 (by omega)]; exact hf j hj
    refine ⟨j_up z 140 j (by8 (f j)), ?_, fun k hk => ?_, fun b hb => by rw [up_ne hb]; exact p2 b hb⟩
    · rw [f_X11_rule_L26]
      simp (disch := first | omega | assumption) only [↓bM, ↓bMA, ↓jn_, ↓ob_, ↓b2_, ↓reduceIte, nn_lt, nn_le, nn_eq, nI_add, pk_mul, nn_su, gn_lt, gn_le, ng_lt, ng_le, ng_eq, gn_eq, gg_eq, n_m1, n_cl, if_true, if_false, if_pos, if_neg, lt0, hρ, z5, by8_by8]
    · by_cases e : k = j
      · rw [e, up_eq]
      · rw [up_nk e]
        exact p1 k (by omega)) T 5000 I 0 (by omega) (by omega) ⟨fun k hk => absurd hk (Nat.not_lt_zero k), fun b _ => rfl⟩
  exact ⟨J, e1, e2⟩
