/-! WORDS: the call -/
theorem m_w99 {q : pQ} {ρ : pP} {L : pL} {I : pI} {W j : Nat} {x1 : Int32} (hWj : W < 10) (hj : j < 10) (h2 : I 129 2 = nI W) {kk : jH → Option (Int32 × jH)} : ∃ J, f_X11_words_L99 5000 129 x1 (nI j) kk 5000 (nI 0) (hp q ρ L I) = kk (hp q ρ L J) ∧ (∀ i, i < 6 → J 131 (6 * W + i) = (I 137 (6 * j + i)).toInt8.toInt32) ∧ (∀ c, c < 6 * W → J 131 c = I 131 c) ∧ ∀ b, b ≠ 131 → J b = I b := by
  obtain ⟨J, e1, e2⟩ := loE (fun m (z : pI) i => f_X11_words_L99 5000 129 x1 (nI j) kk m (nI i) (hp q ρ L z)) (fun z => kk (hp q ρ L z)) 6 (fun i z => (∀ c, c < i → z 131 (6 * W + c) = (I 137 (6 * j + c)).toInt8.toInt32) ∧ (∀ c, c < 6 * W → z 131 c = I 131 c) ∧ ∀ b, b ≠ 131 → z b = I b) (by
    intro m z p
    rw [f_X11_words_L99]
    simp (disch := first | omega | assumption) only [↓bM, ↓bMA, ↓jn_, ↓ob_, ↓b2_, ↓reduceIte, nn_lt, nn_le, nn_eq, nI_add, pk_mul, nn_su, gn_lt, gn_le, ng_lt, ng_le, ng_eq, gn_eq, gg_eq, n_m1, n_cl, if_true, if_false, if_pos, if_neg, lt0]) (by
    rintro m z i hi ⟨p1, p2, p3⟩
    have z2 : z 129 2 = nI W := by rw [p3 129 (by omega)]; exact h2
    have z7 : z 137 = I 137 := p3 137 (by omega)
    refine ⟨j_up z 131 (6 * W + i) (I 137 (6 * j + i)).toInt8.toInt32, ?_, fun c hc => ?_, fun c hc => ?_, fun b hb => by rw [up_ne hb]; exact p3 b hb⟩
    · rw [f_X11_words_L99]
      simp (disch := first | omega | assumption) only [↓bM, ↓bMA, ↓jn_, ↓ob_, ↓b2_, ↓reduceIte, nn_lt, nn_le, nn_eq, nI_add, pk_mul, nn_su, gn_lt, gn_le, ng_lt, ng_le, ng_eq, gn_eq, gg_eq, n_m1, n_cl, if_true, if_false, if_pos, if_neg, lt0, z2, z7]
    · by_cases e : c = i
      · rw [e, up_eq]
      · rw [up_nk (by omega)]
        exact p1 c (by omega)
    · rw [up_nk (by omega)]
      exact p2 c hc) 6 5000 I 0 (by omega) (by omega) ⟨fun c hc => absurd hc (Nat.not_lt_zero c), fun c _ => rfl, fun b _ => rfl⟩
  exact ⟨J, e1, e2⟩
theorem m_wZ {q : pQ} {ρ : pP} {L : pL} {I : pI} {W K : Nat} (hWK : W + K ≤ 10) (h2 : I 129 2 = nI W) {kk : jH → Option (Int32 × jH)} : ∃ J, f_X11_words_L91 5000 129 (nI K) kk 5000 (nI 0) (hp q ρ L I) = kk (hp q ρ L J) ∧ J 129 2 = nI (W + K) ∧ (∀ t, t < K → J 132 (W + t) = I 138 t ∧ J 133 (2 * (W + t)) = I 139 (2 * t) ∧ J 133 (2 * (W + t) + 1) = I 139 (2 * t + 1) ∧ ∀ i, i < 6 → J 131 (6 * (W + t) + i) = (I 137 (6 * t + i)).toInt8.toInt32) ∧ ((∀ c, c < W → J 132 c = I 132 c) ∧ (∀ c, c < 2 * W → J 133 c = I 133 c) ∧ ∀ c, c < 6 * W → J 131 c = I 131 c) ∧ (∀ k, k ≠ 2 → J 129 k = I 129 k) ∧ ∀ b, b ≠ 129 → b ≠ 131 → b ≠ 132 → b ≠ 133 → J b = I b := by
  obtain ⟨J, e1, e2⟩ := loE (fun m (z : pI) j => f_X11_words_L91 5000 129 (nI K) kk m (nI j) (hp q ρ L z)) (fun z => kk (hp q ρ L z)) K (fun j z => z 129 2 = nI (W + j) ∧ (∀ t, t < j → z 132 (W + t) = I 138 t ∧ z 133 (2 * (W + t)) = I 139 (2 * t) ∧ z 133 (2 * (W + t) + 1) = I 139 (2 * t + 1) ∧ ∀ i, i < 6 → z 131 (6 * (W + t) + i) = (I 137 (6 * t + i)).toInt8.toInt32) ∧ ((∀ c, c < W → z 132 c = I 132 c) ∧ (∀ c, c < 2 * W → z 133 c = I 133 c) ∧ ∀ c, c < 6 * W → z 131 c = I 131 c) ∧ (∀ k, k ≠ 2 → z 129 k = I 129 k) ∧ ∀ b, b ≠ 129 → b ≠ 131 → b ≠ 132 → b ≠ 133 → z b = I b) (by
    intro m z p
    rw [f_X11_words_L91]
    simp (disch := first | omega | assumption) only [↓bM, ↓bMA, ↓jn_, ↓ob_, ↓b2_, ↓reduceIte, nn_lt, nn_le, nn_eq, nI_add, pk_mul, nn_su, gn_lt, gn_le, ng_lt, ng_le, ng_eq, gn_eq, gg_eq, n_m1, n_cl, if_true, if_false, if_pos, if_neg, lt0]) (by
    rintro m z j hj ⟨p1, p2, ⟨p3, p4, p5⟩, p6, p7⟩
    obtain ⟨Y, y1, y2, y3, y4⟩ := m_w99 (q := q) (ρ := ρ) (L := L) (x1 := nI K) (W := W + j) (j := j) (by omega) (by omega) p1 (kk := fun (h23 : jH) =>
        (jg_R 11 4 h23 129).bind (fun v24 =>
        (jg_I 11 2 h23 129).bind (fun v25 =>
        (jg_R 11 20 h23 129).bind (fun v26 =>
        (ja_I 100 h23 v26 (nI j)).bind (fun v27 =>
        (jb_I 100 h23 v24 v25 v27).bind (fun h28 =>
        (jg_R 11 5 h28 129).bind (fun v29 =>
        (jg_I 11 2 h28 129).bind (fun v30 =>
        (jg_R 11 21 h28 129).bind (fun v31 =>
        (ja_I 100 h28 v31 (nI 2 * nI j)).bind (fun v32 =>
        (jb_I 100 h28 v29 (nI 2 * v30) v32).bind (fun h33 =>
        (jg_R 11 5 h33 129).bind (fun v34 =>
        (jg_I 11 2 h33 129).bind (fun v35 =>
        (jg_R 11 21 h33 129).bind (fun v36 =>
        (ja_I 100 h33 v36 (nI 2 * nI j + nI 1)).bind (fun v37 =>
        (jb_I 100 h33 v34 (nI 2 * v35 + nI 1) v37).bind (fun h38 =>
        (jg_I 11 2 h38 129).bind (fun v39 =>
        (jp_I 11 2 h38 129 (v39 + nI 1)).bind (fun h40 =>
        f_X11_words_L91 5000 129 (nI K) kk m (nI j + nI 1) h40))))))))))))))))))
    have q2 : Y 129 2 = nI (W + j) := by rw [y4 129 (by omega)]; exact p1
    have q8 : Y 138 = I 138 := by rw [y4 138 (by omega), p7 138 (by omega) (by omega) (by omega) (by omega)]
    have q9 : Y 139 = I 139 := by rw [y4 139 (by omega), p7 139 (by omega) (by omega) (by omega) (by omega)]
    have q7 : z 137 = I 137 := p7 137 (by omega) (by omega) (by omega) (by omega)
    rw [q7] at y2
    obtain ⟨X, hX⟩ : ∃ X, X = j_up (j_up (j_up (j_up Y 132 (W + j) (I 138 j)) 133 (2 * (W + j)) (I 139 (2 * j))) 133 (2 * (W + j) + 1) (I 139 (2 * j + 1))) 129 2 (nI (W + j + 1)) := ⟨_, rfl⟩
    have x132 : ∀ c, X 132 c = if c = W + j then I 138 j else z 132 c := fun c => by
      rw [hX, up_ne (by omega), up_ne (by omega), up_ne (by omega)]
      by_cases e : c = W + j
      · rw [if_pos e, e, up_eq]
      · rw [if_neg e, up_nk e, y4 132 (by omega)]
    have x133 : ∀ c, X 133 c = if c = 2 * (W + j) + 1 then I 139 (2 * j + 1) else if c = 2 * (W + j) then I 139 (2 * j) else z 133 c := fun c => by
      rw [hX, up_ne (by omega)]
      by_cases e : c = 2 * (W + j) + 1
      · rw [if_pos e, e, up_eq]
      · rw [if_neg e, up_nk e]
        by_cases e' : c = 2 * (W + j)
        · rw [if_pos e', e', up_eq]
        · rw [if_neg e', up_nk e', up_ne (by omega), y4 133 (by omega)]
    have x131 : X 131 = Y 131 := by rw [hX, up_ne (by omega), up_ne (by omega), up_ne (by omega), up_ne (by omega)]
    refine ⟨X, ?_, by rw [hX, up_eq]; rfl, fun t ht => ?_, ⟨fun c hc => ?_, fun c hc => ?_, fun c hc => ?_⟩, fun k hk => ?_, fun b b1 b2 b3 b4 => ?_⟩
    · rw [f_X11_words_L91]
      simp (disch := first | omega | assumption) only [lt0, nn_le, if_neg]
      rw [y1, hX]
      simp (disch := first | omega | assumption) only [↓bM, ↓bMA, ↓jn_, ↓ob_, ↓b2_, ↓reduceIte, nn_lt, nn_le, nn_eq, nI_add, pk_mul, nn_su, gn_lt, gn_le, ng_lt, ng_le, ng_eq, gn_eq, gg_eq, n_m1, n_cl, if_true, if_false, if_pos, if_neg, lt0, q2, q8, q9, up_ne]
    · rw [x132, x133, x133, x131]
      by_cases e : t = j
      · subst e
        rw [if_pos rfl, if_neg (by omega), if_pos rfl, if_pos rfl]
        exact ⟨rfl, rfl, rfl, y2⟩
      · rw [if_neg (by omega), if_neg (by omega), if_neg (by omega), if_neg (by omega), if_neg (by omega)]
        obtain ⟨r1, r2, r3, r4⟩ := p2 t (by omega)
        exact ⟨r1, r2, r3, fun i hi => by rw [y3 _ (by omega)]; exact r4 i hi⟩
    · rw [x132, if_neg (by omega)]
      exact p3 c hc
    · rw [x133, if_neg (by omega), if_neg (by omega)]
      exact p4 c hc
    · rw [x131, y3 _ (by omega)]
      exact p5 c hc
    · rw [hX, up_nk hk, up_ne (by omega), up_ne (by omega), up_ne (by omega), y4 129 (by omega)]
      exact p6 k hk
    · rw [hX, up_ne b1, up_ne b4, up_ne b4, up_ne b3, y4 b b2]
      exact p7 b b1 b2 b3 b4) K 5000 I 0 (by omega) (by omega) ⟨h2, fun t ht => absurd ht (Nat.not_lt_zero t), ⟨fun c _ => rfl, fun c _ => rfl, fun c _ => rfl⟩, fun k _ => rfl, fun b _ _ _ _ => rfl⟩
  exact ⟨J, e1, e2⟩
