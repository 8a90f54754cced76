/-! FORGETTING -/
theorem x_forL {q : pQ} {ρ : pP} {L : pL} {I : pI} (N : Nat) : f_X10_forget_L10 5000 0 (N + 3) (nI 0) (hp q ρ L I) = some (hp q ρ L (j_up (j_up I 102 0 (nI 0)) 102 1 (nI 0))) := by
  simp (disch := first | omega | assumption) only [f_X10_forget_L10, ↓bX, ↓bXA, ↓jn_, ↓ob_, ↓b2_, ↓reduceIte, nn_lt, nn_le, nn_eq, nI_add, pk_mul, nn_su, gn_lt, gn_le, ng_lt, ng_le, ng_eq, gn_eq, gg_eq, n_m1, n_cl, if_true, if_false, if_pos, if_neg, lt0]
theorem x_forget {q : pQ} {ρ : pP} {L : pL} {I : pI} : f_X10_forget 5000 0 (hp q ρ L I) = some (hp q ρ L (j_up (j_up (j_up I 24 2 (nI 0)) 102 0 (nI 0)) 102 1 (nI 0))) := by
  have e := x_forL (q := q) (ρ := ρ) (L := L) (I := j_up I 24 2 (nI 0)) 4997
  rw [f_X10_forget]
  simp (disch := first | omega | assumption) only [↓bX, ↓bXA, ↓jn_, ↓ob_, ↓b2_, ↓reduceIte, nn_lt, nn_le, nn_eq, nI_add, pk_mul, nn_su, gn_lt, gn_le, ng_lt, ng_le, ng_eq, gn_eq, gg_eq, n_m1, n_cl, if_true, if_false, if_pos, if_neg, lt0]
  exact e
theorem XK_none {P : Nat} {J : pI} (h0 : J 102 0 = nI 0) (h1 : J 102 1 = nI 0) : XK (fun _ => none) P J := fun i hi => ⟨fun _ => by
  have : i = 0 ∨ i = 1 := by omega
  rcases this with rfl | rfl
  · exact h0
  · exact h1, fun C hC => by cases hC⟩
theorem XU_0 {g : gU} {P P' : Nat} {I J : pI} (h : XU g P I) (h1 : J 24 1 = I 24 1) (h2 : J 24 2 = nI 0) : XU (0, g.2) P' J := by
  obtain ⟨o, a1, a2, a3, a4⟩ := h
  exact ⟨o, a1, by rw [h1]; exact a2, h2, fun i hi => absurd hi (Nat.not_lt_zero i)⟩
theorem MK_f {g : gK} {P P' t : Nat} {I J : pI} (h : MK g P t I) (h1 : J 129 52 = I 129 52 + nI 1) (h2 : J 159 = I 159) (h3 : J 160 = I 160) : MK (fun _ => none) P' (t + 1) J := by
  obtain ⟨cm, c1, c2, c3⟩ := h
  refine ⟨cm + 1, by omega, by rw [h1, c2, nI_add], fun i hi => ?_⟩
  obtain ⟨kc, d1, d2, d3, d4, d5⟩ := c3 i hi
  exact ⟨kc, by omega, by rw [h3]; exact d2, by rw [h2]; exact d3, fun _ => .inr (by omega), fun C hC => by cases hC⟩
theorem MU_0 {f : Nat → gC} {P : Nat} {J : pI} (h : J 129 29 = nI 0) : MU (0, f) P J := ⟨h, fun i hi => absurd hi (Nat.not_lt_zero i)⟩
theorem WU_0 {f : Nat → gC} {P S : Nat} : WU (0, f) P S := ⟨Nat.zero_le _, fun i hi => absurd hi (Nat.not_lt_zero i)⟩
theorem WK_none {P S : Nat} : WK (fun _ => none) P S := fun i hi C hC => by cases hC
/-! ROAD -/
def mxF (f : Nat → Nat) (n a : Nat) : Nat := fo (fun i a => max a (f i + 1)) 0 n a
theorem mxF_s {f : Nat → Nat} {n a : Nat} : mxF f (n + 1) a = max (mxF f n a) (f n + 1) := by
  unfold mxF
  rw [fo_last, Nat.zero_add]
theorem mxF_le {f : Nat → Nat} {a k : Nat} : ∀ n, mxF f n a ≤ k ↔ a ≤ k ∧ ∀ i, i < n → f i < k
  | 0 => by
    show a ≤ k ↔ _
    exact ⟨fun h => ⟨h, fun i hi => absurd hi (Nat.not_lt_zero i)⟩, fun h => h.1⟩
  | n + 1 => by
    rw [mxF_s, Nat.max_le, mxF_le n]
    refine ⟨fun h => ⟨h.1.1, fun i hi => ?_⟩, fun h => ⟨⟨h.1, fun i hi => h.2 i (by omega)⟩, h.2 n (by omega)⟩⟩
    by_cases hin : i = n
    · subst hin; exact h.2
    · exact h.1.2 i (by omega)
def needs (C : gC) (d : gD) (P : Nat) : Nat := mxF (duP d) (duE d) (mxF (scP C) P 1)
theorem x_needs {q : pQ} {ρ : pP} {L : pL} {I : pI} {C : gC} {d : gD} {P S : Nat} (hC : XS 19 C P I) (hP : I 0 18 = nI P) (hP4 : P ≤ 4) (hD : XD d I) (hd : WD d P S) (hWS : WS C P S) (hS : S ≤ 6) : f_X10_stationsNeeded 5000 0 (hp q ρ L I) = some (nI (needs C d P), hp q ρ L I) := by
  have h8 := hd.1
  have l2 : ∀ a, a ≤ 7 → f_X10_stationsNeeded_L36 5000 0 5000 (nI a) (nI 0) (hp q ρ L I) = some (nI (mxF (duP d) (duE d) a), hp q ρ L I) := by
    intro a ha
    obtain ⟨z, e1, e2, e3⟩ := loE (fun n (s : Nat) j => f_X10_stationsNeeded_L36 5000 0 n (nI s) (nI j) (hp q ρ L I)) (fun s => some (nI s, hp q ρ L I)) (duE d) (fun j s => s = mxF (duP d) j a ∧ s ≤ 7) (by
      intro n s p
      rw [f_X10_stationsNeeded_L36]
      simp (disch := first | omega | assumption) only [↓bX, ↓bXA, ↓jn_, ↓ob_, ↓b2_, ↓reduceIte, nn_lt, nn_le, nn_eq, nI_add, pk_mul, nn_su, gn_lt, gn_le, ng_lt, ng_le, ng_eq, gn_eq, gg_eq, n_m1, n_cl, if_true, if_false, if_pos, if_neg, lt0, hD.1, Nat.le_refl]) (by
      intro n s j hj p
      obtain ⟨p1, p2⟩ := p
      have e : I 16 j = nI (duP d j) := (hD.2 j hj).2.2.1
      have hpS := (hd.2 j hj).2.2.1
      refine ⟨max s (duP d j + 1), ?_, by rw [mxF_s, p1], Nat.max_le.mpr ⟨p2, by omega⟩⟩
      rw [f_X10_stationsNeeded_L36]
      simp (disch := first | omega | assumption) only [↓bX, ↓bXA, ↓jn_, ↓ob_, ↓b2_, ↓reduceIte, nn_lt, nn_le, nn_eq, nI_add, pk_mul, nn_su, gn_lt, gn_le, ng_lt, ng_le, ng_eq, gn_eq, gg_eq, n_m1, n_cl, if_true, if_false, if_pos, if_neg, lt0, hD.1, e, jmax_nn]) (duE d) 5000 a 0 (by omega) (by omega) ⟨rfl, ha⟩
    rw [e1, e2]
  obtain ⟨z, e1, e2, e3⟩ := loE (fun n (s : Nat) j => f_X10_stationsNeeded_L4 5000 0 (fun (y5 : Int32) (h6 : jH) => f_X10_stationsNeeded_L36 5000 0 5000 y5 (nI 0) h6) n (nI s) (nI j) (hp q ρ L I)) (fun s => f_X10_stationsNeeded_L36 5000 0 5000 (nI s) (nI 0) (hp q ρ L I)) P (fun j s => s = mxF (scP C) j 1 ∧ s ≤ 7) (by
    intro n s p
    rw [f_X10_stationsNeeded_L4]
    simp (disch := first | omega | assumption) only [↓bX, ↓bXA, ↓jn_, ↓ob_, ↓b2_, ↓reduceIte, nn_lt, nn_le, nn_eq, nI_add, pk_mul, nn_su, gn_lt, gn_le, ng_lt, ng_le, ng_eq, gn_eq, gg_eq, n_m1, n_cl, if_true, if_false, if_pos, if_neg, lt0, hP, Nat.le_refl]) (by
    intro n s j hj p
    obtain ⟨p1, p2⟩ := p
    have e : I 20 j = nI (scP C j) := (hC.2.1 j hj).1
    have hpS := (hWS j hj).1
    refine ⟨max s (scP C j + 1), ?_, by rw [mxF_s, p1], Nat.max_le.mpr ⟨p2, by omega⟩⟩
    rw [f_X10_stationsNeeded_L4]
    simp (disch := first | omega | assumption) only [↓bX, ↓bXA, ↓jn_, ↓ob_, ↓b2_, ↓reduceIte, nn_lt, nn_le, nn_eq, nI_add, pk_mul, nn_su, gn_lt, gn_le, ng_lt, ng_le, ng_eq, gn_eq, gg_eq, n_m1, n_cl, if_true, if_false, if_pos, if_neg, lt0, hP, e, jmax_nn]) P 5000 1 0 (by omega) (by omega) ⟨rfl, by omega⟩
  simp only [f_X10_stationsNeeded, kX, lt0]
  unfold needs
  rw [← e2]
  exact e1.trans (l2 z e3)
theorem needs_le {C : gC} {d : gD} {P n : Nat} : needs C d P ≤ n ↔ (1 ≤ n ∧ ∀ i, i < P → scP C i < n) ∧ ∀ e, e < duE d → duP d e < n := by
  unfold needs
  rw [mxF_le, mxF_le]
theorem m_ro19 {q : pQ} {ρ : pP} {L : pL} {I : pI} {C : gC} {P n : Nat} (hC : MS 130 0 C P I) (hP : I 129 6 = nI P) (hP4 : P ≤ 4) (hn : n ≤ 6) (hpS : ∀ i, i < P → scP C i < 7) {kk : jH → Option (Int32 × jH)} : (f_X11_road_L19 5000 129 (nI n) kk 5000 (nI 0) (hp q ρ L I) = kk (hp q ρ L I) ∧ ∀ i, i < P → scP C i < n) ∨ (f_X11_road_L19 5000 129 (nI n) kk 5000 (nI 0) (hp q ρ L I) = some (-nI 1, hp q ρ L I) ∧ ¬ ∀ i, i < P → scP C i < n) := by
  refine lq (S := Unit) (fun o => (o = kk (hp q ρ L I) ∧ ∀ i, i < P → scP C i < n) ∨ (o = some (-nI 1, hp q ρ L I) ∧ ¬ ∀ i, i < P → scP C i < n)) (fun m _ j => f_X11_road_L19 5000 129 (nI n) kk m (nI j) (hp q ρ L I)) (fun j _ => ∀ i, i < j → scP C i < n) P ?_ ?_ P 5000 () 0 (by omega) (by omega) (fun i hi => absurd hi (Nat.not_lt_zero i))
  · intro m _ p
    left
    refine ⟨?_, p⟩
    rw [f_X11_road_L19]
    simp (disch := first | omega | assumption) only [↓bM, ↓bMA, ↓jn_, ↓ob_, ↓b2_, ↓reduceIte, nn_lt, nn_le, nn_eq, nI_add, pk_mul, nn_su, gn_lt, gn_le, ng_lt, ng_le, ng_eq, gn_eq, gg_eq, n_m1, n_cl, if_true, if_false, if_pos, if_neg, lt0, hP, Nat.le_refl]
  · intro m _ j hj p K
    have e := (hC.2.1 j hj).1
    rw [Nat.zero_add] at e
    have h7 := hpS j hj
    by_cases h : scP C j < n
    · have := K () (fun i hi => by
        by_cases g : i = j
        · subst g; exact h
        · exact p i (by omega))
      rw [f_X11_road_L19]
      simp (disch := first | omega | assumption) only [↓bM, ↓bMA, ↓jn_, ↓ob_, ↓b2_, ↓reduceIte, nn_lt, nn_le, nn_eq, nI_add, pk_mul, nn_su, gn_lt, gn_le, ng_lt, ng_le, ng_eq, gn_eq, gg_eq, n_m1, n_cl, if_true, if_false, if_pos, if_neg, lt0, hP, e]
      exact this
    · right
      refine ⟨?_, fun g => h (g j hj)⟩
      rw [f_X11_road_L19]
      simp (disch := first | omega | assumption) only [↓bM, ↓bMA, ↓jn_, ↓ob_, ↓b2_, ↓reduceIte, nn_lt, nn_le, nn_eq, nI_add, pk_mul, nn_su, gn_lt, gn_le, ng_lt, ng_le, ng_eq, gn_eq, gg_eq, n_m1, n_cl, if_true, if_false, if_pos, if_neg, lt0, hP, e]
theorem m_ro19' {q : pQ} {ρ : pP} {L : pL} {I : pI} {C : gC} {P n : Nat} (hC : MS 130 0 C P I) (hP : I 129 6 = nI P) (hP4 : P ≤ 4) (hn : n ≤ 6) (hpS : ∀ i, i < P → scP C i < 7) (hall : ∀ i, i < P → scP C i < n) {kk : jH → Option (Int32 × jH)} : f_X11_road_L19 5000 129 (nI n) kk 5000 (nI 0) (hp q ρ L I) = kk (hp q ρ L I) := by
  rcases m_ro19 (q := q) (ρ := ρ) (L := L) hC hP hP4 hn hpS (kk := kk) with h | ⟨_, h⟩
  · exact h.1
  · exact absurd hall h
theorem m_ro47 {q : pQ} {ρ : pP} {L : pL} {I : pI} {d : gD} {P S n : Nat} (hD : MD d I) (hd : WD d P S) (hS : S ≤ 6) (hn : n ≤ 6) {kk : jH → Option (Int32 × jH)} : (f_X11_road_L47 5000 129 (nI n) kk 5000 (nI 0) (hp q ρ L I) = kk (hp q ρ L I) ∧ ∀ e, e < duE d → duP d e < n) ∨ (f_X11_road_L47 5000 129 (nI n) kk 5000 (nI 0) (hp q ρ L I) = some (-nI 1, hp q ρ L I) ∧ ¬ ∀ e, e < duE d → duP d e < n) := by
  have h8 := hd.1
  refine lq (S := Unit) (fun o => (o = kk (hp q ρ L I) ∧ ∀ e, e < duE d → duP d e < n) ∨ (o = some (-nI 1, hp q ρ L I) ∧ ¬ ∀ e, e < duE d → duP d e < n)) (fun m _ j => f_X11_road_L47 5000 129 (nI n) kk m (nI j) (hp q ρ L I)) (fun j _ => ∀ e, e < j → duP d e < n) (duE d) ?_ ?_ (duE d) 5000 () 0 (by omega) (by omega) (fun e he => absurd he (Nat.not_lt_zero e))
  · intro m _ p
    left
    refine ⟨?_, p⟩
    rw [f_X11_road_L47]
    simp (disch := first | omega | assumption) only [↓bM, ↓bMA, ↓jn_, ↓ob_, ↓b2_, ↓reduceIte, nn_lt, nn_le, nn_eq, nI_add, pk_mul, nn_su, gn_lt, gn_le, ng_lt, ng_le, ng_eq, gn_eq, gg_eq, n_m1, n_cl, if_true, if_false, if_pos, if_neg, lt0, hD.1, Nat.le_refl]
  · intro m _ j hj p K
    have e := (hD.2 j hj).2.2.1
    have h7 := (hd.2 j hj).2.2.1
    by_cases h : duP d j < n
    · have := K () (fun e he => by
        by_cases g : e = j
        · subst g; exact h
        · exact p e (by omega))
      rw [f_X11_road_L47]
      simp (disch := first | omega | assumption) only [↓bM, ↓bMA, ↓jn_, ↓ob_, ↓b2_, ↓reduceIte, nn_lt, nn_le, nn_eq, nI_add, pk_mul, nn_su, gn_lt, gn_le, ng_lt, ng_le, ng_eq, gn_eq, gg_eq, n_m1, n_cl, if_true, if_false, if_pos, if_neg, lt0, hD.1, e]
      exact this
    · right
      refine ⟨?_, fun g => h (g j hj)⟩
      rw [f_X11_road_L47]
      simp (disch := first | omega | assumption) only [↓bM, ↓bMA, ↓jn_, ↓ob_, ↓b2_, ↓reduceIte, nn_lt, nn_le, nn_eq, nI_add, pk_mul, nn_su, gn_lt, gn_le, ng_lt, ng_le, ng_eq, gn_eq, gg_eq, n_m1, n_cl, if_true, if_false, if_pos, if_neg, lt0, hD.1, e]
def clC (C : gC) (n : Nat) : gC := (C.1, C.2.1, C.2.2.1, C.2.2.2.1, fun k => if 5 * n ≤ k then nI 0 else scB C k)
theorem x_close {q : pQ} {ρ : pP} {L : pL} {I : pI} {C : gC} {P n : Nat} (hC : XS 19 C P I) (hn : n ≤ 6) : ∃ J, f_X7_closeBooks 5000 19 (nI n) (hp q ρ L I) = some (hp q ρ L J) ∧ XS 19 (clC C n) P J ∧ ∀ b, b ≠ 23 → J b = I b := by
  obtain ⟨J, e1, e0, e2, e3⟩ := loE (fun m (s : pI) j => f_X7_closeBooks_L4 5000 19 m (nI j) (hp q ρ L s)) (fun s => some (hp q ρ L s)) 30 (fun j s => 5 * n ≤ j ∧ (∀ k, k < 30 → s 23 k = if 5 * n ≤ k ∧ k < j then nI 0 else I 23 k) ∧ ∀ b, b ≠ 23 → s b = I b) (by
    intro m s p
    rw [f_X7_closeBooks_L4]
    simp (disch := first | omega | assumption) only [↓bX, ↓bXA, ↓jn_, ↓ob_, ↓b2_, ↓reduceIte, nn_lt, nn_le, nn_eq, nI_add, pk_mul, nn_su, gn_lt, gn_le, ng_lt, ng_le, ng_eq, gn_eq, gg_eq, n_m1, n_cl, if_true, if_false, if_pos, if_neg, lt0, Nat.le_refl]) (by
    intro m s j hj p
    obtain ⟨p0, p1, p2⟩ := p
    refine ⟨j_up s 23 j (nI 0), ?_, by omega, fun k hk => ?_, fun b hb => by rw [up_ne hb]; exact p2 b hb⟩
    · rw [f_X7_closeBooks_L4]
      simp (disch := first | omega | assumption) only [↓bX, ↓bXA, ↓jn_, ↓ob_, ↓b2_, ↓reduceIte, nn_lt, nn_le, nn_eq, nI_add, pk_mul, nn_su, gn_lt, gn_le, ng_lt, ng_le, ng_eq, gn_eq, gg_eq, n_m1, n_cl, if_true, if_false, if_pos, if_neg, lt0]
    · rw [up_at]
      by_cases h : k = j
      · rw [if_pos h, if_pos (by omega)]
      · rw [if_neg h, p1 k hk]
        by_cases h2 : 5 * n ≤ k ∧ k < j
        · rw [if_pos h2, if_pos (by omega)]
        · rw [if_neg h2, if_neg (by omega)]) (30 - 5 * n) 5000 I (5 * n) (by omega) (by omega) ⟨Nat.le_refl _, fun k hk => by rw [if_neg (by omega)], fun b _ => rfl⟩
  refine ⟨J, ?_, ⟨⟨by rw [e3 _ (by omega)]; exact hC.1.1, by rw [e3 _ (by omega)]; exact hC.1.2⟩, fun t ht => ⟨by rw [e3 _ (by omega)]; exact (hC.2.1 t ht).1, by rw [e3 _ (by omega)]; exact (hC.2.1 t ht).2.1, by rw [e3 _ (by omega)]; exact (hC.2.1 t ht).2.2⟩, fun k hk => ?_⟩, e3⟩
  · rw [f_X7_closeBooks]
    simp (disch := first | omega | assumption) only [↓bX, ↓bXA, ↓jn_, ↓ob_, ↓b2_, ↓reduceIte, nn_lt, nn_le, nn_eq, nI_add, pk_mul, nn_su, gn_lt, gn_le, ng_lt, ng_le, ng_eq, gn_eq, gg_eq, n_m1, n_cl, if_true, if_false, if_pos, if_neg, lt0]
    rw [Nat.mul_comm n 5]
    exact e1
  · rw [e2 k hk]
    show _ = (if 5 * n ≤ k then nI 0 else scB C k)
    by_cases h : 5 * n ≤ k
    · rw [if_pos (by omega), if_pos h]
    · rw [if_neg (by omega), if_neg h]
      exact hC.2.2 k hk
theorem m_close {q : pQ} {ρ : pP} {L : pL} {I : pI} {C : gC} {P n : Nat} {x2 : Int32} (hP : P ≤ 4) (hC : MS 130 0 C P I) (hn : n ≤ 6) {kk : jH → Option (Int32 × jH)} : ∃ J, f_X11_road_L91 5000 129 x2 kk 5000 (nI (5 * n)) (hp q ρ L I) = kk (hp q ρ L J) ∧ MS 130 0 (clC C n) P J ∧ ∀ b, b ≠ 130 → J b = I b := by
  obtain ⟨J, e1, e0, e2, e4, e3⟩ := loE (fun m (s : pI) j => f_X11_road_L91 5000 129 x2 kk m (nI j) (hp q ρ L s)) (fun s => kk (hp q ρ L s)) 30 (fun j s => 5 * n ≤ j ∧ (∀ k, k < 30 → s 130 (14 + k) = if 5 * n ≤ k ∧ k < j then nI 0 else I 130 (14 + k)) ∧ (∀ k, k < 14 → s 130 k = I 130 k) ∧ ∀ b, b ≠ 130 → s b = I b) (by
    intro m s p
    rw [f_X11_road_L91]
    simp (disch := first | omega | assumption) only [↓bM, ↓bMA, ↓jn_, ↓ob_, ↓b2_, ↓reduceIte, nn_lt, nn_le, nn_eq, nI_add, pk_mul, nn_su, gn_lt, gn_le, ng_lt, ng_le, ng_eq, gn_eq, gg_eq, n_m1, n_cl, if_true, if_false, if_pos, if_neg, lt0, Nat.le_refl]) (by
    intro m s j hj p
    obtain ⟨p0, p1, p2, p3⟩ := p
    refine ⟨j_up s 130 (14 + j) (nI 0), ?_, by omega, fun k hk => ?_, fun k hk => by rw [up_nk (by omega)]; exact p2 k hk, fun b hb => by rw [up_ne hb]; exact p3 b hb⟩
    · rw [f_X11_road_L91]
      simp (disch := first | omega | assumption) only [↓bM, ↓bMA, ↓jn_, ↓ob_, ↓b2_, ↓reduceIte, nn_lt, nn_le, nn_eq, nI_add, pk_mul, nn_su, gn_lt, gn_le, ng_lt, ng_le, ng_eq, gn_eq, gg_eq, n_m1, n_cl, if_true, if_false, if_pos, if_neg, lt0]
    · rw [up_at]
      by_cases h : k = j
      · rw [if_pos (by omega), if_pos (by omega)]
      · rw [if_neg (by omega), p1 k hk]
        by_cases h2 : 5 * n ≤ k ∧ k < j
        · rw [if_pos h2, if_pos (by omega)]
        · rw [if_neg h2, if_neg (by omega)]) (30 - 5 * n) 5000 I (5 * n) (by omega) (by omega) ⟨Nat.le_refl _, fun k hk => by rw [if_neg (by omega)], fun k _ => rfl, fun b _ => rfl⟩
  refine ⟨J, e1, ⟨⟨by rw [e4 _ (by omega)]; exact hC.1.1, by rw [e4 _ (by omega)]; exact hC.1.2⟩, fun t ht => ⟨by rw [e4 _ (by omega)]; exact (hC.2.1 t ht).1, by rw [e4 _ (by omega)]; exact (hC.2.1 t ht).2.1, by rw [e4 _ (by omega)]; exact (hC.2.1 t ht).2.2⟩, fun k hk => ?_⟩, e3⟩
  rw [Nat.zero_add, e2 k hk]
  show _ = (if 5 * n ≤ k then nI 0 else scB C k)
  by_cases h : 5 * n ≤ k
  · rw [if_pos (by omega), if_pos h]
  · rw [if_neg (by omega), if_neg h]
    have := hC.2.2 k hk
    rw [Nat.zero_add] at this
    exact this
theorem k_road (a : Int32) : ∀ G, Wr G → ∃ v G', Wr G' ∧ XH (f_X10_road 5000 0 a) G v G' ∧ MH (f_X11_road 5000 129 a) G v G' := by
  intro G hG
  have hG' := hG
  obtain ⟨w1, w2, w3, w4, w5, w6, w7, w8, w9⟩ := hG
  have h8 := w3.1
  have fin : ∀ v, (∀ q ρ L I, Xr G ρ L I → f_X10_road 5000 0 a (hp q ρ L I) = some (v, hp q ρ L I)) → (∀ t q ρ L I, Mr t G ρ L I → Ms t G ρ (j_up I 129 13 (nI 0)) → f_X11_road 5000 129 a (hp q ρ L I) = some (v, hp q ρ L (j_up I 129 13 (nI 0)))) → ∃ v G', Wr G' ∧ XH (f_X10_road 5000 0 a) G v G' ∧ MH (f_X11_road 5000 129 a) G v G' :=
    fun v hx hm => ⟨v, G, hG', XH_0 hx, MH_0 (fun t q ρ L I h => hm t q ρ L I h (Ms_0 h.1))⟩
  have xn : ∀ q ρ L I, Xr G ρ L I → f_X10_stationsNeeded 5000 0 (hp q ρ L I) = some (nI (needs (gN G) (gDu G) (gP G)), hp q ρ L I) := by
    rintro q ρ L I ⟨⟨hT, hL, hD, hP, hS, hU, hK, hR, hρ⟩, hW⟩
    exact x_needs hS hP.1 w4.1 hD w3 w5 w4.2.2
  have n1 : 1 ≤ needs (gN G) (gDu G) (gP G) := by
    refine Classical.byContradiction (fun h => ?_)
    have := (needs_le (C := gN G) (d := gDu G) (P := gP G) (n := 0)).mp (by omega)
    omega
  have n6 : needs (gN G) (gDu G) (gP G) ≤ 6 := needs_le.mpr ⟨⟨by omega, fun i hi => by have := (w5 i hi).1; omega⟩, fun e he => by have := (w3.2 e he).2.2.1; omega⟩
  rcases ixo a 7 (by omega) with h | ⟨n, hn, rfl⟩
  · refine fin (-nI 1) ?_ ?_
    · intro q ρ L I hX
      have e := xn q ρ L I hX
      rcases h with h | ⟨h1, h2⟩
      · have hlt : a < nI (needs (gN G) (gDu G) (gP G)) := by
          rw [Int32.lt_iff_toInt_lt, n_ti (by omega)] at h ⊢
          omega
        simp (disch := first | omega | assumption) only [f_X10_road, ↓bX, ↓bXA, ↓jn_, ↓ob_, ↓b2_, ↓reduceIte, nn_lt, nn_le, nn_eq, nI_add, pk_mul, nn_su, gn_lt, gn_le, ng_lt, ng_le, ng_eq, gn_eq, gg_eq, n_m1, n_cl, if_true, if_false, if_pos, if_neg, lt0, ↓b2e e, hlt]
      · obtain ⟨j1, j2, j3⟩ := i_9999 (n := 6) (by omega) h1 h2
        have hnl : ¬ a < nI (needs (gN G) (gDu G) (gP G)) := by
          obtain ⟨i, hi, rfl⟩ := c_lt0 h1
          rw [nn_le (by omega) hi] at h2
          rw [nn_lt hi (by omega)]
          omega
        simp (disch := first | omega | assumption) only [f_X10_road, ↓bX, ↓bXA, ↓jn_, ↓ob_, ↓b2_, ↓reduceIte, nn_lt, nn_le, nn_eq, nI_add, pk_mul, nn_su, gn_lt, gn_le, ng_lt, ng_le, ng_eq, gn_eq, gg_eq, n_m1, n_cl, if_true, if_false, if_pos, if_neg, lt0, ↓b2e e, hnl, j2]
    · intro t q ρ L I _ hM
      rcases h with h | ⟨h1, h2⟩
      · simp (disch := first | omega | assumption) only [f_X11_road, f_X11_in, ↓bM, ↓bMA, ↓jn_, ↓ob_, ↓b2_, ↓reduceIte, nn_lt, nn_le, nn_eq, nI_add, pk_mul, nn_su, gn_lt, gn_le, ng_lt, ng_le, ng_eq, gn_eq, gg_eq, n_m1, n_cl, if_true, if_false, if_pos, if_neg, lt0, i_lt01 h]
      · obtain ⟨j1, j2, j3⟩ := i_9999 (n := 6) (by omega) h1 h2
        simp (disch := first | omega | assumption) only [f_X11_road, f_X11_in, ↓bM, ↓bMA, ↓jn_, ↓ob_, ↓b2_, ↓reduceIte, nn_lt, nn_le, nn_eq, nI_add, pk_mul, nn_su, gn_lt, gn_le, ng_lt, ng_le, ng_eq, gn_eq, gg_eq, n_m1, n_cl, if_true, if_false, if_pos, if_neg, lt0, j1, j3]
  by_cases hok : needs (gN G) (gDu G) (gP G) ≤ n
  · obtain ⟨⟨a1, a2⟩, a3⟩ := needs_le.mp hok
    refine ⟨nI (gS G), (gTx G, gLx G, gDu G, (gP G, n, clC (gN G) n), (0, (gUn G).2), (fun _ => none), gRw G, gRu G), ⟨w1, w2, ⟨w3.1, fun e he => ⟨(w3.2 e he).1, (w3.2 e he).2.1, a3 e he, (w3.2 e he).2.2.2⟩⟩, ⟨w4.1, a1, Nat.le_of_lt_succ hn⟩, fun i hi => ⟨a2 i hi, (w5 i hi).2⟩, WU_0, WK_none, w8, w9⟩, ?_, ?_⟩
    · rintro q ρ L I hq hX
      have e := xn q ρ L I hX
      obtain ⟨⟨hT, hL, hD, hP, hS, hU, hK, hR, hρ⟩, hW⟩ := hX
      obtain ⟨J, e1, e2, e3⟩ := x_close (q := q) (ρ := ρ) (L := L) (n := n) hS (by omega)
      have e5 : ∀ b, b ≠ 0 → b ≠ 23 → b ≠ 24 → b ≠ 102 → j_up (j_up (j_up (j_up J 0 17 (nI n)) 24 2 (nI 0)) 102 0 (nI 0)) 102 1 (nI 0) b = I b := fun b h1 h2 h3 h4 => by rw [up_ne h4, up_ne h4, up_ne h3, up_ne h1, e3 b h2]
      refine ⟨q, ρ, L, j_up (j_up (j_up (j_up J 0 17 (nI n)) 24 2 (nI 0)) 102 0 (nI 0)) 102 1 (nI 0), ?_, ⟨⟨XT_k (by rw [e5 1 (by omega) (by omega) (by omega) (by omega)]) (e5 2 (by omega) (by omega) (by omega) (by omega)) hT, XL_k (fun b _ _ => e5 b (by omega) (by omega) (by omega) (by omega)) hL, XD_k (fun b _ _ => e5 b (by omega) (by omega) (by omega) (by omega)) hD, ⟨?_, ?_⟩, XS_k (fun i _ => by rw [up_ne (by omega), up_ne (by omega), up_ne (by omega), up_ne (by omega)]) e2, XU_0 hU ?_ ?_, XK_none ?_ ?_, XR_k (fun b _ _ => e5 b (by omega) (by omega) (by omega) (by omega)) hR, hρ⟩, ?_⟩, ⟨rfl, rfl, fun b _ _ => e5 b (by omega) (by omega) (by omega) (by omega)⟩, Nat.le_refl _, Nat.le_succ _, Nat.le_add_right _ _⟩
      · simp (disch := first | omega | assumption) only [f_X10_road, ↓bX, ↓bXA, ↓jn_, ↓ob_, ↓b2_, ↓reduceIte, nn_lt, nn_le, nn_eq, nI_add, pk_mul, nn_su, gn_lt, gn_le, ng_lt, ng_le, ng_eq, gn_eq, gg_eq, n_m1, n_cl, if_true, if_false, if_pos, if_neg, lt0, ↓b2e e, hP.2, ↓oe e1, ↓oe (x_forget (q := q) (ρ := ρ) (L := L) (I := j_up J 0 17 (nI n)))]
      · rw [up_ne (by omega), up_ne (by omega), up_ne (by omega), up_nk (by omega), e3 0 (by omega)]
        exact hP.1
      · rw [up_ne (by omega), up_ne (by omega), up_ne (by omega), up_eq]
      · rw [up_ne (by omega), up_ne (by omega), up_nk (by omega), up_ne (by omega), e3 24 (by omega)]
      · rw [up_ne (by omega), up_ne (by omega), up_eq]
      · rw [up_nk (by omega), up_eq]
      · rw [up_eq]
      · unfold XW at hW ⊢
        rw [e5 3 (by omega) (by omega) (by omega) (by omega)]
        exact hW
    · rintro t q ρ L I ht ⟨hM, hW⟩
      obtain ⟨hT, hL, hD, hP, hS, hU, hK, hR⟩ := Ms_0 (x := nI 0) hM
      have h47 := m_ro47 (q := q) (ρ := ρ) (L := L) (n := n) hD w3 w4.2.2 (by omega) (kk := fun (h11 : jH) =>
          (jg_I 11 1 h11 129).bind (fun v12 =>
          (jp_I 11 1 h11 129 (nI n)).bind (fun h13 =>
          f_X11_road_L91 5000 129 v12 (fun (h16 : jH) =>
            (jp_I 11 29 h16 129 (nI 0)).bind (fun h17 =>
            (jg_I 11 52 h17 129).bind (fun v18 =>
            (jp_I 11 52 h17 129 (v18 + nI 1)).bind (fun h19 =>
            some (v12, h19))))) 5000 (nI 5 * nI n) h13)))
      have h47' := h47.resolve_right (fun h => h.2 a3)
      have h19 := m_ro19' (q := q) (ρ := ρ) (L := L) (n := n) hS hP.1 w4.1 (by omega) (fun i hi => by have := (w5 i hi).1; omega) a2 (kk := fun (h7 : jH) =>
        f_X11_road_L47 5000 129 (nI n) (fun (h11 : jH) =>
          (jg_I 11 1 h11 129).bind (fun v12 =>
          (jp_I 11 1 h11 129 (nI n)).bind (fun h13 =>
          f_X11_road_L91 5000 129 v12 (fun (h16 : jH) =>
            (jp_I 11 29 h16 129 (nI 0)).bind (fun h17 =>
            (jg_I 11 52 h17 129).bind (fun v18 =>
            (jp_I 11 52 h17 129 (v18 + nI 1)).bind (fun h19 =>
            some (v12, h19))))) 5000 (nI 5 * nI n) h13))) 5000 (nI 0) h7)
      obtain ⟨J, e1, e2, e3⟩ := m_close (q := q) (ρ := ρ) (L := L) (I := j_up (j_up I 129 13 (nI 0)) 129 1 (nI n)) (n := n) (x2 := nI (gS G)) w4.1 (MS_k (up_ne (by omega)) hS) (by omega) (kk := fun (h16 : jH) =>
            (jp_I 11 29 h16 129 (nI 0)).bind (fun h17 =>
            (jg_I 11 52 h17 129).bind (fun v18 =>
            (jp_I 11 52 h17 129 (v18 + nI 1)).bind (fun h19 =>
            some (nI (gS G), h19)))))
      have e5 : ∀ b, b ≠ 129 → b ≠ 130 → j_up (j_up J 129 29 (nI 0)) 129 52 (j_up I 129 13 (nI 0) 129 52 + nI 1) b = j_up I 129 13 (nI 0) b := fun b h1 h2 => by rw [up_ne h1, up_ne h1, e3 b h2, up_ne h1]
      have e6 : ∀ k, k ≠ 1 → k ≠ 29 → k ≠ 52 → j_up (j_up J 129 29 (nI 0)) 129 52 (j_up I 129 13 (nI 0) 129 52 + nI 1) 129 k = j_up I 129 13 (nI 0) 129 k := fun k h1 h2 h3 => by rw [up_nk h3, up_nk h2, e3 129 (by omega), up_nk h1]
      refine ⟨ρ, L, j_up (j_up J 129 29 (nI 0)) 129 52 (j_up I 129 13 (nI 0) 129 52 + nI 1), ?_, ⟨⟨MT_k (e6 _ (by omega) (by omega) (by omega)) (e5 135 (by omega) (by omega)) hT, ML_k (e6 _ (by omega) (by omega) (by omega)) (e5 131 (by omega) (by omega)) (e5 132 (by omega) (by omega)) (e5 133 (by omega) (by omega)) hL, MD_k (e6 _ (by omega) (by omega) (by omega)) (e5 134 (by omega) (by omega)) hD, ⟨by rw [e6 _ (by omega) (by omega) (by omega)]; exact hP.1, by rw [up_nk (by omega), up_nk (by omega), e3 129 (by omega), up_eq]⟩, MS_k (by rw [up_ne (by omega), up_ne (by omega)]) e2, MU_0 (by rw [up_nk (by omega), up_eq]), MK_f hK up_eq (e5 159 (by omega) (by omega)) (e5 160 (by omega) (by omega)), MR_k (e6 _ (by omega) (by omega) (by omega)) (e5 140 (by omega) (by omega)) hR⟩, ?_⟩, ⟨rfl, rfl⟩, rfl, fun b hb => by rw [e5 b (by omega) (by omega), up_ne (by omega)]⟩
      · rw [f_X11_road]
        have hin := m_in n 1 6 (hp q ρ L (j_up I 129 13 (nI 0))) (by omega) (by omega) (by omega)
        rw [if_pos (by omega)] at hin
        simp (disch := first | omega | assumption) only [↓bM, ↓ob_, ↓b2_, lt0, ↓b2e hin, nn_eq, if_neg, if_false]
        rw [h19, h47'.1]
        have j52 : j_up J 129 29 (nI 0) 129 52 = j_up I 129 13 (nI 0) 129 52 := by rw [up_nk (by omega), e3 129 (by omega), up_nk (by omega)]
        simp (disch := first | omega | assumption) only [↓bM, ↓bMA, ↓jn_, ↓ob_, ↓b2_, ↓reduceIte, nn_lt, nn_le, nn_eq, nI_add, pk_mul, nn_su, gn_lt, gn_le, ng_lt, ng_le, ng_eq, gn_eq, gg_eq, n_m1, n_cl, if_true, if_false, if_pos, if_neg, lt0, hP.2]
        rw [e1]
        simp (disch := first | omega | assumption) only [↓bM, ↓ob_, j52]
      · unfold MW at hW ⊢
        rw [e6 _ (by omega) (by omega) (by omega), up_nk (by omega)]
        exact hW
  · refine fin (-nI 1) ?_ ?_
    · intro q ρ L I hX
      have e := xn q ρ L I hX
      simp (disch := first | omega | assumption) only [f_X10_road, ↓bX, ↓bXA, ↓jn_, ↓ob_, ↓b2_, ↓reduceIte, nn_lt, nn_le, nn_eq, nI_add, pk_mul, nn_su, gn_lt, gn_le, ng_lt, ng_le, ng_eq, gn_eq, gg_eq, n_m1, n_cl, if_true, if_false, if_pos, if_neg, lt0, ↓b2e e]
    · intro t q ρ L I _ hM
      obtain ⟨hT, hL, hD, hP, hS, hU, hK, hR⟩ := hM
      by_cases hn0 : n = 0
      · subst hn0
        simp (disch := first | omega | assumption) only [f_X11_road, f_X11_in, ↓bM, ↓bMA, ↓jn_, ↓ob_, ↓b2_, ↓reduceIte, nn_lt, nn_le, nn_eq, nI_add, pk_mul, nn_su, gn_lt, gn_le, ng_lt, ng_le, ng_eq, gn_eq, gg_eq, n_m1, n_cl, if_true, if_false, if_pos, if_neg, lt0]
      · have hin := m_in n 1 6 (hp q ρ L (j_up I 129 13 (nI 0))) (by omega) (by omega) (by omega)
        rw [if_pos (by omega)] at hin
        rw [f_X11_road]
        simp (disch := first | omega | assumption) only [↓bM, ↓ob_, ↓b2_, lt0, ↓b2e hin, nn_eq, if_neg, if_false]
        rcases m_ro19 (q := q) (ρ := ρ) (L := L) (n := n) hS hP.1 w4.1 (by omega) (fun i hi => by have := (w5 i hi).1; omega) (kk := fun (h7 : jH) =>
        f_X11_road_L47 5000 129 (nI n) (fun (h11 : jH) =>
          (jg_I 11 1 h11 129).bind (fun v12 =>
          (jp_I 11 1 h11 129 (nI n)).bind (fun h13 =>
          f_X11_road_L91 5000 129 v12 (fun (h16 : jH) =>
            (jp_I 11 29 h16 129 (nI 0)).bind (fun h17 =>
            (jg_I 11 52 h17 129).bind (fun v18 =>
            (jp_I 11 52 h17 129 (v18 + nI 1)).bind (fun h19 =>
            some (v12, h19))))) 5000 (nI 5 * nI n) h13))) 5000 (nI 0) h7) with ⟨h, hall⟩ | ⟨h, _⟩
        · · rw [h]
            have h47 := m_ro47 (q := q) (ρ := ρ) (L := L) (n := n) hD w3 w4.2.2 (by omega) (kk := fun (h11 : jH) =>
          (jg_I 11 1 h11 129).bind (fun v12 =>
          (jp_I 11 1 h11 129 (nI n)).bind (fun h13 =>
          f_X11_road_L91 5000 129 v12 (fun (h16 : jH) =>
            (jp_I 11 29 h16 129 (nI 0)).bind (fun h17 =>
            (jg_I 11 52 h17 129).bind (fun v18 =>
            (jp_I 11 52 h17 129 (v18 + nI 1)).bind (fun h19 =>
            some (v12, h19))))) 5000 (nI 5 * nI n) h13)))
            exact (h47.resolve_left (fun h => hok (needs_le.mpr ⟨⟨by omega, hall⟩, h.2⟩))).1
        · exact h
