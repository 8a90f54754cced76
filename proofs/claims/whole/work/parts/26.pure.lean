theorem r_minL {q : pQ} {ρ : pP} {L : pL} {I : pI} {A n d : Nat} {f : Nat → Nat} {c0 : List Int32} {rec : Nat → Nat → Nat → Int32 → jH → Option (Int32 × jH)} {k23 : Int32 → jH → Option (Int32 × jH)} (hA : A = 119 ∨ A = 124) (hR : Rd I f n) :
    ∀ k N p m, m + k = 40 → k < N → p ≤ n → f_X8_readFactor_L2 5000 rec A 1 (nI d) k23 N (nI m) (hp q ρ L (ap (cw I A c0) p)) = k23 (nI (m + (pMin f n k p).2)) (hp q ρ L (ap (cw I A c0) (pMin f n k p).1))
  | _, 0, _, _, _, h, _ => absurd h (Nat.not_lt_zero _)
  | 0, N + 1, p, m, h1, h2, h3 => by
    simp (disch := first | omega | assumption) only [f_X8_readFactor_L2, ob_, b2_, jn_, nn_lt, nn_le, nn_eq, nI_add, pk_mul, nn_su, gn_lt, gn_le, ng_lt, ng_le, ng_eq, gn_eq, gg_eq, n_m1, n_cl, if_true, if_false, if_pos, if_neg, ite_self, lt0, pMin, Nat.add_zero]
  | k + 1, N + 1, p, m, h1, h2, h3 => by
    have hR' := Rd_cw (c := c0) hA hR
    rw [f_X8_readFactor_L2, pMin]
    simp (disch := first | omega | assumption) only [lt0, x_take hR' h3, nn_le, if_neg]
    by_cases h : sg f n p = 45
    · have hp1 : p < n := sg_in (f := f) (by omega)
      have := r_minL (q := q) (ρ := ρ) (L := L) (d := d) (c0 := c0) (rec := rec) (k23 := k23) hA hR k N (p + 1) (m + 1) (by omega) (by omega) hp1
      simp (disch := first | omega | assumption) only [if_pos h, ob_, b2_, jn_, nn_lt, nn_le, nn_eq, nI_add, pk_mul, nn_su, gn_lt, gn_le, ng_lt, ng_le, ng_eq, gn_eq, gg_eq, n_m1, n_cl, if_true, if_false, if_pos, if_neg, ite_self, lt0]
      rw [this]
      rw [show m + 1 + (pMin f n k (p + 1)).2 = m + ((pMin f n k (p + 1)).2 + 1) by omega]
    · simp (disch := first | omega | assumption) only [if_neg h, ob_, b2_, jn_, nn_lt, nn_le, nn_eq, nI_add, pk_mul, nn_su, gn_lt, gn_le, ng_lt, ng_le, ng_eq, gn_eq, gg_eq, n_m1, n_cl, if_true, if_false, if_pos, if_neg, ite_self, lt0, Nat.add_zero]
theorem rem2 {m : Nat} (h : m < 2147483648) : j_rem (nI m) (nI 2) = some (nI (m % 2)) := by
  unfold j_rem
  rw [if_neg (show ¬ nI 2 = 0 by decide)]
  congr 1
  exact pk_rem h (by omega) (by omega)
theorem r_fac {q : pQ} {ρ : pP} {L : pL} {I : pI} {A n d : Nat} {f : Nat → Nat} {rec : Nat → Nat → Nat → Int32 → jH → Option (Int32 × jH)} {rc : Option (Nat → pO)} (hA : A = 119 ∨ A = 124) (hR : Rd I f n) (hn : n ≤ 40) (hG : Gd n (pThing f n rc))
    (hS : SP q ρ L I A n (rec 4 A 1 (nI d)) (pThing f n rc)) : SP q ρ L I A n (b_X8_readFactor 5000 rec A 1 (nI d)) (pFac f n rc) := by
  intro c0 p hpn hc0
  obtain ⟨m1, m2⟩ := pMin_le f n 40 p hpn
  have e := r_minL (q := q) (ρ := ρ) (L := L) (d := d) (c0 := c0) (rec := rec) (k23 := fun (y3 : Int32) (h4 : jH) =>
      j_b2 (rec 4 A 1 (nI d) h4) (fun v6 h5 =>
      if v6 = nI 0 then
        some (nI 0, h5)
      else
        (j_rem y3 (nI 2)).bind (fun v7 =>
          if v7 = nI 0 then
            some (nI 1, h5)
          else
            j_b2 (f_X8_put 5000 A (nI 2000) h5) (fun v10 h9 =>
            if v10 = nI 0 then
              some (nI 0, h9)
            else
              some (nI 1, h9))))) hA hR 40 5000 p 0 (by omega) (by omega) hpn
  simp only [b_X8_readFactor, kT hA, jn, lt0]
  rw [e, hS c0 _ m1 (by omega), pEnd, b2, Nat.zero_add]
  obtain ⟨g1, g2, g3⟩ := hG _ m1
  unfold pFac
  rcases hk : pThing f n rc (pMin f n 40 p).1 with ⟨ok, p1, c⟩
  rw [hk] at g1 g2 g3
  simp only [] at g1 g2 g3
  cases ok with
  | false =>
    rw [bo_f, if_pos rfl]
    rfl
  | true =>
    rw [bo_t, if_neg (by rw [nn_eq (by omega) (by omega)]; omega), rem2 (by omega), ob]
    by_cases h : (pMin f n 40 p).2 % 2 = 0
    · rw [if_pos (by rw [h])]
      simp only [if_pos h]
      rfl
    · rw [if_neg (by rw [nn_eq (by omega) (by omega)]; omega), x_put hA (by simp only [List.length_append]; omega), b2, if_neg (by rw [nn_eq (by omega) (by omega)]; omega)]
      simp only [if_neg h, pEnd, List.append_assoc, bo_t]
theorem jrz_1 {h : jH} : j_rz (nI 1) h = some (nI 1, h) := rfl
theorem jrz_0 {h : jH} : j_rz (nI 0) h = some (nI 0, h) := rfl
theorem jrz_b {b : Bool} {h : jH} : j_rz (bo b) h = some (bo b, h) := by cases b <;> rfl
theorem r_proL {q : pQ} {ρ : pP} {L : pL} {I : pI} {A n d : Nat} {f : Nat → Nat} {rec : Nat → Nat → Nat → Int32 → jH → Option (Int32 × jH)} {rc : Option (Nat → pO)} (hA : A = 119 ∨ A = 124) (hR : Rd I f n) (hn : n ≤ 40) (hG : Gd n (pFac f n rc)) (hS : SP q ρ L I A n (rec 3 A 1 (nI d)) (pFac f n rc)) (c0 : List Int32) :
    ∀ k N (o : pO) (s : Nat), k < 41 → k < N → s ≤ 50 → o.2.1 ≤ n → (c0 ++ o.2.2).length ≤ o.2.1 → f_X8_readProduct_L13 5000 rec A 1 (nI d) N (bo o.1) (nI s) (nI (40 - k)) (hp q ρ L (ap (cw I A (c0 ++ o.2.2)) o.2.1)) = pEnd q ρ L I A c0 (pMore f n 42 47 (pFac f n rc) k o)
  | _, 0, _, _, _, h, _, _, _ => absurd h (Nat.not_lt_zero _)
  | 0, N + 1, o, s, _, _, _, _, _ => by
    rw [f_X8_readProduct_L13, if_pos (by simp only [lt0]; rw [nn_le (by omega) (by omega)]; omega), jrz_b]
    rfl
  | k + 1, N + 1, (false, p, c), s, h1, h2, h3, h4, h5 => by
    simp (disch := first | omega | assumption) only [f_X8_readProduct_L13, bo_f, ob_, b2_, jn_, nn_lt, nn_le, nn_eq, nI_add, pk_mul, nn_su, gn_lt, gn_le, ng_lt, ng_le, ng_eq, gn_eq, gg_eq, n_m1, n_cl, if_true, if_false, if_pos, if_neg, ite_self, lt0, jrz_0]
    rfl
  | k + 1, N + 1, (true, p, c), s, h1, h2, h3, h4, h5 => by
    simp only [] at h4 h5
    have hR' := fun c => Rd_cw (c := c) hA hR
    rw [f_X8_readProduct_L13]
    simp (disch := first | omega | assumption) only [bo_t, jn, lt0, nn_le, nn_eq, ng_eq, if_neg, if_false]
    rw [x_either (hR' _) h4 (by omega) (by omega) (by omega) (by omega), pMore]
    have fin : ∀ z, sg f n p = z → (z = 42 ∨ z = 47) → (j_b2 (rec 3 A 1 (nI d) (hp q ρ L (ap (cw I A (c0 ++ c)) (p + 1)))) (fun v9 h8 =>
              if v9 = nI 0 then f_X8_readProduct_L13 5000 rec A 1 (nI d) N (nI 0) (nI z) (nI (40 - (k + 1)) + nI 1) h8
              else j_b2 (f_X8_put 5000 A (nI 2000 + nI z) h8) (fun v12 h11 =>
                if v12 = nI 0 then f_X8_readProduct_L13 5000 rec A 1 (nI d) N (nI 0) (nI z) (nI (40 - (k + 1)) + nI 1) h11
                else f_X8_readProduct_L13 5000 rec A 1 (nI d) N (nI 1) (nI z) (nI (40 - (k + 1)) + nI 1) h11))) = pEnd q ρ L I A c0 (match pFac f n rc (p + 1) with
        | (false, p1, c1) => (false, p1, c ++ c1)
        | (true, p1, c1) => pMore f n 42 47 (pFac f n rc) k (true, p1, c ++ c1 ++ [nI (2000 + z)])) := by
      intro z hz h3'
      have hp1 : p < n := sg_in (f := f) (by omega)
      obtain ⟨k1, k2, k3⟩ := hG (p + 1) hp1
      simp only [List.length_append] at h5
      rw [hS (c0 ++ c) (p + 1) hp1 (by simp only [List.length_append]; omega), pEnd, b2, nI_add, show 40 - (k + 1) + 1 = 40 - k by omega]
      rcases hk2 : pFac f n rc (p + 1) with ⟨ok2, p2, c2⟩
      rw [hk2] at k1 k2 k3
      simp only [] at k1 k2 k3
      cases ok2 with
      | false =>
        rw [bo_f, if_pos rfl]
        have := r_proL hA hR hn hG hS c0 k N (false, p2, c ++ c2) z (by omega) (by omega) (by omega) k2 (by simp only [List.length_append]; omega)
        simp only [bo_f, ← List.append_assoc] at this
        simp only []
        rw [this]
        cases k <;> rfl
      | true =>
        rw [bo_t, if_neg (by rw [nn_eq (by omega) (by omega)]; omega), nI_add, x_put hA (by simp only [List.length_append]; omega), b2, if_neg (by rw [nn_eq (by omega) (by omega)]; omega)]
        have := r_proL hA hR hn hG hS c0 k N (true, p2, c ++ c2 ++ [nI (2000 + z)]) z (by omega) (by omega) (by omega) k2 (by simp only [List.length_append, List.length_cons, List.length_nil]; omega)
        simp only [bo_t, ← List.append_assoc] at this
        simp only []
        exact this
    by_cases g1 : sg f n p = 42
    · rw [if_pos g1, b2, if_neg (by rw [ng_eq (by omega) (by omega) (by omega)]; trivial), if_pos (Or.inl g1), fin _ g1 (.inl rfl), g1]
      rcases pFac f n rc (p + 1) with ⟨_ | _, _, _⟩ <;> rfl
    · by_cases g2 : sg f n p = 47
      · rw [if_neg g1, if_pos g2, b2, if_neg (by rw [ng_eq (by omega) (by omega) (by omega)]; trivial), if_pos (Or.inr g2), fin _ g2 (.inr rfl), g2]
        rcases pFac f n rc (p + 1) with ⟨_ | _, _, _⟩ <;> rfl
      · rw [if_neg g1, if_neg g2, b2, if_pos rfl, if_neg (by omega)]
        match N, h2 with
        | 0, h2 => omega
        | N + 1, h2 =>
          simp (disch := first | omega | assumption) only [f_X8_readProduct_L13, ob_, b2_, jn_, nn_lt, nn_le, nn_eq, nI_add, pk_mul, nn_su, gn_lt, gn_le, ng_lt, ng_le, ng_eq, gn_eq, gg_eq, n_m1, n_cl, if_true, if_false, if_pos, if_neg, ite_self, lt0, jrz_1]
          rfl
theorem r_pro {q : pQ} {ρ : pP} {L : pL} {I : pI} {A n d : Nat} {f : Nat → Nat} {rec : Nat → Nat → Nat → Int32 → jH → Option (Int32 × jH)} {rc : Option (Nat → pO)} (hA : A = 119 ∨ A = 124) (hR : Rd I f n) (hn : n ≤ 40) (hG : Gd n (pFac f n rc))
    (hS : SP q ρ L I A n (rec 3 A 1 (nI d)) (pFac f n rc)) : SP q ρ L I A n (b_X8_readProduct 5000 rec A 1 (nI d)) (pPro f n rc) := by
  intro c0 p hpn hc0
  obtain ⟨k1, k2, k3⟩ := hG p hpn
  simp only [b_X8_readProduct, kT hA]
  rw [hS c0 p hpn hc0, pEnd, b2]
  exact r_proL hA hR hn hG hS c0 40 5000 (pFac f n rc p) 0 (by omega) (by omega) (by omega) k2 (by simp only [List.length_append]; omega)
theorem r_sumL {q : pQ} {ρ : pP} {L : pL} {I : pI} {A n d : Nat} {f : Nat → Nat} {rec : Nat → Nat → Nat → Int32 → jH → Option (Int32 × jH)} {rc : Option (Nat → pO)} (hA : A = 119 ∨ A = 124) (hR : Rd I f n) (hn : n ≤ 40) (hG : Gd n (pPro f n rc)) (hS : SP q ρ L I A n (rec 2 A 1 (nI d)) (pPro f n rc)) (c0 : List Int32) :
    ∀ k N (o : pO) (s : Nat), k < 41 → k < N → s ≤ 50 → o.2.1 ≤ n → (c0 ++ o.2.2).length ≤ o.2.1 → f_X8_readSum_L13 5000 rec A 1 (nI d) N (bo o.1) (nI s) (nI (40 - k)) (hp q ρ L (ap (cw I A (c0 ++ o.2.2)) o.2.1)) = pEnd q ρ L I A c0 (pMore f n 43 45 (pPro f n rc) k o)
  | _, 0, _, _, _, h, _, _, _ => absurd h (Nat.not_lt_zero _)
  | 0, N + 1, o, s, _, _, _, _, _ => by
    rw [f_X8_readSum_L13, if_pos (by simp only [lt0]; rw [nn_le (by omega) (by omega)]; omega), jrz_b]
    rfl
  | k + 1, N + 1, (false, p, c), s, h1, h2, h3, h4, h5 => by
    simp (disch := first | omega | assumption) only [f_X8_readSum_L13, bo_f, ob_, b2_, jn_, nn_lt, nn_le, nn_eq, nI_add, pk_mul, nn_su, gn_lt, gn_le, ng_lt, ng_le, ng_eq, gn_eq, gg_eq, n_m1, n_cl, if_true, if_false, if_pos, if_neg, ite_self, lt0, jrz_0]
    rfl
  | k + 1, N + 1, (true, p, c), s, h1, h2, h3, h4, h5 => by
    simp only [] at h4 h5
    have hR' := fun c => Rd_cw (c := c) hA hR
    rw [f_X8_readSum_L13]
    simp (disch := first | omega | assumption) only [bo_t, jn, lt0, nn_le, nn_eq, ng_eq, if_neg, if_false]
    rw [x_either (hR' _) h4 (by omega) (by omega) (by omega) (by omega), pMore]
    have fin : ∀ z, sg f n p = z → (z = 43 ∨ z = 45) → (j_b2 (rec 2 A 1 (nI d) (hp q ρ L (ap (cw I A (c0 ++ c)) (p + 1)))) (fun v9 h8 =>
              if v9 = nI 0 then f_X8_readSum_L13 5000 rec A 1 (nI d) N (nI 0) (nI z) (nI (40 - (k + 1)) + nI 1) h8
              else j_b2 (f_X8_put 5000 A (nI 2000 + nI z) h8) (fun v12 h11 =>
                if v12 = nI 0 then f_X8_readSum_L13 5000 rec A 1 (nI d) N (nI 0) (nI z) (nI (40 - (k + 1)) + nI 1) h11
                else f_X8_readSum_L13 5000 rec A 1 (nI d) N (nI 1) (nI z) (nI (40 - (k + 1)) + nI 1) h11))) = pEnd q ρ L I A c0 (match pPro f n rc (p + 1) with
        | (false, p1, c1) => (false, p1, c ++ c1)
        | (true, p1, c1) => pMore f n 43 45 (pPro f n rc) k (true, p1, c ++ c1 ++ [nI (2000 + z)])) := by
      intro z hz h3'
      have hp1 : p < n := sg_in (f := f) (by omega)
      obtain ⟨k1, k2, k3⟩ := hG (p + 1) hp1
      simp only [List.length_append] at h5
      rw [hS (c0 ++ c) (p + 1) hp1 (by simp only [List.length_append]; omega), pEnd, b2, nI_add, show 40 - (k + 1) + 1 = 40 - k by omega]
      rcases hk2 : pPro f n rc (p + 1) with ⟨ok2, p2, c2⟩
      rw [hk2] at k1 k2 k3
      simp only [] at k1 k2 k3
      cases ok2 with
      | false =>
        rw [bo_f, if_pos rfl]
        have := r_sumL hA hR hn hG hS c0 k N (false, p2, c ++ c2) z (by omega) (by omega) (by omega) k2 (by simp only [List.length_append]; omega)
        simp only [bo_f, ← List.append_assoc] at this
        simp only []
        rw [this]
        cases k <;> rfl
      | true =>
        rw [bo_t, if_neg (by rw [nn_eq (by omega) (by omega)]; omega), nI_add, x_put hA (by simp only [List.length_append]; omega), b2, if_neg (by rw [nn_eq (by omega) (by omega)]; omega)]
        have := r_sumL hA hR hn hG hS c0 k N (true, p2, c ++ c2 ++ [nI (2000 + z)]) z (by omega) (by omega) (by omega) k2 (by simp only [List.length_append, List.length_cons, List.length_nil]; omega)
        simp only [bo_t, ← List.append_assoc] at this
        simp only []
        exact this
    by_cases g1 : sg f n p = 43
    · rw [if_pos g1, b2, if_neg (by rw [ng_eq (by omega) (by omega) (by omega)]; trivial), if_pos (Or.inl g1), fin _ g1 (.inl rfl), g1]
      rcases pPro f n rc (p + 1) with ⟨_ | _, _, _⟩ <;> rfl
    · by_cases g2 : sg f n p = 45
      · rw [if_neg g1, if_pos g2, b2, if_neg (by rw [ng_eq (by omega) (by omega) (by omega)]; trivial), if_pos (Or.inr g2), fin _ g2 (.inr rfl), g2]
        rcases pPro f n rc (p + 1) with ⟨_ | _, _, _⟩ <;> rfl
      · rw [if_neg g1, if_neg g2, b2, if_pos rfl, if_neg (by omega)]
        match N, h2 with
        | 0, h2 => omega
        | N + 1, h2 =>
          simp (disch := first | omega | assumption) only [f_X8_readSum_L13, ob_, b2_, jn_, nn_lt, nn_le, nn_eq, nI_add, pk_mul, nn_su, gn_lt, gn_le, ng_lt, ng_le, ng_eq, gn_eq, gg_eq, n_m1, n_cl, if_true, if_false, if_pos, if_neg, ite_self, lt0, jrz_1]
          rfl
theorem r_sum {q : pQ} {ρ : pP} {L : pL} {I : pI} {A n d : Nat} {f : Nat → Nat} {rec : Nat → Nat → Nat → Int32 → jH → Option (Int32 × jH)} {rc : Option (Nat → pO)} (hA : A = 119 ∨ A = 124) (hR : Rd I f n) (hn : n ≤ 40) (hG : Gd n (pPro f n rc))
    (hS : SP q ρ L I A n (rec 2 A 1 (nI d)) (pPro f n rc)) : SP q ρ L I A n (b_X8_readSum 5000 rec A 1 (nI d)) (pSum f n rc) := by
  intro c0 p hpn hc0
  obtain ⟨k1, k2, k3⟩ := hG p hpn
  simp only [b_X8_readSum, kT hA]
  rw [hS c0 p hpn hc0, pEnd, b2]
  exact r_sumL hA hR hn hG hS c0 40 5000 (pPro f n rc p) 0 (by omega) (by omega) (by omega) k2 (by simp only [List.length_append]; omega)
theorem r_cmp {q : pQ} {ρ : pP} {L : pL} {I : pI} {A n d : Nat} {f : Nat → Nat} {rec : Nat → Nat → Nat → Int32 → jH → Option (Int32 × jH)} {rc : Option (Nat → pO)} (hA : A = 119 ∨ A = 124) (hR : Rd I f n) (hn : n ≤ 40) (hG : Gd n (pSum f n rc))
    (hS : SP q ρ L I A n (rec 1 A 1 (nI d)) (pSum f n rc)) : SP q ρ L I A n (b_X8_readComparison 5000 rec A 1 (nI d)) (pCmp f n rc) := by
  intro c0 p hpn hc0
  have hR' := fun c => Rd_cw (c := c) hA hR
  obtain ⟨g1, g2, g3⟩ := hG p hpn
  simp only [b_X8_readComparison, kT hA, jn, lt0]
  rw [hS c0 p hpn hc0, pEnd, b2]
  unfold pCmp
  rcases hk : pSum f n rc p with ⟨ok, p1, c⟩
  rw [hk] at g1 g2 g3
  simp only [] at g1 g2 g3
  cases ok with
  | false =>
    rw [bo_f, if_pos rfl]
    rfl
  | true =>
    rw [bo_t, if_neg (by rw [nn_eq (by omega) (by omega)]; omega)]
    simp only []
    rw [x_either (hR' _) g2 (by omega) (by omega) (by omega) (by omega)]
    have fin : ∀ s, sg f n p1 = s → (s = 60 ∨ s = 62 ∨ s = 61) → j_b2 (rec 1 A 1 (nI d) (hp q ρ L (ap (cw I A (c0 ++ c)) (p1 + 1)))) (fun v9 h8 =>
            if v9 = nI 0 then
              some (nI 0, h8)
            else
              j_b2 (f_X8_put 5000 A (nI 2000 + nI s) h8) (fun v11 h10 =>
              if v11 = nI 0 then
                some (nI 0, h10)
              else
                some (nI 1, h10))) = pEnd q ρ L I A c0 (match pSum f n rc (p1 + 1) with
      | (false, p2, c2) => (false, p2, c ++ c2)
      | (true, p2, c2) => (true, p2, c ++ c2 ++ [nI (2000 + s)])) := by
      intro s hs h3
      have hp1 : p1 < n := sg_in (f := f) (by omega)
      obtain ⟨k1, k2, k3⟩ := hG (p1 + 1) hp1
      rw [hS (c0 ++ c) (p1 + 1) hp1 (by simp only [List.length_append]; omega), pEnd, b2]
      rcases hk2 : pSum f n rc (p1 + 1) with ⟨ok2, p2, c2⟩
      rw [hk2] at k1 k2 k3
      simp only [] at k1 k2 k3
      cases ok2 with
      | false =>
        rw [bo_f, if_pos rfl]
        simp only [pEnd, List.append_assoc, bo_f]
      | true =>
        rw [bo_t, if_neg (by rw [nn_eq (by omega) (by omega)]; omega), nI_add, x_put hA (by simp only [List.length_append]; omega), b2, if_neg (by rw [nn_eq (by omega) (by omega)]; omega)]
        simp only [pEnd, List.append_assoc, bo_t]
    by_cases h1 : sg f n p1 = 60
    · rw [if_pos h1, b2, if_neg (by rw [ng_eq (by omega) (by omega) (by omega)]; trivial), if_neg (by rw [ng_eq (by omega) (by omega) (by omega)]; trivial), if_pos (Or.inl h1), fin 60 h1 (.inl rfl), h1]
      rcases pSum f n rc (p1 + 1) with ⟨_ | _, _, _⟩ <;> rfl
    · by_cases h2 : sg f n p1 = 62
      · rw [if_neg h1, if_pos h2, b2, if_neg (by rw [ng_eq (by omega) (by omega) (by omega)]; trivial), if_neg (by rw [ng_eq (by omega) (by omega) (by omega)]; trivial), if_pos (Or.inr (Or.inl h2)), fin 62 h2 (.inr (.inl rfl)), h2]
        rcases pSum f n rc (p1 + 1) with ⟨_ | _, _, _⟩ <;> rfl
      · rw [if_neg h1, if_neg h2, b2, if_pos rfl, x_either (hR' _) g2 (by omega) (by omega) (by omega) (by omega)]
        by_cases h3 : sg f n p1 = 61
        · rw [if_pos h3, b2, if_neg (by rw [ng_eq (by omega) (by omega) (by omega)]; trivial), if_pos (Or.inr (Or.inr h3)), fin 61 h3 (.inr (.inr rfl)), h3]
          rcases pSum f n rc (p1 + 1) with ⟨_ | _, _, _⟩ <;> rfl
        · rw [if_neg h3, if_neg h3, b2, if_pos rfl, if_neg (by omega)]
          rfl
theorem r_step {n : Nat} {F : Nat} (m a0 a1 : Nat) (a2 : Int32) (h : jH) : (f_gR F (n + 1) 0 a0 a1 a2 h = b_X8_readComparison F (f_gR F n) a0 a1 a2 h) ∧ (f_gR F (n + 1) 1 a0 a1 a2 h = b_X8_readSum F (f_gR F n) a0 a1 a2 h) ∧ (f_gR F (n + 1) 2 a0 a1 a2 h = b_X8_readProduct F (f_gR F n) a0 a1 a2 h) ∧ (f_gR F (n + 1) 3 a0 a1 a2 h = b_X8_readFactor F (f_gR F n) a0 a1 a2 h) ∧ (f_gR F (n + 1) 4 a0 a1 a2 h = b_X8_readThing F (f_gR F n) a0 a1 a2 h) := ⟨rfl, rfl, rfl, rfl, rfl⟩
theorem r_lev {q : pQ} {ρ : pP} {L : pL} {I : pI} {A n d N : Nat} {f : Nat → Nat} {rc : Option (Nat → pO)} (hA : A = 119 ∨ A = 124) (hR : Rd I f n) (hn : n ≤ 40) (hd : d ≤ 4)
    (hrc : (rc = none ∧ d = 4) ∨ ∃ k, rc = some k ∧ d < 4 ∧ Gd n k ∧ SP q ρ L I A n (f_gR 5000 N 0 A 1 (nI (d + 1))) k) : SP q ρ L I A n (f_gR 5000 (N + 5) 0 A 1 (nI d)) (pCmp f n rc) := by
  have hG : ∀ k, rc = some k → Gd n k := by
    intro k hk
    rcases hrc with ⟨rfl, _⟩ | ⟨k', rfl, _, g, _⟩
    · cases hk
    · cases hk
      exact g
  have s4 : SP q ρ L I A n (f_gR 5000 (N + 1) 4 A 1 (nI d)) (pThing f n rc) := r_thing hA hR hn hd hrc
  have s3 : SP q ρ L I A n (f_gR 5000 (N + 2) 3 A 1 (nI d)) (pFac f n rc) := r_fac (rec := f_gR 5000 (N + 1)) hA hR hn (Gd_thing hG) s4
  have s2 : SP q ρ L I A n (f_gR 5000 (N + 3) 2 A 1 (nI d)) (pPro f n rc) := r_pro (rec := f_gR 5000 (N + 2)) hA hR hn (Gd_fac hG) s3
  have s1 : SP q ρ L I A n (f_gR 5000 (N + 4) 1 A 1 (nI d)) (pSum f n rc) := r_sum (rec := f_gR 5000 (N + 3)) hA hR hn (Gd_pro hG) s2
  exact r_cmp (rec := f_gR 5000 (N + 4)) hA hR hn (Gd_sum hG) s1
theorem r_exp {q : pQ} {ρ : pP} {L : pL} {I : pI} {A n : Nat} {f : Nat → Nat} (hA : A = 119 ∨ A = 124) (hR : Rd I f n) (hn : n ≤ 40) : ∀ r d N, d + r = 4 → SP q ρ L I A n (f_gR 5000 (N + 5 * (r + 1)) 0 A 1 (nI d)) (pExp f n r)
  | 0, d, N, h => r_lev hA hR hn (by omega) (.inl ⟨rfl, by omega⟩)
  | r + 1, d, N, h => r_lev (N := N + 5 * (r + 1)) hA hR hn (by omega) (.inr ⟨pExp f n r, rfl, by omega, Gd_exp r, r_exp hA hR hn r (d + 1) N (by omega)⟩)
