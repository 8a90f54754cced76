theorem hv_eq {ρ : pP} {I : pI} {f : Nat → Nat} {n p c : Nat} (hR : RdM ρ I f n) (hc : c < 900) : ((if p < n then nI (sg f n p) else -nI 1) = nI c) = (sg f n p = c) := by
  by_cases hp1 : p < n
  · have hsl : sg f n p < 256 := by
      obtain ⟨U, T, top, e, hU, h15, h16, hn', hT, htop, hk⟩ := hR
      rw [show sg f n p = f p from if_pos hp1]
      exact (hk p hp1).2
    rw [if_pos hp1, nn_eq (by omega) (by omega)]
  · rw [if_neg hp1, gn_eq (by omega) (by omega) (by omega), show sg f n p = 999 from if_neg hp1]
    exact propext ⟨fun h => h.elim, fun h => by omega⟩
theorem h_proL {q : pQ} {ρ : pP} {L : pL} {I : pI} {n d : Nat} {f : Nat → Nat} {fx : Nat → Int32} {rec : Nat → Nat → Int32 → jH → Option (Int32 × jH)} {rc : Option (Nat → pO)} (hR : RdM ρ I f n) (hn : n ≤ 40) (hG : Gd n (pFac f n rc)) (hP : PS fx (pFac f n rc)) (hS : MSP q ρ L I n fx (rec 3 129 (nI d)) (pFac f n rc)) : ∀ u N k p c, n ≤ p + u → u < N → u ≤ k → p ≤ n → Pu fx c →
    ∃ v, f_X11_product_L6 5000 rec 129 (nI d) N (vO fx c) (hp q ρ L (mp I p (-nI 1))) = some (v, hp q ρ L (mp I (pMore f n 42 47 (pFac f n rc) k (true, p, c)).2.1 (mW (pMore f n 42 47 (pFac f n rc) k (true, p, c))))) ∧ ((pMore f n 42 47 (pFac f n rc) k (true, p, c)).1 = true → v = vO fx (pMore f n 42 47 (pFac f n rc) k (true, p, c)).2.2)
  | u, N, k, p, c, h1, h2, h3, h4, hc => by
    obtain ⟨N, rfl⟩ : ∃ M, N = M + 1 := ⟨N - 1, by omega⟩
    by_cases hs : sg f n p = 42 ∨ sg f n p = 47
    · have hp1 : p < n := sg_in (f := f) (by omega)
      obtain ⟨u, rfl⟩ : ∃ M, u = M + 1 := ⟨u - 1, by omega⟩
      obtain ⟨k, rfl⟩ : ∃ M, k = M + 1 := ⟨k - 1, by omega⟩
      obtain ⟨v, e1, e2⟩ := hS (p + 1) hp1
      obtain ⟨g1, g2, g3⟩ := hG (p + 1) hp1
      have hp2 := hP (p + 1)
      rw [pMore, if_pos hs]
      rcases hk : pFac f n rc (p + 1) with ⟨ok, p1, c1⟩
      rw [hk] at e1 e2 g1 g2 g3 hp2
      simp only [] at e1 e2 g1 g2 g3 hp2 ⊢
      cases ok with
      | false =>
        simp only [mW, if_false, Bool.false_eq_true] at e1
        have fin : ∀ x, ∃ v, f_X11_product_L6 5000 rec 129 (nI d) N x (hp q ρ L (mp I p1 (nI p1))) = some (v, hp q ρ L (mp I p1 (mW (false, p1, c ++ c1)))) ∧ (false = true → v = vO fx (c ++ c1)) := fun x => ⟨x, h_prL (by omega) (by omega), fun h => by cases h⟩
        rcases hs with hs | hs
        · rw [f_X11_product_L6]
          simp (disch := first | omega | assumption) only [m_fine, m_here hR, hv_eq hR, hs, if_true, kM, kMA, ob_, b2_, jn_, nn_lt, nn_le, nn_eq, nI_add, pk_mul, nn_su, gn_lt, gn_le, ng_lt, ng_le, ng_eq, gn_eq, gg_eq, n_m1, n_cl, if_true, if_false, if_pos, if_neg, ite_self, lt0, mp_at, mp_u17, e1]
          exact fin _
        · rw [f_X11_product_L6]
          simp (disch := first | omega | assumption) only [m_fine, m_here hR, hv_eq hR, hs, if_true, kM, kMA, ob_, b2_, jn_, nn_lt, nn_le, nn_eq, nI_add, pk_mul, nn_su, gn_lt, gn_le, ng_lt, ng_le, ng_eq, gn_eq, gg_eq, n_m1, n_cl, if_true, if_false, if_pos, if_neg, ite_self, lt0, mp_at, mp_u17, e1]
          by_cases hz : v = nI 0
          · simp only [if_pos hz]
            exact fin _
          · have ed : j_div (vO fx c) v = some (vO fx c / v) := if_neg hz
            simp only [if_neg hz, ed, ob_]
            exact fin _
      | true =>
        obtain ⟨hq1, hq2⟩ := hp2 rfl
        simp only [mW, if_true] at e1
        have e2' := e2 rfl
        subst e2'
        rcases hs with hs | hs
        · obtain ⟨b1, b3⟩ := Pu_bin (s := 42) hc hq1 (by omega) (by omega)
          have ih := h_proL hR hn hG hP hS u N k p1 _ (by omega) (by omega) (by omega) g2 b1
          rw [b3] at ih
          rw [f_X11_product_L6, hs]
          simp (disch := first | omega | assumption) only [m_fine, m_here hR, hv_eq hR, hs, if_true, kM, kMA, ob_, b2_, jn_, nn_lt, nn_le, nn_eq, nI_add, pk_mul, nn_su, gn_lt, gn_le, ng_lt, ng_le, ng_eq, gn_eq, gg_eq, n_m1, n_cl, if_true, if_false, if_pos, if_neg, ite_self, lt0, mp_at, mp_u17, e1]
          exact ih
        · obtain ⟨b1, b3⟩ := Pu_bin (s := 47) hc hq1 (by omega) (by omega)
          have ih := h_proL hR hn hG hP hS u N k p1 _ (by omega) (by omega) (by omega) g2 b1
          rw [b3] at ih
          rw [f_X11_product_L6, hs]
          simp (disch := first | omega | assumption) only [m_fine, m_here hR, hv_eq hR, hs, if_true, kM, kMA, ob_, b2_, jn_, nn_lt, nn_le, nn_eq, nI_add, pk_mul, nn_su, gn_lt, gn_le, ng_lt, ng_le, ng_eq, gn_eq, gg_eq, n_m1, n_cl, if_true, if_false, if_pos, if_neg, ite_self, lt0, mp_at, mp_u17, e1]
          by_cases hz : vO fx c1 = nI 0
          · have ej : jnd 47 (vO fx c) (vO fx c1) = nI 0 := by simp [jnd, hz]
            rw [ej] at ih
            simp only [if_pos hz]
            exact ih
          · have ed : j_div (vO fx c) (vO fx c1) = some (vO fx c / vO fx c1) := if_neg hz
            have ej : jnd 47 (vO fx c) (vO fx c1) = vO fx c / vO fx c1 := by simp [jnd, hz]
            rw [ej] at ih
            simp only [if_neg hz, ed, ob_]
            exact ih
    · have e : pMore f n 42 47 (pFac f n rc) k (true, p, c) = (true, p, c) := by
        cases k with
        | zero => rfl
        | succ k => rw [pMore, if_neg hs]
      rw [e]
      refine ⟨vO fx c, ?_, fun _ => rfl⟩
      have hs1 : ¬ sg f n p = 42 := fun h => hs (.inl h)
      have hs2 : ¬ sg f n p = 47 := fun h => hs (.inr h)
      simp (disch := first | omega | assumption) only [f_X11_product_L6, m_fine, m_here hR, hv_eq hR, if_neg hs1, if_neg hs2, kM, kMA, ob_, b2_, jn_, nn_lt, nn_le, nn_eq, nI_add, pk_mul, nn_su, gn_lt, gn_le, ng_lt, ng_le, ng_eq, gn_eq, gg_eq, n_m1, n_cl, if_true, if_false, if_pos, if_neg, ite_self, lt0]
      rfl
theorem h_pro {q : pQ} {ρ : pP} {L : pL} {I : pI} {n d : Nat} {f : Nat → Nat} {fx : Nat → Int32} {rec : Nat → Nat → Int32 → jH → Option (Int32 × jH)} {rc : Option (Nat → pO)} (hR : RdM ρ I f n) (hn : n ≤ 40) (hG : Gd n (pFac f n rc)) (hP : PS fx (pFac f n rc)) (hS : MSP q ρ L I n fx (rec 3 129 (nI d)) (pFac f n rc)) : MSP q ρ L I n fx (b_X11_product 5000 rec 129 (nI d)) (pPro f n rc) := by
  intro p hpn
  obtain ⟨v, e1, e2⟩ := hS p hpn
  obtain ⟨g1, g2, g3⟩ := hG p hpn
  have hp2 := hP p
  simp only [b_X11_product, kM]
  rw [e1, b2]
  unfold pPro
  rcases hk : pFac f n rc p with ⟨ok, p1, c1⟩
  rw [hk] at e1 e2 g1 g2 g3 hp2
  simp only [] at e1 e2 g1 g2 g3 hp2 ⊢
  cases ok with
  | false =>
    have e : pMore f n 42 47 (pFac f n rc) 40 (false, p1, c1) = (false, p1, c1) := rfl
    rw [e]
    exact ⟨v, h_prL (x := p1) (by omega) (by omega), fun h => by cases h⟩
  | true =>
    rw [e2 rfl]
    exact h_proL hR hn hG hP hS 40 5000 40 p1 c1 (by omega) (by omega) (by omega) g2 (hp2 rfl).1
theorem h_sumL {q : pQ} {ρ : pP} {L : pL} {I : pI} {n d : Nat} {f : Nat → Nat} {fx : Nat → Int32} {rec : Nat → Nat → Int32 → jH → Option (Int32 × jH)} {rc : Option (Nat → pO)} (hR : RdM ρ I f n) (hn : n ≤ 40) (hG : Gd n (pPro f n rc)) (hP : PS fx (pPro f n rc)) (hS : MSP q ρ L I n fx (rec 2 129 (nI d)) (pPro f n rc)) : ∀ u N k p c, n ≤ p + u → u < N → u ≤ k → p ≤ n → Pu fx c →
    ∃ v, f_X11_sum_L6 5000 rec 129 (nI d) N (vO fx c) (hp q ρ L (mp I p (-nI 1))) = some (v, hp q ρ L (mp I (pMore f n 43 45 (pPro f n rc) k (true, p, c)).2.1 (mW (pMore f n 43 45 (pPro f n rc) k (true, p, c))))) ∧ ((pMore f n 43 45 (pPro f n rc) k (true, p, c)).1 = true → v = vO fx (pMore f n 43 45 (pPro f n rc) k (true, p, c)).2.2)
  | u, N, k, p, c, h1, h2, h3, h4, hc => by
    obtain ⟨N, rfl⟩ : ∃ M, N = M + 1 := ⟨N - 1, by omega⟩
    by_cases hs : sg f n p = 43 ∨ sg f n p = 45
    · have hp1 : p < n := sg_in (f := f) (by omega)
      obtain ⟨u, rfl⟩ : ∃ M, u = M + 1 := ⟨u - 1, by omega⟩
      obtain ⟨k, rfl⟩ : ∃ M, k = M + 1 := ⟨k - 1, by omega⟩
      obtain ⟨v, e1, e2⟩ := hS (p + 1) hp1
      obtain ⟨g1, g2, g3⟩ := hG (p + 1) hp1
      have hp2 := hP (p + 1)
      rw [pMore, if_pos hs]
      rcases hk : pPro f n rc (p + 1) with ⟨ok, p1, c1⟩
      rw [hk] at e1 e2 g1 g2 g3 hp2
      simp only [] at e1 e2 g1 g2 g3 hp2 ⊢
      cases ok with
      | false =>
        simp only [mW, if_false, Bool.false_eq_true] at e1
        have fin : ∀ x, ∃ v, f_X11_sum_L6 5000 rec 129 (nI d) N x (hp q ρ L (mp I p1 (nI p1))) = some (v, hp q ρ L (mp I p1 (mW (false, p1, c ++ c1)))) ∧ (false = true → v = vO fx (c ++ c1)) := fun x => ⟨x, h_suL (by omega) (by omega), fun h => by cases h⟩
        rcases hs with hs | hs
        · rw [f_X11_sum_L6]
          simp (disch := first | omega | assumption) only [m_fine, m_here hR, hv_eq hR, hs, if_true, kM, kMA, ob_, b2_, jn_, nn_lt, nn_le, nn_eq, nI_add, pk_mul, nn_su, gn_lt, gn_le, ng_lt, ng_le, ng_eq, gn_eq, gg_eq, n_m1, n_cl, if_true, if_false, if_pos, if_neg, ite_self, lt0, mp_at, mp_u17, e1]
          exact fin _
        · rw [f_X11_sum_L6]
          simp (disch := first | omega | assumption) only [m_fine, m_here hR, hv_eq hR, hs, if_true, kM, kMA, ob_, b2_, jn_, nn_lt, nn_le, nn_eq, nI_add, pk_mul, nn_su, gn_lt, gn_le, ng_lt, ng_le, ng_eq, gn_eq, gg_eq, n_m1, n_cl, if_true, if_false, if_pos, if_neg, ite_self, lt0, mp_at, mp_u17, e1]
          exact fin _
      | true =>
        obtain ⟨hq1, hq2⟩ := hp2 rfl
        simp only [mW, if_true] at e1
        have e2' := e2 rfl
        subst e2'
        rcases hs with hs | hs
        · obtain ⟨b1, b3⟩ := Pu_bin (s := 43) hc hq1 (by omega) (by omega)
          have ih := h_sumL hR hn hG hP hS u N k p1 _ (by omega) (by omega) (by omega) g2 b1
          rw [b3] at ih
          rw [f_X11_sum_L6, hs]
          simp (disch := first | omega | assumption) only [m_fine, m_here hR, hv_eq hR, hs, if_true, kM, kMA, ob_, b2_, jn_, nn_lt, nn_le, nn_eq, nI_add, pk_mul, nn_su, gn_lt, gn_le, ng_lt, ng_le, ng_eq, gn_eq, gg_eq, n_m1, n_cl, if_true, if_false, if_pos, if_neg, ite_self, lt0, mp_at, mp_u17, e1]
          exact ih
        · obtain ⟨b1, b3⟩ := Pu_bin (s := 45) hc hq1 (by omega) (by omega)
          have ih := h_sumL hR hn hG hP hS u N k p1 _ (by omega) (by omega) (by omega) g2 b1
          rw [b3] at ih
          rw [f_X11_sum_L6, hs]
          simp (disch := first | omega | assumption) only [m_fine, m_here hR, hv_eq hR, hs, if_true, kM, kMA, ob_, b2_, jn_, nn_lt, nn_le, nn_eq, nI_add, pk_mul, nn_su, gn_lt, gn_le, ng_lt, ng_le, ng_eq, gn_eq, gg_eq, n_m1, n_cl, if_true, if_false, if_pos, if_neg, ite_self, lt0, mp_at, mp_u17, e1]
          exact ih
    · have e : pMore f n 43 45 (pPro f n rc) k (true, p, c) = (true, p, c) := by
        cases k with
        | zero => rfl
        | succ k => rw [pMore, if_neg hs]
      rw [e]
      refine ⟨vO fx c, ?_, fun _ => rfl⟩
      have hs1 : ¬ sg f n p = 43 := fun h => hs (.inl h)
      have hs2 : ¬ sg f n p = 45 := fun h => hs (.inr h)
      simp (disch := first | omega | assumption) only [f_X11_sum_L6, m_fine, m_here hR, hv_eq hR, if_neg hs1, if_neg hs2, kM, kMA, ob_, b2_, jn_, nn_lt, nn_le, nn_eq, nI_add, pk_mul, nn_su, gn_lt, gn_le, ng_lt, ng_le, ng_eq, gn_eq, gg_eq, n_m1, n_cl, if_true, if_false, if_pos, if_neg, ite_self, lt0]
      rfl
theorem h_sum {q : pQ} {ρ : pP} {L : pL} {I : pI} {n d : Nat} {f : Nat → Nat} {fx : Nat → Int32} {rec : Nat → Nat → Int32 → jH → Option (Int32 × jH)} {rc : Option (Nat → pO)} (hR : RdM ρ I f n) (hn : n ≤ 40) (hG : Gd n (pPro f n rc)) (hP : PS fx (pPro f n rc)) (hS : MSP q ρ L I n fx (rec 2 129 (nI d)) (pPro f n rc)) : MSP q ρ L I n fx (b_X11_sum 5000 rec 129 (nI d)) (pSum f n rc) := by
  intro p hpn
  obtain ⟨v, e1, e2⟩ := hS p hpn
  obtain ⟨g1, g2, g3⟩ := hG p hpn
  have hp2 := hP p
  simp only [b_X11_sum, kM]
  rw [e1, b2]
  unfold pSum
  rcases hk : pPro f n rc p with ⟨ok, p1, c1⟩
  rw [hk] at e1 e2 g1 g2 g3 hp2
  simp only [] at e1 e2 g1 g2 g3 hp2 ⊢
  cases ok with
  | false =>
    have e : pMore f n 43 45 (pPro f n rc) 40 (false, p1, c1) = (false, p1, c1) := rfl
    rw [e]
    exact ⟨v, h_suL (x := p1) (by omega) (by omega), fun h => by cases h⟩
  | true =>
    rw [e2 rfl]
    exact h_sumL hR hn hG hP hS 40 5000 40 p1 c1 (by omega) (by omega) (by omega) g2 (hp2 rfl).1
theorem h_cmp {q : pQ} {ρ : pP} {L : pL} {I : pI} {n d N : Nat} {f : Nat → Nat} {fx : Nat → Int32} {rc : Option (Nat → pO)} (hR : RdM ρ I f n) (hn : n ≤ 40) (hG : Gd n (pSum f n rc)) (hP : PS fx (pSum f n rc)) (hS : MSP q ρ L I n fx (f_gH 5000 (N + 3) 1 129 (nI d)) (pSum f n rc)) : MSP q ρ L I n fx (b_X11_held 5000 (f_gH 5000 (N + 3)) 129 (nI d)) (pCmp f n rc) := by
  intro p hpn
  obtain ⟨v, e1, e2⟩ := hS p hpn
  obtain ⟨g1, g2, g3⟩ := hG p hpn
  have hp2 := hP p
  simp only [b_X11_held, kM]
  rw [e1, b2]
  unfold pCmp
  rcases hk : pSum f n rc p with ⟨ok, p1, c⟩
  rw [hk] at e1 e2 g1 g2 g3 hp2
  simp only [] at e1 e2 g1 g2 g3 hp2 ⊢
  cases ok with
  | false =>
    refine ⟨v, ?_, fun h => by cases h⟩
    simp (disch := first | omega | assumption) only [mW, if_false, Bool.false_eq_true, m_passesD, ob_, b2_, jn_, nn_lt, nn_le, nn_eq, nI_add, pk_mul, nn_su, gn_lt, gn_le, ng_lt, ng_le, ng_eq, gn_eq, gg_eq, n_m1, n_cl, if_true, if_false, if_pos, if_neg, ite_self, lt0]
  | true =>
    have e2' := e2 rfl
    subst e2'
    have hc := (hp2 rfl).1
    simp (disch := first | omega | assumption) only [mW, if_true, m_passes hR, lt0]
    by_cases hs : sg f n p1 = 60 ∨ sg f n p1 = 62 ∨ sg f n p1 = 61
    · have hp1 : p1 < n := sg_in (f := f) (by omega)
      obtain ⟨v2, f1, f2⟩ := hS (p1 + 1) hp1
      obtain ⟨k1, k2, k3⟩ := hG (p1 + 1) hp1
      have hp3 := hP (p1 + 1)
      rw [if_pos hs]
      rcases hk2 : pSum f n rc (p1 + 1) with ⟨ok2, p2, c2⟩
      rw [hk2] at f1 f2 k1 k2 k3 hp3
      simp only [] at f1 f2 k1 k2 k3 hp3 ⊢
      have hw : ∀ (o : pO), o.1 = ok2 → o.2.1 = p2 → mp I p2 (mW (ok2, p2, c2)) = mp I o.2.1 (mW o) := by
        intro o h1 h2
        unfold mW
        rw [h1, h2]
      rcases hs with hs | hs | hs
      · by_cases hv : v2 ≤ vO fx c
        · refine ⟨nI 0, ?_, ?_⟩
          · simp (disch := first | omega | assumption) only [hs, if_true, ob_, b2_, jn_, nn_lt, nn_le, nn_eq, nI_add, pk_mul, nn_su, gn_lt, gn_le, ng_lt, ng_le, ng_eq, gn_eq, gg_eq, n_m1, n_cl, if_true, if_false, if_pos, if_neg, ite_self, lt0, f1, hv]
            cases ok2 <;> rfl
          · cases ok2 with
            | false => intro h; cases h
            | true =>
              intro _
              have hq := hp3 rfl
              have := f2 rfl
              subst this
              rw [hs, (Pu_bin (s := 60) hc hq.1 (by omega) (by omega)).2]
              simp only [jnd, i_nlt hv, if_false]
              rfl
        · refine ⟨nI 1, ?_, ?_⟩
          · simp (disch := first | omega | assumption) only [hs, if_true, ob_, b2_, jn_, nn_lt, nn_le, nn_eq, nI_add, pk_mul, nn_su, gn_lt, gn_le, ng_lt, ng_le, ng_eq, gn_eq, gg_eq, n_m1, n_cl, if_true, if_false, if_pos, if_neg, ite_self, lt0, f1, hv]
            cases ok2 <;> rfl
          · cases ok2 with
            | false => intro h; cases h
            | true =>
              intro _
              have hq := hp3 rfl
              have := f2 rfl
              subst this
              rw [hs, (Pu_bin (s := 60) hc hq.1 (by omega) (by omega)).2]
              simp only [jnd, i_nge hv, if_true]
              rfl
      · by_cases hv : vO fx c ≤ v2
        · refine ⟨nI 0, ?_, ?_⟩
          · simp (disch := first | omega | assumption) only [hs, if_true, ob_, b2_, jn_, nn_lt, nn_le, nn_eq, nI_add, pk_mul, nn_su, gn_lt, gn_le, ng_lt, ng_le, ng_eq, gn_eq, gg_eq, n_m1, n_cl, if_true, if_false, if_pos, if_neg, ite_self, lt0, m_passes hR, f1, hv]
            cases ok2 <;> rfl
          · cases ok2 with
            | false => intro h; cases h
            | true =>
              intro _
              have hq := hp3 rfl
              have := f2 rfl
              subst this
              rw [hs, (Pu_bin (s := 62) hc hq.1 (by omega) (by omega)).2]
              simp only [jnd, i_nlt hv, if_false]
              rfl
        · refine ⟨nI 1, ?_, ?_⟩
          · simp (disch := first | omega | assumption) only [hs, if_true, ob_, b2_, jn_, nn_lt, nn_le, nn_eq, nI_add, pk_mul, nn_su, gn_lt, gn_le, ng_lt, ng_le, ng_eq, gn_eq, gg_eq, n_m1, n_cl, if_true, if_false, if_pos, if_neg, ite_self, lt0, m_passes hR, f1, hv]
            cases ok2 <;> rfl
          · cases ok2 with
            | false => intro h; cases h
            | true =>
              intro _
              have hq := hp3 rfl
              have := f2 rfl
              subst this
              rw [hs, (Pu_bin (s := 62) hc hq.1 (by omega) (by omega)).2]
              simp only [jnd, i_nge hv, if_true]
              rfl
      · by_cases hv : vO fx c = v2
        · refine ⟨nI 1, ?_, ?_⟩
          · simp (disch := first | omega | assumption) only [hs, if_true, ob_, b2_, jn_, nn_lt, nn_le, nn_eq, nI_add, pk_mul, nn_su, gn_lt, gn_le, ng_lt, ng_le, ng_eq, gn_eq, gg_eq, n_m1, n_cl, if_true, if_false, if_pos, if_neg, ite_self, lt0, m_passes hR, f1, hv]
            cases ok2 <;> rfl
          · cases ok2 with
            | false => intro h; cases h
            | true =>
              intro _
              have hq := hp3 rfl
              have := f2 rfl
              subst this
              rw [hs, (Pu_bin (s := 61) hc hq.1 (by omega) (by omega)).2]
              simp only [jnd, hv, if_true]
              rfl
        · refine ⟨nI 0, ?_, ?_⟩
          · simp (disch := first | omega | assumption) only [hs, if_true, ob_, b2_, jn_, nn_lt, nn_le, nn_eq, nI_add, pk_mul, nn_su, gn_lt, gn_le, ng_lt, ng_le, ng_eq, gn_eq, gg_eq, n_m1, n_cl, if_true, if_false, if_pos, if_neg, ite_self, lt0, m_passes hR, f1, hv]
            cases ok2 <;> rfl
          · cases ok2 with
            | false => intro h; cases h
            | true =>
              intro _
              have hq := hp3 rfl
              have := f2 rfl
              subst this
              rw [hs, (Pu_bin (s := 61) hc hq.1 (by omega) (by omega)).2]
              simp only [jnd, if_neg hv]
              rfl
    · have h1 : ¬ sg f n p1 = 60 := fun h => hs (.inl h)
      have h2 : ¬ sg f n p1 = 62 := fun h => hs (.inr (.inl h))
      have h3 : ¬ sg f n p1 = 61 := fun h => hs (.inr (.inr h))
      rw [if_neg hs]
      refine ⟨vO fx c, ?_, fun _ => rfl⟩
      simp (disch := first | omega | assumption) only [if_neg h1, if_neg h2, if_neg h3, m_passes hR, ob_, b2_, jn_, nn_lt, nn_le, nn_eq, nI_add, pk_mul, nn_su, gn_lt, gn_le, ng_lt, ng_le, ng_eq, gn_eq, gg_eq, n_m1, n_cl, if_true, if_false, if_pos, if_neg, ite_self, lt0]
theorem h_lev {q : pQ} {ρ : pP} {L : pL} {I : pI} {n d B : Nat} {f : Nat → Nat} {fx : Nat → Int32} {rc : Option (Nat → pO)} (hR : RdM ρ I f n) (hn : n ≤ 40) (hd : d ≤ 4) (hfx : Fx I fx) (hB : 4 ≤ B)
    (hrc : (rc = none ∧ d = 4) ∨ ∃ k, rc = some k ∧ d < 4 ∧ Gd n k ∧ PS fx k ∧ ∀ N, B ≤ N → MSP q ρ L I n fx (f_gH 5000 N 0 129 (nI (d + 1))) k) : ∀ N, B + 44 ≤ N → MSP q ρ L I n fx (f_gH 5000 N 0 129 (nI d)) (pCmp f n rc) := by
  have hG : ∀ k, rc = some k → Gd n k := by
    intro k hk
    rcases hrc with ⟨rfl, _⟩ | ⟨k', rfl, _, g, _⟩
    · cases hk
    · cases hk
      exact g
  have hP : ∀ k, rc = some k → PS fx k := by
    intro k hk
    rcases hrc with ⟨rfl, _⟩ | ⟨k', rfl, _, _, g, _⟩
    · cases hk
    · cases hk
      exact g
  intro N hN
  obtain ⟨N, rfl⟩ : ∃ M, N = M + 4 := ⟨N - 4, by omega⟩
  have s3 : MSP q ρ L I n fx (f_gH 5000 (N + 1) 3 129 (nI d)) (pFac f n rc) := fun p hp => h_thing hR hn hd hfx hB hrc 40 (N + 1) p (by omega) (by omega) hp
  have s2 : MSP q ρ L I n fx (f_gH 5000 (N + 2) 2 129 (nI d)) (pPro f n rc) := h_pro (rec := f_gH 5000 (N + 1)) hR hn (Gd_fac hG) (PS_fac hP) s3
  have s1 : MSP q ρ L I n fx (f_gH 5000 (N + 3) 1 129 (nI d)) (pSum f n rc) := h_sum (rec := f_gH 5000 (N + 2)) hR hn (Gd_pro hG) (PS_pro hP) s2
  exact h_cmp (N := N) hR hn (Gd_sum hG) (PS_sum hP) s1
theorem h_exp {q : pQ} {ρ : pP} {L : pL} {I : pI} {n : Nat} {f : Nat → Nat} {fx : Nat → Int32} (hR : RdM ρ I f n) (hn : n ≤ 40) (hfx : Fx I fx) : ∀ r d N, d + r = 4 → 4 + 44 * (r + 1) ≤ N → MSP q ρ L I n fx (f_gH 5000 N 0 129 (nI d)) (pExp f n r)
  | 0, d, N, h, hN => h_lev hR hn (by omega) hfx (B := 4) (by omega) (.inl ⟨rfl, by omega⟩) N (by omega)
  | r + 1, d, N, h, hN => h_lev hR hn (by omega) hfx (B := 4 + 44 * (r + 1)) (by omega) (.inr ⟨pExp f n r, rfl, by omega, Gd_exp r, PS_exp r, fun N hN => h_exp hR hn hfx r (d + 1) N (by omega) hN⟩) N (by omega)
