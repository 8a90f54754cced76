/-! THE TEXT IS READ AND GOES -/
theorem Xs_tx {G : gG} {ρ : pP} {I : pI} {f : Nat → Nat} (h : Xs G ρ I) : Xs (sTx G (0, f)) ρ (j_up I 1 1 (nI 0)) := by
  obtain ⟨hT, hL, hD, hP, hS, hU, hK, hR, hρ⟩ := h
  have e5 : ∀ b, b ≠ 1 → j_up I 1 1 (nI 0) b = I b := fun b hb => up_ne hb
  exact ⟨⟨up_eq, fun k hk => absurd hk (Nat.not_lt_zero k)⟩, XL_k (fun b _ _ => e5 b (by omega)) hL, XD_k (fun b _ _ => e5 b (by omega)) hD, by rw [e5 0 (by omega)]; exact hP, XS_k (fun i _ => e5 _ (by omega)) hS, XU_k (fun b _ _ => e5 b (by omega)) hU, XK_k (fun b _ _ => e5 b (by omega)) hK, XR_k (fun b _ _ => e5 b (by omega)) hR, hρ⟩
theorem Ms_tx {t : Nat} {G : gG} {ρ : pP} {I : pI} {f : Nat → Nat} (h : Ms t G ρ I) : Ms t (sTx G (0, f)) ρ (j_up I 129 10 (nI 0)) := by
  obtain ⟨hT, hL, hD, hP, hS, hU, hK, hR⟩ := h
  have e5 : ∀ b, b ≠ 129 → j_up I 129 10 (nI 0) b = I b := fun b h1 => up_ne h1
  have e6 : ∀ k, k ≠ 10 → j_up I 129 10 (nI 0) 129 k = I 129 k := fun k h1 => up_nk h1
  exact ⟨⟨up_eq, fun k hk => absurd hk (Nat.not_lt_zero k)⟩, ML_k (e6 _ (by omega)) (e5 131 (by omega)) (e5 132 (by omega)) (e5 133 (by omega)) hL, MD_k (e6 _ (by omega)) (e5 134 (by omega)) hD, by rw [e6 _ (by omega), e6 _ (by omega)]; exact hP, MS_k (e5 130 (by omega)) hS, MU_k (e6 _ (by omega)) (e5 144 (by omega)) hU, MK_k (Nat.le_refl t) (e6 _ (by omega)) (e5 158 (by omega)) (e5 159 (by omega)) (e5 160 (by omega)) hK, MR_k (e6 _ (by omega)) (e5 140 (by omega)) hR⟩
abbrev oTx : gT := (0, fun _ => 0)
theorem XH_x {fX : jH → Option (Int32 × jH)} {G : gG} {v : Int32} (rw_ : gR) (h : ∀ q ρ L I, Xr G ρ L I → ∃ ρ' L' I', fX (hp q ρ L I) = some (v, hp q ρ' L' I') ∧ Fr (tY ρ.1.1) (j_up I 1 1 (nI 0)) I' ∧ (ρ'.1 = ρ.1 ∧ ρ'.2.2 = ρ.2.2 ∧ (ρ'.2.1 = (112, 113) ∨ ρ'.2.1 = (113, 112))) ∧ L' 136 = L 136 ∧ XW rw_ L' I') : XH fX G v (sRw (sTx G oTx) rw_) := by
  intro q ρ L I hq hX
  obtain ⟨ρ', L', I', e, hF, ⟨r1, r2, r3⟩, hL, hw⟩ := h q ρ L I hX
  exact ⟨q, ρ', L', I', e, ⟨Xs_fr (G := sRw (sTx G oTx) rw_) hF r1 r3 (Xs_tx hX.1), hw⟩, ⟨r2, hL, fun b h1 h2 => funext (fun k => by rw [hF b k (tY_m h1 h2), up_ne (by omega)])⟩, Nat.le_refl _, Nat.le_succ _, Nat.le_add_right _ _⟩
theorem MH_x {fM : jH → Option (Int32 × jH)} {G : gG} {v : Int32} (rw_ : gR) (h : ∀ t q ρ L I, Mr t G ρ L I → ∃ ρ' L' I', fM (hp q ρ L I) = some (v, hp q ρ' L' I') ∧ Fr tN (j_up I 129 10 (nI 0)) I' ∧ (ρ'.1 = ρ.1 ∧ ρ'.2.1 = ρ.2.1 ∧ ρ'.2.2.2 = ρ.2.2.2) ∧ L' 4 = L 4 ∧ MW rw_ L' I') : MH fM G v (sRw (sTx G oTx) rw_) := by
  intro t q ρ L I ht hM
  obtain ⟨ρ', L', I', e, hF, ⟨r1, r2, r3⟩, hL, hw⟩ := h t q ρ L I hM
  exact ⟨ρ', L', I', e, ⟨Ms_fr (G := sRw (sTx G oTx) rw_) hF r3 (Ms_tx hM.1), hw⟩, ⟨r1, r2⟩, hL, fun b h1 => funext (fun k => by rw [hF b k (tN_x h1), up_ne (by omega)])⟩
theorem WT_0 : WT oTx := ⟨by decide, fun k hk => absurd hk (Nat.not_lt_zero k)⟩
/-! digits -/
def dgr (f : Nat → Nat) (n : Nat) : Nat → Nat → Nat
  | 0, p => p
  | k + 1, p => if 48 ≤ sg f n p ∧ sg f n p < 58 then dgr f n k (p + 1) else p
theorem dgr_le {f : Nat → Nat} {n : Nat} : ∀ k p, p ≤ dgr f n k p ∧ dgr f n k p ≤ p + k
  | 0, p => ⟨Nat.le_refl p, Nat.le_refl p⟩
  | k + 1, p => by
    rw [dgr]
    have := dgr_le (f := f) (n := n) k (p + 1)
    split <;> omega
theorem dgr_n {f : Nat → Nat} {n : Nat} : ∀ k p, p ≤ n → dgr f n k p ≤ n
  | 0, p, h => h
  | k + 1, p, h => by
    rw [dgr]
    split
    · rename_i g
      have := sg_in (f := f) (n := n) (p := p) (by omega)
      exact dgr_n k (p + 1) this
    · exact h
theorem dgr_in {f : Nat → Nat} {n : Nat} : ∀ k p j, p ≤ j → j < dgr f n k p → 48 ≤ sg f n j ∧ sg f n j < 58
  | 0, p, j, h1, h2 => by rw [dgr] at h2; omega
  | k + 1, p, j, h1, h2 => by
    rw [dgr] at h2
    split at h2
    · by_cases e : j = p
      · rw [e]
        assumption
      · exact dgr_in k (p + 1) j (by omega) h2
    · omega
theorem dgr_out {f : Nat → Nat} {n : Nat} : ∀ k p, dgr f n k p < p + k → ¬ (48 ≤ sg f n (dgr f n k p) ∧ sg f n (dgr f n k p) < 58)
  | 0, p, h => by rw [dgr] at h; omega
  | k + 1, p, h => by
    rw [dgr] at h ⊢
    split at h
    · rename_i g
      rw [if_pos g]
      exact dgr_out k (p + 1) (by omega)
    · rename_i g
      rw [if_neg g]
      exact g
theorem dgr_min {f : Nat → Nat} {T m : Nat} : ∀ k p, p + k ≤ m → dgr f (min T m) k p = dgr f T k p
  | 0, p, h => rfl
  | k + 1, p, h => by
    have e : sg f (min T m) p = sg f T p := by
      unfold sg
      by_cases g : p < T
      · rw [if_pos g, if_pos (by omega)]
      · rw [if_neg g, if_neg (by omega)]
    rw [dgr, dgr, e, dgr_min k (p + 1) (by omega)]
theorem x_dgL {q : pQ} {ρ : pP} {L : pL} {I : pI} {f : Nat → Nat} {n m : Nat} {x1 : Int32} (hR : Rd I f n) (hm : m ≤ 80) {kk : Int32 → jH → Option (Int32 × jH)} : ∀ k p N, p + k = m → k < N → p ≤ n → f_X10_readDigits_L2 5000 0 x1 (nI m) kk N (nI p) (hp q ρ L (ap I p)) = kk (nI (dgr f n k p)) (hp q ρ L (ap I (dgr f n k p)))
  | _, _, 0, _, h, _ => absurd h (Nat.not_lt_zero _)
  | 0, p, N + 1, h1, h2, h3 => by
    rw [f_X10_readDigits_L2, dgr]
    simp (disch := first | omega | assumption) only [nn_le, if_pos]
  | k + 1, p, N + 1, h1, h2, h3 => by
    have e := x_takeFrom (q := q) (ρ := ρ) (L := L) (a := 48) (m := 10) hR h3 (by omega)
    rw [f_X10_readDigits_L2, dgr]
    by_cases h : 48 ≤ sg f n p ∧ sg f n p < 58
    · have hp' : p < n := sg_in (f := f) (by omega)
      rw [if_pos h] at e ⊢
      simp (disch := first | omega | assumption) only [↓bX, ↓bXA, ↓jn_, ↓ob_, ↓b2_, ↓reduceIte, nn_lt, nn_le, nn_eq, nI_add, pk_mul, nn_su, gn_lt, gn_le, ng_lt, ng_le, ng_eq, gn_eq, gg_eq, n_m1, n_cl, if_true, if_false, if_pos, if_neg, lt0, ↓b2e e]
      exact x_dgL hR hm k (p + 1) N (by omega) (by omega) (by omega)
    · rw [if_neg h] at e ⊢
      simp (disch := first | omega | assumption) only [↓bX, ↓bXA, ↓jn_, ↓ob_, ↓b2_, ↓reduceIte, nn_lt, nn_le, nn_eq, nI_add, pk_mul, nn_su, gn_lt, gn_le, ng_lt, ng_le, ng_eq, gn_eq, gg_eq, n_m1, n_cl, if_true, if_false, if_pos, if_neg, lt0, ↓b2e e]
theorem x_digits {q : pQ} {ρ : pP} {L : pL} {I : pI} {f : Nat → Nat} {T n a m : Nat} (hR : Rd I f n) (hT : I 1 1 = nI T) (h80 : T ≤ 80) (hm : m ≤ 80) (ha : a ≤ 80) : f_X10_readDigits 5000 0 (nI a) (nI m) (hp q ρ L (ap I 0)) = some (if a ≤ dgr f n m 0 ∧ dgr f n m 0 = T then nI 0 else -nI (1 + dgr f n m 0), hp q ρ L (ap I (dgr f n m 0))) := by
  have b1 := (dgr_le (f := f) (n := n) m 0).2
  obtain ⟨e, he⟩ : ∃ e, e = dgr f n m 0 := ⟨_, rfl⟩
  have ho := x_isOver (q := q) (ρ := ρ) (L := L) (p := e) hT h80 (by omega)
  have hf := x_fault (q := q) (ρ := ρ) (L := L) (I := I) (p := e)
  simp (disch := first | omega | assumption) only [f_X10_readDigits, ↓bX, lt0]
  rw [x_dgL hR hm m 0 5000 (by omega) (by omega) (by omega), ← he]
  by_cases h1 : e < a
  · rw [if_neg (by omega)]
    simp (disch := first | omega | assumption) only [↓bX, ↓bXA, ↓jn_, ↓ob_, ↓b2_, ↓reduceIte, nn_lt, nn_le, nn_eq, nI_add, pk_mul, nn_su, gn_lt, gn_le, ng_lt, ng_le, ng_eq, gn_eq, gg_eq, n_m1, n_cl, if_true, if_false, if_pos, if_neg, lt0, ↓b2e hf]
  · by_cases h2 : e = T
    · rw [if_pos h2] at ho
      rw [if_pos (by omega)]
      simp (disch := first | omega | assumption) only [↓bX, ↓bXA, ↓jn_, ↓ob_, ↓b2_, ↓reduceIte, nn_lt, nn_le, nn_eq, nI_add, pk_mul, nn_su, gn_lt, gn_le, ng_lt, ng_le, ng_eq, gn_eq, gg_eq, n_m1, n_cl, if_true, if_false, if_pos, if_neg, lt0, ↓b2e ho]
    · rw [if_neg h2] at ho
      rw [if_neg (by omega)]
      simp (disch := first | omega | assumption) only [↓bX, ↓bXA, ↓jn_, ↓ob_, ↓b2_, ↓reduceIte, nn_lt, nn_le, nn_eq, nI_add, pk_mul, nn_su, gn_lt, gn_le, ng_lt, ng_le, ng_eq, gn_eq, gg_eq, n_m1, n_cl, if_true, if_false, if_pos, if_neg, lt0, ↓b2e ho, ↓b2e hf]
theorem Rd_of {g : gT} {I : pI} {m : Nat} (hT : XT g I) (w : WT g) (hm : m ≤ 80) : Rd (j_up I 1 3 (nI (min g.1 m))) g.2 (min g.1 m) := ⟨up_eq, by omega, fun k hk => ⟨by rw [up_ne (by omega)]; exact hT.2 k (by omega), w.2 k (by omega)⟩⟩
