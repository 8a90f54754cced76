/-! HEARD -/
theorem cmp_0 {x y : Int64} : (lg_cmp x y = nI 0) = (x = y) := by
  unfold lg_cmp
  by_cases h1 : x > y
  · rw [if_pos h1]
    have h2 : ¬ x = y := fun e => by
      rw [e] at h1
      have := Int64.lt_iff_toInt_lt.mp h1
      omega
    have h3 : ¬ (1 : Int32) = nI 0 := by decide
    simp only [h2, h3]
  · rw [if_neg h1]
    by_cases h2 : x = y
    · rw [if_pos h2]
      have h3 : (0 : Int32) = nI 0 := rfl
      simp only [h2, h3]
    · rw [if_neg h2]
      have h3 : ¬ (-1 : Int32) = nI 0 := by decide
      simp only [h2, h3]
theorem lN0 : (0 : Int64) = lN 0 := rfl
theorem lN1 : (1 : Int64) = lN 1 := rfl
theorem lN10 : (10 : Int64) = lN 10 := rfl
theorem lrel {a b : Nat} (ha : a < 2 ^ 63) (h0 : 0 < b) (hb : b < 2 ^ 63) : j_rel (lN a) (lN b) = some (lN (a % b)) := by
  unfold j_rel
  rw [if_neg (by rw [lN0, pk_lEQ hb (by omega)]; omega)]
  congr 1
  exact pk_lRem ha h0 hb
theorem ldil {a b : Nat} (ha : a < 2 ^ 63) (h0 : 0 < b) (hb : b < 2 ^ 63) : j_dil (lN a) (lN b) = some (lN (a / b)) := by
  unfold j_dil
  rw [if_neg (by rw [lN0, pk_lEQ hb (by omega)]; omega)]
  congr 1
  exact pk_lDiv ha h0 hb
theorem lmaxl {a : Nat} (h1 : 1 ≤ a) (ha : a < 2 ^ 63) : j_maxl (lN a) 1 = lN a := by
  unfold j_maxl
  rw [lN1]
  by_cases h : 1 < a
  · rw [if_pos (by rw [pk_lLT (by omega) ha]; exact h)]
  · rw [if_neg (by rw [pk_lLT (by omega) ha]; exact h)]
    have : a = 1 := by omega
    rw [this]
theorem gcd_st {a b : Nat} : Nat.gcd a b = Nat.gcd b (a % b) := by
  rw [Nat.gcd_comm a b, Nat.gcd_rec b a, Nat.gcd_comm]
theorem mod_half {b r k : Nat} (h0 : 0 < r) (hr : r ≤ b) (hb : b < 2 ^ (k + 1)) : b % r < 2 ^ k := by
  have h1 := Nat.mod_lt b h0
  have h2 := Nat.mod_add_div b r
  have h3 : 1 ≤ b / r := (Nat.one_le_div_iff h0).mpr hr
  have h4 : r ≤ r * (b / r) := Nat.le_mul_of_pos_right r h3
  rw [Nat.pow_succ] at hb
  omega
theorem x_gcdL {H : jH} {kk : Int64 → jH → Option (Int64 × jH)} : ∀ k a b i N, a < 2 ^ 63 → b < 2 ^ 63 → b < 2 ^ k → i + 2 * k ≤ 99 → 2 * k < N → f_X10_commonDivisor_L9 5000 kk N (lN a) (lN b) (nI i) H = kk (lN (Nat.gcd a b)) H
  | 0, a, b, i, 0, _, _, _, _, h => by omega
  | 0, a, b, i, N + 1, ha, hb, h1, h2, _ => by
    have : b = 0 := by omega
    subst this
    rw [f_X10_commonDivisor_L9, Nat.gcd_zero_right]
    simp (disch := first | omega | assumption) only [lt0, lN0, cmp_0, nn_le, if_neg, if_true]
  | k + 1, a, b, i, 0, _, _, _, _, h => by omega
  | k + 1, a, b, i, 1, _, _, _, _, h => by omega
  | k + 1, a, b, i, N + 2, ha, hb, h1, h2, h3 => by
    by_cases hb0 : b = 0
    · subst hb0
      rw [f_X10_commonDivisor_L9, Nat.gcd_zero_right]
      simp (disch := first | omega | assumption) only [lt0, lN0, cmp_0, nn_le, if_neg, if_true]
    · have hr : a % b < b := Nat.mod_lt _ (by omega)
      have e1 : ¬ lN b = lN 0 := by rw [pk_lEQ hb (by omega)]; exact hb0
      rw [f_X10_commonDivisor_L9, gcd_st]
      simp (disch := first | omega | assumption) only [lt0, lN0, cmp_0, nn_le, if_neg, e1, if_false, lrel, ob_, nI_add]
      by_cases hr0 : a % b = 0
      · rw [hr0, f_X10_commonDivisor_L9, Nat.gcd_zero_right]
        simp (disch := first | omega | assumption) only [lt0, lN0, cmp_0, nn_le, if_neg, if_true]
      · have e2 : ¬ lN (a % b) = lN 0 := by rw [pk_lEQ (by omega) (by omega)]; exact hr0
        have hh := mod_half (b := b) (r := a % b) (k := k) (by omega) (by omega) h1
        have hr2 : b % (a % b) < a % b := Nat.mod_lt _ (by omega)
        rw [f_X10_commonDivisor_L9, gcd_st]
        simp (disch := first | omega | assumption) only [lt0, lN0, cmp_0, nn_le, if_neg, e2, if_false, lrel, ob_, nI_add]
        exact x_gcdL k (a % b) (b % (a % b)) (i + 1 + 1) N (by omega) (by omega) hh (by omega) (by omega)
theorem m_gcdL {H : jH} : ∀ k a b N, a < 2 ^ 63 → b < 2 ^ 63 → b < 2 ^ k → 2 * k < N → f_gC 5000 N (lN a) (lN b) H = some (lN (Nat.gcd a b), H)
  | 0, a, b, 0, _, _, _, h => by omega
  | 0, a, b, N + 1, ha, hb, h1, _ => by
    have : b = 0 := by omega
    subst this
    rw [f_gC, b_X11_common, Nat.gcd_zero_right]
    simp (disch := first | omega | assumption) only [lt0, lN0, cmp_0, if_true]
  | k + 1, a, b, 0, _, _, _, h => by omega
  | k + 1, a, b, 1, _, _, _, h => by omega
  | k + 1, a, b, N + 2, ha, hb, h1, h3 => by
    by_cases hb0 : b = 0
    · subst hb0
      rw [f_gC, b_X11_common, Nat.gcd_zero_right]
      simp (disch := first | omega | assumption) only [lt0, lN0, cmp_0, if_true]
    · have hr : a % b < b := Nat.mod_lt _ (by omega)
      have e1 : ¬ lN b = lN 0 := by rw [pk_lEQ hb (by omega)]; exact hb0
      rw [f_gC, b_X11_common, gcd_st]
      have inner : f_gC 5000 (N + 1) (lN b) (lN (a % b)) H = some (lN (Nat.gcd b (a % b)), H) := by
        by_cases hr0 : a % b = 0
        · rw [hr0, f_gC, b_X11_common, Nat.gcd_zero_right]
          simp (disch := first | omega | assumption) only [lt0, lN0, cmp_0, if_true]
        · have e2 : ¬ lN (a % b) = lN 0 := by rw [pk_lEQ (by omega) (by omega)]; exact hr0
          have hh := mod_half (b := b) (r := a % b) (k := k) (by omega) (by omega) h1
          have hr2 : b % (a % b) < a % b := Nat.mod_lt _ (by omega)
          rw [f_gC, b_X11_common, gcd_st]
          have ih := m_gcdL (H := H) k (a % b) (b % (a % b)) N (by omega) (by omega) hh (by omega)
          simp (disch := first | omega | assumption) only [lt0, lN0, cmp_0, e2, if_false, lrel, ob_, ih, b2_]
      simp (disch := first | omega | assumption) only [lt0, lN0, cmp_0, e1, if_false, lrel, ob_, inner, b2_]
theorem x_power {p k : Nat} (hpp : p < 1000) (hk : k ≤ 10) (H : jH) : f_X10_power 5000 (nI p) (nI k) H = some (lN (p ^ k), H) := by
  simp only [f_X10_power, lt0]
  obtain ⟨u, e1, e2⟩ := loE (fun n (_ : Unit) j => f_X10_power_L5 5000 (nI p) (nI k) n (lN (p ^ j)) (nI j) H) (fun _ => some (lN (p ^ k), H)) k (fun _ _ => True) (by
    intro n _ _
    rw [f_X10_power_L5]
    simp (disch := first | omega | assumption) only [nn_le, Nat.le_refl, if_true]) (by
    intro n _ j hj _
    refine ⟨(), ?_, trivial⟩
    rw [f_X10_power_L5]
    simp (disch := first | omega | assumption) only [lt0, nn_le, if_neg, nI_add]
    rw [nI_l (by omega), lN_mul, ← Nat.pow_succ]) k 5000 () 0 (by omega) (by omega) trivial
  exact e1
theorem m_power {p k : Nat} (hk : k ≤ 10) (H : jH) : f_X11_power 5000 (lN p) (nI k) H = some (lN (p ^ k), H) := by
  simp only [f_X11_power, lt0]
  obtain ⟨u, e1, e2⟩ := loE (fun n (_ : Unit) j => f_X11_power_L5 5000 (lN p) (nI k) n (lN (p ^ j)) (nI j) H) (fun _ => some (lN (p ^ k), H)) k (fun _ _ => True) (by
    intro n _ _
    rw [f_X11_power_L5]
    simp (disch := first | omega | assumption) only [nn_le, Nat.le_refl, if_true]) (by
    intro n _ j hj _
    refine ⟨(), ?_, trivial⟩
    rw [f_X11_power_L5]
    simp (disch := first | omega | assumption) only [lt0, nn_le, if_neg, nI_add]
    rw [lN_mul, ← Nat.pow_succ]) k 5000 () 0 (by omega) (by omega) trivial
  exact e1
def hrS (p len i : Nat) (a : Nat × Nat) : Nat × Nat := (a.1 + a.2 * p ^ (len - i) * (10 - p) ^ i, a.2 * (len - i) / (i + 1))
def hrd (p len n : Nat) : Nat × Nat := fo (hrS p len) 0 n (0, 1)
theorem hrd_s {p len n : Nat} : hrd p len (n + 1) = hrS p len n (hrd p len n) := by
  unfold hrd
  rw [fo_last, Nat.zero_add]
theorem hrd_le {p len : Nat} (hpp : p ≤ 10) (hl : len ≤ 6) : ∀ n, n ≤ 3 → (hrd p len n).1 ≤ n * 100000000000 ∧ (hrd p len n).2 ≤ 6 ^ n
  | 0, _ => ⟨Nat.le_refl 0, Nat.le_refl 1⟩
  | n + 1, h => by
    obtain ⟨a, b⟩ := hrd_le hpp hl n (by omega)
    have c1 : p ^ (len - n) ≤ 10 ^ 6 := Nat.le_trans (Nat.pow_le_pow_left hpp _) (Nat.pow_le_pow_right (by omega) (by omega))
    have c2 : (10 - p) ^ n ≤ 10 ^ 2 := Nat.le_trans (Nat.pow_le_pow_left (by omega : 10 - p ≤ 10) _) (Nat.pow_le_pow_right (by omega) (by omega))
    have c3 : (6 : Nat) ^ n ≤ 6 ^ 2 := Nat.pow_le_pow_right (by omega) (by omega)
    have c4 : (hrd p len n).2 * p ^ (len - n) * (10 - p) ^ n ≤ 36 * 10 ^ 6 * 10 ^ 2 := Nat.mul_le_mul (Nat.mul_le_mul (by omega) c1) c2
    have c5 : (hrd p len n).2 * (len - n) / (n + 1) ≤ 6 ^ (n + 1) := by
      refine Nat.le_trans (Nat.div_le_self _ _) ?_
      rw [Nat.pow_succ]
      exact Nat.mul_le_mul b (by omega)
    rw [hrd_s]
    unfold hrS
    exact ⟨by simp only []; omega, c5⟩
theorem x_hrL {H : jH} {p n len : Nat} (hpp : p ≤ 10) (hn : n ≤ 2) (hl : len ≤ 6) {kk : Int64 → jH → Option (Int32 × jH)} : f_X10_heard_L49 5000 0 (nI p) (nI n) (nI len) kk 5000 (lN 0) (lN 1) (nI 0) H = kk (lN (hrd p len (min n len + 1)).1) H := by
  obtain ⟨a, e1, e2⟩ := loE (fun k (a : Nat × Nat) j => f_X10_heard_L49 5000 0 (nI p) (nI n) (nI len) kk k (lN a.1) (lN a.2) (nI j) H) (fun a => kk (lN a.1) H) (min n len + 1) (fun j a => a = hrd p len j) (by
    intro k a p'
    rw [f_X10_heard_L49]
    by_cases h : n < min n len + 1
    · simp (disch := first | omega | assumption) only [nn_lt, if_pos]
    · simp (disch := first | omega | assumption) only [nn_lt, if_pos, if_neg]) (by
    intro k a j hj p'
    have hb := hrd_le hpp hl j (by omega)
    rw [← p'] at hb
    have c3 : (6 : Nat) ^ j ≤ 6 ^ 2 := Nat.pow_le_pow_right (by omega) (by omega)
    have c6 : a.2 * (len - j) ≤ 36 * 6 := Nat.mul_le_mul (by omega) (by omega)
    have xp1 := x_power (p := p) (k := len - j) (by omega) (by omega) H
    have xp2 := x_power (p := 10 - p) (k := j) (by omega) (by omega) H
    refine ⟨hrS p len j a, ?_, by rw [hrd_s, p']⟩
    rw [f_X10_heard_L49]
    simp (disch := first | omega | assumption) only [lt0, nn_lt, if_neg, nn_su, ↓b2e xp1, ↓b2e xp2, nI_add]
    rw [nI_l (show len - j < 2 ^ 31 by omega), nI_l (show j + 1 < 2 ^ 31 by omega), lN_mul, ldil (by omega) (by omega) (by omega), ob, lN_mul, lN_mul, lN_add]
    rfl) (min n len + 1) 5000 (0, 1) 0 (by omega) (by omega) rfl
  rw [← e2]
  exact e1
theorem m_hrL {q : pQ} {ρ : pP} {L : pL} {I : pI} {p n len w : Nat} (hpp : p ≤ 10) (hn : n ≤ 2) (hl : len ≤ 6) (hw : w < 10) (h132 : I 132 w = nI len) {kk : Int64 → jH → Option (Int32 × jH)} : f_X11_heard_L43 5000 129 (nI w) (nI p) (nI n) kk 5000 (lN 0) (lN 1) (nI 0) (hp q ρ L I) = kk (lN (hrd p len (min n len + 1)).1) (hp q ρ L I) := by
  obtain ⟨a, e1, e2⟩ := loE (fun k (a : Nat × Nat) j => f_X11_heard_L43 5000 129 (nI w) (nI p) (nI n) kk k (lN a.1) (lN a.2) (nI j) (hp q ρ L I)) (fun a => kk (lN a.1) (hp q ρ L I)) (min n len + 1) (fun j a => a = hrd p len j) (by
    intro k a p'
    rw [f_X11_heard_L43]
    simp (disch := first | omega | assumption) only [↓bM, ↓bMA, ↓jn_, ↓ob_, ↓b2_, ↓reduceIte, nn_lt, nn_le, nn_eq, nI_add, pk_mul, nn_su, gn_lt, gn_le, ng_lt, ng_le, ng_eq, gn_eq, gg_eq, n_m1, n_cl, if_true, if_false, if_pos, if_neg, lt0, h132, jmin_nn]) (by
    intro k a j hj p'
    have hb := hrd_le hpp hl j (by omega)
    rw [← p'] at hb
    have c3 : (6 : Nat) ^ j ≤ 6 ^ 2 := Nat.pow_le_pow_right (by omega) (by omega)
    have c6 : a.2 * (len - j) ≤ 36 * 6 := Nat.mul_le_mul (by omega) (by omega)
    have xp1 := m_power (p := p) (k := len - j) (by omega) (hp q ρ L I)
    have xp2 := m_power (p := 10 - p) (k := j) (by omega) (hp q ρ L I)
    refine ⟨hrS p len j a, ?_, by rw [hrd_s, p']⟩
    rw [f_X11_heard_L43]
    simp (disch := first | omega | assumption) only [↓bM, ↓bMA, ↓jn_, ↓ob_, ↓b2_, ↓reduceIte, nn_lt, nn_le, nn_eq, nI_add, pk_mul, nn_su, gn_lt, gn_le, ng_lt, ng_le, ng_eq, gn_eq, gg_eq, n_m1, n_cl, if_true, if_false, if_pos, if_neg, lt0, h132, jmin_nn, nI_l, ↓b2e xp1, ↓b2e xp2]
    rw [lN_mul, ldil (by omega) (by omega) (by omega), ob, lN_mul, lN_mul, lN_add, Nat.mul_right_comm]
    rfl) (min n len + 1) 5000 (0, 1) 0 (by omega) (by omega) rfl
  rw [← e2]
  exact e1
theorem k_heard (a b c : Int32) : ∀ G, Wr G → ∃ v G', Wr G' ∧ XH (f_X10_heard 5000 0 a b c) G v G' ∧ MH (f_X11_heard 5000 129 a b c) G v G' := by
  intro G hG
  have hG' := hG
  obtain ⟨w1, w2, w3, w4, w5, w6, w7, w8, w9⟩ := hG
  have hW10 := w2.1
  have fin : ∀ v, (∀ q ρ L I, Xr G ρ L I → f_X10_heard 5000 0 a b c (hp q ρ L I) = some (v, hp q ρ L I)) → (∀ t q ρ L I, Mr t G ρ L I → Ms t G ρ (j_up I 129 13 (nI 0)) → f_X11_heard 5000 129 a b c (hp q ρ L I) = some (v, hp q ρ L (j_up I 129 13 (nI 0)))) → ∃ v G', Wr G' ∧ XH (f_X10_heard 5000 0 a b c) G v G' ∧ MH (f_X11_heard 5000 129 a b c) G v G' :=
    fun v hx hm => ⟨v, G, hG', XH_0 hx, MH_0 (fun t q ρ L I h => hm t q ρ L I h (Ms_0 h.1))⟩
  rcases ixo a (lxW (gLx G)) (by omega) with h | ⟨w, hw, rfl⟩
  · refine fin (-nI 1) ?_ ?_
    · rintro q ρ L I ⟨⟨hT, hL, hD, hP, hS, hU, hK, hR, hρ⟩, hW⟩
      simp (disch := first | omega | assumption) only [f_X10_heard, ↓bX, ↓bXA, ↓jn_, ↓ob_, ↓b2_, ↓reduceIte, nn_lt, nn_le, nn_eq, nI_add, pk_mul, nn_su, gn_lt, gn_le, ng_lt, ng_le, ng_eq, gn_eq, gg_eq, n_m1, n_cl, if_true, if_false, if_pos, if_neg, lt0, ↓b2e (x_isW0 (q := q) (ρ := ρ) (L := L) hL.1 h)]
    · rintro t q ρ L I - ⟨hT, hL, hD, hP, hS, hU, hK, hR⟩
      simp (disch := first | omega | assumption) only [f_X11_heard, ↓bM, ↓bMA, ↓jn_, ↓ob_, ↓b2_, ↓reduceIte, nn_lt, nn_le, nn_eq, nI_add, pk_mul, nn_su, gn_lt, gn_le, ng_lt, ng_le, ng_eq, gn_eq, gg_eq, n_m1, n_cl, if_true, if_false, if_pos, if_neg, lt0, ↓b2e (m_isW0 (q := q) (ρ := ρ) (L := L) hL.1 (by omega) h)]
  rcases ixo b 11 (by omega) with h | ⟨p, hpp, rfl⟩
  · refine fin (-nI 1) ?_ ?_
    · rintro q ρ L I ⟨⟨hT, hL, hD, hP, hS, hU, hK, hR, hρ⟩, hW⟩
      rcases h with h | ⟨h1, h2⟩
      · simp (disch := first | omega | assumption) only [f_X10_heard, ↓bX, ↓bXA, ↓jn_, ↓ob_, ↓b2_, ↓reduceIte, nn_lt, nn_le, nn_eq, nI_add, pk_mul, nn_su, gn_lt, gn_le, ng_lt, ng_le, ng_eq, gn_eq, gg_eq, n_m1, n_cl, if_true, if_false, if_pos, if_neg, lt0, ↓b2e (x_isW1 (q := q) (ρ := ρ) (L := L) hL.1 (by omega) hw), h]
      · obtain ⟨j1, j2, j3⟩ := i_9999 (n := 10) (by omega) h1 h2
        simp (disch := first | omega | assumption) only [f_X10_heard, ↓bX, ↓bXA, ↓jn_, ↓ob_, ↓b2_, ↓reduceIte, nn_lt, nn_le, nn_eq, nI_add, pk_mul, nn_su, gn_lt, gn_le, ng_lt, ng_le, ng_eq, gn_eq, gg_eq, n_m1, n_cl, if_true, if_false, if_pos, if_neg, lt0, ↓b2e (x_isW1 (q := q) (ρ := ρ) (L := L) hL.1 (by omega) hw), h1, j3]
    · rintro t q ρ L I - ⟨hT, hL, hD, hP, hS, hU, hK, hR⟩
      simp (disch := first | omega | assumption) only [f_X11_heard, ↓bM, ↓bMA, ↓jn_, ↓ob_, ↓b2_, ↓reduceIte, nn_lt, nn_le, nn_eq, nI_add, pk_mul, nn_su, gn_lt, gn_le, ng_lt, ng_le, ng_eq, gn_eq, gg_eq, n_m1, n_cl, if_true, if_false, if_pos, if_neg, lt0, ↓b2e (m_isW1 (q := q) (ρ := ρ) (L := L) hL.1 (by omega) hw), m_inO (n := 10) (by omega) h]
  rcases ixo c 3 (by omega) with h | ⟨n, hn, rfl⟩
  · refine fin (-nI 1) ?_ ?_
    · rintro q ρ L I ⟨⟨hT, hL, hD, hP, hS, hU, hK, hR, hρ⟩, hW⟩
      by_cases h0 : c < nI 0
      · simp (disch := first | omega | assumption) only [f_X10_heard, ↓bX, ↓bXA, ↓jn_, ↓ob_, ↓b2_, ↓reduceIte, nn_lt, nn_le, nn_eq, nI_add, pk_mul, nn_su, gn_lt, gn_le, ng_lt, ng_le, ng_eq, gn_eq, gg_eq, n_m1, n_cl, if_true, if_false, if_pos, if_neg, lt0, ↓b2e (x_isW1 (q := q) (ρ := ρ) (L := L) hL.1 (by omega) hw), h0]
      · have h1 := le_out (n := 2) (by omega) h h0
        simp (disch := first | omega | assumption) only [f_X10_heard, ↓bX, ↓bXA, ↓jn_, ↓ob_, ↓b2_, ↓reduceIte, nn_lt, nn_le, nn_eq, nI_add, pk_mul, nn_su, gn_lt, gn_le, ng_lt, ng_le, ng_eq, gn_eq, gg_eq, n_m1, n_cl, if_true, if_false, if_pos, if_neg, lt0, ↓b2e (x_isW1 (q := q) (ρ := ρ) (L := L) hL.1 (by omega) hw), h0, h1]
    · rintro t q ρ L I - ⟨hT, hL, hD, hP, hS, hU, hK, hR⟩
      simp (disch := first | omega | assumption) only [f_X11_heard, ↓bM, ↓bMA, ↓jn_, ↓ob_, ↓b2_, ↓reduceIte, nn_lt, nn_le, nn_eq, nI_add, pk_mul, nn_su, gn_lt, gn_le, ng_lt, ng_le, ng_eq, gn_eq, gg_eq, n_m1, n_cl, if_true, if_false, if_pos, if_neg, lt0, ↓b2e (m_isW1 (q := q) (ρ := ρ) (L := L) hL.1 (by omega) hw), m_in, m_inO (n := 2) (by omega) h]
  have l1 := (w2.2 w hw).1
  obtain ⟨len, hlen⟩ : ∃ len, len = lxN (gLx G) w := ⟨_, rfl⟩
  rw [← hlen] at l1
  obtain ⟨u, hu⟩ : ∃ u, u = (hrd p len (min n len + 1)).1 := ⟨_, rfl⟩
  have hub : u ≤ 3 * 100000000000 := by
    have hq := (hrd_le (p := p) (len := len) (by omega) l1.2 (min n len + 1) (by omega)).1
    rw [← hu] at hq
    exact Nat.le_trans hq (Nat.mul_le_mul_right _ (by omega))
  obtain ⟨lo_, hlo⟩ : ∃ lo_, lo_ = 10 ^ len := ⟨_, rfl⟩
  have hlob : lo_ ≤ 10 ^ 6 := by rw [hlo]; exact Nat.pow_le_pow_right (by omega) l1.2
  have hlo1 : 1 ≤ lo_ := by rw [hlo]; exact Nat.one_le_pow _ _ (by omega)
  have g1 : 1 ≤ Nat.gcd u lo_ := Nat.gcd_pos_of_pos_right _ hlo1
  have g2 : Nat.gcd u lo_ ≤ lo_ := Nat.gcd_le_right _ hlo1
  have lo20 : lo_ < 2 ^ 20 := by omega
  refine ⟨nI 0, sRw G (2, fun i => if i = 0 then lN (u / Nat.gcd u lo_) else lN (lo_ / Nat.gcd u lo_)), ⟨w1, w2, w3, w4, w5, w6, w7, by simp only []; omega, w9⟩, XH_q _ ?_, MH_q _ ?_⟩
  · rintro q ρ L I ⟨⟨hT, hL, hD, hP, hS, hU, hK, hR, hρ⟩, hW⟩
    obtain ⟨hA, hTf⟩ := XR_Tf hR
    have e6 : I 6 w = nI len := by rw [hlen]; exact (hL.2 w hw).1.1
    have e1 := x_hrL (H := hp q ρ L I) (p := p) (n := n) (len := len) (by omega) (by omega) l1.2 (kk := fun (y11 : Int64) (h12 : jH) =>
                j_b2 (f_X10_power 5000 (nI 10) (nI len) h12) (fun v14 h13 =>
                j_b2 (f_X10_commonDivisor 5000 y11 v14 h13) (fun v16 h15 =>
                (jg_R 10 1 h15 0).bind (fun v17 =>
                (j_dil y11 v16).bind (fun v18 =>
                (j_dil v14 v16).bind (fun v19 =>
                (f_X6_tell_ 5000 v17 v18 v19 h15).bind (fun h20 =>
                some (nI 0, h20))))))))
    rw [← hu] at e1
    have pw := x_power (p := 10) (k := len) (by omega) (by omega) (hp q ρ L I)
    rw [← hlo] at pw
    have cd : f_X10_commonDivisor 5000 (lN u) (lN lo_) (hp q ρ L I) = some (lN (Nat.gcd u lo_), hp q ρ L I) := by
      simp only [f_X10_commonDivisor, lt0]
      rw [x_gcdL 20 u lo_ 0 5000 (by omega) (by omega) lo20 (by omega) (by omega)]
      have := lmaxl g1 (by omega)
      rw [this]
    refine ⟨ρ, j_up (j_up L 4 0 (lN (u / Nat.gcd u lo_))) 4 1 (lN (lo_ / Nat.gcd u lo_)), j_up I 3 1 (nI 2), ?_, Fr.up Fr.rf (by rcases hA with e | e <;> rw [e] <;> rfl), ⟨rfl, rfl, hρ⟩, by rw [up_ne (by omega), up_ne (by omega)], XW_2⟩
    rw [f_X10_heard]
    simp (disch := first | omega | assumption) only [↓bX, ↓bXA, ↓ob_, lt0, lN0, lN1, ↓b2e (x_isW1 (q := q) (ρ := ρ) (L := L) hL.1 (by omega) hw), nn_lt, nn_le, nn_eq, if_neg, if_pos, if_false, e6]
    rw [e1, pw, b2, cd, b2]
    simp (disch := first | omega | assumption) only [↓bX]
    rw [ldil (by omega) (by omega) (by omega), ob, ldil (by omega) (by omega) (by omega), ob, x_tell2, ob]
  · rintro t q ρ L I ⟨hM, hW⟩
    obtain ⟨hT, hL, hD, hP, hS, hU, hK, hR⟩ := Ms_0 (x := nI 0) hM
    have e6 : j_up I 129 13 (nI 0) 132 w = nI len := by rw [hlen]; exact (hL.2 w hw).1.1
    have e1 := m_hrL (q := q) (ρ := ρ) (L := L) (I := j_up I 129 13 (nI 0)) (p := p) (n := n) (len := len) (w := w) (by omega) (by omega) l1.2 (by omega) e6 (kk := fun (y19 : Int64) (h20 : jH) =>
            (jg_R 11 4 h20 129).bind (fun v21 =>
            (ja_I 100 h20 v21 (nI w)).bind (fun v22 =>
            j_b2 (f_X11_power 5000 (lN 10) v22 h20) (fun v24 h23 =>
            j_b2 (f_X11_common 5000 y19 v24 h23) (fun v26 h25 =>
            (jp_I 11 12 h25 129 (nI 0)).bind (fun h27 =>
            (j_dil y19 v26).bind (fun v28 =>
            (f_X11_tell 5000 129 v28 h27).bind (fun h29 =>
            (j_dil v24 v26).bind (fun v30 =>
            (f_X11_tell 5000 129 v30 h29).bind (fun h31 =>
            some (nI 0, h31)))))))))))
    rw [← hu] at e1
    have pw := m_power (p := 10) (k := len) (by omega) (hp q ρ L (j_up I 129 13 (nI 0)))
    rw [← hlo] at pw
    have cd : f_X11_common 5000 (lN u) (lN lo_) (hp q ρ L (j_up I 129 13 (nI 0))) = some (lN (Nat.gcd u lo_), hp q ρ L (j_up I 129 13 (nI 0))) := m_gcdL 20 u lo_ 200 (by omega) (by omega) lo20 (by omega)
    refine ⟨ρ, j_up (j_up L 136 0 (lN (u / Nat.gcd u lo_))) 136 1 (lN (lo_ / Nat.gcd u lo_)), j_up (j_up I 129 13 (nI 0)) 129 12 (nI 2), ?_, Fr.up (Fr.up Fr.rf rfl) rfl, ⟨rfl, rfl, rfl⟩, by rw [up_ne (by omega), up_ne (by omega)], MW_2⟩
    have hin := m_in p 0 10 (hp q ρ L (j_up I 129 13 (nI 0))) (by omega) (by omega) (by omega)
    rw [if_pos (by omega)] at hin
    have hin2 := m_in n 0 2 (hp q ρ L (j_up I 129 13 (nI 0))) (by omega) (by omega) (by omega)
    rw [if_pos (by omega)] at hin2
    rw [f_X11_heard]
    simp (disch := first | omega | assumption) only [↓bM, ↓ob_, lt0, lN0, lN1, lN10, ↓b2e (m_isW1 (q := q) (ρ := ρ) (L := L) hL.1 (by omega) hw), ↓b2e hin, ↓b2e hin2, nn_eq, if_neg, if_false]
    rw [e1]
    simp (disch := first | omega | assumption) only [↓bM, ↓bMA, ↓ob_, e6]
    rw [pw, b2, cd, b2]
    simp (disch := first | omega | assumption) only [↓bM]
    rw [ldil (by omega) (by omega) (by omega), ob, m_tell (by omega), ob, ldil (by omega) (by omega) (by omega), ob, m_tell (by omega), ob]
