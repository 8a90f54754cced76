/-! THE TEXT's reader in the class: at p -/
def ap (I : pI) (p : Nat) : pI := j_up I 1 2 (nI p)
theorem ap_at {I : pI} {p : Nat} : ap I p 1 2 = nI p := up_eq
theorem ap_ne {I : pI} {p b : Nat} (h : b ≠ 1) : ap I p b = I b := up_ne h
theorem ap_nk {I : pI} {p b k : Nat} (h : k ≠ 2) : ap I p b k = I b k := up_nk h
theorem up_up {α : Type} {f : Nat → Nat → α} {a k : Nat} {x y : α} : j_up (j_up f a k x) a k y = j_up f a k y := by
  funext b j
  simp only [j_up]
  split
  · split <;> rfl
  · rfl
theorem up_co {α : Type} {f : Nat → Nat → α} {a k b j : Nat} {x y : α} (h : ¬ (a = b ∧ k = j)) : j_up (j_up f a k x) b j y = j_up (j_up f b j y) a k x := by
  funext c i
  simp only [j_up]
  by_cases h1 : c = a <;> by_cases h2 : c = b <;> by_cases h3 : i = k <;> by_cases h4 : i = j <;> simp_all
theorem ap_up {I : pI} {p p' : Nat} : j_up (ap I p) 1 2 (nI p') = ap I p' := up_up
theorem ap_co {I : pI} {p a k : Nat} {x : Int32} (h : a ≠ 1) : j_up (ap I p) a k x = ap (j_up I a k x) p := up_co (fun q => h q.1.symm)
theorem ap_ap {I : pI} {p p' : Nat} : ap (ap I p) p' = ap I p' := up_up
theorem ap_self {I : pI} {p : Nat} (h : I 1 2 = nI p) : ap I p = I := by
  funext b j
  unfold ap j_up
  split
  · rename_i e
    split
    · rename_i e2
      rw [e, e2, h]
    · rfl
  · rfl
/-- what the reader sees -/
def Rd (I : pI) (f : Nat → Nat) (n : Nat) : Prop := I 1 3 = nI n ∧ n ≤ 80 ∧ (∀ k, k < n → I 2 k = nI (f k) ∧ f k < 256)
theorem sub_neg {a b : Nat} (ha : a < 1000000000) (hb : b < 1000000000) (h : a < b) : (nI a - nI b < nI 0) = True := by
  have := pk_sneg (a := a) (b := b) (by omega) h
  simp only [show nI a - nI b < nI 0 from this]
theorem x_take {q : pQ} {ρ : pP} {L : pL} {I : pI} {f : Nat → Nat} {n p c : Nat} (hR : Rd I f n) (hp_ : p ≤ n) (hc : c < 900) : f_X9_take 5000 1 (nI c) (hp q ρ L (ap I p)) = if sg f n p = c then some (nI 1, hp q ρ L (ap I (p + 1))) else some (nI 0, hp q ρ L (ap I p)) := by
  obtain ⟨h3, h80, hk⟩ := hR
  by_cases h : p < n
  · obtain ⟨e, l⟩ := hk p h
    simp (disch := first | omega | assumption) only [f_X9_take, f_X9_peek, kX, kXA, ob_, b2_, jn_, nn_lt, nn_le, nn_eq, nI_add, pk_mul, nn_su, gn_lt, gn_le, ng_lt, ng_le, ng_eq, gn_eq, gg_eq, n_m1, n_cl, if_true, if_false, if_pos, if_neg, ite_self, lt0, ap_at, ap_ne, ap_nk, h3, e, sg, ap_up]
  · have : n = p := by omega
    subst this
    simp (disch := first | omega | assumption) only [f_X9_take, f_X9_peek, kX, kXA, ob_, b2_, jn_, nn_lt, nn_le, nn_eq, nI_add, pk_mul, nn_su, gn_lt, gn_le, ng_lt, ng_le, ng_eq, gn_eq, gg_eq, n_m1, n_cl, if_true, if_false, if_pos, if_neg, ite_self, lt0, ap_at, ap_ne, ap_nk, h3, sg, ap_up]
theorem x_takeFrom {q : pQ} {ρ : pP} {L : pL} {I : pI} {f : Nat → Nat} {n p a m : Nat} (hR : Rd I f n) (hp_ : p ≤ n) (hc : a + m < 900) : f_X9_takeFrom 5000 1 (nI a) (nI m) (hp q ρ L (ap I p)) = if a ≤ sg f n p ∧ sg f n p < a + m then some (nI (sg f n p - a), hp q ρ L (ap I (p + 1))) else some (-nI 1, hp q ρ L (ap I p)) := by
  obtain ⟨h3, h80, hk⟩ := hR
  by_cases h : p < n
  · obtain ⟨e, l⟩ := hk p h
    have es : sg f n p = f p := if_pos h
    rw [es]
    by_cases h1 : f p < a
    · simp (disch := first | omega | assumption) only [f_X9_takeFrom, kX, kXA, ob_, b2_, jn_, nn_lt, nn_le, nn_eq, nI_add, pk_mul, nn_su, gn_lt, gn_le, ng_lt, ng_le, ng_eq, gn_eq, gg_eq, n_m1, n_cl, if_true, if_false, if_pos, if_neg, ite_self, lt0, ap_at, ap_ne, ap_nk, h3, e, ap_up, sub_neg]
    · by_cases h2 : f p < a + m
      · simp (disch := first | omega | assumption) only [f_X9_takeFrom, kX, kXA, ob_, b2_, jn_, nn_lt, nn_le, nn_eq, nI_add, pk_mul, nn_su, gn_lt, gn_le, ng_lt, ng_le, ng_eq, gn_eq, gg_eq, n_m1, n_cl, if_true, if_false, if_pos, if_neg, ite_self, lt0, ap_at, ap_ne, ap_nk, h3, e, ap_up]
      · simp (disch := first | omega | assumption) only [f_X9_takeFrom, kX, kXA, ob_, b2_, jn_, nn_lt, nn_le, nn_eq, nI_add, pk_mul, nn_su, gn_lt, gn_le, ng_lt, ng_le, ng_eq, gn_eq, gg_eq, n_m1, n_cl, if_true, if_false, if_pos, if_neg, ite_self, lt0, ap_at, ap_ne, ap_nk, h3, e, ap_up]
  · have : n = p := by omega
    subst this
    simp (disch := first | omega | assumption) only [f_X9_takeFrom, kX, kXA, ob_, b2_, jn_, nn_lt, nn_le, nn_eq, nI_add, pk_mul, nn_su, gn_lt, gn_le, ng_lt, ng_le, ng_eq, gn_eq, gg_eq, n_m1, n_cl, if_true, if_false, if_pos, if_neg, ite_self, lt0, ap_at, ap_ne, ap_nk, h3, sg, ap_up]
theorem pNum_le (f : Nat → Nat) (n : Nat) : ∀ d p v, p ≤ n → (pNum f n d p v).1 ≤ n ∧ p ≤ (pNum f n d p v).1
  | 0, p, v, h => ⟨h, Nat.le_refl p⟩
  | d + 1, p, v, h => by
    simp only [pNum]
    split
    · rename_i g
      have hp : p < n := by
        simp only [sg] at g
        split at g
        · assumption
        · omega
      have := pNum_le f n d (p + 1) (v * 10 + (sg f n p - 48)) hp
      exact ⟨this.1, by omega⟩
    · exact ⟨h, Nat.le_refl p⟩
theorem pNum_lt (f : Nat → Nat) (n : Nat) : ∀ d p v, (pNum f n d p v).2 < (v + 1) * 10 ^ d
  | 0, p, v => by simp [pNum]
  | d + 1, p, v => by
    simp only [pNum]
    split
    · rename_i g
      have := pNum_lt f n d (p + 1) (v * 10 + (sg f n p - 48))
      refine Nat.lt_of_lt_of_le this ?_
      rw [Nat.pow_succ', ← Nat.mul_assoc]
      exact Nat.mul_le_mul_right _ (by omega)
    · exact Nat.lt_of_lt_of_le (Nat.lt_succ_self v) (Nat.le_mul_of_pos_right _ (Nat.pow_pos (by omega)))
theorem sg_in {f : Nat → Nat} {n p : Nat} (h : sg f n p < 900) : p < n := by
  unfold sg at h
  split at h
  · assumption
  · omega
theorem x_numN {q : pQ} {ρ : pP} {L : pL} {I : pI} {K : Int32} (hK : ¬ K ≤ nI 1) (N : Nat) : f_X9_takeNumber_L11 5000 1 K (N + 1) (-nI 1) (nI 1) (hp q ρ L I) = some (-nI 1, hp q ρ L I) := by
  simp (disch := first | omega | assumption) only [f_X9_takeNumber_L11, kX, kXA, ob_, b2_, jn_, nn_lt, nn_le, nn_eq, nI_add, pk_mul, nn_su, gn_lt, gn_le, ng_lt, ng_le, ng_eq, gn_eq, gg_eq, n_m1, n_cl, if_true, if_false, if_pos, if_neg, ite_self, lt0]
theorem x_num0 {q : pQ} {ρ : pP} {L : pL} {I : pI} {f : Nat → Nat} {n K : Nat} (hR : Rd I f n) (hK : K ≤ 10) (N p v : Nat) : f_X9_takeNumber_L11 5000 1 (nI K) (N + 1) (nI v) (nI K) (hp q ρ L (ap I p)) = some (nI v, hp q ρ L (ap I p)) := by
  simp (disch := first | omega | assumption) only [f_X9_takeNumber_L11, kX, kXA, ob_, b2_, jn_, nn_lt, nn_le, nn_eq, nI_add, pk_mul, nn_su, gn_lt, gn_le, ng_lt, ng_le, ng_eq, gn_eq, gg_eq, n_m1, n_cl, if_true, if_false, if_pos, if_neg, ite_self, lt0]
theorem x_num1 {q : pQ} {ρ : pP} {L : pL} {I : pI} {f : Nat → Nat} {n K : Nat} (hR : Rd I f n) (hK : K ≤ 9) (N p v : Nat) (hpn : p ≤ n) (hv : v < 100000) : f_X9_takeNumber_L11 5000 1 (nI (K + 1)) (N + 2) (nI v) (nI K) (hp q ρ L (ap I p)) = some (nI (pNum f n 1 p v).2, hp q ρ L (ap I (pNum f n 1 p v).1)) := by
  rw [f_X9_takeNumber_L11]
  simp (disch := first | omega | assumption) only [kX, kXA, ob_, b2_, jn_, nn_lt, nn_le, nn_eq, nI_add, pk_mul, nn_su, gn_lt, gn_le, ng_lt, ng_le, ng_eq, gn_eq, gg_eq, n_m1, n_cl, if_true, if_false, if_pos, if_neg, ite_self, lt0, pNum, x_takeFrom hR hpn]
  by_cases h : 48 ≤ sg f n p ∧ sg f n p < 48 + 10
  · have hp' : p < n := sg_in (f := f) (by omega)
    rw [if_pos h, if_pos (by omega)]
    simp (disch := first | omega | assumption) only [kX, kXA, ob_, b2_, jn_, nn_lt, nn_le, nn_eq, nI_add, pk_mul, nn_su, gn_lt, gn_le, ng_lt, ng_le, ng_eq, gn_eq, gg_eq, n_m1, n_cl, if_true, if_false, if_pos, if_neg, ite_self, lt0]
    exact x_num0 hR (by omega) _ _ _
  · rw [if_neg h, if_neg (by omega)]
    simp (disch := first | omega | assumption) only [kX, kXA, ob_, b2_, jn_, nn_lt, nn_le, nn_eq, nI_add, pk_mul, nn_su, gn_lt, gn_le, ng_lt, ng_le, ng_eq, gn_eq, gg_eq, n_m1, n_cl, if_true, if_false, if_pos, if_neg, ite_self, lt0]
theorem x_num2 {q : pQ} {ρ : pP} {L : pL} {I : pI} {f : Nat → Nat} {n K : Nat} (hR : Rd I f n) (hK : K ≤ 8) (N p v : Nat) (hpn : p ≤ n) (hv : v < 1000) : f_X9_takeNumber_L11 5000 1 (nI (K + 2)) (N + 3) (nI v) (nI K) (hp q ρ L (ap I p)) = some (nI (pNum f n 2 p v).2, hp q ρ L (ap I (pNum f n 2 p v).1)) := by
  rw [f_X9_takeNumber_L11, pNum]
  simp (disch := first | omega | assumption) only [kX, kXA, ob_, b2_, jn_, nn_lt, nn_le, nn_eq, nI_add, pk_mul, nn_su, gn_lt, gn_le, ng_lt, ng_le, ng_eq, gn_eq, gg_eq, n_m1, n_cl, if_true, if_false, if_pos, if_neg, ite_self, lt0, x_takeFrom hR hpn]
  by_cases h : 48 ≤ sg f n p ∧ sg f n p < 48 + 10
  · have hp' : p < n := sg_in (f := f) (by omega)
    rw [if_pos h, if_pos (by omega)]
    simp (disch := first | omega | assumption) only [kX, kXA, ob_, b2_, jn_, nn_lt, nn_le, nn_eq, nI_add, pk_mul, nn_su, gn_lt, gn_le, ng_lt, ng_le, ng_eq, gn_eq, gg_eq, n_m1, n_cl, if_true, if_false, if_pos, if_neg, ite_self, lt0]
    exact x_num1 hR (by omega) N (p + 1) _ hp' (by omega)
  · rw [if_neg h, if_neg (by omega)]
    simp (disch := first | omega | assumption) only [kX, kXA, ob_, b2_, jn_, nn_lt, nn_le, nn_eq, nI_add, pk_mul, nn_su, gn_lt, gn_le, ng_lt, ng_le, ng_eq, gn_eq, gg_eq, n_m1, n_cl, if_true, if_false, if_pos, if_neg, ite_self, lt0]
/-- a number, or -1 -/
theorem x_number2 {q : pQ} {ρ : pP} {L : pL} {I : pI} {f : Nat → Nat} {n : Nat} (hR : Rd I f n) (p : Nat) (hpn : p ≤ n) : f_X9_takeNumber 5000 1 (nI 2) (hp q ρ L (ap I p)) = if 48 ≤ sg f n p ∧ sg f n p ≤ 57 then some (nI (pNum f n 2 p 0).2, hp q ρ L (ap I (pNum f n 2 p 0).1)) else some (-nI 1, hp q ρ L (ap I p)) := by
  simp (disch := first | omega | assumption) only [f_X9_takeNumber, kX, kXA, ob_, b2_, jn_, nn_lt, nn_le, nn_eq, nI_add, pk_mul, nn_su, gn_lt, gn_le, ng_lt, ng_le, ng_eq, gn_eq, gg_eq, n_m1, n_cl, if_true, if_false, if_pos, if_neg, ite_self, lt0, x_takeFrom hR hpn]
  by_cases h : 48 ≤ sg f n p ∧ sg f n p < 48 + 10
  · have hp' : p < n := sg_in (f := f) (by omega)
    rw [if_pos h, if_pos (by omega), pNum, if_pos (by omega), b2, Nat.zero_mul, Nat.zero_add]
    exact x_num1 hR (K := 1) (by omega) 4998 (p + 1) _ hp' (by omega)
  · rw [if_neg h, if_neg (by omega), b2]
    exact x_numN (by decide) 4999
theorem x_number3 {q : pQ} {ρ : pP} {L : pL} {I : pI} {f : Nat → Nat} {n : Nat} (hR : Rd I f n) (p : Nat) (hpn : p ≤ n) : f_X9_takeNumber 5000 1 (nI 3) (hp q ρ L (ap I p)) = if 48 ≤ sg f n p ∧ sg f n p ≤ 57 then some (nI (pNum f n 3 p 0).2, hp q ρ L (ap I (pNum f n 3 p 0).1)) else some (-nI 1, hp q ρ L (ap I p)) := by
  simp (disch := first | omega | assumption) only [f_X9_takeNumber, kX, kXA, ob_, b2_, jn_, nn_lt, nn_le, nn_eq, nI_add, pk_mul, nn_su, gn_lt, gn_le, ng_lt, ng_le, ng_eq, gn_eq, gg_eq, n_m1, n_cl, if_true, if_false, if_pos, if_neg, ite_self, lt0, x_takeFrom hR hpn]
  by_cases h : 48 ≤ sg f n p ∧ sg f n p < 48 + 10
  · have hp' : p < n := sg_in (f := f) (by omega)
    rw [if_pos h, if_pos (by omega), pNum, if_pos (by omega), b2, Nat.zero_mul, Nat.zero_add]
    exact x_num2 hR (K := 1) (by omega) 4997 (p + 1) _ hp' (by omega)
  · rw [if_neg h, if_neg (by omega), b2]
    exact x_numN (by decide) 4999
theorem x_isOver {q : pQ} {ρ : pP} {L : pL} {I : pI} {p T : Nat} (hT : I 1 1 = nI T) (h80 : T ≤ 80) (hpn : p ≤ 80) : f_X9_isOver 5000 1 (hp q ρ L (ap I p)) = some (if p = T then nI 1 else nI 0, hp q ρ L (ap I p)) := by
  by_cases h : p = T
  · subst h
    simp (disch := first | omega | assumption) only [f_X9_isOver, kX, kXA, ob_, b2_, jn_, nn_lt, nn_le, nn_eq, nI_add, pk_mul, nn_su, gn_lt, gn_le, ng_lt, ng_le, ng_eq, gn_eq, gg_eq, n_m1, n_cl, if_true, if_false, if_pos, if_neg, ite_self, lt0, ap_at, ap_nk, hT]
  · simp (disch := first | omega | assumption) only [f_X9_isOver, kX, kXA, ob_, b2_, jn_, nn_lt, nn_le, nn_eq, nI_add, pk_mul, nn_su, gn_lt, gn_le, ng_lt, ng_le, ng_eq, gn_eq, gg_eq, n_m1, n_cl, if_true, if_false, if_pos, if_neg, ite_self, lt0, ap_at, ap_nk, hT]
theorem x_fault {q : pQ} {ρ : pP} {L : pL} {I : pI} {p : Nat} : f_X9_fault 5000 1 (hp q ρ L (ap I p)) = some (-nI (1 + p), hp q ρ L (ap I p)) := by
  simp (disch := first | omega | assumption) only [f_X9_fault, kX, kXA, ob_, b2_, jn_, nn_lt, nn_le, nn_eq, nI_add, pk_mul, nn_su, gn_lt, gn_le, ng_lt, ng_le, ng_eq, gn_eq, gg_eq, n_m1, n_cl, if_true, if_false, if_pos, if_neg, ite_self, lt0, ap_at, gs_]
theorem x_open {q : pQ} {ρ : pP} {L : pL} {I : pI} {T m : Nat} (hT : I 1 1 = nI T) (h80 : T ≤ 80) (hm : m ≤ 80) : f_X9_open 5000 1 (nI m) (hp q ρ L I) = some (hp q ρ L (ap (j_up I 1 3 (nI (min T m))) 0)) := by
  have e : j_min (nI T) (j_min (nI m) (nI 80)) = nI (min T m) := by
    by_cases h : m < T
    · simp (disch := first | omega | assumption) only [j_min, ob_, b2_, jn_, nn_lt, nn_le, nn_eq, nI_add, pk_mul, nn_su, gn_lt, gn_le, ng_lt, ng_le, ng_eq, gn_eq, gg_eq, n_m1, n_cl, if_true, if_false, if_pos, if_neg, ite_self, lt0, Nat.min_eq_right]
    · simp (disch := first | omega | assumption) only [j_min, ob_, b2_, jn_, nn_lt, nn_le, nn_eq, nI_add, pk_mul, nn_su, gn_lt, gn_le, ng_lt, ng_le, ng_eq, gn_eq, gg_eq, n_m1, n_cl, if_true, if_false, if_pos, if_neg, ite_self, lt0, Nat.min_eq_left]
  simp (disch := first | omega | assumption) only [f_X9_open, kX, kXA, ob_, b2_, jn_, nn_lt, nn_le, nn_eq, nI_add, pk_mul, nn_su, gn_lt, gn_le, ng_lt, ng_le, ng_eq, gn_eq, gg_eq, n_m1, n_cl, if_true, if_false, if_pos, if_neg, ite_self, lt0, up_nk, hT, e]
  rw [ap, up_co (by omega)]
