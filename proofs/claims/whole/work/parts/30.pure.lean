/-! THE REFERENCE READS: at p, wrong w -/
def mp (I : pI) (p : Nat) (w : Int32) : pI := j_up (j_up I 129 17 (nI p)) 129 18 w
theorem mp_at {I : pI} {p : Nat} {w : Int32} : mp I p w 129 17 = nI p := by
  unfold mp
  rw [up_nk (by omega), up_eq]
theorem mp_w {I : pI} {p : Nat} {w : Int32} : mp I p w 129 18 = w := up_eq
theorem mp_ne {I : pI} {p b : Nat} {w : Int32} (h : b ≠ 129) : mp I p w b = I b := by
  unfold mp
  rw [up_ne h, up_ne h]
theorem mp_nk {I : pI} {p b k : Nat} {w : Int32} (h1 : k ≠ 17) (h2 : k ≠ 18) : mp I p w b k = I b k := by
  unfold mp
  rw [up_nk h2, up_nk h1]
theorem mp_u17 {I : pI} {p p' : Nat} {w : Int32} : j_up (mp I p w) 129 17 (nI p') = mp I p' w := by
  unfold mp
  rw [up_co (a := 129) (k := 18) (by omega), up_up]
theorem mp_u18 {I : pI} {p : Nat} {w w' : Int32} : j_up (mp I p w) 129 18 w' = mp I p w' := up_up
theorem mp_co {I : pI} {p a k : Nat} {w x : Int32} (h : ¬ (a = 129 ∧ (k = 17 ∨ k = 18))) : j_up (mp I p w) a k x = mp (j_up I a k x) p w := by
  unfold mp
  rw [up_co (fun g => h ⟨g.1.symm, .inr g.2.symm⟩), up_co (a := 129) (k := 17) (fun g => h ⟨g.1.symm, .inl g.2.symm⟩)]
theorem by8_s : ∀ b, b < 128 → by8 b = nI b := by decide +kernel
theorem by8_a (b : Nat) (h : b < 256) : by8 b &&& nI 255 = nI b := sc_k8 b h
/-- what it sees -/
def RdM (ρ : pP) (I : pI) (f : Nat → Nat) (n : Nat) : Prop := ∃ U T top, ρ.2.2.1 = some U ∧ (U = 135 ∨ ((U = 140 ∨ U = 141) ∧ n ≤ 40)) ∧ I 129 15 = nI T ∧ I 129 16 = nI top ∧ n = min T top ∧ T ≤ 80 ∧ top ≤ 80 ∧ ∀ k, k < n → I U k = by8 (f k) ∧ f k < 256
theorem m_here {q : pQ} {ρ : pP} {L : pL} {I : pI} {f : Nat → Nat} {n p : Nat} {w : Int32} (hR : RdM ρ I f n) (hpn : p ≤ 200) : f_X11_here 5000 129 (hp q ρ L (mp I p w)) = some (if p < n then nI (sg f n p) else -nI 1, hp q ρ L (mp I p w)) := by
  obtain ⟨U, T, top, e, hU, h15, h16, hn, hT, htop, hk⟩ := hR
  by_cases h : p < n
  · obtain ⟨ek, l⟩ := hk p h
    rcases hU with rfl | ⟨rfl | rfl, h40⟩
    · simp (disch := first | omega | assumption) only [f_X11_here, kM, kMA, ob_, b2_, jn_, nn_lt, nn_le, nn_eq, nI_add, pk_mul, nn_su, gn_lt, gn_le, ng_lt, ng_le, ng_eq, gn_eq, gg_eq, n_m1, n_cl, if_true, if_false, if_pos, if_neg, ite_self, lt0, mp_at, mp_nk, mp_ne, h15, h16, e, ek, by8_a, sg]
    · simp (disch := first | omega | assumption) only [f_X11_here, kM, kMA, ob_, b2_, jn_, nn_lt, nn_le, nn_eq, nI_add, pk_mul, nn_su, gn_lt, gn_le, ng_lt, ng_le, ng_eq, gn_eq, gg_eq, n_m1, n_cl, if_true, if_false, if_pos, if_neg, ite_self, lt0, mp_at, mp_nk, mp_ne, h15, h16, e, ek, by8_a, sg]
    · simp (disch := first | omega | assumption) only [f_X11_here, kM, kMA, ob_, b2_, jn_, nn_lt, nn_le, nn_eq, nI_add, pk_mul, nn_su, gn_lt, gn_le, ng_lt, ng_le, ng_eq, gn_eq, gg_eq, n_m1, n_cl, if_true, if_false, if_pos, if_neg, ite_self, lt0, mp_at, mp_nk, mp_ne, h15, h16, e, ek, by8_a, sg]
  · by_cases h2 : T ≤ p
    · simp (disch := first | omega | assumption) only [f_X11_here, kM, kMA, ob_, b2_, jn_, nn_lt, nn_le, nn_eq, nI_add, pk_mul, nn_su, gn_lt, gn_le, ng_lt, ng_le, ng_eq, gn_eq, gg_eq, n_m1, n_cl, if_true, if_false, if_pos, if_neg, ite_self, lt0, mp_at, mp_nk, mp_ne, h15]
    · simp (disch := first | omega | assumption) only [f_X11_here, kM, kMA, ob_, b2_, jn_, nn_lt, nn_le, nn_eq, nI_add, pk_mul, nn_su, gn_lt, gn_le, ng_lt, ng_le, ng_eq, gn_eq, gg_eq, n_m1, n_cl, if_true, if_false, if_pos, if_neg, ite_self, lt0, mp_at, mp_nk, mp_ne, h15, h16]
theorem m_fine {q : pQ} {ρ : pP} {L : pL} {I : pI} {p : Nat} : f_X11_fine 5000 129 (hp q ρ L (mp I p (-nI 1))) = some (nI 1, hp q ρ L (mp I p (-nI 1))) := by
  simp (disch := first | omega | assumption) only [f_X11_fine, kM, kMA, ob_, b2_, jn_, nn_lt, nn_le, nn_eq, nI_add, pk_mul, nn_su, gn_lt, gn_le, ng_lt, ng_le, ng_eq, gn_eq, gg_eq, n_m1, n_cl, if_true, if_false, if_pos, if_neg, ite_self, lt0, mp_w]
theorem m_dead {q : pQ} {ρ : pP} {L : pL} {I : pI} {p x : Nat} (hx : x ≤ 1000) : f_X11_fine 5000 129 (hp q ρ L (mp I p (nI x))) = some (nI 0, hp q ρ L (mp I p (nI x))) := by
  simp (disch := first | omega | assumption) only [f_X11_fine, kM, kMA, ob_, b2_, jn_, nn_lt, nn_le, nn_eq, nI_add, pk_mul, nn_su, gn_lt, gn_le, ng_lt, ng_le, ng_eq, gn_eq, gg_eq, n_m1, n_cl, if_true, if_false, if_pos, if_neg, ite_self, lt0, mp_w]
theorem m_fault {q : pQ} {ρ : pP} {L : pL} {I : pI} {p x : Nat} : f_X11_fault 5000 129 (nI x) (hp q ρ L (mp I p (-nI 1))) = some (hp q ρ L (mp I p (nI x))) := by
  simp (disch := first | omega | assumption) only [f_X11_fault, m_fine, kM, kMA, ob_, b2_, jn_, nn_lt, nn_le, nn_eq, nI_add, pk_mul, nn_su, gn_lt, gn_le, ng_lt, ng_le, ng_eq, gn_eq, gg_eq, n_m1, n_cl, if_true, if_false, if_pos, if_neg, ite_self, lt0, mp_u18]
theorem m_faultD {q : pQ} {ρ : pP} {L : pL} {I : pI} {p x : Nat} {y : Int32} (hx : x ≤ 1000) : f_X11_fault 5000 129 y (hp q ρ L (mp I p (nI x))) = some (hp q ρ L (mp I p (nI x))) := by
  simp (disch := first | omega | assumption) only [f_X11_fault, m_dead, kM, kMA, ob_, b2_, jn_, nn_lt, nn_le, nn_eq, nI_add, pk_mul, nn_su, gn_lt, gn_le, ng_lt, ng_le, ng_eq, gn_eq, gg_eq, n_m1, n_cl, if_true, if_false, if_pos, if_neg, ite_self, lt0]
theorem m_passes {q : pQ} {ρ : pP} {L : pL} {I : pI} {f : Nat → Nat} {n p c : Nat} (hR : RdM ρ I f n) (hpn : p ≤ 200) (hc : c < 900) : f_X11_passes 5000 129 (nI c) (hp q ρ L (mp I p (-nI 1))) = if sg f n p = c then some (nI 1, hp q ρ L (mp I (p + 1) (-nI 1))) else some (nI 0, hp q ρ L (mp I p (-nI 1))) := by
  simp (disch := first | omega | assumption) only [f_X11_passes, m_fine, m_here hR hpn, kM, kMA, ob_, b2_, jn_, nn_lt, nn_le, nn_eq, nI_add, pk_mul, nn_su, gn_lt, gn_le, ng_lt, ng_le, ng_eq, gn_eq, gg_eq, n_m1, n_cl, if_true, if_false, if_pos, if_neg, ite_self, lt0]
  by_cases h : p < n
  · obtain ⟨U, T, top, e, hU, h15, h16, hn, hT, htop, hk⟩ := hR
    obtain ⟨ek, l⟩ := hk p h
    have es : sg f n p = f p := if_pos h
    by_cases h2 : f p = c
    · simp (disch := first | omega | assumption) only [if_pos h, es, h2, if_true, kM, kMA, ob_, b2_, jn_, nn_lt, nn_le, nn_eq, nI_add, pk_mul, nn_su, gn_lt, gn_le, ng_lt, ng_le, ng_eq, gn_eq, gg_eq, n_m1, n_cl, if_true, if_false, if_pos, if_neg, ite_self, lt0, mp_at, mp_u17]
    · simp (disch := first | omega | assumption) only [if_pos h, es, if_neg h2, kM, kMA, ob_, b2_, jn_, nn_lt, nn_le, nn_eq, nI_add, pk_mul, nn_su, gn_lt, gn_le, ng_lt, ng_le, ng_eq, gn_eq, gg_eq, n_m1, n_cl, if_true, if_false, if_pos, if_neg, ite_self, lt0]
  · have es : sg f n p = 999 := if_neg h
    simp (disch := first | omega | assumption) only [if_neg h, es, kM, kMA, ob_, b2_, jn_, nn_lt, nn_le, nn_eq, nI_add, pk_mul, nn_su, gn_lt, gn_le, ng_lt, ng_le, ng_eq, gn_eq, gg_eq, n_m1, n_cl, if_true, if_false, if_pos, if_neg, ite_self, lt0]
theorem m_passesD {q : pQ} {ρ : pP} {L : pL} {I : pI} {p x : Nat} {c : Int32} (hx : x ≤ 1000) : f_X11_passes 5000 129 c (hp q ρ L (mp I p (nI x))) = some (nI 0, hp q ρ L (mp I p (nI x))) := by
  simp (disch := first | omega | assumption) only [f_X11_passes, m_dead, kM, kMA, ob_, b2_, jn_, nn_lt, nn_le, nn_eq, nI_add, pk_mul, nn_su, gn_lt, gn_le, ng_lt, ng_le, ng_eq, gn_eq, gg_eq, n_m1, n_cl, if_true, if_false, if_pos, if_neg, ite_self, lt0]
theorem m_in (x a b : Nat) (h : jH) (hx : x < 100000) (ha : a < 100000) (hb : b < 100000) : f_X11_in 5000 (nI x) (nI a) (nI b) h = some (if a ≤ x ∧ x ≤ b then nI 1 else nI 0, h) := by
  by_cases h1 : a ≤ x
  · by_cases h2 : x ≤ b
    · simp (disch := first | omega | assumption) only [f_X11_in, ob_, b2_, jn_, nn_lt, nn_le, nn_eq, nI_add, pk_mul, nn_su, gn_lt, gn_le, ng_lt, ng_le, ng_eq, gn_eq, gg_eq, n_m1, n_cl, if_true, if_false, if_pos, if_neg, ite_self, lt0]
    · simp (disch := first | omega | assumption) only [f_X11_in, ob_, b2_, jn_, nn_lt, nn_le, nn_eq, nI_add, pk_mul, nn_su, gn_lt, gn_le, ng_lt, ng_le, ng_eq, gn_eq, gg_eq, n_m1, n_cl, if_true, if_false, if_pos, if_neg, ite_self, lt0]
  · simp (disch := first | omega | assumption) only [f_X11_in, ob_, b2_, jn_, nn_lt, nn_le, nn_eq, nI_add, pk_mul, nn_su, gn_lt, gn_le, ng_lt, ng_le, ng_eq, gn_eq, gg_eq, n_m1, n_cl, if_true, if_false, if_pos, if_neg, ite_self, lt0]
theorem m_inN (a : Nat) (b : Int32) (h : jH) (ha : a < 100000) : f_X11_in 5000 (-nI 1) (nI a) b h = some (nI 0, h) := by
  simp (disch := first | omega | assumption) only [f_X11_in, ob_, b2_, jn_, nn_lt, nn_le, nn_eq, nI_add, pk_mul, nn_su, gn_lt, gn_le, ng_lt, ng_le, ng_eq, gn_eq, gg_eq, n_m1, n_cl, if_true, if_false, if_pos, if_neg, ite_self, lt0]
theorem m_oneOf {q : pQ} {ρ : pP} {L : pL} {I : pI} {f : Nat → Nat} {n p a m : Nat} (hR : RdM ρ I f n) (hpn : p ≤ 200) (ha : 1 ≤ a) (hm : a + m ≤ 128) : f_X11_oneOf 5000 129 (nI a) (nI m) (hp q ρ L (mp I p (-nI 1))) = if a ≤ sg f n p ∧ sg f n p < a + m then some (nI (sg f n p - a), hp q ρ L (mp I (p + 1) (-nI 1))) else some (nI 0, hp q ρ L (mp I p (nI p))) := by
  simp (disch := first | omega | assumption) only [f_X11_oneOf, m_fine, m_here hR hpn, kM, kMA, ob_, b2_, jn_, nn_lt, nn_le, nn_eq, nI_add, pk_mul, nn_su, gn_lt, gn_le, ng_lt, ng_le, ng_eq, gn_eq, gg_eq, n_m1, n_cl, if_true, if_false, if_pos, if_neg, ite_self, lt0]
  by_cases h : p < n
  · obtain ⟨U, T, top, e, hU, h15, h16, hn, hT, htop, hk⟩ := hR
    obtain ⟨ek, l⟩ := hk p h
    have es : sg f n p = f p := if_pos h
    by_cases h2 : a ≤ f p ∧ f p < a + m
    · have ek' : I U p = nI (f p) := by rw [ek, by8_s _ (by omega)]
      rcases hU with rfl | ⟨rfl | rfl, h40⟩
      · simp (disch := first | omega | assumption) only [if_pos h, es, if_pos h2, m_in, kM, kMA, ob_, b2_, jn_, nn_lt, nn_le, nn_eq, nI_add, pk_mul, nn_su, gn_lt, gn_le, ng_lt, ng_le, ng_eq, gn_eq, gg_eq, n_m1, n_cl, if_true, if_false, if_pos, if_neg, ite_self, lt0, mp_at, mp_u17, e, Nat.add_sub_cancel, mp_ne, ek']
      · simp (disch := first | omega | assumption) only [if_pos h, es, if_pos h2, m_in, kM, kMA, ob_, b2_, jn_, nn_lt, nn_le, nn_eq, nI_add, pk_mul, nn_su, gn_lt, gn_le, ng_lt, ng_le, ng_eq, gn_eq, gg_eq, n_m1, n_cl, if_true, if_false, if_pos, if_neg, ite_self, lt0, mp_at, mp_u17, e, Nat.add_sub_cancel, mp_ne, ek']
      · simp (disch := first | omega | assumption) only [if_pos h, es, if_pos h2, m_in, kM, kMA, ob_, b2_, jn_, nn_lt, nn_le, nn_eq, nI_add, pk_mul, nn_su, gn_lt, gn_le, ng_lt, ng_le, ng_eq, gn_eq, gg_eq, n_m1, n_cl, if_true, if_false, if_pos, if_neg, ite_self, lt0, mp_at, mp_u17, e, Nat.add_sub_cancel, mp_ne, ek']
    · simp (disch := first | omega | assumption) only [if_pos h, es, if_neg h2, m_in, kM, kMA, ob_, b2_, jn_, nn_lt, nn_le, nn_eq, nI_add, pk_mul, nn_su, gn_lt, gn_le, ng_lt, ng_le, ng_eq, gn_eq, gg_eq, n_m1, n_cl, if_true, if_false, if_pos, if_neg, ite_self, lt0, mp_at, m_fault]
  · have es : sg f n p = 999 := if_neg h
    simp (disch := first | omega | assumption) only [if_neg h, es, m_inN, kM, kMA, ob_, b2_, jn_, nn_lt, nn_le, nn_eq, nI_add, pk_mul, nn_su, gn_lt, gn_le, ng_lt, ng_le, ng_eq, gn_eq, gg_eq, n_m1, n_cl, if_true, if_false, if_pos, if_neg, ite_self, lt0, mp_at, m_fault]
theorem m_oneOfD {q : pQ} {ρ : pP} {L : pL} {I : pI} {p x : Nat} {a m : Int32} (hx : x ≤ 1000) : f_X11_oneOf 5000 129 a m (hp q ρ L (mp I p (nI x))) = some (nI 0, hp q ρ L (mp I p (nI x))) := by
  simp (disch := first | omega | assumption) only [f_X11_oneOf, m_dead, kM, kMA, ob_, b2_, jn_, nn_lt, nn_le, nn_eq, nI_add, pk_mul, nn_su, gn_lt, gn_le, ng_lt, ng_le, ng_eq, gn_eq, gg_eq, n_m1, n_cl, if_true, if_false, if_pos, if_neg, ite_self, lt0]
theorem m_num0 {q : pQ} {ρ : pP} {L : pL} {I : pI} {K : Nat} (hK : K ≤ 10) (N p v : Nat) (w : Int32) : f_X11_number_L11 5000 129 (nI K) (N + 1) (nI v) (nI K) (hp q ρ L (mp I p w)) = some (nI v, hp q ρ L (mp I p w)) := by
  simp (disch := first | omega | assumption) only [f_X11_number_L11, kM, kMA, ob_, b2_, jn_, nn_lt, nn_le, nn_eq, nI_add, pk_mul, nn_su, gn_lt, gn_le, ng_lt, ng_le, ng_eq, gn_eq, gg_eq, n_m1, n_cl, if_true, if_false, if_pos, if_neg, ite_self, lt0]
theorem m_numD {q : pQ} {ρ : pP} {L : pL} {I : pI} {K : Int32} (hK : ¬ K ≤ nI 1) (N p x : Nat) (hx : x ≤ 1000) : f_X11_number_L11 5000 129 K (N + 1) (nI 0) (nI 1) (hp q ρ L (mp I p (nI x))) = some (nI 0, hp q ρ L (mp I p (nI x))) := by
  simp (disch := first | omega | assumption) only [f_X11_number_L11, kM, kMA, ob_, b2_, jn_, nn_lt, nn_le, nn_eq, nI_add, pk_mul, nn_su, gn_lt, gn_le, ng_lt, ng_le, ng_eq, gn_eq, gg_eq, n_m1, n_cl, if_true, if_false, if_pos, if_neg, ite_self, lt0, m_dead]
theorem m_numD' {q : pQ} {ρ : pP} {L : pL} {I : pI} {K : Int32} (hK : ¬ K ≤ nI 1) (N p x : Nat) (hN : 0 < N) (hx : x ≤ 1000) : f_X11_number_L11 5000 129 K N (nI 0) (nI 1) (hp q ρ L (mp I p (nI x))) = some (nI 0, hp q ρ L (mp I p (nI x))) := by
  obtain ⟨M, rfl⟩ : ∃ M, N = M + 1 := ⟨N - 1, by omega⟩
  exact m_numD hK M p x hx
theorem m_hereIn {q : pQ} {ρ : pP} {L : pL} {I : pI} {f : Nat → Nat} {n p : Nat} {w : Int32} (hR : RdM ρ I f n) (hpn : p ≤ 200) (hs : 48 ≤ sg f n p ∧ sg f n p < 48 + 10) (h : jH) : f_X11_in 5000 (if p < n then nI (sg f n p) else -nI 1) (nI 48) (nI 57) h = some (nI 1, h) := by
  have hp' : p < n := sg_in (f := f) (by omega)
  rw [if_pos hp', m_in _ _ _ _ (by omega) (by omega) (by omega), if_pos (by omega)]
theorem m_hereOut {q : pQ} {ρ : pP} {L : pL} {I : pI} {f : Nat → Nat} {n p : Nat} {w : Int32} (hR : RdM ρ I f n) (hpn : p ≤ 200) (hs : ¬ (48 ≤ sg f n p ∧ sg f n p < 48 + 10)) (h : jH) : f_X11_in 5000 (if p < n then nI (sg f n p) else -nI 1) (nI 48) (nI 57) h = some (nI 0, h) := by
  obtain ⟨U, T, top, e, hU, h15, h16, hn, hT, htop, hk⟩ := hR
  by_cases hp' : p < n
  · have es : sg f n p = f p := if_pos hp'
    have := (hk p hp').2
    rw [if_pos hp', m_in _ _ _ _ (by omega) (by omega) (by omega), if_neg (by omega)]
  · rw [if_neg hp', m_inN _ _ _ (by omega)]
theorem m_num1 {q : pQ} {ρ : pP} {L : pL} {I : pI} {f : Nat → Nat} {n K : Nat} (hR : RdM ρ I f n) (hK : K ≤ 9) (N p v : Nat) (hpn : p ≤ 100) : f_X11_number_L11 5000 129 (nI (K + 1)) (N + 2) (nI v) (nI K) (hp q ρ L (mp I p (-nI 1))) = some (nI (pNum f n 1 p v).2, hp q ρ L (mp I (pNum f n 1 p v).1 (-nI 1))) := by
  rw [f_X11_number_L11]
  simp (disch := first | omega | assumption) only [kM, kMA, ob_, b2_, jn_, nn_lt, nn_le, nn_eq, nI_add, pk_mul, nn_su, gn_lt, gn_le, ng_lt, ng_le, ng_eq, gn_eq, gg_eq, n_m1, n_cl, if_true, if_false, if_pos, if_neg, ite_self, lt0, m_fine, m_here hR]
  by_cases h : 48 ≤ sg f n p ∧ sg f n p < 48 + 10
  · rw [m_hereIn (q := q) (L := L) (w := nI 0) hR (by omega) h]
    simp (disch := first | omega | assumption) only [kM, kMA, ob_, b2_, jn_, nn_lt, nn_le, nn_eq, nI_add, pk_mul, nn_su, gn_lt, gn_le, ng_lt, ng_le, ng_eq, gn_eq, gg_eq, n_m1, n_cl, if_true, if_false, if_pos, if_neg, ite_self, lt0, m_oneOf hR, if_pos h, pNum]
    rw [Nat.mul_comm 10 v]
    exact m_num0 (by omega) _ _ _ _
  · rw [m_hereOut (q := q) (L := L) (w := nI 0) hR (by omega) h]
    simp (disch := first | omega | assumption) only [kM, kMA, ob_, b2_, jn_, nn_lt, nn_le, nn_eq, nI_add, pk_mul, nn_su, gn_lt, gn_le, ng_lt, ng_le, ng_eq, gn_eq, gg_eq, n_m1, n_cl, if_true, if_false, if_pos, if_neg, ite_self, lt0, pNum]
theorem m_num2 {q : pQ} {ρ : pP} {L : pL} {I : pI} {f : Nat → Nat} {n K : Nat} (hR : RdM ρ I f n) (hK : K ≤ 8) (N p v : Nat) (hpn : p ≤ 90) : f_X11_number_L11 5000 129 (nI (K + 2)) (N + 3) (nI v) (nI K) (hp q ρ L (mp I p (-nI 1))) = some (nI (pNum f n 2 p v).2, hp q ρ L (mp I (pNum f n 2 p v).1 (-nI 1))) := by
  rw [f_X11_number_L11, pNum]
  simp (disch := first | omega | assumption) only [kM, kMA, ob_, b2_, jn_, nn_lt, nn_le, nn_eq, nI_add, pk_mul, nn_su, gn_lt, gn_le, ng_lt, ng_le, ng_eq, gn_eq, gg_eq, n_m1, n_cl, if_true, if_false, if_pos, if_neg, ite_self, lt0, m_fine, m_here hR]
  by_cases h : 48 ≤ sg f n p ∧ sg f n p < 48 + 10
  · rw [m_hereIn (q := q) (L := L) (w := nI 0) hR (by omega) h]
    simp (disch := first | omega | assumption) only [kM, kMA, ob_, b2_, jn_, nn_lt, nn_le, nn_eq, nI_add, pk_mul, nn_su, gn_lt, gn_le, ng_lt, ng_le, ng_eq, gn_eq, gg_eq, n_m1, n_cl, if_true, if_false, if_pos, if_neg, ite_self, lt0, m_oneOf hR, if_pos h]
    rw [Nat.mul_comm 10 v]
    exact m_num1 hR (by omega) _ _ _ (by omega)
  · rw [m_hereOut (q := q) (L := L) (w := nI 0) hR (by omega) h]
    simp (disch := first | omega | assumption) only [kM, kMA, ob_, b2_, jn_, nn_lt, nn_le, nn_eq, nI_add, pk_mul, nn_su, gn_lt, gn_le, ng_lt, ng_le, ng_eq, gn_eq, gg_eq, n_m1, n_cl, if_true, if_false, if_pos, if_neg, ite_self, lt0]
theorem m_number2 {q : pQ} {ρ : pP} {L : pL} {I : pI} {f : Nat → Nat} {n : Nat} (hR : RdM ρ I f n) (p : Nat) (hpn : p ≤ 80) : f_X11_number 5000 129 (nI 2) (hp q ρ L (mp I p (-nI 1))) = if 48 ≤ sg f n p ∧ sg f n p ≤ 57 then some (nI (pNum f n 2 p 0).2, hp q ρ L (mp I (pNum f n 2 p 0).1 (-nI 1))) else some (nI 0, hp q ρ L (mp I p (nI p))) := by
  simp (disch := first | omega | assumption) only [f_X11_number, kM, kMA, ob_, b2_, jn_, nn_lt, nn_le, nn_eq, nI_add, pk_mul, nn_su, gn_lt, gn_le, ng_lt, ng_le, ng_eq, gn_eq, gg_eq, n_m1, n_cl, if_true, if_false, if_pos, if_neg, ite_self, lt0, m_oneOf hR]
  by_cases h : 48 ≤ sg f n p ∧ sg f n p < 48 + 10
  · rw [if_pos h, if_pos (by omega), pNum, if_pos (by omega), b2, Nat.zero_mul, Nat.zero_add]
    exact m_num1 hR (K := 1) (by omega) 4998 (p + 1) _ (by omega)
  · rw [if_neg h, if_neg (by omega), b2]
    exact m_numD (by decide) 4999 _ _ (by omega)
theorem m_number3 {q : pQ} {ρ : pP} {L : pL} {I : pI} {f : Nat → Nat} {n : Nat} (hR : RdM ρ I f n) (p : Nat) (hpn : p ≤ 80) : f_X11_number 5000 129 (nI 3) (hp q ρ L (mp I p (-nI 1))) = if 48 ≤ sg f n p ∧ sg f n p ≤ 57 then some (nI (pNum f n 3 p 0).2, hp q ρ L (mp I (pNum f n 3 p 0).1 (-nI 1))) else some (nI 0, hp q ρ L (mp I p (nI p))) := by
  simp (disch := first | omega | assumption) only [f_X11_number, kM, kMA, ob_, b2_, jn_, nn_lt, nn_le, nn_eq, nI_add, pk_mul, nn_su, gn_lt, gn_le, ng_lt, ng_le, ng_eq, gn_eq, gg_eq, n_m1, n_cl, if_true, if_false, if_pos, if_neg, ite_self, lt0, m_oneOf hR]
  by_cases h : 48 ≤ sg f n p ∧ sg f n p < 48 + 10
  · rw [if_pos h, if_pos (by omega), pNum, if_pos (by omega), b2, Nat.zero_mul, Nat.zero_add]
    exact m_num2 hR (K := 1) (by omega) 4997 (p + 1) _ (by omega)
  · rw [if_neg h, if_neg (by omega), b2]
    exact m_numD (by decide) 4999 _ _ (by omega)
theorem m_numberD {q : pQ} {ρ : pP} {L : pL} {I : pI} {p x : Nat} {K : Int32} (hK : ¬ K ≤ nI 1) (hx : x ≤ 1000) : f_X11_number 5000 129 K (hp q ρ L (mp I p (nI x))) = some (nI 0, hp q ρ L (mp I p (nI x))) := by
  simp (disch := first | omega | assumption) only [f_X11_number, kM, kMA, ob_, b2_, jn_, nn_lt, nn_le, nn_eq, nI_add, pk_mul, nn_su, gn_lt, gn_le, ng_lt, ng_le, ng_eq, gn_eq, gg_eq, n_m1, n_cl, if_true, if_false, if_pos, if_neg, ite_self, lt0, m_oneOfD]
  exact m_numD' hK 5000 _ _ (by omega) hx
theorem m_need {q : pQ} {ρ : pP} {L : pL} {I : pI} {f : Nat → Nat} {n p c : Nat} (hR : RdM ρ I f n) (hpn : p ≤ 200) (hc : c < 900) : f_X11_need 5000 129 (nI c) (hp q ρ L (mp I p (-nI 1))) = some (hp q ρ L (if sg f n p = c then mp I (p + 1) (-nI 1) else mp I p (nI p))) := by
  by_cases h : sg f n p = c
  · simp (disch := first | omega | assumption) only [f_X11_need, m_passes hR, if_pos h, kM, kMA, ob_, b2_, jn_, nn_lt, nn_le, nn_eq, nI_add, pk_mul, nn_su, gn_lt, gn_le, ng_lt, ng_le, ng_eq, gn_eq, gg_eq, n_m1, n_cl, if_true, if_false, if_pos, if_neg, ite_self, lt0]
  · simp (disch := first | omega | assumption) only [f_X11_need, m_passes hR, if_neg h, kM, kMA, ob_, b2_, jn_, nn_lt, nn_le, nn_eq, nI_add, pk_mul, nn_su, gn_lt, gn_le, ng_lt, ng_le, ng_eq, gn_eq, gg_eq, n_m1, n_cl, if_true, if_false, if_pos, if_neg, ite_self, lt0, mp_at, m_fault]
theorem m_needD {q : pQ} {ρ : pP} {L : pL} {I : pI} {p x : Nat} {c : Int32} (hx : x ≤ 1000) : f_X11_need 5000 129 c (hp q ρ L (mp I p (nI x))) = some (hp q ρ L (mp I p (nI x))) := by
  simp (disch := first | omega | assumption) only [f_X11_need, m_passesD, kM, kMA, ob_, b2_, jn_, nn_lt, nn_le, nn_eq, nI_add, pk_mul, nn_su, gn_lt, gn_le, ng_lt, ng_le, ng_eq, gn_eq, gg_eq, n_m1, n_cl, if_true, if_false, if_pos, if_neg, ite_self, lt0, mp_at, m_faultD]
theorem m_letterN (h : jH) : f_X11_letterOf 5000 (-nI 1) h = some (-nI 1, h) := by
  simp (disch := first | omega | assumption) only [f_X11_letterOf, ob_, b2_, jn_, nn_lt, nn_le, nn_eq, nI_add, pk_mul, nn_su, gn_lt, gn_le, ng_lt, ng_le, ng_eq, gn_eq, gg_eq, n_m1, n_cl, if_true, if_false, if_pos, if_neg, ite_self, lt0]
theorem m_letter (c : Nat) (hc : c < 1000) (h : jH) : f_X11_letterOf 5000 (nI c) h = some (if pFact c < 7 then nI (pFact c) else -nI 1, h) := by
  simp (disch := first | omega | assumption) only [f_X11_letterOf, ob_, b2_, jn_, nn_lt, nn_le, nn_eq, nI_add, pk_mul, nn_su, gn_lt, gn_le, ng_lt, ng_le, ng_eq, gn_eq, gg_eq, n_m1, n_cl, if_true, if_false, if_pos, if_neg, ite_self, lt0, pFact]
  by_cases h1 : c = 118
  · subst h1; simp (disch := first | omega | assumption) only [ob_, b2_, jn_, nn_lt, nn_le, nn_eq, nI_add, pk_mul, nn_su, gn_lt, gn_le, ng_lt, ng_le, ng_eq, gn_eq, gg_eq, n_m1, n_cl, if_true, if_false, if_pos, if_neg, ite_self, lt0]
  by_cases h2 : c = 115
  · subst h2; simp (disch := first | omega | assumption) only [ob_, b2_, jn_, nn_lt, nn_le, nn_eq, nI_add, pk_mul, nn_su, gn_lt, gn_le, ng_lt, ng_le, ng_eq, gn_eq, gg_eq, n_m1, n_cl, if_true, if_false, if_pos, if_neg, ite_self, lt0]
  by_cases h3 : c = 104
  · subst h3; simp (disch := first | omega | assumption) only [ob_, b2_, jn_, nn_lt, nn_le, nn_eq, nI_add, pk_mul, nn_su, gn_lt, gn_le, ng_lt, ng_le, ng_eq, gn_eq, gg_eq, n_m1, n_cl, if_true, if_false, if_pos, if_neg, ite_self, lt0]
  by_cases h4 : c = 108
  · subst h4; simp (disch := first | omega | assumption) only [ob_, b2_, jn_, nn_lt, nn_le, nn_eq, nI_add, pk_mul, nn_su, gn_lt, gn_le, ng_lt, ng_le, ng_eq, gn_eq, gg_eq, n_m1, n_cl, if_true, if_false, if_pos, if_neg, ite_self, lt0]
  by_cases h5 : c = 112
  · subst h5; simp (disch := first | omega | assumption) only [ob_, b2_, jn_, nn_lt, nn_le, nn_eq, nI_add, pk_mul, nn_su, gn_lt, gn_le, ng_lt, ng_le, ng_eq, gn_eq, gg_eq, n_m1, n_cl, if_true, if_false, if_pos, if_neg, ite_self, lt0]
  by_cases h6 : c = 110
  · subst h6; simp (disch := first | omega | assumption) only [ob_, b2_, jn_, nn_lt, nn_le, nn_eq, nI_add, pk_mul, nn_su, gn_lt, gn_le, ng_lt, ng_le, ng_eq, gn_eq, gg_eq, n_m1, n_cl, if_true, if_false, if_pos, if_neg, ite_self, lt0]
  by_cases h7 : c = 100
  · subst h7; simp (disch := first | omega | assumption) only [ob_, b2_, jn_, nn_lt, nn_le, nn_eq, nI_add, pk_mul, nn_su, gn_lt, gn_le, ng_lt, ng_le, ng_eq, gn_eq, gg_eq, n_m1, n_cl, if_true, if_false, if_pos, if_neg, ite_self, lt0]
  simp (disch := first | omega | assumption) only [ob_, b2_, jn_, nn_lt, nn_le, nn_eq, nI_add, pk_mul, nn_su, gn_lt, gn_le, ng_lt, ng_le, ng_eq, gn_eq, gg_eq, n_m1, n_cl, if_true, if_false, if_pos, if_neg, ite_self, lt0, h1, h2, h3, h4, h5, h6, h7]
