/-! BITS (the family bt is pasted from the laws) -/
def bt (x : Int32) (i : Nat) : Bool := x.toBitVec.getLsbD i
theorem b_ext {x y : Int32} (h : ∀ i, i < 32 → bt x i = bt y i) : x = y := Int32.toBitVec_inj.mp (BitVec.eq_of_getLsbD_eq (fun i hi => h i hi))
theorem b_or (x y : Int32) (i : Nat) : bt (x ||| y) i = (bt x i || bt y i) := by unfold bt; rw [Int32.toBitVec_or, BitVec.getLsbD_or]
theorem b_and (x y : Int32) (i : Nat) : bt (x &&& y) i = (bt x i && bt y i) := by unfold bt; rw [Int32.toBitVec_and, BitVec.getLsbD_and]
theorem b_xor (x y : Int32) (i : Nat) : bt (x ^^^ y) i = (bt x i ^^ bt y i) := by unfold bt; rw [Int32.toBitVec_xor, BitVec.getLsbD_xor]
theorem b_big {x : Int32} {i : Nat} (h : 32 ≤ i) : bt x i = false := BitVec.getLsbD_of_ge _ _ h
theorem b_255 (i : Nat) : bt 255 i = decide (i < 8) := by
  rcases Nat.lt_or_ge i 32 with h | h
  · exact (by decide +kernel : ∀ i, i < 32 → bt 255 i = decide (i < 8)) i h
  · rw [b_big h, decide_eq_false (by omega)]
theorem b_65535 (i : Nat) : bt 65535 i = decide (i < 16) := by
  rcases Nat.lt_or_ge i 32 with h | h
  · exact (by decide +kernel : ∀ i, i < 32 → bt 65535 i = decide (i < 16)) i h
  · rw [b_big h, decide_eq_false (by omega)]
theorem b_m1 : ∀ i, i < 32 → bt (-1) i = true := by decide +kernel
theorem b_0 (i : Nat) : bt 0 i = false := BitVec.getLsbD_zero
theorem s_l : ∀ n, n < 32 → ((nI n &&& 31).toBitVec.smod 32).toNat = n := by decide +kernel
theorem s_u : ∀ n, n < 32 → (((nI n).toUInt32 &&& Int32.toUInt32 31).toBitVec % 32).toNat = n := by decide +kernel
theorem b_shl (n : Nat) (hn : n < 32) (x : Int32) {i : Nat} (hi : i < 32) : bt (x <<< (nI n &&& 31)) i = (decide (n ≤ i) && bt x (i - n)) := by
  unfold bt
  rw [Int32.toBitVec_shiftLeft]
  show (x.toBitVec <<< ((nI n &&& 31).toBitVec.smod 32).toNat).getLsbD i = _
  rw [s_l n hn, BitVec.getLsbD_shiftLeft]
  rcases Nat.lt_or_ge i n with h | h
  · simp [h, Nat.not_le.mpr h]
  · simp [hi, h, Nat.not_lt.mpr h]
theorem b_sshr (n : Nat) (hn : n < 32) (x : Int32) {i : Nat} (hi : i < 32) : bt (x >>> (nI n &&& 31)) i = if n + i < 32 then bt x (n + i) else bt x 31 := by
  unfold bt
  rw [Int32.toBitVec_shiftRight]
  show (x.toBitVec.sshiftRight ((nI n &&& 31).toBitVec.smod 32).toNat).getLsbD i = _
  rw [s_l n hn, BitVec.getLsbD_sshiftRight, BitVec.msb_eq_getLsbD_last]
  simp [hi]
def bit (e : Nat) : Int32 := nI 1 <<< (nI e &&& nI 31)
theorem bt_bit {e i : Nat} (he : e < 32) (hi : i < 32) : bt (bit e) i = decide (i = e) := by
  unfold bit
  rw [show (nI 31 : Int32) = 31 from rfl, b_shl e he _ hi]
  have h1 : ∀ j, j < 32 → bt (nI 1) j = decide (j = 0) := by decide +kernel
  by_cases h : e ≤ i
  · rw [h1 (i - e) (by omega)]
    by_cases h2 : i = e
    · subst h2
      simp
    · have : ¬ i - e = 0 := by omega
      simp [h2, this]
  · have : ¬ i = e := by omega
    simp [h, this]
/-- the set of those below n that p holds of -/
def mk (p : Nat → Bool) (n : Nat) : Int32 := fo (fun e a => if p e = true then a ||| bit e else a) 0 n (nI 0)
theorem mk_s {p : Nat → Bool} {n : Nat} : mk p (n + 1) = if p n = true then mk p n ||| bit n else mk p n := by
  unfold mk
  rw [fo_last, Nat.zero_add]
theorem mk_bt (p : Nat → Bool) : ∀ n i, n ≤ 32 → i < 32 → bt (mk p n) i = (decide (i < n) && p i)
  | 0, i, _, _ => by
    have : bt (nI 0) i = false := b_0 i
    simp [mk, fo, this]
  | n + 1, i, hn, hi => by
    rw [mk_s]
    have ih := mk_bt p n i (by omega) hi
    split
    · rename_i h
      rw [b_or, ih, bt_bit (by omega) hi]
      by_cases h2 : i = n
      · subst h2
        simp [h]
      · by_cases h3 : i < n
        · have : i < n + 1 := by omega
          simp [h2, h3, this]
        · have : ¬ i < n + 1 := by omega
          simp [h2, h3, this]
    · rename_i h
      rw [ih]
      by_cases h2 : i = n
      · subst h2
        simp [h]
      · by_cases h3 : i < n
        · have : i < n + 1 := by omega
          simp [h3, this]
        · have : ¬ i < n + 1 := by omega
          simp [h3, this]
theorem mk_congr {p p' : Nat → Bool} {n : Nat} (h : ∀ e, e < n → p e = p' e) : mk p n = mk p' n := fo_congr n 0 _ (fun i s _ hi => by rw [h i (by omega)])
theorem or_0 (x : Int32) : x ||| nI 0 = x := b_ext (fun i hi => by rw [b_or, show bt (nI 0) i = false from b_0 i, Bool.or_false])
theorem sh_1 {d : Int32} {e : Nat} (he : e < 32) : (d >>> (nI e &&& nI 31)) &&& nI 1 = if bt d e = true then nI 1 else nI 0 := by
  have h1 : ∀ j, j < 32 → bt (nI 1) j = decide (j = 0) := by decide +kernel
  refine b_ext (fun i hi => ?_)
  rw [b_and, show (nI 31 : Int32) = 31 from rfl, b_sshr e he _ hi, h1 i hi]
  by_cases h0 : i = 0
  · subst h0
    rw [Nat.add_zero, if_pos he]
    cases h : bt d e with
    | true => simp [h1 0 (by omega)]
    | false => simp [show bt (nI 0) 0 = false from b_0 0]
  · split
    · split
      · rw [h1 i hi]; simp [h0]
      · rw [show bt (nI 0) i = false from b_0 i]; simp [h0]
    · split
      · rw [h1 i hi]; simp [h0]
      · rw [show bt (nI 0) i = false from b_0 i]; simp [h0]
theorem m_has {d : Int32} {e : Nat} (he : e < 32) (h : jH) : f_X11_has 5000 d (nI e) h = some (if bt d e = true then nI 1 else nI 0, h) := by
  simp only [f_X11_has, lt0, sh_1 he]
  cases bt d e with
  | true => rfl
  | false => rfl
/-! GUARDS -/
def Out (a : Int32) (n : Nat) : Prop := a < nI 0 ∨ (¬ a < nI 0 ∧ nI n ≤ a)
theorem ixo (x : Int32) (n : Nat) (hn : n < 2147483648) : Out x n ∨ ∃ j : Nat, j < n ∧ x = nI j := by
  rcases ixc x n hn with h | h | h
  · exact .inl (.inl h)
  · exact .inl (.inr h)
  · exact .inr h
theorem m_in0 {a : Int32} {n : Nat} (hn : n < 1000000) (h : Out a n) (H : jH) : f_X11_in 5000 a (nI 0) (nI n - nI 1) H = some (nI 0, H) := by
  rcases h with h | ⟨h1, h2⟩
  · simp only [f_X11_in, if_pos h, lt0]
  · have h3 : nI n - nI 1 < a := by
      obtain ⟨j, hj, rfl⟩ := c_lt0 h1
      rw [nn_le (by omega) hj] at h2
      rw [Int32.lt_iff_toInt_lt, n_ti hj, pk_sub_toInt (by omega) (by omega)]
      omega
    simp only [f_X11_in, if_neg h1, if_pos h3, lt0]
theorem m_in1 {j n : Nat} (hn : n < 1000000) (h : j < n) (H : jH) : f_X11_in 5000 (nI j) (nI 0) (nI n - nI 1) H = some (nI 1, H) := by
  simp (disch := first | omega | assumption) only [f_X11_in, ob_, b2_, jn_, nn_lt, nn_le, nn_eq, nI_add, pk_mul, nn_su, gn_lt, gn_le, ng_lt, ng_le, ng_eq, gn_eq, gg_eq, n_m1, n_cl, if_true, if_false, if_pos, if_neg, ite_self, lt0]
theorem x_isW0 {q : pQ} {ρ : pP} {L : pL} {I : pI} {W : Nat} (hW : I 5 0 = nI W) {a : Int32} (h : Out a W) : f_X10_isWord 5000 0 a (hp q ρ L I) = some (nI 0, hp q ρ L I) := by
  rcases h with h | ⟨h1, h2⟩
  · simp (disch := first | omega | assumption) only [f_X10_isWord, kX, kXA, ob_, b2_, jn_, nn_lt, nn_le, nn_eq, nI_add, pk_mul, nn_su, gn_lt, gn_le, ng_lt, ng_le, ng_eq, gn_eq, gg_eq, n_m1, n_cl, if_true, if_false, if_pos, if_neg, ite_self, lt0, hW]
  · simp (disch := first | omega | assumption) only [f_X10_isWord, kX, kXA, ob_, b2_, jn_, nn_lt, nn_le, nn_eq, nI_add, pk_mul, nn_su, gn_lt, gn_le, ng_lt, ng_le, ng_eq, gn_eq, gg_eq, n_m1, n_cl, if_true, if_false, if_pos, if_neg, ite_self, lt0, hW]
theorem x_isW1 {q : pQ} {ρ : pP} {L : pL} {I : pI} {W : Nat} (hW : I 5 0 = nI W) (h10 : W ≤ 1000) {a : Nat} (h : a < W) : f_X10_isWord 5000 0 (nI a) (hp q ρ L I) = some (nI 1, hp q ρ L I) := by
  simp (disch := first | omega | assumption) only [f_X10_isWord, kX, kXA, ob_, b2_, jn_, nn_lt, nn_le, nn_eq, nI_add, pk_mul, nn_su, gn_lt, gn_le, ng_lt, ng_le, ng_eq, gn_eq, gg_eq, n_m1, n_cl, if_true, if_false, if_pos, if_neg, ite_self, lt0, hW]
theorem x_isS0 {q : pQ} {ρ : pP} {L : pL} {I : pI} {W : Nat} (hW : I 0 17 = nI W) {a : Int32} (h : Out a W) : f_X10_isStation 5000 0 a (hp q ρ L I) = some (nI 0, hp q ρ L I) := by
  rcases h with h | ⟨h1, h2⟩
  · simp (disch := first | omega | assumption) only [f_X10_isStation, kX, kXA, ob_, b2_, jn_, nn_lt, nn_le, nn_eq, nI_add, pk_mul, nn_su, gn_lt, gn_le, ng_lt, ng_le, ng_eq, gn_eq, gg_eq, n_m1, n_cl, if_true, if_false, if_pos, if_neg, ite_self, lt0, hW]
  · simp (disch := first | omega | assumption) only [f_X10_isStation, kX, kXA, ob_, b2_, jn_, nn_lt, nn_le, nn_eq, nI_add, pk_mul, nn_su, gn_lt, gn_le, ng_lt, ng_le, ng_eq, gn_eq, gg_eq, n_m1, n_cl, if_true, if_false, if_pos, if_neg, ite_self, lt0, hW]
theorem x_isS1 {q : pQ} {ρ : pP} {L : pL} {I : pI} {W : Nat} (hW : I 0 17 = nI W) (h10 : W ≤ 1000) {a : Nat} (h : a < W) : f_X10_isStation 5000 0 (nI a) (hp q ρ L I) = some (nI 1, hp q ρ L I) := by
  simp (disch := first | omega | assumption) only [f_X10_isStation, kX, kXA, ob_, b2_, jn_, nn_lt, nn_le, nn_eq, nI_add, pk_mul, nn_su, gn_lt, gn_le, ng_lt, ng_le, ng_eq, gn_eq, gg_eq, n_m1, n_cl, if_true, if_false, if_pos, if_neg, ite_self, lt0, hW]
theorem x_isT0 {q : pQ} {ρ : pP} {L : pL} {I : pI} {W : Nat} (hW : I 0 18 = nI W) {a : Int32} (h : Out a W) : f_X10_isTraveller 5000 0 a (hp q ρ L I) = some (nI 0, hp q ρ L I) := by
  rcases h with h | ⟨h1, h2⟩
  · simp (disch := first | omega | assumption) only [f_X10_isTraveller, kX, kXA, ob_, b2_, jn_, nn_lt, nn_le, nn_eq, nI_add, pk_mul, nn_su, gn_lt, gn_le, ng_lt, ng_le, ng_eq, gn_eq, gg_eq, n_m1, n_cl, if_true, if_false, if_pos, if_neg, ite_self, lt0, hW]
  · simp (disch := first | omega | assumption) only [f_X10_isTraveller, kX, kXA, ob_, b2_, jn_, nn_lt, nn_le, nn_eq, nI_add, pk_mul, nn_su, gn_lt, gn_le, ng_lt, ng_le, ng_eq, gn_eq, gg_eq, n_m1, n_cl, if_true, if_false, if_pos, if_neg, ite_self, lt0, hW]
theorem x_isT1 {q : pQ} {ρ : pP} {L : pL} {I : pI} {W : Nat} (hW : I 0 18 = nI W) (h10 : W ≤ 1000) {a : Nat} (h : a < W) : f_X10_isTraveller 5000 0 (nI a) (hp q ρ L I) = some (nI 1, hp q ρ L I) := by
  simp (disch := first | omega | assumption) only [f_X10_isTraveller, kX, kXA, ob_, b2_, jn_, nn_lt, nn_le, nn_eq, nI_add, pk_mul, nn_su, gn_lt, gn_le, ng_lt, ng_le, ng_eq, gn_eq, gg_eq, n_m1, n_cl, if_true, if_false, if_pos, if_neg, ite_self, lt0, hW]
theorem x_isM0 {H : jH} {a : Int32} (h : Out a 10) : f_X10_isMeaning 5000 a H = some (nI 0, H) := by
  rcases h with h | ⟨h1, h2⟩
  · simp (disch := first | omega | assumption) only [f_X10_isMeaning, ob_, b2_, jn_, nn_lt, nn_le, nn_eq, nI_add, pk_mul, nn_su, gn_lt, gn_le, ng_lt, ng_le, ng_eq, gn_eq, gg_eq, n_m1, n_cl, if_true, if_false, if_pos, if_neg, ite_self, lt0]
  · simp (disch := first | omega | assumption) only [f_X10_isMeaning, ob_, b2_, jn_, nn_lt, nn_le, nn_eq, nI_add, pk_mul, nn_su, gn_lt, gn_le, ng_lt, ng_le, ng_eq, gn_eq, gg_eq, n_m1, n_cl, if_true, if_false, if_pos, if_neg, ite_self, lt0]
theorem x_isM1 {H : jH} {a : Nat} (h : a < 10) : f_X10_isMeaning 5000 (nI a) H = some (nI 1, H) := by
  simp (disch := first | omega | assumption) only [f_X10_isMeaning, ob_, b2_, jn_, nn_lt, nn_le, nn_eq, nI_add, pk_mul, nn_su, gn_lt, gn_le, ng_lt, ng_le, ng_eq, gn_eq, gg_eq, n_m1, n_cl, if_true, if_false, if_pos, if_neg, ite_self, lt0]
theorem m_isW0 {q : pQ} {ρ : pP} {L : pL} {I : pI} {W : Nat} (hW : I 129 2 = nI W) (h10 : W ≤ 1000) {a : Int32} (h : Out a W) : f_X11_isWord 5000 129 a (hp q ρ L I) = some (nI 0, hp q ρ L I) := by
  simp (disch := first | omega | assumption) only [f_X11_isWord, kM, kMA, ob_, b2_, jn_, nn_lt, nn_le, nn_eq, nI_add, pk_mul, nn_su, gn_lt, gn_le, ng_lt, ng_le, ng_eq, gn_eq, gg_eq, n_m1, n_cl, if_true, if_false, if_pos, if_neg, ite_self, lt0, hW, m_in0, h, jrz_0]
theorem m_isW1 {q : pQ} {ρ : pP} {L : pL} {I : pI} {W : Nat} (hW : I 129 2 = nI W) (h10 : W ≤ 1000) {a : Nat} (h : a < W) : f_X11_isWord 5000 129 (nI a) (hp q ρ L I) = some (nI 1, hp q ρ L I) := by
  simp (disch := first | omega | assumption) only [f_X11_isWord, kM, kMA, ob_, b2_, jn_, nn_lt, nn_le, nn_eq, nI_add, pk_mul, nn_su, gn_lt, gn_le, ng_lt, ng_le, ng_eq, gn_eq, gg_eq, n_m1, n_cl, if_true, if_false, if_pos, if_neg, ite_self, lt0, hW]
  rw [m_in, b2, if_pos, jrz_1] <;> omega
theorem m_isS0 {q : pQ} {ρ : pP} {L : pL} {I : pI} {W : Nat} (hW : I 129 1 = nI W) (h10 : W ≤ 1000) {a : Int32} (h : Out a W) : f_X11_isStation 5000 129 a (hp q ρ L I) = some (nI 0, hp q ρ L I) := by
  simp (disch := first | omega | assumption) only [f_X11_isStation, kM, kMA, ob_, b2_, jn_, nn_lt, nn_le, nn_eq, nI_add, pk_mul, nn_su, gn_lt, gn_le, ng_lt, ng_le, ng_eq, gn_eq, gg_eq, n_m1, n_cl, if_true, if_false, if_pos, if_neg, ite_self, lt0, hW, m_in0, h, jrz_0]
theorem m_isS1 {q : pQ} {ρ : pP} {L : pL} {I : pI} {W : Nat} (hW : I 129 1 = nI W) (h10 : W ≤ 1000) {a : Nat} (h : a < W) : f_X11_isStation 5000 129 (nI a) (hp q ρ L I) = some (nI 1, hp q ρ L I) := by
  simp (disch := first | omega | assumption) only [f_X11_isStation, kM, kMA, ob_, b2_, jn_, nn_lt, nn_le, nn_eq, nI_add, pk_mul, nn_su, gn_lt, gn_le, ng_lt, ng_le, ng_eq, gn_eq, gg_eq, n_m1, n_cl, if_true, if_false, if_pos, if_neg, ite_self, lt0, hW]
  rw [m_in, b2, if_pos, jrz_1] <;> omega
theorem m_isT0 {q : pQ} {ρ : pP} {L : pL} {I : pI} {W : Nat} (hW : I 129 6 = nI W) (h10 : W ≤ 1000) {a : Int32} (h : Out a W) : f_X11_isOne 5000 129 a (hp q ρ L I) = some (nI 0, hp q ρ L I) := by
  simp (disch := first | omega | assumption) only [f_X11_isOne, kM, kMA, ob_, b2_, jn_, nn_lt, nn_le, nn_eq, nI_add, pk_mul, nn_su, gn_lt, gn_le, ng_lt, ng_le, ng_eq, gn_eq, gg_eq, n_m1, n_cl, if_true, if_false, if_pos, if_neg, ite_self, lt0, hW, m_in0, h, jrz_0]
theorem m_isT1 {q : pQ} {ρ : pP} {L : pL} {I : pI} {W : Nat} (hW : I 129 6 = nI W) (h10 : W ≤ 1000) {a : Nat} (h : a < W) : f_X11_isOne 5000 129 (nI a) (hp q ρ L I) = some (nI 1, hp q ρ L I) := by
  simp (disch := first | omega | assumption) only [f_X11_isOne, kM, kMA, ob_, b2_, jn_, nn_lt, nn_le, nn_eq, nI_add, pk_mul, nn_su, gn_lt, gn_le, ng_lt, ng_le, ng_eq, gn_eq, gg_eq, n_m1, n_cl, if_true, if_false, if_pos, if_neg, ite_self, lt0, hW]
  rw [m_in, b2, if_pos, jrz_1] <;> omega
theorem m_isM0 {H : jH} {a : Int32} (h : Out a 10) : f_X11_isMeaning 5000 a H = some (nI 0, H) := by
  have := m_in0 (n := 10) (by omega) h H
  rw [show nI 10 - nI 1 = nI 9 from rfl] at this
  simp only [f_X11_isMeaning, lt0, this, b2_, jrz_0]
theorem m_isM1 {H : jH} {a : Nat} (h : a < 10) : f_X11_isMeaning 5000 (nI a) H = some (nI 1, H) := by
  have := m_in1 (n := 10) (by omega) h H
  rw [show nI 10 - nI 1 = nI 9 from rfl] at this
  simp only [f_X11_isMeaning, lt0, this, b2_, jrz_1]
/-! TELLING -/
theorem x_clear {q : pQ} {ρ : pP} {L : pL} {I : pI} : f_X6_clear 5000 3 (hp q ρ L I) = some (hp q ρ L (j_up I 3 1 (nI 0))) := by
  simp (disch := first | omega | assumption) only [f_X6_clear, kX, kXA, ob_, b2_, jn_, nn_lt, nn_le, nn_eq, nI_add, pk_mul, nn_su, gn_lt, gn_le, ng_lt, ng_le, ng_eq, gn_eq, gg_eq, n_m1, n_cl, if_true, if_false, if_pos, if_neg, ite_self, lt0]
theorem x_add {q : pQ} {ρ : pP} {L : pL} {I : pI} {r : Nat} {v : Int64} (hr : r < 12) : f_X6_add 5000 3 v (hp q ρ L (j_up I 3 1 (nI r))) = some (hp q ρ (j_up L 4 r v) (j_up I 3 1 (nI (r + 1)))) := by
  simp (disch := first | omega | assumption) only [f_X6_add, kX, kXA, ob_, b2_, jn_, nn_lt, nn_le, nn_eq, nI_add, pk_mul, nn_su, gn_lt, gn_le, ng_lt, ng_le, ng_eq, gn_eq, gg_eq, n_m1, n_cl, if_true, if_false, if_pos, if_neg, ite_self, lt0, up_eq, up_up]
theorem x_tell1 {q : pQ} {ρ : pP} {L : pL} {I : pI} {a : Int64} : f_X6_tell 5000 3 a (hp q ρ L I) = some (hp q ρ (j_up L 4 0 a) (j_up I 3 1 (nI 1))) := by
  simp (disch := first | omega | assumption) only [f_X6_tell, kX, kXA, ob_, b2_, jn_, nn_lt, nn_le, nn_eq, nI_add, pk_mul, nn_su, gn_lt, gn_le, ng_lt, ng_le, ng_eq, gn_eq, gg_eq, n_m1, n_cl, if_true, if_false, if_pos, if_neg, ite_self, lt0, x_clear, x_add]
theorem x_tell2 {q : pQ} {ρ : pP} {L : pL} {I : pI} {a b : Int64} : f_X6_tell_ 5000 3 a b (hp q ρ L I) = some (hp q ρ (j_up (j_up L 4 0 a) 4 1 b) (j_up I 3 1 (nI 2))) := by
  simp (disch := first | omega | assumption) only [f_X6_tell_, kX, kXA, ob_, b2_, jn_, nn_lt, nn_le, nn_eq, nI_add, pk_mul, nn_su, gn_lt, gn_le, ng_lt, ng_le, ng_eq, gn_eq, gg_eq, n_m1, n_cl, if_true, if_false, if_pos, if_neg, ite_self, lt0, x_clear, x_add]
theorem m_tell {q : pQ} {ρ : pP} {L : pL} {I : pI} {r : Nat} {v : Int64} (hr : r < 20) : f_X11_tell 5000 129 v (hp q ρ L (j_up I 129 12 (nI r))) = some (hp q ρ (j_up L 136 r v) (j_up I 129 12 (nI (r + 1)))) := by
  simp (disch := first | omega | assumption) only [f_X11_tell, kM, kMA, ob_, b2_, jn_, nn_lt, nn_le, nn_eq, nI_add, pk_mul, nn_su, gn_lt, gn_le, ng_lt, ng_le, ng_eq, gn_eq, gg_eq, n_m1, n_cl, if_true, if_false, if_pos, if_neg, ite_self, lt0, up_eq, up_up]
theorem XW_1 {L : pL} {I : pI} {a : Int64} : XW (1, fun _ => a) (j_up L 4 0 a) (j_up I 3 1 (nI 1)) := ⟨up_eq, fun i hi => by
  have : i = 0 := by simp only [] at hi; omega
  subst this
  exact up_eq⟩
theorem XW_2 {L : pL} {I : pI} {a b : Int64} : XW (2, fun i => if i = 0 then a else b) (j_up (j_up L 4 0 a) 4 1 b) (j_up I 3 1 (nI 2)) := ⟨up_eq, fun i hi => by
  have : i = 0 ∨ i = 1 := by simp only [] at hi; omega
  rcases this with rfl | rfl
  · rw [up_nk (by omega), up_eq]; rfl
  · rw [up_eq]; rfl⟩
theorem MW_1 {L : pL} {I : pI} {a : Int64} : MW (1, fun _ => a) (j_up L 136 0 a) (j_up I 129 12 (nI 1)) := ⟨up_eq, fun i hi => by
  have : i = 0 := by simp only [] at hi; omega
  subst this
  exact up_eq⟩
theorem MW_2 {L : pL} {I : pI} {a b : Int64} : MW (2, fun i => if i = 0 then a else b) (j_up (j_up L 136 0 a) 136 1 b) (j_up I 129 12 (nI 2)) := ⟨up_eq, fun i hi => by
  have : i = 0 ∨ i = 1 := by simp only [] at hi; omega
  rcases this with rfl | rfl
  · rw [up_nk (by omega), up_eq]; rfl
  · rw [up_eq]; rfl⟩
/-! rows of a tariff are rows that questions change -/
theorem trf {A : Nat} {I J : pI} (hA : A = 119 ∨ A = 124) (h : ∀ b, tT A b → J b = I b) : Fr (tY A) I J := fun b k e => by
  by_cases g : tT A b
  · rw [h b g]
  · exfalso
    unfold tT at g
    have : b = A + 1 ∨ b = A + 3 ∨ b = A + 4 := by omega
    rcases hA with rfl | rfl
    · rcases this with rfl | rfl | rfl <;> cases e
    · rcases this with rfl | rfl | rfl <;> cases e
theorem tTo_N {I J : pI} (h : Fr tTo I J) : Fr tN I J := h.mo (fun b k e => by
  unfold tTo at e
  rw [Bool.or_eq_true, Bool.or_eq_true, Bool.and_eq_true] at e
  rcases e with (⟨e1, e2⟩ | e1) | e1
  · have := Nat.eq_of_beq_eq_true e1
    subst this
    rw [Bool.or_eq_true] at e2
    unfold tN tM
    rcases e2 with e2 | e2
    · rw [Bool.and_eq_true] at e2
      have a1 := Nat.le_of_ble_eq_true e2.1
      have a2 := Nat.le_of_ble_eq_true e2.2
      have : Nat.ble 13 k = true := Nat.ble_eq_true_of_le (by omega)
      rw [this, e2.2]
      rfl
    · have := Nat.eq_of_beq_eq_true e2
      subst this
      rfl
  · have := Nat.eq_of_beq_eq_true e1
    subst this
    rfl
  · have := Nat.eq_of_beq_eq_true e1
    subst this
    rfl)
theorem Ms_0 {t : Nat} {G : gG} {ρ : pP} {I : pI} {x : Int32} (g : Ms t G ρ I) : Ms t G ρ (j_up I 129 13 x) := by
  obtain ⟨g1, g2, g3, g4, g5, g6, g7, g8⟩ := g
  unfold MT ML MD MU MK MR MS Ms at *
  simp (disch := first | omega | assumption) only [up_nk, up_ne, MT, ML, MD, MU, MK, MR, MS]
  exact ⟨g1, g2, g3, g4, g5, g6, g7, g8⟩
