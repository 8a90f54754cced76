/-! SIGN -/
theorem bt_nI {n i : Nat} (hi : i < 32) : bt (nI n) i = n.testBit i := by
  show (BitVec.ofNat 32 n).getLsbD i = _
  rw [BitVec.getLsbD_ofNat]
  simp [hi]
def byt (v : Int32) (i : Nat) : Nat := (v.toUInt32.toNat >>> (24 - 8 * i)) % 256
theorem byt_lt (v : Int32) (i : Nat) : byt v i < 256 := Nat.mod_lt _ (by omega)
theorem bt_nat (v : Int32) (i : Nat) : v.toUInt32.toNat.testBit i = bt v i := by
  show v.toBitVec.toNat.testBit i = v.toBitVec.getLsbD i
  rfl
theorem byt_x (v : Int32) (i : Nat) (hi : i < 4) : ((v.toUInt32 >>> ((nI (24 - 8 * i)).toUInt32 &&& Int32.toUInt32 31)).toInt32) &&& nI 255 = nI (byt v i) := by
  refine b_ext (fun j hj => ?_)
  rw [b_and, b_ushr (24 - 8 * i) (by omega), show nI 255 = 255 from rfl, b_255, bt_nI hj]
  unfold byt
  rw [show (256 : Nat) = 2 ^ 8 from rfl, Nat.testBit_mod_two_pow, Nat.testBit_shiftRight, bt_nat, Bool.and_comm]
theorem byt_m (v : Int32) (i : Nat) (hi : i < 4) : ((v >>> (nI (24 - 8 * i) &&& 31)).toInt8.toInt32).toInt8.toInt32 = by8 (byt v i) := by
  unfold by8
  rw [← byt_x v i hi, Int8.toInt8_toInt32]
  congr 1
  apply Int8.toBitVec_inj.1
  rw [Int32.toBitVec_toInt8, Int32.toBitVec_toInt8]
  refine BitVec.eq_of_getLsbD_eq (fun j hj => ?_)
  rw [BitVec.getLsbD_signExtend, BitVec.getLsbD_signExtend]
  rw [if_pos (by omega), if_pos (by omega)]
  congr 1
  have h1 := b_sshr (24 - 8 * i) (by omega) v (i := j) (by omega)
  have h2 := b_ushr (24 - 8 * i) (by omega) v j
  rw [if_pos (by omega)] at h1
  have h3 := b_and ((v.toUInt32 >>> ((nI (24 - 8 * i)).toUInt32 &&& Int32.toUInt32 31)).toInt32) (nI 255) j
  rw [h2, show nI 255 = 255 from rfl, b_255, decide_eq_true hj, Bool.and_true] at h3
  exact h1.trans h3.symm
theorem x_signL {q : pQ} {ρ : pP} {L : pL} {I : pI} {v : Int32} {n : Nat} (hn : n ≤ 76) (h1 : I 1 1 = nI n) {kk : jH → Option (Int32 × jH)} (N : Nat) : f_X9_addFour_L20 5000 1 v kk (N + 5) (nI 0) (hp q ρ L I) = kk (hp q ρ L (j_up (j_up (j_up (j_up I 2 (n + 0) (nI (byt v 0))) 2 (n + 1) (nI (byt v 1))) 2 (n + 2) (nI (byt v 2))) 2 (n + 3) (nI (byt v 3)))) := by
  have b0 := byt_x v 0 (by omega)
  have b1 := byt_x v 1 (by omega)
  have b2 := byt_x v 2 (by omega)
  have b3 := byt_x v 3 (by omega)
  simp only [lt0] at b0 b1 b2 b3
  simp (disch := first | omega | assumption) only [f_X9_addFour_L20, ↓bX, ↓bXA, ↓jn_, ↓ob_, ↓b2_, ↓reduceIte, nn_lt, nn_le, nn_eq, nI_add, pk_mul, nn_su, gn_lt, gn_le, ng_lt, ng_le, ng_eq, gn_eq, gg_eq, n_m1, n_cl, if_true, if_false, if_pos, if_neg, lt0, h1, up_ne, b0, b1, b2, b3]
theorem m_signL {q : pQ} {ρ : pP} {L : pL} {I : pI} {v : Int32} {n : Nat} (hn : n ≤ 76) (h1 : I 129 10 = nI n) {kk : jH → Option (Int32 × jH)} (N : Nat) : f_X11_sign_L20 5000 129 v kk (N + 5) (nI 3) (hp q ρ L I) = kk (hp q ρ L (j_up (j_up (j_up (j_up (j_up I 129 10 (nI (n + 4))) 135 n (by8 (byt v 0))) 135 (n + 1) (by8 (byt v 1))) 135 (n + 2) (by8 (byt v 2))) 135 (n + 3) (by8 (byt v 3)))) := by
  have b0 := byt_m v 0 (by omega)
  have b1 := byt_m v 1 (by omega)
  have b2 := byt_m v 2 (by omega)
  have b3 := byt_m v 3 (by omega)
  simp only [lt0] at b0 b1 b2 b3
  have c1 : ∀ (I : pI) (k : Nat) (x y : Int32), j_up (j_up I 135 k x) 129 10 y = j_up (j_up I 129 10 y) 135 k x := fun I k x y => up_co (by omega)
  have z : nI 0 + -nI 1 = -nI 1 := rfl
  simp (disch := first | omega | assumption) only [f_X11_sign_L20, ↓bM, ↓bMA, ↓jn_, ↓ob_, ↓b2_, ↓reduceIte, nn_lt, nn_le, nn_eq, nI_add, pk_mul, nn_su, gn_lt, gn_le, ng_lt, ng_le, ng_eq, gn_eq, gg_eq, n_m1, n_cl, if_true, if_false, if_pos, if_neg, lt0, h1, up_ne, up_eq, up_up, c1, z, b0, b1, b2, b3]
theorem k_sign (a : Int32) : ∀ G, Wr G → ∃ v G', Wr G' ∧ XH (f_X10_sign 5000 0 a) G v G' ∧ MH (f_X11_sign 5000 129 a) G v G' := by
  intro G hG
  have hG' := hG
  obtain ⟨w1, w2, w3, w4, w5, w6, w7, w8, w9⟩ := hG
  have h80 := w1.1
  by_cases h : (gTx G).1 ≤ 76
  · have row : ∀ k, k < (gTx G).1 + 4 → (k < (gTx G).1 ∨ k = (gTx G).1 ∨ k = (gTx G).1 + 1 ∨ k = (gTx G).1 + 2 ∨ k = (gTx G).1 + 3) := fun k hk => by omega
    refine ⟨nI ((gTx G).1 + 4), sTx G ((gTx G).1 + 4, fun k => if k < (gTx G).1 then (gTx G).2 k else byt a (k - (gTx G).1)), ⟨⟨by simp only []; omega, fun k hk => ?_⟩, w2, w3, w4, w5, w6, w7, w8, w9⟩, ?_, ?_⟩
    · show (if k < (gTx G).1 then (gTx G).2 k else byt a (k - (gTx G).1)) < 256
      split
      · exact w1.2 k (by assumption)
      · exact byt_lt _ _
    · rintro q ρ L I hq ⟨⟨hT, hL, hD, hP, hS, hU, hK, hR, hρ⟩, hW⟩
      have e5 : ∀ b, b ≠ 1 → b ≠ 2 → j_up (j_up (j_up (j_up (j_up I 2 ((gTx G).1 + 0) (nI (byt a 0))) 2 ((gTx G).1 + 1) (nI (byt a 1))) 2 ((gTx G).1 + 2) (nI (byt a 2))) 2 ((gTx G).1 + 3) (nI (byt a 3))) 1 1 (nI ((gTx G).1 + 4)) b = I b := fun b h1 h2 => by rw [up_ne h1, up_ne h2, up_ne h2, up_ne h2, up_ne h2]
      refine ⟨q, ρ, L, j_up (j_up (j_up (j_up (j_up I 2 ((gTx G).1 + 0) (nI (byt a 0))) 2 ((gTx G).1 + 1) (nI (byt a 1))) 2 ((gTx G).1 + 2) (nI (byt a 2))) 2 ((gTx G).1 + 3) (nI (byt a 3))) 1 1 (nI ((gTx G).1 + 4)), ?_, ⟨⟨⟨up_eq, fun k hk => ?_⟩, XL_k (fun b _ _ => e5 b (by omega) (by omega)) hL, XD_k (fun b _ _ => e5 b (by omega) (by omega)) hD, by rw [e5 0 (by omega) (by omega)]; exact hP, XS_k (fun i _ => e5 _ (by omega) (by omega)) hS, XU_k (fun b _ _ => e5 b (by omega) (by omega)) hU, XK_k (fun b _ _ => e5 b (by omega) (by omega)) hK, XR_k (fun b _ _ => e5 b (by omega) (by omega)) hR, hρ⟩, ?_⟩, ⟨rfl, rfl, fun b _ _ => e5 b (by omega) (by omega)⟩, Nat.le_refl _, Nat.le_succ _, Nat.le_add_right _ _⟩
      · have e1 := x_signL (q := q) (ρ := ρ) (L := L) (v := a) h hT.1 (kk := fun (h6 : jH) => (jg_I 9 1 h6 1).bind (fun v7 => (jp_I 9 1 h6 1 (v7 + nI 4)).bind (fun h8 => some (nI 1, h8)))) 4995
        have e2 : f_X9_addFour 5000 1 a (hp q ρ L I) = some (nI 1, hp q ρ L (j_up (j_up (j_up (j_up (j_up I 2 ((gTx G).1 + 0) (nI (byt a 0))) 2 ((gTx G).1 + 1) (nI (byt a 1))) 2 ((gTx G).1 + 2) (nI (byt a 2))) 2 ((gTx G).1 + 3) (nI (byt a 3))) 1 1 (nI ((gTx G).1 + 4)))) := by
          rw [f_X9_addFour]
          simp (disch := first | omega | assumption) only [↓bX, ↓bXA, ↓jn_, ↓ob_, ↓b2_, ↓reduceIte, nn_lt, nn_le, nn_eq, nI_add, pk_mul, nn_su, gn_lt, gn_le, ng_lt, ng_le, ng_eq, gn_eq, gg_eq, n_m1, n_cl, if_true, if_false, if_pos, if_neg, lt0, hT.1]
          rw [show 5000 = 4995 + 5 from rfl] at e1 ⊢
          rw [e1]
          simp (disch := first | omega | assumption) only [↓bX, ↓bXA, ↓jn_, ↓ob_, ↓b2_, ↓reduceIte, nn_lt, nn_le, nn_eq, nI_add, pk_mul, nn_su, gn_lt, gn_le, ng_lt, ng_le, ng_eq, gn_eq, gg_eq, n_m1, n_cl, if_true, if_false, if_pos, if_neg, lt0, up_ne, hT.1]
        simp (disch := first | omega | assumption) only [f_X10_sign, ↓bX, ↓bXA, ↓jn_, ↓ob_, ↓b2_, ↓reduceIte, nn_lt, nn_le, nn_eq, nI_add, pk_mul, nn_su, gn_lt, gn_le, ng_lt, ng_le, ng_eq, gn_eq, gg_eq, n_m1, n_cl, if_true, if_false, if_pos, if_neg, lt0, ↓b2e e2, up_eq]
      · rw [up_ne (by omega)]
        show _ = nI (if k < (gTx G).1 then (gTx G).2 k else byt a (k - (gTx G).1))
        have hk' : k < (gTx G).1 + 4 := hk
        rcases row k hk' with r | rfl | rfl | rfl | rfl
        · rw [if_pos r, up_nk (by omega), up_nk (by omega), up_nk (by omega), up_nk (by omega)]
          exact hT.2 k r
        · rw [if_neg (by omega), up_nk (by omega), up_nk (by omega), up_nk (by omega), Nat.add_zero, up_eq, Nat.sub_self]
        · rw [if_neg (by omega), up_nk (by omega), up_nk (by omega), up_eq, Nat.add_sub_cancel_left]
        · rw [if_neg (by omega), up_nk (by omega), up_eq, Nat.add_sub_cancel_left]
        · rw [if_neg (by omega), up_eq, Nat.add_sub_cancel_left]
      · unfold XW at hW ⊢
        rw [e5 3 (by omega) (by omega)]
        exact hW
    · rintro t q ρ L I ht ⟨hM, hW⟩
      obtain ⟨hT, hL, hD, hP, hS, hU, hK, hR⟩ := Ms_0 (x := nI 0) hM
      have e1 := m_signL (q := q) (ρ := ρ) (L := L) (v := a) h hT.1 (kk := fun (h7 : jH) => (jg_I 11 10 h7 129).bind (fun v8 => some (v8, h7))) 4995
      generalize hJ : j_up (j_up (j_up (j_up (j_up (j_up I 129 13 (nI 0)) 129 10 (nI ((gTx G).1 + 4))) 135 (gTx G).1 (by8 (byt a 0))) 135 ((gTx G).1 + 1) (by8 (byt a 1))) 135 ((gTx G).1 + 2) (by8 (byt a 2))) 135 ((gTx G).1 + 3) (by8 (byt a 3)) = J at e1
      have j10 : J 129 10 = nI ((gTx G).1 + 4) := by rw [← hJ, up_ne (by omega), up_ne (by omega), up_ne (by omega), up_ne (by omega), up_eq]
      have e5 : ∀ b, b ≠ 129 → b ≠ 135 → J b = j_up I 129 13 (nI 0) b := fun b h1 h2 => by rw [← hJ, up_ne h2, up_ne h2, up_ne h2, up_ne h2, up_ne h1]
      have e6 : ∀ k, k ≠ 10 → J 129 k = j_up I 129 13 (nI 0) 129 k := fun k h1 => by rw [← hJ, up_ne (by omega), up_ne (by omega), up_ne (by omega), up_ne (by omega), up_nk h1]
      refine ⟨ρ, L, J, ?_, ⟨⟨⟨j10, fun k hk => ?_⟩, ML_k (e6 _ (by omega)) (e5 131 (by omega) (by omega)) (e5 132 (by omega) (by omega)) (e5 133 (by omega) (by omega)) hL, MD_k (e6 _ (by omega)) (e5 134 (by omega) (by omega)) hD, by rw [e6 _ (by omega), e6 _ (by omega)]; exact hP, MS_k (e5 130 (by omega) (by omega)) hS, MU_k (e6 _ (by omega)) (e5 144 (by omega) (by omega)) hU, MK_k (Nat.le_succ t) (e6 _ (by omega)) (e5 158 (by omega) (by omega)) (e5 159 (by omega) (by omega)) (e5 160 (by omega) (by omega)) hK, MR_k (e6 _ (by omega)) (e5 140 (by omega) (by omega)) hR⟩, ?_⟩, ⟨rfl, rfl⟩, rfl, fun b hb => by rw [e5 b (by omega) (by omega), up_ne (by omega)]⟩
      · rw [f_X11_sign]
        simp (disch := first | omega | assumption) only [↓bM, ↓bMA, ↓jn_, ↓ob_, ↓b2_, ↓reduceIte, nn_lt, nn_le, nn_eq, nI_add, pk_mul, nn_su, gn_lt, gn_le, ng_lt, ng_le, ng_eq, gn_eq, gg_eq, n_m1, n_cl, if_true, if_false, if_pos, if_neg, lt0, hT.1]
        rw [show 5000 = 4995 + 5 from rfl] at e1 ⊢
        rw [e1]
        simp (disch := first | omega | assumption) only [↓bM, ↓bMA, ↓jn_, ↓ob_, ↓b2_, ↓reduceIte, nn_lt, nn_le, nn_eq, nI_add, pk_mul, nn_su, gn_lt, gn_le, ng_lt, ng_le, ng_eq, gn_eq, gg_eq, n_m1, n_cl, if_true, if_false, if_pos, if_neg, lt0, j10]
      · show _ = by8 (if k < (gTx G).1 then (gTx G).2 k else byt a (k - (gTx G).1))
        have hk' : k < (gTx G).1 + 4 := hk
        rw [← hJ]
        rcases row k hk' with r | rfl | rfl | rfl | rfl
        · rw [if_pos r, up_nk (by omega), up_nk (by omega), up_nk (by omega), up_nk (by omega), up_ne (by omega)]
          exact hT.2 k r
        · rw [if_neg (by omega), up_nk (by omega), up_nk (by omega), up_nk (by omega), up_eq, Nat.sub_self]
        · rw [if_neg (by omega), up_nk (by omega), up_nk (by omega), up_eq, Nat.add_sub_cancel_left]
        · rw [if_neg (by omega), up_nk (by omega), up_eq, Nat.add_sub_cancel_left]
        · rw [if_neg (by omega), up_eq, Nat.add_sub_cancel_left]
      · unfold MW at hW ⊢
        rw [e6 _ (by omega), up_nk (by omega)]
        exact hW
  · refine ⟨-nI 1, G, hG', XH_0 ?_, MH_0 ?_⟩
    · rintro q ρ L I ⟨⟨hT, hL, hD, hP, hS, hU, hK, hR, hρ⟩, hW⟩
      have e := hT.1
      simp (disch := first | omega | assumption) only [f_X10_sign, f_X9_addFour, ↓bX, ↓bXA, ↓jn_, ↓ob_, ↓b2_, ↓reduceIte, nn_lt, nn_le, nn_eq, nI_add, pk_mul, nn_su, gn_lt, gn_le, ng_lt, ng_le, ng_eq, gn_eq, gg_eq, n_m1, n_cl, if_true, if_false, if_pos, if_neg, lt0, e]
    · rintro t q ρ L I ⟨⟨hT, hL, hD, hP, hS, hU, hK, hR⟩, hW⟩
      have e := hT.1
      simp (disch := first | omega | assumption) only [f_X11_sign, ↓bM, ↓bMA, ↓jn_, ↓ob_, ↓b2_, ↓reduceIte, nn_lt, nn_le, nn_eq, nI_add, pk_mul, nn_su, gn_lt, gn_le, ng_lt, ng_le, ng_eq, gn_eq, gg_eq, n_m1, n_cl, if_true, if_false, if_pos, if_neg, lt0, up_nk, e]
/-! SHEET -/
def cl9 (x : Int32) : Nat := min 9999 x.toNatClampNeg
theorem x_btw9 (x : Int32) (h : jH) : f_X10_between 5000 x (nI 9999) h = some (nI (cl9 x), h) := by
  by_cases h0 : x < nI 0
  · have hx : x.toNatClampNeg = 0 := by
      rw [Int32.lt_iff_toInt_lt, n_ti (by omega)] at h0
      show x.toInt.toNat = 0
      omega
    simp only [f_X10_between, lt0, i_nle h0, if_false, cl9, hx]
    rfl
  · obtain ⟨j, hj, rfl⟩ := c_lt0 h0
    rw [x_btw hj (by omega)]
    simp (disch := first | omega | assumption) only [cl9, n_cl, Nat.min_comm]
theorem m_clamp9 (x : Int32) : j_max (nI 0) (j_min (nI 9999) x) = nI (cl9 x) := by
  by_cases h0 : x < nI 0
  · have hx : x.toNatClampNeg = 0 := by
      rw [Int32.lt_iff_toInt_lt, n_ti (by omega)] at h0
      show x.toInt.toNat = 0
      omega
    have h1 : x < nI 9999 := by
      rw [Int32.lt_iff_toInt_lt, n_ti (by omega)] at h0 ⊢
      omega
    have h2 : ¬ nI 0 < x := by
      rw [Int32.lt_iff_toInt_lt, n_ti (by omega)] at h0 ⊢
      omega
    simp only [j_min, j_max, if_pos h1, if_neg h2, cl9, hx]
    rfl
  · obtain ⟨j, hj, rfl⟩ := c_lt0 h0
    rw [jmin_nn (by omega) hj, jmax_nn (by omega) (by omega), Nat.max_eq_right (Nat.zero_le _)]
    simp (disch := first | omega | assumption) only [cl9, n_cl]
def ent (k x : Int32) : Int32 := if k = nI 0 then x.toInt8.toInt32 else if k = nI 1 then x.toInt16.toInt32 else x
def shv (a n f st : Int32) (i : Nat) : Nat := if a = nI 3 then 0 else if nI i < n then cl9 (ent a (f + nI i * st)) else 0
theorem shv_le (a n f st : Int32) (i : Nat) : shv a n f st i ≤ 9999 := by
  unfold shv
  split
  · omega
  · split
    · exact Nat.min_le_left _ _
    · omega
def puA (C : gC) (f : Nat → Nat) : gC := (C.1, C.2.1, f, C.2.2.2)
theorem x_entry (k x : Int32) (h : jH) : f_X10_entry 5000 k x h = some (ent k x, h) := by
  by_cases h0 : k = nI 0
  · simp (disch := first | omega | assumption) only [f_X10_entry, ob_, b2_, jn_, nn_lt, nn_le, nn_eq, nI_add, pk_mul, nn_su, gn_lt, gn_le, ng_lt, ng_le, ng_eq, gn_eq, gg_eq, n_m1, n_cl, if_true, if_false, if_pos, if_neg, ite_self, lt0, ent, h0]
  · by_cases h1 : k = nI 1
    · simp (disch := first | omega | assumption) only [f_X10_entry, ob_, b2_, jn_, nn_lt, nn_le, nn_eq, nI_add, pk_mul, nn_su, gn_lt, gn_le, ng_lt, ng_le, ng_eq, gn_eq, gg_eq, n_m1, n_cl, if_true, if_false, if_pos, if_neg, ite_self, lt0, ent, h1]
    · simp (disch := first | omega | assumption) only [f_X10_entry, ob_, b2_, jn_, nn_lt, nn_le, nn_eq, nI_add, pk_mul, nn_su, gn_lt, gn_le, ng_lt, ng_le, ng_eq, gn_eq, gg_eq, n_m1, n_cl, if_true, if_false, if_pos, if_neg, ite_self, lt0, ent, h0, h1]
theorem x_sheetL {q : pQ} {ρ : pP} {L : pL} {I : pI} {a n f st : Int32} {C : gC} {P : Nat} (hC : XS 19 C P I) (hP : I 0 18 = nI P) (hP4 : P ≤ 4) {kk : jH → Option (Int32 × jH)} {fl : Int32} (hfl : fl = if a = nI 3 then nI 1 else nI 0) : ∃ J, f_X10_sheet_L43 5000 0 a n f st fl kk 5000 (nI 0) (hp q ρ L I) = kk (hp q ρ L J) ∧ XS 19 (puA C (shv a n f st)) P J ∧ ∀ b, b ≠ 21 → J b = I b := by
  obtain ⟨J, e1, e2, e3⟩ := loE (fun m (s : pI) j => f_X10_sheet_L43 5000 0 a n f st fl kk m (nI j) (hp q ρ L s)) (fun s => kk (hp q ρ L s)) P (fun j s => (∀ i, i < j → s 21 i = nI (shv a n f st i)) ∧ ∀ c, c ≠ 21 → s c = I c) (by
    intro m s p
    have e : s 0 18 = nI P := by rw [p.2 0 (by omega)]; exact hP
    rw [f_X10_sheet_L43]
    simp (disch := first | omega | assumption) only [↓bX, ↓bXA, ↓jn_, ↓ob_, ↓b2_, ↓reduceIte, nn_lt, nn_le, nn_eq, nI_add, pk_mul, nn_su, gn_lt, gn_le, ng_lt, ng_le, ng_eq, gn_eq, gg_eq, n_m1, n_cl, if_true, if_false, if_pos, if_neg, lt0, e, Nat.le_refl]) (by
    intro m s j hj p
    obtain ⟨p1, p2⟩ := p
    have e : s 0 18 = nI P := by rw [p2 0 (by omega)]; exact hP
    refine ⟨j_up s 21 j (nI (shv a n f st j)), ?_, fun i hi => ?_, fun c hc => ?_⟩
    · rw [f_X10_sheet_L43]
      by_cases h3 : a = nI 3
      · simp (disch := first | omega | assumption) only [↓bX, ↓bXA, ↓jn_, ↓ob_, ↓b2_, ↓reduceIte, nn_lt, nn_le, nn_eq, nI_add, pk_mul, nn_su, gn_lt, gn_le, ng_lt, ng_le, ng_eq, gn_eq, gg_eq, n_m1, n_cl, if_true, if_false, if_pos, if_neg, lt0, e, hfl, h3, shv]
      · by_cases h4 : nI j < n
        · simp (disch := first | omega | assumption) only [↓bX, ↓bXA, ↓jn_, ↓ob_, ↓b2_, ↓reduceIte, nn_lt, nn_le, nn_eq, nI_add, pk_mul, nn_su, gn_lt, gn_le, ng_lt, ng_le, ng_eq, gn_eq, gg_eq, n_m1, n_cl, if_true, if_false, if_pos, if_neg, lt0, e, hfl, h3, h4, x_entry, x_btw9, shv]
        · simp (disch := first | omega | assumption) only [↓bX, ↓bXA, ↓jn_, ↓ob_, ↓b2_, ↓reduceIte, nn_lt, nn_le, nn_eq, nI_add, pk_mul, nn_su, gn_lt, gn_le, ng_lt, ng_le, ng_eq, gn_eq, gg_eq, n_m1, n_cl, if_true, if_false, if_pos, if_neg, lt0, e, hfl, h3, h4, shv]
    · by_cases h : i = j
      · subst h
        exact up_eq
      · rw [up_nk h]
        exact p1 i (by omega)
    · rw [up_ne hc]
      exact p2 c hc) P 5000 I 0 (by omega) (by omega) ⟨fun k hk => absurd hk (Nat.not_lt_zero k), fun c _ => rfl⟩
  refine ⟨J, e1, ⟨⟨by rw [e3 _ (by omega)]; exact hC.1.1, by rw [e3 _ (by omega)]; exact hC.1.2⟩, fun t ht => ⟨by rw [e3 _ (by omega)]; exact (hC.2.1 t ht).1, e2 t ht, by rw [e3 _ (by omega)]; exact (hC.2.1 t ht).2.2⟩, fun k hk => by rw [e3 _ (by omega)]; exact hC.2.2 k hk⟩, e3⟩
theorem st_s {f st : Int32} {j : Nat} : f + nI j * st + st = f + nI (j + 1) * st := by
  rw [← nI_add, Int32.add_mul, show nI 1 * st = st from Int32.one_mul st, Int32.add_assoc]
theorem m_sheetL {q : pQ} {ρ : pP} {L : pL} {I : pI} {a n f st : Int32} {C : gC} {P : Nat} (hC : MS 130 0 C P I) (hP : I 129 6 = nI P) (hP4 : P ≤ 4) {kk : Int32 → jH → Option (Int32 × jH)} : ∃ J, f_X11_sheet_L42 5000 129 a n st kk 5000 (nI 0) f (nI 0) (hp q ρ L I) = kk (sumP (puA C (shv a n f st)) P) (hp q ρ L J) ∧ MS 130 0 (puA C (shv a n f st)) P J ∧ ∀ b, b ≠ 130 → J b = I b := by
  obtain ⟨⟨s, v, J⟩, e1, e2, e3, e4, e5, e6⟩ := loE (fun m (z : Int32 × Int32 × pI) j => f_X11_sheet_L42 5000 129 a n st kk m z.1 z.2.1 (nI j) (hp q ρ L z.2.2)) (fun z => kk z.1 (hp q ρ L z.2.2)) P (fun j z => z.1 = sumP (puA C (shv a n f st)) j ∧ z.2.1 = f + nI j * st ∧ (∀ i, i < j → z.2.2 130 (4 + i) = nI (shv a n f st i)) ∧ (∀ k, k < 4 ∨ 4 + P ≤ k → z.2.2 130 k = I 130 k) ∧ ∀ c, c ≠ 130 → z.2.2 c = I c) (by
    rintro m ⟨s, v, J⟩ ⟨p1, p2, p3, p4, p5⟩
    simp only [] at p5
    have e : J 129 6 = nI P := by rw [p5 129 (by omega)]; exact hP
    simp only []
    rw [f_X11_sheet_L42]
    simp (disch := first | omega | assumption) only [↓bM, ↓bMA, ↓jn_, ↓ob_, ↓b2_, ↓reduceIte, nn_lt, nn_le, nn_eq, nI_add, pk_mul, nn_su, gn_lt, gn_le, ng_lt, ng_le, ng_eq, gn_eq, gg_eq, n_m1, n_cl, if_true, if_false, if_pos, if_neg, lt0, e, Nat.le_refl]) (by
    rintro m ⟨s, v, J⟩ j hj ⟨p1, p2, p3, p4, p5⟩
    simp only [] at p1 p2 p3 p4 p5
    have e : J 129 6 = nI P := by rw [p5 129 (by omega)]; exact hP
    refine ⟨(s + nI (shv a n f st j), v + st, j_up J 130 (4 + j) (nI (shv a n f st j))), ?_, ?_, ?_, fun i hi => ?_, fun k hk => ?_, fun c hc => ?_⟩
    · simp only []
      rw [f_X11_sheet_L42]
      have sh3 : a = nI 3 → shv a n f st j = 0 := fun h => if_pos h
      by_cases h0 : a = nI 0
      · have h3 : ¬ a = nI 3 := by rw [h0]; decide
        by_cases h4 : nI j < n
        · have e7 : shv a n f st j = cl9 (v.toInt8.toInt32) := by rw [shv, if_neg h3, if_pos h4, ent, if_pos h0, p2]
          rw [e7]
          simp (disch := first | omega | assumption) only [↓bM, ↓bMA, ↓jn_, ↓ob_, ↓b2_, ↓reduceIte, nn_lt, nn_le, nn_eq, nI_add, pk_mul, nn_su, gn_lt, gn_le, ng_lt, ng_le, ng_eq, gn_eq, gg_eq, n_m1, n_cl, if_true, if_false, if_pos, if_neg, lt0, e, h0, h4, m_clamp9, up_eq]
        · have e7 : shv a n f st j = 0 := by rw [shv, if_neg h3, if_neg h4]
          rw [e7]
          simp (disch := first | omega | assumption) only [↓bM, ↓bMA, ↓jn_, ↓ob_, ↓b2_, ↓reduceIte, nn_lt, nn_le, nn_eq, nI_add, pk_mul, nn_su, gn_lt, gn_le, ng_lt, ng_le, ng_eq, gn_eq, gg_eq, n_m1, n_cl, if_true, if_false, if_pos, if_neg, lt0, e, h0, h4, up_eq]
      · by_cases h1 : a = nI 1
        · have h3 : ¬ a = nI 3 := by rw [h1]; decide
          by_cases h4 : nI j < n
          · have e7 : shv a n f st j = cl9 (v.toInt16.toInt32) := by rw [shv, if_neg h3, if_pos h4, ent, if_neg h0, if_pos h1, p2]
            rw [e7]
            simp (disch := first | omega | assumption) only [↓bM, ↓bMA, ↓jn_, ↓ob_, ↓b2_, ↓reduceIte, nn_lt, nn_le, nn_eq, nI_add, pk_mul, nn_su, gn_lt, gn_le, ng_lt, ng_le, ng_eq, gn_eq, gg_eq, n_m1, n_cl, if_true, if_false, if_pos, if_neg, lt0, e, h1, h4, m_clamp9, up_eq]
          · have e7 : shv a n f st j = 0 := by rw [shv, if_neg h3, if_neg h4]
            rw [e7]
            simp (disch := first | omega | assumption) only [↓bM, ↓bMA, ↓jn_, ↓ob_, ↓b2_, ↓reduceIte, nn_lt, nn_le, nn_eq, nI_add, pk_mul, nn_su, gn_lt, gn_le, ng_lt, ng_le, ng_eq, gn_eq, gg_eq, n_m1, n_cl, if_true, if_false, if_pos, if_neg, lt0, e, h1, h4, up_eq]
        · by_cases h3 : a = nI 3
          · rw [sh3 h3]
            simp (disch := first | omega | assumption) only [↓bM, ↓bMA, ↓jn_, ↓ob_, ↓b2_, ↓reduceIte, nn_lt, nn_le, nn_eq, nI_add, pk_mul, nn_su, gn_lt, gn_le, ng_lt, ng_le, ng_eq, gn_eq, gg_eq, n_m1, n_cl, if_true, if_false, if_pos, if_neg, lt0, e, h3, up_eq]
          · by_cases h4 : nI j < n
            · have e7 : shv a n f st j = cl9 v := by rw [shv, if_neg h3, if_pos h4, ent, if_neg h0, if_neg h1, p2]
              rw [e7]
              simp (disch := first | omega | assumption) only [↓bM, ↓bMA, ↓jn_, ↓ob_, ↓b2_, ↓reduceIte, nn_lt, nn_le, nn_eq, nI_add, pk_mul, nn_su, gn_lt, gn_le, ng_lt, ng_le, ng_eq, gn_eq, gg_eq, n_m1, n_cl, if_true, if_false, if_pos, if_neg, lt0, e, h0, h1, h3, h4, m_clamp9, up_eq]
            · have e7 : shv a n f st j = 0 := by rw [shv, if_neg h3, if_neg h4]
              rw [e7]
              simp (disch := first | omega | assumption) only [↓bM, ↓bMA, ↓jn_, ↓ob_, ↓b2_, ↓reduceIte, nn_lt, nn_le, nn_eq, nI_add, pk_mul, nn_su, gn_lt, gn_le, ng_lt, ng_le, ng_eq, gn_eq, gg_eq, n_m1, n_cl, if_true, if_false, if_pos, if_neg, lt0, e, h0, h1, h3, h4, up_eq]
    · simp only []
      unfold sumP
      rw [fo_last, Nat.zero_add, p1]
      rfl
    · simp only []
      rw [p2, st_s]
    · simp only []
      by_cases h : i = j
      · subst h
        exact up_eq
      · rw [up_nk (by omega)]
        exact p3 i (by omega)
    · simp only []
      rw [up_nk (by omega)]
      exact p4 k hk
    · simp only []
      rw [up_ne hc]
      exact p5 c hc) P 5000 (nI 0, f, I) 0 (by omega) (by omega) ⟨rfl, by show f = f + nI 0 * st; rw [show nI 0 * st = 0 from Int32.zero_mul, Int32.add_zero], fun k hk => absurd hk (Nat.not_lt_zero k), fun k _ => rfl, fun c _ => rfl⟩
  simp only [] at e1 e2 e3 e4 e5 e6
  refine ⟨J, by rw [e1, e2], ⟨⟨by rw [e5 _ (by omega)]; exact hC.1.1, by rw [e5 _ (by omega)]; exact hC.1.2⟩, fun t ht => ⟨by rw [e5 _ (by omega)]; exact (hC.2.1 t ht).1, by rw [Nat.zero_add]; exact e4 t ht, by rw [e5 _ (by omega)]; exact (hC.2.1 t ht).2.2⟩, fun k hk => by rw [e5 _ (by omega)]; exact hC.2.2 k hk⟩, e6⟩
theorem k_sheet (a b c d : Int32) : ∀ G, Wr G → ∃ v G', Wr G' ∧ XH (f_X10_sheet 5000 0 a b c d) G v G' ∧ MH (f_X11_sheet 5000 129 a b c d) G v G' := by
  intro G hG
  have hG' := hG
  obtain ⟨w1, w2, w3, w4, w5, w6, w7, w8, w9⟩ := hG
  have fin : ∀ v, (∀ q ρ L I, Xr G ρ L I → f_X10_sheet 5000 0 a b c d (hp q ρ L I) = some (v, hp q ρ L I)) → (∀ t q ρ L I, Mr t G ρ L I → Ms t G ρ (j_up I 129 13 (nI 0)) → f_X11_sheet 5000 129 a b c d (hp q ρ L I) = some (v, hp q ρ L (j_up I 129 13 (nI 0)))) → ∃ v G', Wr G' ∧ XH (f_X10_sheet 5000 0 a b c d) G v G' ∧ MH (f_X11_sheet 5000 129 a b c d) G v G' :=
    fun v hx hm => ⟨v, G, hG', XH_0 hx, MH_0 (fun t q ρ L I h => hm t q ρ L I h (Ms_0 h.1))⟩
  rcases ixo a 4 (by omega) with h | ⟨k, hk, rfl⟩
  · refine fin (-nI 1) ?_ ?_
    · intro q ρ L I _
      rcases h with h | ⟨h1, h2⟩
      · simp (disch := first | omega | assumption) only [f_X10_sheet, ↓bX, ↓bXA, ↓jn_, ↓ob_, ↓b2_, ↓reduceIte, nn_lt, nn_le, nn_eq, nI_add, pk_mul, nn_su, gn_lt, gn_le, ng_lt, ng_le, ng_eq, gn_eq, gg_eq, n_m1, n_cl, if_true, if_false, if_pos, if_neg, lt0, h]
      · obtain ⟨j1, j2, j3⟩ := i_9999 (n := 3) (by omega) h1 h2
        simp (disch := first | omega | assumption) only [f_X10_sheet, ↓bX, ↓bXA, ↓jn_, ↓ob_, ↓b2_, ↓reduceIte, nn_lt, nn_le, nn_eq, nI_add, pk_mul, nn_su, gn_lt, gn_le, ng_lt, ng_le, ng_eq, gn_eq, gg_eq, n_m1, n_cl, if_true, if_false, if_pos, if_neg, lt0, h1, j3]
    · intro t q ρ L I _ _
      simp (disch := first | omega | assumption) only [f_X11_sheet, ↓bM, ↓bMA, ↓jn_, ↓ob_, ↓b2_, ↓reduceIte, nn_lt, nn_le, nn_eq, nI_add, pk_mul, nn_su, gn_lt, gn_le, ng_lt, ng_le, ng_eq, gn_eq, gg_eq, n_m1, n_cl, if_true, if_false, if_pos, if_neg, lt0, m_inO (n := 3) (by omega) h]
  by_cases hb : b ≤ nI 4
  · have h3 : nI k = nI 3 ∨ k < 3 := by
      by_cases h : k = 3
      · left; rw [h]
      · right; omega
    by_cases hneg : k < 3 ∧ ¬ nI 0 ≤ b
    · obtain ⟨hk3, hn⟩ := hneg
      refine fin (-nI 2) ?_ ?_
      · intro q ρ L I _
        simp (disch := first | omega | assumption) only [f_X10_sheet, ↓bX, ↓bXA, ↓jn_, ↓ob_, ↓b2_, ↓reduceIte, nn_lt, nn_le, nn_eq, nI_add, pk_mul, nn_su, gn_lt, gn_le, ng_lt, ng_le, ng_eq, gn_eq, gg_eq, n_m1, n_cl, if_true, if_false, if_pos, if_neg, lt0, hb, hn]
      · intro t q ρ L I _ _
        simp (disch := first | omega | assumption) only [f_X11_sheet, ↓bM, ↓bMA, ↓jn_, ↓ob_, ↓b2_, ↓reduceIte, nn_lt, nn_le, nn_eq, nI_add, pk_mul, nn_su, gn_lt, gn_le, ng_lt, ng_le, ng_eq, gn_eq, gg_eq, n_m1, n_cl, if_true, if_false, if_pos, if_neg, lt0, m_in, hb, hn]
    · refine ⟨if k = 3 then -nI 3 else sumP (puA (gN G) (shv (nI k) b c d)) (gP G), sRw (sUn (sN G (puA (gN G) (shv (nI k) b c d))) (gUn G)) (gRw G), ⟨w1, w2, w3, w4, fun t ht => ⟨(w5 t ht).1, shv_le _ _ _ _ _⟩, w6, w7, w8, w9⟩, XH_s _ _ _ ?_, MH_s _ _ _ ?_⟩
      · rintro q ρ L I ⟨⟨hT, hL, hD, hP, hS, hU, hK, hR, hρ⟩, hW⟩
        by_cases h : k = 3
        · subst h
          obtain ⟨J, e1, e2, e3⟩ := x_sheetL (q := q) (ρ := ρ) (L := L) (a := nI 3) (n := b) (f := c) (st := d) hS hP.1 w4.1 (kk := fun (h19 : jH) => if nI 1 = nI 0 then j_b2 (f_X10_pursesInAll 5000 0 h19) (fun v21 h20 => some (v21, h20)) else some (-nI 3, h19)) (fl := nI 1) (by rw [if_pos rfl])
          refine ⟨L, J, ?_, Fr_26 (fun a ha => e3 a (by omega)), rfl, ?_, e2, XU_k (fun b _ _ => e3 b (by omega)) hU⟩
          · rw [f_X10_sheet]
            simp (disch := first | omega | assumption) only [↓bX, ↓jn_, lt0, hb, nn_lt, if_true, if_false, if_neg, nn_eq] at e1 ⊢
            rw [e1]
          · unfold XW at hW ⊢
            rw [e3 3 (by omega)]
            exact hW
        · have h0 : nI 0 ≤ b := Classical.byContradiction (fun h' => hneg ⟨by omega, h'⟩)
          obtain ⟨J, e1, e2, e3⟩ := x_sheetL (q := q) (ρ := ρ) (L := L) (a := nI k) (n := b) (f := c) (st := d) hS hP.1 w4.1 (kk := fun (h19 : jH) => if nI 0 = nI 0 then j_b2 (f_X10_pursesInAll 5000 0 h19) (fun v21 h20 => some (v21, h20)) else some (-nI 3, h19)) (fl := nI 0) (by rw [if_neg (by rw [nn_eq (by omega) (by omega)]; omega)])
          have e4 := x_purses (q := q) (ρ := ρ) (L := L) e2 (by rw [e3 0 (by omega)]; exact hP.1) w4.1
          refine ⟨L, J, ?_, Fr_26 (fun a ha => e3 a (by omega)), rfl, ?_, e2, XU_k (fun b _ _ => e3 b (by omega)) hU⟩
          · rw [f_X10_sheet]
            simp (disch := first | omega | assumption) only [↓bX, ↓jn_, lt0, hb, h0, nn_lt, if_true, if_false, if_neg, nn_eq] at e1 ⊢
            rw [e1, e4, b2]
          · unfold XW at hW ⊢
            rw [e3 3 (by omega)]
            exact hW
      · rintro t q ρ L I ⟨hM, hW⟩
        obtain ⟨hT, hL, hD, hP, hS, hU, hK, hR⟩ := Ms_0 (x := nI 0) hM
        obtain ⟨J, e1, e2, e3⟩ := m_sheetL (q := q) (ρ := ρ) (L := L) (a := nI k) (n := b) (f := c) (st := d) hS hP.1 w4.1 (kk := fun y19 h20 => if nI k = nI 3 then some (-nI 3, h20) else some (y19, h20))
        refine ⟨ρ, L, J, ?_, fun b k e => ?_, ⟨rfl, rfl, rfl⟩, rfl, ?_, e2, MU_k (by rw [e3 129 (by omega)]) (e3 144 (by omega)) hU⟩
        · rw [f_X11_sheet]
          by_cases h : k = 3
          · subst h
            simp (disch := first | omega | assumption) only [↓bM, ↓bMA, ↓jn_, ↓ob_, ↓b2_, ↓reduceIte, nn_lt, nn_le, nn_eq, nI_add, pk_mul, nn_su, gn_lt, gn_le, ng_lt, ng_le, ng_eq, gn_eq, gg_eq, n_m1, n_cl, if_true, if_false, if_pos, if_neg, lt0, m_in, hb]
            simp only [if_true] at e1
            rw [e1]
          · have h0 : nI 0 ≤ b := Classical.byContradiction (fun h' => hneg ⟨by omega, h'⟩)
            simp (disch := first | omega | assumption) only [↓bM, ↓bMA, ↓jn_, ↓ob_, ↓b2_, ↓reduceIte, nn_lt, nn_le, nn_eq, nI_add, pk_mul, nn_su, gn_lt, gn_le, ng_lt, ng_le, ng_eq, gn_eq, gg_eq, n_m1, n_cl, if_true, if_false, if_pos, if_neg, lt0, m_in, hb, h0]
            simp (disch := first | omega | assumption) only [nn_eq, if_neg h] at e1
            rw [e1]
        · by_cases h0 : b = 130
          · subst h0; cases e
          · rw [e3 b h0]
            exact (Fr.up Fr.rf rfl : Fr tO I _) b k e
        · unfold MW at hW ⊢
          rw [e3 129 (by omega), up_nk (by omega)]
          exact hW
  · refine fin (-nI 1) ?_ ?_
    · intro q ρ L I _
      simp (disch := first | omega | assumption) only [f_X10_sheet, ↓bX, ↓bXA, ↓jn_, ↓ob_, ↓b2_, ↓reduceIte, nn_lt, nn_le, nn_eq, nI_add, pk_mul, nn_su, gn_lt, gn_le, ng_lt, ng_le, ng_eq, gn_eq, gg_eq, n_m1, n_cl, if_true, if_false, if_pos, if_neg, lt0, hb]
    · intro t q ρ L I _ _
      simp (disch := first | omega | assumption) only [f_X11_sheet, ↓bM, ↓bMA, ↓jn_, ↓ob_, ↓b2_, ↓reduceIte, nn_lt, nn_le, nn_eq, nI_add, pk_mul, nn_su, gn_lt, gn_le, ng_lt, ng_le, ng_eq, gn_eq, gg_eq, n_m1, n_cl, if_true, if_false, if_pos, if_neg, lt0, m_in, hb]
