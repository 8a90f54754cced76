theorem b_ushr (n : Nat) (hn : n < 32) (x : Int32) (i : Nat) : bt ((x.toUInt32 >>> ((nI n).toUInt32 &&& Int32.toUInt32 31)).toInt32) i = bt x (n + i) := by
  show (x.toUInt32 >>> ((nI n).toUInt32 &&& Int32.toUInt32 31)).toBitVec.getLsbD i = x.toUInt32.toBitVec.getLsbD (n + i)
  rw [UInt32.toBitVec_shiftRight]
  show (x.toUInt32.toBitVec >>> (((nI n).toUInt32 &&& Int32.toUInt32 31).toBitVec % 32).toNat).getLsbD i = _
  rw [s_u n hn, BitVec.getLsbD_ushiftRight]

theorem XH_0 {fX : jH → Option (Int32 × jH)} {G : gG} {v : Int32} (h : ∀ q ρ L I, Xr G ρ L I → fX (hp q ρ L I) = some (v, hp q ρ L I)) : XH fX G v G := by
  intro q ρ L I hq hX
  exact ⟨q, ρ, L, I, h q ρ L I hX, hX, ⟨rfl, rfl, fun _ _ _ => rfl⟩, Nat.le_refl _, Nat.le_succ _, Nat.le_add_right _ _⟩
theorem MH_0 {fM : jH → Option (Int32 × jH)} {G : gG} {v : Int32} (h : ∀ t q ρ L I, Mr t G ρ L I → fM (hp q ρ L I) = some (v, hp q ρ L (j_up I 129 13 (nI 0)))) : MH fM G v G := by
  intro t q ρ L I ht hM
  refine ⟨ρ, L, _, h t q ρ L I hM, ⟨Ms_fr (Fr.up Fr.rf rfl) rfl hM.1, ?_⟩, ⟨rfl, rfl⟩, rfl, fun b hb => up_ne (by omega)⟩
  have := hM.2
  unfold MW at this ⊢
  rw [up_nk (by omega)]
  exact this
theorem XT_k {g : gT} {I J : pI} (e1 : J 1 1 = I 1 1) (e2 : J 2 = I 2) (h : XT g I) : XT g J := by
  unfold XT
  rw [e1, e2]
  exact h
theorem XL_k {g : gL} {I J : pI} (e : ∀ b, 5 ≤ b → b ≤ 11 → J b = I b) (h : XL g I) : XL g J := by
  unfold XL
  rw [e 5 (by omega) (by omega), e 6 (by omega) (by omega), e 7 (by omega) (by omega), e 8 (by omega) (by omega), e 9 (by omega) (by omega), e 10 (by omega) (by omega), e 11 (by omega) (by omega)]
  exact h
theorem XD_k {g : gD} {I J : pI} (e : ∀ b, 13 ≤ b → b ≤ 17 → J b = I b) (h : XD g I) : XD g J := by
  unfold XD
  rw [e 13 (by omega) (by omega), e 14 (by omega) (by omega), e 15 (by omega) (by omega), e 16 (by omega) (by omega), e 17 (by omega) (by omega)]
  exact h
theorem XU_k {g : gU} {P : Nat} {I J : pI} (e : ∀ b, 24 ≤ b → b ≤ 90 → J b = I b) (h : XU g P I) : XU g P J := by
  obtain ⟨o, a1, a2, a3, a4⟩ := h
  exact ⟨o, a1, by rw [e 24 (by omega) (by omega)]; exact a2, by rw [e 24 (by omega) (by omega)]; exact a3, fun i hi => XS_k (fun j hj => e _ (by omega) (by omega)) (a4 i hi)⟩
theorem XK_k {g : gK} {P : Nat} {I J : pI} (e : ∀ b, 91 ≤ b → b ≤ 102 → J b = I b) (h : XK g P I) : XK g P J := by
  intro i hi
  obtain ⟨b1, b2⟩ := h i hi
  rw [e 102 (by omega) (by omega)]
  exact ⟨b1, fun C hC => ⟨(b2 C hC).1, XS_k (fun j hj => e _ (by omega) (by omega)) (b2 C hC).2⟩⟩
theorem XR_k {ρ : pP} {g : gT} {I J : pI} (e : ∀ b, 119 ≤ b → b < 129 → J b = I b) (h : XR ρ g I) : XR ρ g J := by
  obtain ⟨c1, c2⟩ := h
  have hA : 119 ≤ ρ.1.1 ∧ ρ.1.1 < 127 := by rcases c1 with c1 | c1 <;> rw [c1] <;> decide
  unfold XR
  rw [e _ (by omega) (by omega), e _ (by omega) (by omega)]
  exact ⟨c1, c2⟩
theorem MT_k {g : gT} {I J : pI} (e1 : J 129 10 = I 129 10) (e2 : J 135 = I 135) (h : MT g I) : MT g J := by
  unfold MT
  rw [e1, e2]
  exact h
theorem ML_k {g : gL} {I J : pI} (e0 : J 129 2 = I 129 2) (e1 : J 131 = I 131) (e2 : J 132 = I 132) (e3 : J 133 = I 133) (h : ML g I) : ML g J := by
  unfold ML
  rw [e0, e1, e2, e3]
  exact h
theorem MD_k {g : gD} {I J : pI} (e0 : J 129 7 = I 129 7) (e1 : J 134 = I 134) (h : MD g I) : MD g J := by
  unfold MD
  rw [e0, e1]
  exact h
theorem MU_k {g : gU} {P : Nat} {I J : pI} (e0 : J 129 29 = I 129 29) (e1 : J 144 = I 144) (h : MU g P I) : MU g P J := by
  unfold MU MS
  rw [e0, e1]
  exact h
theorem MK_k {g : gK} {P t t' : Nat} {I J : pI} (ht : t ≤ t') (e0 : J 129 52 = I 129 52) (e1 : J 158 = I 158) (e2 : J 159 = I 159) (e3 : J 160 = I 160) (h : MK g P t I) : MK g P t' J := by
  obtain ⟨cm, c1, c2, c3⟩ := h
  refine ⟨cm, by omega, by rw [e0]; exact c2, fun i hi => ?_⟩
  obtain ⟨kc, d1, d2, d3, d4, d5⟩ := c3 i hi
  rw [e2, e3]
  exact ⟨kc, d1, d2, d3, d4, fun C hC => ⟨(d5 C hC).1, (d5 C hC).2.1, MS_k e1 (d5 C hC).2.2⟩⟩
theorem MR_k {ρ : pP} {g : gT} {I J : pI} (e0 : J 129 24 = I 129 24) (e1 : J 140 = I 140) (h : MR ρ g I) : MR ρ g J := by
  unfold MR
  rw [e0, e1]
  exact h
/-! END -/
theorem k_end (a : Int32) : ∀ G, Wr G → ∃ v G', Wr G' ∧ XH (f_X10_end 5000 0 a) G v G' ∧ MH (f_X11_end 5000 129 a) G v G' := by
  intro G hG
  obtain ⟨w1, w2, w3, w4, w5, w6, w7, w8, w9⟩ := hG
  have h80 := w1.1
  rcases ixo a ((gTx G).1 + 1) (by omega) with h | ⟨j, hj, rfl⟩
  · refine ⟨nI 0, G, ⟨w1, w2, w3, w4, w5, w6, w7, w8, w9⟩, XH_0 ?_, MH_0 ?_⟩
    · rintro q ρ L I ⟨⟨hT, _⟩, _⟩
      have e := hT.1
      rcases h with h | ⟨h1, h2⟩
      · simp (disch := first | omega | assumption) only [f_X10_end, kX, kXA, ob_, b2_, jn_, nn_lt, nn_le, nn_eq, nI_add, pk_mul, nn_su, gn_lt, gn_le, ng_lt, ng_le, ng_eq, gn_eq, gg_eq, n_m1, n_cl, if_true, if_false, if_pos, if_neg, ite_self, lt0, h]
      · have h3 : ¬ a ≤ nI (gTx G).1 := by
          obtain ⟨i, hi, rfl⟩ := c_lt0 h1
          rw [nn_le (by omega) hi] at h2
          rw [nn_le hi (by omega)]
          omega
        simp (disch := first | omega | assumption) only [f_X10_end, kX, kXA, ob_, b2_, jn_, nn_lt, nn_le, nn_eq, nI_add, pk_mul, nn_su, gn_lt, gn_le, ng_lt, ng_le, ng_eq, gn_eq, gg_eq, n_m1, n_cl, if_true, if_false, if_pos, if_neg, ite_self, lt0, e, h3]
    · rintro t q ρ L I ⟨⟨hT, _⟩, _⟩
      have e := hT.1
      have h3 := m_in0 (n := (gTx G).1 + 1) (by omega) h (hp q ρ L (j_up I 129 13 (nI 0)))
      rw [nn_su (by omega), Nat.add_sub_cancel] at h3
      simp (disch := first | omega | assumption) only [f_X11_end, kM, kMA, ob_, b2_, jn_, nn_lt, nn_le, nn_eq, nI_add, pk_mul, nn_su, gn_lt, gn_le, ng_lt, ng_le, ng_eq, gn_eq, gg_eq, n_m1, n_cl, if_true, if_false, if_pos, if_neg, ite_self, lt0, up_nk, e, h3]
  · refine ⟨nI 1, sTx G (j, (gTx G).2), ⟨⟨by simp only []; omega, fun k hk => w1.2 k (by simp only [] at hk; omega)⟩, w2, w3, w4, w5, w6, w7, w8, w9⟩, ?_, ?_⟩
    · rintro q ρ L I hq ⟨⟨hT, hL, hD, hP, hS, hU, hK, hR, hρ⟩, hW⟩
      have e := hT.1
      refine ⟨q, ρ, L, j_up I 1 1 (nI j), ?_, ⟨⟨⟨up_eq, fun k hk => ?_⟩, XL_k (fun b _ _ => up_ne (by omega)) hL, XD_k (fun b _ _ => up_ne (by omega)) hD, ?_, XS_k (fun i _ => up_ne (by omega)) hS, XU_k (fun b _ _ => up_ne (by omega)) hU, XK_k (fun b _ _ => up_ne (by omega)) hK, XR_k (fun b _ _ => up_ne (by omega)) hR, hρ⟩, ?_⟩, ⟨rfl, rfl, fun b _ _ => up_ne (by omega)⟩, Nat.le_refl _, Nat.le_succ _, Nat.le_add_right _ _⟩
      · simp (disch := first | omega | assumption) only [f_X10_end, kX, kXA, ob_, b2_, jn_, nn_lt, nn_le, nn_eq, nI_add, pk_mul, nn_su, gn_lt, gn_le, ng_lt, ng_le, ng_eq, gn_eq, gg_eq, n_m1, n_cl, if_true, if_false, if_pos, if_neg, ite_self, lt0, e]
      · rw [up_ne (by omega)]
        exact hT.2 k (by simp only [] at hk; omega)
      · rw [up_ne (by omega)]
        exact hP
      · unfold XW
        rw [up_ne (by omega)]
        exact hW
    · rintro t q ρ L I ht ⟨⟨hT, hL, hD, hP, hS, hU, hK, hR⟩, hW⟩
      have e := hT.1
      have h3 := m_in1 (n := (gTx G).1 + 1) (by omega) hj (hp q ρ L (j_up I 129 13 (nI 0)))
      rw [nn_su (by omega), Nat.add_sub_cancel] at h3
      refine ⟨ρ, L, j_up (j_up I 129 13 (nI 0)) 129 10 (nI j), ?_, ⟨⟨⟨up_eq, fun k hk => ?_⟩, ?_⟩, ?_⟩, ⟨rfl, rfl⟩, rfl, fun b hb => ?_⟩
      · simp (disch := first | omega | assumption) only [f_X11_end, kM, kMA, ob_, b2_, jn_, nn_lt, nn_le, nn_eq, nI_add, pk_mul, nn_su, gn_lt, gn_le, ng_lt, ng_le, ng_eq, gn_eq, gg_eq, n_m1, n_cl, if_true, if_false, if_pos, if_neg, ite_self, lt0, up_nk, e, h3]
      · rw [up_ne (by omega), up_ne (by omega)]
        exact hT.2 k (by simp only [] at hk; omega)
      · simp (disch := first | omega | assumption) only [up_nk]
        exact ⟨ML_k (by simp (disch := first | omega | assumption) only [up_nk]) (by simp (disch := first | omega | assumption) only [up_ne]) (by simp (disch := first | omega | assumption) only [up_ne]) (by simp (disch := first | omega | assumption) only [up_ne]) hL, MD_k (by simp (disch := first | omega | assumption) only [up_nk]) (by simp (disch := first | omega | assumption) only [up_ne]) hD, hP, MS_k (by simp (disch := first | omega | assumption) only [up_ne]) hS, MU_k (by simp (disch := first | omega | assumption) only [up_nk]) (by simp (disch := first | omega | assumption) only [up_ne]) hU, MK_k (Nat.le_succ t) (by simp (disch := first | omega | assumption) only [up_nk]) (by simp (disch := first | omega | assumption) only [up_ne]) (by simp (disch := first | omega | assumption) only [up_ne]) (by simp (disch := first | omega | assumption) only [up_ne]) hK, MR_k (by simp (disch := first | omega | assumption) only [up_nk]) (by simp (disch := first | omega | assumption) only [up_ne]) hR⟩
      · unfold MW
        simp (disch := first | omega | assumption) only [up_nk]
        exact hW
      · simp (disch := first | omega | assumption) only [up_ne]
/-! TOLL -/
theorem x_tollL {q : pQ} {ρ : pP} {L : pL} {I : pI} {A : Nat} {v : Int32} {pv : Nat → Nat} (hρ : ρ.1.1 = A) (hA : A = 119 ∨ A = 124) (h : ∀ v, v < 5 → I (A + 1) v = nI (pv v)) (N : Nat) : f_X10_toll_L49 5000 0 v (N + 6) (nI 0) (hp q ρ L (j_up I 3 1 (nI 0))) = some (v, hp q ρ (j_up (j_up (j_up (j_up (j_up L 4 0 (nI (pv 0)).toInt64) 4 1 (nI (pv 1)).toInt64) 4 2 (nI (pv 2)).toInt64) 4 3 (nI (pv 3)).toInt64) 4 4 (nI (pv 4)).toInt64) (j_up I 3 1 (nI 5))) := by
  simp (disch := first | omega | assumption) only [f_X10_toll_L49, ↓bX, ↓bXA, ↓jn_, ↓ob_, ↓b2_, ↓reduceIte, nn_lt, nn_le, nn_eq, nI_add, pk_mul, nn_su, gn_lt, gn_le, ng_lt, ng_le, ng_eq, gn_eq, gg_eq, n_m1, n_cl, if_true, if_false, if_pos, if_neg, lt0, ↓hρ, kT hA, ob_, up_ne, h, x_add]
theorem m_tollL38 {q : pQ} {ρ : pP} {L : pL} {I : pI} {v : Int32} {pv : Nat → Nat} (h : ∀ v, v < 5 → I 143 v = nI (pv v)) (N : Nat) : f_X11_toll_L38 5000 129 v (N + 6) (nI 0) (hp q ρ L (j_up I 129 12 (nI 0))) = some (v, hp q ρ (j_up (j_up (j_up (j_up (j_up L 136 0 (nI (pv 0)).toInt64) 136 1 (nI (pv 1)).toInt64) 136 2 (nI (pv 2)).toInt64) 136 3 (nI (pv 3)).toInt64) 136 4 (nI (pv 4)).toInt64) (j_up I 129 12 (nI 5))) := by
  simp (disch := first | omega | assumption) only [f_X11_toll_L38, ↓bM, ↓bMA, ↓jn_, ↓ob_, ↓b2_, ↓reduceIte, nn_lt, nn_le, nn_eq, nI_add, pk_mul, nn_su, gn_lt, gn_le, ng_lt, ng_le, ng_eq, gn_eq, gg_eq, n_m1, n_cl, if_true, if_false, if_pos, if_neg, lt0, up_ne, h, m_tell]
theorem row5 {L : pL} {a : Nat} {pv : Nat → Int64} : ∀ i, i < 5 → j_up (j_up (j_up (j_up (j_up L a 0 (pv 0)) a 1 (pv 1)) a 2 (pv 2)) a 3 (pv 3)) a 4 (pv 4) a i = pv i := by
  intro i hi
  have : i = 0 ∨ i = 1 ∨ i = 2 ∨ i = 3 ∨ i = 4 := by omega
  rcases this with rfl | rfl | rfl | rfl | rfl <;> simp (disch := first | omega | assumption) only [up_nk, up_eq]
theorem MR_Ru {ρ : pP} {g : gT} {I : pI} (h : MR ρ g I) : Ru ρ 140 g I := ⟨by rw [h.1], .inl rfl, h.2.1, h.2.2⟩
theorem XR_Tf {ρ : pP} {g : gT} {I : pI} (h : XR ρ g I) : (ρ.1.1 = 119 ∨ ρ.1.1 = 124) ∧ Tf ρ.1.1 (cmp g) I := ⟨by rcases h.1 with e | e <;> rw [e] <;> simp, h.2⟩
theorem k_toll (a b : Int32) : ∀ G, Wr G → ∃ v G', Wr G' ∧ XH (f_X10_toll 5000 0 a b) G v G' ∧ MH (f_X11_toll 5000 129 a b) G v G' := by
  intro G hG
  have hG' := hG
  obtain ⟨w1, w2, w3, w4, w5, w6, w7, w8, w9⟩ := hG
  have h10 := w2.1
  rcases ixo a (lxW (gLx G)) (by omega) with h | ⟨w, hw, rfl⟩
  · refine ⟨-nI 1, G, hG', XH_0 ?_, MH_0 ?_⟩
    · rintro q ρ L I ⟨⟨hT, hL, hD, hP, hS, hU, hK, hR, hρ⟩, hW⟩
      simp (disch := first | omega | assumption) only [f_X10_toll, ↓bX, ↓bXA, ↓jn_, ↓ob_, ↓b2_, ↓reduceIte, nn_lt, nn_le, nn_eq, nI_add, pk_mul, nn_su, gn_lt, gn_le, ng_lt, ng_le, ng_eq, gn_eq, gg_eq, n_m1, n_cl, if_true, if_false, if_pos, if_neg, lt0, ↓b2e (x_isW0 hL.1 h)]
    · rintro t q ρ L I ⟨⟨hT, hL, hD, hP, hS, hU, hK, hR⟩, hW⟩
      simp (disch := first | omega | assumption) only [f_X11_toll, ↓bM, ↓bMA, ↓jn_, ↓ob_, ↓b2_, ↓reduceIte, nn_lt, nn_le, nn_eq, nI_add, pk_mul, nn_su, gn_lt, gn_le, ng_lt, ng_le, ng_eq, gn_eq, gg_eq, n_m1, n_cl, if_true, if_false, if_pos, if_neg, lt0, ↓b2e (m_isW0 (I := j_up I 129 13 (nI 0)) (by rw [up_nk (by omega)]; exact hL.1) (by omega) h)]
  · rcases ixo b (gS G) (by omega) with h | ⟨s, hs, rfl⟩
    · refine ⟨-nI 1, G, hG', XH_0 ?_, MH_0 ?_⟩
      · rintro q ρ L I ⟨⟨hT, hL, hD, hP, hS, hU, hK, hR, hρ⟩, hW⟩
        simp (disch := first | omega | assumption) only [f_X10_toll, ↓bX, ↓bXA, ↓jn_, ↓ob_, ↓b2_, ↓reduceIte, nn_lt, nn_le, nn_eq, nI_add, pk_mul, nn_su, gn_lt, gn_le, ng_lt, ng_le, ng_eq, gn_eq, gg_eq, n_m1, n_cl, if_true, if_false, if_pos, if_neg, lt0, ↓b2e (x_isW1 hL.1 (by omega) hw), ↓b2e (x_isS0 hP.2 h)]
      · rintro t q ρ L I ⟨⟨hT, hL, hD, hP, hS, hU, hK, hR⟩, hW⟩
        simp (disch := first | omega | assumption) only [f_X11_toll, ↓bM, ↓bMA, ↓jn_, ↓ob_, ↓b2_, ↓reduceIte, nn_lt, nn_le, nn_eq, nI_add, pk_mul, nn_su, gn_lt, gn_le, ng_lt, ng_le, ng_eq, gn_eq, gg_eq, n_m1, n_cl, if_true, if_false, if_pos, if_neg, lt0, ↓b2e (m_isW1 (I := j_up I 129 13 (nI 0)) (by rw [up_nk (by omega)]; exact hL.1) (by omega) hw), ↓b2e (m_isS0 (I := j_up I 129 13 (nI 0)) (by rw [up_nk (by omega)]; exact hP.2) (by omega) h)]
    · refine ⟨nI (tol (cmp (gRu G)) (gLx G) w s (scH (gN G))), sRw G (5, fun i => (nI (tolV (cmp (gRu G)) (gLx G) w s (scH (gN G)) i)).toInt64), ⟨w1, w2, w3, w4, w5, w6, w7, by simp only []; omega, w9⟩, XH_q _ ?_, MH_q _ ?_⟩
      · rintro q ρ L I ⟨⟨hT, hL, hD, hP, hS, hU, hK, hR, hρ⟩, hW⟩
        obtain ⟨hA, hTf⟩ := XR_Tf hR
        obtain ⟨J, e1, e2, e3⟩ := x_charge (q := q) (ρ := ρ) (L := L) (s := s) (hr := scH (gN G)) hA hTf (cmp_cok w9) hL w2 hw
        refine ⟨ρ, ?L, ?J, ?e, ?f, ⟨rfl, rfl, hρ⟩, ?g, ?h⟩
        case e =>
          rw [f_X10_toll]
          simp (disch := first | omega | assumption) only [↓bX, ↓bXA, ↓jn_, ↓ob_, ↓b2_, ↓reduceIte, nn_lt, nn_le, nn_eq, nI_add, pk_mul, nn_su, gn_lt, gn_le, ng_lt, ng_le, ng_eq, gn_eq, gg_eq, n_m1, n_cl, if_true, if_false, if_pos, if_neg, lt0, ↓b2e (x_isW1 hL.1 (by omega) hw), ↓b2e (x_isS1 hP.2 (by omega) hs), hS.1.1, ↓b2e e1, ↓oe x_clear]
          exact x_tollL rfl hA e2 4994
        case f => exact Fr.up (trf hA e3) rfl
        case g => simp (disch := first | omega | assumption) only [up_ne]
        case h => exact ⟨up_eq, row5 (pv := fun i => (nI (tolV (cmp (gRu G)) (gLx G) w s (scH (gN G)) i)).toInt64)⟩
      · rintro t q ρ L I ⟨⟨hT, hL, hD, hP, hS, hU, hK, hR⟩, hW⟩
        have hR0 := MR_Ru (MR_k (J := j_up I 129 13 (nI 0)) (up_nk (by omega)) (up_ne (by omega)) hR)
        have hL0 := ML_k (J := j_up I 129 13 (nI 0)) (up_nk (by omega)) (up_ne (by omega)) (up_ne (by omega)) (up_ne (by omega)) hL
        obtain ⟨J, z, e1, e2, e3⟩ := m_toll (q := q) (L := L) (s := s) (hr := scH (gN G)) hR0 w9 hL0 w2 hw
        have h12 : I 130 12 = scH (gN G) := hS.1.1
        refine ⟨rr ρ z, ?L2, ?J2, ?e, ?f, ⟨rfl, rfl, rfl⟩, ?g, ?h⟩
        case e =>
          rw [f_X11_toll]
          simp (disch := first | omega | assumption) only [↓bM, ↓bMA, ↓jn_, ↓ob_, ↓b2_, ↓reduceIte, nn_lt, nn_le, nn_eq, nI_add, pk_mul, nn_su, gn_lt, gn_le, ng_lt, ng_le, ng_eq, gn_eq, gg_eq, n_m1, n_cl, if_true, if_false, if_pos, if_neg, lt0, ↓b2e (m_isW1 (I := j_up I 129 13 (nI 0)) (by rw [up_nk (by omega)]; exact hL.1) (by omega) hw), ↓b2e (m_isS1 (I := j_up I 129 13 (nI 0)) (by rw [up_nk (by omega)]; exact hP.2) (by omega) hs), f_X11_tollNow, up_ne, h12, e1]
          exact m_tollL38 e2 4994
        case f => exact Fr.up (Fr.tr (Fr.up Fr.rf rfl) (tTo_N e3)) rfl
        case g => simp (disch := first | omega | assumption) only [up_ne]
        case h => exact ⟨up_eq, row5 (pv := fun i => (nI (tolV (cmp (gRu G)) (gLx G) w s (scH (gN G)) i)).toInt64)⟩
