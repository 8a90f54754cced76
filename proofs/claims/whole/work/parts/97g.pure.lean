/-! TRIP, HASTE -/
theorem tFr_Y {A : Nat} {I J : pI} (hA : A = 119 ∨ A = 124) (h : ∀ b, tT A b → b ≠ 108 → b ≠ 112 → b ≠ 113 → J b = I b) : Fr (tY A) I J := fun b k e => by
  by_cases g : tT A b ∧ b ≠ 108 ∧ b ≠ 112 ∧ b ≠ 113
  · rw [h b g.1 g.2.1 g.2.2.1 g.2.2.2]
  · exfalso
    have : b = A + 1 ∨ b = A + 3 ∨ b = A + 4 ∨ b = 108 ∨ b = 112 ∨ b = 113 := by
      unfold tT at g
      omega
    rcases hA with rfl | rfl <;> rcases this with rfl | rfl | rfl | rfl | rfl | rfl <;> cases e
theorem x_soB {G : gG} (hG : Wr G) {t H : Nat} {x3 : Int32} (ht : t < gP G) : ∀ q ρ L I, Xr G ρ L I → ∃ A B J, ρ.2.1 = (A, B) ∧ ((A = 112 ∧ B = 113) ∨ (A = 113 ∧ B = 112)) ∧ f_X10_soonest 5000 0 (nI t) (nI H) x3 (hp q ρ L I) = f_X10_soonest_L52 5000 0 (nI H) x3 (nI (oW (gDu G) (scD (gN G)) t)) (nI (scP (gN G) t)) 5000 (-nI 1) (nI 0) (hp q ρ L J) ∧ hX (cmp (gRu G)) (gLx G) (gDu G) (gP G) (gS G) (scP (gN G) t) t (scH (gN G)) (scD (gN G)) ρ.1 A B 0 none J ∧ J 108 3 = bc (nI (oW (gDu G) (scD (gN G)) t)) ∧ ∀ b, tT ρ.1.1 b → b ≠ 108 → b ≠ 112 → b ≠ 113 → J b = I b := by
  have wQ := WQ_of hG
  obtain ⟨w1, w2, w3, w4, w5, w6, w7, w8, w9⟩ := hG
  intro q ρ L I hX_
  have hQ := XQ_of hX_.1
  obtain ⟨⟨hT, hL, hD, hP, hS, hU, hK, hR, hρ⟩, hW⟩ := hX_
  have hE := w3.1
  obtain ⟨o1, o2⟩ := oW_e (d := gDu G) (dn := scD (gN G)) (t := t) hE
  have hpl := (w5 t ht).1
  obtain ⟨A, B, hAe, hAB⟩ : ∃ A B, ρ.2.1 = (A, B) ∧ ((A = 112 ∧ B = 113) ∨ (A = 113 ∧ B = 112)) := by
    rcases hρ with e | e
    · exact ⟨112, 113, e, .inl ⟨rfl, rfl⟩⟩
    · exact ⟨113, 112, e, .inr ⟨rfl, rfl⟩⟩
  have hA : A = 112 ∨ A = 113 := by omega
  obtain ⟨J, j1, ⟨j2, j3, j4, j5⟩, j6, j7⟩ := x_begin (q := q) (ρ := ρ) (L := L) (I := I) (O := oW (gDu G) (scD (gN G)) t) hA (by rw [hAe]) o2 w4.2.2 hpl
  have fr : ∀ b, tT ρ.1.1 b → b ≠ 108 → b ≠ 112 → b ≠ 113 → J b = I b := fun b _ b2 b3 b4 => j7 b (by omega) b2
  refine ⟨A, B, J, hAe, hAB, ?_, ⟨fun A' B' r3 => tFr_Q (ρ := (ρ.1, (A', B'), r3)) fr hQ, ?_, ⟨j2, j4, j5⟩, j6⟩, j3, fr⟩
  · have e1 := x_of (q := q) (ρ := ρ) (L := L) (t := t) hD w3 (by omega) (by omega)
    have h191 := hS.1.2
    have h20 := (hS.2.1 t ht).1
    have h17 := hP.2
    have oe' := open_eq (d := gDu G) (dn := scD (gN G)) (t := t) (by omega)
    rw [o1] at oe'
    simp (disch := first | omega | assumption) only [f_X10_soonest, ↓bX, ↓bXA, ↓ob_, lt0, ↓b2e e1, h191, h20, h17, oe', ↓oe j1]
  · rw [j7 19 (by omega) (by omega)]
    exact hS.1.1
theorem k_trip (a b : Int32) : ∀ G, Wr G → ∃ v G', Wr G' ∧ XH (f_X10_trip 5000 0 a b) G v G' ∧ MH (f_X11_trip 5000 129 a b) G v G' := by
  intro G hG
  have hG' := hG
  have wQ := WQ_of hG
  obtain ⟨w1, w2, w3, w4, w5, w6, w7, w8, w9⟩ := hG
  have fin : ∀ v, (∀ q ρ L I, Xr G ρ L I → f_X10_trip 5000 0 a b (hp q ρ L I) = some (v, hp q ρ L I)) → (∀ t q ρ L I, Mr t G ρ L I → Ms t G ρ (j_up I 129 13 (nI 0)) → f_X11_trip 5000 129 a b (hp q ρ L I) = some (v, hp q ρ L (j_up I 129 13 (nI 0)))) → ∃ v G', Wr G' ∧ XH (f_X10_trip 5000 0 a b) G v G' ∧ MH (f_X11_trip 5000 129 a b) G v G' :=
    fun v hx hm => ⟨v, G, hG', XH_0 hx, MH_0 (fun t q ρ L I h => hm t q ρ L I h (Ms_0 h.1))⟩
  rcases ixo a (gP G) (by omega) with h | ⟨t, ht, rfl⟩
  · refine fin (-nI 1) ?_ ?_
    · rintro q ρ L I ⟨⟨hT, hL, hD, hP, hS, hU, hK, hR, hρ⟩, hW⟩
      simp (disch := first | omega | assumption) only [f_X10_trip, ↓bX, ↓bXA, ↓jn_, ↓ob_, ↓b2_, ↓reduceIte, nn_lt, nn_le, nn_eq, nI_add, pk_mul, nn_su, gn_lt, gn_le, ng_lt, ng_le, ng_eq, gn_eq, gg_eq, n_m1, n_cl, if_true, if_false, if_pos, if_neg, lt0, ↓b2e (x_isT0 (q := q) (ρ := ρ) (L := L) hP.1 h)]
    · rintro t q ρ L I hM ⟨hT, hL, hD, hP, hS, hU, hK, hR⟩
      simp (disch := first | omega | assumption) only [f_X11_trip, ↓bM, ↓bMA, ↓jn_, ↓ob_, ↓b2_, ↓reduceIte, nn_lt, nn_le, nn_eq, nI_add, pk_mul, nn_su, gn_lt, gn_le, ng_lt, ng_le, ng_eq, gn_eq, gg_eq, n_m1, n_cl, if_true, if_false, if_pos, if_neg, lt0, ↓b2e (m_isT0 (q := q) (ρ := ρ) (L := L) hP.1 (by omega) h)]
  rcases ixo b 13 (by omega) with h | ⟨H, hH, rfl⟩
  · refine fin (-nI 1) ?_ ?_
    · rintro q ρ L I ⟨⟨hT, hL, hD, hP, hS, hU, hK, hR, hρ⟩, hW⟩
      have e1 := x_isT1 (q := q) (ρ := ρ) (L := L) hP.1 (by omega) ht
      by_cases h0 : b < nI 0
      · simp (disch := first | omega | assumption) only [f_X10_trip, ↓bX, lt0, ↓b2e e1, nn_eq, if_neg, if_false, h0, if_true]
      · have h1 := le_out (n := 12) (by omega) h h0
        simp (disch := first | omega | assumption) only [f_X10_trip, ↓bX, lt0, ↓b2e e1, nn_eq, if_neg, if_false, h0, h1]
    · rintro t' q ρ L I hM ⟨hT, hL, hD, hP, hS, hU, hK, hR⟩
      have e1 := m_isT1 (q := q) (ρ := ρ) (L := L) hP.1 (by omega) ht
      simp (disch := first | omega | assumption) only [f_X11_trip, ↓bM, lt0, ↓b2e e1, nn_eq, if_neg, if_false, ↓b2e (m_inO (n := 12) (by omega) h _), if_true]
  have hpl := (w5 t ht).1
  obtain ⟨o1, o2⟩ := oW_e (d := gDu G) (dn := scD (gN G)) (t := t) w3.1
  obtain ⟨O, hOe⟩ : ∃ O, O = oW (gDu G) (scD (gN G)) t := ⟨_, rfl⟩
  obtain ⟨Z, hZ⟩ : ∃ Z, Z = tHc (cmp (gRu G)) (gLx G) (gDu G) (gS G) (scP (gN G) t) t (scH (gN G)) (scD (gN G)) (H + 1) := ⟨_, rfl⟩
  have ok := tHc_ok (c := cmp (gRu G)) (d := gDu G) (t := t) (hr := scH (gN G)) (dn := scD (gN G)) w2 hpl (H + 1)
  rw [← hZ, ← hOe] at ok
  rw [← hOe] at o1 o2
  have hx : ∀ q ρ L I, Xr G ρ L I → ∃ ρ' J, f_X10_soonest 5000 0 (nI t) (nI H) (nI 0) (hp q ρ L I) = some (eo Z.2.1, hp q ρ' L J) ∧ (ρ'.1 = ρ.1 ∧ ρ'.2.2 = ρ.2.2 ∧ (ρ'.2.1 = (112, 113) ∨ ρ'.2.1 = (113, 112))) ∧ (J 108 2 = nI (om Z.1 1000000) ∧ J 108 3 = bc (nI O)) ∧ Fr (tY ρ.1.1) I J ∧ J 3 = I 3 ∧ (ρ.1.1 = 119 ∨ ρ.1.1 = 124) := by
    intro q ρ L I hX_
    obtain ⟨A, B, J, a1, a2, a3, a4, a5, a6⟩ := x_soB hG' (H := H) (x3 := nI 0) ht q ρ L I hX_
    have hA := (XR_Tf hX_.1.2.2.2.2.2.2.2.1).1
    rcases ρ with ⟨ρ1, ρ2, ρ3⟩
    have a1' : ρ2 = (A, B) := a1
    subst a1'
    obtain ⟨A', B', K, b1, b2, b3, b4, b5⟩ := x_tripL (q := q) (ρ3 := ρ3) (L := L) (H := H) wQ hpl (by omega) (H + 1) 0 5000 A B J (by omega) (by omega) a2 a4
    rw [← hZ] at b1 b3
    have fr := fun b c1 c2 c3 c4 => (b5 b c1 c2 c3 c4).trans (a6 b c1 c2 c3 c4)
    refine ⟨(ρ1, (A', B'), ρ3), K, a3.trans b1, ⟨rfl, rfl, ?_⟩, ⟨b3, by rw [b4, a5, hOe]⟩, tFr_Y hA fr, fr 3 (by unfold tT; omega) (by omega) (by omega) (by omega), hA⟩
    rcases b2 with ⟨rfl, rfl⟩ | ⟨rfl, rfl⟩
    · exact .inl rfl
    · exact .inr rfl
  have hm : ∀ t' q ρ L I, Ms t' G ρ I → ∃ J z, f_X11_leastTrip 5000 129 (nI t) (nI H) (hp q ρ L (j_up I 129 13 (nI 0))) = some (nI (om Z.1 100000000), hp q (rr ρ z) L J) ∧ J 129 42 = eo Z.2.1 ∧ Fr tTp (j_up I 129 13 (nI 0)) J := by
    intro t' q ρ L I hM
    have hM0 := Ms_0 (x := nI 0) hM
    obtain ⟨J, z, a1, a2, a3, a4⟩ := m_least (q := q) (L := L) (H := H) (MQ_of hM0) w9 wQ hM0.2.2.2.2.1 w5 ht (by omega)
    rw [← hZ] at a1 a2
    exact ⟨J, z, a1, a2, a4⟩
  rcases ok with e | ⟨bb, hh, k', c', e, q1, q2, q3, q4⟩
  · refine ⟨-nI 2, sRw G (gRw G), hG', XH_q _ ?_, MH_q _ ?_⟩
    · intro q ρ L I hX_
      obtain ⟨ρ', J, a1, a2, a3, a4, a5, hA⟩ := hx q ρ L I hX_
      rw [e] at a1
      have e1 := x_isT1 (q := q) (ρ := ρ) (L := L) hX_.1.2.2.2.1.1 (by omega) ht
      refine ⟨ρ', L, J, ?_, a4, a2, rfl, ?_⟩
      · simp (disch := first | omega | assumption) only [f_X10_trip, ↓bX, lt0, ↓b2e e1, nn_eq, nn_lt, nn_le, if_neg, if_false, if_pos, if_true, Nat.not_lt_zero, ↓b2e a1, eo_n, ng_le]
      · have hW := hX_.2
        unfold XW at hW ⊢
        rw [a5]
        exact hW
    · rintro t' q ρ L I ⟨hM, hW⟩
      obtain ⟨J, z, a1, a2, a4⟩ := hm t' q ρ L I hM
      rw [e] at a1
      have hP := (Ms_0 (x := nI 0) hM).2.2.2.1
      have e1 := m_isT1 (q := q) (ρ := ρ) (L := L) hP.1 (by omega) ht
      have e2 := m_in H 0 12 (hp q ρ L (j_up I 129 13 (nI 0))) (by omega) (by omega) (by omega)
      rw [if_pos (by omega)] at e2
      refine ⟨rr ρ z, L, J, ?_, Fr.tr (Fr.up Fr.rf rfl) (tTp_N a4), ⟨rfl, rfl, rfl⟩, rfl, ?_⟩
      · simp (disch := first | omega | assumption) only [f_X11_trip, ↓bM, lt0, ↓b2e e1, nn_eq, nn_lt, if_neg, if_false, ↓b2e e2, ↓b2e a1, om_n, Nat.lt_irrefl]
      · unfold MW at hW ⊢
        rw [a4 129 12 rfl, up_nk (by omega)]
        exact hW
  · refine ⟨nI bb, sRw G (2, fun i => if i = 0 then (nI hh).toInt64 else (bc (nI O)).toInt64), ⟨w1, w2, w3, w4, w5, w6, w7, by simp only []; omega, w9⟩, XH_q _ ?_, MH_q _ ?_⟩
    · intro q ρ L I hX_
      obtain ⟨ρ', J, a1, a2, ⟨a3, a3'⟩, a4, a5, hA⟩ := hx q ρ L I hX_
      rw [e] at a1 a3
      have e1 := x_isT1 (q := q) (ρ := ρ) (L := L) hX_.1.2.2.2.1.1 (by omega) ht
      have a3o : J 108 2 = nI bb := a3
      refine ⟨ρ', j_up (j_up L 4 0 (nI hh).toInt64) 4 1 (bc (nI O)).toInt64, j_up J 3 1 (nI 2), ?_, Fr.up a4 (by rcases hA with g | g <;> rw [g] <;> rfl), a2, by rw [up_ne (by omega), up_ne (by omega)], XW_2⟩
      simp (disch := first | omega | assumption) only [f_X10_trip, ↓bX, ↓ob_, lt0, ↓b2e e1, nn_eq, nn_lt, nn_le, if_neg, if_false, if_pos, if_true, Nat.not_lt_zero, Nat.zero_le, ↓b2e a1, eo_s, a3', ↓oe (x_tell2 (q := q) (ρ := ρ') (L := L) (I := J)), up_ne, a3o]
    · rintro t' q ρ L I ⟨hM, hW⟩
      obtain ⟨J, z, a1, a2, a4⟩ := hm t' q ρ L I hM
      rw [e] at a1 a2
      have hM0 := Ms_0 (x := nI 0) hM
      have hP := hM0.2.2.2.1
      have e1 := m_isT1 (q := q) (ρ := ρ) (L := L) hP.1 (by omega) ht
      have e2 := m_in H 0 12 (hp q ρ L (j_up I 129 13 (nI 0))) (by omega) (by omega) (by omega)
      rw [if_pos (by omega)] at e2
      have a2o : J 129 42 = nI hh := a2
      have hQJ := MQ_N (z := z) (tTp_N a4) (MQ_of hM0)
      have h13 := hM0.2.2.2.2.1.1.2
      rw [Nat.zero_add] at h13
      have op := m_openOf (q := q) (ρ := rr ρ z) (L := j_up L 136 0 (nI hh).toInt64) (I := j_up J 129 12 (nI 1)) (t := t) (dn := scD (gN G)) (MD_k (by rw [up_nk (by omega)]) (by rw [up_ne (by omega)]) hQJ.2.2.1) w3 (by omega) (by omega) (by rw [up_ne (by omega), a4 130 13 rfl]; exact h13)
      rw [o1] at op
      refine ⟨rr ρ z, j_up (j_up L 136 0 (nI hh).toInt64) 136 1 (bc (nI O)).toInt64, j_up J 129 12 (nI 2), ?_, Fr.up (Fr.tr (Fr.up Fr.rf rfl) (tTp_N a4)) rfl, ⟨rfl, rfl, rfl⟩, by rw [up_ne (by omega), up_ne (by omega)], MW_2⟩
      simp (disch := first | omega | assumption) only [f_X11_trip, ↓bM, ↓ob_, lt0, ↓b2e e1, nn_eq, nn_lt, if_neg, if_false, if_pos, if_true, ↓b2e e2, ↓b2e a1, om_s, up_nk, a2o, ↓oe (m_tell (q := q) (ρ := rr ρ z) (L := L) (I := J) (r := 0) (v := (nI hh).toInt64) (by omega)), ↓b2e op, ↓b2e (bc_eq _ _), ↓oe (m_tell (q := q) (ρ := rr ρ z) (L := j_up L 136 0 (nI hh).toInt64) (I := J) (r := 1) (v := (bc (nI O)).toInt64) (by omega))]
theorem k_haste (a : Int32) : ∀ G, Wr G → ∃ v G', Wr G' ∧ XH (f_X10_haste 5000 0 a) G v G' ∧ MH (f_X11_haste 5000 129 a) G v G' := by
  intro G hG
  have hG' := hG
  have wQ := WQ_of hG
  obtain ⟨w1, w2, w3, w4, w5, w6, w7, w8, w9⟩ := hG
  have fin : ∀ v, (∀ q ρ L I, Xr G ρ L I → f_X10_haste 5000 0 a (hp q ρ L I) = some (v, hp q ρ L I)) → (∀ t q ρ L I, Mr t G ρ L I → Ms t G ρ (j_up I 129 13 (nI 0)) → f_X11_haste 5000 129 a (hp q ρ L I) = some (v, hp q ρ L (j_up I 129 13 (nI 0)))) → ∃ v G', Wr G' ∧ XH (f_X10_haste 5000 0 a) G v G' ∧ MH (f_X11_haste 5000 129 a) G v G' :=
    fun v hx hm => ⟨v, G, hG', XH_0 hx, MH_0 (fun t q ρ L I h => hm t q ρ L I h (Ms_0 h.1))⟩
  rcases ixo a (gP G) (by omega) with h | ⟨t, ht, rfl⟩
  · refine fin (-nI 1) ?_ ?_
    · rintro q ρ L I ⟨⟨hT, hL, hD, hP, hS, hU, hK, hR, hρ⟩, hW⟩
      simp (disch := first | omega | assumption) only [f_X10_haste, ↓bX, ↓bXA, ↓jn_, ↓ob_, ↓b2_, ↓reduceIte, nn_lt, nn_le, nn_eq, nI_add, pk_mul, nn_su, gn_lt, gn_le, ng_lt, ng_le, ng_eq, gn_eq, gg_eq, n_m1, n_cl, if_true, if_false, if_pos, if_neg, lt0, ↓b2e (x_isT0 (q := q) (ρ := ρ) (L := L) hP.1 h)]
    · rintro t q ρ L I hM ⟨hT, hL, hD, hP, hS, hU, hK, hR⟩
      simp (disch := first | omega | assumption) only [f_X11_haste, ↓bM, ↓bMA, ↓jn_, ↓ob_, ↓b2_, ↓reduceIte, nn_lt, nn_le, nn_eq, nI_add, pk_mul, nn_su, gn_lt, gn_le, ng_lt, ng_le, ng_eq, gn_eq, gg_eq, n_m1, n_cl, if_true, if_false, if_pos, if_neg, lt0, ↓b2e (m_isT0 (q := q) (ρ := ρ) (L := L) hP.1 (by omega) h)]
  have hpl := (w5 t ht).1
  obtain ⟨o1, o2⟩ := oW_e (d := gDu G) (dn := scD (gN G)) (t := t) w3.1
  obtain ⟨Z, hZ⟩ : ∃ Z, Z = tHc (cmp (gRu G)) (gLx G) (gDu G) (gS G) (scP (gN G) t) t (scH (gN G)) (scD (gN G)) (12 + 1) := ⟨_, rfl⟩
  have ok := tHc_ok (c := cmp (gRu G)) (d := gDu G) (t := t) (hr := scH (gN G)) (dn := scD (gN G)) w2 hpl (12 + 1)
  rw [← hZ] at ok
  have hx : ∀ q ρ L I, Xr G ρ L I → ∃ ρ' J v, f_X10_soonest 5000 0 (nI t) (nI 12) (nI 1) (hp q ρ L I) = some (v, hp q ρ' L J) ∧ (ρ'.1 = ρ.1 ∧ ρ'.2.2 = ρ.2.2 ∧ (ρ'.2.1 = (112, 113) ∨ ρ'.2.1 = (113, 112))) ∧ ((Z.2.2 = none ∧ v = -nI 1) ∨ ∃ h y, Z.2.2 = some (h, y) ∧ h ≤ 12 ∧ v = nI h ∧ J 108 2 = nI y) ∧ Fr (tY ρ.1.1) I J ∧ J 3 = I 3 ∧ (ρ.1.1 = 119 ∨ ρ.1.1 = 124) := by
    intro q ρ L I hX_
    obtain ⟨A, B, J, a1, a2, a3, a4, a5, a6⟩ := x_soB hG' (H := 12) (x3 := nI 1) ht q ρ L I hX_
    have hA := (XR_Tf hX_.1.2.2.2.2.2.2.2.1).1
    rcases ρ with ⟨ρ1, ρ2, ρ3⟩
    have a1' : ρ2 = (A, B) := a1
    subst a1'
    obtain ⟨A', B', K, v, b1, b2, b3, b4⟩ := x_hastL (q := q) (ρ3 := ρ3) (L := L) (H := 12) wQ hpl (by omega) (12 + 1) 0 5000 A B J (by omega) (by omega) a2 a4 rfl
    rw [← hZ] at b3
    have fr := fun b c1 c2 c3 c4 => (b4 b c1 c2 c3 c4).trans (a6 b c1 c2 c3 c4)
    refine ⟨(ρ1, (A', B'), ρ3), K, v, a3.trans b1, ⟨rfl, rfl, ?_⟩, b3, tFr_Y hA fr, fr 3 (by unfold tT; omega) (by omega) (by omega) (by omega), hA⟩
    rcases b2 with ⟨rfl, rfl⟩ | ⟨rfl, rfl⟩
    · exact .inl rfl
    · exact .inr rfl
  have hm : ∀ t' q ρ L I, Ms t' G ρ I → ∃ J z, f_X11_leastTrip 5000 129 (nI t) (nI 12) (hp q ρ L (j_up I 129 13 (nI 0))) = some (nI (om Z.1 100000000), hp q (rr ρ z) L J) ∧ FH Z.2.2 J ∧ Fr tTp (j_up I 129 13 (nI 0)) J := by
    intro t' q ρ L I hM
    have hM0 := Ms_0 (x := nI 0) hM
    obtain ⟨J, z, a1, a2, a3, a4⟩ := m_least (q := q) (L := L) (H := 12) (MQ_of hM0) w9 wQ hM0.2.2.2.2.1 w5 ht (by omega)
    rw [← hZ] at a1 a3
    exact ⟨J, z, a1, a3, a4⟩
  rcases ok with e | ⟨bb, hh, k', c', e, q1, q2, q3, q4⟩
  · refine ⟨-nI 2, sRw G (gRw G), hG', XH_q _ ?_, MH_q _ ?_⟩
    · intro q ρ L I hX_
      obtain ⟨ρ', J, v, a1, a2, a3, a4, a5, hA⟩ := hx q ρ L I hX_
      have hv : v = -nI 1 := by
        rcases a3 with a3 | ⟨h, y, g, -⟩
        · exact a3.2
        · rw [e] at g; cases g
      rw [hv] at a1
      have e1 := x_isT1 (q := q) (ρ := ρ) (L := L) hX_.1.2.2.2.1.1 (by omega) ht
      refine ⟨ρ', L, J, ?_, a4, a2, rfl, ?_⟩
      · simp (disch := first | omega | assumption) only [f_X10_haste, ↓bX, lt0, ↓b2e e1, nn_eq, if_neg, if_false, ↓b2e a1, ng_le]
      · have hW := hX_.2
        unfold XW at hW ⊢
        rw [a5]
        exact hW
    · rintro t' q ρ L I ⟨hM, hW⟩
      obtain ⟨J, z, a1, a2, a4⟩ := hm t' q ρ L I hM
      rw [e] at a1
      have hP := (Ms_0 (x := nI 0) hM).2.2.2.1
      have e1 := m_isT1 (q := q) (ρ := ρ) (L := L) hP.1 (by omega) ht
      refine ⟨rr ρ z, L, J, ?_, Fr.tr (Fr.up Fr.rf rfl) (tTp_N a4), ⟨rfl, rfl, rfl⟩, rfl, ?_⟩
      · simp (disch := first | omega | assumption) only [f_X11_haste, ↓bM, lt0, ↓b2e e1, nn_eq, nn_lt, if_neg, if_false, ↓b2e a1, om_n, Nat.lt_irrefl]
      · unfold MW at hW ⊢
        rw [a4 129 12 rfl, up_nk (by omega)]
        exact hW
  · refine ⟨nI k', sRw G (1, fun _ => (nI c').toInt64), ⟨w1, w2, w3, w4, w5, w6, w7, by simp only []; omega, w9⟩, XH_q _ ?_, MH_q _ ?_⟩
    · intro q ρ L I hX_
      obtain ⟨ρ', J, v, a1, a2, a3, a4, a5, hA⟩ := hx q ρ L I hX_
      have hv : v = nI k' ∧ J 108 2 = nI c' := by
        rcases a3 with a3 | ⟨h, y, g, -, g1, g2⟩
        · have := a3.1
          rw [e] at this
          cases this
        · rw [e] at g
          cases g
          exact ⟨g1, g2⟩
      obtain ⟨rfl, h2⟩ := hv
      have e1 := x_isT1 (q := q) (ρ := ρ) (L := L) hX_.1.2.2.2.1.1 (by omega) ht
      refine ⟨ρ', j_up L 4 0 (nI c').toInt64, j_up J 3 1 (nI 1), ?_, Fr.up a4 (by rcases hA with g | g <;> rw [g] <;> rfl), a2, by rw [up_ne (by omega)], XW_1⟩
      simp (disch := first | omega | assumption) only [f_X10_haste, ↓bX, ↓ob_, lt0, ↓b2e e1, nn_eq, nn_le, if_neg, if_false, if_pos, if_true, Nat.zero_le, ↓b2e a1, h2, ↓oe (x_tell1 (q := q) (ρ := ρ') (L := L) (I := J))]
    · rintro t' q ρ L I ⟨hM, hW⟩
      obtain ⟨J, z, a1, a2, a4⟩ := hm t' q ρ L I hM
      rw [e] at a1 a2
      obtain ⟨h40, h41⟩ := a2.2 k' c' rfl
      have hP := (Ms_0 (x := nI 0) hM).2.2.2.1
      have e1 := m_isT1 (q := q) (ρ := ρ) (L := L) hP.1 (by omega) ht
      refine ⟨rr ρ z, j_up L 136 0 (nI c').toInt64, j_up J 129 12 (nI 1), ?_, Fr.up (Fr.tr (Fr.up Fr.rf rfl) (tTp_N a4)) rfl, ⟨rfl, rfl, rfl⟩, by rw [up_ne (by omega)], MW_1⟩
      simp (disch := first | omega | assumption) only [f_X11_haste, ↓bM, ↓ob_, lt0, ↓b2e e1, nn_eq, nn_lt, if_neg, if_false, if_pos, if_true, ↓b2e a1, om_s, up_nk, h40, h41, ↓oe (m_tell (q := q) (ρ := rr ρ z) (L := L) (I := J) (r := 0) (v := (nI c').toInt64) (by omega))]
