/-! WHEN -/
def wbF (T : Nat → Nat) (n : Nat) : Nat := fo (fun k b => if T (k + 1) < T b then k + 1 else b) 0 n 0
theorem wbF_s {T : Nat → Nat} {n : Nat} : wbF T (n + 1) = if T (n + 1) < T (wbF T n) then n + 1 else wbF T n := by
  unfold wbF
  rw [fo_last, Nat.zero_add]
theorem wbF_le {T : Nat → Nat} : ∀ n, wbF T n ≤ n
  | 0 => Nat.le_refl 0
  | n + 1 => by
    have := wbF_le (T := T) n
    rw [wbF_s]
    split <;> omega
theorem x_whenL {q : pQ} {ρ : pP} {L : pL} {I : pI} {c : List Int32} {g : gL} {w s : Nat} {hr x3 : Int32} (hA : ρ.1.1 = 119 ∨ ρ.1.1 = 124) (hT : Tf ρ.1.1 c I) (hc : Cok c) (hL : XL g I) (hg : WL g) (h19 : I 19 0 = hr) (hw : w < lxW g) {kk : Int32 → Int32 → jH → Option (Int32 × jH)} : ∃ J, f_X10_when_L48 5000 0 (nI w) (nI s) x3 kk 5000 (nI (tol c g w s (hr + nI 0))) (nI 0) (nI 1) (hp q ρ L I) = kk (nI (tol c g w s (hr + nI (wbF (fun k => tol c g w s (hr + nI k)) 23)))) (nI (wbF (fun k => tol c g w s (hr + nI k)) 23)) (hp q ρ L J) ∧ ∀ b, tT ρ.1.1 b → J b = I b := by
  have hW := hg.1
  have bd : ∀ x, tol c g w s x ≤ 594 := fun x => tol_le hg hw
  obtain ⟨⟨b, J⟩, e1, e0, e2, e3⟩ := loE (fun n (y : Nat × pI) j => f_X10_when_L48 5000 0 (nI w) (nI s) x3 kk n (nI (tol c g w s (hr + nI y.1))) (nI y.1) (nI j) (hp q ρ L y.2)) (fun y => kk (nI (tol c g w s (hr + nI y.1))) (nI y.1) (hp q ρ L y.2)) 24 (fun j y => 1 ≤ j ∧ y.1 = wbF (fun k => tol c g w s (hr + nI k)) (j - 1) ∧ ∀ b, tT ρ.1.1 b → y.2 b = I b) (by
    rintro n ⟨b, J⟩ p
    simp only []
    rw [f_X10_when_L48]
    simp (disch := first | omega | assumption) only [↓bX, ↓bXA, ↓jn_, ↓ob_, ↓b2_, ↓reduceIte, nn_lt, nn_le, nn_eq, nI_add, pk_mul, nn_su, gn_lt, gn_le, ng_lt, ng_le, ng_eq, gn_eq, gg_eq, n_m1, n_cl, if_true, if_false, if_pos, if_neg, lt0, Nat.le_refl]) (by
    rintro n ⟨b, J⟩ j hj ⟨p0, p1, p2⟩
    simp only [] at p0 p1 p2
    have z : ∀ b, b < 119 → J b = I b := fun b hb => p2 b (by unfold tT; omega)
    have e19 : J 19 0 = hr := by rw [z 19 (by omega)]; exact h19
    obtain ⟨K, f1, f2, f3⟩ := x_charge (q := q) (ρ := ρ) (L := L) (s := s) (hr := hr + nI j) hA (Tf_k hT (by rw [p2 _ (by unfold tT; omega)]) (p2 _ (by unfold tT; omega))) hc (XL_k (fun b _ _ => z b (by omega)) hL) hg hw
    have k1 : ∀ b, tT ρ.1.1 b → K b = I b := fun b hb => (f3 b hb).trans (p2 b hb)
    have hb1 := bd (hr + nI j)
    have hb2 := bd (hr + nI b)
    obtain ⟨i, rfl⟩ : ∃ i, j = i + 1 := ⟨j - 1, by omega⟩
    rw [Nat.add_sub_cancel] at p1
    by_cases hlt : tol c g w s (hr + nI (i + 1)) < tol c g w s (hr + nI b)
    · refine ⟨(i + 1, K), ?_, by omega, ?_, k1⟩
      · simp only []
        rw [f_X10_when_L48]
        simp (disch := first | omega | assumption) only [↓bX, ↓bXA, ↓jn_, ↓ob_, ↓b2_, ↓reduceIte, nn_lt, nn_le, nn_eq, nI_add, pk_mul, nn_su, gn_lt, gn_le, ng_lt, ng_le, ng_eq, gn_eq, gg_eq, n_m1, n_cl, if_true, if_false, if_pos, if_neg, lt0, e19, ↓b2e f1]
      · rw [Nat.add_sub_cancel, wbF_s, ← p1, if_pos hlt]
    · refine ⟨(b, K), ?_, by omega, ?_, k1⟩
      · simp only []
        rw [f_X10_when_L48]
        simp (disch := first | omega | assumption) only [↓bX, ↓bXA, ↓jn_, ↓ob_, ↓b2_, ↓reduceIte, nn_lt, nn_le, nn_eq, nI_add, pk_mul, nn_su, gn_lt, gn_le, ng_lt, ng_le, ng_eq, gn_eq, gg_eq, n_m1, n_cl, if_true, if_false, if_pos, if_neg, lt0, e19, ↓b2e f1]
      · rw [Nat.add_sub_cancel, wbF_s, ← p1, if_neg hlt]) 23 5000 (0, I) 1 (by omega) (by omega) ⟨Nat.le_refl 1, rfl, fun b _ => rfl⟩
  simp only [] at e1 e2 e3
  refine ⟨J, ?_, e3⟩
  rw [← e2]
  exact e1
theorem m_whenL {q : pQ} {ρ : pP} {L : pL} {I : pI} {r : gT} {g : gL} {d : gD} {P S w s : Nat} {hr : Int32} (hQ : MQ_ r g d P S ρ I) (hwr : WR r) (hg : WL g) (h12 : I 130 12 = hr) (hw : w < lxW g) {kk : Int32 → jH → Option (Int32 × jH)} : ∃ J z, f_X11_when_L28 5000 129 (nI w) (nI s) kk 5000 (nI 0) (nI 1) (hp q ρ L I) = kk (nI (wbF (fun k => tol (cmp r) g w s (hr + nI k)) 23)) (hp q (rr ρ z) L J) ∧ Fr tTo I J := by
  have bd : ∀ x, tol (cmp r) g w s x ≤ 594 := fun x => tol_le hg hw
  obtain ⟨⟨b, z, J⟩, e1, e0, e2, e3⟩ := loE (fun n (y : Nat × Option Nat × pI) j => f_X11_when_L28 5000 129 (nI w) (nI s) kk n (nI y.1) (nI j) (hp q (rr ρ y.2.1) L y.2.2)) (fun y => kk (nI y.1) (hp q (rr ρ y.2.1) L y.2.2)) 24 (fun j y => 1 ≤ j ∧ y.1 = wbF (fun k => tol (cmp r) g w s (hr + nI k)) (j - 1) ∧ Fr tTo I y.2.2) (by
    rintro n ⟨b, z, J⟩ p
    simp only []
    rw [f_X11_when_L28]
    simp (disch := first | omega | assumption) only [↓bM, ↓bMA, ↓jn_, ↓ob_, ↓b2_, ↓reduceIte, nn_lt, nn_le, nn_eq, nI_add, pk_mul, nn_su, gn_lt, gn_le, ng_lt, ng_le, ng_eq, gn_eq, gg_eq, n_m1, n_cl, if_true, if_false, if_pos, if_neg, lt0, Nat.le_refl]) (by
    rintro n ⟨b, z, J⟩ j hj ⟨p0, p1, p2⟩
    simp only [] at p0 p1 p2
    have j12 : J 130 12 = hr := by rw [p2.row 130 (fun k => rfl)]; exact h12
    obtain ⟨J1, z1, f1, f2⟩ := m_tollA (q := q) (L := L) (s := s) (z := z) (hr := hr + nI j) hQ hwr hg hw (tTo_N p2)
    have j12' : J1 130 12 = hr := by rw [f2.row 130 (fun k => rfl)]; exact j12
    obtain ⟨J2, z2, g1, g2⟩ := m_tollA (q := q) (L := L) (s := s) (z := z1) (hr := hr + nI b) hQ hwr hg hw (tTo_N (Fr.tr p2 f2))
    have hb1 := bd (hr + nI j)
    have hb2 := bd (hr + nI b)
    have k1 := Fr.tr (Fr.tr p2 f2) g2
    obtain ⟨i, rfl⟩ : ∃ i, j = i + 1 := ⟨j - 1, by omega⟩
    rw [Nat.add_sub_cancel] at p1
    by_cases hlt : tol (cmp r) g w s (hr + nI (i + 1)) < tol (cmp r) g w s (hr + nI b)
    · refine ⟨(i + 1, z2, J2), ?_, by omega, ?_, k1⟩
      · simp only []
        rw [f_X11_when_L28]
        simp (disch := first | omega | assumption) only [↓bM, ↓bMA, ↓jn_, ↓ob_, ↓b2_, ↓reduceIte, nn_lt, nn_le, nn_eq, nI_add, pk_mul, nn_su, gn_lt, gn_le, ng_lt, ng_le, ng_eq, gn_eq, gg_eq, n_m1, n_cl, if_true, if_false, if_pos, if_neg, lt0, j12, ↓b2e f1, j12', ↓b2e g1]
      · rw [Nat.add_sub_cancel, wbF_s, ← p1, if_pos hlt]
    · refine ⟨(b, z2, J2), ?_, by omega, ?_, k1⟩
      · simp only []
        rw [f_X11_when_L28]
        simp (disch := first | omega | assumption) only [↓bM, ↓bMA, ↓jn_, ↓ob_, ↓b2_, ↓reduceIte, nn_lt, nn_le, nn_eq, nI_add, pk_mul, nn_su, gn_lt, gn_le, ng_lt, ng_le, ng_eq, gn_eq, gg_eq, n_m1, n_cl, if_true, if_false, if_pos, if_neg, lt0, j12, ↓b2e f1, j12', ↓b2e g1]
      · rw [Nat.add_sub_cancel, wbF_s, ← p1, if_neg hlt]) 23 5000 (0, ρ.2.2.1, I) 1 (by omega) (by omega) ⟨Nat.le_refl 1, rfl, Fr.rf⟩
  simp only [] at e1 e2 e3
  refine ⟨J, z, ?_, e3⟩
  rw [← e2]
  exact e1
theorem k_when (a b : Int32) : ∀ G, Wr G → ∃ v G', Wr G' ∧ XH (f_X10_when 5000 0 a b) G v G' ∧ MH (f_X11_when 5000 129 a b) G v G' := by
  intro G hG
  have hG' := hG
  have wQ := WQ_of hG
  obtain ⟨w1, w2, w3, w4, w5, w6, w7, w8, w9⟩ := hG
  have hW10 := w2.1
  have fin : ∀ v, (∀ q ρ L I, Xr G ρ L I → f_X10_when 5000 0 a b (hp q ρ L I) = some (v, hp q ρ L I)) → (∀ t q ρ L I, Mr t G ρ L I → Ms t G ρ (j_up I 129 13 (nI 0)) → f_X11_when 5000 129 a b (hp q ρ L I) = some (v, hp q ρ L (j_up I 129 13 (nI 0)))) → ∃ v G', Wr G' ∧ XH (f_X10_when 5000 0 a b) G v G' ∧ MH (f_X11_when 5000 129 a b) G v G' :=
    fun v hx hm => ⟨v, G, hG', XH_0 hx, MH_0 (fun t q ρ L I h => hm t q ρ L I h (Ms_0 h.1))⟩
  rcases ixo a (lxW (gLx G)) (by omega) with h | ⟨w, hw, rfl⟩
  · refine fin (-nI 1) ?_ ?_
    · rintro q ρ L I ⟨⟨hT, hL, hD, hP, hS, hU, hK, hR, hρ⟩, hW⟩
      simp (disch := first | omega | assumption) only [f_X10_when, ↓bX, ↓bXA, ↓jn_, ↓ob_, ↓b2_, ↓reduceIte, nn_lt, nn_le, nn_eq, nI_add, pk_mul, nn_su, gn_lt, gn_le, ng_lt, ng_le, ng_eq, gn_eq, gg_eq, n_m1, n_cl, if_true, if_false, if_pos, if_neg, lt0, ↓b2e (x_isW0 (q := q) (ρ := ρ) (L := L) hL.1 h)]
    · rintro t q ρ L I - ⟨hT, hL, hD, hP, hS, hU, hK, hR⟩
      simp (disch := first | omega | assumption) only [f_X11_when, ↓bM, ↓bMA, ↓jn_, ↓ob_, ↓b2_, ↓reduceIte, nn_lt, nn_le, nn_eq, nI_add, pk_mul, nn_su, gn_lt, gn_le, ng_lt, ng_le, ng_eq, gn_eq, gg_eq, n_m1, n_cl, if_true, if_false, if_pos, if_neg, lt0, ↓b2e (m_isW0 (q := q) (ρ := ρ) (L := L) hL.1 (by omega) h)]
  rcases ixo b (gS G) (by omega) with h | ⟨s, hs, rfl⟩
  · refine fin (-nI 1) ?_ ?_
    · rintro q ρ L I ⟨⟨hT, hL, hD, hP, hS, hU, hK, hR, hρ⟩, hW⟩
      simp (disch := first | omega | assumption) only [f_X10_when, ↓bX, ↓bXA, ↓jn_, ↓ob_, ↓b2_, ↓reduceIte, nn_lt, nn_le, nn_eq, nI_add, pk_mul, nn_su, gn_lt, gn_le, ng_lt, ng_le, ng_eq, gn_eq, gg_eq, n_m1, n_cl, if_true, if_false, if_pos, if_neg, lt0, ↓b2e (x_isW1 (q := q) (ρ := ρ) (L := L) hL.1 (by omega) hw), ↓b2e (x_isS0 (q := q) (ρ := ρ) (L := L) hP.2 h)]
    · rintro t q ρ L I - ⟨hT, hL, hD, hP, hS, hU, hK, hR⟩
      simp (disch := first | omega | assumption) only [f_X11_when, ↓bM, ↓bMA, ↓jn_, ↓ob_, ↓b2_, ↓reduceIte, nn_lt, nn_le, nn_eq, nI_add, pk_mul, nn_su, gn_lt, gn_le, ng_lt, ng_le, ng_eq, gn_eq, gg_eq, n_m1, n_cl, if_true, if_false, if_pos, if_neg, lt0, ↓b2e (m_isW1 (q := q) (ρ := ρ) (L := L) hL.1 (by omega) hw), ↓b2e (m_isS0 (q := q) (ρ := ρ) (L := L) hP.2 (by omega) h)]
  have hbl := wbF_le (T := fun k => tol (cmp (gRu G)) (gLx G) w s (scH (gN G) + nI k)) 23
  obtain ⟨B, hB⟩ : ∃ B, B = wbF (fun k => tol (cmp (gRu G)) (gLx G) w s (scH (gN G) + nI k)) 23 := ⟨_, rfl⟩
  rw [← hB] at hbl
  refine ⟨nI B, sRw G (2, fun i => if i = 0 then (nI (tol (cmp (gRu G)) (gLx G) w s (scH (gN G) + nI B))).toInt64 else (nI (tol (cmp (gRu G)) (gLx G) w s (scH (gN G)))).toInt64), ⟨w1, w2, w3, w4, w5, w6, w7, by simp only []; omega, w9⟩, XH_q _ ?_, MH_q _ ?_⟩
  · rintro q ρ L I ⟨⟨hT, hL, hD, hP, hS, hU, hK, hR, hρ⟩, hW⟩
    obtain ⟨hA, hTf⟩ := XR_Tf hR
    obtain ⟨J, e1, e2, e3⟩ := x_charge (q := q) (ρ := ρ) (L := L) (s := s) (hr := scH (gN G)) hA hTf wQ.1 hL w2 hw
    have z : ∀ b, b < 119 → J b = I b := fun b hb => e3 b (by unfold tT; omega)
    obtain ⟨K, f1, f2⟩ := x_whenL (q := q) (ρ := ρ) (L := L) (I := J) (s := s) (hr := scH (gN G)) (x3 := nI (tol (cmp (gRu G)) (gLx G) w s (scH (gN G)))) hA (Tf_k hTf (by rw [e3 _ (by unfold tT; omega)]) (e3 _ (by unfold tT; omega))) wQ.1 (XL_k (fun b _ _ => z b (by omega)) hL) w2 (by rw [z 19 (by omega)]; exact hS.1.1) hw (kk := fun (y20 : Int32) (y21 : Int32) (h22 : jH) =>
          (jg_R 10 1 h22 0).bind (fun v23 =>
          (f_X6_tell_ 5000 v23 (y20.toInt64) ((nI (tol (cmp (gRu G)) (gLx G) w s (scH (gN G)))).toInt64) h22).bind (fun h24 =>
          some (y21, h24))))
    rw [← hB] at f1
    rw [add_0] at f1
    refine ⟨ρ, j_up (j_up L 4 0 (nI (tol (cmp (gRu G)) (gLx G) w s (scH (gN G) + nI B))).toInt64) 4 1 (nI (tol (cmp (gRu G)) (gLx G) w s (scH (gN G)))).toInt64, j_up K 3 1 (nI 2), ?_, Fr.up (trf hA (fun b hb => (f2 b hb).trans (e3 b hb))) (by rcases hA with e | e <;> rw [e] <;> rfl), ⟨rfl, rfl, hρ⟩, by rw [up_ne (by omega), up_ne (by omega)], XW_2⟩
    rw [f_X10_when]
    simp (disch := first | omega | assumption) only [↓bX, lt0, ↓b2e (x_isW1 (q := q) (ρ := ρ) (L := L) hL.1 (by omega) hw), ↓b2e (x_isS1 (q := q) (ρ := ρ) (L := L) hP.2 (by omega) hs), hS.1.1, ↓b2e e1, nn_eq, if_neg, if_false]
    rw [f1]
    simp (disch := first | omega | assumption) only [↓bX, ↓bXA, ↓jn_, ↓ob_, ↓b2_, ↓reduceIte, nn_lt, nn_le, nn_eq, nI_add, pk_mul, nn_su, gn_lt, gn_le, ng_lt, ng_le, ng_eq, gn_eq, gg_eq, n_m1, n_cl, if_true, if_false, if_pos, if_neg, lt0, ↓oe (x_tell2 (q := q) (ρ := ρ) (L := L) (I := K))]
  · rintro t q ρ L I ⟨hM, hW⟩
    have hM0 := Ms_0 (x := nI 0) hM
    have hQ := MQ_of hM0
    have h12 := hM0.2.2.2.2.1.1.1
    rw [Nat.zero_add] at h12
    obtain ⟨J, z, e1, e2⟩ := m_whenL (q := q) (L := L) (s := s) hQ w9 w2 h12 hw (kk := fun (y16 : Int32) (h17 : jH) =>
          (jp_I 11 12 h17 129 (nI 0)).bind (fun h18 =>
          (jg_R 11 0 h18 129).bind (fun v19 =>
          (ja_I 100 h18 v19 (nI 12)).bind (fun v20 =>
          j_b2 (f_X11_tollOf 5000 129 (nI w) (nI s) (v20 + y16) h18) (fun v22 h21 =>
          (f_X11_tell 5000 129 (v22.toInt64) h21).bind (fun h23 =>
          j_b2 (f_X11_tollNow 5000 129 (nI w) (nI s) h23) (fun v25 h24 =>
          (f_X11_tell 5000 129 (v25.toInt64) h24).bind (fun h26 =>
          some (y16, h26)))))))))
    rw [← hB] at e1
    have fr1 : Fr tN (j_up I 129 13 (nI 0)) (j_up J 129 12 (nI 0)) := Fr.up (tTo_N e2) rfl
    obtain ⟨K, z1, f1, f2⟩ := m_tollA (q := q) (L := L) (s := s) (z := z) (hr := scH (gN G) + nI B) hQ w9 w2 hw fr1
    have fr2 : Fr tN (j_up I 129 13 (nI 0)) (j_up K 129 12 (nI 1)) := Fr.up (Fr.tr fr1 (tTo_N f2)) rfl
    obtain ⟨M, z2, g1, g2⟩ := m_tollR (q := q) (L := j_up L 136 0 (nI (tol (cmp (gRu G)) (gLx G) w s (scH (gN G) + nI B))).toInt64) (s := s) (z := z1) hQ w9 w2 h12 hw fr2
    have k12 : K = j_up K 129 12 (nI 0) := up_self (by rw [f2 129 12 rfl, up_eq])
    have m12 : M = j_up M 129 12 (nI 1) := up_self (by rw [g2 129 12 rfl, up_eq])
    have j12 : j_up J 129 12 (nI 0) 130 12 = scH (gN G) := by rw [fr1.row 130 (fun k => rfl)]; exact h12
    refine ⟨rr ρ z2, j_up (j_up L 136 0 (nI (tol (cmp (gRu G)) (gLx G) w s (scH (gN G) + nI B))).toInt64) 136 1 (nI (tol (cmp (gRu G)) (gLx G) w s (scH (gN G)))).toInt64, j_up M 129 12 (nI 2), ?_, Fr.up (Fr.tr (Fr.tr (Fr.up Fr.rf rfl) fr2) (tTo_N g2)) rfl, ⟨rfl, rfl, rfl⟩, by rw [up_ne (by omega), up_ne (by omega)], MW_2⟩
    rw [f_X11_when]
    simp (disch := first | omega | assumption) only [↓bM, ↓ob_, lt0, ↓b2e (m_isW1 (q := q) (ρ := ρ) (L := L) hQ.2.1.1 (by omega) hw), ↓b2e (m_isS1 (q := q) (ρ := ρ) (L := L) hQ.2.2.2.2 (by omega) hs), nn_eq, if_neg, if_false]
    rw [e1]
    simp (disch := first | omega | assumption) only [↓bM, ↓bMA, ↓jn_, ↓ob_, ↓b2_, ↓reduceIte, nn_lt, nn_le, nn_eq, nI_add, pk_mul, nn_su, gn_lt, gn_le, ng_lt, ng_le, ng_eq, gn_eq, gg_eq, n_m1, n_cl, if_true, if_false, if_pos, if_neg, lt0, j12, ↓b2e f1]
    rw [k12, m_tell (by omega), ob, g1, b2, m12, m_tell (by omega), ob, up_up]
/-! SHORTEST -/
def shR (g : gL) (pr : Nat → Nat) (w v : Nat) : Bool := decide (lxN g w < lxN g v) || (decide (lxN g w = lxN g v) && decide (pr w < pr v))
theorem x_isSh {q : pQ} {ρ : pP} {L : pL} {I : pI} {g : gL} {pr : Nat → Nat} {w v : Nat} (hL : XL g I) (hg : WL g) (hpr : ∀ w, w < lxW g → I 115 w = nI (pr w)) (hpb : ∀ w, w < lxW g → pr w ≤ 594) (hw : w < lxW g) (hv : v < lxW g) : f_X10_isShorter 5000 0 (nI w) (nI v) (hp q ρ L I) = some (bo (shR g pr w v), hp q ρ L I) := by
  have hW := hg.1
  have n1 := (hL.2 w hw).1.1
  have n2 := (hL.2 v hv).1.1
  have l1 := (hg.2 w hw).1
  have l2 := (hg.2 v hv).1
  have p1 := hpr w hw
  have p2 := hpr v hv
  have b1 := hpb w hw
  have b2 := hpb v hv
  unfold shR
  by_cases h1 : lxN g w < lxN g v
  · simp (disch := first | omega | assumption) only [f_X10_isShorter, ↓bX, ↓bXA, ↓jn_, ↓ob_, ↓b2_, ↓reduceIte, nn_lt, nn_le, nn_eq, nI_add, pk_mul, nn_su, gn_lt, gn_le, ng_lt, ng_le, ng_eq, gn_eq, gg_eq, n_m1, n_cl, if_true, if_false, if_pos, if_neg, lt0, n1, n2, sub_neg, h1, decide_true, Bool.true_or, bo_t]
  · by_cases h2 : lxN g w = lxN g v
    · rw [h2] at n1
      by_cases h3 : pr w < pr v
      · simp (disch := first | omega | assumption) only [f_X10_isShorter, ↓bX, ↓bXA, ↓jn_, ↓ob_, ↓b2_, ↓reduceIte, nn_lt, nn_le, nn_eq, nI_add, pk_mul, nn_su, gn_lt, gn_le, ng_lt, ng_le, ng_eq, gn_eq, gg_eq, n_m1, n_cl, if_true, if_false, if_pos, if_neg, lt0, n1, n2, Nat.sub_self, p1, p2, h1, h2, h3, decide_true, Bool.and_self, Bool.or_true, bo_t]
      · simp (disch := first | omega | assumption) only [f_X10_isShorter, ↓bX, ↓bXA, ↓jn_, ↓ob_, ↓b2_, ↓reduceIte, nn_lt, nn_le, nn_eq, nI_add, pk_mul, nn_su, gn_lt, gn_le, ng_lt, ng_le, ng_eq, gn_eq, gg_eq, n_m1, n_cl, if_true, if_false, if_pos, if_neg, lt0, n1, n2, Nat.sub_self, p1, p2, h2, h3, decide_true, decide_false, Bool.and_false, bo_f, Nat.lt_irrefl, Bool.or_self]
    · simp (disch := first | omega | assumption) only [f_X10_isShorter, ↓bX, ↓bXA, ↓jn_, ↓ob_, ↓b2_, ↓reduceIte, nn_lt, nn_le, nn_eq, nI_add, pk_mul, nn_su, gn_lt, gn_le, ng_lt, ng_le, ng_eq, gn_eq, gg_eq, n_m1, n_cl, if_true, if_false, if_pos, if_neg, lt0, n1, n2, h1, h2, decide_false, Bool.false_and, Bool.or_self, bo_f]
def shB (g : gL) (m n : Nat) (pr : Nat → Nat) (k : Nat) : Option Nat := abest (fun w => mean g w m && decide (pr w ≤ n)) (shR g pr) k
theorem x_shL {q : pQ} {ρ : pP} {L : pL} {I : pI} {g : gL} {pr : Nat → Nat} {m n : Nat} (hL : XL g I) (hg : WL g) (hpr : ∀ w, w < lxW g → I 115 w = nI (pr w)) (hpb : ∀ w, w < lxW g → pr w ≤ 594) (hm : m < 1000) (hn : n ≤ 9999) {kk : Int32 → jH → Option (Int32 × jH)} : f_X10_shortest_L47 5000 0 (nI m) (nI n) kk 5000 (-nI 1) (nI 0) (hp q ρ L I) = kk (eo (shB g m n pr (lxW g))) (hp q ρ L I) := by
  have hW := hg.1
  obtain ⟨b, e1, e2⟩ := loE (fun k (z : Option Nat) j => f_X10_shortest_L47 5000 0 (nI m) (nI n) kk k (eo z) (nI j) (hp q ρ L I)) (fun z => kk (eo z) (hp q ρ L I)) (lxW g) (fun j z => z = shB g m n pr j) (by
    intro k b p
    rw [f_X10_shortest_L47]
    simp (disch := first | omega | assumption) only [↓bX, ↓bXA, ↓jn_, ↓ob_, ↓b2_, ↓reduceIte, nn_lt, nn_le, nn_eq, nI_add, pk_mul, nn_su, gn_lt, gn_le, ng_lt, ng_le, ng_eq, gn_eq, gg_eq, n_m1, n_cl, if_true, if_false, if_pos, if_neg, lt0, hL.1, Nat.le_refl]) (by
    intro k b j hj p1
    have hmn := x_means (q := q) (ρ := ρ) (L := L) hL hg hj hm
    have hpj := hpr j hj
    have hbj := hpb j hj
    cases hme : mean g j m with
    | false =>
      rw [hme, bo_f] at hmn
      refine ⟨b, ?_, ?_⟩
      · rw [f_X10_shortest_L47]
        simp (disch := first | omega | assumption) only [↓bX, ↓bXA, ↓jn_, ↓ob_, ↓b2_, ↓reduceIte, nn_lt, nn_le, nn_eq, nI_add, pk_mul, nn_su, gn_lt, gn_le, ng_lt, ng_le, ng_eq, gn_eq, gg_eq, n_m1, n_cl, if_true, if_false, if_pos, if_neg, lt0, hL.1, ↓b2e hmn]
      · unfold shB at p1 ⊢
        rw [abest_s, bsS_f (p := fun w => mean g w m && decide (pr w ≤ n)) (by simp only [hme, Bool.false_and])]
        exact p1
    | true =>
      rw [hme, bo_t] at hmn
      by_cases hle : pr j ≤ n
      · have hpt : (fun w => mean g w m && decide (pr w ≤ n)) j = true := by simp only [hme, hle, decide_true, Bool.and_self]
        cases b with
        | none =>
          refine ⟨some j, ?_, ?_⟩
          · rw [eo_n, eo_s, f_X10_shortest_L47]
            simp (disch := first | omega | assumption) only [↓bX, ↓bXA, ↓jn_, ↓ob_, ↓b2_, ↓reduceIte, nn_lt, nn_le, nn_eq, nI_add, pk_mul, nn_su, gn_lt, gn_le, ng_lt, ng_le, ng_eq, gn_eq, gg_eq, n_m1, n_cl, if_true, if_false, if_pos, if_neg, lt0, hL.1, ↓b2e hmn, hpj]
          · unfold shB at p1 ⊢
            rw [abest_s, ← p1, bsS_n hpt]
        | some v =>
          have hvn := (abest_in p1.symm).1
          have hs := x_isSh (q := q) (ρ := ρ) (L := L) hL hg hpr hpb hj (v := v) (by omega)
          cases hr : shR g pr j v with
          | true =>
            rw [hr, bo_t] at hs
            refine ⟨some j, ?_, ?_⟩
            · rw [eo_s, eo_s, f_X10_shortest_L47]
              simp (disch := first | omega | assumption) only [↓bX, ↓bXA, ↓jn_, ↓ob_, ↓b2_, ↓reduceIte, nn_lt, nn_le, nn_eq, nI_add, pk_mul, nn_su, gn_lt, gn_le, ng_lt, ng_le, ng_eq, gn_eq, gg_eq, n_m1, n_cl, if_true, if_false, if_pos, if_neg, lt0, hL.1, ↓b2e hmn, hpj, ↓b2e hs]
            · unfold shB at p1 ⊢
              rw [abest_s, ← p1, bsS_s hpt hr]
          | false =>
            rw [hr, bo_f] at hs
            refine ⟨some v, ?_, ?_⟩
            · rw [eo_s, f_X10_shortest_L47]
              simp (disch := first | omega | assumption) only [↓bX, ↓bXA, ↓jn_, ↓ob_, ↓b2_, ↓reduceIte, nn_lt, nn_le, nn_eq, nI_add, pk_mul, nn_su, gn_lt, gn_le, ng_lt, ng_le, ng_eq, gn_eq, gg_eq, n_m1, n_cl, if_true, if_false, if_pos, if_neg, lt0, hL.1, ↓b2e hmn, hpj, ↓b2e hs]
            · unfold shB at p1 ⊢
              rw [abest_s, ← p1, bsS_k hpt hr]
      · refine ⟨b, ?_, ?_⟩
        · rw [f_X10_shortest_L47]
          simp (disch := first | omega | assumption) only [↓bX, ↓bXA, ↓jn_, ↓ob_, ↓b2_, ↓reduceIte, nn_lt, nn_le, nn_eq, nI_add, pk_mul, nn_su, gn_lt, gn_le, ng_lt, ng_le, ng_eq, gn_eq, gg_eq, n_m1, n_cl, if_true, if_false, if_pos, if_neg, lt0, hL.1, ↓b2e hmn, hpj]
        · unfold shB at p1 ⊢
          rw [abest_s, bsS_f (p := fun w => mean g w m && decide (pr w ≤ n)) (by simp only [hle, decide_false, Bool.and_false])]
          exact p1) (lxW g) 5000 none 0 (by omega) (by omega) rfl
  rw [eo_n] at e1
  rw [e1, e2]
theorem m_shL {q : pQ} {ρ : pP} {L : pL} {I : pI} {r : gT} {g : gL} {d : gD} {P S m n s : Nat} {hr : Int32} (hQ : MQ_ r g d P S ρ I) (hwr : WR r) (hg : WL g) (h12 : I 130 12 = hr) (hm : m < 1000) (hn : n ≤ 9999) {kk : Int32 → jH → Option (Int32 × jH)} : ∃ J z, f_X11_shortest_L39 5000 129 (nI m) (nI s) (nI n) kk 5000 (-nI 1) (nI 0) (hp q ρ L I) = kk (eo (shB g m n (fun w => tol (cmp r) g w s hr) (lxW g))) (hp q (rr ρ z) L J) ∧ Fr tTo I J := by
  have hW := hg.1
  obtain ⟨⟨b, z, J⟩, e1, e2, e3⟩ := loE (fun k (y : Option Nat × Option Nat × pI) j => f_X11_shortest_L39 5000 129 (nI m) (nI s) (nI n) kk k (eo y.1) (nI j) (hp q (rr ρ y.2.1) L y.2.2)) (fun y => kk (eo y.1) (hp q (rr ρ y.2.1) L y.2.2)) (lxW g) (fun j y => y.1 = shB g m n (fun w => tol (cmp r) g w s hr) j ∧ Fr tTo I y.2.2) (by
    rintro k ⟨b, z, J⟩ ⟨p1, p2⟩
    simp only [] at p1 p2 ⊢
    have e := (MQ_N (z := z) (tTo_N p2) hQ).2.1.1
    rw [f_X11_shortest_L39]
    simp (disch := first | omega | assumption) only [↓bM, ↓bMA, ↓jn_, ↓ob_, ↓b2_, ↓reduceIte, nn_lt, nn_le, nn_eq, nI_add, pk_mul, nn_su, gn_lt, gn_le, ng_lt, ng_le, ng_eq, gn_eq, gg_eq, n_m1, n_cl, if_true, if_false, if_pos, if_neg, lt0, e, Nat.le_refl]) (by
    rintro k ⟨b, z, J⟩ j hj ⟨p1, p2⟩
    simp only [] at p1 p2
    have hQ' := MQ_N (z := z) (tTo_N p2) hQ
    have e := hQ'.2.1.1
    have hmn := m_means (q := q) (ρ := rr ρ z) (L := L) hQ'.2.1 hg hj hm
    cases hme : mean g j m with
    | false =>
      rw [hme, bo_f] at hmn
      refine ⟨(b, z, J), ?_, ?_, p2⟩
      · simp only []
        rw [f_X11_shortest_L39]
        simp (disch := first | omega | assumption) only [↓bM, ↓bMA, ↓jn_, ↓ob_, ↓b2_, ↓reduceIte, nn_lt, nn_le, nn_eq, nI_add, pk_mul, nn_su, gn_lt, gn_le, ng_lt, ng_le, ng_eq, gn_eq, gg_eq, n_m1, n_cl, if_true, if_false, if_pos, if_neg, lt0, e, ↓b2e hmn]
      · unfold shB at p1 ⊢
        rw [abest_s, bsS_f (p := fun w => mean g w m && decide (tol (cmp r) g w s hr ≤ n)) (by simp only [hme, Bool.false_and])]
        exact p1
    | true =>
      rw [hme, bo_t] at hmn
      obtain ⟨J1, z1, f1, f2⟩ := m_tollR (q := q) (L := L) (s := s) (z := z) hQ hwr hg h12 hj (tTo_N p2)
      have b1 := tol_le (c := cmp r) (s := s) (hr := hr) hg hj
      have n1 : J1 132 j = nI (lxN g j) := (MQ_N (z := z1) (tTo_N (Fr.tr p2 f2)) hQ).2.1.2 j hj |>.1.1
      have l1 := (hg.2 j hj).1
      by_cases hle : tol (cmp r) g j s hr ≤ n
      · have hpt : (fun w => mean g w m && decide (tol (cmp r) g w s hr ≤ n)) j = true := by simp only [hme, hle, decide_true, Bool.and_self]
        cases b with
        | none =>
          refine ⟨(some j, z1, J1), ?_, ?_, Fr.tr p2 f2⟩
          · simp only [eo_n, eo_s]
            rw [f_X11_shortest_L39]
            simp (disch := first | omega | assumption) only [↓bM, ↓bMA, ↓jn_, ↓ob_, ↓b2_, ↓reduceIte, nn_lt, nn_le, nn_eq, nI_add, pk_mul, nn_su, gn_lt, gn_le, ng_lt, ng_le, ng_eq, gn_eq, gg_eq, n_m1, n_cl, if_true, if_false, if_pos, if_neg, lt0, e, ↓b2e hmn, ↓b2e f1]
          · unfold shB at p1 ⊢
            rw [abest_s, ← p1, bsS_n hpt]
        | some v =>
          have hvn := (abest_in p1.symm).1
          have n2 : J1 132 v = nI (lxN g v) := (MQ_N (z := z1) (tTo_N (Fr.tr p2 f2)) hQ).2.1.2 v (by omega) |>.1.1
          have l2 := (hg.2 v (by omega)).1
          obtain ⟨J2, z2, g1, g2⟩ := m_tollR (q := q) (L := L) (s := s) (w := j) (z := z1) hQ hwr hg h12 hj (tTo_N (Fr.tr p2 f2))
          obtain ⟨J3, z3, i1, i2⟩ := m_tollR (q := q) (L := L) (s := s) (w := v) (z := z2) hQ hwr hg h12 (by omega) (tTo_N (Fr.tr (Fr.tr p2 f2) g2))
          have b2 := tol_le (c := cmp r) (w := v) (s := s) (hr := hr) hg (by omega)
          by_cases c1 : lxN g j < lxN g v
          · have hr : shR g (fun w => tol (cmp r) g w s hr) j v = true := by simp only [shR, c1, decide_true, Bool.true_or]
            refine ⟨(some j, z1, J1), ?_, ?_, Fr.tr p2 f2⟩
            · simp only [eo_s]
              rw [f_X11_shortest_L39]
              simp (disch := first | omega | assumption) only [↓bM, ↓bMA, ↓jn_, ↓ob_, ↓b2_, ↓reduceIte, nn_lt, nn_le, nn_eq, nI_add, pk_mul, nn_su, gn_lt, gn_le, ng_lt, ng_le, ng_eq, gn_eq, gg_eq, n_m1, n_cl, if_true, if_false, if_pos, if_neg, lt0, e, ↓b2e hmn, ↓b2e f1, n1, n2]
            · unfold shB at p1 ⊢
              rw [abest_s, ← p1, bsS_s hpt hr]
          · by_cases c2 : lxN g j = lxN g v
            · by_cases c3 : tol (cmp r) g j s hr < tol (cmp r) g v s hr
              · have hr : shR g (fun w => tol (cmp r) g w s hr) j v = true := by simp only [shR, c2, c3, decide_true, Bool.and_self, Bool.or_true]
                refine ⟨(some j, z3, J3), ?_, ?_, Fr.tr (Fr.tr (Fr.tr p2 f2) g2) i2⟩
                · simp only [eo_s]
                  rw [f_X11_shortest_L39]
                  simp (disch := first | omega | assumption) only [↓bM, ↓bMA, ↓jn_, ↓ob_, ↓b2_, ↓reduceIte, nn_lt, nn_le, nn_eq, nI_add, pk_mul, nn_su, gn_lt, gn_le, ng_lt, ng_le, ng_eq, gn_eq, gg_eq, n_m1, n_cl, if_true, if_false, if_pos, if_neg, lt0, e, ↓b2e hmn, ↓b2e f1, n1, n2, ↓b2e g1, ↓b2e i1]
                · unfold shB at p1 ⊢
                  rw [abest_s, ← p1, bsS_s hpt hr]
              · have hr : shR g (fun w => tol (cmp r) g w s hr) j v = false := by simp only [shR, c2, c3, Nat.lt_irrefl, decide_true, decide_false, Bool.and_false, Bool.or_self]
                refine ⟨(some v, z3, J3), ?_, ?_, Fr.tr (Fr.tr (Fr.tr p2 f2) g2) i2⟩
                · simp only [eo_s]
                  rw [f_X11_shortest_L39]
                  simp (disch := first | omega | assumption) only [↓bM, ↓bMA, ↓jn_, ↓ob_, ↓b2_, ↓reduceIte, nn_lt, nn_le, nn_eq, nI_add, pk_mul, nn_su, gn_lt, gn_le, ng_lt, ng_le, ng_eq, gn_eq, gg_eq, n_m1, n_cl, if_true, if_false, if_pos, if_neg, lt0, e, ↓b2e hmn, ↓b2e f1, n1, n2, ↓b2e g1, ↓b2e i1]
                · unfold shB at p1 ⊢
                  rw [abest_s, ← p1, bsS_k hpt hr]
            · have hr : shR g (fun w => tol (cmp r) g w s hr) j v = false := by simp only [shR, c1, c2, decide_false, Bool.false_and, Bool.or_self]
              refine ⟨(some v, z1, J1), ?_, ?_, Fr.tr p2 f2⟩
              · simp only [eo_s]
                rw [f_X11_shortest_L39]
                simp (disch := first | omega | assumption) only [↓bM, ↓bMA, ↓jn_, ↓ob_, ↓b2_, ↓reduceIte, nn_lt, nn_le, nn_eq, nI_add, pk_mul, nn_su, gn_lt, gn_le, ng_lt, ng_le, ng_eq, gn_eq, gg_eq, n_m1, n_cl, if_true, if_false, if_pos, if_neg, lt0, e, ↓b2e hmn, ↓b2e f1, n1, n2]
              · unfold shB at p1 ⊢
                rw [abest_s, ← p1, bsS_k hpt hr]
      · refine ⟨(b, z1, J1), ?_, ?_, Fr.tr p2 f2⟩
        · simp only []
          rw [f_X11_shortest_L39]
          simp (disch := first | omega | assumption) only [↓bM, ↓bMA, ↓jn_, ↓ob_, ↓b2_, ↓reduceIte, nn_lt, nn_le, nn_eq, nI_add, pk_mul, nn_su, gn_lt, gn_le, ng_lt, ng_le, ng_eq, gn_eq, gg_eq, n_m1, n_cl, if_true, if_false, if_pos, if_neg, lt0, e, ↓b2e hmn, ↓b2e f1]
        · unfold shB at p1 ⊢
          rw [abest_s, bsS_f (p := fun w => mean g w m && decide (tol (cmp r) g w s hr ≤ n)) (by simp only [hle, decide_false, Bool.and_false])]
          exact p1) (lxW g) 5000 (none, ρ.2.2.1, I) 0 (by omega) (by omega) ⟨rfl, Fr.rf⟩
  simp only [eo_n] at e1 e2 e3
  refine ⟨J, z, ?_, e3⟩
  rw [← e2]
  exact e1
/-- prices at hand -/
theorem x_pr {G : gG} (hG : Wr G) (s : Nat) : ∀ q ρ L I, Xr G ρ L I → ∃ J, f_X10_priceAll 5000 0 ρ.1.1 (nI s) 115 (hp q ρ L I) = some (hp q ρ L J) ∧ (∀ w, w < lxW (gLx G) → J 115 w = nI (tol (cmp (gRu G)) (gLx G) w s (scH (gN G)))) ∧ Fr (tY ρ.1.1) I J ∧ XL (gLx G) J ∧ (ρ.1.1 = 119 ∨ ρ.1.1 = 124) ∧ ∀ b, b < 115 → J b = I b := by
  have wQ := WQ_of hG
  obtain ⟨w1, w2, w3, w4, w5, w6, w7, w8, w9⟩ := hG
  rintro q ρ L I ⟨⟨hT, hL, hD, hP, hS, hU, hK, hR, hρ⟩, hW⟩
  obtain ⟨hA, hTf⟩ := XR_Tf hR
  obtain ⟨J, e1, e2, e3⟩ := x_priceAll (q := q) (ρ := ρ) (L := L) (B := 115) (s := s) hA (.inl rfl) hTf wQ.1 hL w2 hS.1.1
  have z : ∀ b, b < 115 → J b = I b := fun b hb => e3 b (by unfold tT; omega) (by omega)
  exact ⟨J, e1, e2, trB hA (.inl rfl) e3, XL_k (fun b _ _ => z b (by omega)) hL, hA, z⟩
theorem k_shortest (a b c : Int32) : ∀ G, Wr G → ∃ v G', Wr G' ∧ XH (f_X10_shortest 5000 0 a b c) G v G' ∧ MH (f_X11_shortest 5000 129 a b c) G v G' := by
  intro G hG
  have hG' := hG
  have wQ := WQ_of hG
  obtain ⟨w1, w2, w3, w4, w5, w6, w7, w8, w9⟩ := hG
  have hW10 := w2.1
  have fin : ∀ v, (∀ q ρ L I, Xr G ρ L I → f_X10_shortest 5000 0 a b c (hp q ρ L I) = some (v, hp q ρ L I)) → (∀ t q ρ L I, Mr t G ρ L I → Ms t G ρ (j_up I 129 13 (nI 0)) → f_X11_shortest 5000 129 a b c (hp q ρ L I) = some (v, hp q ρ L (j_up I 129 13 (nI 0)))) → ∃ v G', Wr G' ∧ XH (f_X10_shortest 5000 0 a b c) G v G' ∧ MH (f_X11_shortest 5000 129 a b c) G v G' :=
    fun v hx hm => ⟨v, G, hG', XH_0 hx, MH_0 (fun t q ρ L I h => hm t q ρ L I h (Ms_0 h.1))⟩
  rcases ixo a 10 (by omega) with h | ⟨m, hm, rfl⟩
  · refine fin (-nI 1) ?_ ?_
    · intro q ρ L I hX
      simp (disch := first | omega | assumption) only [f_X10_shortest, ↓bX, ↓bXA, ↓jn_, ↓ob_, ↓b2_, ↓reduceIte, nn_lt, nn_le, nn_eq, nI_add, pk_mul, nn_su, gn_lt, gn_le, ng_lt, ng_le, ng_eq, gn_eq, gg_eq, n_m1, n_cl, if_true, if_false, if_pos, if_neg, lt0, x_isM0 h]
    · intro t q ρ L I _ hM
      simp (disch := first | omega | assumption) only [f_X11_shortest, ↓bM, ↓bMA, ↓jn_, ↓ob_, ↓b2_, ↓reduceIte, nn_lt, nn_le, nn_eq, nI_add, pk_mul, nn_su, gn_lt, gn_le, ng_lt, ng_le, ng_eq, gn_eq, gg_eq, n_m1, n_cl, if_true, if_false, if_pos, if_neg, lt0, m_isM0 h]
  rcases ixo b (gS G) (by omega) with h | ⟨s, hs, rfl⟩
  · refine fin (-nI 1) ?_ ?_
    · rintro q ρ L I ⟨⟨hT, hL, hD, hP, hS, hU, hK, hR, hρ⟩, hW⟩
      simp (disch := first | omega | assumption) only [f_X10_shortest, ↓bX, ↓bXA, ↓jn_, ↓ob_, ↓b2_, ↓reduceIte, nn_lt, nn_le, nn_eq, nI_add, pk_mul, nn_su, gn_lt, gn_le, ng_lt, ng_le, ng_eq, gn_eq, gg_eq, n_m1, n_cl, if_true, if_false, if_pos, if_neg, lt0, x_isM1 hm, ↓b2e (x_isS0 (q := q) (ρ := ρ) (L := L) hP.2 h)]
    · rintro t q ρ L I - ⟨hT, hL, hD, hP, hS, hU, hK, hR⟩
      simp (disch := first | omega | assumption) only [f_X11_shortest, ↓bM, ↓bMA, ↓jn_, ↓ob_, ↓b2_, ↓reduceIte, nn_lt, nn_le, nn_eq, nI_add, pk_mul, nn_su, gn_lt, gn_le, ng_lt, ng_le, ng_eq, gn_eq, gg_eq, n_m1, n_cl, if_true, if_false, if_pos, if_neg, lt0, m_isM1 hm, ↓b2e (m_isS0 (q := q) (ρ := ρ) (L := L) hP.2 (by omega) h)]
  rcases ixo c 10000 (by omega) with h | ⟨n, hn, rfl⟩
  · refine fin (-nI 1) ?_ ?_
    · rintro q ρ L I ⟨⟨hT, hL, hD, hP, hS, hU, hK, hR, hρ⟩, hW⟩
      by_cases h0 : c < nI 0
      · simp (disch := first | omega | assumption) only [f_X10_shortest, ↓bX, ↓bXA, ↓jn_, ↓ob_, ↓b2_, ↓reduceIte, nn_lt, nn_le, nn_eq, nI_add, pk_mul, nn_su, gn_lt, gn_le, ng_lt, ng_le, ng_eq, gn_eq, gg_eq, n_m1, n_cl, if_true, if_false, if_pos, if_neg, lt0, x_isM1 hm, ↓b2e (x_isS1 (q := q) (ρ := ρ) (L := L) hP.2 (by omega) hs), h0]
      · have h1 := le_out (n := 9999) (by omega) h h0
        simp (disch := first | omega | assumption) only [f_X10_shortest, ↓bX, ↓bXA, ↓jn_, ↓ob_, ↓b2_, ↓reduceIte, nn_lt, nn_le, nn_eq, nI_add, pk_mul, nn_su, gn_lt, gn_le, ng_lt, ng_le, ng_eq, gn_eq, gg_eq, n_m1, n_cl, if_true, if_false, if_pos, if_neg, lt0, x_isM1 hm, ↓b2e (x_isS1 (q := q) (ρ := ρ) (L := L) hP.2 (by omega) hs), h0, h1]
    · rintro t q ρ L I - ⟨hT, hL, hD, hP, hS, hU, hK, hR⟩
      simp (disch := first | omega | assumption) only [f_X11_shortest, ↓bM, ↓bMA, ↓jn_, ↓ob_, ↓b2_, ↓reduceIte, nn_lt, nn_le, nn_eq, nI_add, pk_mul, nn_su, gn_lt, gn_le, ng_lt, ng_le, ng_eq, gn_eq, gg_eq, n_m1, n_cl, if_true, if_false, if_pos, if_neg, lt0, m_isM1 hm, ↓b2e (m_isS1 (q := q) (ρ := ρ) (L := L) hP.2 (by omega) hs), m_inO (n := 9999) (by omega) h]
  have hbo : ∀ w, shB (gLx G) m n (fun w => tol (cmp (gRu G)) (gLx G) w s (scH (gN G))) (lxW (gLx G)) = some w → w < lxW (gLx G) := fun w h => (abest_in h).1
  obtain ⟨B, hB⟩ : ∃ B, B = shB (gLx G) m n (fun w => tol (cmp (gRu G)) (gLx G) w s (scH (gN G))) (lxW (gLx G)) := ⟨_, rfl⟩
  rw [← hB] at hbo
  cases B with
  | none =>
    refine ⟨-nI 2, sRw G (gRw G), hG', XH_q _ ?_, MH_q _ ?_⟩
    · intro q ρ L I hX
      obtain ⟨J, e1, e2, e3, e4, hA, z⟩ := x_pr hG' s q ρ L I hX
      obtain ⟨⟨hT, hL, hD, hP, hS, hU, hK, hR, hρ⟩, hW⟩ := hX
      refine ⟨ρ, L, J, ?_, e3, ⟨rfl, rfl, hρ⟩, rfl, ?_⟩
      · rw [f_X10_shortest]
        simp (disch := first | omega | assumption) only [↓bX, lt0, ↓b2_, x_isM1 hm, ↓b2e (x_isS1 (q := q) (ρ := ρ) (L := L) hP.2 (by omega) hs), nn_le, nn_lt, nn_eq, if_neg, if_false, if_pos, ↓oe e1]
        rw [x_shL (q := q) (ρ := ρ) (L := L) e4 w2 e2 (fun w hw => tol_le w2 hw) (by omega) (by omega), ← hB, eo_n, if_pos rfl]
      · unfold XW at hW ⊢
        rw [z 3 (by omega)]
        exact hW
    · rintro t q ρ L I ⟨hM, hW⟩
      have hM0 := Ms_0 (x := nI 0) hM
      have hQ := MQ_of hM0
      have h12 := hM0.2.2.2.2.1.1.1
      rw [Nat.zero_add] at h12
      obtain ⟨J, z, e1, e2⟩ := m_shL (q := q) (L := L) (s := s) (m := m) (n := n) hQ w9 w2 h12 (by omega) (by omega) (kk := fun (y28 : Int32) (h29 : jH) =>
            if y28 = -nI 1 then
              some (-nI 2, h29)
            else
              (jp_I 11 12 h29 129 (nI 0)).bind (fun h30 =>
              (jg_R 11 4 h30 129).bind (fun v31 =>
              (ja_I 100 h30 v31 y28).bind (fun v32 =>
              (f_X11_tell 5000 129 (v32.toInt64) h30).bind (fun h33 =>
              j_b2 (f_X11_tollNow 5000 129 y28 (nI s) h33) (fun v35 h34 =>
              (f_X11_tell 5000 129 (v35.toInt64) h34).bind (fun h36 =>
              some (y28, h36))))))))
      rw [← hB, eo_n, if_pos rfl] at e1
      have hin := m_in n 0 9999 (hp q ρ L (j_up I 129 13 (nI 0))) (by omega) (by omega) (by omega)
      rw [if_pos (by omega)] at hin
      refine ⟨rr ρ z, L, J, ?_, Fr.tr (Fr.up Fr.rf rfl) (tTo_N e2), ⟨rfl, rfl, rfl⟩, rfl, ?_⟩
      · rw [f_X11_shortest]
        simp (disch := first | omega | assumption) only [↓bM, ↓ob_, lt0, ↓b2_, m_isM1 hm, ↓b2e (m_isS1 (q := q) (ρ := ρ) (L := L) hQ.2.2.2.2 (by omega) hs), ↓b2e hin, nn_eq, if_neg, if_false]
        exact e1
      · unfold MW at hW ⊢
        rw [e2 129 12 rfl, up_nk (by omega)]
        exact hW
  | some w =>
    have hw := hbo w rfl
    have l1 := (w2.2 w hw).1
    have b594 := tol_le (c := cmp (gRu G)) (s := s) (hr := scH (gN G)) w2 hw
    refine ⟨nI w, sRw G (2, fun i => if i = 0 then (nI (lxN (gLx G) w)).toInt64 else (nI (tol (cmp (gRu G)) (gLx G) w s (scH (gN G)))).toInt64), ⟨w1, w2, w3, w4, w5, w6, w7, by simp only []; omega, w9⟩, XH_q _ ?_, MH_q _ ?_⟩
    · intro q ρ L I hX
      obtain ⟨J, e1, e2, e3, e4, hA, z⟩ := x_pr hG' s q ρ L I hX
      obtain ⟨⟨hT, hL, hD, hP, hS, hU, hK, hR, hρ⟩, hW⟩ := hX
      have j6 : J 6 w = nI (lxN (gLx G) w) := (e4.2 w hw).1.1
      refine ⟨ρ, j_up (j_up L 4 0 (nI (lxN (gLx G) w)).toInt64) 4 1 (nI (tol (cmp (gRu G)) (gLx G) w s (scH (gN G)))).toInt64, j_up J 3 1 (nI 2), ?_, Fr.up e3 (by rcases hA with e | e <;> rw [e] <;> rfl), ⟨rfl, rfl, hρ⟩, by rw [up_ne (by omega), up_ne (by omega)], XW_2⟩
      rw [f_X10_shortest]
      simp (disch := first | omega | assumption) only [↓bX, lt0, ↓b2_, x_isM1 hm, ↓b2e (x_isS1 (q := q) (ρ := ρ) (L := L) hP.2 (by omega) hs), nn_le, nn_lt, nn_eq, if_neg, if_false, if_pos, ↓oe e1]
      rw [x_shL (q := q) (ρ := ρ) (L := L) e4 w2 e2 (fun w hw => tol_le w2 hw) (by omega) (by omega), ← hB, eo_s]
      simp (disch := first | omega | assumption) only [↓bX, ↓bXA, ↓jn_, ↓ob_, ↓b2_, ↓reduceIte, nn_lt, nn_le, nn_eq, nI_add, pk_mul, nn_su, gn_lt, gn_le, ng_lt, ng_le, ng_eq, gn_eq, gg_eq, n_m1, n_cl, if_true, if_false, if_pos, if_neg, lt0, j6, e2, ↓oe (x_tell2 (q := q) (ρ := ρ) (L := L) (I := J))]
    · rintro t q ρ L I ⟨hM, hW⟩
      have hM0 := Ms_0 (x := nI 0) hM
      have hQ := MQ_of hM0
      have h12 := hM0.2.2.2.2.1.1.1
      rw [Nat.zero_add] at h12
      obtain ⟨J, z, e1, e2⟩ := m_shL (q := q) (L := L) (s := s) (m := m) (n := n) hQ w9 w2 h12 (by omega) (by omega) (kk := fun (y28 : Int32) (h29 : jH) =>
            if y28 = -nI 1 then
              some (-nI 2, h29)
            else
              (jp_I 11 12 h29 129 (nI 0)).bind (fun h30 =>
              (jg_R 11 4 h30 129).bind (fun v31 =>
              (ja_I 100 h30 v31 y28).bind (fun v32 =>
              (f_X11_tell 5000 129 (v32.toInt64) h30).bind (fun h33 =>
              j_b2 (f_X11_tollNow 5000 129 y28 (nI s) h33) (fun v35 h34 =>
              (f_X11_tell 5000 129 (v35.toInt64) h34).bind (fun h36 =>
              some (y28, h36))))))))
      rw [← hB, eo_s] at e1
      have hin := m_in n 0 9999 (hp q ρ L (j_up I 129 13 (nI 0))) (by omega) (by omega) (by omega)
      rw [if_pos (by omega)] at hin
      have j4 : J 132 w = nI (lxN (gLx G) w) := ((MQ_N (z := z) (tTo_N e2) hQ).2.1.2 w hw).1.1
      have fr2 : Fr tN (j_up I 129 13 (nI 0)) (j_up J 129 12 (nI 1)) := Fr.up (tTo_N e2) rfl
      obtain ⟨M, z2, g1, g2⟩ := m_tollR (q := q) (L := j_up L 136 0 (nI (lxN (gLx G) w)).toInt64) (s := s) (z := z) hQ w9 w2 h12 hw fr2
      have m12 : M = j_up M 129 12 (nI 1) := up_self (by rw [g2 129 12 rfl, up_eq])
      refine ⟨rr ρ z2, j_up (j_up L 136 0 (nI (lxN (gLx G) w)).toInt64) 136 1 (nI (tol (cmp (gRu G)) (gLx G) w s (scH (gN G)))).toInt64, j_up M 129 12 (nI 2), ?_, Fr.up (Fr.tr (Fr.tr (Fr.up Fr.rf rfl) fr2) (tTo_N g2)) rfl, ⟨rfl, rfl, rfl⟩, by rw [up_ne (by omega), up_ne (by omega)], MW_2⟩
      rw [f_X11_shortest]
      simp (disch := first | omega | assumption) only [↓bM, ↓ob_, lt0, ↓b2_, m_isM1 hm, ↓b2e (m_isS1 (q := q) (ρ := ρ) (L := L) hQ.2.2.2.2 (by omega) hs), ↓b2e hin, nn_eq, if_neg, if_false]
      rw [e1]
      simp (disch := first | omega | assumption) only [↓bM, ↓bMA, ↓jn_, ↓ob_, ↓b2_, ↓reduceIte, nn_lt, nn_le, nn_eq, nI_add, pk_mul, nn_su, gn_lt, gn_le, ng_lt, ng_le, ng_eq, gn_eq, gg_eq, n_m1, n_cl, if_true, if_false, if_pos, if_neg, lt0, up_ne, j4, m_tell]
      rw [g1, b2, m12, m_tell (by omega), ob, up_up]
