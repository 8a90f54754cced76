/-! DIFFER, NEAR -/
theorem Fr_ch {A : Nat} {I J : pI} (h : ∀ c, c < 104 ∨ 106 < c → J c = I c) : Fr (tY A) I J := fun b k e => by
  by_cases g : b < 104 ∨ 106 < b
  · rw [h b g]
  · exfalso
    have : b = 104 ∨ b = 105 ∨ b = 106 := by omega
    rcases this with rfl | rfl | rfl <;> cases e
theorem Fr_mc {I J : pI} (h : ∀ c, c < 148 ∨ 150 < c → J c = I c) : Fr tN I J := fun b k e => by
  by_cases g : b < 148 ∨ 150 < b
  · rw [h b g]
  · exfalso
    have : b = 148 ∨ b = 149 ∨ b = 150 := by omega
    rcases this with rfl | rfl | rfl <;> cases e
theorem ML_N {g : gL} {I J : pI} (h : Fr tN I J) (hL : ML g I) : ML g J := ML_k (h 129 2 rfl) (h.row 131 (fun k => rfl)) (h.row 132 (fun k => rfl)) (h.row 133 (fun k => rfl)) hL
theorem k_differ (a b : Int32) : ∀ G, Wr G → ∃ v G', Wr G' ∧ XH (f_X10_differ 5000 0 a b) G v G' ∧ MH (f_X11_differ 5000 129 a b) G v G' := by
  intro G hG
  have hG' := hG
  obtain ⟨w1, w2, w3, w4, w5, w6, w7, w8, w9⟩ := hG
  have hW10 := w2.1
  have fin : ∀ v, (∀ q ρ L I, Xr G ρ L I → f_X10_differ 5000 0 a b (hp q ρ L I) = some (v, hp q ρ L I)) → (∀ t q ρ L I, Mr t G ρ L I → Ms t G ρ (j_up I 129 13 (nI 0)) → f_X11_differ 5000 129 a b (hp q ρ L I) = some (v, hp q ρ L (j_up I 129 13 (nI 0)))) → ∃ v G', Wr G' ∧ XH (f_X10_differ 5000 0 a b) G v G' ∧ MH (f_X11_differ 5000 129 a b) G v G' :=
    fun v hx hm => ⟨v, G, hG', XH_0 hx, MH_0 (fun t q ρ L I h => hm t q ρ L I h (Ms_0 h.1))⟩
  rcases ixo a (lxW (gLx G)) (by omega) with h | ⟨w, hw, rfl⟩
  · refine fin (-nI 1) ?_ ?_
    · rintro q ρ L I ⟨⟨hT, hL, hD, hP, hS, hU, hK, hR, hρ⟩, hW⟩
      simp (disch := first | omega | assumption) only [f_X10_differ, ↓bX, ↓bXA, ↓jn_, ↓ob_, ↓b2_, ↓reduceIte, nn_lt, nn_le, nn_eq, nI_add, pk_mul, nn_su, gn_lt, gn_le, ng_lt, ng_le, ng_eq, gn_eq, gg_eq, n_m1, n_cl, if_true, if_false, if_pos, if_neg, lt0, ↓b2e (x_isW0 (q := q) (ρ := ρ) (L := L) hL.1 h)]
    · rintro t q ρ L I - ⟨hT, hL, hD, hP, hS, hU, hK, hR⟩
      simp (disch := first | omega | assumption) only [f_X11_differ, ↓bM, ↓bMA, ↓jn_, ↓ob_, ↓b2_, ↓reduceIte, nn_lt, nn_le, nn_eq, nI_add, pk_mul, nn_su, gn_lt, gn_le, ng_lt, ng_le, ng_eq, gn_eq, gg_eq, n_m1, n_cl, if_true, if_false, if_pos, if_neg, lt0, ↓b2e (m_isW0 (q := q) (ρ := ρ) (L := L) hL.1 (by omega) h)]
  rcases ixo b (lxW (gLx G)) (by omega) with h | ⟨u, hu, rfl⟩
  · refine fin (-nI 1) ?_ ?_
    · rintro q ρ L I ⟨⟨hT, hL, hD, hP, hS, hU, hK, hR, hρ⟩, hW⟩
      simp (disch := first | omega | assumption) only [f_X10_differ, ↓bX, ↓bXA, ↓jn_, ↓ob_, ↓b2_, ↓reduceIte, nn_lt, nn_le, nn_eq, nI_add, pk_mul, nn_su, gn_lt, gn_le, ng_lt, ng_le, ng_eq, gn_eq, gg_eq, n_m1, n_cl, if_true, if_false, if_pos, if_neg, lt0, ↓b2e (x_isW1 (q := q) (ρ := ρ) (L := L) hL.1 (by omega) hw), ↓b2e (x_isW0 (q := q) (ρ := ρ) (L := L) hL.1 h)]
    · rintro t q ρ L I - ⟨hT, hL, hD, hP, hS, hU, hK, hR⟩
      simp (disch := first | omega | assumption) only [f_X11_differ, ↓bM, ↓bMA, ↓jn_, ↓ob_, ↓b2_, ↓reduceIte, nn_lt, nn_le, nn_eq, nI_add, pk_mul, nn_su, gn_lt, gn_le, ng_lt, ng_le, ng_eq, gn_eq, gg_eq, n_m1, n_cl, if_true, if_false, if_pos, if_neg, lt0, ↓b2e (m_isW1 (q := q) (ρ := ρ) (L := L) hL.1 (by omega) hw), ↓b2e (m_isW0 (q := q) (ρ := ρ) (L := L) hL.1 (by omega) h)]
  have d1 := dif_le (v := true) w2 hw hu
  refine ⟨nI (dif false (gLx G) w u), sRw G (1, fun _ => (nI (dif true (gLx G) w u)).toInt64), ⟨w1, w2, w3, w4, w5, w6, w7, by simp only []; omega, w9⟩, XH_q _ ?_, MH_q _ ?_⟩
  · rintro q ρ L I ⟨⟨hT, hL, hD, hP, hS, hU, hK, hR, hρ⟩, hW⟩
    obtain ⟨hA, hTf⟩ := XR_Tf hR
    obtain ⟨J, e1, e2⟩ := x_difV (q := q) (ρ := ρ) (L := L) hL w2 hw hu
    obtain ⟨K, f1, f2⟩ := x_difL (q := q) (ρ := ρ) (L := j_up L 4 0 (nI (dif true (gLx G) w u)).toInt64) (I := j_up J 3 1 (nI 1)) (XL_k (fun b _ _ => by rw [up_ne (by omega), e2 b (by omega)]) hL) w2 hw hu
    refine ⟨ρ, j_up L 4 0 (nI (dif true (gLx G) w u)).toInt64, K, ?_, Fr.tr (Fr.up (Fr_ch e2) (by rcases hA with e | e <;> rw [e] <;> rfl)) (Fr_ch f2), ⟨rfl, rfl, hρ⟩, by rw [up_ne (by omega)], ?_⟩
    · simp (disch := first | omega | assumption) only [f_X10_differ, ↓bX, ↓bXA, ↓jn_, ↓ob_, ↓b2_, ↓reduceIte, nn_lt, nn_le, nn_eq, nI_add, pk_mul, nn_su, gn_lt, gn_le, ng_lt, ng_le, ng_eq, gn_eq, gg_eq, n_m1, n_cl, if_true, if_false, if_pos, if_neg, lt0, ↓b2e (x_isW1 (q := q) (ρ := ρ) (L := L) hL.1 (by omega) hw), ↓b2e (x_isW1 (q := q) (ρ := ρ) (L := L) hL.1 (by omega) hu), ↓b2e e1, ↓oe (x_tell1 (q := q) (ρ := ρ) (L := L) (I := J)), ↓b2e f1]
    · refine ⟨by rw [f2 3 (by omega)]; exact up_eq, fun i hi => ?_⟩
      have : i = 0 := by simp only [] at hi; omega
      subst this
      exact up_eq
  · rintro t q ρ L I ⟨hM, hW⟩
    have hM0 := Ms_0 (x := nI 0) hM
    obtain ⟨hT, hL, hD, hP, hS, hU, hK, hR⟩ := hM0
    have fr1 : Fr tN (j_up I 129 13 (nI 0)) (j_up (j_up I 129 13 (nI 0)) 129 12 (nI 0)) := Fr.up Fr.rf rfl
    obtain ⟨J, e1, e2⟩ := m_dif (q := q) (ρ := ρ) (L := L) (I := j_up (j_up I 129 13 (nI 0)) 129 12 (nI 0)) (v := true) (ML_N fr1 hL) w2 hw hu
    rw [bo_t] at e1
    have j12 : J = j_up J 129 12 (nI 0) := up_self (by rw [e2 129 (by omega), up_eq])
    have fr2 : Fr tN (j_up I 129 13 (nI 0)) (j_up J 129 12 (nI 1)) := Fr.up (Fr.tr fr1 (Fr_mc e2)) rfl
    obtain ⟨K, f1, f2⟩ := m_dif (q := q) (ρ := ρ) (L := j_up L 136 0 (nI (dif true (gLx G) w u)).toInt64) (I := j_up J 129 12 (nI 1)) (v := false) (ML_N fr2 hL) w2 hw hu
    rw [bo_f] at f1
    have tl := m_tell (q := q) (ρ := ρ) (L := L) (I := J) (r := 0) (v := (nI (dif true (gLx G) w u)).toInt64) (by omega)
    rw [← j12] at tl
    refine ⟨ρ, j_up L 136 0 (nI (dif true (gLx G) w u)).toInt64, K, ?_, Fr.tr (Fr.tr (Fr.up Fr.rf rfl) fr2) (Fr_mc f2), ⟨rfl, rfl, rfl⟩, by rw [up_ne (by omega)], ?_⟩
    · simp (disch := first | omega | assumption) only [f_X11_differ, ↓bM, ↓bMA, ↓jn_, ↓ob_, ↓b2_, ↓reduceIte, nn_lt, nn_le, nn_eq, nI_add, pk_mul, nn_su, gn_lt, gn_le, ng_lt, ng_le, ng_eq, gn_eq, gg_eq, n_m1, n_cl, if_true, if_false, if_pos, if_neg, lt0, ↓b2e (m_isW1 (q := q) (ρ := ρ) (L := L) hL.1 (by omega) hw), ↓b2e (m_isW1 (q := q) (ρ := ρ) (L := L) hL.1 (by omega) hu), ↓b2e e1, ↓oe tl, ↓b2e f1]
    · refine ⟨by rw [f2 129 (by omega)]; exact up_eq, fun i hi => ?_⟩
      have : i = 0 := by simp only [] at hi; omega
      subst this
      exact up_eq
def lbN (g : gL) (w : Nat) : Nat := (lxB g w).toNatClampNeg
theorem lbN_c {g : gL} {w : Nat} (hg : WL g) (hw : w < lxW g) (h : isC g w = true) : lxB g w = nI (lbN g w) ∧ lbN g w ≤ 9 := by
  rcases (hg.2 w hw).2.2.2 with e | ⟨m, hm, e⟩
  · unfold isC at h
    rw [e] at h
    simp at h
  · unfold lbN
    rw [e, n_cl (by omega)]
    exact ⟨rfl, hm⟩
def shr (g : gL) (w o : Nat) : Bool := mean g w (lxA g o) || (isC g o && mean g w (lbN g o))
theorem shr_c {g : gL} {w o : Nat} (hg : WL g) (hw : w < lxW g) (ho : o < lxW g) : shr g w o = shr g o w := by
  have a1 := (hg.2 w hw).2.2.1
  have a2 := (hg.2 o ho).2.2.1
  unfold shr mean isC lbN
  rcases (hg.2 w hw).2.2.2 with e | ⟨m, hm, e⟩ <;> rcases (hg.2 o ho).2.2.2 with f | ⟨n, hn, f⟩
  · rw [e, f]
    simp (disch := first | omega | assumption) only [gn_eq, decide_true, Bool.not_true, Bool.false_and, Bool.or_false, decide_false]
    by_cases h : lxA g w = lxA g o
    · simp [h]
    · have h' : ¬ lxA g o = lxA g w := fun x => h x.symm
      simp [h, h']
  · rw [e, f]
    simp (disch := first | omega | assumption) only [gn_eq, ng_eq, n_cl, nn_eq, decide_true, decide_false, Bool.not_true, Bool.not_false, Bool.false_and, Bool.true_and, Bool.or_false]
    by_cases h : lxA g w = lxA g o
    · simp [h]
    · have h' : ¬ lxA g o = lxA g w := fun x => h x.symm
      by_cases h2 : lxA g w = n
      · simp [h, h', h2]
      · have h3 : ¬ n = lxA g w := fun x => h2 x.symm
        simp [h, h', h2, h3]
  · rw [e, f]
    simp (disch := first | omega | assumption) only [gn_eq, ng_eq, n_cl, nn_eq, decide_true, decide_false, Bool.not_true, Bool.not_false, Bool.false_and, Bool.true_and, Bool.or_false]
    by_cases h : lxA g w = lxA g o
    · simp [h]
    · have h' : ¬ lxA g o = lxA g w := fun x => h x.symm
      by_cases h2 : m = lxA g o
      · simp [h, h', h2]
      · have h3 : ¬ lxA g o = m := fun x => h2 x.symm
        simp [h, h', h2, h3]
  · rw [e, f]
    simp (disch := first | omega | assumption) only [ng_eq, n_cl, nn_eq, decide_false, Bool.not_false, Bool.true_and]
    by_cases h : lxA g w = lxA g o
    · simp [h]
    · have h' : ¬ lxA g o = lxA g w := fun x => h x.symm
      by_cases h2 : m = lxA g o
      · simp [h2]
      · have h2' : ¬ lxA g o = m := fun x => h2 x.symm
        by_cases h3 : lxA g w = n
        · simp [h3]
        · have h3' : ¬ n = lxA g w := fun x => h3 x.symm
          by_cases h4 : m = n
          · simp [h4]
          · have h4' : ¬ n = m := fun x => h4 x.symm
            simp [h, h', h2, h2', h3, h3', h4, h4']
theorem x_share {q : pQ} {ρ : pP} {L : pL} {I : pI} {g : gL} {w o : Nat} (hL : XL g I) (hg : WL g) (hw : w < lxW g) (ho : o < lxW g) : f_X3_shareMeaning 5000 5 (nI w) (nI o) (hp q ρ L I) = some (bo (shr g w o), hp q ρ L I) := by
  have hW := hg.1
  have a2 := (hg.2 o ho).2.2.1
  have e7 : I 7 o = nI (lxA g o) := (hL.2 o ho).1.2.1
  have e8 : I 8 o = lxB g o := (hL.2 o ho).1.2.2.1
  have m1 := x_means (q := q) (ρ := ρ) (L := L) hL hg hw (m := lxA g o) (by omega)
  have c1 := x_isComp (q := q) (ρ := ρ) (L := L) hL hg ho
  unfold shr
  cases h1 : mean g w (lxA g o) with
  | true =>
    rw [h1, bo_t] at m1
    simp (disch := first | omega | assumption) only [f_X3_shareMeaning, ↓bX, ↓bXA, ↓jn_, ↓ob_, ↓b2_, ↓reduceIte, nn_lt, nn_le, nn_eq, nI_add, pk_mul, nn_su, gn_lt, gn_le, ng_lt, ng_le, ng_eq, gn_eq, gg_eq, n_m1, n_cl, if_true, if_false, if_pos, if_neg, lt0, e7, ↓b2e m1, Bool.true_or, bo_t]
  | false =>
    rw [h1, bo_f] at m1
    cases h2 : isC g o with
    | false =>
      rw [h2, bo_f] at c1
      simp (disch := first | omega | assumption) only [f_X3_shareMeaning, ↓bX, ↓bXA, ↓jn_, ↓ob_, ↓b2_, ↓reduceIte, nn_lt, nn_le, nn_eq, nI_add, pk_mul, nn_su, gn_lt, gn_le, ng_lt, ng_le, ng_eq, gn_eq, gg_eq, n_m1, n_cl, if_true, if_false, if_pos, if_neg, lt0, e7, ↓b2e m1, ↓b2e c1, Bool.false_or, Bool.false_and, bo_f]
    | true =>
      rw [h2, bo_t] at c1
      obtain ⟨l1, l2⟩ := lbN_c hg ho h2
      rw [l1] at e8
      have m2 := x_means (q := q) (ρ := ρ) (L := L) hL hg hw (m := lbN g o) (by omega)
      cases h3 : mean g w (lbN g o) with
      | true =>
        rw [h3, bo_t] at m2
        simp (disch := first | omega | assumption) only [f_X3_shareMeaning, ↓bX, ↓bXA, ↓jn_, ↓ob_, ↓b2_, ↓reduceIte, nn_lt, nn_le, nn_eq, nI_add, pk_mul, nn_su, gn_lt, gn_le, ng_lt, ng_le, ng_eq, gn_eq, gg_eq, n_m1, n_cl, if_true, if_false, if_pos, if_neg, lt0, e7, ↓b2e m1, ↓b2e c1, e8, ↓b2e m2, Bool.false_or, Bool.and_self, bo_t]
      | false =>
        rw [h3, bo_f] at m2
        simp (disch := first | omega | assumption) only [f_X3_shareMeaning, ↓bX, ↓bXA, ↓jn_, ↓ob_, ↓b2_, ↓reduceIte, nn_lt, nn_le, nn_eq, nI_add, pk_mul, nn_su, gn_lt, gn_le, ng_lt, ng_le, ng_eq, gn_eq, gg_eq, n_m1, n_cl, if_true, if_false, if_pos, if_neg, lt0, e7, ↓b2e m1, ↓b2e c1, e8, ↓b2e m2, Bool.false_or, Bool.and_false, bo_f]
theorem m_share {q : pQ} {ρ : pP} {L : pL} {I : pI} {g : gL} {w o : Nat} (hL : ML g I) (hg : WL g) (hw : w < lxW g) (ho : o < lxW g) : f_X11_share 5000 129 (nI w) (nI o) (hp q ρ L I) = some (bo (shr g o w), hp q ρ L I) := by
  have hW := hg.1
  have a2 := (hg.2 w hw).2.2.1
  have e7 : I 133 (2 * w) = nI (lxA g w) := (hL.2 w hw).1.2.1
  have e8 : I 133 (2 * w + 1) = lxB g w := (hL.2 w hw).1.2.2
  have m1 := m_means (q := q) (ρ := ρ) (L := L) hL hg ho (m := lxA g w) (by omega)
  unfold shr
  cases h1 : mean g o (lxA g w) with
  | true =>
    rw [h1, bo_t] at m1
    simp (disch := first | omega | assumption) only [f_X11_share, ↓bM, ↓bMA, ↓jn_, ↓ob_, ↓b2_, ↓reduceIte, nn_lt, nn_le, nn_eq, nI_add, pk_mul, nn_su, gn_lt, gn_le, ng_lt, ng_le, ng_eq, gn_eq, gg_eq, n_m1, n_cl, if_true, if_false, if_pos, if_neg, lt0, e7, ↓b2e m1, Bool.true_or, bo_t]
  | false =>
    rw [h1, bo_f] at m1
    cases h2 : isC g w with
    | false =>
      have e9 : lxB g w = -nI 1 := by
        unfold isC at h2
        simp at h2
        exact h2
      rw [e9] at e8
      simp (disch := first | omega | assumption) only [f_X11_share, ↓bM, ↓bMA, ↓jn_, ↓ob_, ↓b2_, ↓reduceIte, nn_lt, nn_le, nn_eq, nI_add, pk_mul, nn_su, gn_lt, gn_le, ng_lt, ng_le, ng_eq, gn_eq, gg_eq, n_m1, n_cl, if_true, if_false, if_pos, if_neg, lt0, e7, ↓b2e m1, e8, Bool.false_or, Bool.false_and, bo_f]
    | true =>
      obtain ⟨l1, l2⟩ := lbN_c hg hw h2
      rw [l1] at e8
      have m2 := m_means (q := q) (ρ := ρ) (L := L) hL hg ho (m := lbN g w) (by omega)
      cases h3 : mean g o (lbN g w) with
      | true =>
        rw [h3, bo_t] at m2
        simp (disch := first | omega | assumption) only [f_X11_share, ↓bM, ↓bMA, ↓jn_, ↓ob_, ↓b2_, ↓reduceIte, nn_lt, nn_le, nn_eq, nI_add, pk_mul, nn_su, gn_lt, gn_le, ng_lt, ng_le, ng_eq, gn_eq, gg_eq, n_m1, n_cl, if_true, if_false, if_pos, if_neg, lt0, e7, ↓b2e m1, e8, ↓b2e m2, Bool.false_or, Bool.and_self, bo_t]
      | false =>
        rw [h3, bo_f] at m2
        simp (disch := first | omega | assumption) only [f_X11_share, ↓bM, ↓bMA, ↓jn_, ↓ob_, ↓b2_, ↓reduceIte, nn_lt, nn_le, nn_eq, nI_add, pk_mul, nn_su, gn_lt, gn_le, ng_lt, ng_le, ng_eq, gn_eq, gg_eq, n_m1, n_cl, if_true, if_false, if_pos, if_neg, lt0, e7, ↓b2e m1, e8, ↓b2e m2, Bool.false_or, Bool.and_false, bo_f]
def nrB (g : gL) (w n : Nat) : Option Nat := abest (fun o => !decide (o = w)) (fun o v => decide (dif false g w o < dif false g w v)) n
theorem x_nearL {q : pQ} {ρ : pP} {L : pL} {I : pI} {g : gL} {w : Nat} (hL : XL g I) (hg : WL g) (hw : w < lxW g) {kk : Int32 → Int32 → jH → Option (Int32 × jH)} : ∃ J l, f_X10_near_L17 5000 0 (nI w) kk 5000 (-nI 1) (nI 0) (nI 0) (hp q ρ L I) = kk (eo (nrB g w (lxW g))) l (hp q ρ L J) ∧ (∀ v, nrB g w (lxW g) = some v → l = nI (dif false g w v)) ∧ ∀ c, c < 104 ∨ 106 < c → J c = I c := by
  have hW := hg.1
  obtain ⟨⟨b, l, J⟩, e1, e2, e3, e4⟩ := loE (fun n (y : Option Nat × Int32 × pI) j => f_X10_near_L17 5000 0 (nI w) kk n (eo y.1) y.2.1 (nI j) (hp q ρ L y.2.2)) (fun y => kk (eo y.1) y.2.1 (hp q ρ L y.2.2)) (lxW g) (fun j y => y.1 = nrB g w j ∧ (∀ v, y.1 = some v → y.2.1 = nI (dif false g w v)) ∧ ∀ c, c < 104 ∨ 106 < c → y.2.2 c = I c) (by
    rintro n ⟨b, l, J⟩ ⟨p1, p2, p3⟩
    simp only [] at p1 p2 p3 ⊢
    have e5 : J 5 0 = nI (lxW g) := by rw [p3 5 (by omega)]; exact hL.1
    rw [f_X10_near_L17]
    simp (disch := first | omega | assumption) only [↓bX, ↓bXA, ↓jn_, ↓ob_, ↓b2_, ↓reduceIte, nn_lt, nn_le, nn_eq, nI_add, pk_mul, nn_su, gn_lt, gn_le, ng_lt, ng_le, ng_eq, gn_eq, gg_eq, n_m1, n_cl, if_true, if_false, if_pos, if_neg, lt0, e5, Nat.le_refl]) (by
    rintro n ⟨b, l, J⟩ j hj ⟨p1, p2, p3⟩
    simp only [] at p1 p2 p3
    have hL' : XL g J := XL_k (fun b _ _ => p3 b (by omega)) hL
    have e5 := hL'.1
    by_cases hjw : j = w
    · subst hjw
      refine ⟨(b, l, J), ?_, ?_, p2, p3⟩
      · simp only []
        rw [f_X10_near_L17]
        simp (disch := first | omega | assumption) only [↓bX, ↓bXA, ↓jn_, ↓ob_, ↓b2_, ↓reduceIte, nn_lt, nn_le, nn_eq, nI_add, pk_mul, nn_su, gn_lt, gn_le, ng_lt, ng_le, ng_eq, gn_eq, gg_eq, n_m1, n_cl, if_true, if_false, if_pos, if_neg, lt0, e5]
      · unfold nrB at p1 ⊢
        rw [abest_s, bsS_f (p := fun o => !decide (o = j)) (by simp)]
        exact p1
    · have hpt : (fun o => !decide (o = w)) j = true := by simp [hjw]
      obtain ⟨K, f1, f2⟩ := x_difL (q := q) (ρ := ρ) (L := L) hL' hg hw hj
      have d1 := dif_le (v := false) hg hw hj
      have k1 : ∀ c, c < 104 ∨ 106 < c → K c = I c := fun c hc => (f2 c hc).trans (p3 c hc)
      cases b with
      | none =>
        refine ⟨(some j, nI (dif false g w j), K), ?_, ?_, fun v hv => by cases hv; rfl, k1⟩
        · simp only [eo_n, eo_s]
          rw [f_X10_near_L17]
          simp (disch := first | omega | assumption) only [↓bX, ↓bXA, ↓jn_, ↓ob_, ↓b2_, ↓reduceIte, nn_lt, nn_le, nn_eq, nI_add, pk_mul, nn_su, gn_lt, gn_le, ng_lt, ng_le, ng_eq, gn_eq, gg_eq, n_m1, n_cl, if_true, if_false, if_pos, if_neg, lt0, e5, ↓b2e f1]
        · unfold nrB at p1 ⊢
          rw [abest_s, ← p1, bsS_n hpt]
      | some v =>
        have hvn := (abest_in p1.symm).1
        have d2 := dif_le (v := false) hg hw (b := v) (by omega)
        have hl := p2 v rfl
        by_cases hlt : dif false g w j < dif false g w v
        · refine ⟨(some j, nI (dif false g w j), K), ?_, ?_, fun v hv => by cases hv; rfl, k1⟩
          · simp only [eo_s]
            rw [f_X10_near_L17]
            simp (disch := first | omega | assumption) only [↓bX, ↓bXA, ↓jn_, ↓ob_, ↓b2_, ↓reduceIte, nn_lt, nn_le, nn_eq, nI_add, pk_mul, nn_su, gn_lt, gn_le, ng_lt, ng_le, ng_eq, gn_eq, gg_eq, n_m1, n_cl, if_true, if_false, if_pos, if_neg, lt0, e5, ↓b2e f1, hl]
          · unfold nrB at p1 ⊢
            rw [abest_s, ← p1, bsS_s (r := fun o v => decide (dif false g w o < dif false g w v)) hpt (decide_eq_true hlt)]
        · refine ⟨(some v, l, K), ?_, ?_, fun v' hv' => by cases hv'; exact hl, k1⟩
          · simp only [eo_s]
            rw [f_X10_near_L17]
            simp (disch := first | omega | assumption) only [↓bX, ↓bXA, ↓jn_, ↓ob_, ↓b2_, ↓reduceIte, nn_lt, nn_le, nn_eq, nI_add, pk_mul, nn_su, gn_lt, gn_le, ng_lt, ng_le, ng_eq, gn_eq, gg_eq, n_m1, n_cl, if_true, if_false, if_pos, if_neg, lt0, e5, ↓b2e f1, hl]
          · unfold nrB at p1 ⊢
            rw [abest_s, ← p1, bsS_k (r := fun o v => decide (dif false g w o < dif false g w v)) hpt (decide_eq_false hlt)]) (lxW g) 5000 (none, nI 0, I) 0 (by omega) (by omega) ⟨rfl, fun v hv => (by cases hv), fun c _ => rfl⟩
  simp only [eo_n] at e1 e2 e3 e4
  refine ⟨J, l, ?_, fun v hv => e3 v (e2.trans hv), e4⟩
  rw [← e2]
  exact e1
theorem m_nearL {q : pQ} {ρ : pP} {L : pL} {I : pI} {g : gL} {w : Nat} (hL : ML g I) (hg : WL g) (hw : w < lxW g) {kk : Int32 → jH → Option (Int32 × jH)} : ∃ J, f_X11_near_L19 5000 129 (nI w) kk 5000 (-nI 1) (nI 0) (hp q ρ L I) = kk (eo (nrB g w (lxW g))) (hp q ρ L J) ∧ ∀ c, c < 148 ∨ 150 < c → J c = I c := by
  have hW := hg.1
  obtain ⟨⟨b, J⟩, e1, e2, e3⟩ := loE (fun n (y : Option Nat × pI) j => f_X11_near_L19 5000 129 (nI w) kk n (eo y.1) (nI j) (hp q ρ L y.2)) (fun y => kk (eo y.1) (hp q ρ L y.2)) (lxW g) (fun j y => y.1 = nrB g w j ∧ ∀ c, c < 148 ∨ 150 < c → y.2 c = I c) (by
    rintro n ⟨b, J⟩ ⟨p1, p3⟩
    simp only [] at p1 p3 ⊢
    have e5 : J 129 2 = nI (lxW g) := by rw [p3 129 (by omega)]; exact hL.1
    rw [f_X11_near_L19]
    simp (disch := first | omega | assumption) only [↓bM, ↓bMA, ↓jn_, ↓ob_, ↓b2_, ↓reduceIte, nn_lt, nn_le, nn_eq, nI_add, pk_mul, nn_su, gn_lt, gn_le, ng_lt, ng_le, ng_eq, gn_eq, gg_eq, n_m1, n_cl, if_true, if_false, if_pos, if_neg, lt0, e5, Nat.le_refl]) (by
    rintro n ⟨b, J⟩ j hj ⟨p1, p3⟩
    simp only [] at p1 p3
    have hL' : ML g J := ML_N (Fr_mc p3) hL
    have e5 := hL'.1
    by_cases hjw : j = w
    · subst hjw
      refine ⟨(b, J), ?_, ?_, p3⟩
      · simp only []
        rw [f_X11_near_L19]
        simp (disch := first | omega | assumption) only [↓bM, ↓bMA, ↓jn_, ↓ob_, ↓b2_, ↓reduceIte, nn_lt, nn_le, nn_eq, nI_add, pk_mul, nn_su, gn_lt, gn_le, ng_lt, ng_le, ng_eq, gn_eq, gg_eq, n_m1, n_cl, if_true, if_false, if_pos, if_neg, lt0, e5]
      · unfold nrB at p1 ⊢
        rw [abest_s, bsS_f (p := fun o => !decide (o = j)) (by simp)]
        exact p1
    · have hpt : (fun o => !decide (o = w)) j = true := by simp [hjw]
      cases b with
      | none =>
        refine ⟨(some j, J), ?_, ?_, p3⟩
        · simp only [eo_n, eo_s]
          rw [f_X11_near_L19]
          simp (disch := first | omega | assumption) only [↓bM, ↓bMA, ↓jn_, ↓ob_, ↓b2_, ↓reduceIte, nn_lt, nn_le, nn_eq, nI_add, pk_mul, nn_su, gn_lt, gn_le, ng_lt, ng_le, ng_eq, gn_eq, gg_eq, n_m1, n_cl, if_true, if_false, if_pos, if_neg, lt0, e5]
        · unfold nrB at p1 ⊢
          rw [abest_s, ← p1, bsS_n hpt]
      | some v =>
        have hvn := (abest_in p1.symm).1
        obtain ⟨K, f1, f2⟩ := m_dif (q := q) (ρ := ρ) (L := L) (v := false) hL' hg hw hj
        obtain ⟨M, g1, g2⟩ := m_dif (q := q) (ρ := ρ) (L := L) (v := false) (ML_N (Fr_mc f2) hL') hg hw (b := v) (by omega)
        rw [bo_f] at f1 g1
        have d1 := dif_le (v := false) hg hw hj
        have d2 := dif_le (v := false) hg hw (b := v) (by omega)
        have k1 : ∀ c, c < 148 ∨ 150 < c → M c = I c := fun c hc => ((g2 c hc).trans (f2 c hc)).trans (p3 c hc)
        by_cases hlt : dif false g w j < dif false g w v
        · refine ⟨(some j, M), ?_, ?_, k1⟩
          · simp only [eo_s]
            rw [f_X11_near_L19]
            simp (disch := first | omega | assumption) only [↓bM, ↓bMA, ↓jn_, ↓ob_, ↓b2_, ↓reduceIte, nn_lt, nn_le, nn_eq, nI_add, pk_mul, nn_su, gn_lt, gn_le, ng_lt, ng_le, ng_eq, gn_eq, gg_eq, n_m1, n_cl, if_true, if_false, if_pos, if_neg, lt0, e5, ↓b2e f1, ↓b2e g1]
          · unfold nrB at p1 ⊢
            rw [abest_s, ← p1, bsS_s (r := fun o v => decide (dif false g w o < dif false g w v)) hpt (decide_eq_true hlt)]
        · refine ⟨(some v, M), ?_, ?_, k1⟩
          · simp only [eo_s]
            rw [f_X11_near_L19]
            simp (disch := first | omega | assumption) only [↓bM, ↓bMA, ↓jn_, ↓ob_, ↓b2_, ↓reduceIte, nn_lt, nn_le, nn_eq, nI_add, pk_mul, nn_su, gn_lt, gn_le, ng_lt, ng_le, ng_eq, gn_eq, gg_eq, n_m1, n_cl, if_true, if_false, if_pos, if_neg, lt0, e5, ↓b2e f1, ↓b2e g1]
          · unfold nrB at p1 ⊢
            rw [abest_s, ← p1, bsS_k (r := fun o v => decide (dif false g w o < dif false g w v)) hpt (decide_eq_false hlt)]) (lxW g) 5000 (none, I) 0 (by omega) (by omega) ⟨rfl, fun c _ => rfl⟩
  simp only [eo_n] at e1 e2 e3
  refine ⟨J, ?_, e3⟩
  rw [← e2]
  exact e1
theorem k_near (a : Int32) : ∀ G, Wr G → ∃ v G', Wr G' ∧ XH (f_X10_near 5000 0 a) G v G' ∧ MH (f_X11_near 5000 129 a) G v G' := by
  intro G hG
  have hG' := hG
  obtain ⟨w1, w2, w3, w4, w5, w6, w7, w8, w9⟩ := hG
  have hW10 := w2.1
  rcases ixo a (lxW (gLx G)) (by omega) with h | ⟨w, hw, rfl⟩
  · refine ⟨-nI 1, G, hG', XH_0 ?_, MH_0 ?_⟩
    · rintro q ρ L I ⟨⟨hT, hL, hD, hP, hS, hU, hK, hR, hρ⟩, hW⟩
      simp (disch := first | omega | assumption) only [f_X10_near, ↓bX, ↓bXA, ↓jn_, ↓ob_, ↓b2_, ↓reduceIte, nn_lt, nn_le, nn_eq, nI_add, pk_mul, nn_su, gn_lt, gn_le, ng_lt, ng_le, ng_eq, gn_eq, gg_eq, n_m1, n_cl, if_true, if_false, if_pos, if_neg, lt0, ↓b2e (x_isW0 (q := q) (ρ := ρ) (L := L) hL.1 h)]
    · rintro t q ρ L I ⟨hM, -⟩
      obtain ⟨hT, hL, hD, hP, hS, hU, hK, hR⟩ := Ms_0 (x := nI 0) hM
      simp (disch := first | omega | assumption) only [f_X11_near, ↓bM, ↓bMA, ↓jn_, ↓ob_, ↓b2_, ↓reduceIte, nn_lt, nn_le, nn_eq, nI_add, pk_mul, nn_su, gn_lt, gn_le, ng_lt, ng_le, ng_eq, gn_eq, gg_eq, n_m1, n_cl, if_true, if_false, if_pos, if_neg, lt0, ↓b2e (m_isW0 (q := q) (ρ := ρ) (L := L) hL.1 (by omega) h)]
  cases hB : nrB (gLx G) w (lxW (gLx G)) with
  | none =>
    refine ⟨-nI 2, sRw G (gRw G), hG', XH_q _ ?_, MH_q _ ?_⟩
    · rintro q ρ L I ⟨⟨hT, hL, hD, hP, hS, hU, hK, hR, hρ⟩, hW⟩
      obtain ⟨J, l, e1, e2, e3⟩ := x_nearL (q := q) (ρ := ρ) (L := L) hL w2 hw (kk := fun (y15 : Int32) (y16 : Int32) (h17 : jH) =>
        if y15 = -nI 1 then
          some (-nI 2, h17)
        else
          (jg_R 10 1 h17 0).bind (fun v18 =>
          (jg_R 10 2 h17 0).bind (fun v19 =>
          j_b2 (f_X3_shareMeaning 5000 v19 (nI w) y15 h17) (fun v21 h20 =>
            if v21 = nI 0 then
              (f_X6_tell_ 5000 v18 (y16.toInt64) 0 h20).bind (fun h26 =>
              some (y15, h26))
            else
              (f_X6_tell_ 5000 v18 (y16.toInt64) 1 h20).bind (fun h26 =>
              some (y15, h26))))))
      rw [hB, eo_n, if_pos rfl] at e1
      refine ⟨ρ, L, J, ?_, Fr_ch e3, ⟨rfl, rfl, hρ⟩, rfl, ?_⟩
      · rw [f_X10_near]
        simp (disch := first | omega | assumption) only [↓bX, ↓jn_, lt0, ↓b2e (x_isW1 (q := q) (ρ := ρ) (L := L) hL.1 (by omega) hw), nn_eq, if_neg, if_false]
        exact e1
      · unfold XW at hW ⊢
        rw [e3 3 (by omega)]
        exact hW
    · rintro t q ρ L I ⟨hM, hW⟩
      obtain ⟨hT, hL, hD, hP, hS, hU, hK, hR⟩ := Ms_0 (x := nI 0) hM
      obtain ⟨J, e1, e2⟩ := m_nearL (q := q) (ρ := ρ) (L := L) hL w2 hw (kk := fun (y12 : Int32) (h13 : jH) =>
        if y12 = -nI 1 then
          some (-nI 2, h13)
        else
          (jp_I 11 12 h13 129 (nI 0)).bind (fun h14 =>
          j_b2 (f_X11_differBy 5000 129 (nI w) y12 (nI 0) h14) (fun v16 h15 =>
          (f_X11_tell 5000 129 (v16.toInt64) h15).bind (fun h17 =>
          j_b2 (f_X11_share 5000 129 (nI w) y12 h17) (fun v19 h18 =>
            if v19 = nI 0 then
              (f_X11_tell 5000 129 0 h18).bind (fun h23 =>
              some (y12, h23))
            else
              (f_X11_tell 5000 129 1 h18).bind (fun h23 =>
              some (y12, h23)))))))
      rw [hB, eo_n, if_pos rfl] at e1
      refine ⟨ρ, L, J, ?_, Fr.tr (Fr.up Fr.rf rfl) (Fr_mc e2), ⟨rfl, rfl, rfl⟩, rfl, ?_⟩
      · rw [f_X11_near]
        simp (disch := first | omega | assumption) only [↓bM, ↓ob_, ↓jn_, lt0, ↓b2e (m_isW1 (q := q) (ρ := ρ) (L := L) hL.1 (by omega) hw), nn_eq, if_neg, if_false]
        exact e1
      · unfold MW at hW ⊢
        rw [e2 129 (by omega), up_nk (by omega)]
        exact hW
  | some o =>
    have ho := (abest_in hB).1
    have d1 := dif_le (v := false) w2 hw ho
    have hsh := shr_c w2 hw ho
    refine ⟨nI o, sRw G (2, fun i => if i = 0 then (nI (dif false (gLx G) w o)).toInt64 else (bif shr (gLx G) w o then (1 : Int64) else 0)), ⟨w1, w2, w3, w4, w5, w6, w7, by simp only []; omega, w9⟩, XH_q _ ?_, MH_q _ ?_⟩
    · rintro q ρ L I ⟨⟨hT, hL, hD, hP, hS, hU, hK, hR, hρ⟩, hW⟩
      obtain ⟨hA, hTf⟩ := XR_Tf hR
      obtain ⟨J, l, e1, e2, e3⟩ := x_nearL (q := q) (ρ := ρ) (L := L) hL w2 hw (kk := fun (y15 : Int32) (y16 : Int32) (h17 : jH) =>
        if y15 = -nI 1 then
          some (-nI 2, h17)
        else
          (jg_R 10 1 h17 0).bind (fun v18 =>
          (jg_R 10 2 h17 0).bind (fun v19 =>
          j_b2 (f_X3_shareMeaning 5000 v19 (nI w) y15 h17) (fun v21 h20 =>
            if v21 = nI 0 then
              (f_X6_tell_ 5000 v18 (y16.toInt64) 0 h20).bind (fun h26 =>
              some (y15, h26))
            else
              (f_X6_tell_ 5000 v18 (y16.toInt64) 1 h20).bind (fun h26 =>
              some (y15, h26))))))
      rw [hB, eo_s, e2 o hB] at e1
      have s1 := x_share (q := q) (ρ := ρ) (L := L) (I := J) (XL_k (fun b _ _ => e3 b (by omega)) hL) w2 hw ho
      refine ⟨ρ, j_up (j_up L 4 0 (nI (dif false (gLx G) w o)).toInt64) 4 1 (bif shr (gLx G) w o then (1 : Int64) else 0), j_up J 3 1 (nI 2), ?_, Fr.up (Fr_ch e3) (by rcases hA with e | e <;> rw [e] <;> rfl), ⟨rfl, rfl, hρ⟩, by rw [up_ne (by omega), up_ne (by omega)], XW_2⟩
      rw [f_X10_near]
      simp (disch := first | omega | assumption) only [↓bX, ↓jn_, lt0, ↓b2e (x_isW1 (q := q) (ρ := ρ) (L := L) hL.1 (by omega) hw), nn_eq, if_neg, if_false]
      rw [e1]
      cases hs : shr (gLx G) w o with
      | true =>
        rw [hs, bo_t] at s1
        simp (disch := first | omega | assumption) only [↓bX, ↓bXA, ↓jn_, ↓ob_, ↓b2_, ↓reduceIte, nn_lt, nn_le, nn_eq, nI_add, pk_mul, nn_su, gn_lt, gn_le, ng_lt, ng_le, ng_eq, gn_eq, gg_eq, n_m1, n_cl, if_true, if_false, if_pos, if_neg, lt0, ↓b2e s1, ↓oe (x_tell2 (q := q) (ρ := ρ) (L := L) (I := J)), cond_true]
      | false =>
        rw [hs, bo_f] at s1
        simp (disch := first | omega | assumption) only [↓bX, ↓bXA, ↓jn_, ↓ob_, ↓b2_, ↓reduceIte, nn_lt, nn_le, nn_eq, nI_add, pk_mul, nn_su, gn_lt, gn_le, ng_lt, ng_le, ng_eq, gn_eq, gg_eq, n_m1, n_cl, if_true, if_false, if_pos, if_neg, lt0, ↓b2e s1, ↓oe (x_tell2 (q := q) (ρ := ρ) (L := L) (I := J)), cond_false]
    · rintro t q ρ L I ⟨hM, hW⟩
      obtain ⟨hT, hL, hD, hP, hS, hU, hK, hR⟩ := Ms_0 (x := nI 0) hM
      obtain ⟨J, e1, e2⟩ := m_nearL (q := q) (ρ := ρ) (L := L) hL w2 hw (kk := fun (y12 : Int32) (h13 : jH) =>
        if y12 = -nI 1 then
          some (-nI 2, h13)
        else
          (jp_I 11 12 h13 129 (nI 0)).bind (fun h14 =>
          j_b2 (f_X11_differBy 5000 129 (nI w) y12 (nI 0) h14) (fun v16 h15 =>
          (f_X11_tell 5000 129 (v16.toInt64) h15).bind (fun h17 =>
          j_b2 (f_X11_share 5000 129 (nI w) y12 h17) (fun v19 h18 =>
            if v19 = nI 0 then
              (f_X11_tell 5000 129 0 h18).bind (fun h23 =>
              some (y12, h23))
            else
              (f_X11_tell 5000 129 1 h18).bind (fun h23 =>
              some (y12, h23)))))))
      rw [hB, eo_s] at e1
      have fr1 : Fr tN (j_up I 129 13 (nI 0)) (j_up J 129 12 (nI 0)) := Fr.up (Fr_mc e2) rfl
      obtain ⟨K, f1, f2⟩ := m_dif (q := q) (ρ := ρ) (L := L) (I := j_up J 129 12 (nI 0)) (v := false) (ML_N fr1 hL) w2 hw ho
      rw [bo_f] at f1
      have k12 : K = j_up K 129 12 (nI 0) := up_self (by rw [f2 129 (by omega), up_eq])
      have tl := m_tell (q := q) (ρ := ρ) (L := L) (I := K) (r := 0) (v := (nI (dif false (gLx G) w o)).toInt64) (by omega)
      rw [← k12] at tl
      have fr2 : Fr tN (j_up I 129 13 (nI 0)) (j_up K 129 12 (nI 1)) := Fr.up (Fr.tr fr1 (Fr_mc f2)) rfl
      have s1 := m_share (q := q) (ρ := ρ) (L := j_up L 136 0 (nI (dif false (gLx G) w o)).toInt64) (I := j_up K 129 12 (nI 1)) (ML_N fr2 hL) w2 hw ho
      rw [← hsh] at s1
      refine ⟨ρ, j_up (j_up L 136 0 (nI (dif false (gLx G) w o)).toInt64) 136 1 (bif shr (gLx G) w o then (1 : Int64) else 0), j_up K 129 12 (nI 2), ?_, Fr.up (Fr.tr (Fr.up Fr.rf rfl) (Fr.tr fr1 (Fr_mc f2))) rfl, ⟨rfl, rfl, rfl⟩, by rw [up_ne (by omega), up_ne (by omega)], MW_2⟩
      rw [f_X11_near]
      simp (disch := first | omega | assumption) only [↓bM, ↓ob_, ↓jn_, lt0, ↓b2e (m_isW1 (q := q) (ρ := ρ) (L := L) hL.1 (by omega) hw), nn_eq, if_neg, if_false]
      rw [e1]
      cases hs : shr (gLx G) w o with
      | true =>
        rw [hs, bo_t] at s1
        simp (disch := first | omega | assumption) only [↓bM, ↓bMA, ↓jn_, ↓ob_, ↓b2_, ↓reduceIte, nn_lt, nn_le, nn_eq, nI_add, pk_mul, nn_su, gn_lt, gn_le, ng_lt, ng_le, ng_eq, gn_eq, gg_eq, n_m1, n_cl, if_true, if_false, if_pos, if_neg, lt0, ↓b2e f1, ↓oe tl, ↓b2e s1, m_tell, cond_true]
      | false =>
        rw [hs, bo_f] at s1
        simp (disch := first | omega | assumption) only [↓bM, ↓bMA, ↓jn_, ↓ob_, ↓b2_, ↓reduceIte, nn_lt, nn_le, nn_eq, nI_add, pk_mul, nn_su, gn_lt, gn_le, ng_lt, ng_le, ng_eq, gn_eq, gg_eq, n_m1, n_cl, if_true, if_false, if_pos, if_neg, lt0, ↓b2e f1, ↓oe tl, ↓b2e s1, m_tell, cond_false]
