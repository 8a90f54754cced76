/-! STEPS ON THE ROAD -/
theorem Out_ge {a n : Nat} (h : n ≤ a) (ha : a < 2147483648) : Out (nI a) n := .inr ⟨by rw [nn_lt ha (by omega)]; omega, by rw [nn_le (by omega) ha]; exact h⟩
theorem Out_neg {a n : Nat} (h1 : 1 ≤ a) (ha : a < 2147483648) : Out (-nI a) n := .inl (by rw [gn_lt h1 ha (by omega)]; trivial)
theorem x_isSge {q : pQ} {ρ : pP} {L : pL} {I : pI} {W : Nat} (hW : I 0 17 = nI W) {a : Nat} (h : W ≤ a) (ha : a < 2147483648) : f_X10_isStation 5000 0 (nI a) (hp q ρ L I) = some (nI 0, hp q ρ L I) := x_isS0 hW (Out_ge h ha)
theorem x_isSneg {q : pQ} {ρ : pP} {L : pL} {I : pI} {W : Nat} (hW : I 0 17 = nI W) {a : Nat} (h1 : 1 ≤ a) (ha : a < 2147483648) : f_X10_isStation 5000 0 (-nI a) (hp q ρ L I) = some (nI 0, hp q ρ L I) := x_isS0 hW (Out_neg h1 ha)
theorem m_isSge {q : pQ} {ρ : pP} {L : pL} {I : pI} {W : Nat} (hW : I 129 1 = nI W) (h10 : W ≤ 1000) {a : Nat} (h : W ≤ a) (ha : a < 2147483648) : f_X11_isStation 5000 129 (nI a) (hp q ρ L I) = some (nI 0, hp q ρ L I) := m_isS0 hW h10 (Out_ge h ha)
theorem m_isSneg {q : pQ} {ρ : pP} {L : pL} {I : pI} {W : Nat} (hW : I 129 1 = nI W) (h10 : W ≤ 1000) {a : Nat} (h1 : 1 ≤ a) (ha : a < 2147483648) : f_X11_isStation 5000 129 (-nI a) (hp q ρ L I) = some (nI 0, hp q ρ L I) := m_isS0 hW h10 (Out_neg h1 ha)
def mvC (C : gC) (t p : Nat) : gC := (C.1, (fun i => if i = t then p else scP C i), C.2.2)
def hrC (C : gC) (d : Int32) : gC := ((scH C + d, scD C), C.2)
def goP (S p w : Nat) : Option Nat := if w = 1 then (if p + 1 < S then some (p + 1) else none) else (if 1 ≤ p then some (p - 1) else none)
theorem XS_mv {C : gC} {P t p : Nat} {I : pI} (h : XS 19 C P I) : XS 19 (mvC C t p) P (j_up I 20 t (nI p)) := by
  obtain ⟨⟨a1, a2⟩, a3, a4⟩ := h
  refine ⟨⟨by rw [up_ne (by omega)]; exact a1, by rw [up_ne (by omega)]; exact a2⟩, fun i hi => ?_, fun k hk => by rw [up_ne (by omega)]; exact a4 k hk⟩
  obtain ⟨b1, b2, b3⟩ := a3 i hi
  refine ⟨?_, by rw [up_ne (by omega)]; exact b2, by rw [up_ne (by omega)]; exact b3⟩
  show j_up I 20 t (nI p) 20 i = nI (if i = t then p else scP C i)
  rw [up_at]
  split
  · rfl
  · exact b1
theorem XS_hr {C : gC} {P : Nat} {I : pI} {d : Int32} (h : XS 19 C P I) : XS 19 (hrC C d) P (j_up I 19 0 (scH C + d)) := by
  obtain ⟨⟨a1, a2⟩, a3, a4⟩ := h
  refine ⟨⟨up_eq, by rw [up_nk (by omega)]; exact a2⟩, fun i hi => ?_, fun k hk => by rw [up_ne (by omega)]; exact a4 k hk⟩
  obtain ⟨b1, b2, b3⟩ := a3 i hi
  exact ⟨by rw [up_ne (by omega)]; exact b1, by rw [up_ne (by omega)]; exact b2, by rw [up_ne (by omega)]; exact b3⟩
theorem MS_mv {C : gC} {a P t p : Nat} {I : pI} (hP : P ≤ 4) (ht : t < P) (h : MS a 0 C P I) : MS a 0 (mvC C t p) P (j_up I a t (nI p)) := by
  obtain ⟨⟨a1, a2⟩, a3, a4⟩ := h
  refine ⟨⟨by rw [up_nk (by omega)]; exact a1, by rw [up_nk (by omega)]; exact a2⟩, fun i hi => ?_, fun k hk => by rw [up_nk (by omega)]; exact a4 k hk⟩
  obtain ⟨b1, b2, b3⟩ := a3 i hi
  refine ⟨?_, by rw [up_nk (by omega)]; exact b2, by rw [up_nk (by omega)]; exact b3⟩
  show j_up I a t (nI p) a (0 + i) = nI (if i = t then p else scP C i)
  rw [up_at, Nat.zero_add]
  rw [Nat.zero_add] at b1
  split
  · rfl
  · exact b1
theorem MS_hr {C : gC} {a P : Nat} {I : pI} {d : Int32} (hP : P ≤ 4) (h : MS a 0 C P I) : MS a 0 (hrC C d) P (j_up I a 12 (scH C + d)) := by
  obtain ⟨⟨a1, a2⟩, a3, a4⟩ := h
  refine ⟨⟨up_eq, by rw [up_nk (by omega)]; exact a2⟩, fun i hi => ?_, fun k hk => by rw [up_nk (by omega)]; exact a4 k hk⟩
  obtain ⟨b1, b2, b3⟩ := a3 i hi
  exact ⟨by rw [up_nk (by omega)]; exact b1, by rw [up_nk (by omega)]; exact b2, by rw [up_nk (by omega)]; exact b3⟩
theorem WS_mv {C : gC} {P S t p : Nat} (h : WS C P S) (hpl : p < S) : WS (mvC C t p) P S := fun i hi => ⟨by
  show (if i = t then p else scP C i) < S
  split
  · exact hpl
  · exact (h i hi).1, (h i hi).2⟩
theorem WS_hr {C : gC} {P S : Nat} {d : Int32} (h : WS C P S) : WS (hrC C d) P S := h
theorem goP_in {S p w p' : Nat} (hpl : p < S) (h : goP S p w = some p') : p' < S := by
  unfold goP at h
  split at h
  · split at h
    · cases h; assumption
    · cases h
  · split at h
    · cases h; omega
    · cases h
theorem x_move1 {q : pQ} {ρ : pP} {L : pL} {I : pI} {C : gC} {P S t w p : Nat} (hC : XS 19 C P I) (hP : I 0 18 = nI P) (hS : I 0 17 = nI S) (hP4 : P ≤ 4) (hS6 : S ≤ 6) (ht : t < P) (hw : w < 2) (hpl : scP C t < S) (e : goP S (scP C t) w = some p) : f_X10_move 5000 0 (nI t) (nI w) (hp q ρ L I) = some (nI p, hp q ρ L (j_up I 20 t (nI p))) := by
  have b1 : I 20 t = nI (scP C t) := (hC.2.1 t ht).1
  have hp' := goP_in hpl e
  have : w = 0 ∨ w = 1 := by omega
  unfold goP at e
  rcases this with rfl | rfl
  · rw [if_neg (by omega)] at e
    split at e
    · cases e
      simp (disch := first | omega | assumption) only [f_X10_move, ↓bX, ↓bXA, ↓jn_, ↓ob_, ↓b2_, ↓reduceIte, nn_lt, nn_le, nn_eq, nI_add, pk_mul, nn_su, gn_lt, gn_le, ng_lt, ng_le, ng_eq, gn_eq, gg_eq, n_m1, n_cl, if_true, if_false, if_pos, if_neg, lt0, ↓b2e (x_isT1 (q := q) (ρ := ρ) (L := L) hP (by omega) ht), b1, ↓b2e (x_isS1 (q := q) (ρ := ρ) (L := L) hS (by omega) hp')]
    · cases e
  · rw [if_pos rfl] at e
    split at e
    · cases e
      simp (disch := first | omega | assumption) only [f_X10_move, ↓bX, ↓bXA, ↓jn_, ↓ob_, ↓b2_, ↓reduceIte, nn_lt, nn_le, nn_eq, nI_add, pk_mul, nn_su, gn_lt, gn_le, ng_lt, ng_le, ng_eq, gn_eq, gg_eq, n_m1, n_cl, if_true, if_false, if_pos, if_neg, lt0, ↓b2e (x_isT1 (q := q) (ρ := ρ) (L := L) hP (by omega) ht), b1, ↓b2e (x_isS1 (q := q) (ρ := ρ) (L := L) hS (by omega) hp')]
    · cases e
theorem x_move0 {q : pQ} {ρ : pP} {L : pL} {I : pI} {C : gC} {P S t w : Nat} (hC : XS 19 C P I) (hP : I 0 18 = nI P) (hS : I 0 17 = nI S) (hP4 : P ≤ 4) (hS6 : S ≤ 6) (ht : t < P) (hw : w < 2) (hpl : scP C t < S) (e : goP S (scP C t) w = none) : f_X10_move 5000 0 (nI t) (nI w) (hp q ρ L I) = some (-nI 2, hp q ρ L I) := by
  have b1 : I 20 t = nI (scP C t) := (hC.2.1 t ht).1
  have : w = 0 ∨ w = 1 := by omega
  unfold goP at e
  rcases this with rfl | rfl
  · rw [if_neg (by omega)] at e
    split at e
    · cases e
    · have h0 : scP C t = 0 := by omega
      rw [h0] at b1
      have z : nI 0 + -nI 1 = -nI 1 := rfl
      simp (disch := first | omega | assumption) only [f_X10_move, ↓bX, ↓bXA, ↓jn_, ↓ob_, ↓b2_, ↓reduceIte, nn_lt, nn_le, nn_eq, nI_add, pk_mul, nn_su, gn_lt, gn_le, ng_lt, ng_le, ng_eq, gn_eq, gg_eq, n_m1, n_cl, if_true, if_false, if_pos, if_neg, lt0, ↓b2e (x_isT1 (q := q) (ρ := ρ) (L := L) hP (by omega) ht), b1, z, ↓b2e (x_isSneg (q := q) (ρ := ρ) (L := L) hS (a := 1) (by omega) (by omega))]
  · rw [if_pos rfl] at e
    split at e
    · cases e
    · simp (disch := first | omega | assumption) only [f_X10_move, ↓bX, ↓bXA, ↓jn_, ↓ob_, ↓b2_, ↓reduceIte, nn_lt, nn_le, nn_eq, nI_add, pk_mul, nn_su, gn_lt, gn_le, ng_lt, ng_le, ng_eq, gn_eq, gg_eq, n_m1, n_cl, if_true, if_false, if_pos, if_neg, lt0, ↓b2e (x_isT1 (q := q) (ρ := ρ) (L := L) hP (by omega) ht), b1, ↓b2e (x_isSge (q := q) (ρ := ρ) (L := L) hS (a := scP C t + 1) (by omega) (by omega))]
theorem m_ref1 {q : pQ} {ρ : pP} {L : pL} {I : pI} {C : gC} {a P S t w p : Nat} (ha : a = 130 ∨ a = 157) (hC : MS a 0 C P I) (hP : I 129 6 = nI P) (hS : I 129 1 = nI S) (hP4 : P ≤ 4) (hS6 : S ≤ 6) (ht : t < P) (hw : w < 2) (hpl : scP C t < S) (e : goP S (scP C t) w = some p) : f_X11_refusesWalk 5000 129 a (nI t) (nI w) (hp q ρ L I) = some (nI 0, hp q ρ L I) := by
  have b1 := (hC.2.1 t ht).1
  rw [Nat.zero_add] at b1
  have hp' := goP_in hpl e
  have hA : ja_I 100 (hp q ρ L I) a (nI t) = some (nI (scP C t)) := by
    rw [← b1]
    rcases ha with rfl | rfl <;> exact ha_I rfl rfl rfl (by omega)
  have : w = 0 ∨ w = 1 := by omega
  unfold goP at e
  rcases this with rfl | rfl
  · rw [if_neg (by omega)] at e
    split at e
    · cases e
      simp (disch := first | omega | assumption) only [f_X11_refusesWalk, ↓bM, ↓bMA, ↓jn_, ↓ob_, ↓b2_, ↓reduceIte, nn_lt, nn_le, nn_eq, nI_add, pk_mul, nn_su, gn_lt, gn_le, ng_lt, ng_le, ng_eq, gn_eq, gg_eq, n_m1, n_cl, if_true, if_false, if_pos, if_neg, lt0, ↓b2e (m_isT1 (q := q) (ρ := ρ) (L := L) hP (by omega) ht), ↓oe hA, m_in, Nat.le_refl, Nat.zero_le, and_self, Nat.mul_zero, Nat.add_zero, m_isS1 hS]
    · cases e
  · rw [if_pos rfl] at e
    split at e
    · cases e
      simp (disch := first | omega | assumption) only [f_X11_refusesWalk, ↓bM, ↓bMA, ↓jn_, ↓ob_, ↓b2_, ↓reduceIte, nn_lt, nn_le, nn_eq, nI_add, pk_mul, nn_su, gn_lt, gn_le, ng_lt, ng_le, ng_eq, gn_eq, gg_eq, n_m1, n_cl, if_true, if_false, if_pos, if_neg, lt0, ↓b2e (m_isT1 (q := q) (ρ := ρ) (L := L) hP (by omega) ht), ↓oe hA, m_in, Nat.le_refl, Nat.zero_le, and_self, m_isS1 hS]
    · cases e
theorem m_ref0 {q : pQ} {ρ : pP} {L : pL} {I : pI} {C : gC} {a P S t w : Nat} (ha : a = 130 ∨ a = 157) (hC : MS a 0 C P I) (hP : I 129 6 = nI P) (hS : I 129 1 = nI S) (hP4 : P ≤ 4) (hS6 : S ≤ 6) (ht : t < P) (hw : w < 2) (hpl : scP C t < S) (e : goP S (scP C t) w = none) : f_X11_refusesWalk 5000 129 a (nI t) (nI w) (hp q ρ L I) = some (-nI 2, hp q ρ L I) := by
  have b1 := (hC.2.1 t ht).1
  rw [Nat.zero_add] at b1
  have hA : ja_I 100 (hp q ρ L I) a (nI t) = some (nI (scP C t)) := by
    rw [← b1]
    rcases ha with rfl | rfl <;> exact ha_I rfl rfl rfl (by omega)
  have : w = 0 ∨ w = 1 := by omega
  unfold goP at e
  rcases this with rfl | rfl
  · rw [if_neg (by omega)] at e
    split at e
    · cases e
    · have h0 : scP C t = 0 := by omega
      rw [h0] at hA
      have z : nI 0 - nI 1 = -nI 1 := rfl
      simp (disch := first | omega | assumption) only [f_X11_refusesWalk, ↓bM, ↓bMA, ↓jn_, ↓ob_, ↓b2_, ↓reduceIte, nn_lt, nn_le, nn_eq, nI_add, pk_mul, nn_su, gn_lt, gn_le, ng_lt, ng_le, ng_eq, gn_eq, gg_eq, n_m1, n_cl, if_true, if_false, if_pos, if_neg, lt0, ↓b2e (m_isT1 (q := q) (ρ := ρ) (L := L) hP (by omega) ht), ↓oe hA, m_in, Nat.le_refl, Nat.zero_le, and_self, Nat.mul_zero, Nat.add_zero, z, m_isSneg hS]
  · rw [if_pos rfl] at e
    split at e
    · cases e
    · simp (disch := first | omega | assumption) only [f_X11_refusesWalk, ↓bM, ↓bMA, ↓jn_, ↓ob_, ↓b2_, ↓reduceIte, nn_lt, nn_le, nn_eq, nI_add, pk_mul, nn_su, gn_lt, gn_le, ng_lt, ng_le, ng_eq, gn_eq, gg_eq, n_m1, n_cl, if_true, if_false, if_pos, if_neg, lt0, ↓b2e (m_isT1 (q := q) (ρ := ρ) (L := L) hP (by omega) ht), ↓oe hA, m_in, Nat.le_refl, Nat.zero_le, and_self, m_isSge hS]
theorem m_goWalk {q : pQ} {ρ : pP} {L : pL} {I : pI} {C : gC} {a P S t w p : Nat} (ha : a = 130 ∨ a = 157) (hC : MS a 0 C P I) (hP4 : P ≤ 4) (hS6 : S ≤ 6) (ht : t < P) (hw : w < 2) (hpl : scP C t < S) (e : goP S (scP C t) w = some p) : f_X11_goWalk 5000 a (nI t) (nI w) (hp q ρ L I) = some (nI p, hp q ρ L (j_up (j_up I a t (nI p)) a 12 (scH C + nI 1))) := by
  have b1 := (hC.2.1 t ht).1
  have b2 := hC.1.1
  rw [Nat.zero_add] at b1 b2
  have hA : ∀ (I : pI) j, j < 44 → ja_I 100 (hp q ρ L I) a (nI j) = some (I a j) := by
    intro I j hj
    rcases ha with rfl | rfl <;> exact ha_I rfl rfl rfl hj
  have hB : ∀ (I : pI) j x, j < 44 → jb_I 100 (hp q ρ L I) a (nI j) x = some (hp q ρ L (j_up I a j x)) := by
    intro I j x hj
    rcases ha with rfl | rfl <;> exact hb_I rfl rfl rfl hj
  have : w = 0 ∨ w = 1 := by omega
  have key : ∀ x, nI (scP C t) + x = nI p → ((ja_I 100 (hp q ρ L I) a (nI t)).bind (fun v1 => (jb_I 100 (hp q ρ L I) a (nI t) (v1 + x)).bind (fun h2 => (ja_I 100 h2 a (nI 12)).bind (fun v3 => (jb_I 100 h2 a (nI 12) (v3 + nI 1)).bind (fun h4 => (ja_I 100 h4 a (nI t)).bind (fun v5 => some (v5, h4))))))) = some (nI p, hp q ρ L (j_up (j_up I a t (nI p)) a 12 (scH C + nI 1))) := by
    intro x hx
    simp (disch := first | omega | assumption) only [hA, hB, ob_, b1, hx, up_nk, up_eq, b2]
  unfold goP at e
  rcases this with rfl | rfl
  · rw [if_neg (by omega)] at e
    split at e
    · cases e
      exact key (nI 2 * nI 0 - nI 1) (n_m1 (by omega))
    · cases e
  · rw [if_pos rfl] at e
    split at e
    · cases e
      exact key (nI 2 * nI 1 - nI 1) (nI_add _ 1)
    · cases e
/-- only marks and temps change -/
theorem XH_n {fX : jH → Option (Int32 × jH)} {G : gG} {v : Int32} (h : ∀ q ρ L I, Xr G ρ L I → ∃ I', fX (hp q ρ L I) = some (v, hp q ρ L I') ∧ Fr (tV ρ.1.1) I I' ∧ I' 3 1 = I 3 1 ∧ XS 19 (gN G) (gP G) I' ∧ XU (gUn G) (gP G) I') : XH fX G v G := by
  refine XH_s (gN G) (gUn G) (gRw G) (fun q ρ L I hX => ?_)
  obtain ⟨I', e, hF, h3, hC, hU⟩ := h q ρ L I hX
  refine ⟨L, I', e, hF, rfl, ?_, hC, hU⟩
  have := hX.2
  unfold XW at this ⊢
  rw [h3]
  exact this
/-! WALK -/
theorem k_walk (a b : Int32) : ∀ G, Wr G → ∃ v G', Wr G' ∧ XH (f_X10_walk 5000 0 a b) G v G' ∧ MH (f_X11_walk 5000 129 a b) G v G' := by
  intro G hG
  have hG' := hG
  obtain ⟨w1, w2, w3, w4, w5, w6, w7, w8, w9⟩ := hG
  have xm : ∀ q ρ L I, Xr G ρ L I → ∃ J, f_X4_mark 5000 24 19 (hp q ρ L I) = some (hp q ρ L J) ∧ XV (gUn G) (gN G) (gP G) J ∧ ∀ a, a < 26 ∨ 90 < a → J a = I a := by
    rintro q ρ L I ⟨⟨hT, hL, hD, hP, hS, hU, hK, hR, hρ⟩, hW⟩
    exact x_mark w4.1 hU w6 hS
  rcases ixo a (gP G) (by omega) with h | ⟨t, ht, rfl⟩
  · refine ⟨-nI 1, G, hG', XH_n ?_, MH_0 ?_⟩
    · intro q ρ L I hX
      obtain ⟨J, e1, e2, e3⟩ := xm q ρ L I hX
      obtain ⟨⟨hT, hL, hD, hP, hS, hU, hK, hR, hρ⟩, hW⟩ := hX
      refine ⟨J, ?_, Fr_26 (fun a ha => e3 a (by omega)), by rw [e3 3 (by omega)], XS_k (fun i hi => e3 _ (by omega)) hS, XV_U e2⟩
      simp (disch := first | omega | assumption) only [f_X10_walk, ↓bX, ↓bXA, ↓jn_, ↓ob_, ↓b2_, ↓reduceIte, nn_lt, nn_le, nn_eq, nI_add, pk_mul, nn_su, gn_lt, gn_le, ng_lt, ng_le, ng_eq, gn_eq, gg_eq, n_m1, n_cl, if_true, if_false, if_pos, if_neg, lt0, ↓oe e1, f_X10_goes, f_X10_move, ↓b2e (x_isT0 (q := q) (ρ := ρ) (L := L) (I := J) (by rw [e3 0 (by omega)]; exact hP.1) h)]
    · rintro t q ρ L I ⟨⟨hT, hL, hD, hP, hS, hU, hK, hR⟩, hW⟩
      simp (disch := first | omega | assumption) only [f_X11_walk, f_X11_refusesWalk, ↓bM, ↓bMA, ↓jn_, ↓ob_, ↓b2_, ↓reduceIte, nn_lt, nn_le, nn_eq, nI_add, pk_mul, nn_su, gn_lt, gn_le, ng_lt, ng_le, ng_eq, gn_eq, gg_eq, n_m1, n_cl, if_true, if_false, if_pos, if_neg, lt0, ↓b2e (m_isT0 (q := q) (ρ := ρ) (L := L) (I := j_up I 129 13 (nI 0)) (by rw [up_nk (by omega)]; exact hP.1) (by omega) h)]
  · rcases ixo b 2 (by omega) with h | ⟨w, hw, rfl⟩
    · refine ⟨-nI 1, G, hG', XH_n ?_, MH_0 ?_⟩
      · intro q ρ L I hX
        obtain ⟨J, e1, e2, e3⟩ := xm q ρ L I hX
        obtain ⟨⟨hT, hL, hD, hP, hS, hU, hK, hR, hρ⟩, hW⟩ := hX
        refine ⟨J, ?_, Fr_26 (fun a ha => e3 a (by omega)), by rw [e3 3 (by omega)], XS_k (fun i hi => e3 _ (by omega)) hS, XV_U e2⟩
        rcases h with h | ⟨h1, h2⟩
        · simp (disch := first | omega | assumption) only [f_X10_walk, ↓bX, ↓bXA, ↓jn_, ↓ob_, ↓b2_, ↓reduceIte, nn_lt, nn_le, nn_eq, nI_add, pk_mul, nn_su, gn_lt, gn_le, ng_lt, ng_le, ng_eq, gn_eq, gg_eq, n_m1, n_cl, if_true, if_false, if_pos, if_neg, lt0, ↓oe e1, f_X10_goes, f_X10_move, ↓b2e (x_isT1 (q := q) (ρ := ρ) (L := L) (I := J) (by rw [e3 0 (by omega)]; exact hP.1) (by omega) ht), h]
        · have h3 : ¬ b ≤ nI 1 := by
            obtain ⟨i, hi, rfl⟩ := c_lt0 h1
            rw [nn_le (by omega) hi] at h2
            rw [nn_le hi (by omega)]
            omega
          simp (disch := first | omega | assumption) only [f_X10_walk, ↓bX, ↓bXA, ↓jn_, ↓ob_, ↓b2_, ↓reduceIte, nn_lt, nn_le, nn_eq, nI_add, pk_mul, nn_su, gn_lt, gn_le, ng_lt, ng_le, ng_eq, gn_eq, gg_eq, n_m1, n_cl, if_true, if_false, if_pos, if_neg, lt0, ↓oe e1, f_X10_goes, f_X10_move, ↓b2e (x_isT1 (q := q) (ρ := ρ) (L := L) (I := J) (by rw [e3 0 (by omega)]; exact hP.1) (by omega) ht), h1, h3]
      · rintro t' q ρ L I ⟨⟨hT, hL, hD, hP, hS, hU, hK, hR⟩, hW⟩
        have h3 := m_in0 (n := 2) (by omega) h (hp q ρ L (j_up I 129 13 (nI 0)))
        rw [show nI 2 - nI 1 = nI 1 from rfl] at h3
        simp (disch := first | omega | assumption) only [f_X11_walk, f_X11_refusesWalk, ↓bM, ↓bMA, ↓jn_, ↓ob_, ↓b2_, ↓reduceIte, nn_lt, nn_le, nn_eq, nI_add, pk_mul, nn_su, gn_lt, gn_le, ng_lt, ng_le, ng_eq, gn_eq, gg_eq, n_m1, n_cl, if_true, if_false, if_pos, if_neg, lt0, ↓b2e (m_isT1 (q := q) (ρ := ρ) (L := L) (I := j_up I 129 13 (nI 0)) (by rw [up_nk (by omega)]; exact hP.1) (by omega) ht), h3]
    · have hpS := (w5 t ht).1
      cases hg : goP (gS G) (scP (gN G) t) w with
      | none =>
        refine ⟨-nI 2, G, hG', XH_n ?_, MH_0 ?_⟩
        · intro q ρ L I hX
          obtain ⟨J, e1, e2, e3⟩ := xm q ρ L I hX
          obtain ⟨⟨hT, hL, hD, hP, hS, hU, hK, hR, hρ⟩, hW⟩ := hX
          have hS' : XS 19 (gN G) (gP G) J := XS_k (fun i hi => e3 _ (by omega)) hS
          refine ⟨J, ?_, Fr_26 (fun a ha => e3 a (by omega)), by rw [e3 3 (by omega)], hS', XV_U e2⟩
          simp (disch := first | omega | assumption) only [f_X10_walk, ↓bX, ↓bXA, ↓jn_, ↓ob_, ↓b2_, ↓reduceIte, nn_lt, nn_le, nn_eq, nI_add, pk_mul, nn_su, gn_lt, gn_le, ng_lt, ng_le, ng_eq, gn_eq, gg_eq, n_m1, n_cl, if_true, if_false, if_pos, if_neg, lt0, ↓oe e1, f_X10_goes, ↓b2e (x_move0 (q := q) (ρ := ρ) (L := L) hS' (by rw [e3 0 (by omega)]; exact hP.1) (by rw [e3 0 (by omega)]; exact hP.2) w4.1 w4.2.2 ht hw hpS hg)]
        · rintro t' q ρ L I ⟨hM, hW⟩
          obtain ⟨hT, hL, hD, hP, hS, hU, hK, hR⟩ := Ms_0 (x := nI 0) hM
          simp (disch := first | omega | assumption) only [f_X11_walk, ↓bM, ↓bMA, ↓jn_, ↓ob_, ↓b2_, ↓reduceIte, nn_lt, nn_le, nn_eq, nI_add, pk_mul, nn_su, gn_lt, gn_le, ng_lt, ng_le, ng_eq, gn_eq, gg_eq, n_m1, n_cl, if_true, if_false, if_pos, if_neg, lt0, ↓b2e (m_ref0 (q := q) (ρ := ρ) (L := L) (.inl rfl) hS hP.1 hP.2 w4.1 w4.2.2 ht hw hpS hg)]
      | some p =>
        have hp' := goP_in hpS hg
        refine ⟨nI p, sRw (sUn (sN G (hrC (mvC (gN G) t p) (nI 1))) (puU (gUn G) (gN G))) (gRw G), ⟨w1, w2, w3, w4, WS_hr (WS_mv w5 hp'), WU_pu w6 w5, w7, w8, w9⟩, XH_s _ _ _ ?_, MH_s _ _ _ ?_⟩
        · intro q ρ L I hX
          obtain ⟨J, e1, e2, e3⟩ := xm q ρ L I hX
          obtain ⟨⟨hT, hL, hD, hP, hS, hU, hK, hR, hρ⟩, hW⟩ := hX
          have hS' : XS 19 (gN G) (gP G) J := XS_k (fun i hi => e3 _ (by omega)) hS
          have hS2 := XS_hr (d := nI 1) (XS_mv (t := t) (p := p) hS')
          have hV2 : XV (gUn G) (gN G) (gP G) (j_up (j_up J 20 t (nI p)) 19 0 (scH (gN G) + nI 1)) := XV_k (fun b _ _ => by rw [up_ne (by omega), up_ne (by omega)]) e2
          obtain ⟨K, f1, f2, f3⟩ := x_confirm (q := q) (ρ := ρ) (L := L) w6 hV2
          have h19 : J 19 0 = scH (gN G) := hS'.1.1
          refine ⟨L, K, ?_, Fr_26 (fun a ha => by rw [f3 a (by omega), up_ne (by omega), up_ne (by omega), e3 a (by omega)]), rfl, ?_, XS_k (fun i hi => f3 _ (by omega)) hS2, f2⟩
          · simp (disch := first | omega | assumption) only [f_X10_walk, ↓bX, ↓bXA, ↓jn_, ↓ob_, ↓b2_, ↓reduceIte, nn_lt, nn_le, nn_eq, nI_add, pk_mul, nn_su, gn_lt, gn_le, ng_lt, ng_le, ng_eq, gn_eq, gg_eq, n_m1, n_cl, if_true, if_false, if_pos, if_neg, lt0, ↓oe e1, f_X10_goes, ↓b2e (x_move1 (q := q) (ρ := ρ) (L := L) hS' (by rw [e3 0 (by omega)]; exact hP.1) (by rw [e3 0 (by omega)]; exact hP.2) w4.1 w4.2.2 ht hw hpS hg), up_ne, h19, ↓oe f1]
          · unfold XW at hW ⊢
            rw [f3 3 (by omega), up_ne (by omega), up_ne (by omega), e3 3 (by omega)]
            exact hW
        · rintro t' q ρ L I ⟨hM, hW⟩
          obtain ⟨hT, hL, hD, hP, hS, hU, hK, hR⟩ := Ms_0 (x := nI 0) hM
          obtain ⟨J, e1, e2, e3⟩ := m_remember (q := q) (ρ := ρ) (L := L) (a := 130) (.inl rfl) hU w6 w4.1 hS
          have hS' : MS 130 0 (gN G) (gP G) J := MS_k (e3.row 130 (fun k => rfl)) hS
          refine ⟨ρ, L, j_up (j_up J 130 t (nI p)) 130 12 (scH (gN G) + nI 1), ?_, Fr.up (Fr.up (Fr.tr (Fr.up Fr.rf rfl) (Fr_R e3)) rfl) rfl, ⟨rfl, rfl, rfl⟩, rfl, ?_, MS_hr w4.1 (MS_mv w4.1 ht hS'), MU_k (by simp (disch := first | omega | assumption) only [up_ne]) (by simp (disch := first | omega | assumption) only [up_ne]) e2⟩
          · simp (disch := first | omega | assumption) only [f_X11_walk, ↓bM, ↓bMA, ↓jn_, ↓ob_, ↓b2_, ↓reduceIte, nn_lt, nn_le, nn_eq, nI_add, pk_mul, nn_su, gn_lt, gn_le, ng_lt, ng_le, ng_eq, gn_eq, gg_eq, n_m1, n_cl, if_true, if_false, if_pos, if_neg, lt0, ↓b2e (m_ref1 (q := q) (ρ := ρ) (L := L) (.inl rfl) hS hP.1 hP.2 w4.1 w4.2.2 ht hw hpS hg), ↓oe e1, ↓b2e (m_goWalk (q := q) (ρ := ρ) (L := L) (.inl rfl) hS' w4.1 w4.2.2 ht hw hpS hg)]
          · unfold MW at hW ⊢
            rw [up_ne (by omega), up_ne (by omega), e3 129 12 rfl, up_nk (by omega)]
            exact hW
