/-! ERRANDS: the reference -/
def erN (I : pI) (ρ : pP) (f : Nat → Nat) (n T P S : Nat) (k : Nat) (J : pI) : Prop := RdM ρ J f n ∧ J 129 15 = nI T ∧ (∀ j, j < k → J 139 (4 * j) = nI (erW f n (lnP (erd f n P S) j)) ∧ J 139 (4 * j + 1) = nI (erM f n (lnP (erd f n P S) j)) ∧ J 139 (4 * j + 2) = nI (erP f n (lnP (erd f n P S) j)) ∧ J 139 (4 * j + 3) = nI (erV f n (lnP (erd f n P S) j))) ∧ ∀ b, b ≠ 139 → J b = I b
theorem erN_up {I J : pI} {ρ : pP} {f : Nat → Nat} {n T P S k c : Nat} {x : Int32} (h : erN I ρ f n T P S k J) (hc : 4 * k ≤ c) : erN I ρ f n T P S k (j_up J 139 c x) := by
  obtain ⟨h1, h2, h3, h4⟩ := h
  refine ⟨RdM_k h1 (by rw [up_ne (by omega)]) (by rw [up_ne (by omega)]) (fun b hb => up_ne (by omega)), by rw [up_ne (by omega)]; exact h2, fun j hj => ?_, fun b hb => by rw [up_ne hb]; exact h4 b hb⟩
  rw [up_nk (by omega), up_nk (by omega), up_nk (by omega), up_nk (by omega)]
  exact h3 j hj
def evB (x1 : Int32) (h4 : jH) (cont : jH → Option (Int32 × jH)) : Option (Int32 × jH) :=
        (jg_I 11 7 h4 129).bind (fun v6 =>
          if (v6 + x1) = nI 8 then
            (jg_I 11 17 h4 129).bind (fun v10 =>
            (f_X11_fault 5000 129 v10 h4).bind (fun h11 =>
            cont h11))
          else
            (jg_R 11 21 h4 129).bind (fun v12 =>
            (jg_I 11 6 h4 129).bind (fun v13 =>
            j_b2 (f_X11_oneOf 5000 129 (nI 97) v13 h4) (fun v15 h14 =>
            (jb_I 100 h14 v12 (nI 4 * x1) v15).bind (fun h16 =>
            (jg_R 11 21 h16 129).bind (fun v17 =>
            j_b2 (f_X11_oneOf 5000 129 (nI 48) (nI 10) h16) (fun v19 h18 =>
            (jb_I 100 h18 v17 (nI 4 * x1 + nI 1) v19).bind (fun h20 =>
            (jg_R 11 21 h20 129).bind (fun v21 =>
            (jg_I 11 1 h20 129).bind (fun v22 =>
            j_b2 (f_X11_oneOf 5000 129 (nI 48) v22 h20) (fun v24 h23 =>
            (jb_I 100 h23 v21 (nI 4 * x1 + nI 2) v24).bind (fun h25 =>
            (f_X11_need 5000 129 (nI 61) h25).bind (fun h26 =>
            (jg_R 11 21 h26 129).bind (fun v27 =>
            j_b2 (f_X11_number 5000 129 (nI 2) h26) (fun v29 h28 =>
            (jb_I 100 h28 v27 (nI 4 * x1 + nI 3) v29).bind (fun h30 =>
            cont h30))))))))))))))))
theorem evB_lp {ks : Int32 → jH → Option (Int32 × jH)} : ∀ m x1 x2 h, f_X11_errands_L24 5000 129 (mKK ks) (m + 1) x1 x2 h = if x2 = nI 0 then mKK ks x1 h else j_b2 (f_X11_fine 5000 129 h) (fun v5 h4 => if v5 = nI 0 then mKK ks x1 h4 else evB x1 h4 (fun h7 => j_b2 (f_X11_passes 5000 129 (nI 59) h7) (fun v9 h8 => f_X11_errands_L24 5000 129 (mKK ks) m (x1 + nI 1) v9 h8))) := by
  intro m x1 x2 h
  rw [f_X11_errands_L24]
  simp only [lt0, jn_]
  rfl
theorem m_erB {q : pQ} {ρ : pP} {L : pL} {I : pI} {I0 : pI} {f : Nat → Nat} {n T P S E k : Nat} (h1 : I0 129 1 = nI S) (h6 : I0 129 6 = nI P) (h7 : I0 129 7 = nI E) (hP : P ≤ 4) (hS : S ≤ 6) (hk : E + k < 8) (h : erN I0 ρ f n T P S k I) (hn : lnP (erd f n P S) k ≤ n) (hn80 : n ≤ 76) : ∃ J' p' w, (∀ kk, evB (nI k) (hp q ρ L (mp I (lnP (erd f n P S) k) (-nI 1))) kk = kk (hp q ρ L (mp J' p' w))) ∧ erN I0 ρ f n T P S k J' ∧ p' ≤ 200 ∧ ((erd f n P S (lnP (erd f n P S) k)).1 = true → p' = (erd f n P S (lnP (erd f n P S) k)).2 ∧ w = -nI 1 ∧ erN I0 ρ f n T P S (k + 1) J') ∧ ((erd f n P S (lnP (erd f n P S) k)).1 = false → w = nI (erd f n P S (lnP (erd f n P S) k)).2) := by
  have e1 : I 129 1 = nI S := by rw [h.2.2.2 129 (by omega)]; exact h1
  have e6 : I 129 6 = nI P := by rw [h.2.2.2 129 (by omega)]; exact h6
  have e7 : I 129 7 = nI E := by rw [h.2.2.2 129 (by omega)]; exact h7
  obtain ⟨p, hpe⟩ : ∃ p, p = lnP (erd f n P S) k := ⟨_, rfl⟩
  rw [← hpe] at hn ⊢
  have u1 : ∀ x, erN I0 ρ f n T P S k (j_up I 139 (4 * k) x) := fun x => erN_up h (by omega)
  have u2 : ∀ x y, erN I0 ρ f n T P S k (j_up (j_up I 139 (4 * k) x) 139 (4 * k + 1) y) := fun x y => erN_up (u1 x) (by omega)
  have u3 : ∀ x y z, erN I0 ρ f n T P S k (j_up (j_up (j_up I 139 (4 * k) x) 139 (4 * k + 1) y) 139 (4 * k + 2) z) := fun x y z => erN_up (u2 x y) (by omega)
  have u4 : ∀ x y z w, erN I0 ρ f n T P S k (j_up (j_up (j_up (j_up I 139 (4 * k) x) 139 (4 * k + 1) y) 139 (4 * k + 2) z) 139 (4 * k + 3) w) := fun x y z w => erN_up (u3 x y z) (by omega)
  have t1 := m_oneOf (q := q) (L := L) (a := 97) (m := P) (p := p) h.1 (by omega) (by omega) (by omega)
  have t2 := fun x => m_oneOf (q := q) (L := L) (a := 48) (m := 10) (p := p + 1) (u1 x).1 (by omega) (by omega) (by omega)
  have t3 := fun x y => m_oneOf (q := q) (L := L) (a := 48) (m := S) (p := p + 2) (u2 x y).1 (by omega) (by omega) (by omega)
  have t4 := fun x y z => m_need (q := q) (L := L) (p := p + 3) (c := 61) (u3 x y z).1 (by omega) (by omega)
  have t5 := fun x y z => m_number2 (q := q) (L := L) (u3 x y z).1 (p + 4) (by omega)
  have o1 : ∀ (Z : pI) (pp x : Nat) (a m : Int32), x ≤ 90 → f_X11_oneOf 5000 129 a m (hp q ρ L (mp Z pp (nI x))) = some (nI 0, hp q ρ L (mp Z pp (nI x))) := fun Z pp x a m hx => m_oneOfD (by omega)
  have o2 : ∀ (Z : pI) (pp x : Nat) (a : Int32), x ≤ 90 → f_X11_need 5000 129 a (hp q ρ L (mp Z pp (nI x))) = some (hp q ρ L (mp Z pp (nI x))) := fun Z pp x a hx => m_needD (by omega)
  have o3 : ∀ (Z : pI) (pp x : Nat), x ≤ 90 → f_X11_number 5000 129 (nI 2) (hp q ρ L (mp Z pp (nI x))) = some (nI 0, hp q ρ L (mp Z pp (nI x))) := fun Z pp x hx => m_numberD (by decide) (by omega)
  rcases erd_c (f := f) hP hS hn with ⟨g1, e⟩ | ⟨g1, h1, g2, e⟩ | ⟨g1, h1, g2, g3, e⟩ | ⟨g1, h1, g2, g3, g4, e⟩ | ⟨g1, h1, g2, g3, g4, g5, e⟩ | ⟨g1, h1, g2, g3, g4, g5, bd, e⟩
  · rw [if_neg g1] at t1
    rw [e]
    refine ⟨_, p, nI p, fun kk => ?_, u4 (nI 0) (nI 0) (nI 0) (nI 0), by omega, fun h => (by cases h), fun _ => rfl⟩
    simp (disch := first | omega | assumption) only [evB, ↓bM, ↓bMA, ↓jn_, ↓ob_, ↓b2_, ↓reduceIte, nn_lt, nn_le, nn_eq, nI_add, pk_mul, nn_su, gn_lt, gn_le, ng_lt, ng_le, ng_eq, gn_eq, gg_eq, n_m1, n_cl, if_true, if_false, if_pos, if_neg, lt0, mp_nk, up_ne, e1, e6, e7, ↓b2e t1, mp_co]
    rw [o1 _ _ _ _ _ (by omega), b2]
    simp (disch := first | omega | assumption) only [↓bM, ↓bMA, ↓jn_, ↓ob_, ↓b2_, ↓reduceIte, nn_lt, nn_le, nn_eq, nI_add, pk_mul, nn_su, gn_lt, gn_le, ng_lt, ng_le, ng_eq, gn_eq, gg_eq, n_m1, n_cl, if_true, if_false, if_pos, if_neg, lt0, mp_nk, up_ne, e1, mp_co]
    rw [o1 _ _ _ _ _ (by omega), b2]
    simp (disch := first | omega | assumption) only [↓bM, ↓bMA, ↓jn_, ↓ob_, ↓b2_, ↓reduceIte, nn_lt, nn_le, nn_eq, nI_add, pk_mul, nn_su, gn_lt, gn_le, ng_lt, ng_le, ng_eq, gn_eq, gg_eq, n_m1, n_cl, if_true, if_false, if_pos, if_neg, lt0, mp_nk, up_ne, mp_co]
    rw [o2 _ _ _ _ (by omega), ob]
    simp (disch := first | omega | assumption) only [↓bM, ↓bMA, ↓jn_, ↓ob_, ↓b2_, ↓reduceIte, nn_lt, nn_le, nn_eq, nI_add, pk_mul, nn_su, gn_lt, gn_le, ng_lt, ng_le, ng_eq, gn_eq, gg_eq, n_m1, n_cl, if_true, if_false, if_pos, if_neg, lt0]
    rw [o3 _ _ _ (by omega), b2]
    simp (disch := first | omega | assumption) only [↓bM, ↓bMA, ↓jn_, ↓ob_, ↓b2_, ↓reduceIte, nn_lt, nn_le, nn_eq, nI_add, pk_mul, nn_su, gn_lt, gn_le, ng_lt, ng_le, ng_eq, gn_eq, gg_eq, n_m1, n_cl, if_true, if_false, if_pos, if_neg, lt0, mp_co]
  · rw [if_pos g1] at t1
    have t2 := t2 (nI (sg f n p - 97))
    rw [if_neg g2] at t2
    rw [e]
    refine ⟨_, p + 1, nI (p + 1), fun kk => ?_, u4 (nI (sg f n p - 97)) (nI 0) (nI 0) (nI 0), by omega, fun h => (by cases h), fun _ => rfl⟩
    simp (disch := first | omega | assumption) only [evB, ↓bM, ↓bMA, ↓jn_, ↓ob_, ↓b2_, ↓reduceIte, nn_lt, nn_le, nn_eq, nI_add, pk_mul, nn_su, gn_lt, gn_le, ng_lt, ng_le, ng_eq, gn_eq, gg_eq, n_m1, n_cl, if_true, if_false, if_pos, if_neg, lt0, mp_nk, up_ne, e1, e6, e7, ↓b2e t1, mp_co, ↓b2e t2]
    rw [o1 _ _ _ _ _ (by omega), b2]
    simp (disch := first | omega | assumption) only [↓bM, ↓bMA, ↓jn_, ↓ob_, ↓b2_, ↓reduceIte, nn_lt, nn_le, nn_eq, nI_add, pk_mul, nn_su, gn_lt, gn_le, ng_lt, ng_le, ng_eq, gn_eq, gg_eq, n_m1, n_cl, if_true, if_false, if_pos, if_neg, lt0, mp_nk, up_ne, mp_co]
    rw [o2 _ _ _ _ (by omega), ob]
    simp (disch := first | omega | assumption) only [↓bM, ↓bMA, ↓jn_, ↓ob_, ↓b2_, ↓reduceIte, nn_lt, nn_le, nn_eq, nI_add, pk_mul, nn_su, gn_lt, gn_le, ng_lt, ng_le, ng_eq, gn_eq, gg_eq, n_m1, n_cl, if_true, if_false, if_pos, if_neg, lt0]
    rw [o3 _ _ _ (by omega), b2]
    simp (disch := first | omega | assumption) only [↓bM, ↓bMA, ↓jn_, ↓ob_, ↓b2_, ↓reduceIte, nn_lt, nn_le, nn_eq, nI_add, pk_mul, nn_su, gn_lt, gn_le, ng_lt, ng_le, ng_eq, gn_eq, gg_eq, n_m1, n_cl, if_true, if_false, if_pos, if_neg, lt0, mp_co]
  · rw [if_pos g1] at t1
    have t2 := t2 (nI (sg f n p - 97))
    rw [if_pos g2] at t2
    have t3 := t3 (nI (sg f n p - 97)) (nI (sg f n (p + 1) - 48))
    rw [if_neg g3] at t3
    rw [e]
    refine ⟨_, p + 2, nI (p + 2), fun kk => ?_, u4 (nI (sg f n p - 97)) (nI (sg f n (p + 1) - 48)) (nI 0) (nI 0), by omega, fun h => (by cases h), fun _ => rfl⟩
    simp (disch := first | omega | assumption) only [evB, ↓bM, ↓bMA, ↓jn_, ↓ob_, ↓b2_, ↓reduceIte, nn_lt, nn_le, nn_eq, nI_add, pk_mul, nn_su, gn_lt, gn_le, ng_lt, ng_le, ng_eq, gn_eq, gg_eq, n_m1, n_cl, if_true, if_false, if_pos, if_neg, lt0, mp_nk, up_ne, e1, e6, e7, ↓b2e t1, mp_co, ↓b2e t2, ↓b2e t3]
    rw [o2 _ _ _ _ (by omega), ob]
    simp (disch := first | omega | assumption) only [↓bM, ↓bMA, ↓jn_, ↓ob_, ↓b2_, ↓reduceIte, nn_lt, nn_le, nn_eq, nI_add, pk_mul, nn_su, gn_lt, gn_le, ng_lt, ng_le, ng_eq, gn_eq, gg_eq, n_m1, n_cl, if_true, if_false, if_pos, if_neg, lt0]
    rw [o3 _ _ _ (by omega), b2]
    simp (disch := first | omega | assumption) only [↓bM, ↓bMA, ↓jn_, ↓ob_, ↓b2_, ↓reduceIte, nn_lt, nn_le, nn_eq, nI_add, pk_mul, nn_su, gn_lt, gn_le, ng_lt, ng_le, ng_eq, gn_eq, gg_eq, n_m1, n_cl, if_true, if_false, if_pos, if_neg, lt0, mp_co]
  · rw [if_pos g1] at t1
    have t2 := t2 (nI (sg f n p - 97))
    rw [if_pos g2] at t2
    have t3 := t3 (nI (sg f n p - 97)) (nI (sg f n (p + 1) - 48))
    rw [if_pos g3] at t3
    have t4 := t4 (nI (sg f n p - 97)) (nI (sg f n (p + 1) - 48)) (nI (sg f n (p + 2) - 48))
    rw [if_neg g4] at t4
    rw [e]
    refine ⟨_, p + 3, nI (p + 3), fun kk => ?_, u4 (nI (sg f n p - 97)) (nI (sg f n (p + 1) - 48)) (nI (sg f n (p + 2) - 48)) (nI 0), by omega, fun h => (by cases h), fun _ => rfl⟩
    simp (disch := first | omega | assumption) only [evB, ↓bM, ↓bMA, ↓jn_, ↓ob_, ↓b2_, ↓reduceIte, nn_lt, nn_le, nn_eq, nI_add, pk_mul, nn_su, gn_lt, gn_le, ng_lt, ng_le, ng_eq, gn_eq, gg_eq, n_m1, n_cl, if_true, if_false, if_pos, if_neg, lt0, mp_nk, up_ne, e1, e6, e7, ↓b2e t1, mp_co, ↓b2e t2, ↓b2e t3, ↓oe t4]
    rw [o3 _ _ _ (by omega), b2]
    simp (disch := first | omega | assumption) only [↓bM, ↓bMA, ↓jn_, ↓ob_, ↓b2_, ↓reduceIte, nn_lt, nn_le, nn_eq, nI_add, pk_mul, nn_su, gn_lt, gn_le, ng_lt, ng_le, ng_eq, gn_eq, gg_eq, n_m1, n_cl, if_true, if_false, if_pos, if_neg, lt0, mp_co]
  · rw [if_pos g1] at t1
    have t2 := t2 (nI (sg f n p - 97))
    rw [if_pos g2] at t2
    have t3 := t3 (nI (sg f n p - 97)) (nI (sg f n (p + 1) - 48))
    rw [if_pos g3] at t3
    have t4 := t4 (nI (sg f n p - 97)) (nI (sg f n (p + 1) - 48)) (nI (sg f n (p + 2) - 48))
    rw [if_pos g4] at t4
    have t5 := t5 (nI (sg f n p - 97)) (nI (sg f n (p + 1) - 48)) (nI (sg f n (p + 2) - 48))
    rw [if_neg g5] at t5
    rw [e]
    refine ⟨_, p + 4, nI (p + 4), fun kk => ?_, u4 (nI (sg f n p - 97)) (nI (sg f n (p + 1) - 48)) (nI (sg f n (p + 2) - 48)) (nI 0), by omega, fun h => (by cases h), fun _ => rfl⟩
    simp (disch := first | omega | assumption) only [evB, ↓bM, ↓bMA, ↓jn_, ↓ob_, ↓b2_, ↓reduceIte, nn_lt, nn_le, nn_eq, nI_add, pk_mul, nn_su, gn_lt, gn_le, ng_lt, ng_le, ng_eq, gn_eq, gg_eq, n_m1, n_cl, if_true, if_false, if_pos, if_neg, lt0, mp_nk, up_ne, e1, e6, e7, ↓b2e t1, mp_co, ↓b2e t2, ↓b2e t3, ↓oe t4, ↓b2e t5]
  · rw [if_pos g1] at t1
    have t2 := t2 (nI (sg f n p - 97))
    rw [if_pos g2] at t2
    have t3 := t3 (nI (sg f n p - 97)) (nI (sg f n (p + 1) - 48))
    rw [if_pos g3] at t3
    have t4 := t4 (nI (sg f n p - 97)) (nI (sg f n (p + 1) - 48)) (nI (sg f n (p + 2) - 48))
    rw [if_pos g4] at t4
    have t5 := t5 (nI (sg f n p - 97)) (nI (sg f n (p + 1) - 48)) (nI (sg f n (p + 2) - 48))
    rw [if_pos g5] at t5
    have pl : (pNum f n 2 (p + 4) 0).1 ≤ n := bd.2.2.2.2
    have hh := u4 (nI (sg f n p - 97)) (nI (sg f n (p + 1) - 48)) (nI (sg f n (p + 2) - 48)) (nI (pNum f n 2 (p + 4) 0).2)
    rw [e]
    refine ⟨_, (pNum f n 2 (p + 4) 0).1, -nI 1, fun kk => ?_, hh, by omega, fun _ => ⟨rfl, rfl, ?_⟩, fun h => (by cases h)⟩
    · simp (disch := first | omega | assumption) only [evB, ↓bM, ↓bMA, ↓jn_, ↓ob_, ↓b2_, ↓reduceIte, nn_lt, nn_le, nn_eq, nI_add, pk_mul, nn_su, gn_lt, gn_le, ng_lt, ng_le, ng_eq, gn_eq, gg_eq, n_m1, n_cl, if_true, if_false, if_pos, if_neg, lt0, mp_nk, up_ne, e1, e6, e7, ↓b2e t1, mp_co, ↓b2e t2, ↓b2e t3, ↓oe t4, ↓b2e t5]
    · obtain ⟨a1, a2, a3, a4⟩ := hh
      refine ⟨a1, a2, fun j hj => ?_, a4⟩
      by_cases e : j = k
      · subst e
        rw [← hpe]
        exact ⟨by rw [up_nk (by omega), up_nk (by omega), up_nk (by omega), up_eq]; rfl, by rw [up_nk (by omega), up_nk (by omega), up_eq]; rfl, by rw [up_nk (by omega), up_eq]; rfl, up_eq⟩
      · exact a3 j (by omega)
theorem m_erC {q : pQ} {ρ : pP} {L : pL} {I : pI} {I0 : pI} {f : Nat → Nat} {n T P S E cap : Nat} (h7 : I0 129 7 = nI E) (hk : E + cap = 8) (h : erN I0 ρ f n T P S cap I) (hn : lnP (erd f n P S) cap ≤ n) (hn80 : n ≤ 80) (kk : jH → Option (Int32 × jH)) : evB (nI cap) (hp q ρ L (mp I (lnP (erd f n P S) cap) (-nI 1))) kk = kk (hp q ρ L (mp I (lnP (erd f n P S) cap) (nI (lnP (erd f n P S) cap)))) := by
  have e7 : I 129 7 = nI E := by rw [h.2.2.2 129 (by omega)]; exact h7
  simp (disch := first | omega | assumption) only [evB, ↓bM, ↓bMA, ↓jn_, ↓ob_, ↓b2_, ↓reduceIte, nn_lt, nn_le, nn_eq, nI_add, pk_mul, nn_su, gn_lt, gn_le, ng_lt, ng_le, ng_eq, gn_eq, gg_eq, n_m1, n_cl, if_true, if_false, if_pos, if_neg, lt0, mp_nk, mp_at, e7, hk, ↓oe (m_fault (q := q) (ρ := ρ) (L := L) (I := I) (p := lnP (erd f n P S) cap) (x := lnP (erd f n P S) cap))]
theorem m_erZ {q : pQ} {ρ : pP} {L : pL} {I : pI} {E K : Nat} (hEK : E + K ≤ 8) (h7 : I 129 7 = nI E) {kk : jH → Option (Int32 × jH)} : ∃ J, f_X11_errands_L163 5000 129 (nI K) kk 5000 (nI 0) (hp q ρ L I) = kk (hp q ρ L J) ∧ (∀ c, c < 4 * K → J 134 (4 * E + c) = I 139 c) ∧ (∀ c, c < 4 * E → J 134 c = I 134 c) ∧ ∀ b, b ≠ 134 → J b = I b := by
  obtain ⟨J, e1, e2⟩ := loE (fun m (z : pI) j => f_X11_errands_L163 5000 129 (nI K) kk m (nI j) (hp q ρ L z)) (fun z => kk (hp q ρ L z)) (4 * K) (fun j z => (∀ c, c < j → z 134 (4 * E + c) = I 139 c) ∧ (∀ c, c < 4 * E → z 134 c = I 134 c) ∧ ∀ b, b ≠ 134 → z b = I b) (by
    intro m z p
    rw [f_X11_errands_L163]
    simp (disch := first | omega | assumption) only [↓bM, ↓bMA, ↓jn_, ↓ob_, ↓b2_, ↓reduceIte, nn_lt, nn_le, nn_eq, nI_add, pk_mul, nn_su, gn_lt, gn_le, ng_lt, ng_le, ng_eq, gn_eq, gg_eq, n_m1, n_cl, if_true, if_false, if_pos, if_neg, lt0]) (by
    rintro m z j hj ⟨p1, p2, p3⟩
    have z7 : z 129 7 = nI E := by rw [p3 129 (by omega)]; exact h7
    have z139 : z 139 j = I 139 j := by rw [p3 139 (by omega)]
    refine ⟨j_up z 134 (4 * E + j) (I 139 j), ?_, fun c hc => ?_, fun c hc => ?_, fun b hb => by rw [up_ne hb]; exact p3 b hb⟩
    · rw [f_X11_errands_L163]
      simp (disch := first | omega | assumption) only [↓bM, ↓bMA, ↓jn_, ↓ob_, ↓b2_, ↓reduceIte, nn_lt, nn_le, nn_eq, nI_add, pk_mul, nn_su, gn_lt, gn_le, ng_lt, ng_le, ng_eq, gn_eq, gg_eq, n_m1, n_cl, if_true, if_false, if_pos, if_neg, lt0, z7, z139]
    · by_cases e : c = j
      · rw [e, up_eq]
      · rw [up_nk (by omega)]
        exact p1 c (by omega)
    · rw [up_nk (by omega)]
      exact p2 c hc) (4 * K) 5000 I 0 (by omega) (by omega) ⟨fun c hc => absurd hc (Nat.not_lt_zero c), fun c _ => rfl, fun b _ => rfl⟩
  exact ⟨J, e1, e2⟩
