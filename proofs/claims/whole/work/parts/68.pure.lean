/-! TRAVELLERS: the reference, and the call -/
def trM (I : pI) (ρ : pP) (f : Nat → Nat) (n T S : Nat) (k : Nat) (J : pI) : Prop := RdM ρ J f n ∧ J 129 15 = nI T ∧ (∀ j, j < k → J 139 (2 * j) = nI (trP f n (lnP (trd f n S) j)) ∧ J 139 (2 * j + 1) = nI (trU f n (lnP (trd f n S) j))) ∧ ∀ b, b ≠ 139 → J b = I b
theorem trM_up {I J : pI} {ρ : pP} {f : Nat → Nat} {n T S k c : Nat} {x : Int32} (h : trM I ρ f n T S k J) (hc : 2 * k ≤ c) : trM I ρ f n T S k (j_up J 139 c x) := by
  obtain ⟨h1, h2, h3, h4⟩ := h
  refine ⟨RdM_k h1 (by rw [up_ne (by omega)]) (by rw [up_ne (by omega)]) (fun b hb => up_ne (by omega)), by rw [up_ne (by omega)]; exact h2, fun j hj => ?_, fun b hb => by rw [up_ne hb]; exact h4 b hb⟩
  rw [up_nk (by omega), up_nk (by omega)]
  exact h3 j hj
def tvB (x1 : Int32) (h4 : jH) (cont : jH → Option (Int32 × jH)) : Option (Int32 × jH) :=
  (jg_I 11 6 h4 129).bind (fun v6 =>
          if (v6 + x1) = nI 4 then
            (jg_I 11 17 h4 129).bind (fun v10 =>
            (f_X11_fault 5000 129 v10 h4).bind (fun h11 =>
            cont h11))
          else
            (jg_R 11 21 h4 129).bind (fun v12 =>
            (jg_I 11 1 h4 129).bind (fun v13 =>
            j_b2 (f_X11_oneOf 5000 129 (nI 48) v13 h4) (fun v15 h14 =>
            (jb_I 100 h14 v12 (nI 2 * x1) v15).bind (fun h16 =>
            (f_X11_need 5000 129 (nI 58) h16).bind (fun h17 =>
            (jg_R 11 21 h17 129).bind (fun v18 =>
            j_b2 (f_X11_number 5000 129 (nI 3) h17) (fun v20 h19 =>
            (jb_I 100 h19 v18 (nI 2 * x1 + nI 1) v20).bind (fun h21 =>
            cont h21)))))))))
theorem tvB_lp {ks : Int32 → jH → Option (Int32 × jH)} : ∀ m x1 x2 h, f_X11_travellers_L24 5000 129 (mKK ks) (m + 1) x1 x2 h = if x2 = nI 0 then mKK ks x1 h else j_b2 (f_X11_fine 5000 129 h) (fun v5 h4 => if v5 = nI 0 then mKK ks x1 h4 else tvB x1 h4 (fun h7 => j_b2 (f_X11_passes 5000 129 (nI 59) h7) (fun v9 h8 => f_X11_travellers_L24 5000 129 (mKK ks) m (x1 + nI 1) v9 h8))) := by
  intro m x1 x2 h
  rw [f_X11_travellers_L24]
  simp only [lt0, jn_]
  rfl
theorem m_trB {q : pQ} {ρ : pP} {L : pL} {I : pI} {I0 : pI} {f : Nat → Nat} {n T S P k : Nat} (h1 : I0 129 1 = nI S) (h6 : I0 129 6 = nI P) (hS : S ≤ 6) (hk : P + k < 4) (h : trM I0 ρ f n T S k I) (hn : lnP (trd f n S) k ≤ n) (hn80 : n ≤ 76) : ∃ J' p' w, (∀ kk, tvB (nI k) (hp q ρ L (mp I (lnP (trd f n S) k) (-nI 1))) kk = kk (hp q ρ L (mp J' p' w))) ∧ trM I0 ρ f n T S k J' ∧ p' ≤ 200 ∧ ((trd f n S (lnP (trd f n S) k)).1 = true → p' = (trd f n S (lnP (trd f n S) k)).2 ∧ w = -nI 1 ∧ trM I0 ρ f n T S (k + 1) J') ∧ ((trd f n S (lnP (trd f n S) k)).1 = false → w = nI (trd f n S (lnP (trd f n S) k)).2) := by
  have e1 : I 129 1 = nI S := by rw [h.2.2.2 129 (by omega)]; exact h1
  have e6 : I 129 6 = nI P := by rw [h.2.2.2 129 (by omega)]; exact h6
  obtain ⟨p, hpe⟩ : ∃ p, p = lnP (trd f n S) k := ⟨_, rfl⟩
  rw [← hpe] at hn ⊢
  have t1 := m_oneOf (q := q) (L := L) (a := 48) (m := S) (p := p) h.1 (by omega) (by omega) (by omega)
  by_cases g1 : 48 ≤ sg f n p ∧ sg f n p < 48 + S
  · rw [if_pos g1] at t1
    have i1 := sg_in (f := f) (n := n) (p := p) (by omega)
    have h' : trM I0 ρ f n T S k (j_up I 139 (2 * k) (nI (trP f n p))) := trM_up h (by omega)
    have t2 := m_need (q := q) (L := L) (p := p + 1) (c := 58) h'.1 (by omega) (by omega)
    have tp : trP f n p = sg f n p - 48 := rfl
    rw [← tp] at t1
    by_cases g2 : sg f n (p + 1) = 58
    · rw [if_pos g2] at t2
      have i2 := sg_in (f := f) (n := n) (p := p + 1) (by omega)
      have t3 := m_number3 (q := q) (L := L) h'.1 (p + 2) (by omega)
      by_cases g3 : 48 ≤ sg f n (p + 2) ∧ sg f n (p + 2) ≤ 57
      · rw [if_pos g3] at t3
        have er : trd f n S p = (true, (pNum f n 3 (p + 2) 0).1) := by unfold trd; rw [if_pos g1, if_pos g2, if_pos g3]
        have tu : (pNum f n 3 (p + 2) 0).2 = trU f n p := rfl
        rw [tu] at t3
        have pl := (pNum_le f n 3 (p + 2) 0 (by omega)).1
        have hh : trM I0 ρ f n T S k (j_up (j_up I 139 (2 * k) (nI (trP f n p))) 139 (2 * k + 1) (nI (trU f n p))) := trM_up h' (by omega)
        rw [er]
        refine ⟨j_up (j_up I 139 (2 * k) (nI (trP f n p))) 139 (2 * k + 1) (nI (trU f n p)), (pNum f n 3 (p + 2) 0).1, -nI 1, fun kk => ?_, hh, by omega, fun _ => ⟨rfl, rfl, ?_⟩, fun h => (by cases h)⟩
        · simp (disch := first | omega | assumption) only [tvB, ↓bM, ↓bMA, ↓jn_, ↓ob_, ↓b2_, ↓reduceIte, nn_lt, nn_le, nn_eq, nI_add, pk_mul, nn_su, gn_lt, gn_le, ng_lt, ng_le, ng_eq, gn_eq, gg_eq, n_m1, n_cl, if_true, if_false, if_pos, if_neg, lt0, mp_nk, e1, e6, ↓b2e t1, mp_co, ↓oe t2, ↓b2e t3]
        · obtain ⟨a1, a2, a3, a4⟩ := hh
          refine ⟨a1, a2, fun j hj => ?_, a4⟩
          by_cases e : j = k
          · subst e
            rw [← hpe]
            exact ⟨by rw [up_nk (by omega), up_eq], up_eq⟩
          · exact a3 j (by omega)
      · rw [if_neg g3] at t3
        have er : trd f n S p = (false, p + 2) := by unfold trd; rw [if_pos g1, if_pos g2, if_neg g3]
        rw [er]
        refine ⟨j_up (j_up I 139 (2 * k) (nI (trP f n p))) 139 (2 * k + 1) (nI 0), p + 2, nI (p + 2), fun kk => ?_, trM_up h' (by omega), by omega, fun h => (by cases h), fun _ => rfl⟩
        simp (disch := first | omega | assumption) only [tvB, ↓bM, ↓bMA, ↓jn_, ↓ob_, ↓b2_, ↓reduceIte, nn_lt, nn_le, nn_eq, nI_add, pk_mul, nn_su, gn_lt, gn_le, ng_lt, ng_le, ng_eq, gn_eq, gg_eq, n_m1, n_cl, if_true, if_false, if_pos, if_neg, lt0, mp_nk, e1, e6, ↓b2e t1, mp_co, ↓oe t2, ↓b2e t3]
    · rw [if_neg g2] at t2
      have er : trd f n S p = (false, p + 1) := by unfold trd; rw [if_pos g1, if_neg g2]
      have t3 := m_numberD (q := q) (ρ := ρ) (L := L) (I := j_up I 139 (2 * k) (nI (trP f n p))) (p := p + 1) (x := p + 1) (K := nI 3) (by decide) (by omega)
      rw [er]
      refine ⟨j_up (j_up I 139 (2 * k) (nI (trP f n p))) 139 (2 * k + 1) (nI 0), p + 1, nI (p + 1), fun kk => ?_, trM_up h' (by omega), by omega, fun h => (by cases h), fun _ => rfl⟩
      simp (disch := first | omega | assumption) only [tvB, ↓bM, ↓bMA, ↓jn_, ↓ob_, ↓b2_, ↓reduceIte, nn_lt, nn_le, nn_eq, nI_add, pk_mul, nn_su, gn_lt, gn_le, ng_lt, ng_le, ng_eq, gn_eq, gg_eq, n_m1, n_cl, if_true, if_false, if_pos, if_neg, lt0, mp_nk, e1, e6, ↓b2e t1, mp_co, ↓oe t2, ↓b2e t3]
  · rw [if_neg g1] at t1
    have er : trd f n S p = (false, p) := by unfold trd; rw [if_neg g1]
    have t2 := m_needD (q := q) (ρ := ρ) (L := L) (I := j_up I 139 (2 * k) (nI 0)) (p := p) (x := p) (c := nI 58) (by omega)
    have t3 := m_numberD (q := q) (ρ := ρ) (L := L) (I := j_up I 139 (2 * k) (nI 0)) (p := p) (x := p) (K := nI 3) (by decide) (by omega)
    rw [er]
    refine ⟨j_up (j_up I 139 (2 * k) (nI 0)) 139 (2 * k + 1) (nI 0), p, nI p, fun kk => ?_, trM_up (trM_up h (by omega)) (by omega), by omega, fun h => (by cases h), fun _ => rfl⟩
    simp (disch := first | omega | assumption) only [tvB, ↓bM, ↓bMA, ↓jn_, ↓ob_, ↓b2_, ↓reduceIte, nn_lt, nn_le, nn_eq, nI_add, pk_mul, nn_su, gn_lt, gn_le, ng_lt, ng_le, ng_eq, gn_eq, gg_eq, n_m1, n_cl, if_true, if_false, if_pos, if_neg, lt0, mp_nk, e1, e6, ↓b2e t1, mp_co, ↓oe t2, ↓b2e t3]
theorem m_trC {q : pQ} {ρ : pP} {L : pL} {I : pI} {I0 : pI} {f : Nat → Nat} {n T S P cap : Nat} (h6 : I0 129 6 = nI P) (hk : P + cap = 4) (h : trM I0 ρ f n T S cap I) (hn : lnP (trd f n S) cap ≤ n) (hn80 : n ≤ 80) (kk : jH → Option (Int32 × jH)) : tvB (nI cap) (hp q ρ L (mp I (lnP (trd f n S) cap) (-nI 1))) kk = kk (hp q ρ L (mp I (lnP (trd f n S) cap) (nI (lnP (trd f n S) cap)))) := by
  have e6 : I 129 6 = nI P := by rw [h.2.2.2 129 (by omega)]; exact h6
  simp (disch := first | omega | assumption) only [tvB, ↓bM, ↓bMA, ↓jn_, ↓ob_, ↓b2_, ↓reduceIte, nn_lt, nn_le, nn_eq, nI_add, pk_mul, nn_su, gn_lt, gn_le, ng_lt, ng_le, ng_eq, gn_eq, gg_eq, n_m1, n_cl, if_true, if_false, if_pos, if_neg, lt0, mp_nk, mp_at, e6, hk, ↓oe (m_fault (q := q) (ρ := ρ) (L := L) (I := I) (p := lnP (trd f n S) cap) (x := lnP (trd f n S) cap))]
theorem m_trZ {q : pQ} {ρ : pP} {L : pL} {I : pI} {f g : Nat → Nat} {P K : Nat} (hPK : P + K ≤ 4) (h6 : I 129 6 = nI P) (hc : ∀ j, j < K → I 139 (2 * j) = nI (f j) ∧ I 139 (2 * j + 1) = nI (g j)) {kk : jH → Option (Int32 × jH)} : ∃ J, f_X11_travellers_L124 5000 129 (nI K) kk 5000 (nI 0) (hp q ρ L I) = kk (hp q ρ L J) ∧ J 129 6 = nI (P + K) ∧ (∀ t, t < K → J 130 (P + t) = nI (f t) ∧ J 130 (4 + (P + t)) = nI (g t) ∧ J 130 (8 + (P + t)) = nI 0) ∧ (∀ c, (∀ t, t < K → c ≠ P + t ∧ c ≠ 4 + (P + t) ∧ c ≠ 8 + (P + t)) → J 130 c = I 130 c) ∧ (∀ k, k ≠ 6 → J 129 k = I 129 k) ∧ ∀ b, b ≠ 129 → b ≠ 130 → J b = I b := by
  obtain ⟨J, e1, e2⟩ := loE (fun m (z : pI) j => f_X11_travellers_L124 5000 129 (nI K) kk m (nI j) (hp q ρ L z)) (fun z => kk (hp q ρ L z)) K (fun j z => z 129 6 = nI (P + j) ∧ (∀ t, t < j → z 130 (P + t) = nI (f t) ∧ z 130 (4 + (P + t)) = nI (g t) ∧ z 130 (8 + (P + t)) = nI 0) ∧ (∀ c, (∀ t, t < j → c ≠ P + t ∧ c ≠ 4 + (P + t) ∧ c ≠ 8 + (P + t)) → z 130 c = I 130 c) ∧ (∀ k, k ≠ 6 → z 129 k = I 129 k) ∧ ∀ b, b ≠ 129 → b ≠ 130 → z b = I b) (by
    intro m z p
    rw [f_X11_travellers_L124]
    simp (disch := first | omega | assumption) only [↓bM, ↓bMA, ↓jn_, ↓ob_, ↓b2_, ↓reduceIte, nn_lt, nn_le, nn_eq, nI_add, pk_mul, nn_su, gn_lt, gn_le, ng_lt, ng_le, ng_eq, gn_eq, gg_eq, n_m1, n_cl, if_true, if_false, if_pos, if_neg, lt0]) (by
    rintro m z j hj ⟨p1, p2, p3, p4, p5⟩
    have ⟨c1, c2⟩ := hc j hj
    rw [← p5 139 (by omega) (by omega)] at c1 c2
    have z6 : ∀ x y w, j_up (j_up (j_up z 130 (P + j) x) 130 (4 + (P + j)) y) 130 (8 + (P + j)) w 129 = z 129 := fun x y w => by rw [up_ne (by omega), up_ne (by omega), up_ne (by omega)]
    refine ⟨j_up (j_up (j_up (j_up z 130 (P + j) (nI (f j))) 130 (4 + (P + j)) (nI (g j))) 130 (8 + (P + j)) (nI 0)) 129 6 (nI (P + j + 1)), ?_, up_eq, fun t ht => ?_, fun c hcc => ?_, fun k hk => ?_, fun b b1 b2 => ?_⟩
    · rw [f_X11_travellers_L124]
      simp (disch := first | omega | assumption) only [↓bM, ↓bMA, ↓jn_, ↓ob_, ↓b2_, ↓reduceIte, nn_lt, nn_le, nn_eq, nI_add, pk_mul, nn_su, gn_lt, gn_le, ng_lt, ng_le, ng_eq, gn_eq, gg_eq, n_m1, n_cl, if_true, if_false, if_pos, if_neg, lt0, p1, c1, c2, up_ne, z6]
    · rw [up_ne (by omega)]
      by_cases e : t = j
      · subst e
        exact ⟨by rw [up_nk (by omega), up_nk (by omega), up_eq], by rw [up_nk (by omega), up_eq], up_eq⟩
      · rw [up_nk (by omega), up_nk (by omega), up_nk (by omega), up_nk (by omega), up_nk (by omega), up_nk (by omega), up_nk (by omega), up_nk (by omega), up_nk (by omega)]
        exact p2 t (by omega)
    · have ⟨x1, x2, x3⟩ := hcc j (by omega)
      rw [up_ne (by omega), up_nk x3, up_nk x2, up_nk x1]
      exact p3 c (fun t ht => hcc t (by omega))
    · rw [up_nk hk, z6]
      exact p4 k hk
    · rw [up_ne b1, up_ne b2, up_ne b2, up_ne b2]
      exact p5 b b1 b2) K 5000 I 0 (by omega) (by omega) ⟨h6, fun t ht => absurd ht (Nat.not_lt_zero t), fun c _ => rfl, fun k _ => rfl, fun b _ _ => rfl⟩
  exact ⟨J, e1, e2⟩
