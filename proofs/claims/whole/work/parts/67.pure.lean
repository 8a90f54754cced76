/-! LINES read by both -/
def bgn (I : pI) (T m : Nat) : pI := j_up (j_up (j_up I 129 15 (nI T)) 129 16 (nI m)) 129 10 (nI 0)
theorem m_begin {q : pQ} {ρ : pP} {L : pL} {I : pI} {T m : Nat} (h : I 129 10 = nI T) : f_X11_beginText 5000 129 (nI m) (hp q ρ L I) = some (hp q (rr ρ (some 135)) L (mp (bgn I T m) 0 (-nI 1))) := by
  unfold bgn
  simp (disch := first | omega | assumption) only [f_X11_beginText, f_X11_begin, ↓bM, ↓bMA, ↓jn_, ↓ob_, ↓b2_, ↓reduceIte, nn_lt, nn_le, nn_eq, nI_add, pk_mul, nn_su, gn_lt, gn_le, ng_lt, ng_le, ng_eq, gn_eq, gg_eq, n_m1, n_cl, if_true, if_false, if_pos, if_neg, lt0, h, ↓oe (hR14 _ _ _ _ _), rr_0]
  rw [mp_fold, mp_co (by omega)]
theorem bgn_ne {I : pI} {T m b : Nat} (h : b ≠ 129) : bgn I T m b = I b := by
  unfold bgn
  rw [up_ne h, up_ne h, up_ne h]
theorem bgn_k {I : pI} {T m k : Nat} (h1 : k ≠ 15) (h2 : k ≠ 16) (h3 : k ≠ 10) : bgn I T m 129 k = I 129 k := by
  unfold bgn
  rw [up_nk h3, up_nk h2, up_nk h1]
theorem bgn_15 {I : pI} {T m : Nat} : bgn I T m 129 15 = nI T := by
  unfold bgn
  rw [up_nk (by omega), up_nk (by omega), up_eq]
theorem bgn_10 {I : pI} {T m : Nat} : bgn I T m 129 10 = nI 0 := up_eq
theorem RdM_of {g : gT} {ρ : pP} {I : pI} {m : Nat} (hT : MT g I) (w : WT g) (hm : m ≤ 80) : RdM (rr ρ (some 135)) (bgn I g.1 m) g.2 (min g.1 m) := ⟨135, g.1, m, rfl, .inl rfl, bgn_15, by unfold bgn; rw [up_nk (by omega), up_eq], rfl, w.1, hm, fun k hk => ⟨by rw [bgn_ne (by omega)]; exact hT.2 k (by omega), w.2 k (by omega)⟩⟩
theorem RdM_k {ρ : pP} {I J : pI} {f : Nat → Nat} {n : Nat} (h : RdM ρ I f n) (e15 : J 129 15 = I 129 15) (e16 : J 129 16 = I 129 16) (e : ∀ b, b = 135 ∨ b = 140 ∨ b = 141 → J b = I b) : RdM ρ J f n := by
  obtain ⟨U, T, top, h1, hU, h15, h16, hn, hT, htop, hk⟩ := h
  refine ⟨U, T, top, h1, hU, by rw [e15]; exact h15, by rw [e16]; exact h16, hn, hT, htop, fun k hk1 => ?_⟩
  rw [e U (by omega)]
  exact hk k hk1
theorem Rd_k {I J : pI} {f : Nat → Nat} {n : Nat} (h : Rd I f n) (e1 : J 1 3 = I 1 3) (e2 : J 2 = I 2) : Rd J f n := by
  unfold Rd
  rw [e1, e2]
  exact h
theorem x_rl0 {q : pQ} {ρ : pP} {L : pL} {I : pI} {kd m c0 C : Nat} (hT : I 1 1 = nI 0) (hm : m ≤ 80) : f_X10_readLines 5000 0 (nI kd) (nI m) (nI c0) (nI C) (hp q ρ L I) = some (nI 0, hp q ρ L (j_up (ap (j_up I 1 3 (nI (min 0 m))) 0) 1 1 (nI 0))) := by
  have op := x_open (q := q) (ρ := ρ) (L := L) (m := m) hT (by omega) hm
  have h11 : ap (j_up I 1 3 (nI (min 0 m))) 0 1 1 = nI 0 := by rw [ap_nk (by omega), up_nk (by omega)]; exact hT
  simp (disch := first | omega | assumption) only [f_X10_readLines, ↓bX, ↓bXA, ↓jn_, ↓ob_, ↓b2_, ↓reduceIte, nn_lt, nn_le, nn_eq, nI_add, pk_mul, nn_su, gn_lt, gn_le, ng_lt, ng_le, ng_eq, gn_eq, gg_eq, n_m1, n_cl, if_true, if_false, if_pos, if_neg, lt0, ↓oe op, h11]
theorem x_rl1 {q : pQ} {ρ : pP} {L : pL} {I : pI} {f : Nat → Nat} {n T m c0 kd cap : Nat} {rd : Nat → Bool × Nat} {Inv : Nat → pI → Prop} (hT : I 1 1 = nI T) (hT1 : 1 ≤ T) (hm : m ≤ 80) (hc : c0 + cap ≤ 100) (hT80 : T ≤ 80) (hrd : ∀ p, p ≤ n → (rd p).2 ≤ n) (hRd : ∀ k J, Inv k J → Rd J f n ∧ J 1 1 = nI T) (hst : ∀ k J, k < cap → Inv k J → lnP rd k ≤ n → ∃ J', f_X10_readLine 5000 0 (nI kd) (nI (c0 + k)) (hp q ρ L (ap J (lnP rd k))) = some (bo (rd (lnP rd k)).1, hp q ρ L (ap J' (rd (lnP rd k)).2)) ∧ ((rd (lnP rd k)).1 = true → Inv (k + 1) J') ∧ Inv k J') (h0 : Inv 0 (j_up I 1 3 (nI (min T m)))) : ∃ J, f_X10_readLines 5000 0 (nI kd) (nI m) (nI c0) (nI (c0 + cap)) (hp q ρ L I) = some (if (lns f n T rd cap 0 0).1 = true then nI (lns f n T rd cap 0 0).2.1 else -nI (1 + (lns f n T rd cap 0 0).2.2), hp q ρ L (j_up (ap J (lns f n T rd cap 0 0).2.2) 1 1 (nI 0))) ∧ Inv (lns f n T rd cap 0 0).2.1 J := by
  have op := x_open (q := q) (ρ := ρ) (L := L) (m := m) hT (by omega) hm
  have h11 : ap (j_up I 1 3 (nI (min T m))) 0 1 1 = nI T := by rw [ap_nk (by omega), up_nk (by omega)]; exact hT
  obtain ⟨J, e1, e2⟩ := x_lns (q := q) (ρ := ρ) (L := L) hc hT80 hrd hRd hst cap 0 5000 _ (by omega) (by omega) h0 (Nat.zero_le n)
  refine ⟨J, ?_, e2⟩
  have e3 : f_X10_linesUpTo 5000 0 (nI kd) (nI c0) (nI (c0 + cap)) (hp q ρ L (ap (j_up I 1 3 (nI (min T m))) 0)) = some (if (lns f n T rd cap 0 0).1 = true then nI (lns f n T rd cap 0 0).2.1 else -nI (1 + (lns f n T rd cap 0 0).2.2), hp q ρ L (ap J (lns f n T rd cap 0 0).2.2)) := by
    simp (disch := first | omega | assumption) only [f_X10_linesUpTo, ↓bX, lt0]
    exact e1
  simp (disch := first | omega | assumption) only [f_X10_readLines, ↓bX, ↓bXA, ↓jn_, ↓ob_, ↓b2_, ↓reduceIte, nn_lt, nn_le, nn_eq, nI_add, pk_mul, nn_su, gn_lt, gn_le, ng_lt, ng_le, ng_eq, gn_eq, gg_eq, n_m1, n_cl, if_true, if_false, if_pos, if_neg, lt0, ↓oe op, h11, ↓b2e e3]
/-! TRAVELLERS -/
def trd (f : Nat → Nat) (n S p : Nat) : Bool × Nat := if 48 ≤ sg f n p ∧ sg f n p < 48 + S then (if sg f n (p + 1) = 58 then (if 48 ≤ sg f n (p + 2) ∧ sg f n (p + 2) ≤ 57 then (true, (pNum f n 3 (p + 2) 0).1) else (false, p + 2)) else (false, p + 1)) else (false, p)
theorem trd_le {f : Nat → Nat} {n S p : Nat} (hS : S ≤ 6) (h : p ≤ n) : (trd f n S p).2 ≤ n := by
  unfold trd
  split
  · rename_i g
    have g1 := sg_in (f := f) (n := n) (p := p) (by omega)
    split
    · rename_i g
      have g2 := sg_in (f := f) (n := n) (p := p + 1) (by omega)
      split
      · exact (pNum_le f n 3 (p + 2) 0 (by omega)).1
      · simp only []; omega
    · simp only []; omega
  · exact h
def trP (f : Nat → Nat) (n p : Nat) : Nat := sg f n p - 48
def trU (f : Nat → Nat) (n p : Nat) : Nat := (pNum f n 3 (p + 2) 0).2
theorem trd_t {f : Nat → Nat} {n S p : Nat} (h : (trd f n S p).1 = true) : trP f n p < S ∧ trU f n p < 1000 := by
  unfold trd at h
  unfold trP trU
  split at h
  · split at h
    · split at h
      · refine ⟨by omega, ?_⟩
        have := pNum_lt f n 3 (p + 2) 0
        omega
      · cases h
    · cases h
  · cases h
def trX (I : pI) (f : Nat → Nat) (n T S P : Nat) (k : Nat) (J : pI) : Prop := Rd J f n ∧ J 1 1 = nI T ∧ (∀ j, j < k → J 20 (P + j) = nI (trP f n (lnP (trd f n S) j)) ∧ J 21 (P + j) = nI (trU f n (lnP (trd f n S) j)) ∧ J 22 (P + j) = nI 0) ∧ (∀ i, i < P → J 20 i = I 20 i ∧ J 21 i = I 21 i ∧ J 22 i = I 22 i) ∧ ∀ b, b ≠ 20 → b ≠ 21 → b ≠ 22 → J b = I b
theorem trX_up {I J : pI} {f : Nat → Nat} {n T S P k b : Nat} {x : Int32} (h : trX I f n T S P k J) (hb : b = 20 ∨ b = 21 ∨ b = 22) : trX I f n T S P k (j_up J b (P + k) x) := by
  obtain ⟨h1, h2, h3, h4, h5⟩ := h
  refine ⟨Rd_k h1 (by rw [up_ne (by omega)]) (by rw [up_ne (by omega)]), by rw [up_ne (by omega)]; exact h2, fun j hj => ?_, fun i hi => ?_, fun c c1 c2 c3 => by rw [up_ne (by omega)]; exact h5 c c1 c2 c3⟩
  · rw [up_nk (by omega), up_nk (by omega), up_nk (by omega)]
    exact h3 j hj
  · rw [up_nk (by omega), up_nk (by omega), up_nk (by omega)]
    exact h4 i hi
theorem x_trL {q : pQ} {ρ : pP} {L : pL} {I : pI} {I0 : pI} {f : Nat → Nat} {n T S P k : Nat} (h17 : I0 0 17 = nI S) (hS : S ≤ 6) (hk : P + k < 4) (h : trX I0 f n T S P k I) (hn : lnP (trd f n S) k ≤ n) : ∃ J, f_X10_readLine 5000 0 (nI 1) (nI (P + k)) (hp q ρ L (ap I (lnP (trd f n S) k))) = some (bo (trd f n S (lnP (trd f n S) k)).1, hp q ρ L (ap J (trd f n S (lnP (trd f n S) k)).2)) ∧ ((trd f n S (lnP (trd f n S) k)).1 = true → trX I0 f n T S P (k + 1) J) ∧ trX I0 f n T S P k J := by
  have e17 : I 0 17 = nI S := by rw [h.2.2.2.2 0 (by omega) (by omega) (by omega)]; exact h17
  obtain ⟨p, hpe⟩ : ∃ p, p = lnP (trd f n S) k := ⟨_, rfl⟩
  rw [← hpe] at hn ⊢
  have t1 := x_takeFrom (q := q) (ρ := ρ) (L := L) (a := 48) (m := S) h.1 hn (by omega)
  by_cases g1 : 48 ≤ sg f n p ∧ sg f n p < 48 + S
  · rw [if_pos g1] at t1
    have i1 := sg_in (f := f) (n := n) (p := p) (by omega)
    have h' : trX I0 f n T S P k (j_up I 20 (P + k) (nI (trP f n p))) := trX_up h (.inl rfl)
    have t2 := x_take (q := q) (ρ := ρ) (L := L) (p := p + 1) (c := 58) h'.1 (by omega) (by omega)
    have tp : trP f n p = sg f n p - 48 := rfl
    have tb : trP f n p < 6 := by rw [tp]; omega
    rw [← tp] at t1
    by_cases g2 : sg f n (p + 1) = 58
    · rw [if_pos g2] at t2
      have i2 := sg_in (f := f) (n := n) (p := p + 1) (by omega)
      have t3 := x_number3 (q := q) (ρ := ρ) (L := L) h'.1 (p + 2) (by omega)
      by_cases g3 : 48 ≤ sg f n (p + 2) ∧ sg f n (p + 2) ≤ 57
      · rw [if_pos g3] at t3
        have er : trd f n S p = (true, (pNum f n 3 (p + 2) 0).1) := by unfold trd; rw [if_pos g1, if_pos g2, if_pos g3]
        have ub : trU f n p < 1000 := by
          have := pNum_lt f n 3 (p + 2) 0
          unfold trU
          omega
        have tu : (pNum f n 3 (p + 2) 0).2 = trU f n p := rfl
        rw [tu] at t3
        rw [er]
        refine ⟨j_up (j_up (j_up I 20 (P + k) (nI (trP f n p))) 21 (P + k) (nI (trU f n p))) 22 (P + k) (nI 0), ?_, fun _ => ?_, trX_up (trX_up h' (.inr (.inl rfl))) (.inr (.inr rfl))⟩
        · simp (disch := first | omega | assumption) only [f_X10_readLine, f_X7_readTraveller, ↓bX, ↓bXA, ↓jn_, ↓ob_, ↓b2_, ↓reduceIte, nn_lt, nn_le, nn_eq, nI_add, pk_mul, nn_su, gn_lt, gn_le, ng_lt, ng_le, ng_eq, gn_eq, gg_eq, n_m1, n_cl, if_true, if_false, if_pos, if_neg, lt0, ap_ne, e17, ↓b2e t1, ap_co, up_eq, ↓b2e t2, ↓b2e t3, up_ne, jrz_1, bo_t]
        · have hh : trX I0 f n T S P k (j_up (j_up (j_up I 20 (P + k) (nI (trP f n p))) 21 (P + k) (nI (trU f n p))) 22 (P + k) (nI 0)) := trX_up (trX_up h' (.inr (.inl rfl))) (.inr (.inr rfl))
          obtain ⟨a1, a2, a3, a4, a5⟩ := hh
          refine ⟨a1, a2, fun j hj => ?_, a4, a5⟩
          by_cases e : j = k
          · subst e
            rw [← hpe]
            exact ⟨by rw [up_ne (by omega), up_ne (by omega), up_eq], by rw [up_ne (by omega), up_eq], up_eq⟩
          · exact a3 j (by omega)
      · rw [if_neg g3] at t3
        have er : trd f n S p = (false, p + 2) := by unfold trd; rw [if_pos g1, if_pos g2, if_neg g3]
        rw [er]
        refine ⟨j_up (j_up (j_up I 20 (P + k) (nI (trP f n p))) 21 (P + k) (-nI 1)) 22 (P + k) (nI 0), ?_, fun h => (by cases h), trX_up (trX_up h' (.inr (.inl rfl))) (.inr (.inr rfl))⟩
        simp (disch := first | omega | assumption) only [f_X10_readLine, f_X7_readTraveller, ↓bX, ↓bXA, ↓jn_, ↓ob_, ↓b2_, ↓reduceIte, nn_lt, nn_le, nn_eq, nI_add, pk_mul, nn_su, gn_lt, gn_le, ng_lt, ng_le, ng_eq, gn_eq, gg_eq, n_m1, n_cl, if_true, if_false, if_pos, if_neg, lt0, ap_ne, e17, ↓b2e t1, ap_co, up_eq, ↓b2e t2, ↓b2e t3, up_ne, jrz_0, bo_f]
    · rw [if_neg g2] at t2
      have er : trd f n S p = (false, p + 1) := by unfold trd; rw [if_pos g1, if_neg g2]
      rw [er]
      refine ⟨j_up I 20 (P + k) (nI (trP f n p)), ?_, fun h => (by cases h), h'⟩
      simp (disch := first | omega | assumption) only [f_X10_readLine, f_X7_readTraveller, ↓bX, ↓bXA, ↓jn_, ↓ob_, ↓b2_, ↓reduceIte, nn_lt, nn_le, nn_eq, nI_add, pk_mul, nn_su, gn_lt, gn_le, ng_lt, ng_le, ng_eq, gn_eq, gg_eq, n_m1, n_cl, if_true, if_false, if_pos, if_neg, lt0, ap_ne, e17, ↓b2e t1, ap_co, up_eq, ↓b2e t2, jrz_0, bo_f]
  · rw [if_neg g1] at t1
    have er : trd f n S p = (false, p) := by unfold trd; rw [if_neg g1]
    rw [er]
    refine ⟨j_up I 20 (P + k) (-nI 1), ?_, fun h => (by cases h), trX_up h (.inl rfl)⟩
    simp (disch := first | omega | assumption) only [f_X10_readLine, f_X7_readTraveller, ↓bX, ↓bXA, ↓jn_, ↓ob_, ↓b2_, ↓reduceIte, nn_lt, nn_le, nn_eq, nI_add, pk_mul, nn_su, gn_lt, gn_le, ng_lt, ng_le, ng_eq, gn_eq, gg_eq, n_m1, n_cl, if_true, if_false, if_pos, if_neg, lt0, ap_ne, e17, ↓b2e t1, ap_co, up_eq, jrz_0, bo_f]
