/-! ERRANDS -/
def erd (f : Nat → Nat) (n P S p : Nat) : Bool × Nat := if 97 ≤ sg f n p ∧ sg f n p < 97 + P then (if 48 ≤ sg f n (p + 1) ∧ sg f n (p + 1) < 58 then (if 48 ≤ sg f n (p + 2) ∧ sg f n (p + 2) < 48 + S then (if sg f n (p + 3) = 61 then (if 48 ≤ sg f n (p + 4) ∧ sg f n (p + 4) ≤ 57 then (true, (pNum f n 2 (p + 4) 0).1) else (false, p + 4)) else (false, p + 3)) else (false, p + 2)) else (false, p + 1)) else (false, p)
def erW (f : Nat → Nat) (n p : Nat) : Nat := sg f n p - 97
def erM (f : Nat → Nat) (n p : Nat) : Nat := sg f n (p + 1) - 48
def erP (f : Nat → Nat) (n p : Nat) : Nat := sg f n (p + 2) - 48
def erV (f : Nat → Nat) (n p : Nat) : Nat := (pNum f n 2 (p + 4) 0).2
theorem erd_c {f : Nat → Nat} {n P S p : Nat} (hP : P ≤ 4) (hS : S ≤ 6) (hp_ : p ≤ n) :
    (¬ (97 ≤ sg f n p ∧ sg f n p < 97 + P) ∧ erd f n P S p = (false, p)) ∨
    ((97 ≤ sg f n p ∧ sg f n p < 97 + P) ∧ p + 1 ≤ n ∧ ¬ (48 ≤ sg f n (p + 1) ∧ sg f n (p + 1) < 58) ∧ erd f n P S p = (false, p + 1)) ∨
    ((97 ≤ sg f n p ∧ sg f n p < 97 + P) ∧ p + 2 ≤ n ∧ (48 ≤ sg f n (p + 1) ∧ sg f n (p + 1) < 58) ∧ ¬ (48 ≤ sg f n (p + 2) ∧ sg f n (p + 2) < 48 + S) ∧ erd f n P S p = (false, p + 2)) ∨
    ((97 ≤ sg f n p ∧ sg f n p < 97 + P) ∧ p + 3 ≤ n ∧ (48 ≤ sg f n (p + 1) ∧ sg f n (p + 1) < 58) ∧ (48 ≤ sg f n (p + 2) ∧ sg f n (p + 2) < 48 + S) ∧ ¬ sg f n (p + 3) = 61 ∧ erd f n P S p = (false, p + 3)) ∨
    ((97 ≤ sg f n p ∧ sg f n p < 97 + P) ∧ p + 4 ≤ n ∧ (48 ≤ sg f n (p + 1) ∧ sg f n (p + 1) < 58) ∧ (48 ≤ sg f n (p + 2) ∧ sg f n (p + 2) < 48 + S) ∧ sg f n (p + 3) = 61 ∧ ¬ (48 ≤ sg f n (p + 4) ∧ sg f n (p + 4) ≤ 57) ∧ erd f n P S p = (false, p + 4)) ∨
    ((97 ≤ sg f n p ∧ sg f n p < 97 + P) ∧ p + 4 ≤ n ∧ (48 ≤ sg f n (p + 1) ∧ sg f n (p + 1) < 58) ∧ (48 ≤ sg f n (p + 2) ∧ sg f n (p + 2) < 48 + S) ∧ sg f n (p + 3) = 61 ∧ (48 ≤ sg f n (p + 4) ∧ sg f n (p + 4) ≤ 57) ∧ (erW f n p < P ∧ erM f n p ≤ 9 ∧ erP f n p < S ∧ erV f n p ≤ 99 ∧ (pNum f n 2 (p + 4) 0).1 ≤ n) ∧ erd f n P S p = (true, (pNum f n 2 (p + 4) 0).1)) := by
  by_cases g1 : 97 ≤ sg f n p ∧ sg f n p < 97 + P
  · have i1 := sg_in (f := f) (n := n) (p := p) (by omega)
    by_cases g2 : 48 ≤ sg f n (p + 1) ∧ sg f n (p + 1) < 58
    · have i2 := sg_in (f := f) (n := n) (p := p + 1) (by omega)
      by_cases g3 : 48 ≤ sg f n (p + 2) ∧ sg f n (p + 2) < 48 + S
      · have i3 := sg_in (f := f) (n := n) (p := p + 2) (by omega)
        by_cases g4 : sg f n (p + 3) = 61
        · have i4 := sg_in (f := f) (n := n) (p := p + 3) (by omega)
          by_cases g5 : 48 ≤ sg f n (p + 4) ∧ sg f n (p + 4) ≤ 57
          · refine .inr (.inr (.inr (.inr (.inr ⟨g1, by omega, g2, g3, g4, g5, ?_, by unfold erd; rw [if_pos g1, if_pos g2, if_pos g3, if_pos g4, if_pos g5]⟩))))
            have h1 := pNum_lt f n 2 (p + 4) 0
            have h2 := (pNum_le f n 2 (p + 4) 0 (by omega)).1
            unfold erW erM erP erV
            omega
          · exact .inr (.inr (.inr (.inr (.inl ⟨g1, by omega, g2, g3, g4, g5, by unfold erd; rw [if_pos g1, if_pos g2, if_pos g3, if_pos g4, if_neg g5]⟩))))
        · exact .inr (.inr (.inr (.inl ⟨g1, by omega, g2, g3, g4, by unfold erd; rw [if_pos g1, if_pos g2, if_pos g3, if_neg g4]⟩)))
      · exact .inr (.inr (.inl ⟨g1, by omega, g2, g3, by unfold erd; rw [if_pos g1, if_pos g2, if_neg g3]⟩))
    · exact .inr (.inl ⟨g1, by omega, g2, by unfold erd; rw [if_pos g1, if_neg g2]⟩)
  · exact .inl ⟨g1, by unfold erd; rw [if_neg g1]⟩
theorem erd_le {f : Nat → Nat} {n P S p : Nat} (hP : P ≤ 4) (hS : S ≤ 6) (hp_ : p ≤ n) : (erd f n P S p).2 ≤ n := by
  rcases erd_c (f := f) hP hS hp_ with ⟨_, e⟩ | ⟨_, h, _, e⟩ | ⟨_, h, _, _, e⟩ | ⟨_, h, _, _, _, e⟩ | ⟨_, h, _, _, _, _, e⟩ | ⟨_, _, _, _, _, _, h, e⟩
  · rw [e]; exact hp_
  · rw [e]; exact h
  · rw [e]; exact h
  · rw [e]; exact h
  · rw [e]; exact h
  · rw [e]; exact h.2.2.2.2
theorem erd_t {f : Nat → Nat} {n P S p : Nat} (hP : P ≤ 4) (hS : S ≤ 6) (hp_ : p ≤ n) (h : (erd f n P S p).1 = true) : erW f n p < P ∧ erM f n p ≤ 9 ∧ erP f n p < S ∧ erV f n p ≤ 99 := by
  rcases erd_c (f := f) hP hS hp_ with ⟨_, e⟩ | ⟨_, _, _, e⟩ | ⟨_, _, _, _, e⟩ | ⟨_, _, _, _, _, e⟩ | ⟨_, _, _, _, _, _, e⟩ | ⟨_, _, _, _, _, _, h', e⟩
  · rw [e] at h; cases h
  · rw [e] at h; cases h
  · rw [e] at h; cases h
  · rw [e] at h; cases h
  · rw [e] at h; cases h
  · exact ⟨h'.1, h'.2.1, h'.2.2.1, h'.2.2.2.1⟩
def erX (I : pI) (f : Nat → Nat) (n T P S E : Nat) (k : Nat) (J : pI) : Prop := Rd J f n ∧ J 1 1 = nI T ∧ (∀ j, j < k → J 14 (E + j) = nI (erW f n (lnP (erd f n P S) j)) ∧ J 15 (E + j) = nI (erM f n (lnP (erd f n P S) j)) ∧ J 16 (E + j) = nI (erP f n (lnP (erd f n P S) j)) ∧ J 17 (E + j) = nI (erV f n (lnP (erd f n P S) j))) ∧ (∀ i, i < E → J 14 i = I 14 i ∧ J 15 i = I 15 i ∧ J 16 i = I 16 i ∧ J 17 i = I 17 i) ∧ ∀ b, (b < 14 ∨ 17 < b) → J b = I b
theorem erX_up {I J : pI} {f : Nat → Nat} {n T P S E k b : Nat} {x : Int32} (h : erX I f n T P S E k J) (hb : 14 ≤ b ∧ b ≤ 17) : erX I f n T P S E k (j_up J b (E + k) x) := by
  obtain ⟨h1, h2, h3, h4, h5⟩ := h
  refine ⟨Rd_k h1 (by rw [up_ne (by omega)]) (by rw [up_ne (by omega)]), by rw [up_ne (by omega)]; exact h2, fun j hj => ?_, fun i hi => ?_, fun c c1 => by rw [up_ne (by omega)]; exact h5 c c1⟩
  · rw [up_nk (by omega), up_nk (by omega), up_nk (by omega), up_nk (by omega)]
    exact h3 j hj
  · rw [up_nk (by omega), up_nk (by omega), up_nk (by omega), up_nk (by omega)]
    exact h4 i hi
theorem x_erL {q : pQ} {ρ : pP} {L : pL} {I : pI} {I0 : pI} {f : Nat → Nat} {n T P S E k : Nat} (h17 : I0 0 17 = nI S) (h18 : I0 0 18 = nI P) (hP : P ≤ 4) (hS : S ≤ 6) (hk : E + k < 8) (h : erX I0 f n T P S E k I) (hn : lnP (erd f n P S) k ≤ n) : ∃ J, f_X10_readLine 5000 0 (nI 2) (nI (E + k)) (hp q ρ L (ap I (lnP (erd f n P S) k))) = some (bo (erd f n P S (lnP (erd f n P S) k)).1, hp q ρ L (ap J (erd f n P S (lnP (erd f n P S) k)).2)) ∧ ((erd f n P S (lnP (erd f n P S) k)).1 = true → erX I0 f n T P S E (k + 1) J) ∧ erX I0 f n T P S E k J := by
  have e17 : I 0 17 = nI S := by rw [h.2.2.2.2 0 (by omega)]; exact h17
  have e18 : I 0 18 = nI P := by rw [h.2.2.2.2 0 (by omega)]; exact h18
  obtain ⟨p, hpe⟩ : ∃ p, p = lnP (erd f n P S) k := ⟨_, rfl⟩
  rw [← hpe] at hn ⊢
  have t1 := x_takeFrom (q := q) (ρ := ρ) (L := L) (a := 97) (m := P) h.1 hn (by omega)
  have u1 : ∀ x, erX I0 f n T P S E k (j_up I 14 (E + k) x) := fun x => erX_up h (by omega)
  have u2 : ∀ x y, erX I0 f n T P S E k (j_up (j_up I 14 (E + k) x) 15 (E + k) y) := fun x y => erX_up (u1 x) (by omega)
  have u3 : ∀ x y z, erX I0 f n T P S E k (j_up (j_up (j_up I 14 (E + k) x) 15 (E + k) y) 16 (E + k) z) := fun x y z => erX_up (u2 x y) (by omega)
  have u4 : ∀ x y z w, erX I0 f n T P S E k (j_up (j_up (j_up (j_up I 14 (E + k) x) 15 (E + k) y) 16 (E + k) z) 17 (E + k) w) := fun x y z w => erX_up (u3 x y z) (by omega)
  have t2 := fun x (hn1 : p + 1 ≤ n) => x_takeFrom (q := q) (ρ := ρ) (L := L) (a := 48) (m := 10) (u1 x).1 hn1 (by omega)
  have t3 := fun x y (hn1 : p + 2 ≤ n) => x_takeFrom (q := q) (ρ := ρ) (L := L) (a := 48) (m := S) (u2 x y).1 hn1 (by omega)
  have t4 := fun x y z (hn1 : p + 3 ≤ n) => x_take (q := q) (ρ := ρ) (L := L) (c := 61) (u3 x y z).1 hn1 (by omega)
  have t5 := fun x y z (hn1 : p + 4 ≤ n) => x_number2 (q := q) (ρ := ρ) (L := L) (u3 x y z).1 (p + 4) hn1
  rcases erd_c (f := f) hP hS hn with ⟨g1, e⟩ | ⟨g1, h1, g2, e⟩ | ⟨g1, h1, g2, g3, e⟩ | ⟨g1, h1, g2, g3, g4, e⟩ | ⟨g1, h1, g2, g3, g4, g5, e⟩ | ⟨g1, h1, g2, g3, g4, g5, bd, e⟩
  · rw [if_neg g1] at t1
    rw [e]
    refine ⟨j_up I 14 (E + k) (-nI 1), ?_, fun h => (by cases h), u1 _⟩
    simp (disch := first | omega | assumption) only [f_X10_readLine, f_X2_readErrand, ↓bX, ↓bXA, ↓jn_, ↓ob_, ↓b2_, ↓reduceIte, nn_lt, nn_le, nn_eq, nI_add, pk_mul, nn_su, gn_lt, gn_le, ng_lt, ng_le, ng_eq, gn_eq, gg_eq, n_m1, n_cl, if_true, if_false, if_pos, if_neg, lt0, ap_ne, e17, e18, ↓b2e t1, ap_co, up_eq, jrz_0, bo_f]
  · rw [if_pos g1] at t1
    have t2 := t2 (nI (sg f n p - 97)) (by omega)
    rw [if_neg g2] at t2
    rw [e]
    refine ⟨j_up (j_up I 14 (E + k) (nI (sg f n p - 97))) 15 (E + k) (-nI 1), ?_, fun h => (by cases h), u2 _ _⟩
    simp (disch := first | omega | assumption) only [f_X10_readLine, f_X2_readErrand, ↓bX, ↓bXA, ↓jn_, ↓ob_, ↓b2_, ↓reduceIte, nn_lt, nn_le, nn_eq, nI_add, pk_mul, nn_su, gn_lt, gn_le, ng_lt, ng_le, ng_eq, gn_eq, gg_eq, n_m1, n_cl, if_true, if_false, if_pos, if_neg, lt0, ap_ne, e17, e18, ↓b2e t1, ap_co, up_eq, ↓b2e t2, jrz_0, bo_f]
  · rw [if_pos g1] at t1
    have t2 := t2 (nI (sg f n p - 97)) (by omega)
    rw [if_pos g2] at t2
    have t3 := t3 (nI (sg f n p - 97)) (nI (sg f n (p + 1) - 48)) (by omega)
    rw [if_neg g3] at t3
    rw [e]
    refine ⟨j_up (j_up (j_up I 14 (E + k) (nI (sg f n p - 97))) 15 (E + k) (nI (sg f n (p + 1) - 48))) 16 (E + k) (-nI 1), ?_, fun h => (by cases h), u3 _ _ _⟩
    simp (disch := first | omega | assumption) only [f_X10_readLine, f_X2_readErrand, ↓bX, ↓bXA, ↓jn_, ↓ob_, ↓b2_, ↓reduceIte, nn_lt, nn_le, nn_eq, nI_add, pk_mul, nn_su, gn_lt, gn_le, ng_lt, ng_le, ng_eq, gn_eq, gg_eq, n_m1, n_cl, if_true, if_false, if_pos, if_neg, lt0, ap_ne, e17, e18, ↓b2e t1, ap_co, up_eq, ↓b2e t2, ↓b2e t3, jrz_0, bo_f]
  · rw [if_pos g1] at t1
    have t2 := t2 (nI (sg f n p - 97)) (by omega)
    rw [if_pos g2] at t2
    have t3 := t3 (nI (sg f n p - 97)) (nI (sg f n (p + 1) - 48)) (by omega)
    rw [if_pos g3] at t3
    have t4 := t4 (nI (sg f n p - 97)) (nI (sg f n (p + 1) - 48)) (nI (sg f n (p + 2) - 48)) (by omega)
    rw [if_neg g4] at t4
    rw [e]
    refine ⟨j_up (j_up (j_up I 14 (E + k) (nI (sg f n p - 97))) 15 (E + k) (nI (sg f n (p + 1) - 48))) 16 (E + k) (nI (sg f n (p + 2) - 48)), ?_, fun h => (by cases h), u3 _ _ _⟩
    simp (disch := first | omega | assumption) only [f_X10_readLine, f_X2_readErrand, ↓bX, ↓bXA, ↓jn_, ↓ob_, ↓b2_, ↓reduceIte, nn_lt, nn_le, nn_eq, nI_add, pk_mul, nn_su, gn_lt, gn_le, ng_lt, ng_le, ng_eq, gn_eq, gg_eq, n_m1, n_cl, if_true, if_false, if_pos, if_neg, lt0, ap_ne, e17, e18, ↓b2e t1, ap_co, up_eq, ↓b2e t2, ↓b2e t3, ↓b2e t4, jrz_0, bo_f]
  · rw [if_pos g1] at t1
    have t2 := t2 (nI (sg f n p - 97)) (by omega)
    rw [if_pos g2] at t2
    have t3 := t3 (nI (sg f n p - 97)) (nI (sg f n (p + 1) - 48)) (by omega)
    rw [if_pos g3] at t3
    have t4 := t4 (nI (sg f n p - 97)) (nI (sg f n (p + 1) - 48)) (nI (sg f n (p + 2) - 48)) (by omega)
    rw [if_pos g4] at t4
    have t5 := t5 (nI (sg f n p - 97)) (nI (sg f n (p + 1) - 48)) (nI (sg f n (p + 2) - 48)) (by omega)
    rw [if_neg g5] at t5
    rw [e]
    refine ⟨j_up (j_up (j_up (j_up I 14 (E + k) (nI (sg f n p - 97))) 15 (E + k) (nI (sg f n (p + 1) - 48))) 16 (E + k) (nI (sg f n (p + 2) - 48))) 17 (E + k) (-nI 1), ?_, fun h => (by cases h), u4 _ _ _ _⟩
    simp (disch := first | omega | assumption) only [f_X10_readLine, f_X2_readErrand, ↓bX, ↓bXA, ↓jn_, ↓ob_, ↓b2_, ↓reduceIte, nn_lt, nn_le, nn_eq, nI_add, pk_mul, nn_su, gn_lt, gn_le, ng_lt, ng_le, ng_eq, gn_eq, gg_eq, n_m1, n_cl, if_true, if_false, if_pos, if_neg, lt0, ap_ne, e17, e18, ↓b2e t1, ap_co, up_eq, ↓b2e t2, ↓b2e t3, ↓b2e t4, ↓b2e t5, jrz_0, bo_f]
  · rw [if_pos g1] at t1
    have t2 := t2 (nI (sg f n p - 97)) (by omega)
    rw [if_pos g2] at t2
    have t3 := t3 (nI (sg f n p - 97)) (nI (sg f n (p + 1) - 48)) (by omega)
    rw [if_pos g3] at t3
    have t4 := t4 (nI (sg f n p - 97)) (nI (sg f n (p + 1) - 48)) (nI (sg f n (p + 2) - 48)) (by omega)
    rw [if_pos g4] at t4
    have t5 := t5 (nI (sg f n p - 97)) (nI (sg f n (p + 1) - 48)) (nI (sg f n (p + 2) - 48)) (by omega)
    rw [if_pos g5] at t5
    have vb : (pNum f n 2 (p + 4) 0).2 ≤ 99 := bd.2.2.2.1
    rw [e]
    have hh := u4 (nI (sg f n p - 97)) (nI (sg f n (p + 1) - 48)) (nI (sg f n (p + 2) - 48)) (nI (pNum f n 2 (p + 4) 0).2)
    refine ⟨j_up (j_up (j_up (j_up I 14 (E + k) (nI (sg f n p - 97))) 15 (E + k) (nI (sg f n (p + 1) - 48))) 16 (E + k) (nI (sg f n (p + 2) - 48))) 17 (E + k) (nI (pNum f n 2 (p + 4) 0).2), ?_, fun _ => ?_, hh⟩
    · simp (disch := first | omega | assumption) only [f_X10_readLine, f_X2_readErrand, ↓bX, ↓bXA, ↓jn_, ↓ob_, ↓b2_, ↓reduceIte, nn_lt, nn_le, nn_eq, nI_add, pk_mul, nn_su, gn_lt, gn_le, ng_lt, ng_le, ng_eq, gn_eq, gg_eq, n_m1, n_cl, if_true, if_false, if_pos, if_neg, lt0, ap_ne, e17, e18, ↓b2e t1, ap_co, up_eq, ↓b2e t2, ↓b2e t3, ↓b2e t4, ↓b2e t5, jrz_1, bo_t]
    · obtain ⟨a1, a2, a3, a4, a5⟩ := hh
      refine ⟨a1, a2, fun j hj => ?_, a4, a5⟩
      by_cases e : j = k
      · subst e
        rw [← hpe]
        exact ⟨by rw [up_ne (by omega), up_ne (by omega), up_ne (by omega), up_eq]; rfl, by rw [up_ne (by omega), up_ne (by omega), up_eq]; rfl, by rw [up_ne (by omega), up_eq]; rfl, up_eq⟩
      · exact a3 j (by omega)
