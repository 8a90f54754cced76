/-! JOURNEY: acts are read -/
def ard (f : Nat → Nat) (n p : Nat) : Bool × Nat :=
  if sg f n p = 119 then (if 48 ≤ sg f n (p + 1) ∧ sg f n (p + 1) ≤ 57 then (true, (pNum f n 2 (p + 1) 0).1) else (false, p + 1))
  else if 97 ≤ sg f n p ∧ sg f n p < 101 then (if (48 ≤ sg f n (p + 1) ∧ sg f n (p + 1) ≤ 57) ∨ sg f n (p + 1) = 62 ∨ sg f n (p + 1) = 60 ∨ sg f n (p + 1) = 33 then (true, p + 2) else (false, p + 1))
  else (false, p)
/-- what it is (0: hours go by, 1: on, 2: back, 3: the errand here, 4: a word), whose or how many hours, which word -/
def aKd (f : Nat → Nat) (n p : Nat) : Nat × Nat × Nat := if sg f n p = 119 then (0, (pNum f n 2 (p + 1) 0).2, 0) else (if 48 ≤ sg f n (p + 1) ∧ sg f n (p + 1) ≤ 57 then 4 else if sg f n (p + 1) = 62 then 1 else if sg f n (p + 1) = 60 then 2 else 3, sg f n p - 97, sg f n (p + 1) - 48)
def aX (a : Nat × Nat × Nat) : Nat := if a.1 = 0 then 1000 + a.2.1 else a.2.1 * 16 + (if a.1 = 1 then 10 else if a.1 = 2 then 11 else if a.1 = 3 then 12 else a.2.2)
def aM (k : Nat) : Nat := if k = 0 then 119 else if k = 1 then 62 else if k = 2 then 60 else if k = 3 then 33 else 115
theorem ard_le {f : Nat → Nat} {n p : Nat} (h : p ≤ n) : (ard f n p).2 ≤ n := by
  unfold ard
  split
  · rename_i g
    have g1 := sg_in (f := f) (n := n) (p := p) (by omega)
    split
    · exact (pNum_le f n 2 (p + 1) 0 (by omega)).1
    · simp only []; omega
  · split
    · rename_i g
      have g1 := sg_in (f := f) (n := n) (p := p) (by omega)
      split
      · rename_i g2
        have g3 := sg_in (f := f) (n := n) (p := p + 1) (by omega)
        simp only []; omega
      · simp only []; omega
    · exact h
theorem ard_ge {f : Nat → Nat} {n p : Nat} (h : (ard f n p).1 = true) : p + 2 ≤ (ard f n p).2 := by
  unfold ard at h ⊢
  by_cases g1 : sg f n p = 119
  · rw [if_pos g1] at h ⊢
    by_cases g2 : 48 ≤ sg f n (p + 1) ∧ sg f n (p + 1) ≤ 57
    · rw [if_pos g2]
      have hp1 : p + 1 < n := sg_in (f := f) (by omega)
      have e : pNum f n 2 (p + 1) 0 = pNum f n 1 (p + 1 + 1) (0 * 10 + (sg f n (p + 1) - 48)) := by
        rw [pNum, if_pos g2]
      have := pNum_le f n 1 (p + 1 + 1) (0 * 10 + (sg f n (p + 1) - 48)) hp1
      rw [← e] at this
      exact this.2
    · rw [if_neg g2] at h
      cases h
  · rw [if_neg g1] at h ⊢
    by_cases g2 : 97 ≤ sg f n p ∧ sg f n p < 101
    · rw [if_pos g2] at h ⊢
      by_cases g3 : (48 ≤ sg f n (p + 1) ∧ sg f n (p + 1) ≤ 57) ∨ sg f n (p + 1) = 62 ∨ sg f n (p + 1) = 60 ∨ sg f n (p + 1) = 33
      · rw [if_pos g3]
        exact Nat.le_refl _
      · rw [if_neg g3] at h
        cases h
    · rw [if_neg g2] at h
      cases h
theorem ard_k {f : Nat → Nat} {n : Nat} : ∀ k, (∀ j, j < k → (ard f n (lnP (ard f n) j)).1 = true) → 3 * k ≤ lnP (ard f n) k
  | 0, _ => Nat.zero_le _
  | k + 1, h => by
    have ih := ard_k k (fun j hj => h j (by omega))
    have := ard_ge (h k (by omega))
    rw [lnP]
    omega
theorem aKd_t {f : Nat → Nat} {n p : Nat} (h : (ard f n p).1 = true) : (aKd f n p).1 ≤ 4 ∧ (aKd f n p).2.1 < 100 ∧ ((aKd f n p).1 ≠ 0 → (aKd f n p).2.1 < 4) ∧ ((aKd f n p).1 = 4 → (aKd f n p).2.2 < 10) := by
  unfold ard at h
  unfold aKd
  by_cases g1 : sg f n p = 119
  · rw [if_pos g1]
    have := pNum_lt f n 2 (p + 1) 0
    exact ⟨by simp, by simp only []; omega, fun h => absurd rfl h, fun h => by cases h⟩
  · rw [if_neg g1] at h ⊢
    by_cases g2 : 97 ≤ sg f n p ∧ sg f n p < 101
    · simp only []
      refine ⟨?_, by omega, fun _ => by omega, fun h => ?_⟩
      · split
        · omega
        · split
          · omega
          · split <;> omega
      by_cases g3 : 48 ≤ sg f n (p + 1) ∧ sg f n (p + 1) ≤ 57
      · omega
      · rw [if_neg g3] at h
        split at h
        · cases h
        · split at h <;> cases h
    · rw [if_neg g2] at h
      cases h
def acX (I : pI) (f : Nat → Nat) (n T : Nat) (k : Nat) (J : pI) : Prop := Rd J f n ∧ J 1 1 = nI T ∧ (∀ j, j < k → J 114 j = nI (aX (aKd f n (lnP (ard f n) j)))) ∧ ∀ b, b ≠ 114 → J b = I b
theorem acX_up {I J : pI} {f : Nat → Nat} {n T k : Nat} {x : Int32} (h : acX I f n T k J) : acX I f n T k (j_up J 114 k x) := by
  obtain ⟨h1, h2, h3, h4⟩ := h
  refine ⟨Rd_k h1 (by rw [up_ne (by omega)]) (by rw [up_ne (by omega)]), by rw [up_ne (by omega)]; exact h2, fun j hj => ?_, fun b hb => by rw [up_ne hb]; exact h4 b hb⟩
  rw [up_nk (by omega)]
  exact h3 j hj
theorem acX_s {I J : pI} {f : Nat → Nat} {n T k : Nat} (h : acX I f n T k J) : acX I f n T (k + 1) (j_up J 114 k (nI (aX (aKd f n (lnP (ard f n) k))))) := by
  obtain ⟨h1, h2, h3, h4⟩ := acX_up (x := nI (aX (aKd f n (lnP (ard f n) k)))) h
  refine ⟨h1, h2, fun j hj => ?_, h4⟩
  by_cases e : j = k
  · rw [e, up_eq]
  · exact h3 j (by omega)
set_option maxHeartbeats 8000000 in
theorem x_acL {q : pQ} {ρ : pP} {L : pL} {I : pI} {I0 : pI} {f : Nat → Nat} {n T k : Nat} (hk : k < 21) (h : acX I0 f n T k I) (hn : lnP (ard f n) k ≤ n) : ∃ J, f_X10_readLine 5000 0 (nI 3) (nI (0 + k)) (hp q ρ L (ap I (lnP (ard f n) k))) = some (bo (ard f n (lnP (ard f n) k)).1, hp q ρ L (ap J (ard f n (lnP (ard f n) k)).2)) ∧ ((ard f n (lnP (ard f n) k)).1 = true → acX I0 f n T (k + 1) J) ∧ acX I0 f n T k J := by
  have hs := acX_s h
  obtain ⟨p, hpe⟩ : ∃ p, p = lnP (ard f n) k := ⟨_, rfl⟩
  rw [← hpe] at hn hs ⊢
  rw [Nat.zero_add]
  have t1 := x_take (q := q) (ρ := ρ) (L := L) (c := 119) h.1 hn (by omega)
  by_cases g1 : sg f n p = 119
  · rw [if_pos g1] at t1
    have i1 := sg_in (f := f) (n := n) (p := p) (by omega)
    have t2 := x_number2 (q := q) (ρ := ρ) (L := L) h.1 (p + 1) (by omega)
    by_cases g2 : 48 ≤ sg f n (p + 1) ∧ sg f n (p + 1) ≤ 57
    · rw [if_pos g2] at t2
      have er : ard f n p = (true, (pNum f n 2 (p + 1) 0).1) := by unfold ard; rw [if_pos g1, if_pos g2]
      have ek : aX (aKd f n p) = 1000 + (pNum f n 2 (p + 1) 0).2 := by unfold aKd; rw [if_pos g1]; rfl
      have hv := pNum_lt f n 2 (p + 1) 0
      rw [ek] at hs
      rw [er]
      refine ⟨j_up I 114 k (nI (1000 + (pNum f n 2 (p + 1) 0).2)), ?_, fun _ => hs, acX_up h⟩
      simp (disch := first | omega | assumption) only [f_X10_readLine, f_X10_readAct, ↓bX, ↓bXA, ↓jn_, ↓ob_, ↓b2_, ↓reduceIte, nn_lt, nn_le, nn_eq, nI_add, pk_mul, nn_su, gn_lt, gn_le, ng_lt, ng_le, ng_eq, gn_eq, gg_eq, n_m1, n_cl, if_true, if_false, if_pos, if_neg, lt0, ↓b2e t1, ↓b2e t2, ap_co, jrz_1, bo_t]
    · rw [if_neg g2] at t2
      have er : ard f n p = (false, p + 1) := by unfold ard; rw [if_pos g1, if_neg g2]
      rw [er]
      refine ⟨j_up I 114 k (nI 1000 + -nI 1), ?_, fun h => (by cases h), acX_up h⟩
      simp (disch := first | omega | assumption) only [f_X10_readLine, f_X10_readAct, ↓bX, ↓bXA, ↓jn_, ↓ob_, ↓b2_, ↓reduceIte, nn_lt, nn_le, nn_eq, nI_add, pk_mul, nn_su, gn_lt, gn_le, ng_lt, ng_le, ng_eq, gn_eq, gg_eq, n_m1, n_cl, if_true, if_false, if_pos, if_neg, lt0, ↓b2e t1, ↓b2e t2, ap_co, jrz_0, bo_f]
  · rw [if_neg g1] at t1
    have t2 := x_takeFrom (q := q) (ρ := ρ) (L := L) (a := 97) (m := 4) h.1 hn (by omega)
    by_cases g2 : 97 ≤ sg f n p ∧ sg f n p < 101
    · rw [if_pos (by omega)] at t2
      have i1 := sg_in (f := f) (n := n) (p := p) (by omega)
      have t3 := x_takeFrom (q := q) (ρ := ρ) (L := L) (p := p + 1) (a := 48) (m := 10) h.1 (by omega) (by omega)
      obtain ⟨u, hu⟩ : ∃ u, u = sg f n p - 97 := ⟨_, rfl⟩
      have hu4 : u < 4 := by omega
      rw [← hu] at t2
      have ek0 : ∀ z, aKd f n p = (z, u, sg f n (p + 1) - 48) → aX (aKd f n p) = aX (z, u, sg f n (p + 1) - 48) := fun z hz => by rw [hz]
      by_cases g3 : 48 ≤ sg f n (p + 1) ∧ sg f n (p + 1) ≤ 57
      · rw [if_pos (by omega)] at t3
        have er : ard f n p = (true, p + 2) := by unfold ard; rw [if_neg g1, if_pos g2, if_pos (.inl g3)]
        have ek : aX (aKd f n p) = u * 16 + (sg f n (p + 1) - 48) := by unfold aKd; rw [if_neg g1, if_pos g3, ← hu]; rfl
        rw [ek] at hs
        rw [er]
        refine ⟨_, ?_, fun _ => hs, acX_up h⟩
        simp (disch := first | omega | assumption) only [f_X10_readLine, f_X10_readAct, ↓bX, ↓bXA, ↓jn_, ↓ob_, ↓b2_, ↓reduceIte, nn_lt, nn_le, nn_eq, nI_add, pk_mul, nn_su, gn_lt, gn_le, ng_lt, ng_le, ng_eq, gn_eq, gg_eq, n_m1, n_cl, if_true, if_false, if_pos, if_neg, lt0, ↓b2e t1, ↓b2e t2, ↓b2e t3, ap_co, jrz_1, bo_t]
      · rw [if_neg (by omega)] at t3
        have t4 := x_take (q := q) (ρ := ρ) (L := L) (p := p + 1) (c := 62) h.1 (by omega) (by omega)
        by_cases g4 : sg f n (p + 1) = 62
        · rw [if_pos g4] at t4
          have er : ard f n p = (true, p + 2) := by unfold ard; rw [if_neg g1, if_pos g2, if_pos (.inr (.inl g4))]
          have ek : aX (aKd f n p) = u * 16 + 10 := by unfold aKd; rw [if_neg g1, if_neg g3, if_pos g4, ← hu]; rfl
          rw [ek] at hs
          rw [er]
          refine ⟨_, ?_, fun _ => hs, acX_up h⟩
          simp (disch := first | omega | assumption) only [f_X10_readLine, f_X10_readAct, ↓bX, ↓bXA, ↓jn_, ↓ob_, ↓b2_, ↓reduceIte, nn_lt, nn_le, nn_eq, nI_add, pk_mul, nn_su, gn_lt, gn_le, ng_lt, ng_le, ng_eq, gn_eq, gg_eq, n_m1, n_cl, if_true, if_false, if_pos, if_neg, lt0, ↓b2e t1, ↓b2e t2, ↓b2e t3, ↓b2e t4, ap_co, jrz_1, bo_t]
        · rw [if_neg g4] at t4
          have t5 := x_take (q := q) (ρ := ρ) (L := L) (p := p + 1) (c := 60) h.1 (by omega) (by omega)
          by_cases g5 : sg f n (p + 1) = 60
          · rw [if_pos g5] at t5
            have er : ard f n p = (true, p + 2) := by unfold ard; rw [if_neg g1, if_pos g2, if_pos (.inr (.inr (.inl g5)))]
            have ek : aX (aKd f n p) = u * 16 + 11 := by unfold aKd; rw [if_neg g1, if_neg g3, if_neg g4, if_pos g5, ← hu]; rfl
            rw [ek] at hs
            rw [er]
            refine ⟨_, ?_, fun _ => hs, acX_up h⟩
            simp (disch := first | omega | assumption) only [f_X10_readLine, f_X10_readAct, ↓bX, ↓bXA, ↓jn_, ↓ob_, ↓b2_, ↓reduceIte, nn_lt, nn_le, nn_eq, nI_add, pk_mul, nn_su, gn_lt, gn_le, ng_lt, ng_le, ng_eq, gn_eq, gg_eq, n_m1, n_cl, if_true, if_false, if_pos, if_neg, lt0, ↓b2e t1, ↓b2e t2, ↓b2e t3, ↓b2e t4, ↓b2e t5, ap_co, jrz_1, bo_t]
          · rw [if_neg g5] at t5
            have t6 := x_take (q := q) (ρ := ρ) (L := L) (p := p + 1) (c := 33) h.1 (by omega) (by omega)
            by_cases g6 : sg f n (p + 1) = 33
            · rw [if_pos g6] at t6
              have er : ard f n p = (true, p + 2) := by unfold ard; rw [if_neg g1, if_pos g2, if_pos (.inr (.inr (.inr g6)))]
              have ek : aX (aKd f n p) = u * 16 + 12 := by unfold aKd; rw [if_neg g1, if_neg g3, if_neg g4, if_neg g5, ← hu]; rfl
              rw [ek] at hs
              rw [er]
              refine ⟨_, ?_, fun _ => hs, acX_up h⟩
              simp (disch := first | omega | assumption) only [f_X10_readLine, f_X10_readAct, ↓bX, ↓bXA, ↓jn_, ↓ob_, ↓b2_, ↓reduceIte, nn_lt, nn_le, nn_eq, nI_add, pk_mul, nn_su, gn_lt, gn_le, ng_lt, ng_le, ng_eq, gn_eq, gg_eq, n_m1, n_cl, if_true, if_false, if_pos, if_neg, lt0, ↓b2e t1, ↓b2e t2, ↓b2e t3, ↓b2e t4, ↓b2e t5, ↓b2e t6, ap_co, jrz_1, bo_t]
            · rw [if_neg g6] at t6
              have er : ard f n p = (false, p + 1) := by
                unfold ard
                rw [if_neg g1, if_pos g2, if_neg (fun h => by rcases h with h | h | h | h <;> contradiction)]
              rw [er]
              refine ⟨j_up I 114 k (nI (u * 16) + -nI 1), ?_, fun h => (by cases h), acX_up h⟩
              simp (disch := first | omega | assumption) only [f_X10_readLine, f_X10_readAct, ↓bX, ↓bXA, ↓jn_, ↓ob_, ↓b2_, ↓reduceIte, nn_lt, nn_le, nn_eq, nI_add, pk_mul, nn_su, gn_lt, gn_le, ng_lt, ng_le, ng_eq, gn_eq, gg_eq, n_m1, n_cl, if_true, if_false, if_pos, if_neg, lt0, ↓b2e t1, ↓b2e t2, ↓b2e t3, ↓b2e t4, ↓b2e t5, ↓b2e t6, ap_co, jrz_0, bo_f]
    · rw [if_neg (by omega)] at t2
      have er : ard f n p = (false, p) := by unfold ard; rw [if_neg g1, if_neg g2]
      rw [er]
      refine ⟨I, ?_, fun h => (by cases h), h⟩
      simp (disch := first | omega | assumption) only [f_X10_readLine, f_X10_readAct, ↓bX, ↓bXA, ↓jn_, ↓ob_, ↓b2_, ↓reduceIte, nn_lt, nn_le, nn_eq, nI_add, pk_mul, nn_su, gn_lt, gn_le, ng_lt, ng_le, ng_eq, gn_eq, gg_eq, n_m1, n_cl, if_true, if_false, if_pos, if_neg, lt0, ↓b2e t1, ↓b2e t2, jrz_0, bo_f]
