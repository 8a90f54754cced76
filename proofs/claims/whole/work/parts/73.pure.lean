theorem x_lns2 {q : pQ} {ρ : pP} {L : pL} {f : Nat → Nat} {n T c0 kd cap : Nat} {rd : Nat → Bool × Nat} {Inv : Nat → pI → Prop} (hc : c0 + cap ≤ 100) (hT80 : T ≤ 80) (hrd : ∀ p, p ≤ n → (rd p).2 ≤ n) (hRd : ∀ k J, Inv k J → Rd J f n ∧ J 1 1 = nI T) (hst : ∀ k J, k < cap → Inv k J → lnP rd k ≤ n → ∃ J' bb, f_X10_readLine 5000 0 (nI kd) (nI (c0 + k)) (hp q ρ L (ap J (lnP rd k))) = some (bo bb, hp q ρ L (ap J' (rd (lnP rd k)).2)) ∧ ((rd (lnP rd k)).1 = true → Inv (k + 1) J') ∧ Inv k J' ∧ (bb = (rd (lnP rd k)).1 ∨ (bb = true ∧ (rd (lnP rd k)).1 = false ∧ ¬ sg f n (rd (lnP rd k)).2 = 59 ∧ ¬ (rd (lnP rd k)).2 = T))) : ∀ r k N J, k + r = cap → r < N → Inv k J → lnP rd k ≤ n → ∃ J', f_X10_linesUpTo_L3 5000 0 (nI kd) (nI c0) (nI (c0 + cap)) (fun (h6 : jH) =>
      (jg_R 10 0 h6 0).bind (fun v7 =>
      j_b2 (f_X9_fault 5000 v7 h6) (fun v9 h8 =>
      some (v9, h8)))) (fun (y10 : Int32) (h11 : jH) =>
      (jg_R 10 0 h11 0).bind (fun v12 =>
      j_b2 (f_X9_isOver 5000 v12 h11) (fun v14 h13 =>
      if v14 = nI 0 then
        (jg_R 10 0 h13 0).bind (fun v15 =>
        j_b2 (f_X9_fault 5000 v15 h13) (fun v17 h16 =>
        some (v17, h16)))
      else
        some (y10, h13)))) (fun (h18 : jH) =>
      (jg_R 10 0 h18 0).bind (fun v19 =>
      j_b2 (f_X9_fault 5000 v19 h18) (fun v21 h20 =>
      some (v21, h20)))) N (nI (k + 1)) (hp q ρ L (ap J (lnP rd k))) = some (if (lns f n T rd r k (lnP rd k)).1 = true then nI (lns f n T rd r k (lnP rd k)).2.1 else -nI (1 + (lns f n T rd r k (lnP rd k)).2.2), hp q ρ L (ap J' (lns f n T rd r k (lnP rd k)).2.2)) ∧ Inv (lns f n T rd r k (lnP rd k)).2.1 J'
  | _, _, 0, _, _, h, _, _ => absurd h (Nat.not_lt_zero _)
  | 0, k, N + 1, J, h1, h2, h3, h4 => by
    refine ⟨J, ?_, h3⟩
    rw [f_X10_linesUpTo_L3]
    simp (disch := first | omega | assumption) only [↓bX, ↓bXA, ↓jn_, ↓ob_, ↓b2_, ↓reduceIte, nn_lt, nn_le, nn_eq, nI_add, pk_mul, nn_su, gn_lt, gn_le, ng_lt, ng_le, ng_eq, gn_eq, gg_eq, n_m1, n_cl, if_true, if_false, if_pos, if_neg, lt0, ↓b2e (x_fault (q := q) (ρ := ρ) (L := L) (I := J) (p := lnP rd k)), lns]
    rfl
  | r + 1, k, N + 1, J, h1, h2, h3, h4 => by
    obtain ⟨J', bb, e1, e2, e3, e4⟩ := hst k J (by omega) h3 h4
    have e1' : f_X10_readLine 5000 0 (nI kd) (nI (c0 + (k + 1)) - nI 1) (hp q ρ L (ap J (lnP rd k))) = some (bo bb, hp q ρ L (ap J' (rd (lnP rd k)).2)) := by
      rw [nn_su (by omega), show c0 + (k + 1) - 1 = c0 + k by omega]
      exact e1
    have hp1 := hrd _ h4
    rcases e4 with rfl | ⟨rfl, g1, g2, g3⟩
    rotate_left
    · obtain ⟨hR, hT⟩ := hRd k J' e3
      have tk := x_take (q := q) (ρ := ρ) (L := L) (c := 59) hR hp1 (by omega)
      rw [if_neg g2] at tk
      rw [bo_t] at e1'
      rw [lns_f g1]
      refine ⟨J', ?_, e3⟩
      have hn80 := hR.2.1
      have ov := x_isOver (q := q) (ρ := ρ) (L := L) (p := (rd (lnP rd k)).2) hT hT80 (by omega)
      rw [if_neg g3] at ov
      rw [f_X10_linesUpTo_L3]
      simp (disch := first | omega | assumption) only [↓b2e (x_fault (q := q) (ρ := ρ) (L := L) (I := J') (p := (rd (lnP rd k)).2)), ↓bX, ↓ob_, lt0, nI_add, nn_lt, nn_eq, if_neg, ↓b2e e1', ↓b2e tk, if_false, if_true, ↓b2e ov]
      rfl
    cases g1 : (rd (lnP rd k)).1 with
    | false =>
      rw [g1, bo_f] at e1'
      rw [lns_f g1]
      refine ⟨J', ?_, e3⟩
      rw [f_X10_linesUpTo_L3]
      simp (disch := first | omega | assumption) only [↓b2e (x_fault (q := q) (ρ := ρ) (L := L) (I := J') (p := (rd (lnP rd k)).2)), ↓bX, ↓ob_, lt0, nI_add, nn_lt, if_neg, ↓b2e e1', if_true]
      rfl
    | true =>
      rw [g1, bo_t] at e1'
      have h3' := e2 g1
      obtain ⟨hR, hT⟩ := hRd (k + 1) J' h3'
      have tk := x_take (q := q) (ρ := ρ) (L := L) (c := 59) hR hp1 (by omega)
      by_cases g2 : sg f n (rd (lnP rd k)).2 = 59
      · rw [if_pos g2] at tk
        have hl : lnP rd (k + 1) ≤ n := by
          rw [lnP]
          have := sg_in (f := f) (n := n) (p := (rd (lnP rd k)).2) (by omega)
          omega
        obtain ⟨J2, i1, i2⟩ := x_lns2 hc hT80 hrd hRd hst r (k + 1) N J' (by omega) (by omega) h3' hl
        rw [lns_m g1 g2]
        refine ⟨J2, ?_, i2⟩
        rw [f_X10_linesUpTo_L3]
        simp (disch := first | omega | assumption) only [↓bX, ↓ob_, lt0, nI_add, nn_lt, nn_eq, if_neg, ↓b2e e1', ↓b2e tk, if_false]
        exact i1
      · rw [if_neg g2] at tk
        rw [lns_e g1 g2]
        refine ⟨J', ?_, h3'⟩
        have hn80 := hR.2.1
        have ov := x_isOver (q := q) (ρ := ρ) (L := L) (p := (rd (lnP rd k)).2) hT hT80 (by omega)
        rw [f_X10_linesUpTo_L3]
        by_cases g3 : (rd (lnP rd k)).2 = T
        · rw [if_pos g3] at ov
          simp (disch := first | omega | assumption) only [↓bX, ↓ob_, lt0, nI_add, nn_lt, nn_eq, if_neg, ↓b2e e1', ↓b2e tk, if_false, if_true, ↓b2e ov, g3, decide_true]
        · rw [if_neg g3] at ov
          have dd : decide ((rd (lnP rd k)).2 = T) = false := decide_eq_false g3
          simp (disch := first | omega | assumption) only [↓b2e (x_fault (q := q) (ρ := ρ) (L := L) (I := J') (p := (rd (lnP rd k)).2)), ↓bX, ↓ob_, lt0, nI_add, nn_lt, nn_eq, if_neg, ↓b2e e1', ↓b2e tk, if_false, if_true, ↓b2e ov, dd]
          rfl
theorem x_rl2 {q : pQ} {ρ : pP} {L : pL} {I : pI} {f : Nat → Nat} {n T m c0 kd cap : Nat} {rd : Nat → Bool × Nat} {Inv : Nat → pI → Prop} (hT : I 1 1 = nI T) (hT1 : 1 ≤ T) (hm : m ≤ 80) (hc : c0 + cap ≤ 100) (hT80 : T ≤ 80) (hrd : ∀ p, p ≤ n → (rd p).2 ≤ n) (hRd : ∀ k J, Inv k J → Rd J f n ∧ J 1 1 = nI T) (hst : ∀ k J, k < cap → Inv k J → lnP rd k ≤ n → ∃ J' bb, f_X10_readLine 5000 0 (nI kd) (nI (c0 + k)) (hp q ρ L (ap J (lnP rd k))) = some (bo bb, hp q ρ L (ap J' (rd (lnP rd k)).2)) ∧ ((rd (lnP rd k)).1 = true → Inv (k + 1) J') ∧ Inv k J' ∧ (bb = (rd (lnP rd k)).1 ∨ (bb = true ∧ (rd (lnP rd k)).1 = false ∧ ¬ sg f n (rd (lnP rd k)).2 = 59 ∧ ¬ (rd (lnP rd k)).2 = T))) (h0 : Inv 0 (j_up I 1 3 (nI (min T m)))) : ∃ J, f_X10_readLines 5000 0 (nI kd) (nI m) (nI c0) (nI (c0 + cap)) (hp q ρ L I) = some (if (lns f n T rd cap 0 0).1 = true then nI (lns f n T rd cap 0 0).2.1 else -nI (1 + (lns f n T rd cap 0 0).2.2), hp q ρ L (j_up (ap J (lns f n T rd cap 0 0).2.2) 1 1 (nI 0))) ∧ Inv (lns f n T rd cap 0 0).2.1 J := by
  have op := x_open (q := q) (ρ := ρ) (L := L) (m := m) hT (by omega) hm
  have h11 : ap (j_up I 1 3 (nI (min T m))) 0 1 1 = nI T := by rw [ap_nk (by omega), up_nk (by omega)]; exact hT
  obtain ⟨J, e1, e2⟩ := x_lns2 (q := q) (ρ := ρ) (L := L) hc hT80 hrd hRd hst cap 0 5000 _ (by omega) (by omega) h0 (Nat.zero_le n)
  refine ⟨J, ?_, e2⟩
  have e3 : f_X10_linesUpTo 5000 0 (nI kd) (nI c0) (nI (c0 + cap)) (hp q ρ L (ap (j_up I 1 3 (nI (min T m))) 0)) = some (if (lns f n T rd cap 0 0).1 = true then nI (lns f n T rd cap 0 0).2.1 else -nI (1 + (lns f n T rd cap 0 0).2.2), hp q ρ L (ap J (lns f n T rd cap 0 0).2.2)) := by
    simp (disch := first | omega | assumption) only [f_X10_linesUpTo, ↓bX, lt0]
    exact e1
  simp (disch := first | omega | assumption) only [f_X10_readLines, ↓bX, ↓bXA, ↓jn_, ↓ob_, ↓b2_, ↓reduceIte, nn_lt, nn_le, nn_eq, nI_add, pk_mul, nn_su, gn_lt, gn_le, ng_lt, ng_le, ng_eq, gn_eq, gg_eq, n_m1, n_cl, if_true, if_false, if_pos, if_neg, lt0, ↓oe op, h11, ↓b2e e3]
/-! WORDS: letters -/
def ltr (f : Nat → Nat) (n : Nat) : Nat → Nat → Nat
  | 0, p => p
  | k + 1, p => if 97 ≤ sg f n p ∧ sg f n p < 123 then ltr f n k (p + 1) else p
theorem ltr_le {f : Nat → Nat} {n : Nat} : ∀ k p, p ≤ ltr f n k p ∧ ltr f n k p ≤ p + k
  | 0, p => ⟨Nat.le_refl p, Nat.le_refl p⟩
  | k + 1, p => by
    rw [ltr]
    have := ltr_le (f := f) (n := n) k (p + 1)
    split <;> omega
theorem ltr_n {f : Nat → Nat} {n : Nat} : ∀ k p, p ≤ n → ltr f n k p ≤ n
  | 0, p, h => h
  | k + 1, p, h => by
    rw [ltr]
    split
    · rename_i g
      have := sg_in (f := f) (n := n) (p := p) (by omega)
      exact ltr_n k (p + 1) this
    · exact h
theorem ltr_in {f : Nat → Nat} {n : Nat} : ∀ k p j, p ≤ j → j < ltr f n k p → 97 ≤ sg f n j ∧ sg f n j < 123
  | 0, p, j, h1, h2 => by rw [ltr] at h2; omega
  | k + 1, p, j, h1, h2 => by
    rw [ltr] at h2
    split at h2
    · by_cases e : j = p
      · rw [e]
        assumption
      · exact ltr_in k (p + 1) j (by omega) h2
    · omega
theorem ltr_out {f : Nat → Nat} {n : Nat} : ∀ k p, ltr f n k p < p + k → ¬ (97 ≤ sg f n (ltr f n k p) ∧ sg f n (ltr f n k p) < 123)
  | 0, p, h => by rw [ltr] at h; omega
  | k + 1, p, h => by
    rw [ltr] at h ⊢
    split at h
    · rename_i g
      rw [if_pos g]
      exact ltr_out k (p + 1) (by omega)
    · rename_i g
      rw [if_neg g]
      exact g
theorem x_ltL {q : pQ} {ρ : pP} {L : pL} {f : Nat → Nat} {n w : Nat} (hw : w < 10) {kk : Int32 → jH → Option (Int32 × jH)} : ∀ k i p N J, i + k = 6 → k + 1 < N → Rd J f n → p ≤ n → ∃ J', f_X3_readWord_L44 5000 5 1 (nI w) kk N (nI i) (nI i) (hp q ρ L (ap J p)) = kk (nI (i + (ltr f n k p - p))) (hp q ρ L (ap J' (ltr f n k p))) ∧ (∀ j, j < ltr f n k p - p → J' 9 (w * 6 + (i + j)) = nI (97 + (sg f n (p + j) - 97))) ∧ ∀ b c, (b ≠ 9 ∨ c < w * 6 + i) → J' b c = J b c
  | _, _, _, 0, _, _, h, _, _ => absurd h (Nat.not_lt_zero _)
  | _, _, _, 1, _, _, h, _, _ => absurd h (by omega)
  | 0, i, p, N + 2, J, h1, h2, h3, h4 => by
    have : i = 6 := by omega
    subst this
    refine ⟨J, ?_, fun j hj => by rw [ltr] at hj; omega, fun b c _ => rfl⟩
    rw [f_X3_readWord_L44, ltr, Nat.sub_self, Nat.add_zero]
    simp (disch := first | omega | assumption) only [↓bX, ↓bXA, ↓jn_, ↓ob_, ↓b2_, ↓reduceIte, nn_lt, nn_le, nn_eq, nI_add, pk_mul, nn_su, gn_lt, gn_le, ng_lt, ng_le, ng_eq, gn_eq, gg_eq, n_m1, n_cl, if_true, if_false, if_pos, if_neg, lt0]
  | k + 1, i, p, N + 2, J, h1, h2, h3, h4 => by
    have tk := x_takeFrom (q := q) (ρ := ρ) (L := L) (a := 97) (m := 26) h3 h4 (by omega)
    rw [ltr]
    by_cases g : 97 ≤ sg f n p ∧ sg f n p < 123
    · rw [if_pos g] at tk
      rw [if_pos g]
      have i1 := sg_in (f := f) (n := n) (p := p) (by omega)
      have ll := (ltr_le (f := f) (n := n) k (p + 1)).1
      obtain ⟨J', e1, e2, e3⟩ := x_ltL (q := q) (ρ := ρ) (L := L) hw (kk := kk) k (i + 1) (p + 1) (N + 1) (j_up J 9 (w * 6 + i) (nI (97 + (sg f n p - 97)))) (by omega) (by omega) (Rd_k h3 (by rw [up_ne (by omega)]) (by rw [up_ne (by omega)])) (by omega)
      refine ⟨J', ?_, fun j hj => ?_, fun b c hbc => ?_⟩
      · rw [f_X3_readWord_L44]
        simp (disch := first | omega | assumption) only [↓bX, ↓bXA, ↓jn_, ↓ob_, ↓b2_, ↓reduceIte, nn_lt, nn_le, nn_eq, nI_add, pk_mul, nn_su, gn_lt, gn_le, ng_lt, ng_le, ng_eq, gn_eq, gg_eq, n_m1, n_cl, if_true, if_false, if_pos, if_neg, lt0, ↓b2e tk, ap_co]
        rw [e1, show i + 1 + (ltr f n k (p + 1) - (p + 1)) = i + (ltr f n k (p + 1) - p) by omega]
      · by_cases ej : j = 0
        · subst ej
          rw [e3 9 _ (.inr (by omega)), Nat.add_zero, up_eq, Nat.add_zero]
        · have := e2 (j - 1) (by omega)
          rw [show i + 1 + (j - 1) = i + j by omega, show p + 1 + (j - 1) = p + j by omega] at this
          exact this
      · rw [e3 b c (by omega)]
        rcases hbc with h | h
        · rw [up_ne h]
        · rw [up_nk (by omega)]
    · rw [if_neg g] at tk
      rw [if_neg g]
      refine ⟨J, ?_, fun j hj => by omega, fun b c _ => rfl⟩
      rw [f_X3_readWord_L44, Nat.sub_self, Nat.add_zero]
      simp (disch := first | omega | assumption) only [↓bX, ↓bXA, ↓jn_, ↓ob_, ↓b2_, ↓reduceIte, nn_lt, nn_le, nn_eq, nI_add, pk_mul, nn_su, gn_lt, gn_le, ng_lt, ng_le, ng_eq, gn_eq, gg_eq, n_m1, n_cl, if_true, if_false, if_pos, if_neg, lt0, ↓b2e tk]
      rw [f_X3_readWord_L44]
      by_cases e6 : 6 ≤ i + 1
      · simp (disch := first | omega | assumption) only [↓bX, ↓bXA, ↓jn_, ↓ob_, ↓b2_, ↓reduceIte, nn_lt, nn_le, nn_eq, nI_add, pk_mul, nn_su, gn_lt, gn_le, ng_lt, ng_le, ng_eq, gn_eq, gg_eq, n_m1, n_cl, if_true, if_false, if_pos, if_neg, lt0, Nat.add_zero]
      · simp (disch := first | omega | assumption) only [↓bX, ↓bXA, ↓jn_, ↓ob_, ↓b2_, ↓reduceIte, nn_lt, nn_le, nn_eq, nI_add, pk_mul, nn_su, gn_lt, gn_le, ng_lt, ng_le, ng_eq, gn_eq, gg_eq, n_m1, n_cl, if_true, if_false, if_pos, if_neg, lt0, Nat.add_zero]
