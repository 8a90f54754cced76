/-! THE CLASS READS A RULE -/
theorem sg_lt {f : Nat → Nat} {n p : Nat} (h : ∀ k, k < n → f k < 256) (hs : p < n) : sg f n p = f p ∧ f p < 256 := ⟨if_pos hs, h p hs⟩
theorem x_peek {q : pQ} {ρ : pP} {L : pL} {I : pI} {f : Nat → Nat} {n p : Nat} (hR : Rd I f n) (hpn : p ≤ n) : f_X9_peek 5000 1 (hp q ρ L (ap I p)) = some (if p < n then nI (sg f n p) else -nI 1, hp q ρ L (ap I p)) := by
  obtain ⟨h3, h80, hk⟩ := hR
  by_cases h : p < n
  · obtain ⟨e, l⟩ := hk p h
    simp (disch := first | omega | assumption) only [f_X9_peek, kX, kXA, ob_, b2_, jn_, nn_lt, nn_le, nn_eq, nI_add, pk_mul, nn_su, gn_lt, gn_le, ng_lt, ng_le, ng_eq, gn_eq, gg_eq, n_m1, n_cl, if_true, if_false, if_pos, if_neg, ite_self, lt0, ap_at, ap_ne, ap_nk, h3, e, sg]
  · have : n = p := by omega
    subst this
    simp (disch := first | omega | assumption) only [f_X9_peek, kX, kXA, ob_, b2_, jn_, nn_lt, nn_le, nn_eq, nI_add, pk_mul, nn_su, gn_lt, gn_le, ng_lt, ng_le, ng_eq, gn_eq, gg_eq, n_m1, n_cl, if_true, if_false, if_pos, if_neg, ite_self, lt0, ap_at, ap_ne, ap_nk, h3]
theorem x_factN (h : jH) : f_X8_factOf 5000 (-nI 1) h = some (-nI 1, h) := by
  simp (disch := first | omega | assumption) only [f_X8_factOf, ob_, b2_, jn_, nn_lt, nn_le, nn_eq, nI_add, pk_mul, nn_su, gn_lt, gn_le, ng_lt, ng_le, ng_eq, gn_eq, gg_eq, n_m1, n_cl, if_true, if_false, if_pos, if_neg, ite_self, lt0]
theorem x_fact (c : Nat) (hc : c < 1000) (h : jH) : f_X8_factOf 5000 (nI c) h = some (if pFact c < 7 then nI (pFact c) else -nI 1, h) := by
  simp (disch := first | omega | assumption) only [f_X8_factOf, ob_, b2_, jn_, nn_lt, nn_le, nn_eq, nI_add, pk_mul, nn_su, gn_lt, gn_le, ng_lt, ng_le, ng_eq, gn_eq, gg_eq, n_m1, n_cl, if_true, if_false, if_pos, if_neg, ite_self, lt0, pFact]
  by_cases h1 : c = 118
  · subst h1; simp (disch := first | omega | assumption) only [ob_, b2_, jn_, nn_lt, nn_le, nn_eq, nI_add, pk_mul, nn_su, gn_lt, gn_le, ng_lt, ng_le, ng_eq, gn_eq, gg_eq, n_m1, n_cl, if_true, if_false, if_pos, if_neg, ite_self, lt0]
  by_cases h2 : c = 115
  · subst h2; simp (disch := first | omega | assumption) only [ob_, b2_, jn_, nn_lt, nn_le, nn_eq, nI_add, pk_mul, nn_su, gn_lt, gn_le, ng_lt, ng_le, ng_eq, gn_eq, gg_eq, n_m1, n_cl, if_true, if_false, if_pos, if_neg, ite_self, lt0]
  by_cases h3 : c = 104
  · subst h3; simp (disch := first | omega | assumption) only [ob_, b2_, jn_, nn_lt, nn_le, nn_eq, nI_add, pk_mul, nn_su, gn_lt, gn_le, ng_lt, ng_le, ng_eq, gn_eq, gg_eq, n_m1, n_cl, if_true, if_false, if_pos, if_neg, ite_self, lt0]
  by_cases h4 : c = 108
  · subst h4; simp (disch := first | omega | assumption) only [ob_, b2_, jn_, nn_lt, nn_le, nn_eq, nI_add, pk_mul, nn_su, gn_lt, gn_le, ng_lt, ng_le, ng_eq, gn_eq, gg_eq, n_m1, n_cl, if_true, if_false, if_pos, if_neg, ite_self, lt0]
  by_cases h5 : c = 112
  · subst h5; simp (disch := first | omega | assumption) only [ob_, b2_, jn_, nn_lt, nn_le, nn_eq, nI_add, pk_mul, nn_su, gn_lt, gn_le, ng_lt, ng_le, ng_eq, gn_eq, gg_eq, n_m1, n_cl, if_true, if_false, if_pos, if_neg, ite_self, lt0]
  by_cases h6 : c = 110
  · subst h6; simp (disch := first | omega | assumption) only [ob_, b2_, jn_, nn_lt, nn_le, nn_eq, nI_add, pk_mul, nn_su, gn_lt, gn_le, ng_lt, ng_le, ng_eq, gn_eq, gg_eq, n_m1, n_cl, if_true, if_false, if_pos, if_neg, ite_self, lt0]
  by_cases h7 : c = 100
  · subst h7; simp (disch := first | omega | assumption) only [ob_, b2_, jn_, nn_lt, nn_le, nn_eq, nI_add, pk_mul, nn_su, gn_lt, gn_le, ng_lt, ng_le, ng_eq, gn_eq, gg_eq, n_m1, n_cl, if_true, if_false, if_pos, if_neg, ite_self, lt0]
  simp (disch := first | omega | assumption) only [ob_, b2_, jn_, nn_lt, nn_le, nn_eq, nI_add, pk_mul, nn_su, gn_lt, gn_le, ng_lt, ng_le, ng_eq, gn_eq, gg_eq, n_m1, n_cl, if_true, if_false, if_pos, if_neg, ite_self, lt0, h1, h2, h3, h4, h5, h6, h7]
theorem pFact_in {f : Nat → Nat} {n p : Nat} (h : pFact (sg f n p) < 7) : p < n := by
  refine Classical.byContradiction (fun g => ?_)
  have e : sg f n p = 999 := if_neg g
  rw [e] at h
  exact absurd h (by decide)
theorem r_thing {q : pQ} {ρ : pP} {L : pL} {I : pI} {A n d : Nat} {f : Nat → Nat} {rec : Nat → Nat → Nat → Int32 → jH → Option (Int32 × jH)} {rc : Option (Nat → pO)} (hA : A = 119 ∨ A = 124) (hR : Rd I f n) (hn : n ≤ 40) (hd : d ≤ 4)
    (hrc : (rc = none ∧ d = 4) ∨ ∃ k, rc = some k ∧ d < 4 ∧ Gd n k ∧ SP q ρ L I A n (rec 0 A 1 (nI (d + 1))) k) : SP q ρ L I A n (b_X8_readThing 5000 rec A 1 (nI d)) (pThing f n rc) := by
  intro c0 p hpn hc0
  have hR' := Rd_cw (c := c0) hA hR
  have key : ∀ (J : jH → Option (Int32 × jH)), pThing f n none p = pThing f n none p → (j_b2 (f_X9_takeNumber 5000 1 (nI 3) (hp q ρ L (ap (cw I A c0) p))) (fun v3 h2 =>
      if v3 < nI 0 then
        j_b2 (f_X9_peek 5000 1 h2) (fun v5 h4 =>
        j_b2 (f_X8_factOf 5000 v5 h4) (fun v7 h6 =>
        if v7 < nI 0 then
          some (nI 0, h6)
        else
          j_b2 (f_X9_peek 5000 1 h6) (fun v9 h8 =>
          j_b2 (f_X9_take 5000 1 v9 h8) (fun v11 h10 =>
          if v11 = nI 0 then
            some (nI 0, h10)
          else
            j_b2 (f_X8_put 5000 A (nI 1000 + v7) h10) (fun v13 h12 =>
            if v13 = nI 0 then
              some (nI 0, h12)
            else
              some (nI 1, h12))))))
      else
        j_b2 (f_X8_put 5000 A v3 h2) (fun v15 h14 =>
        j_rz v15 h14))) = pEnd q ρ L I A c0 (pThing f n none p) := by
    intro _ _
    rw [x_number3 hR' p hpn]
    have e0 : pThing f n none p = if 48 ≤ sg f n p ∧ sg f n p ≤ 57 then (true, (pNum f n 3 p 0).1, [nI (pNum f n 3 p 0).2]) else if pFact (sg f n p) < 7 then (true, p + 1, [nI (1000 + pFact (sg f n p))]) else (false, p, []) := by
      unfold pThing
      split
      · rename_i e
        split at e <;> cases e
      · rfl
    rw [e0]
    by_cases h : 48 ≤ sg f n p ∧ sg f n p ≤ 57
    · have hp1 : p < n := sg_in (f := f) (by omega)
      have hv := pNum_lt f n 3 p 0
      rw [if_pos h, if_pos h, b2, if_neg (by rw [nn_lt (by omega) (by omega)]; omega), x_put hA (by omega), b2]
      rfl
    · rw [if_neg h, if_neg h, b2, if_pos (by rw [gn_lt (by omega) (by omega) (by omega)]; trivial), x_peek hR' hpn, b2]
      by_cases g : pFact (sg f n p) < 7
      · have hp1 := pFact_in g
        have hl := sg_lt (f := f) (p := p) (fun k hk => (hR.2.2 k hk).2) hp1
        rw [if_pos hp1, if_pos g, x_fact _ (by omega), b2, if_pos g, if_neg (by rw [nn_lt (by omega) (by omega)]; omega), x_peek hR' hpn, b2, if_pos hp1, x_take hR' hpn (by omega), if_pos rfl, b2, if_neg (by rw [nn_eq (by omega) (by omega)]; omega), nI_add, x_put hA (by omega), b2, if_neg (by rw [nn_eq (by omega) (by omega)]; omega)]
        rfl
      · rw [if_neg g]
        by_cases hp1 : p < n
        · have hl := sg_lt (f := f) (p := p) (fun k hk => (hR.2.2 k hk).2) hp1
          rw [if_pos hp1, x_fact _ (by omega), b2, if_neg g, if_pos (by rw [gn_lt (by omega) (by omega) (by omega)]; trivial)]
          simp only [pEnd, bo_f, List.append_nil]
        · rw [if_neg hp1, x_factN, b2, if_pos (by rw [gn_lt (by omega) (by omega) (by omega)]; trivial)]
          simp only [pEnd, bo_f, List.append_nil]
  rcases hrc with ⟨rfl, rfl⟩ | ⟨k, rfl, hd4, hG, hS⟩
  · simp (disch := first | omega | assumption) only [b_X8_readThing, kT hA, jn, lt0, nn_le, if_true]
    exact key (fun _ => none) rfl
  · simp (disch := first | omega | assumption) only [b_X8_readThing, kT hA, jn, lt0, nn_le, if_false]
    rw [if_neg (by omega), x_take hR' hpn (by omega)]
    by_cases h : sg f n p = 40
    · have hp1 : p < n := sg_in (f := f) (by omega)
      have e0 : pThing f n (some k) p = match k (p + 1) with
          | (false, p1, c) => (false, p1, c)
          | (true, p1, c) => if sg f n p1 = 41 then (true, p1 + 1, c) else (false, p1, c) := by
        unfold pThing
        rw [if_pos h]
        rcases hkk : k (p + 1) with ⟨_ | _, _, _⟩ <;> simp only [hkk]
      obtain ⟨g1, g2, g3⟩ := hG (p + 1) hp1
      rw [e0, if_pos h, b2, if_neg (by rw [nn_eq (by omega) (by omega)]; omega), nI_add, hS c0 (p + 1) hp1 (by omega), pEnd]
      rw [b2]
      rcases hk : k (p + 1) with ⟨ok, p1, c⟩
      rw [hk] at g1 g2 g3
      cases ok with
      | false =>
        rw [bo_f, if_pos rfl]
        rfl
      | true =>
        rw [bo_t, if_neg (by rw [nn_eq (by omega) (by omega)]; omega), x_take (Rd_cw hA hR) g2 (by omega)]
        simp only []
        by_cases h2 : sg f n p1 = 41
        · rw [if_pos h2, if_pos h2, b2, if_neg (by rw [nn_eq (by omega) (by omega)]; omega)]
          rfl
        · rw [if_neg h2, if_neg h2, b2, if_pos rfl]
          rfl
    · have e0 : pThing f n (some k) p = pThing f n none p := by
        unfold pThing
        rw [if_neg h]
        simp only [ite_self]
      rw [e0, if_neg h, b2, if_pos rfl]
      exact key (fun _ => none) rfl
