/-! THE REFERENCE READS AND VALUES A RULE -/
def mW (o : pO) : Int32 := if o.1 = true then -nI 1 else nI o.2.1
def MSP (q : pQ) (ρ : pP) (L : pL) (I : pI) (n : Nat) (fx : Nat → Int32) (g : jH → Option (Int32 × jH)) (pf : Nat → pO) : Prop := ∀ p, p ≤ n → ∃ v, g (hp q ρ L (mp I p (-nI 1))) = some (v, hp q ρ L (mp I (pf p).2.1 (mW (pf p)))) ∧ ((pf p).1 = true → v = vO fx (pf p).2.2)
def Fx (I : pI) (fx : Nat → Int32) : Prop := (I 129 25 = nI 0 ∧ ∀ k, fx k = nI 0) ∨ (I 129 25 = nI 1 ∧ ∀ k, k < 7 → I 142 k = fx k)
theorem h_thD {q : pQ} {ρ : pP} {L : pL} {I : pI} {N p x : Nat} {d : Int32} (hx : x ≤ 1000) : f_gH 5000 (N + 1) 3 129 d (hp q ρ L (mp I p (nI x))) = some (nI 0, hp q ρ L (mp I p (nI x))) := by
  show b_X11_thing 5000 (f_gH 5000 N) 129 d _ = _
  simp (disch := first | omega | assumption) only [b_X11_thing, m_passesD, m_dead, kM, kMA, ob_, b2_, jn_, nn_lt, nn_le, nn_eq, nI_add, pk_mul, nn_su, gn_lt, gn_le, ng_lt, ng_le, ng_eq, gn_eq, gg_eq, n_m1, n_cl, if_true, if_false, if_pos, if_neg, ite_self, lt0]
theorem h_prL {q : pQ} {ρ : pP} {L : pL} {I : pI} {N p x : Nat} {d v : Int32} {rec : Nat → Nat → Int32 → jH → Option (Int32 × jH)} (hx : x ≤ 1000) (hN : 0 < N) : f_X11_product_L6 5000 rec 129 d N v (hp q ρ L (mp I p (nI x))) = some (v, hp q ρ L (mp I p (nI x))) := by
  obtain ⟨M, rfl⟩ : ∃ M, N = M + 1 := ⟨N - 1, by omega⟩
  simp (disch := first | omega | assumption) only [f_X11_product_L6, m_dead, kM, kMA, ob_, b2_, jn_, nn_lt, nn_le, nn_eq, nI_add, pk_mul, nn_su, gn_lt, gn_le, ng_lt, ng_le, ng_eq, gn_eq, gg_eq, n_m1, n_cl, if_true, if_false, if_pos, if_neg, ite_self, lt0]
theorem h_suL {q : pQ} {ρ : pP} {L : pL} {I : pI} {N p x : Nat} {d v : Int32} {rec : Nat → Nat → Int32 → jH → Option (Int32 × jH)} (hx : x ≤ 1000) (hN : 0 < N) : f_X11_sum_L6 5000 rec 129 d N v (hp q ρ L (mp I p (nI x))) = some (v, hp q ρ L (mp I p (nI x))) := by
  obtain ⟨M, rfl⟩ : ∃ M, N = M + 1 := ⟨N - 1, by omega⟩
  simp (disch := first | omega | assumption) only [f_X11_sum_L6, m_dead, kM, kMA, ob_, b2_, jn_, nn_lt, nn_le, nn_eq, nI_add, pk_mul, nn_su, gn_lt, gn_le, ng_lt, ng_le, ng_eq, gn_eq, gg_eq, n_m1, n_cl, if_true, if_false, if_pos, if_neg, ite_self, lt0]
theorem h_prD {q : pQ} {ρ : pP} {L : pL} {I : pI} {N p x : Nat} {d : Int32} (hx : x ≤ 1000) : f_gH 5000 (N + 2) 2 129 d (hp q ρ L (mp I p (nI x))) = some (nI 0, hp q ρ L (mp I p (nI x))) := by
  show b_X11_product 5000 (f_gH 5000 (N + 1)) 129 d _ = _
  simp (disch := first | omega | assumption) only [b_X11_product, h_thD, kM, kMA, ob_, b2_, jn_, nn_lt, nn_le, nn_eq, nI_add, pk_mul, nn_su, gn_lt, gn_le, ng_lt, ng_le, ng_eq, gn_eq, gg_eq, n_m1, n_cl, if_true, if_false, if_pos, if_neg, ite_self, lt0]
  exact h_prL hx (by omega)
theorem h_suD {q : pQ} {ρ : pP} {L : pL} {I : pI} {N p x : Nat} {d : Int32} (hx : x ≤ 1000) : f_gH 5000 (N + 3) 1 129 d (hp q ρ L (mp I p (nI x))) = some (nI 0, hp q ρ L (mp I p (nI x))) := by
  show b_X11_sum 5000 (f_gH 5000 (N + 2)) 129 d _ = _
  simp (disch := first | omega | assumption) only [b_X11_sum, h_prD, kM, kMA, ob_, b2_, jn_, nn_lt, nn_le, nn_eq, nI_add, pk_mul, nn_su, gn_lt, gn_le, ng_lt, ng_le, ng_eq, gn_eq, gg_eq, n_m1, n_cl, if_true, if_false, if_pos, if_neg, ite_self, lt0]
  exact h_suL hx (by omega)
theorem h_heD {q : pQ} {ρ : pP} {L : pL} {I : pI} {N p x : Nat} {d : Int32} (hx : x ≤ 1000) : f_gH 5000 (N + 4) 0 129 d (hp q ρ L (mp I p (nI x))) = some (nI 0, hp q ρ L (mp I p (nI x))) := by
  show b_X11_held 5000 (f_gH 5000 (N + 3)) 129 d _ = _
  simp (disch := first | omega | assumption) only [b_X11_held, h_suD, m_passesD, kM, kMA, ob_, b2_, jn_, nn_lt, nn_le, nn_eq, nI_add, pk_mul, nn_su, gn_lt, gn_le, ng_lt, ng_le, ng_eq, gn_eq, gg_eq, n_m1, n_cl, if_true, if_false, if_pos, if_neg, ite_self, lt0]
theorem pMin_st (f : Nat → Nat) (n : Nat) : ∀ k p, n ≤ p + k → pMin f n (k + 1) p = pMin f n k p
  | 0, p, h => by
    have : sg f n p = 999 := if_neg (by omega)
    simp only [pMin, this, if_neg (show ¬ 999 = 45 by omega)]
  | k + 1, p, h => by
    rw [pMin, pMin_st f n k (p + 1) (by omega)]
    rfl
theorem pFac_m {f : Nat → Nat} {n p : Nat} {rc : Option (Nat → pO)} {fx : Nat → Int32} (hn : n ≤ 40) (hs : sg f n p = 45) (hP : PS fx (pThing f n rc)) : (pFac f n rc p).1 = (pFac f n rc (p + 1)).1 ∧ (pFac f n rc p).2.1 = (pFac f n rc (p + 1)).2.1 ∧ ((pFac f n rc p).1 = true → vO fx (pFac f n rc p).2.2 = -vO fx (pFac f n rc (p + 1)).2.2) := by
  have e : pMin f n 40 p = ((pMin f n 40 (p + 1)).1, (pMin f n 40 (p + 1)).2 + 1) := by
    rw [pMin_st f n 39 (p + 1) (by omega), pMin, if_pos hs]
  unfold pFac
  rw [e]
  simp only []
  have hp := hP (pMin f n 40 (p + 1)).1
  rcases hk : pThing f n rc (pMin f n 40 (p + 1)).1 with ⟨ok, p1, c⟩
  rw [hk] at hp
  cases ok with
  | false => exact ⟨rfl, rfl, fun h => by cases h⟩
  | true =>
    refine ⟨rfl, rfl, fun _ => ?_⟩
    have hc := (hp rfl).1
    simp only [] at hc ⊢
    by_cases h : (pMin f n 40 (p + 1)).2 % 2 = 0
    · rw [if_pos h, if_neg (by omega), (Pu_neg hc).2]
    · rw [if_neg h, if_pos (by omega), (Pu_neg hc).2, Int32.neg_neg]
theorem pFac_0 {f : Nat → Nat} {n p : Nat} {rc : Option (Nat → pO)} (hs : ¬ sg f n p = 45) : pFac f n rc p = pThing f n rc p := by
  have e : pMin f n 40 p = (p, 0) := by rw [pMin, if_neg hs]
  unfold pFac
  rw [e]
  rcases pThing f n rc p with ⟨_ | _, p1, c⟩ <;> rfl
theorem h_thing {q : pQ} {ρ : pP} {L : pL} {I : pI} {n d B : Nat} {f : Nat → Nat} {fx : Nat → Int32} {rc : Option (Nat → pO)} (hR : RdM ρ I f n) (hn : n ≤ 40) (hd : d ≤ 4) (hfx : Fx I fx) (hB : 4 ≤ B)
    (hrc : (rc = none ∧ d = 4) ∨ ∃ k, rc = some k ∧ d < 4 ∧ Gd n k ∧ PS fx k ∧ ∀ N, B ≤ N → MSP q ρ L I n fx (f_gH 5000 N 0 129 (nI (d + 1))) k) : ∀ u N p, n ≤ p + u → B + u + 1 ≤ N → p ≤ n → ∃ v, f_gH 5000 N 3 129 (nI d) (hp q ρ L (mp I p (-nI 1))) = some (v, hp q ρ L (mp I (pFac f n rc p).2.1 (mW (pFac f n rc p)))) ∧ ((pFac f n rc p).1 = true → v = vO fx (pFac f n rc p).2.2)
  | u, 0, p, h1, h2, h3 => by omega
  | 0, N + 1, p, h1, h2, h3 => by
    have : p = n := by omega
    subst this
    have hs : sg f p p = 999 := if_neg (by omega)
    have e : pFac f p rc p = (false, p, []) := by
      rw [pFac_0 (by omega)]
      unfold pThing
      rw [hs]
      rfl
    rw [e]
    refine ⟨nI 0, ?_, fun h => by cases h⟩
    show b_X11_thing 5000 (f_gH 5000 N) 129 (nI d) _ = _
    simp (disch := first | omega | assumption) only [b_X11_thing, m_passes hR, hs, m_fine, m_here hR, m_inN, m_letterN, kM, kMA, ob_, b2_, jn_, nn_lt, nn_le, nn_eq, nI_add, pk_mul, nn_su, gn_lt, gn_le, ng_lt, ng_le, ng_eq, gn_eq, gg_eq, n_m1, n_cl, if_true, if_false, if_pos, if_neg, ite_self, lt0, mp_at, m_fault]
    rfl
  | u + 1, N + 1, p, h1, h2, h3 => by
    have hG : ∀ k, rc = some k → PS fx k := by
      intro k hk
      rcases hrc with ⟨rfl, _⟩ | ⟨k', rfl, _, _, g, _⟩
      · cases hk
      · cases hk
        exact g
    show ∃ v, b_X11_thing 5000 (f_gH 5000 N) 129 (nI d) _ = _ ∧ _
    by_cases hs : sg f n p = 45
    · have hp1 : p < n := sg_in (f := f) (by omega)
      obtain ⟨v, e1, e2⟩ := h_thing hR hn hd hfx hB hrc u N (p + 1) (by omega) (by omega) hp1
      obtain ⟨a1, a2, a3⟩ := pFac_m (f := f) (rc := rc) hn hs (PS_thing hG)
      refine ⟨-v, ?_, fun h => by rw [a3 h, e2 (a1 ▸ h)]⟩
      simp (disch := first | omega | assumption) only [b_X11_thing, m_passes hR, if_pos hs, kM, kMA, ob_, b2_, jn_, nn_lt, nn_le, nn_eq, nI_add, pk_mul, nn_su, gn_lt, gn_le, ng_lt, ng_le, ng_eq, gn_eq, gg_eq, n_m1, n_cl, if_true, if_false, if_pos, if_neg, ite_self, lt0, e1]
      rw [a2]
      unfold mW
      rw [a1, a2]
    · rw [pFac_0 hs]
      have key : (∃ v, (j_b2 (f_X11_in 5000 (if p < n then nI (sg f n p) else -nI 1) (nI 48) (nI 57) (hp q ρ L (mp I p (-nI 1)))) (fun v9 h8 =>
          if v9 = nI 0 then
            j_b2 (f_X11_letterOf 5000 (if p < n then nI (sg f n p) else -nI 1) h8) (fun v11 h10 =>
            if v11 = -nI 1 then
              (jg_I 11 17 h10 129).bind (fun v12 =>
              (f_X11_fault 5000 129 v12 h10).bind (fun h13 =>
              some (nI 0, h13)))
            else
              (jg_I 11 17 h10 129).bind (fun v14 =>
              (jp_I 11 17 h10 129 (v14 + nI 1)).bind (fun h15 =>
              (jg_I 11 25 h15 129).bind (fun v16 =>
              if v16 = nI 0 then
                some (nI 0, h15)
              else
                (jg_R 11 26 h15 129).bind (fun v17 =>
                j_b2 (f_X11_letterOf 5000 (if p < n then nI (sg f n p) else -nI 1) h15) (fun v19 h18 =>
                (ja_I 100 h18 v17 v19).bind (fun v20 =>
                some (v20, h18))))))))
          else
            j_b2 (f_X11_number 5000 129 (nI 3) h8) (fun v22 h21 =>
            some (v22, h21)))) = some (v, hp q ρ L (mp I (pThing f n none p).2.1 (mW (pThing f n none p)))) ∧ ((pThing f n none p).1 = true → v = vO fx (pThing f n none p).2.2)) := by
        have e0 : pThing f n none p = if 48 ≤ sg f n p ∧ sg f n p ≤ 57 then (true, (pNum f n 3 p 0).1, [nI (pNum f n 3 p 0).2]) else if pFact (sg f n p) < 7 then (true, p + 1, [nI (1000 + pFact (sg f n p))]) else (false, p, []) := by
          unfold pThing
          split
          · rename_i e
            split at e <;> cases e
          · rfl
        rw [e0]
        by_cases h : 48 ≤ sg f n p ∧ sg f n p ≤ 57
        · have hv := pNum_lt f n 3 p 0
          refine ⟨nI (pNum f n 3 p 0).2, ?_, fun _ => by rw [if_pos h, (Pu_num (by omega)).2]⟩
          rw [m_hereIn (q := q) (L := L) (w := nI 0) hR (by omega) ⟨h.1, by omega⟩, b2, if_neg (by rw [nn_eq (by omega) (by omega)]; omega), m_number3 hR p (by omega), if_pos h, if_pos h, b2]
          rfl
        · rw [m_hereOut (q := q) (L := L) (w := nI 0) hR (by omega) (by omega), b2, if_pos rfl, if_neg h]
          by_cases g : pFact (sg f n p) < 7
          · have hp1 := pFact_in g
            have hsl : sg f n p < 256 := by
              obtain ⟨U, T, top, e, hU, h15, h16, hn', hT, htop, hk⟩ := hR
              rw [show sg f n p = f p from if_pos hp1]
              exact (hk p hp1).2
            refine ⟨fx (pFact (sg f n p)), ?_, fun _ => by rw [if_pos g, (Pu_fact g).2]⟩
            rw [if_pos hp1, m_letter _ (by omega), b2, if_pos g, if_neg (by rw [ng_eq (by omega) (by omega) (by omega)]; trivial), if_pos g]
            rcases hfx with ⟨z1, z2⟩ | ⟨z1, z2⟩
            · simp (disch := first | omega | assumption) only [kM, kMA, ob_, b2_, jn_, nn_lt, nn_le, nn_eq, nI_add, pk_mul, nn_su, gn_lt, gn_le, ng_lt, ng_le, ng_eq, gn_eq, gg_eq, n_m1, n_cl, if_true, if_false, if_pos, if_neg, ite_self, lt0, mp_at, mp_u17, mp_nk, z1, z2]
              rfl
            · simp (disch := first | omega | assumption) only [kM, kMA, ob_, b2_, jn_, nn_lt, nn_le, nn_eq, nI_add, pk_mul, nn_su, gn_lt, gn_le, ng_lt, ng_le, ng_eq, gn_eq, gg_eq, n_m1, n_cl, if_true, if_false, if_pos, if_neg, ite_self, lt0, mp_at, mp_u17, mp_nk, z1, m_letter, if_pos g, mp_ne, z2]
              rfl
          · refine ⟨nI 0, ?_, fun h => by rw [if_neg g] at h; cases h⟩
            rw [if_neg g]
            by_cases hp1 : p < n
            · have hsl : sg f n p < 256 := by
                obtain ⟨U, T, top, e, hU, h15, h16, hn', hT, htop, hk⟩ := hR
                rw [show sg f n p = f p from if_pos hp1]
                exact (hk p hp1).2
              rw [if_pos hp1, m_letter _ (by omega), b2, if_neg g, if_pos rfl]
              simp (disch := first | omega | assumption) only [kM, kMA, ob_, b2_, jn_, nn_lt, nn_le, nn_eq, nI_add, pk_mul, nn_su, gn_lt, gn_le, ng_lt, ng_le, ng_eq, gn_eq, gg_eq, n_m1, n_cl, if_true, if_false, if_pos, if_neg, ite_self, lt0, mp_at, m_fault]
              rfl
            · rw [if_neg hp1, m_letterN, b2, if_pos rfl]
              simp (disch := first | omega | assumption) only [kM, kMA, ob_, b2_, jn_, nn_lt, nn_le, nn_eq, nI_add, pk_mul, nn_su, gn_lt, gn_le, ng_lt, ng_le, ng_eq, gn_eq, gg_eq, n_m1, n_cl, if_true, if_false, if_pos, if_neg, ite_self, lt0, mp_at, m_fault]
              rfl
      have nope : (if p < n then nI (sg f n p) else -nI 1) = nI 40 ↔ sg f n p = 40 := by
        by_cases hp1 : p < n
        · have hsl : sg f n p < 256 := by
            obtain ⟨U, T, top, e, hU, h15, h16, hn', hT, htop, hk⟩ := hR
            rw [show sg f n p = f p from if_pos hp1]
            exact (hk p hp1).2
          rw [if_pos hp1, nn_eq (by omega) (by omega)]
        · rw [if_neg hp1, gn_eq (by omega) (by omega) (by omega), show sg f n p = 999 from if_neg hp1]
          simp
      by_cases h : sg f n p = 40
      · have hp1 : p < n := sg_in (f := f) (by omega)
        rcases hrc with ⟨rfl, rfl⟩ | ⟨k, rfl, hd4, hGd, hPS, hM⟩
        · simp (disch := first | omega | assumption) only [b_X11_thing, m_passes hR, if_neg hs, m_fine, m_here hR, nope, if_pos h, jn_, b2_, lt0, nn_le, nn_eq, if_true, Nat.le_refl]
          exact key
        · have e0 : pThing f n (some k) p = match k (p + 1) with
            | (false, p1, c) => (false, p1, c)
            | (true, p1, c) => if sg f n p1 = 41 then (true, p1 + 1, c) else (false, p1, c) := by
            unfold pThing
            rw [if_pos h]
            rcases hkk : k (p + 1) with ⟨_ | _, _, _⟩ <;> simp only [hkk]
          obtain ⟨v, e1, e2⟩ := hM N (by omega) (p + 1) hp1
          obtain ⟨g1, g2, g3⟩ := hGd (p + 1) hp1
          rw [e0]
          refine ⟨v, ?_, ?_⟩
          · simp (disch := first | omega | assumption) only [b_X11_thing, m_passes hR, if_neg hs, m_fine, m_here hR, nope, if_pos h, jn_, b2_, lt0, nn_le, nn_eq, if_pos, if_neg, kM, ob_, mp_at, nI_add, mp_u17, e1]
            rcases hk : k (p + 1) with ⟨ok, p1, c⟩
            rw [hk] at g1 g2 g3
            simp only [] at g1 g2 g3
            cases ok with
            | false =>
              simp (disch := first | omega | assumption) only [mW, if_true, if_false, Bool.false_eq_true, m_needD, ob_]
            | true =>
              simp (disch := first | omega | assumption) only [mW, if_true, m_need hR, ob_]
              by_cases h2 : sg f n p1 = 41
              · simp only [if_pos h2, if_true]
              · simp only [if_neg h2, if_false, Bool.false_eq_true]
          · rcases hk : k (p + 1) with ⟨ok, p1, c⟩
            rw [hk] at e2
            cases ok with
            | false => intro h; cases h
            | true =>
              simp only []
              by_cases h2 : sg f n p1 = 41
              · rw [if_pos h2]
                exact e2
              · rw [if_neg h2]
                intro h
                cases h
      · have e0 : pThing f n rc p = pThing f n none p := by
          unfold pThing
          rw [if_neg h]
          simp only [ite_self]
        rw [e0]
        simp (disch := first | omega | assumption) only [b_X11_thing, m_passes hR, if_neg hs, m_fine, m_here hR, nope, if_neg h, jn_, b2_, lt0, nn_le, nn_eq, if_true, if_false]
        exact key
