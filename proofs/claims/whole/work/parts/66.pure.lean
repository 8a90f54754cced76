/-! LINES -/
def lns (f : Nat → Nat) (n T : Nat) (rd : Nat → Bool × Nat) : Nat → Nat → Nat → Bool × Nat × Nat
  | 0, k, p => (false, k, p)
  | r + 1, k, p => bif (rd p).1 then (if sg f n (rd p).2 = 59 then lns f n T rd r (k + 1) ((rd p).2 + 1) else (decide ((rd p).2 = T), k + 1, (rd p).2)) else (false, k, (rd p).2)
def lnP (rd : Nat → Bool × Nat) : Nat → Nat
  | 0 => 0
  | k + 1 => (rd (lnP rd k)).2 + 1
theorem lns_f {f : Nat → Nat} {n T : Nat} {rd : Nat → Bool × Nat} {r k p : Nat} (h : (rd p).1 = false) : lns f n T rd (r + 1) k p = (false, k, (rd p).2) := by
  rw [lns, h]
  rfl
theorem lns_m {f : Nat → Nat} {n T : Nat} {rd : Nat → Bool × Nat} {r k p : Nat} (h : (rd p).1 = true) (g : sg f n (rd p).2 = 59) : lns f n T rd (r + 1) k p = lns f n T rd r (k + 1) ((rd p).2 + 1) := by
  rw [lns, h, cond_true, if_pos g]
theorem lns_e {f : Nat → Nat} {n T : Nat} {rd : Nat → Bool × Nat} {r k p : Nat} (h : (rd p).1 = true) (g : ¬ sg f n (rd p).2 = 59) : lns f n T rd (r + 1) k p = (decide ((rd p).2 = T), k + 1, (rd p).2) := by
  rw [lns, h, cond_true, if_neg g]
theorem lns_in {f : Nat → Nat} {n T : Nat} {rd : Nat → Bool × Nat} (hrd : ∀ p, p ≤ n → (rd p).2 ≤ n) : ∀ r k, lnP rd k ≤ n → (∀ j, j < k → (rd (lnP rd j)).1 = true ∧ lnP rd j ≤ n) → (∀ j, j < (lns f n T rd r k (lnP rd k)).2.1 → (rd (lnP rd j)).1 = true ∧ lnP rd j ≤ n) ∧ (lns f n T rd r k (lnP rd k)).2.1 ≤ k + r ∧ (lns f n T rd r k (lnP rd k)).2.2 ≤ n ∧ ((lns f n T rd r k (lnP rd k)).1 = true → k + 1 ≤ (lns f n T rd r k (lnP rd k)).2.1 ∧ (lns f n T rd r k (lnP rd k)).2.2 = T)
  | 0, k, h, hj => ⟨hj, Nat.le_refl _, h, fun h => by cases h⟩
  | r + 1, k, h, hj => by
    cases h1 : (rd (lnP rd k)).1 with
    | false =>
      rw [lns_f h1]
      exact ⟨hj, Nat.le_add_right _ _, hrd _ h, fun h => by cases h⟩
    | true =>
      have hj' : ∀ j, j < k + 1 → (rd (lnP rd j)).1 = true ∧ lnP rd j ≤ n := fun j hj1 => by
        by_cases e : j = k
        · rw [e]
          exact ⟨h1, h⟩
        · exact hj j (by omega)
      by_cases h2 : sg f n (rd (lnP rd k)).2 = 59
      · rw [lns_m h1 h2]
        have hl : lnP rd (k + 1) ≤ n := by
          rw [lnP]
          have := sg_in (f := f) (n := n) (p := (rd (lnP rd k)).2) (by omega)
          omega
        obtain ⟨a, b, c, d⟩ := lns_in (f := f) (T := T) hrd r (k + 1) hl hj'
        exact ⟨a, by rw [lnP] at b; omega, c, fun h => ⟨by have := (d h).1; rw [lnP] at this; omega, (d h).2⟩⟩
      · rw [lns_e h1 h2]
        refine ⟨hj', by simp only []; omega, hrd _ h, fun h => ⟨Nat.le_refl _, ?_⟩⟩
        simp only [] at h ⊢
        exact of_decide_eq_true h
theorem x_lns {q : pQ} {ρ : pP} {L : pL} {f : Nat → Nat} {n T c0 kd cap : Nat} {rd : Nat → Bool × Nat} {Inv : Nat → pI → Prop} (hc : c0 + cap ≤ 100) (hT80 : T ≤ 80) (hrd : ∀ p, p ≤ n → (rd p).2 ≤ n) (hRd : ∀ k J, Inv k J → Rd J f n ∧ J 1 1 = nI T) (hst : ∀ k J, k < cap → Inv k J → lnP rd k ≤ n → ∃ J', f_X10_readLine 5000 0 (nI kd) (nI (c0 + k)) (hp q ρ L (ap J (lnP rd k))) = some (bo (rd (lnP rd k)).1, hp q ρ L (ap J' (rd (lnP rd k)).2)) ∧ ((rd (lnP rd k)).1 = true → Inv (k + 1) J') ∧ Inv k J') : ∀ r k N J, k + r = cap → r < N → Inv k J → lnP rd k ≤ n → ∃ J', f_X10_linesUpTo_L3 5000 0 (nI kd) (nI c0) (nI (c0 + cap)) (fun (h6 : jH) =>
      (jg_R 10 0 h6 0).bind (fun v7 =>
      j_b2 (f_X9_fault 5000 v7 h6) (fun v9 h8 =>
      some (v9, h8)))) (fun (y10 : Int32) (h11 : jH) =>
      (jg_R 10 0 h11 0).bind (fun v12 =>
      j_b2 (f_X9_isOver 5000 v12 h11) (fun v14 h13 =>
      if v14 = nI 0 then
        (jg_R 10 0 h13 0).bind (fun v15 =>
        j_b2 (f_X9_fault 5000 v15 h13) (fun v17 h16 =>
        some (v17, h16)))
      else
        some (y10, h13)))) (fun (h18 : jH) =>
      (jg_R 10 0 h18 0).bind (fun v19 =>
      j_b2 (f_X9_fault 5000 v19 h18) (fun v21 h20 =>
      some (v21, h20)))) N (nI (k + 1)) (hp q ρ L (ap J (lnP rd k))) = some (if (lns f n T rd r k (lnP rd k)).1 = true then nI (lns f n T rd r k (lnP rd k)).2.1 else -nI (1 + (lns f n T rd r k (lnP rd k)).2.2), hp q ρ L (ap J' (lns f n T rd r k (lnP rd k)).2.2)) ∧ Inv (lns f n T rd r k (lnP rd k)).2.1 J'
  | _, _, 0, _, _, h, _, _ => absurd h (Nat.not_lt_zero _)
  | 0, k, N + 1, J, h1, h2, h3, h4 => by
    refine ⟨J, ?_, h3⟩
    rw [f_X10_linesUpTo_L3]
    simp (disch := first | omega | assumption) only [↓bX, ↓bXA, ↓jn_, ↓ob_, ↓b2_, ↓reduceIte, nn_lt, nn_le, nn_eq, nI_add, pk_mul, nn_su, gn_lt, gn_le, ng_lt, ng_le, ng_eq, gn_eq, gg_eq, n_m1, n_cl, if_true, if_false, if_pos, if_neg, lt0, ↓b2e (x_fault (q := q) (ρ := ρ) (L := L) (I := J) (p := lnP rd k)), lns]
    rfl
  | r + 1, k, N + 1, J, h1, h2, h3, h4 => by
    obtain ⟨J', e1, e2, e3⟩ := hst k J (by omega) h3 h4
    have e1' : f_X10_readLine 5000 0 (nI kd) (nI (c0 + (k + 1)) - nI 1) (hp q ρ L (ap J (lnP rd k))) = some (bo (rd (lnP rd k)).1, hp q ρ L (ap J' (rd (lnP rd k)).2)) := by
      rw [nn_su (by omega), show c0 + (k + 1) - 1 = c0 + k by omega]
      exact e1
    have hp1 := hrd _ h4
    cases g1 : (rd (lnP rd k)).1 with
    | false =>
      rw [g1, bo_f] at e1'
      rw [lns_f g1]
      refine ⟨J', ?_, e3⟩
      rw [f_X10_linesUpTo_L3]
      simp (disch := first | omega | assumption) only [↓b2e (x_fault (q := q) (ρ := ρ) (L := L) (I := J') (p := (rd (lnP rd k)).2)), ↓bX, ↓ob_, lt0, nI_add, nn_lt, if_neg, ↓b2e e1', if_true]
      rfl
    | true =>
      rw [g1, bo_t] at e1'
      have h3' := e2 g1
      obtain ⟨hR, hT⟩ := hRd (k + 1) J' h3'
      have tk := x_take (q := q) (ρ := ρ) (L := L) (c := 59) hR hp1 (by omega)
      by_cases g2 : sg f n (rd (lnP rd k)).2 = 59
      · rw [if_pos g2] at tk
        have hl : lnP rd (k + 1) ≤ n := by
          rw [lnP]
          have := sg_in (f := f) (n := n) (p := (rd (lnP rd k)).2) (by omega)
          omega
        obtain ⟨J2, i1, i2⟩ := x_lns hc hT80 hrd hRd hst r (k + 1) N J' (by omega) (by omega) h3' hl
        rw [lns_m g1 g2]
        refine ⟨J2, ?_, i2⟩
        rw [f_X10_linesUpTo_L3]
        simp (disch := first | omega | assumption) only [↓bX, ↓ob_, lt0, nI_add, nn_lt, nn_eq, if_neg, ↓b2e e1', ↓b2e tk, if_false]
        exact i1
      · rw [if_neg g2] at tk
        rw [lns_e g1 g2]
        refine ⟨J', ?_, h3'⟩
        have hn80 := hR.2.1
        have ov := x_isOver (q := q) (ρ := ρ) (L := L) (p := (rd (lnP rd k)).2) hT hT80 (by omega)
        rw [f_X10_linesUpTo_L3]
        by_cases g3 : (rd (lnP rd k)).2 = T
        · rw [if_pos g3] at ov
          simp (disch := first | omega | assumption) only [↓bX, ↓ob_, lt0, nI_add, nn_lt, nn_eq, if_neg, ↓b2e e1', ↓b2e tk, if_false, if_true, ↓b2e ov, g3, decide_true]
        · rw [if_neg g3] at ov
          have dd : decide ((rd (lnP rd k)).2 = T) = false := decide_eq_false g3
          simp (disch := first | omega | assumption) only [↓b2e (x_fault (q := q) (ρ := ρ) (L := L) (I := J') (p := (rd (lnP rd k)).2)), ↓bX, ↓ob_, lt0, nI_add, nn_lt, nn_eq, if_neg, ↓b2e e1', ↓b2e tk, if_false, if_true, ↓b2e ov, dd]
          rfl
/-! the reference's lines -/
theorem m_right {q : pQ} {ρ : pP} {L : pL} {I : pI} {p T : Nat} (h : I 129 15 = nI T) (hT : T ≤ 80) (hpn : p ≤ 200) : f_X11_wasRight 5000 129 (hp q ρ L (mp I p (-nI 1))) = if T ≤ p then some (nI 1, hp q ρ L (mp I p (-nI 1))) else some (nI 0, hp q ρ L (mp I p (nI p))) := by
  by_cases e : T ≤ p
  · rw [if_pos e]
    simp (disch := first | omega | assumption) only [f_X11_wasRight, ↓bM, ↓bMA, ↓jn_, ↓ob_, ↓b2_, ↓reduceIte, nn_lt, nn_le, nn_eq, nI_add, pk_mul, nn_su, gn_lt, gn_le, ng_lt, ng_le, ng_eq, gn_eq, gg_eq, n_m1, n_cl, if_true, if_false, if_pos, if_neg, lt0, mp_at, mp_nk, h, ↓b2e (m_fine (q := q) (ρ := ρ) (L := L) (I := I) (p := p)), jrz_1]
  · rw [if_neg e]
    simp (disch := first | omega | assumption) only [f_X11_wasRight, ↓bM, ↓bMA, ↓jn_, ↓ob_, ↓b2_, ↓reduceIte, nn_lt, nn_le, nn_eq, nI_add, pk_mul, nn_su, gn_lt, gn_le, ng_lt, ng_le, ng_eq, gn_eq, gg_eq, n_m1, n_cl, if_true, if_false, if_pos, if_neg, lt0, mp_at, mp_nk, h, ↓oe (m_fault (q := q) (ρ := ρ) (L := L) (I := I) (p := p) (x := p)), ↓b2e (m_dead (q := q) (ρ := ρ) (L := L) (I := I) (p := p) (x := p) (by omega)), jrz_0]
theorem m_wrong {q : pQ} {ρ : pP} {L : pL} {I : pI} {p T x : Nat} (h : I 129 15 = nI T) (hT : T ≤ 80) (hpn : p ≤ 200) (hx : x ≤ 1000) : f_X11_wasRight 5000 129 (hp q ρ L (mp I p (nI x))) = some (nI 0, hp q ρ L (mp I p (nI x))) := by
  by_cases e : T ≤ p
  · simp (disch := first | omega | assumption) only [f_X11_wasRight, ↓bM, ↓bMA, ↓jn_, ↓ob_, ↓b2_, ↓reduceIte, nn_lt, nn_le, nn_eq, nI_add, pk_mul, nn_su, gn_lt, gn_le, ng_lt, ng_le, ng_eq, gn_eq, gg_eq, n_m1, n_cl, if_true, if_false, if_pos, if_neg, lt0, mp_at, mp_nk, h, ↓b2e (m_dead (q := q) (ρ := ρ) (L := L) (I := I) (p := p) hx), jrz_0]
  · simp (disch := first | omega | assumption) only [f_X11_wasRight, ↓bM, ↓bMA, ↓jn_, ↓ob_, ↓b2_, ↓reduceIte, nn_lt, nn_le, nn_eq, nI_add, pk_mul, nn_su, gn_lt, gn_le, ng_lt, ng_le, ng_eq, gn_eq, gg_eq, n_m1, n_cl, if_true, if_false, if_pos, if_neg, lt0, mp_at, mp_nk, h, ↓oe (m_faultD (q := q) (ρ := ρ) (L := L) (I := I) (p := p) (y := nI p) hx), ↓b2e (m_dead (q := q) (ρ := ρ) (L := L) (I := I) (p := p) hx), jrz_0]
def mKK (ks : Int32 → jH → Option (Int32 × jH)) (y : Int32) (h : jH) : Option (Int32 × jH) := j_b2 (f_X11_wasRight 5000 129 h) (fun v16 h15 => if v16 = nI 0 then (jg_I 11 18 h15 129).bind (fun v17 => some (-nI 1 - v17, h15)) else ks y h15)
theorem m_lns {q : pQ} {ρ : pP} {L : pL} {f : Nat → Nat} {n T cap : Nat} {rd : Nat → Bool × Nat} {Inv : Nat → pI → Prop} {lp : Nat → Int32 → Int32 → jH → Option (Int32 × jH)} {body : Int32 → jH → (jH → Option (Int32 × jH)) → Option (Int32 × jH)} {ks : Int32 → jH → Option (Int32 × jH)} (hnT : n ≤ T) (hT80 : T ≤ 80) (hrd : ∀ p, p ≤ n → (rd p).2 ≤ n) (hlp : ∀ m x1 x2 h, lp (m + 1) x1 x2 h = if x2 = nI 0 then mKK ks x1 h else j_b2 (f_X11_fine 5000 129 h) (fun v5 h4 => if v5 = nI 0 then mKK ks x1 h4 else body x1 h4 (fun h7 => j_b2 (f_X11_passes 5000 129 (nI 59) h7) (fun v9 h8 => lp m (x1 + nI 1) v9 h8)))) (hRd : ∀ k J, Inv k J → RdM ρ J f n ∧ J 129 15 = nI T) (hbody : ∀ k J, k < cap → Inv k J → lnP rd k ≤ n → ∃ J' p' w, (∀ kk, body (nI k) (hp q ρ L (mp J (lnP rd k) (-nI 1))) kk = kk (hp q ρ L (mp J' p' w))) ∧ Inv k J' ∧ p' ≤ 200 ∧ ((rd (lnP rd k)).1 = true → p' = (rd (lnP rd k)).2 ∧ w = -nI 1 ∧ Inv (k + 1) J') ∧ ((rd (lnP rd k)).1 = false → w = nI (rd (lnP rd k)).2)) (hcap : ∀ J kk, Inv cap J → lnP rd cap ≤ n → body (nI cap) (hp q ρ L (mp J (lnP rd cap) (-nI 1))) kk = kk (hp q ρ L (mp J (lnP rd cap) (nI (lnP rd cap))))) : ∀ r k N J, k + r = cap → r + 1 < N → Inv k J → lnP rd k ≤ n → ((lns f n T rd r k (lnP rd k)).1 = true → ∃ J', lp N (nI k) (nI 1) (hp q ρ L (mp J (lnP rd k) (-nI 1))) = ks (nI (lns f n T rd r k (lnP rd k)).2.1) (hp q ρ L (mp J' T (-nI 1))) ∧ Inv (lns f n T rd r k (lnP rd k)).2.1 J') ∧ ((lns f n T rd r k (lnP rd k)).1 = false → ∃ J' p' w k', lp N (nI k) (nI 1) (hp q ρ L (mp J (lnP rd k) (-nI 1))) = some (-nI (1 + (lns f n T rd r k (lnP rd k)).2.2), hp q ρ L (mp J' p' w)) ∧ Inv k' J')
  | _, _, 0, _, _, h, _, _ => absurd h (Nat.not_lt_zero _)
  | _, _, 1, _, _, h, _, _ => absurd h (by omega)
  | 0, k, N + 2, J, h1, h2, h3, h4 => by
    have hk : k = cap := by omega
    subst hk
    obtain ⟨hR, hT⟩ := hRd k J h3
    have b := fun kk => hcap J kk h3 h4
    refine ⟨fun h => (by cases h), fun _ => ⟨J, lnP rd k, nI (lnP rd k), k, ?_, h3⟩⟩
    rw [hlp, if_neg (by decide), m_fine, b2, if_neg (by decide), b, m_passesD (by omega), b2, hlp, if_pos rfl, mKK, m_wrong hT hT80 (by omega) (by omega), b2, if_pos rfl]
    simp (disch := first | omega | assumption) only [↓bM, ↓ob_, mp_w, gs_, lns]
  | r + 1, k, N + 2, J, h1, h2, h3, h4 => by
    obtain ⟨J', p', w, b, c1, c2, c3, c4⟩ := hbody k J (by omega) h3 h4
    obtain ⟨hR, hT⟩ := hRd k J' c1
    have hp1 := hrd _ h4
    cases g1 : (rd (lnP rd k)).1 with
    | false =>
      rw [lns_f g1]
      refine ⟨fun h => (by cases h), fun _ => ⟨J', p', nI (rd (lnP rd k)).2, k, ?_, c1⟩⟩
      have hw := c4 g1
      subst hw
      rw [hlp, if_neg (by decide), m_fine, b2, if_neg (by decide), b, m_passesD (by omega), b2, hlp, if_pos rfl, mKK, m_wrong hT hT80 (by omega) (by omega), b2, if_pos rfl]
      simp (disch := first | omega | assumption) only [↓bM, ↓ob_, mp_w, gs_]
    | true =>
      obtain ⟨d1, d2, d3⟩ := c3 g1
      subst d1 d2
      have ps := m_passes (q := q) (L := L) (c := 59) hR c2 (by omega)
      by_cases g2 : sg f n (rd (lnP rd k)).2 = 59
      · rw [if_pos g2] at ps
        have hl : lnP rd (k + 1) ≤ n := by
          rw [lnP]
          have := sg_in (f := f) (n := n) (p := (rd (lnP rd k)).2) (by omega)
          omega
        obtain ⟨i1, i2⟩ := m_lns hnT hT80 hrd hlp hRd hbody hcap r (k + 1) (N + 1) J' (by omega) (by omega) d3 hl
        rw [lns_m g1 g2, hlp, if_neg (by decide), m_fine, b2, if_neg (by decide), b, ps, b2, nI_add]
        exact ⟨i1, i2⟩
      · rw [if_neg g2] at ps
        rw [lns_e g1 g2, hlp, if_neg (by decide), m_fine, b2, if_neg (by decide), b, ps, b2, hlp, if_pos rfl, mKK, m_right hT hT80 c2, nI_add]
        by_cases g3 : (rd (lnP rd k)).2 = T
        · refine ⟨fun _ => ⟨J', ?_, d3⟩, fun h => absurd h (by simp only [g3, decide_true]; exact fun h => by cases h)⟩
          rw [if_pos (by omega), b2, if_neg (by decide), g3]
        · refine ⟨fun h => absurd (of_decide_eq_true h) g3, fun _ => ⟨J', (rd (lnP rd k)).2, nI (rd (lnP rd k)).2, k, ?_, c1⟩⟩
          rw [if_neg (by omega), b2, if_pos rfl]
          simp (disch := first | omega | assumption) only [↓bM, ↓ob_, mp_w, gs_]
