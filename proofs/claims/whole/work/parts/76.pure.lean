/-! WORDS: the reference's lines -/
def wM (k : Nat) (I J : pI) : Prop := (∀ b, b ≠ 137 → b ≠ 138 → b ≠ 139 → J b = I b) ∧ (∀ c, c < 2 * k → J 139 c = I 139 c) ∧ (∀ c, c < k → J 138 c = I 138 c) ∧ ∀ c, c < 6 * k → J 137 c = I 137 c
theorem wM.tr {k : Nat} {I J K : pI} (h : wM k I J) (g : wM k J K) : wM k I K := ⟨fun b b1 b2 b3 => (g.1 b b1 b2 b3).trans (h.1 b b1 b2 b3), fun c hc => (g.2.1 c hc).trans (h.2.1 c hc), fun c hc => (g.2.2.1 c hc).trans (h.2.2.1 c hc), fun c hc => (g.2.2.2 c hc).trans (h.2.2.2 c hc)⟩
theorem wM_N {k : Nat} {I J : pI} (h : wN k I J) : wM k I J := ⟨fun b b1 b2 _ => h.1 b b1 b2, fun c _ => by rw [h.1 139 (by omega) (by omega)], fun c hc => h.2.1 c (by omega), fun c hc => h.2.2 c hc⟩
theorem wM_9 {k c : Nat} {I : pI} {x : Int32} (hc : 2 * k ≤ c) : wM k I (j_up I 139 c x) := ⟨fun b _ _ b3 => up_ne b3, fun c' hc' => up_nk (by omega), fun c' _ => by rw [up_ne (by omega)], fun c' _ => by rw [up_ne (by omega)]⟩
theorem RdM_wM {ρ : pP} {I J : pI} {f : Nat → Nat} {n k : Nat} (h : RdM ρ I f n) (g : wM k I J) : RdM ρ J f n := RdM_k h (by rw [g.1 129 (by omega) (by omega) (by omega)]) (by rw [g.1 129 (by omega) (by omega) (by omega)]) (fun b hb => g.1 b (by omega) (by omega) (by omega))
def wK (f : Nat → Nat) (n p k : Nat) (J : pI) : Prop := J 139 (2 * k) = nI (wdA f n p) ∧ J 139 (2 * k + 1) = wdB f n p ∧ J 138 k = nI (wdN f n p) ∧ ∀ i, i < wdN f n p → J 137 (6 * k + i) = nI (wdL f n p i)
theorem wK_k {f : Nat → Nat} {n p k k' : Nat} {I J : pI} (h : wK f n p k I) (g : wM k' I J) (hk : k < k') : wK f n p k J := by
  have s2 := wdN_le (f := f) (n := n) (p := p)
  obtain ⟨h1, h2, h3, h4⟩ := h
  exact ⟨by rw [g.2.1 _ (by omega)]; exact h1, by rw [g.2.1 _ (by omega)]; exact h2, by rw [g.2.2.1 _ (by omega)]; exact h3, fun i hi => by rw [g.2.2.2 _ (by omega)]; exact h4 i hi⟩
theorem m_rdB {q : pQ} {ρ : pP} {L : pL} {I : pI} {f : Nat → Nat} {n p k : Nat} (hk : k < 10) (hpn : p ≤ 80) (h : RdM ρ I f n) (g1 : 48 ≤ sg f n p ∧ sg f n p < 58) : f_X11_readWord 5000 129 (nI k) (hp q ρ L (mp I p (-nI 1))) = f_X11_readWord_L66 5000 129 (nI k) 5000 (hp q ρ L (mp (j_up (j_up (j_up I 139 (2 * k) (nI (wdA f n p))) 139 (2 * k + 1) (wdB f n p)) 138 k (nI 0)) (wdS f n p) (-nI 1))) := by
  have t1 := m_oneOf (q := q) (L := L) (a := 48) (m := 10) (p := p) h (by omega) (by omega) (by omega)
  rw [if_pos (by omega)] at t1
  have ta : nI (sg f n p - 48) = nI (wdA f n p) := rfl
  rw [ta] at t1
  have h' : RdM ρ (j_up I 139 (2 * k) (nI (wdA f n p))) f n := RdM_wM h (wM_9 (Nat.le_refl _))
  have fi := m_fine (q := q) (ρ := ρ) (L := L) (I := j_up I 139 (2 * k) (nI (wdA f n p))) (p := p + 1)
  have he := m_here (q := q) (L := L) (p := p + 1) (w := -nI 1) h' (by omega)
  have hl := m_hl (p := p + 1) (a := 48) (b := 57) h' (by omega) (by omega) (hp q ρ L (mp (j_up I 139 (2 * k) (nI (wdA f n p))) (p + 1) (-nI 1)))
  by_cases g2 : 48 ≤ sg f n (p + 1) ∧ sg f n (p + 1) < 58
  · have i1 := sg_in (f := f) (n := n) (p := p + 1) (by omega)
    rw [if_pos i1] at he hl
    rw [if_pos (by omega)] at hl
    have t2 := m_oneOf (q := q) (L := L) (a := 48) (m := 10) (p := p + 1) h' (by omega) (by omega) (by omega)
    rw [if_pos (by omega)] at t2
    have eb : wdB f n p = nI (sg f n (p + 1) - 48) := if_pos g2
    have es : wdS f n p = p + 2 := if_pos g2
    rw [← eb] at t2
    rw [es, f_X11_readWord]
    simp (disch := first | omega | assumption) only [↓bM, ↓bMA, ↓jn_, ↓ob_, ↓b2_, ↓reduceIte, nn_lt, nn_le, nn_eq, nI_add, pk_mul, nn_su, gn_lt, gn_le, ng_lt, ng_le, ng_eq, gn_eq, gg_eq, n_m1, n_cl, if_true, if_false, if_pos, if_neg, lt0, ↓b2e t1, mp_co, ↓b2e fi, ↓b2e he, ↓b2e hl, ↓b2e t2]
  · have hl' : ∀ v, (if p + 1 < n then nI (sg f n (p + 1)) else -nI 1) = v → f_X11_in 5000 v (nI 48) (nI 57) (hp q ρ L (mp (j_up I 139 (2 * k) (nI (wdA f n p))) (p + 1) (-nI 1))) = some (nI 0, hp q ρ L (mp (j_up I 139 (2 * k) (nI (wdA f n p))) (p + 1) (-nI 1))) := fun v hv => by
      rw [← hv, hl, show (if 48 ≤ sg f n (p + 1) ∧ sg f n (p + 1) ≤ 57 then nI 1 else nI 0) = nI 0 from if_neg (by omega)]
    obtain ⟨v, hv⟩ : ∃ v, (if p + 1 < n then nI (sg f n (p + 1)) else -nI 1) = v := ⟨_, rfl⟩
    have hl := hl' v hv
    rw [hv] at he
    have eb : wdB f n p = -nI 1 := if_neg g2
    have es : wdS f n p = p + 1 := if_neg g2
    rw [es, eb, f_X11_readWord]
    simp (disch := first | omega | assumption) only [↓bM, ↓bMA, ↓jn_, ↓ob_, ↓b2_, ↓reduceIte, nn_lt, nn_le, nn_eq, nI_add, pk_mul, nn_su, gn_lt, gn_le, ng_lt, ng_le, ng_eq, gn_eq, gg_eq, n_m1, n_cl, if_true, if_false, if_pos, if_neg, lt0, ↓b2e t1, mp_co, ↓b2e fi, ↓b2e he, ↓b2e hl]
theorem m_rdW {q : pQ} {ρ : pP} {L : pL} {I : pI} {f : Nat → Nat} {n p k : Nat} (hk : k < 10) (hpn : p ≤ n) (hn : n ≤ 76) (h : RdM ρ I f n) : ∃ J p' w, f_X11_readWord 5000 129 (nI k) (hp q ρ L (mp I p (-nI 1))) = some (hp q ρ L (mp J p' w)) ∧ wM k I J ∧ p' ≤ 200 ∧ ((wrd f n p).1 = true → p' = (wrd f n p).2 ∧ w = -nI 1 ∧ wK f n p k J) ∧ ((wrd f n p).1 = false → w = nI (wrd f n p).2) := by
  by_cases g1 : 48 ≤ sg f n p ∧ sg f n p < 58
  · have s1 := wdS_n g1
    have s2 := wdN_le (f := f) (n := n) (p := p)
    have mB := m_rdB (q := q) (L := L) hk (by omega) h g1
    obtain ⟨Z, hZ⟩ : ∃ Z, Z = j_up (j_up (j_up I 139 (2 * k) (nI (wdA f n p))) 139 (2 * k + 1) (wdB f n p)) 138 k (nI 0) := ⟨_, rfl⟩
    obtain ⟨s, hs⟩ : ∃ s, s = wdS f n p := ⟨_, rfl⟩
    have fZ : wM k I Z := by rw [hZ]; exact wM.tr (wM.tr (wM_9 (Nat.le_refl _)) (wM_9 (by omega))) (wM_N (wN.rf.u8))
    have hRZ := RdM_wM h fZ
    have z0 : Z 138 k = nI 0 := by rw [hZ, up_eq]
    have z9 : Z 139 (2 * k) = nI (wdA f n p) ∧ Z 139 (2 * k + 1) = wdB f n p := by
      rw [hZ]
      exact ⟨by rw [up_ne (by omega), up_nk (by omega), up_eq], by rw [up_ne (by omega), up_eq]⟩
    rw [← hZ, ← hs] at mB
    rw [← hs] at s1 s2
    rw [mB]
    have fi := m_fine (q := q) (ρ := ρ) (L := L) (I := Z) (p := s)
    have oo := m_oneOf (q := q) (L := L) (a := 97) (m := 26) (p := s) hRZ (by omega) (by omega) (by omega)
    by_cases g : 97 ≤ sg f n s ∧ sg f n s < 123
    · rw [if_pos (by omega)] at oo
      have i1 := sg_in (f := f) (n := n) (p := s) (by omega)
      have el : ltr f n 6 s = ltr f n 5 (s + 1) := by rw [ltr, if_pos g]
      have ll := ltr_le (f := f) (n := n) 5 (s + 1)
      have w1 : wN k Z (j_up (j_up Z 137 (6 * k) (nI (sg f n s - 97))) 138 k (nI 1)) := (wN.rf.u7 (by omega)).u8
      obtain ⟨J', p', w, e1, e2, e3, e4, e5⟩ := m_lt (q := q) (ρ := ρ) (L := L) (f := f) (n := n) (s := s) hk (by omega) 5 1 4999 (j_up (j_up Z 137 (6 * k) (nI (sg f n s - 97))) 138 k (nI 1)) (by omega) (by omega) (by omega) (RdM_wN hRZ w1) up_eq
      rw [← el] at e4 e5
      have w2 := wN.tr w1 e2
      refine ⟨J', p', w, ?_, wM.tr fZ (wM_N w2), e3, fun ht => ?_, fun hf => ?_⟩
      · rw [f_X11_readWord_L66]
        simp (disch := first | omega | assumption) only [↓bM, ↓bMA, ↓jn_, ↓ob_, ↓b2_, ↓reduceIte, nn_lt, nn_le, nn_eq, nI_add, pk_mul, nn_su, gn_lt, gn_le, ng_lt, ng_le, ng_eq, gn_eq, gg_eq, n_m1, n_cl, if_true, if_false, if_pos, if_neg, lt0, ↓b2e fi, mp_ne, z0, ↓b2e oo, t8_s, mp_co, up_ne]
        exact e1
      · have hn7 : ¬ (ltr f n 6 s = s + 6 ∧ 97 ≤ sg f n (s + 6) ∧ sg f n (s + 6) < 123) := fun h7 => by
          unfold wrd at ht
          rw [if_pos g1, if_neg (by omega), if_pos (by rw [← hs]; omega)] at ht
          cases ht
        have er : wrd f n p = (true, s + wdN f n p) := by
          unfold wrd
          rw [if_pos g1, if_neg (by omega), if_neg (by rw [← hs]; omega), ← hs]
        obtain ⟨a1, a2, a3, a4, a5⟩ := e5 hn7
        rw [er]
        refine ⟨by rw [a1]; exact s2.2, a2, ?_, ?_, by rw [a3, s2.2, Nat.add_sub_cancel_left], fun i hi => ?_⟩
        · rw [w2.1 139 (by omega) (by omega)]
          exact z9.1
        · rw [w2.1 139 (by omega) (by omega)]
          exact z9.2
        · unfold wdL
          rw [← hs]
          by_cases e : i = 0
          · subst e
            rw [a5 0 (by omega), up_ne (by omega), Nat.add_zero, up_eq, Nat.add_zero]
          · exact a4 i (by omega) (by omega)
      · have h7 : ltr f n 6 s = s + 6 ∧ 97 ≤ sg f n (s + 6) ∧ sg f n (s + 6) < 123 := by
          refine Classical.byContradiction (fun h7 => ?_)
          unfold wrd at hf
          rw [if_pos g1, if_neg (by omega), if_neg (by rw [← hs]; omega)] at hf
          cases hf
        have er : wrd f n p = (false, s + 6) := by
          unfold wrd
          rw [if_pos g1, if_neg (by omega), if_pos (by rw [← hs]; omega), ← hs]
        rw [er]
        exact e4 h7
    · rw [if_neg (by omega)] at oo
      have el : ltr f n 6 s = s := by rw [ltr, if_neg g]
      have hN : wdN f n p = 0 := by omega
      have er : wrd f n p = (false, s) := by unfold wrd; rw [if_pos g1, if_pos hN, ← hs]
      have dd := m_ltD (q := q) (ρ := ρ) (L := L) (I := j_up (j_up Z 137 (6 * k) (nI 0)) 138 k (nI 1)) (k := k) (p := s) (x := s) (N := 4998) (by omega)
      rw [er]
      refine ⟨j_up (j_up Z 137 (6 * k) (nI 0)) 138 k (nI 1), s, nI s, ?_, wM.tr fZ (wM_N ((wN.rf.u7 (by omega)).u8)), by omega, fun h => (by cases h), fun _ => rfl⟩
      rw [f_X11_readWord_L66]
      simp (disch := first | omega | assumption) only [↓bM, ↓bMA, ↓jn_, ↓ob_, ↓b2_, ↓reduceIte, nn_lt, nn_le, nn_eq, nI_add, pk_mul, nn_su, gn_lt, gn_le, ng_lt, ng_le, ng_eq, gn_eq, gg_eq, n_m1, n_cl, if_true, if_false, if_pos, if_neg, lt0, ↓b2e fi, mp_ne, z0, ↓b2e oo, t8_s, mp_co, up_ne]
      exact dd
  · have er : wrd f n p = (false, p) := by unfold wrd; rw [if_neg g1]
    have t1 := m_oneOf (q := q) (L := L) (a := 48) (m := 10) (p := p) h (by omega) (by omega) (by omega)
    rw [if_neg (by omega)] at t1
    have fi := m_dead (q := q) (ρ := ρ) (L := L) (I := j_up I 139 (2 * k) (nI 0)) (p := p) (x := p) (by omega)
    have dd := m_ltD (q := q) (ρ := ρ) (L := L) (I := j_up (j_up (j_up I 139 (2 * k) (nI 0)) 139 (2 * k + 1) (-nI 1)) 138 k (nI 0)) (k := k) (p := p) (x := p) (N := 4999) (by omega)
    rw [er]
    refine ⟨j_up (j_up (j_up I 139 (2 * k) (nI 0)) 139 (2 * k + 1) (-nI 1)) 138 k (nI 0), p, nI p, ?_, wM.tr (wM.tr (wM_9 (Nat.le_refl _)) (wM_9 (by omega))) (wM_N (wN.rf.u8)), by omega, fun h => (by cases h), fun _ => rfl⟩
    rw [f_X11_readWord]
    simp (disch := first | omega | assumption) only [↓bM, ↓bMA, ↓jn_, ↓ob_, ↓b2_, ↓reduceIte, nn_lt, nn_le, nn_eq, nI_add, pk_mul, nn_su, gn_lt, gn_le, ng_lt, ng_le, ng_eq, gn_eq, gg_eq, n_m1, n_cl, if_true, if_false, if_pos, if_neg, lt0, ↓b2e t1, mp_co, ↓b2e fi]
    exact dd
def wdM (I : pI) (ρ : pP) (f : Nat → Nat) (n T : Nat) (k : Nat) (J : pI) : Prop := RdM ρ J f n ∧ J 129 15 = nI T ∧ (∀ j, j < k → wK f n (lnP (wrd f n) j) j J) ∧ ∀ b, b ≠ 137 → b ≠ 138 → b ≠ 139 → J b = I b
def wvB (x1 : Int32) (h4 : jH) (cont : jH → Option (Int32 × jH)) : Option (Int32 × jH) :=
        (jg_I 11 2 h4 129).bind (fun v6 =>
          if (v6 + x1) = nI 10 then
            (jg_I 11 17 h4 129).bind (fun v10 =>
            (f_X11_fault 5000 129 v10 h4).bind (fun h11 =>
            cont h11))
          else
            (f_X11_readWord 5000 129 x1 h4).bind (fun h12 =>
            cont h12))
theorem wvB_lp {ks : Int32 → jH → Option (Int32 × jH)} : ∀ m x1 x2 h, f_X11_words_L24 5000 129 (mKK ks) (m + 1) x1 x2 h = if x2 = nI 0 then mKK ks x1 h else j_b2 (f_X11_fine 5000 129 h) (fun v5 h4 => if v5 = nI 0 then mKK ks x1 h4 else wvB x1 h4 (fun h7 => j_b2 (f_X11_passes 5000 129 (nI 59) h7) (fun v9 h8 => f_X11_words_L24 5000 129 (mKK ks) m (x1 + nI 1) v9 h8))) := by
  intro m x1 x2 h
  rw [f_X11_words_L24]
  simp only [lt0, jn_]
  rfl
theorem m_wdB {q : pQ} {ρ : pP} {L : pL} {I : pI} {I0 : pI} {f : Nat → Nat} {n T W k : Nat} (h2 : I0 129 2 = nI W) (hk : W + k < 10) (h : wdM I0 ρ f n T k I) (hn : lnP (wrd f n) k ≤ n) (hn80 : n ≤ 76) : ∃ J' p' w, (∀ kk, wvB (nI k) (hp q ρ L (mp I (lnP (wrd f n) k) (-nI 1))) kk = kk (hp q ρ L (mp J' p' w))) ∧ wdM I0 ρ f n T k J' ∧ p' ≤ 200 ∧ ((wrd f n (lnP (wrd f n) k)).1 = true → p' = (wrd f n (lnP (wrd f n) k)).2 ∧ w = -nI 1 ∧ wdM I0 ρ f n T (k + 1) J') ∧ ((wrd f n (lnP (wrd f n) k)).1 = false → w = nI (wrd f n (lnP (wrd f n) k)).2) := by
  obtain ⟨h1, h3, h4, h5⟩ := h
  have e2 : I 129 2 = nI W := by rw [h5 129 (by omega) (by omega) (by omega)]; exact h2
  obtain ⟨J, p', w, a1, a2, a3, a4, a5⟩ := m_rdW (q := q) (L := L) (k := k) (by omega) hn hn80 h1
  have b1 := RdM_wM h1 a2
  have b2 : J 129 15 = nI T := by rw [a2.1 129 (by omega) (by omega) (by omega)]; exact h3
  have b3 : ∀ j, j < k → wK f n (lnP (wrd f n) j) j J := fun j hj => wK_k (h4 j hj) a2 hj
  have b4 : ∀ b, b ≠ 137 → b ≠ 138 → b ≠ 139 → J b = I0 b := fun b c1 c2 c3 => (a2.1 b c1 c2 c3).trans (h5 b c1 c2 c3)
  refine ⟨J, p', w, fun kk => ?_, ⟨b1, b2, b3, b4⟩, a3, fun ht => ?_, a5⟩
  · simp (disch := first | omega | assumption) only [wvB, ↓bM, ↓bMA, ↓jn_, ↓ob_, ↓b2_, ↓reduceIte, nn_lt, nn_le, nn_eq, nI_add, pk_mul, nn_su, gn_lt, gn_le, ng_lt, ng_le, ng_eq, gn_eq, gg_eq, n_m1, n_cl, if_true, if_false, if_pos, if_neg, lt0, mp_nk, e2, ↓oe a1]
  · obtain ⟨c1, c2, c3⟩ := a4 ht
    refine ⟨c1, c2, b1, b2, fun j hj => ?_, b4⟩
    by_cases e : j = k
    · subst e
      exact c3
    · exact b3 j (by omega)
theorem m_wdC {q : pQ} {ρ : pP} {L : pL} {I : pI} {I0 : pI} {f : Nat → Nat} {n T W cap : Nat} (h2 : I0 129 2 = nI W) (hk : W + cap = 10) (h : wdM I0 ρ f n T cap I) (hn : lnP (wrd f n) cap ≤ n) (hn80 : n ≤ 80) (kk : jH → Option (Int32 × jH)) : wvB (nI cap) (hp q ρ L (mp I (lnP (wrd f n) cap) (-nI 1))) kk = kk (hp q ρ L (mp I (lnP (wrd f n) cap) (nI (lnP (wrd f n) cap)))) := by
  have e2 : I 129 2 = nI W := by rw [h.2.2.2 129 (by omega) (by omega) (by omega)]; exact h2
  simp (disch := first | omega | assumption) only [wvB, ↓bM, ↓bMA, ↓jn_, ↓ob_, ↓b2_, ↓reduceIte, nn_lt, nn_le, nn_eq, nI_add, pk_mul, nn_su, gn_lt, gn_le, ng_lt, ng_le, ng_eq, gn_eq, gg_eq, n_m1, n_cl, if_true, if_false, if_pos, if_neg, lt0, mp_nk, mp_at, e2, hk, ↓oe (m_fault (q := q) (ρ := ρ) (L := L) (I := I) (p := lnP (wrd f n) cap) (x := lnP (wrd f n) cap))]
