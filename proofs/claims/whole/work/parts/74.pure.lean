/-! WORDS: the class reads one -/
def wF (w : Nat) (I J : pI) : Prop := ∀ b c, ((b < 6 ∨ 11 < b) ∨ ((b = 6 ∨ b = 7 ∨ b = 8 ∨ b = 11) ∧ c < w) ∨ (b = 9 ∧ c < w * 6) ∨ (b = 10 ∧ c < w * 5)) → J b c = I b c
theorem wF.tr {w : Nat} {I J K : pI} (h : wF w I J) (g : wF w J K) : wF w I K := fun b c e => (g b c e).trans (h b c e)
theorem wF.mo {w w' : Nat} {I J : pI} (h : wF w I J) (hw : w' ≤ w) : wF w' I J := fun b c e => h b c (by omega)
theorem wF.row {w : Nat} {I J : pI} (h : wF w I J) (b : Nat) (hb : b < 6 ∨ 11 < b) : J b = I b := funext (fun c => h b c (.inl hb))
theorem wF_up {w b c : Nat} {I : pI} {x : Int32} (h : ((b = 6 ∨ b = 7 ∨ b = 8 ∨ b = 11) ∧ w ≤ c) ∨ (b = 9 ∧ w * 6 ≤ c) ∨ (b = 10 ∧ w * 5 ≤ c)) : wF w I (j_up I b c x) := fun b' c' e => by
  by_cases h1 : b' = b
  · by_cases h2 : c' = c
    · exfalso
      omega
    · rw [up_nk h2]
  · rw [up_ne h1]
theorem x_cvL {q : pQ} {ρ : pP} {L : pL} {I : pI} {w N : Nat} {l : Nat → Nat} (hw : w < 10) (hN : N ≤ 6) (hl : ∀ i, i < N → l i < 26) (h6 : I 6 w = nI N) (h9 : ∀ i, i < N → I 9 (w * 6 + i) = nI (97 + l i)) : ∃ J, f_X3_countVowels 5000 5 (nI w) (hp q ρ L I) = some (hp q ρ L J) ∧ J 11 w = nI (vws l N) ∧ (∀ v, v < 5 → J 10 (w * 5 + v) = nI (oft l N v)) ∧ (∀ b, b ≠ 10 → b ≠ 11 → J b = I b) ∧ wF w I J := by
  obtain ⟨K, k1, k2, k3, k4⟩ := loE (fun m (z : pI) j => f_X3_countVowels_L9 5000 5 (nI w) (fun (h5 : jH) => f_X3_countVowels_L33 5000 5 (nI w) 5000 (nI 0) h5) m (nI j) (hp q ρ L z)) (fun z => f_X3_countVowels_L33 5000 5 (nI w) 5000 (nI 0) (hp q ρ L z)) 5 (fun j z => (∀ v, v < j → z 10 (w * 5 + v) = nI 0) ∧ (∀ b, b ≠ 10 → z b = j_up I 11 w (nI 0) b) ∧ wF w (j_up I 11 w (nI 0)) z) (by
    intro m z p
    rw [f_X3_countVowels_L9]
    simp (disch := first | omega | assumption) only [↓bX, ↓bXA, ↓jn_, ↓ob_, ↓b2_, ↓reduceIte, nn_lt, nn_le, nn_eq, nI_add, pk_mul, nn_su, gn_lt, gn_le, ng_lt, ng_le, ng_eq, gn_eq, gg_eq, n_m1, n_cl, if_true, if_false, if_pos, if_neg, lt0]) (by
    rintro m z j hj ⟨p1, p2, p3⟩
    refine ⟨j_up z 10 (w * 5 + j) (nI 0), ?_, fun v hv => ?_, fun b hb => by rw [up_ne hb]; exact p2 b hb, wF.tr p3 (wF_up (by omega))⟩
    · rw [f_X3_countVowels_L9]
      simp (disch := first | omega | assumption) only [↓bX, ↓bXA, ↓jn_, ↓ob_, ↓b2_, ↓reduceIte, nn_lt, nn_le, nn_eq, nI_add, pk_mul, nn_su, gn_lt, gn_le, ng_lt, ng_le, ng_eq, gn_eq, gg_eq, n_m1, n_cl, if_true, if_false, if_pos, if_neg, lt0]
    · by_cases e : v = j
      · rw [e, up_eq]
      · rw [up_nk (by omega)]
        exact p1 v (by omega)) 5 5000 (j_up I 11 w (nI 0)) 0 (by omega) (by omega) ⟨fun v hv => absurd hv (Nat.not_lt_zero v), fun b _ => rfl, fun b c _ => rfl⟩
  obtain ⟨J, e1, e2, e3, e4, e5⟩ := loE (fun m (z : pI) j => f_X3_countVowels_L33 5000 5 (nI w) m (nI j) (hp q ρ L z)) (fun z => some (hp q ρ L z)) N (fun j z => z 11 w = nI (vws l j) ∧ (∀ v, v < 5 → z 10 (w * 5 + v) = nI (oft l j v)) ∧ (∀ b, b ≠ 10 → b ≠ 11 → z b = I b) ∧ wF w I z) (by
    rintro m z ⟨p1, p2, p3, p4⟩
    have z6 : z 6 w = nI N := by rw [p3 6 (by omega) (by omega)]; exact h6
    rw [f_X3_countVowels_L33]
    simp (disch := first | omega | assumption) only [↓bX, ↓bXA, ↓jn_, ↓ob_, ↓b2_, ↓reduceIte, nn_lt, nn_le, nn_eq, nI_add, pk_mul, nn_su, gn_lt, gn_le, ng_lt, ng_le, ng_eq, gn_eq, gg_eq, n_m1, n_cl, if_true, if_false, if_pos, if_neg, lt0, z6]) (by
    rintro m z j hj ⟨p1, p2, p3, p4⟩
    have z6 : z 6 w = nI N := by rw [p3 6 (by omega) (by omega)]; exact h6
    have z9 : z 9 (w * 6 + j) = nI (97 + l j) := by rw [p3 9 (by omega) (by omega)]; exact h9 j hj
    have lt : f_X3_letter 5000 5 (nI w) (nI j) (hp q ρ L z) = some (nI (97 + l j), hp q ρ L z) := by
      simp (disch := first | omega | assumption) only [f_X3_letter, ↓bX, ↓bXA, ↓jn_, ↓ob_, ↓b2_, ↓reduceIte, nn_lt, nn_le, nn_eq, nI_add, pk_mul, nn_su, gn_lt, gn_le, ng_lt, ng_le, ng_eq, gn_eq, gg_eq, n_m1, n_cl, if_true, if_false, if_pos, if_neg, lt0, z9]
    have vo_ := x_vowelOf (l j) (hl j hj) (hp q ρ L z)
    have vle := vws_le (l := l) j
    by_cases g : vo (l j) < 5
    · rw [if_pos g] at vo_
      have z10 := p2 (vo (l j)) g
      have ole := oft_le (l := l) (v := vo (l j)) j
      refine ⟨j_up (j_up z 10 (w * 5 + vo (l j)) (nI (oft l j (vo (l j)) + 1))) 11 w (nI (vws l j + 1)), ?_, by rw [up_eq, vws_s, if_pos g], fun v hv => ?_, fun b b1 b2 => by rw [up_ne b2, up_ne b1]; exact p3 b b1 b2, wF.tr (wF.tr p4 (wF_up (by omega))) (wF_up (by omega))⟩
      · rw [f_X3_countVowels_L33]
        simp (disch := first | omega | assumption) only [↓bX, ↓bXA, ↓jn_, ↓ob_, ↓b2_, ↓reduceIte, nn_lt, nn_le, nn_eq, nI_add, pk_mul, nn_su, gn_lt, gn_le, ng_lt, ng_le, ng_eq, gn_eq, gg_eq, n_m1, n_cl, if_true, if_false, if_pos, if_neg, lt0, z6, ↓b2e lt, ↓b2e vo_, z10, up_ne, p1]
      · rw [up_ne (by omega), oft_s]
        by_cases e : vo (l j) = v
        · subst e
          rw [up_eq, if_pos rfl]
        · rw [up_nk (by omega), if_neg e]
          exact p2 v hv
    · rw [if_neg g] at vo_
      refine ⟨z, ?_, by rw [vws_s, if_neg g]; exact p1, fun v hv => by rw [oft_s, if_neg (by omega)]; exact p2 v hv, p3, p4⟩
      rw [f_X3_countVowels_L33]
      simp (disch := first | omega | assumption) only [↓bX, ↓bXA, ↓jn_, ↓ob_, ↓b2_, ↓reduceIte, nn_lt, nn_le, nn_eq, nI_add, pk_mul, nn_su, gn_lt, gn_le, ng_lt, ng_le, ng_eq, gn_eq, gg_eq, n_m1, n_cl, if_true, if_false, if_pos, if_neg, lt0, z6, ↓b2e lt, ↓b2e vo_]) N 5000 K 0 (by omega) (by omega) ⟨by rw [k3 11 (by omega), up_eq]; rfl, k2, fun b b1 b2 => by rw [k3 b b1, up_ne b2], wF.tr (wF_up (by omega)) k4⟩
  refine ⟨J, ?_, e2, e3, e4, e5⟩
  simp (disch := first | omega | assumption) only [f_X3_countVowels, ↓bX, ↓bXA, ↓ob_, lt0]
  exact k1.trans e1
def wdS (f : Nat → Nat) (n p : Nat) : Nat := if 48 ≤ sg f n (p + 1) ∧ sg f n (p + 1) < 58 then p + 2 else p + 1
def wdN (f : Nat → Nat) (n p : Nat) : Nat := ltr f n 6 (wdS f n p) - wdS f n p
def wdA (f : Nat → Nat) (n p : Nat) : Nat := sg f n p - 48
def wdB (f : Nat → Nat) (n p : Nat) : Int32 := if 48 ≤ sg f n (p + 1) ∧ sg f n (p + 1) < 58 then nI (sg f n (p + 1) - 48) else -nI 1
def wdL (f : Nat → Nat) (n p i : Nat) : Nat := sg f n (wdS f n p + i) - 97
def wrd (f : Nat → Nat) (n p : Nat) : Bool × Nat := if 48 ≤ sg f n p ∧ sg f n p < 58 then (if wdN f n p = 0 then (false, wdS f n p) else if wdN f n p = 6 ∧ 97 ≤ sg f n (wdS f n p + 6) ∧ sg f n (wdS f n p + 6) < 123 then (false, wdS f n p + 6) else (true, wdS f n p + wdN f n p)) else (false, p)
theorem wdS_n {f : Nat → Nat} {n p : Nat} (h : 48 ≤ sg f n p ∧ sg f n p < 58) : wdS f n p ≤ n ∧ wdS f n p ≤ p + 2 ∧ p + 1 ≤ wdS f n p := by
  have i1 := sg_in (f := f) (n := n) (p := p) (by omega)
  unfold wdS
  split
  · have i2 := sg_in (f := f) (n := n) (p := p + 1) (by omega)
    omega
  · omega
theorem wdN_le {f : Nat → Nat} {n p : Nat} : wdN f n p ≤ 6 ∧ ltr f n 6 (wdS f n p) = wdS f n p + wdN f n p := by
  have := ltr_le (f := f) (n := n) 6 (wdS f n p)
  unfold wdN
  omega
theorem wdL_lt {f : Nat → Nat} {n p i : Nat} (h : i < wdN f n p) : 97 ≤ sg f n (wdS f n p + i) ∧ sg f n (wdS f n p + i) < 123 := ltr_in 6 (wdS f n p) (wdS f n p + i) (by omega) (by have := (wdN_le (f := f) (n := n) (p := p)).2; omega)
theorem wrd_le {f : Nat → Nat} {n p : Nat} (h : p ≤ n) : (wrd f n p).2 ≤ n := by
  unfold wrd
  split
  · rename_i g
    have s1 := wdS_n g
    have s2 := wdN_le (f := f) (n := n) (p := p)
    have s3 := ltr_n (f := f) (n := n) 6 (wdS f n p) s1.1
    split
    · exact s1.1
    · split
      · simp only []; omega
      · simp only []; omega
  · exact h
theorem wrd_t {f : Nat → Nat} {n p : Nat} (h : (wrd f n p).1 = true) : (1 ≤ wdN f n p ∧ wdN f n p ≤ 6) ∧ (∀ i, i < wdN f n p → wdL f n p i < 26) ∧ wdA f n p ≤ 9 ∧ (wdB f n p = -nI 1 ∨ ∃ m, m ≤ 9 ∧ wdB f n p = nI m) := by
  have s2 := wdN_le (f := f) (n := n) (p := p)
  unfold wrd at h
  split at h
  · split at h
    · cases h
    · refine ⟨⟨by omega, s2.1⟩, fun i hi => ?_, by unfold wdA; omega, ?_⟩
      · have := wdL_lt hi
        unfold wdL
        omega
      · unfold wdB
        split
        · exact .inr ⟨_, by omega, rfl⟩
        · exact .inl rfl
  · cases h
def wC (f : Nat → Nat) (n p w : Nat) (J : pI) : Prop := (J 6 w = nI (wdN f n p) ∧ J 7 w = nI (wdA f n p) ∧ J 8 w = wdB f n p ∧ J 11 w = nI (vws (wdL f n p) (wdN f n p))) ∧ (∀ k, k < wdN f n p → J 9 (w * 6 + k) = nI (97 + wdL f n p k)) ∧ (∀ v, v < 5 → J 10 (w * 5 + v) = nI (oft (wdL f n p) (wdN f n p) v))
theorem wC_k {f : Nat → Nat} {n p w w' : Nat} {I J : pI} (h : wC f n p w I) (g : wF w' I J) (hw : w < w') : wC f n p w J := by
  have s2 := wdN_le (f := f) (n := n) (p := p)
  obtain ⟨⟨h1, h2, h3, h4⟩, h5, h6⟩ := h
  exact ⟨⟨by rw [g 6 w (by omega)]; exact h1, by rw [g 7 w (by omega)]; exact h2, by rw [g 8 w (by omega)]; exact h3, by rw [g 11 w (by omega)]; exact h4⟩, fun k hk => by rw [g 9 _ (by omega)]; exact h5 k hk, fun v hv => by rw [g 10 _ (by omega)]; exact h6 v hv⟩
theorem ap_mk {K Z : pI} {e : Nat} (hK : K 1 = ap Z e 1) : ap (fun b => if b = 1 then Z 1 else K b) e = K := by
  funext b c
  by_cases hb : b = 1
  · subst hb
    rw [hK]
    by_cases hc : c = 2
    · subst hc
      rw [ap_at, ap_at]
    · rw [ap_nk hc, ap_nk hc]
      rfl
  · rw [ap_ne hb]
    exact congrFun (if_neg hb) c
theorem x_rdW {q : pQ} {ρ : pP} {L : pL} {I : pI} {f : Nat → Nat} {n p w : Nat} (hw : w < 10) (hR : Rd I f n) (hpn : p ≤ n) : ∃ J bb, f_X3_readWord 5000 5 1 (nI w) (hp q ρ L (ap I p)) = some (bo bb, hp q ρ L (ap J (wrd f n p).2)) ∧ ((wrd f n p).1 = true → wC f n p w J) ∧ wF w I J ∧ (bb = (wrd f n p).1 ∨ (bb = true ∧ (wrd f n p).1 = false ∧ (97 ≤ sg f n (wrd f n p).2 ∧ sg f n (wrd f n p).2 < 123))) := by
  have t1 := x_takeFrom (q := q) (ρ := ρ) (L := L) (a := 48) (m := 10) hR hpn (by omega)
  by_cases g1 : 48 ≤ sg f n p ∧ sg f n p < 58
  · rw [if_pos g1] at t1
    have i1 := sg_in (f := f) (n := n) (p := p) (by omega)
    have s1 := wdS_n g1
    have s2 := wdN_le (f := f) (n := n) (p := p)
    have hR1 : Rd (j_up I 7 w (nI (wdA f n p))) f n := Rd_k hR (by rw [up_ne (by omega)]) (by rw [up_ne (by omega)])
    have t2 := x_takeFrom (q := q) (ρ := ρ) (L := L) (a := 48) (m := 10) (p := p + 1) hR1 (by omega) (by omega)
    have t2' : f_X9_takeFrom 5000 1 (nI 48) (nI 10) (hp q ρ L (ap (j_up I 7 w (nI (wdA f n p))) (p + 1))) = some (wdB f n p, hp q ρ L (ap (j_up I 7 w (nI (wdA f n p))) (wdS f n p))) := by
      rw [t2]
      unfold wdB wdS
      by_cases g2 : 48 ≤ sg f n (p + 1) ∧ sg f n (p + 1) < 58
      · rw [if_pos g2, if_pos g2, if_pos g2]
      · rw [if_neg g2, if_neg g2, if_neg g2]
    have ta : nI (sg f n p - 48) = nI (wdA f n p) := rfl
    rw [ta] at t1
    have ab : wdA f n p < 10 := by unfold wdA; omega
    obtain ⟨J, e1, e2, e3⟩ := x_ltL (q := q) (ρ := ρ) (L := L) (f := f) (n := n) hw (kk := fun (y17 : Int32) (h18 : jH) =>
        (jg_R 3 1 h18 5).bind (fun v19 =>
        (jb_I 100 h18 v19 (nI w) y17).bind (fun h20 =>
        (f_X3_countVowels 5000 5 (nI w) h20).bind (fun h21 =>
        if y17 ≤ nI 0 then
          some (nI 0, h21)
        else
          some (nI 1, h21))))) 6 0 (wdS f n p) 5000 (j_up (j_up I 7 w (nI (wdA f n p))) 8 w (wdB f n p)) (by omega) (by omega) (Rd_k hR1 (by rw [up_ne (by omega)]) (by rw [up_ne (by omega)])) s1.1
    rw [Nat.zero_add, s2.2, Nat.add_sub_cancel_left] at e1
    rw [s2.2, Nat.add_sub_cancel_left] at e2
    have f1 : wF w I J := wF.tr (wF.tr (wF_up (.inl ⟨by omega, Nat.le_refl w⟩)) (wF_up (.inl ⟨by omega, Nat.le_refl w⟩))) (fun b c h => e3 b c (by omega))
    obtain ⟨K, k1, k2, k3, k4, k5⟩ := x_cvL (q := q) (ρ := ρ) (L := L) (I := ap (j_up J 6 w (nI (wdN f n p))) (wdS f n p + wdN f n p)) (w := w) (N := wdN f n p) (l := wdL f n p) hw s2.1 (fun i hi => by have := wdL_lt hi; unfold wdL; omega) (by rw [ap_ne (by omega), up_eq]) (fun i hi => by
      rw [ap_ne (by omega), up_ne (by omega)]
      have := e2 i hi
      rw [Nat.zero_add] at this
      exact this)
    obtain ⟨Z, hZ⟩ : ∃ Z, Z = j_up J 6 w (nI (wdN f n p)) := ⟨_, rfl⟩
    obtain ⟨e, he⟩ : ∃ e, e = wdS f n p + wdN f n p := ⟨_, rfl⟩
    rw [← hZ, ← he] at k1 k4 k5
    rw [← he] at e1
    obtain ⟨K', hK'⟩ : ∃ K' : pI, K' = fun b => if b = 1 then Z 1 else K b := ⟨_, rfl⟩
    have kap : ap K' e = K := by rw [hK']; exact ap_mk (k4 1 (by omega) (by omega))
    have fZ : wF w I Z := by rw [hZ]; exact wF.tr f1 (wF_up (.inl ⟨by omega, Nat.le_refl w⟩))
    have kb : ∀ b, b ≠ 1 → K' b = K b := fun b hb => by rw [hK']; exact if_neg hb
    have f2 : wF w I K' := fun b c h => by
      by_cases hb : b = 1
      · subst hb
        rw [hK']
        exact fZ 1 c (.inl (by omega))
      · rw [kb b hb, k5 b c h, ap_ne hb]
        exact fZ b c h
    rw [← kap] at k1
    have j7 : J 7 w = nI (wdA f n p) := by rw [e3 7 w (.inl (by omega)), up_ne (by omega), up_eq]
    have j8 : J 8 w = wdB f n p := by rw [e3 8 w (.inl (by omega)), up_eq]
    have hC : wC f n p w K' := by
      refine ⟨⟨?_, ?_, ?_, ?_⟩, fun k hk => ?_, fun v hv => ?_⟩
      · rw [kb 6 (by omega), k4 6 (by omega) (by omega), ap_ne (by omega), hZ, up_eq]
      · rw [kb 7 (by omega), k4 7 (by omega) (by omega), ap_ne (by omega), hZ, up_ne (by omega)]
        exact j7
      · rw [kb 8 (by omega), k4 8 (by omega) (by omega), ap_ne (by omega), hZ, up_ne (by omega)]
        exact j8
      · rw [kb 11 (by omega)]
        exact k2
      · rw [kb 9 (by omega), k4 9 (by omega) (by omega), ap_ne (by omega), hZ, up_ne (by omega)]
        have := e2 k hk
        rw [Nat.zero_add] at this
        exact this
      · rw [kb 10 (by omega)]
        exact k3 v hv
    have main : f_X3_readWord 5000 5 1 (nI w) (hp q ρ L (ap I p)) = some (if wdN f n p = 0 then nI 0 else nI 1, hp q ρ L (ap K' e)) := by
      rw [f_X3_readWord]
      simp (disch := first | omega | assumption) only [↓bX, ↓bXA, ↓ob_, lt0, ↓b2e t1, ap_co, up_eq, nn_le, if_pos, ↓b2e t2']
      rw [e1]
      simp (disch := first | omega | assumption) only [↓bX, ↓bXA, ↓ob_, ap_co, ← hZ, ↓oe k1]
      by_cases h0 : wdN f n p = 0
      · simp (disch := first | omega | assumption) only [nn_le, if_pos, h0, if_true, Nat.le_refl]
      · simp (disch := first | omega | assumption) only [nn_le, if_neg, h0, if_false]
    by_cases h0 : wdN f n p = 0
    · have er : wrd f n p = (false, wdS f n p) := by unfold wrd; rw [if_pos g1, if_pos h0]
      rw [if_pos h0, he, h0, Nat.add_zero] at main
      rw [er]
      exact ⟨K', false, by rw [bo_f]; exact main, fun h => (by cases h), f2, .inl rfl⟩
    · rw [if_neg h0] at main
      by_cases h7 : wdN f n p = 6 ∧ 97 ≤ sg f n (wdS f n p + 6) ∧ sg f n (wdS f n p + 6) < 123
      · have er : wrd f n p = (false, wdS f n p + 6) := by unfold wrd; rw [if_pos g1, if_neg h0, if_pos h7]
        rw [he, h7.1] at main
        rw [er]
        exact ⟨K', true, by rw [bo_t]; exact main, fun h => (by cases h), f2, .inr ⟨rfl, rfl, h7.2⟩⟩
      · have er : wrd f n p = (true, wdS f n p + wdN f n p) := by unfold wrd; rw [if_pos g1, if_neg h0, if_neg h7]
        rw [he] at main
        rw [er]
        exact ⟨K', true, by rw [bo_t]; exact main, fun _ => hC, f2, .inl rfl⟩
  · rw [if_neg g1] at t1
    have er : wrd f n p = (false, p) := by unfold wrd; rw [if_neg g1]
    rw [er]
    refine ⟨j_up I 7 w (-nI 1), false, ?_, fun h => (by cases h), wF_up (.inl ⟨by omega, Nat.le_refl w⟩), .inl rfl⟩
    simp (disch := first | omega | assumption) only [f_X3_readWord, ↓bX, ↓bXA, ↓jn_, ↓ob_, ↓b2_, ↓reduceIte, nn_lt, nn_le, nn_eq, nI_add, pk_mul, nn_su, gn_lt, gn_le, ng_lt, ng_le, ng_eq, gn_eq, gg_eq, n_m1, n_cl, if_true, if_false, if_pos, if_neg, lt0, ap_ne, ↓b2e t1, ap_co, up_eq, bo_f]
def wdX (I : pI) (f : Nat → Nat) (n T W : Nat) (k : Nat) (J : pI) : Prop := Rd J f n ∧ J 1 1 = nI T ∧ (∀ j, j < k → wC f n (lnP (wrd f n) j) (W + j) J) ∧ wF W I J
theorem x_wdL {q : pQ} {ρ : pP} {L : pL} {I : pI} {I0 : pI} {f : Nat → Nat} {n T W k : Nat} (hk : W + k < 10) (hnT : n ≤ T) (h : wdX I0 f n T W k I) (hn : lnP (wrd f n) k ≤ n) : ∃ J bb, f_X10_readLine 5000 0 (nI 0) (nI (W + k)) (hp q ρ L (ap I (lnP (wrd f n) k))) = some (bo bb, hp q ρ L (ap J (wrd f n (lnP (wrd f n) k)).2)) ∧ ((wrd f n (lnP (wrd f n) k)).1 = true → wdX I0 f n T W (k + 1) J) ∧ wdX I0 f n T W k J ∧ (bb = (wrd f n (lnP (wrd f n) k)).1 ∨ (bb = true ∧ (wrd f n (lnP (wrd f n) k)).1 = false ∧ ¬ sg f n (wrd f n (lnP (wrd f n) k)).2 = 59 ∧ ¬ (wrd f n (lnP (wrd f n) k)).2 = T)) := by
  obtain ⟨h1, h2, h3, h4⟩ := h
  obtain ⟨J, bb, e1, e2, e3, e4⟩ := x_rdW (q := q) (ρ := ρ) (L := L) (w := W + k) hk h1 hn
  have a1 : Rd J f n := Rd_k h1 (e3 1 3 (.inl (by omega))) (e3.row 2 (by omega))
  have a2 : J 1 1 = nI T := by rw [e3 1 1 (.inl (by omega))]; exact h2
  have a3 : ∀ j, j < k → wC f n (lnP (wrd f n) j) (W + j) J := fun j hj => wC_k (h3 j hj) e3 (by omega)
  have a4 : wF W I0 J := wF.tr h4 (e3.mo (by omega))
  refine ⟨J, bb, ?_, fun ht => ⟨a1, a2, fun j hj => ?_, a4⟩, ⟨a1, a2, a3, a4⟩, ?_⟩
  · cases bb with
    | true =>
      rw [bo_t] at e1 ⊢
      simp (disch := first | omega | assumption) only [f_X10_readLine, ↓bX, ↓bXA, ↓jn_, ↓ob_, ↓b2_, ↓reduceIte, nn_lt, nn_le, nn_eq, nI_add, pk_mul, nn_su, gn_lt, gn_le, ng_lt, ng_le, ng_eq, gn_eq, gg_eq, n_m1, n_cl, if_true, if_false, if_pos, if_neg, lt0, ↓b2e e1, jrz_1]
    | false =>
      rw [bo_f] at e1 ⊢
      simp (disch := first | omega | assumption) only [f_X10_readLine, ↓bX, ↓bXA, ↓jn_, ↓ob_, ↓b2_, ↓reduceIte, nn_lt, nn_le, nn_eq, nI_add, pk_mul, nn_su, gn_lt, gn_le, ng_lt, ng_le, ng_eq, gn_eq, gg_eq, n_m1, n_cl, if_true, if_false, if_pos, if_neg, lt0, ↓b2e e1, jrz_0]
  · by_cases e : j = k
    · subst e
      exact e2 ht
    · exact a3 j (by omega)
  · rcases e4 with e4 | ⟨b1, b2, b3⟩
    · exact .inl e4
    · refine .inr ⟨b1, b2, by omega, ?_⟩
      have := sg_in (f := f) (n := n) (p := (wrd f n (lnP (wrd f n) k)).2) (by omega)
      omega
