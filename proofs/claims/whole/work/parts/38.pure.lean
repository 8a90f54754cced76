/-! WORDS AND ERRANDS, on both sides -/
def mean (g : gL) (w m : Nat) : Bool := decide (lxA g w = m) || decide (lxB g w = nI m)
theorem x_means {q : pQ} {ρ : pP} {L : pL} {I : pI} {g : gL} {w m : Nat} (hL : XL g I) (hg : WL g) (hw : w < lxW g) (hm : m < 1000) : f_X3_means 5000 5 (nI w) (nI m) (hp q ρ L I) = some (bo (mean g w m), hp q ρ L I) := by
  obtain ⟨⟨h6, h7, h8, h11⟩, h9, h10⟩ := hL.2 w hw
  have hma := (hg.2 w hw).2.2.1
  have hW := hg.1
  unfold mean
  by_cases h1 : lxA g w = m
  · simp (disch := first | omega | assumption) only [f_X3_means, kX, kXA, ob_, b2_, jn_, nn_lt, nn_le, nn_eq, nI_add, pk_mul, nn_su, gn_lt, gn_le, ng_lt, ng_le, ng_eq, gn_eq, gg_eq, n_m1, n_cl, if_true, if_false, if_pos, if_neg, ite_self, lt0, h7, h1, decide_true, Bool.true_or, bo_t]
  · by_cases h2 : lxB g w = nI m
    · simp (disch := first | omega | assumption) only [f_X3_means, kX, kXA, ob_, b2_, jn_, nn_lt, nn_le, nn_eq, nI_add, pk_mul, nn_su, gn_lt, gn_le, ng_lt, ng_le, ng_eq, gn_eq, gg_eq, n_m1, n_cl, if_true, if_false, if_pos, if_neg, ite_self, lt0, h7, h8, h1, h2, decide_true, Bool.or_true, bo_t]
    · simp (disch := first | omega | assumption) only [f_X3_means, kX, kXA, ob_, b2_, jn_, nn_lt, nn_le, nn_eq, nI_add, pk_mul, nn_su, gn_lt, gn_le, ng_lt, ng_le, ng_eq, gn_eq, gg_eq, n_m1, n_cl, if_true, if_false, if_pos, if_neg, ite_self, lt0, h7, h8, h1, h2, decide_false, Bool.or_false, bo_f]
theorem m_means {q : pQ} {ρ : pP} {L : pL} {I : pI} {g : gL} {w m : Nat} (hL : ML g I) (hg : WL g) (hw : w < lxW g) (hm : m < 1000) : f_X11_means 5000 129 (nI w) (nI m) (hp q ρ L I) = some (bo (mean g w m), hp q ρ L I) := by
  obtain ⟨⟨h6, h7, h8⟩, h9⟩ := hL.2 w hw
  have hma := (hg.2 w hw).2.2.1
  have hW := hg.1
  unfold mean
  by_cases h1 : lxA g w = m
  · simp (disch := first | omega | assumption) only [f_X11_means, kM, kMA, ob_, b2_, jn_, nn_lt, nn_le, nn_eq, nI_add, pk_mul, nn_su, gn_lt, gn_le, ng_lt, ng_le, ng_eq, gn_eq, gg_eq, n_m1, n_cl, if_true, if_false, if_pos, if_neg, ite_self, lt0, h7, h1, decide_true, Bool.true_or, bo_t]
  · by_cases h2 : lxB g w = nI m
    · simp (disch := first | omega | assumption) only [f_X11_means, kM, kMA, ob_, b2_, jn_, nn_lt, nn_le, nn_eq, nI_add, pk_mul, nn_su, gn_lt, gn_le, ng_lt, ng_le, ng_eq, gn_eq, gg_eq, n_m1, n_cl, if_true, if_false, if_pos, if_neg, ite_self, lt0, h7, h8, h1, h2, decide_true, Bool.or_true, bo_t]
    · simp (disch := first | omega | assumption) only [f_X11_means, kM, kMA, ob_, b2_, jn_, nn_lt, nn_le, nn_eq, nI_add, pk_mul, nn_su, gn_lt, gn_le, ng_lt, ng_le, ng_eq, gn_eq, gg_eq, n_m1, n_cl, if_true, if_false, if_pos, if_neg, ite_self, lt0, h7, h8, h1, h2, decide_false, Bool.or_false, bo_f]
theorem x_heardIn {q : pQ} {ρ : pP} {L : pL} {I : pI} {g : gL} {w v : Nat} (hL : XL g I) (hg : WL g) (hw : w < lxW g) (hv : v < 5) : f_X3_heardIn 5000 5 (nI w) (nI v) (hp q ρ L I) = some (nI (oft (lxL g w) (lxN g w) v), hp q ρ L I) := by
  obtain ⟨⟨h6, h7, h8, h11⟩, h9, h10⟩ := hL.2 w hw
  have hW := hg.1
  simp (disch := first | omega | assumption) only [f_X3_heardIn, kX, kXA, ob_, b2_, jn_, nn_lt, nn_le, nn_eq, nI_add, pk_mul, nn_su, gn_lt, gn_le, ng_lt, ng_le, ng_eq, gn_eq, gg_eq, n_m1, n_cl, if_true, if_false, if_pos, if_neg, ite_self, lt0, h10]
theorem x_vowelsOf {q : pQ} {ρ : pP} {L : pL} {I : pI} {g : gL} {w : Nat} (hL : XL g I) (hg : WL g) (hw : w < lxW g) : f_X3_vowelsOf 5000 5 (nI w) (hp q ρ L I) = some (nI (vws (lxL g w) (lxN g w)), hp q ρ L I) := by
  obtain ⟨⟨h6, h7, h8, h11⟩, h9, h10⟩ := hL.2 w hw
  have hW := hg.1
  simp (disch := first | omega | assumption) only [f_X3_vowelsOf, kX, kXA, ob_, b2_, jn_, nn_lt, nn_le, nn_eq, nI_add, pk_mul, nn_su, gn_lt, gn_le, ng_lt, ng_le, ng_eq, gn_eq, gg_eq, n_m1, n_cl, if_true, if_false, if_pos, if_neg, ite_self, lt0, h11]
theorem oft_s {l : Nat → Nat} {n v : Nat} : oft l (n + 1) v = if vo (l n) = v then oft l n v + 1 else oft l n v := by
  unfold oft
  rw [fo_last, Nat.zero_add]
theorem vws_s {l : Nat → Nat} {n : Nat} : vws l (n + 1) = if vo (l n) < 5 then vws l n + 1 else vws l n := by
  unfold vws
  rw [fo_last, Nat.zero_add]
theorem oft_le {l : Nat → Nat} {v : Nat} : ∀ n, oft l n v ≤ n
  | 0 => Nat.le_refl 0
  | n + 1 => by
    have := oft_le (l := l) (v := v) n
    rw [oft_s]
    split <;> omega
theorem vws_le {l : Nat → Nat} : ∀ n, vws l n ≤ n
  | 0 => Nat.le_refl 0
  | n + 1 => by
    have := vws_le (l := l) n
    rw [vws_s]
    split <;> omega
theorem vws_sum {l : Nat → Nat} : ∀ n, oft l n 0 + oft l n 1 + oft l n 2 + oft l n 3 + oft l n 4 = vws l n
  | 0 => rfl
  | n + 1 => by
    have ih := vws_sum (l := l) n
    rw [oft_s, oft_s, oft_s, oft_s, oft_s, vws_s]
    have h : vo (l n) = 0 ∨ vo (l n) = 1 ∨ vo (l n) = 2 ∨ vo (l n) = 3 ∨ vo (l n) = 4 ∨ 5 ≤ vo (l n) := by omega
    rcases h with h | h | h | h | h | h
    · simp only [h]; simp (disch := first | omega | assumption) only [if_pos, if_neg, if_true]; omega
    · simp only [h]; simp (disch := first | omega | assumption) only [if_pos, if_neg, if_true]; omega
    · simp only [h]; simp (disch := first | omega | assumption) only [if_pos, if_neg, if_true]; omega
    · simp only [h]; simp (disch := first | omega | assumption) only [if_pos, if_neg, if_true]; omega
    · simp only [h]; simp (disch := first | omega | assumption) only [if_pos, if_neg, if_true]; omega
    · simp (disch := first | omega | assumption) only [if_neg]; omega
theorem m_letter1 {q : pQ} {ρ : pP} {L : pL} {I : pI} {g : gL} {w k : Nat} (hL : ML g I) (hg : WL g) (hw : w < lxW g) (hk : k < lxN g w) : f_X11_letter 5000 129 (nI w) (nI k) (hp q ρ L I) = some (nI (lxL g w k), hp q ρ L I) := by
  obtain ⟨⟨h6, h7, h8⟩, h9⟩ := hL.2 w hw
  obtain ⟨⟨n1, n6⟩, hl, hma, hmb⟩ := hg.2 w hw
  have hW := hg.1
  simp (disch := first | omega | assumption) only [f_X11_letter, kM, kMA, ob_, b2_, jn_, nn_lt, nn_le, nn_eq, nI_add, pk_mul, nn_su, gn_lt, gn_le, ng_lt, ng_le, ng_eq, gn_eq, gg_eq, n_m1, n_cl, if_true, if_false, if_pos, if_neg, ite_self, lt0, h9]
theorem m_often {q : pQ} {ρ : pP} {L : pL} {I : pI} {g : gL} {w v : Nat} (hL : ML g I) (hg : WL g) (hw : w < lxW g) (hv : v < 5) : f_X11_often 5000 129 (nI w) (nI v) (hp q ρ L I) = some (nI (oft (lxL g w) (lxN g w) v), hp q ρ L I) := by
  obtain ⟨⟨h6, h7, h8⟩, h9⟩ := hL.2 w hw
  obtain ⟨⟨n1, n6⟩, hl, hma, hmb⟩ := hg.2 w hw
  have hW := hg.1
  simp only [f_X11_often, kM, lt0]
  refine lo (fun n (s : Nat) j => f_X11_often_L5 5000 129 (nI w) (nI v) n (nI s) (nI j) (hp q ρ L I)) (fun k a => if vo (lxL g w k) = v then a + 1 else a) (fun s => some (nI s, hp q ρ L I)) (lxN g w) ?_ ?_ (lxN g w) 5000 0 0 (by omega) (by omega)
  · intro n s
    rw [f_X11_often_L5]
    simp (disch := first | omega | assumption) only [↓bM, ↓bMA, ↓jn_, ↓ob_, ↓b2_, ↓reduceIte, nn_lt, nn_le, nn_eq, nI_add, pk_mul, nn_su, gn_lt, gn_le, ng_lt, ng_le, ng_eq, gn_eq, gg_eq, n_m1, n_cl, if_true, if_false, if_pos, if_neg, lt0, h6, Nat.le_refl]
  · intro n s j hj
    have hlj := hl j hj
    rw [f_X11_often_L5]
    by_cases h : vo (lxL g w j) < 5
    · have mv : ∀ h : jH, f_X11_vowelOf 5000 (nI (lxL g w j)) h = some (nI (vo (lxL g w j)), h) := by
        intro h'
        rw [m_vowelOf _ hlj, if_pos h]
      by_cases h2 : vo (lxL g w j) = v
      · simp (disch := first | omega | assumption) only [↓bM, ↓bMA, ↓jn_, ↓ob_, ↓b2_, ↓reduceIte, nn_lt, nn_le, nn_eq, nI_add, pk_mul, nn_su, gn_lt, gn_le, ng_lt, ng_le, ng_eq, gn_eq, gg_eq, n_m1, n_cl, if_true, if_false, if_pos, if_neg, lt0, h6, ↓b2e (m_letter1 hL hg hw hj), ↓b2e (mv _)]
      · simp (disch := first | omega | assumption) only [↓bM, ↓bMA, ↓jn_, ↓ob_, ↓b2_, ↓reduceIte, nn_lt, nn_le, nn_eq, nI_add, pk_mul, nn_su, gn_lt, gn_le, ng_lt, ng_le, ng_eq, gn_eq, gg_eq, n_m1, n_cl, if_true, if_false, if_pos, if_neg, lt0, h6, ↓b2e (m_letter1 hL hg hw hj), ↓b2e (mv _), Nat.add_zero]
    · have mv : ∀ h : jH, f_X11_vowelOf 5000 (nI (lxL g w j)) h = some (-nI 1, h) := by
        intro h'
        rw [m_vowelOf _ hlj, if_neg h]
      simp (disch := first | omega | assumption) only [↓bM, ↓bMA, ↓jn_, ↓ob_, ↓b2_, ↓reduceIte, nn_lt, nn_le, nn_eq, nI_add, pk_mul, nn_su, gn_lt, gn_le, ng_lt, ng_le, ng_eq, gn_eq, gg_eq, n_m1, n_cl, if_true, if_false, if_pos, if_neg, lt0, h6, ↓b2e (m_letter1 hL hg hw hj), ↓b2e (mv _), Nat.add_zero]
theorem m_vowL {q : pQ} {ρ : pP} {L : pL} {I : pI} {g : gL} {w : Nat} (hL : ML g I) (hg : WL g) (hw : w < lxW g) (N : Nat) : f_X11_vowelsIn_L4 5000 129 (nI w) (N + 6) (nI 0) (nI 0) (hp q ρ L I) = some (nI (vws (lxL g w) (lxN g w)), hp q ρ L I) := by
  simp (disch := first | omega | assumption) only [f_X11_vowelsIn_L4, ↓jn_, ↓ob_, ↓b2_, ↓reduceIte, nn_lt, nn_le, nn_eq, nI_add, pk_mul, nn_su, gn_lt, gn_le, ng_lt, ng_le, ng_eq, gn_eq, gg_eq, n_m1, n_cl, if_true, if_false, if_pos, if_neg, lt0, m_often hL hg hw]
  rw [← vws_sum, Nat.zero_add]
theorem m_vowelsIn {q : pQ} {ρ : pP} {L : pL} {I : pI} {g : gL} {w : Nat} (hL : ML g I) (hg : WL g) (hw : w < lxW g) : f_X11_vowelsIn 5000 129 (nI w) (hp q ρ L I) = some (nI (vws (lxL g w) (lxN g w)), hp q ρ L I) := by
  simp only [f_X11_vowelsIn, kM, lt0]
  exact m_vowL hL hg hw 4994
/-! sets of errands -/
def dOf (d : gD) (t : Nat) : Int32 := mk (fun e => decide (duW d e = t)) (duE d)
def dAt (d : gD) (s : Nat) : Int32 := mk (fun e => decide (duP d e = s)) (duE d)
def dMet (d : gD) (g : gL) (w s : Nat) : Int32 := mk (fun e => decide (duP d e = s) && mean g w (duM d e)) (duE d)
theorem x_of {q : pQ} {ρ : pP} {L : pL} {I : pI} {d : gD} {t P S : Nat} (hD : XD d I) (hd : WD d P S) (hP : P ≤ 1000) (ht : t < 1000) : f_X2_of 5000 13 (nI t) (hp q ρ L I) = some (dOf d t, hp q ρ L I) := by
  have h8 := hd.1
  simp only [f_X2_of, kX, lt0]
  refine lo (fun n (s : Int32) j => f_X2_of_L4 5000 13 (nI t) n s (nI j) (hp q ρ L I)) (fun e a => if decide (duW d e = t) = true then a ||| bit e else a) (fun s => some (s, hp q ρ L I)) (duE d) ?_ ?_ (duE d) 5000 (nI 0) 0 (by omega) (by omega)
  · intro n s
    rw [f_X2_of_L4]
    simp (disch := first | omega | assumption) only [↓bX, ↓bXA, ↓jn_, ↓ob_, ↓b2_, ↓reduceIte, nn_lt, nn_le, nn_eq, nI_add, pk_mul, nn_su, gn_lt, gn_le, ng_lt, ng_le, ng_eq, gn_eq, gg_eq, n_m1, n_cl, if_true, if_false, if_pos, if_neg, lt0, hD.1, Nat.le_refl]
  · intro n s j hj
    obtain ⟨h1, h2, h3, h4⟩ := hD.2 j hj
    obtain ⟨k1, k2, k3, k4⟩ := hd.2 j hj
    rw [f_X2_of_L4]
    by_cases h : duW d j = t
    · simp (disch := first | omega | assumption) only [↓bX, ↓bXA, ↓jn_, ↓ob_, ↓b2_, ↓reduceIte, nn_lt, nn_le, nn_eq, nI_add, pk_mul, nn_su, gn_lt, gn_le, ng_lt, ng_le, ng_eq, gn_eq, gg_eq, n_m1, n_cl, if_true, if_false, if_pos, if_neg, lt0, hD.1, h1, h, decide_true]
      rfl
    · simp (disch := first | omega | assumption) only [↓bX, ↓bXA, ↓jn_, ↓ob_, ↓b2_, ↓reduceIte, nn_lt, nn_le, nn_eq, nI_add, pk_mul, nn_su, gn_lt, gn_le, ng_lt, ng_le, ng_eq, gn_eq, gg_eq, n_m1, n_cl, if_true, if_false, if_pos, if_neg, lt0, hD.1, h1, h, decide_false, Bool.false_eq_true]
theorem x_at {q : pQ} {ρ : pP} {L : pL} {I : pI} {d : gD} {t P S : Nat} (hD : XD d I) (hd : WD d P S) (hP : S ≤ 1000) (ht : t < 1000) : f_X2_at 5000 13 (nI t) (hp q ρ L I) = some (dAt d t, hp q ρ L I) := by
  have h8 := hd.1
  simp only [f_X2_at, kX, lt0]
  refine lo (fun n (s : Int32) j => f_X2_at_L4 5000 13 (nI t) n s (nI j) (hp q ρ L I)) (fun e a => if decide (duP d e = t) = true then a ||| bit e else a) (fun s => some (s, hp q ρ L I)) (duE d) ?_ ?_ (duE d) 5000 (nI 0) 0 (by omega) (by omega)
  · intro n s
    rw [f_X2_at_L4]
    simp (disch := first | omega | assumption) only [↓bX, ↓bXA, ↓jn_, ↓ob_, ↓b2_, ↓reduceIte, nn_lt, nn_le, nn_eq, nI_add, pk_mul, nn_su, gn_lt, gn_le, ng_lt, ng_le, ng_eq, gn_eq, gg_eq, n_m1, n_cl, if_true, if_false, if_pos, if_neg, lt0, hD.1, Nat.le_refl]
  · intro n s j hj
    obtain ⟨h1, h2, h3, h4⟩ := hD.2 j hj
    obtain ⟨k1, k2, k3, k4⟩ := hd.2 j hj
    rw [f_X2_at_L4]
    by_cases h : duP d j = t
    · simp (disch := first | omega | assumption) only [↓bX, ↓bXA, ↓jn_, ↓ob_, ↓b2_, ↓reduceIte, nn_lt, nn_le, nn_eq, nI_add, pk_mul, nn_su, gn_lt, gn_le, ng_lt, ng_le, ng_eq, gn_eq, gg_eq, n_m1, n_cl, if_true, if_false, if_pos, if_neg, lt0, hD.1, h3, h, decide_true]
      rfl
    · simp (disch := first | omega | assumption) only [↓bX, ↓bXA, ↓jn_, ↓ob_, ↓b2_, ↓reduceIte, nn_lt, nn_le, nn_eq, nI_add, pk_mul, nn_su, gn_lt, gn_le, ng_lt, ng_le, ng_eq, gn_eq, gg_eq, n_m1, n_cl, if_true, if_false, if_pos, if_neg, lt0, hD.1, h3, h, decide_false, Bool.false_eq_true]
theorem x_metBy {q : pQ} {ρ : pP} {L : pL} {I : pI} {d : gD} {g : gL} {w t P S : Nat} (hD : XD d I) (hd : WD d P S) (hP : S ≤ 1000) (ht : t < 1000) (hL : XL g I) (hg : WL g) (hw : w < lxW g) : f_X2_metBy 5000 13 5 (nI w) (nI t) (hp q ρ L I) = some (dMet d g w t, hp q ρ L I) := by
  have h8 := hd.1
  simp only [f_X2_metBy, kX, lt0]
  refine lo (fun n (s : Int32) j => f_X2_metBy_L6 5000 13 5 (nI w) (nI t) n s (nI j) (hp q ρ L I)) (fun e a => if (decide (duP d e = t) && mean g w (duM d e)) = true then a ||| bit e else a) (fun s => some (s, hp q ρ L I)) (duE d) ?_ ?_ (duE d) 5000 (nI 0) 0 (by omega) (by omega)
  · intro n s
    rw [f_X2_metBy_L6]
    simp (disch := first | omega | assumption) only [↓bX, ↓bXA, ↓jn_, ↓ob_, ↓b2_, ↓reduceIte, nn_lt, nn_le, nn_eq, nI_add, pk_mul, nn_su, gn_lt, gn_le, ng_lt, ng_le, ng_eq, gn_eq, gg_eq, n_m1, n_cl, if_true, if_false, if_pos, if_neg, lt0, hD.1, Nat.le_refl]
  · intro n s j hj
    obtain ⟨h1, h2, h3, h4⟩ := hD.2 j hj
    obtain ⟨k1, k2, k3, k4⟩ := hd.2 j hj
    rw [f_X2_metBy_L6]
    by_cases h : duP d j = t
    · cases hm : mean g w (duM d j) with
      | true =>
        simp (disch := first | omega | assumption) only [↓bX, ↓bXA, ↓jn_, ↓ob_, ↓b2_, ↓reduceIte, nn_lt, nn_le, nn_eq, nI_add, pk_mul, nn_su, gn_lt, gn_le, ng_lt, ng_le, ng_eq, gn_eq, gg_eq, n_m1, n_cl, if_true, if_false, if_pos, if_neg, lt0, hD.1, h3, h, h2, ↓b2e (x_means hL hg hw (m := duM d j) (by omega)), hm, bo_t, decide_true, Bool.and_self]
        rfl
      | false =>
        simp (disch := first | omega | assumption) only [↓bX, ↓bXA, ↓jn_, ↓ob_, ↓b2_, ↓reduceIte, nn_lt, nn_le, nn_eq, nI_add, pk_mul, nn_su, gn_lt, gn_le, ng_lt, ng_le, ng_eq, gn_eq, gg_eq, n_m1, n_cl, if_true, if_false, if_pos, if_neg, lt0, hD.1, h3, h, h2, ↓b2e (x_means hL hg hw (m := duM d j) (by omega)), hm, bo_f, decide_true, Bool.and_false, Bool.false_eq_true]
    · simp (disch := first | omega | assumption) only [↓bX, ↓bXA, ↓jn_, ↓ob_, ↓b2_, ↓reduceIte, nn_lt, nn_le, nn_eq, nI_add, pk_mul, nn_su, gn_lt, gn_le, ng_lt, ng_le, ng_eq, gn_eq, gg_eq, n_m1, n_cl, if_true, if_false, if_pos, if_neg, lt0, hD.1, h3, h, decide_false, Bool.false_eq_true, Bool.false_and]
theorem m_field {q : pQ} {ρ : pP} {L : pL} {I : pI} {d : gD} {e P S : Nat} (hD : MD d I) (hd : WD d P S) (he : e < duE d) : f_X11_field 5000 129 (nI e) (nI 0) (hp q ρ L I) = some (nI (duW d e), hp q ρ L I) ∧ f_X11_field 5000 129 (nI e) (nI 1) (hp q ρ L I) = some (nI (duM d e), hp q ρ L I) ∧ f_X11_field 5000 129 (nI e) (nI 2) (hp q ρ L I) = some (nI (duP d e), hp q ρ L I) ∧ f_X11_field 5000 129 (nI e) (nI 3) (hp q ρ L I) = some (nI (duV d e), hp q ρ L I) := by
  obtain ⟨h1, h2, h3, h4⟩ := hD.2 e he
  have h8 := hd.1
  refine ⟨?_, ?_, ?_, ?_⟩
  · simp (disch := first | omega | assumption) only [f_X11_field, kM, kMA, ob_, b2_, jn_, nn_lt, nn_le, nn_eq, nI_add, pk_mul, nn_su, gn_lt, gn_le, ng_lt, ng_le, ng_eq, gn_eq, gg_eq, n_m1, n_cl, if_true, if_false, if_pos, if_neg, ite_self, lt0, Nat.add_zero, h1]
  · simp (disch := first | omega | assumption) only [f_X11_field, kM, kMA, ob_, b2_, jn_, nn_lt, nn_le, nn_eq, nI_add, pk_mul, nn_su, gn_lt, gn_le, ng_lt, ng_le, ng_eq, gn_eq, gg_eq, n_m1, n_cl, if_true, if_false, if_pos, if_neg, ite_self, lt0, h2]
  · simp (disch := first | omega | assumption) only [f_X11_field, kM, kMA, ob_, b2_, jn_, nn_lt, nn_le, nn_eq, nI_add, pk_mul, nn_su, gn_lt, gn_le, ng_lt, ng_le, ng_eq, gn_eq, gg_eq, n_m1, n_cl, if_true, if_false, if_pos, if_neg, ite_self, lt0, h3]
  · simp (disch := first | omega | assumption) only [f_X11_field, kM, kMA, ob_, b2_, jn_, nn_lt, nn_le, nn_eq, nI_add, pk_mul, nn_su, gn_lt, gn_le, ng_lt, ng_le, ng_eq, gn_eq, gg_eq, n_m1, n_cl, if_true, if_false, if_pos, if_neg, ite_self, lt0, h4]
def dOpen (d : gD) (dn : Int32) (t : Nat) : Int32 := mk (fun e => decide (duW d e = t) && !bt dn e) (duE d)
theorem m_openOf {q : pQ} {ρ : pP} {L : pL} {I : pI} {d : gD} {t P S : Nat} {dn : Int32} (hD : MD d I) (hd : WD d P S) (hP : P ≤ 1000) (ht : t < 1000) (h13 : I 130 13 = dn) : f_X11_openOf 5000 129 (nI t) (hp q ρ L I) = some (dOpen d dn t, hp q ρ L I) := by
  have h8 := hd.1
  simp only [f_X11_openOf, kM, lt0]
  refine lo (fun n (s : Int32) j => f_X11_openOf_L4 5000 129 (nI t) n s (nI j) (hp q ρ L I)) (fun e a => if (decide (duW d e = t) && !bt dn e) = true then a ||| bit e else a) (fun s => some (s, hp q ρ L I)) (duE d) ?_ ?_ (duE d) 5000 (nI 0) 0 (by omega) (by omega)
  · intro n s
    rw [f_X11_openOf_L4]
    simp (disch := first | omega | assumption) only [↓bM, ↓bMA, ↓jn_, ↓ob_, ↓b2_, ↓reduceIte, nn_lt, nn_le, nn_eq, nI_add, pk_mul, nn_su, gn_lt, gn_le, ng_lt, ng_le, ng_eq, gn_eq, gg_eq, n_m1, n_cl, if_true, if_false, if_pos, if_neg, lt0, hD.1, Nat.le_refl]
  · intro n s j hj
    obtain ⟨f0, f1, f2, f3⟩ := m_field (q := q) (ρ := ρ) (L := L) hD hd hj
    obtain ⟨k1, k2, k3, k4⟩ := hd.2 j hj
    rw [f_X11_openOf_L4]
    by_cases h : duW d j = t
    · have hh := m_has (d := dn) (e := j) (by omega) (hp q ρ L I)
      cases hb : bt dn j with
      | true =>
        rw [hb, if_pos rfl] at hh
        simp (disch := first | omega | assumption) only [↓bM, ↓bMA, ↓jn_, ↓ob_, ↓b2_, ↓reduceIte, nn_lt, nn_le, nn_eq, nI_add, pk_mul, nn_su, gn_lt, gn_le, ng_lt, ng_le, ng_eq, gn_eq, gg_eq, n_m1, n_cl, if_true, if_false, if_pos, if_neg, lt0, hD.1, ↓b2e f0, h, h13, ↓b2e hh, or_0, decide_true, Bool.not_true, Bool.and_false, Bool.false_eq_true]
      | false =>
        rw [hb] at hh
        simp only [Bool.false_eq_true, if_false] at hh
        simp (disch := first | omega | assumption) only [↓bM, ↓bMA, ↓jn_, ↓ob_, ↓b2_, ↓reduceIte, nn_lt, nn_le, nn_eq, nI_add, pk_mul, nn_su, gn_lt, gn_le, ng_lt, ng_le, ng_eq, gn_eq, gg_eq, n_m1, n_cl, if_true, if_false, if_pos, if_neg, lt0, hD.1, ↓b2e f0, h, h13, ↓b2e hh, or_0, decide_true, Bool.not_false, Bool.and_true]
        rfl
    · simp (disch := first | omega | assumption) only [↓bM, ↓bMA, ↓jn_, ↓ob_, ↓b2_, ↓reduceIte, nn_lt, nn_le, nn_eq, nI_add, pk_mul, nn_su, gn_lt, gn_le, ng_lt, ng_le, ng_eq, gn_eq, gg_eq, n_m1, n_cl, if_true, if_false, if_pos, if_neg, lt0, hD.1, ↓b2e f0, h, or_0, decide_false, Bool.false_and, Bool.false_eq_true]
def dDoes (d : gD) (g : gL) (t w s : Nat) : Int32 := mk (fun e => decide (duW d e = t) && (decide (duP d e = s) && mean g w (duM d e))) (duE d)
theorem m_does {q : pQ} {ρ : pP} {L : pL} {I : pI} {d : gD} {g : gL} {t w s P S : Nat} (hD : MD d I) (hd : WD d P S) (hP : P ≤ 1000) (hS : S ≤ 1000) (ht : t < 1000) (hs : s < 1000) (hL : ML g I) (hg : WL g) (hw : w < lxW g) : f_X11_does 5000 129 (nI t) (nI w) (nI s) (hp q ρ L I) = some (dDoes d g t w s, hp q ρ L I) := by
  have h8 := hd.1
  simp only [f_X11_does, kM, lt0]
  refine lo (fun n (z : Int32) j => f_X11_does_L6 5000 129 (nI t) (nI w) (nI s) n z (nI j) (hp q ρ L I)) (fun e a => if (decide (duW d e = t) && (decide (duP d e = s) && mean g w (duM d e))) = true then a ||| bit e else a) (fun s => some (s, hp q ρ L I)) (duE d) ?_ ?_ (duE d) 5000 (nI 0) 0 (by omega) (by omega)
  · intro n s
    rw [f_X11_does_L6]
    simp (disch := first | omega | assumption) only [↓bM, ↓bMA, ↓jn_, ↓ob_, ↓b2_, ↓reduceIte, nn_lt, nn_le, nn_eq, nI_add, pk_mul, nn_su, gn_lt, gn_le, ng_lt, ng_le, ng_eq, gn_eq, gg_eq, n_m1, n_cl, if_true, if_false, if_pos, if_neg, lt0, hD.1, Nat.le_refl]
  · intro n z j hj
    obtain ⟨f0, f1, f2, f3⟩ := m_field (q := q) (ρ := ρ) (L := L) hD hd hj
    obtain ⟨k1, k2, k3, k4⟩ := hd.2 j hj
    rw [f_X11_does_L6]
    by_cases h : duW d j = t
    · by_cases h2 : duP d j = s
      · have hm := m_means (q := q) (ρ := ρ) (L := L) hL hg hw (m := duM d j) (by omega)
        cases hb : mean g w (duM d j) with
        | true =>
          rw [hb, bo_t] at hm
          simp (disch := first | omega | assumption) only [↓bM, ↓bMA, ↓jn_, ↓ob_, ↓b2_, ↓reduceIte, nn_lt, nn_le, nn_eq, nI_add, pk_mul, nn_su, gn_lt, gn_le, ng_lt, ng_le, ng_eq, gn_eq, gg_eq, n_m1, n_cl, if_true, if_false, if_pos, if_neg, lt0, hD.1, ↓b2e f0, h, ↓b2e f2, h2, ↓b2e f1, ↓b2e hm, or_0, decide_true, Bool.and_self]
          rfl
        | false =>
          rw [hb, bo_f] at hm
          simp (disch := first | omega | assumption) only [↓bM, ↓bMA, ↓jn_, ↓ob_, ↓b2_, ↓reduceIte, nn_lt, nn_le, nn_eq, nI_add, pk_mul, nn_su, gn_lt, gn_le, ng_lt, ng_le, ng_eq, gn_eq, gg_eq, n_m1, n_cl, if_true, if_false, if_pos, if_neg, lt0, hD.1, ↓b2e f0, h, ↓b2e f2, h2, ↓b2e f1, ↓b2e hm, or_0, decide_true, Bool.and_false, Bool.false_eq_true]
      · simp (disch := first | omega | assumption) only [↓bM, ↓bMA, ↓jn_, ↓ob_, ↓b2_, ↓reduceIte, nn_lt, nn_le, nn_eq, nI_add, pk_mul, nn_su, gn_lt, gn_le, ng_lt, ng_le, ng_eq, gn_eq, gg_eq, n_m1, n_cl, if_true, if_false, if_pos, if_neg, lt0, hD.1, ↓b2e f0, h, ↓b2e f2, h2, or_0, decide_false, decide_true, Bool.false_and, Bool.and_false, Bool.false_eq_true]
    · simp (disch := first | omega | assumption) only [↓bM, ↓bMA, ↓jn_, ↓ob_, ↓b2_, ↓reduceIte, nn_lt, nn_le, nn_eq, nI_add, pk_mul, nn_su, gn_lt, gn_le, ng_lt, ng_le, ng_eq, gn_eq, gg_eq, n_m1, n_cl, if_true, if_false, if_pos, if_neg, lt0, hD.1, ↓b2e f0, h, or_0, decide_false, Bool.false_and, Bool.false_eq_true]
/-- the sum of what a set holds -/
def sumS (x : Int32) (f : Nat → Int32) (n : Nat) : Int32 := fo (fun e a => a + (if bt x e = true then nI 1 else nI 0) * f e) 0 n (nI 0)
theorem open_eq {d : gD} {dn : Int32} {t : Nat} (hE : duE d ≤ 32) : dOf d t &&& (dn ^^^ (-nI 1)) = dOpen d dn t := by
  refine b_ext (fun i hi => ?_)
  unfold dOf dOpen
  rw [b_and, b_xor, mk_bt _ _ _ hE hi, mk_bt _ _ _ hE hi, show bt (-nI 1) i = true from b_m1 i hi]
  cases bt dn i <;> simp
