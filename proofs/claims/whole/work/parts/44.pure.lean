/-! COUNT -/
def sumB (C : gC) (n : Nat) : Int32 := fo (fun k s => s + scB C k) 0 n (nI 0)
def sumP (C : gC) (n : Nat) : Int32 := fo (fun i s => s + nI (scU C i)) 0 n (nI 0)
theorem x_books {q : pQ} {ρ : pP} {L : pL} {I : pI} {C : gC} {P : Nat} (hC : XS 19 C P I) : f_X7_vowelsInBooks 5000 19 (hp q ρ L I) = some (sumB C 30, hp q ρ L I) := by
  simp only [f_X7_vowelsInBooks, kX, lt0]
  refine lo (fun n (s : Int32) j => f_X7_vowelsInBooks_L4 5000 19 n s (nI j) (hp q ρ L I)) (fun k s => s + scB C k) (fun s => some (s, hp q ρ L I)) 30 ?_ ?_ 30 5000 (nI 0) 0 (by omega) (by omega)
  · intro n s
    rw [f_X7_vowelsInBooks_L4]
    simp (disch := first | omega | assumption) only [↓bX, ↓bXA, ↓jn_, ↓ob_, ↓b2_, ↓reduceIte, nn_lt, nn_le, nn_eq, nI_add, pk_mul, nn_su, gn_lt, gn_le, ng_lt, ng_le, ng_eq, gn_eq, gg_eq, n_m1, n_cl, if_true, if_false, if_pos, if_neg, lt0, Nat.le_refl]
  · intro n s j hj
    have e : I 23 j = scB C j := hC.2.2 j hj
    rw [f_X7_vowelsInBooks_L4]
    simp (disch := first | omega | assumption) only [↓bX, ↓bXA, ↓jn_, ↓ob_, ↓b2_, ↓reduceIte, nn_lt, nn_le, nn_eq, nI_add, pk_mul, nn_su, gn_lt, gn_le, ng_lt, ng_le, ng_eq, gn_eq, gg_eq, n_m1, n_cl, if_true, if_false, if_pos, if_neg, lt0, e]
theorem x_purses {q : pQ} {ρ : pP} {L : pL} {I : pI} {C : gC} {P : Nat} (hC : XS 19 C P I) (hP : I 0 18 = nI P) (hP4 : P ≤ 4) : f_X10_pursesInAll 5000 0 (hp q ρ L I) = some (sumP C P, hp q ρ L I) := by
  simp only [f_X10_pursesInAll, kX, lt0]
  refine lo (fun n (s : Int32) j => f_X10_pursesInAll_L4 5000 0 n s (nI j) (hp q ρ L I)) (fun k s => s + nI (scU C k)) (fun s => some (s, hp q ρ L I)) P ?_ ?_ P 5000 (nI 0) 0 (by omega) (by omega)
  · intro n s
    rw [f_X10_pursesInAll_L4]
    simp (disch := first | omega | assumption) only [↓bX, ↓bXA, ↓jn_, ↓ob_, ↓b2_, ↓reduceIte, nn_lt, nn_le, nn_eq, nI_add, pk_mul, nn_su, gn_lt, gn_le, ng_lt, ng_le, ng_eq, gn_eq, gg_eq, n_m1, n_cl, if_true, if_false, if_pos, if_neg, lt0, hP, Nat.le_refl]
  · intro n s j hj
    have e : I 21 j = nI (scU C j) := (hC.2.1 j hj).2.1
    rw [f_X10_pursesInAll_L4]
    simp (disch := first | omega | assumption) only [↓bX, ↓bXA, ↓jn_, ↓ob_, ↓b2_, ↓reduceIte, nn_lt, nn_le, nn_eq, nI_add, pk_mul, nn_su, gn_lt, gn_le, ng_lt, ng_le, ng_eq, gn_eq, gg_eq, n_m1, n_cl, if_true, if_false, if_pos, if_neg, lt0, hP, e]
theorem m_sumOf {q : pQ} {ρ : pP} {L : pL} {I : pI} {o n : Nat} {f : Nat → Int32} (ho : o + n ≤ 44) (hf : ∀ k, k < n → I 130 (o + k) = f k) : f_X11_sumOf 5000 129 (nI o) (nI n) (hp q ρ L I) = some (fo (fun k s => s + f k) 0 n (nI 0), hp q ρ L I) := by
  simp only [f_X11_sumOf, kM, lt0]
  refine lo (fun m (s : Int32) j => f_X11_sumOf_L5 5000 129 (nI o) (nI n) m s (nI j) (hp q ρ L I)) (fun k s => s + f k) (fun s => some (s, hp q ρ L I)) n ?_ ?_ n 5000 (nI 0) 0 (by omega) (by omega)
  · intro m s
    rw [f_X11_sumOf_L5]
    simp (disch := first | omega | assumption) only [↓bM, ↓bMA, ↓jn_, ↓ob_, ↓b2_, ↓reduceIte, nn_lt, nn_le, nn_eq, nI_add, pk_mul, nn_su, gn_lt, gn_le, ng_lt, ng_le, ng_eq, gn_eq, gg_eq, n_m1, n_cl, if_true, if_false, if_pos, if_neg, lt0, Nat.le_refl]
  · intro m s j hj
    have e := hf j hj
    rw [f_X11_sumOf_L5]
    simp (disch := first | omega | assumption) only [↓bM, ↓bMA, ↓jn_, ↓ob_, ↓b2_, ↓reduceIte, nn_lt, nn_le, nn_eq, nI_add, pk_mul, nn_su, gn_lt, gn_le, ng_lt, ng_le, ng_eq, gn_eq, gg_eq, n_m1, n_cl, if_true, if_false, if_pos, if_neg, lt0, e]
def isC (g : gL) (w : Nat) : Bool := !decide (lxB g w = -nI 1)
def comps (g : gL) : Int32 := mk (isC g) (lxW g)
theorem x_isComp {q : pQ} {ρ : pP} {L : pL} {I : pI} {g : gL} {w : Nat} (hL : XL g I) (hg : WL g) (hw : w < lxW g) : f_X3_isCompound 5000 5 (nI w) (hp q ρ L I) = some (bo (isC g w), hp q ρ L I) := by
  obtain ⟨⟨h6, h7, h8, h11⟩, h9, h10⟩ := hL.2 w hw
  have hW := hg.1
  by_cases h : lxB g w = -nI 1
  · simp (disch := first | omega | assumption) only [f_X3_isCompound, kX, kXA, ob_, b2_, jn_, nn_lt, nn_le, nn_eq, nI_add, pk_mul, nn_su, gn_lt, gn_le, ng_lt, ng_le, ng_eq, gn_eq, gg_eq, n_m1, n_cl, if_true, if_false, if_pos, if_neg, ite_self, lt0, h8, h, isC, decide_true, Bool.not_true, bo_f]
  · simp (disch := first | omega | assumption) only [f_X3_isCompound, kX, kXA, ob_, b2_, jn_, nn_lt, nn_le, nn_eq, nI_add, pk_mul, nn_su, gn_lt, gn_le, ng_lt, ng_le, ng_eq, gn_eq, gg_eq, n_m1, n_cl, if_true, if_false, if_pos, if_neg, ite_self, lt0, h8, h, isC, decide_false, Bool.not_false, bo_t]
theorem x_comps {q : pQ} {ρ : pP} {L : pL} {I : pI} {g : gL} (hL : XL g I) (hg : WL g) : f_X3_compounds 5000 5 (hp q ρ L I) = some (comps g, hp q ρ L I) := by
  have hW := hg.1
  simp only [f_X3_compounds, kX, lt0]
  refine lo (fun n (s : Int32) j => f_X3_compounds_L4 5000 5 n s (nI j) (hp q ρ L I)) (fun e a => if isC g e = true then a ||| bit e else a) (fun s => some (s, hp q ρ L I)) (lxW g) ?_ ?_ (lxW g) 5000 (nI 0) 0 (by omega) (by omega)
  · intro n s
    rw [f_X3_compounds_L4]
    simp (disch := first | omega | assumption) only [↓bX, ↓bXA, ↓jn_, ↓ob_, ↓b2_, ↓reduceIte, nn_lt, nn_le, nn_eq, nI_add, pk_mul, nn_su, gn_lt, gn_le, ng_lt, ng_le, ng_eq, gn_eq, gg_eq, n_m1, n_cl, if_true, if_false, if_pos, if_neg, lt0, hL.1, Nat.le_refl]
  · intro n s j hj
    have e := x_isComp (q := q) (ρ := ρ) (L := L) hL hg hj
    rw [f_X3_compounds_L4]
    cases h : isC g j with
    | true =>
      rw [h, bo_t] at e
      simp (disch := first | omega | assumption) only [↓bX, ↓bXA, ↓jn_, ↓ob_, ↓b2_, ↓reduceIte, nn_lt, nn_le, nn_eq, nI_add, pk_mul, nn_su, gn_lt, gn_le, ng_lt, ng_le, ng_eq, gn_eq, gg_eq, n_m1, n_cl, if_true, if_false, if_pos, if_neg, lt0, hL.1, ↓b2e e]
      rfl
    | false =>
      rw [h, bo_f] at e
      simp (disch := first | omega | assumption) only [↓bX, ↓bXA, ↓jn_, ↓ob_, ↓b2_, ↓reduceIte, nn_lt, nn_le, nn_eq, nI_add, pk_mul, nn_su, gn_lt, gn_le, ng_lt, ng_le, ng_eq, gn_eq, gg_eq, n_m1, n_cl, if_true, if_false, if_pos, if_neg, lt0, hL.1, ↓b2e e, Bool.false_eq_true]
theorem m_comps {q : pQ} {ρ : pP} {L : pL} {I : pI} {g : gL} (hL : ML g I) (hg : WL g) : f_X11_count_L129 5000 129 5000 (nI 0) (nI 0) (hp q ρ L I) = some (comps g, hp q ρ L I) := by
  have hW := hg.1
  refine lo (fun n (s : Int32) j => f_X11_count_L129 5000 129 n s (nI j) (hp q ρ L I)) (fun e a => if isC g e = true then a ||| bit e else a) (fun s => some (s, hp q ρ L I)) (lxW g) ?_ ?_ (lxW g) 5000 (nI 0) 0 (by omega) (by omega)
  · intro n s
    rw [f_X11_count_L129]
    simp (disch := first | omega | assumption) only [↓bM, ↓bMA, ↓jn_, ↓ob_, ↓b2_, ↓reduceIte, nn_lt, nn_le, nn_eq, nI_add, pk_mul, nn_su, gn_lt, gn_le, ng_lt, ng_le, ng_eq, gn_eq, gg_eq, n_m1, n_cl, if_true, if_false, if_pos, if_neg, lt0, hL.1, Nat.le_refl]
  · intro n s j hj
    obtain ⟨⟨h6, h7, h8⟩, h9⟩ := hL.2 j hj
    rw [f_X11_count_L129]
    by_cases h : lxB g j = -nI 1
    · simp (disch := first | omega | assumption) only [↓bM, ↓bMA, ↓jn_, ↓ob_, ↓b2_, ↓reduceIte, nn_lt, nn_le, nn_eq, nI_add, pk_mul, nn_su, gn_lt, gn_le, ng_lt, ng_le, ng_eq, gn_eq, gg_eq, n_m1, n_cl, if_true, if_false, if_pos, if_neg, lt0, hL.1, h8, h, isC, decide_true, Bool.not_true, Bool.false_eq_true, or_0]
    · simp (disch := first | omega | assumption) only [↓bM, ↓bMA, ↓jn_, ↓ob_, ↓b2_, ↓reduceIte, nn_lt, nn_le, nn_eq, nI_add, pk_mul, nn_su, gn_lt, gn_le, ng_lt, ng_le, ng_eq, gn_eq, gg_eq, n_m1, n_cl, if_true, if_false, if_pos, if_neg, lt0, hL.1, h8, h, isC, decide_false, Bool.not_false]
      rfl
theorem k_count (a : Int32) : ∀ G, Wr G → ∃ v G', Wr G' ∧ XH (f_X10_count 5000 0 a) G v G' ∧ MH (f_X11_count 5000 129 a) G v G' := by
  intro G hG
  have hG' := hG
  obtain ⟨w1, w2, w3, w4, w5, w6, w7, w8, w9⟩ := hG
  have fin : ∀ v, (∀ q ρ L I, Xr G ρ L I → f_X10_count 5000 0 a (hp q ρ L I) = some (v, hp q ρ L I)) → (∀ t q ρ L I, Mr t G ρ L I → Ms t G ρ (j_up I 129 13 (nI 0)) → f_X11_count 5000 129 a (hp q ρ L I) = some (v, hp q ρ L (j_up I 129 13 (nI 0)))) → ∃ v G', Wr G' ∧ XH (f_X10_count 5000 0 a) G v G' ∧ MH (f_X11_count 5000 129 a) G v G' :=
    fun v hx hm => ⟨v, G, hG', XH_0 hx, MH_0 (fun t q ρ L I h => hm t q ρ L I h (Ms_0 h.1))⟩
  by_cases h0 : a = nI 0
  · subst h0
    refine fin (nI (gS G)) ?_ ?_
    · rintro q ρ L I ⟨⟨hT, hL, hD, hP, hS, hU, hK, hR, hρ⟩, hW⟩
      simp (disch := first | omega | assumption) only [f_X10_count, ↓bX, ↓bXA, ↓jn_, ↓ob_, ↓b2_, ↓reduceIte, nn_lt, nn_le, nn_eq, nI_add, pk_mul, nn_su, gn_lt, gn_le, ng_lt, ng_le, ng_eq, gn_eq, gg_eq, n_m1, n_cl, if_true, if_false, if_pos, if_neg, lt0, hP.2]
    · rintro t q ρ L I - ⟨hT, hL, hD, hP, hS, hU, hK, hR⟩
      simp (disch := first | omega | assumption) only [f_X11_count, ↓bM, ↓bMA, ↓jn_, ↓ob_, ↓b2_, ↓reduceIte, nn_lt, nn_le, nn_eq, nI_add, pk_mul, nn_su, gn_lt, gn_le, ng_lt, ng_le, ng_eq, gn_eq, gg_eq, n_m1, n_cl, if_true, if_false, if_pos, if_neg, lt0, hP.2]
  by_cases h1 : a = nI 1
  · subst h1
    refine fin (nI (lxW (gLx G))) ?_ ?_
    · rintro q ρ L I ⟨⟨hT, hL, hD, hP, hS, hU, hK, hR, hρ⟩, hW⟩
      simp (disch := first | omega | assumption) only [f_X10_count, ↓bX, ↓bXA, ↓jn_, ↓ob_, ↓b2_, ↓reduceIte, nn_lt, nn_le, nn_eq, nI_add, pk_mul, nn_su, gn_lt, gn_le, ng_lt, ng_le, ng_eq, gn_eq, gg_eq, n_m1, n_cl, if_true, if_false, if_pos, if_neg, lt0, hL.1]
    · rintro t q ρ L I - ⟨hT, hL, hD, hP, hS, hU, hK, hR⟩
      simp (disch := first | omega | assumption) only [f_X11_count, ↓bM, ↓bMA, ↓jn_, ↓ob_, ↓b2_, ↓reduceIte, nn_lt, nn_le, nn_eq, nI_add, pk_mul, nn_su, gn_lt, gn_le, ng_lt, ng_le, ng_eq, gn_eq, gg_eq, n_m1, n_cl, if_true, if_false, if_pos, if_neg, lt0, hL.1]
  by_cases h2 : a = nI 2
  · subst h2
    refine fin (nI (gP G)) ?_ ?_
    · rintro q ρ L I ⟨⟨hT, hL, hD, hP, hS, hU, hK, hR, hρ⟩, hW⟩
      simp (disch := first | omega | assumption) only [f_X10_count, ↓bX, ↓bXA, ↓jn_, ↓ob_, ↓b2_, ↓reduceIte, nn_lt, nn_le, nn_eq, nI_add, pk_mul, nn_su, gn_lt, gn_le, ng_lt, ng_le, ng_eq, gn_eq, gg_eq, n_m1, n_cl, if_true, if_false, if_pos, if_neg, lt0, hP.1]
    · rintro t q ρ L I - ⟨hT, hL, hD, hP, hS, hU, hK, hR⟩
      simp (disch := first | omega | assumption) only [f_X11_count, ↓bM, ↓bMA, ↓jn_, ↓ob_, ↓b2_, ↓reduceIte, nn_lt, nn_le, nn_eq, nI_add, pk_mul, nn_su, gn_lt, gn_le, ng_lt, ng_le, ng_eq, gn_eq, gg_eq, n_m1, n_cl, if_true, if_false, if_pos, if_neg, lt0, hP.1]
  by_cases h3 : a = nI 3
  · subst h3
    refine fin (nI (duE (gDu G))) ?_ ?_
    · rintro q ρ L I ⟨⟨hT, hL, hD, hP, hS, hU, hK, hR, hρ⟩, hW⟩
      simp (disch := first | omega | assumption) only [f_X10_count, ↓bX, ↓bXA, ↓jn_, ↓ob_, ↓b2_, ↓reduceIte, nn_lt, nn_le, nn_eq, nI_add, pk_mul, nn_su, gn_lt, gn_le, ng_lt, ng_le, ng_eq, gn_eq, gg_eq, n_m1, n_cl, if_true, if_false, if_pos, if_neg, lt0, hD.1]
    · rintro t q ρ L I - ⟨hT, hL, hD, hP, hS, hU, hK, hR⟩
      simp (disch := first | omega | assumption) only [f_X11_count, ↓bM, ↓bMA, ↓jn_, ↓ob_, ↓b2_, ↓reduceIte, nn_lt, nn_le, nn_eq, nI_add, pk_mul, nn_su, gn_lt, gn_le, ng_lt, ng_le, ng_eq, gn_eq, gg_eq, n_m1, n_cl, if_true, if_false, if_pos, if_neg, lt0, hD.1]
  by_cases h4 : a = nI 4
  · subst h4
    refine fin (scH (gN G)) ?_ ?_
    · rintro q ρ L I ⟨⟨hT, hL, hD, hP, hS, hU, hK, hR, hρ⟩, hW⟩
      simp (disch := first | omega | assumption) only [f_X10_count, ↓bX, ↓bXA, ↓jn_, ↓ob_, ↓b2_, ↓reduceIte, nn_lt, nn_le, nn_eq, nI_add, pk_mul, nn_su, gn_lt, gn_le, ng_lt, ng_le, ng_eq, gn_eq, gg_eq, n_m1, n_cl, if_true, if_false, if_pos, if_neg, lt0, hS.1.1]
    · rintro t q ρ L I - ⟨hT, hL, hD, hP, hS, hU, hK, hR⟩
      have e := hS.1.1
      rw [Nat.zero_add] at e
      simp (disch := first | omega | assumption) only [f_X11_count, ↓bM, ↓bMA, ↓jn_, ↓ob_, ↓b2_, ↓reduceIte, nn_lt, nn_le, nn_eq, nI_add, pk_mul, nn_su, gn_lt, gn_le, ng_lt, ng_le, ng_eq, gn_eq, gg_eq, n_m1, n_cl, if_true, if_false, if_pos, if_neg, lt0, e]
  by_cases h5 : a = nI 5
  · subst h5
    refine fin (scD (gN G)) ?_ ?_
    · rintro q ρ L I ⟨⟨hT, hL, hD, hP, hS, hU, hK, hR, hρ⟩, hW⟩
      simp (disch := first | omega | assumption) only [f_X10_count, ↓bX, ↓bXA, ↓jn_, ↓ob_, ↓b2_, ↓reduceIte, nn_lt, nn_le, nn_eq, nI_add, pk_mul, nn_su, gn_lt, gn_le, ng_lt, ng_le, ng_eq, gn_eq, gg_eq, n_m1, n_cl, if_true, if_false, if_pos, if_neg, lt0, hS.1.2]
    · rintro t q ρ L I - ⟨hT, hL, hD, hP, hS, hU, hK, hR⟩
      have e := hS.1.2
      rw [Nat.zero_add] at e
      simp (disch := first | omega | assumption) only [f_X11_count, ↓bM, ↓bMA, ↓jn_, ↓ob_, ↓b2_, ↓reduceIte, nn_lt, nn_le, nn_eq, nI_add, pk_mul, nn_su, gn_lt, gn_le, ng_lt, ng_le, ng_eq, gn_eq, gg_eq, n_m1, n_cl, if_true, if_false, if_pos, if_neg, lt0, e]
  by_cases h6 : a = nI 6
  · subst h6
    refine fin (sumB (gN G) 30) ?_ ?_
    · rintro q ρ L I ⟨⟨hT, hL, hD, hP, hS, hU, hK, hR, hρ⟩, hW⟩
      simp (disch := first | omega | assumption) only [f_X10_count, ↓bX, ↓bXA, ↓jn_, ↓ob_, ↓b2_, ↓reduceIte, nn_lt, nn_le, nn_eq, nI_add, pk_mul, nn_su, gn_lt, gn_le, ng_lt, ng_le, ng_eq, gn_eq, gg_eq, n_m1, n_cl, if_true, if_false, if_pos, if_neg, lt0, ↓b2e (x_books (q := q) (ρ := ρ) (L := L) hS)]
    · rintro t q ρ L I - ⟨hT, hL, hD, hP, hS, hU, hK, hR⟩
      have e := m_sumOf (q := q) (ρ := ρ) (L := L) (o := 14) (n := 30) (f := scB (gN G)) (by omega) (fun k hk => by have := hS.2.2 k hk; rw [Nat.zero_add] at this; exact this)
      simp (disch := first | omega | assumption) only [f_X11_count, ↓bM, ↓bMA, ↓jn_, ↓ob_, ↓b2_, ↓reduceIte, nn_lt, nn_le, nn_eq, nI_add, pk_mul, nn_su, gn_lt, gn_le, ng_lt, ng_le, ng_eq, gn_eq, gg_eq, n_m1, n_cl, if_true, if_false, if_pos, if_neg, lt0, ↓b2e e]
      rfl
  by_cases h7 : a = nI 7
  · subst h7
    refine fin (sumP (gN G) (gP G)) ?_ ?_
    · rintro q ρ L I ⟨⟨hT, hL, hD, hP, hS, hU, hK, hR, hρ⟩, hW⟩
      simp (disch := first | omega | assumption) only [f_X10_count, ↓bX, ↓bXA, ↓jn_, ↓ob_, ↓b2_, ↓reduceIte, nn_lt, nn_le, nn_eq, nI_add, pk_mul, nn_su, gn_lt, gn_le, ng_lt, ng_le, ng_eq, gn_eq, gg_eq, n_m1, n_cl, if_true, if_false, if_pos, if_neg, lt0, ↓b2e (x_purses (q := q) (ρ := ρ) (L := L) hS hP.1 w4.1)]
    · rintro t q ρ L I - ⟨hT, hL, hD, hP, hS, hU, hK, hR⟩
      have e := m_sumOf (q := q) (ρ := ρ) (L := L) (o := 4) (n := gP G) (f := fun i => nI (scU (gN G) i)) (by omega) (fun k hk => by have := (hS.2.1 k hk).2.1; rw [Nat.zero_add] at this; exact this)
      simp (disch := first | omega | assumption) only [f_X11_count, ↓bM, ↓bMA, ↓jn_, ↓ob_, ↓b2_, ↓reduceIte, nn_lt, nn_le, nn_eq, nI_add, pk_mul, nn_su, gn_lt, gn_le, ng_lt, ng_le, ng_eq, gn_eq, gg_eq, n_m1, n_cl, if_true, if_false, if_pos, if_neg, lt0, hP.1, ↓b2e e]
      rfl
  by_cases h8 : a = nI 8
  · subst h8
    refine fin (comps (gLx G)) ?_ ?_
    · rintro q ρ L I ⟨⟨hT, hL, hD, hP, hS, hU, hK, hR, hρ⟩, hW⟩
      simp (disch := first | omega | assumption) only [f_X10_count, ↓bX, ↓bXA, ↓jn_, ↓ob_, ↓b2_, ↓reduceIte, nn_lt, nn_le, nn_eq, nI_add, pk_mul, nn_su, gn_lt, gn_le, ng_lt, ng_le, ng_eq, gn_eq, gg_eq, n_m1, n_cl, if_true, if_false, if_pos, if_neg, lt0, ↓b2e (x_comps (q := q) (ρ := ρ) (L := L) hL w2)]
    · rintro t q ρ L I - ⟨hT, hL, hD, hP, hS, hU, hK, hR⟩
      simp (disch := first | omega | assumption) only [f_X11_count, ↓bM, ↓bMA, ↓jn_, ↓ob_, ↓b2_, ↓reduceIte, nn_lt, nn_le, nn_eq, nI_add, pk_mul, nn_su, gn_lt, gn_le, ng_lt, ng_le, ng_eq, gn_eq, gg_eq, n_m1, n_cl, if_true, if_false, if_pos, if_neg, lt0]
      exact m_comps hL w2
  by_cases h9 : a = nI 9
  · subst h9
    refine fin (nI (gUn G).1) ?_ ?_
    · rintro q ρ L I ⟨⟨hT, hL, hD, hP, hS, ⟨o, o1, o2, o3, o4⟩, hK, hR, hρ⟩, hW⟩
      simp (disch := first | omega | assumption) only [f_X10_count, ↓bX, ↓bXA, ↓jn_, ↓ob_, ↓b2_, ↓reduceIte, nn_lt, nn_le, nn_eq, nI_add, pk_mul, nn_su, gn_lt, gn_le, ng_lt, ng_le, ng_eq, gn_eq, gg_eq, n_m1, n_cl, if_true, if_false, if_pos, if_neg, lt0, o3]
    · rintro t q ρ L I - ⟨hT, hL, hD, hP, hS, hU, hK, hR⟩
      simp (disch := first | omega | assumption) only [f_X11_count, ↓bM, ↓bMA, ↓jn_, ↓ob_, ↓b2_, ↓reduceIte, nn_lt, nn_le, nn_eq, nI_add, pk_mul, nn_su, gn_lt, gn_le, ng_lt, ng_le, ng_eq, gn_eq, gg_eq, n_m1, n_cl, if_true, if_false, if_pos, if_neg, lt0, hU.1]
  by_cases h10 : a = nI 10
  · subst h10
    refine fin (nI (gRw G).1) ?_ ?_
    · rintro q ρ L I ⟨⟨hT, hL, hD, hP, hS, hU, hK, hR, hρ⟩, hW⟩
      simp (disch := first | omega | assumption) only [f_X10_count, ↓bX, ↓bXA, ↓jn_, ↓ob_, ↓b2_, ↓reduceIte, nn_lt, nn_le, nn_eq, nI_add, pk_mul, nn_su, gn_lt, gn_le, ng_lt, ng_le, ng_eq, gn_eq, gg_eq, n_m1, n_cl, if_true, if_false, if_pos, if_neg, lt0, hW.1]
    · rintro t q ρ L I ⟨-, hW⟩ ⟨hT, hL, hD, hP, hS, hU, hK, hR⟩
      simp (disch := first | omega | assumption) only [f_X11_count, ↓bM, ↓bMA, ↓jn_, ↓ob_, ↓b2_, ↓reduceIte, nn_lt, nn_le, nn_eq, nI_add, pk_mul, nn_su, gn_lt, gn_le, ng_lt, ng_le, ng_eq, gn_eq, gg_eq, n_m1, n_cl, if_true, if_false, if_pos, if_neg, lt0, up_nk, hW.1]
  by_cases h11 : a = nI 11
  · subst h11
    refine fin (nI (gTx G).1) ?_ ?_
    · rintro q ρ L I ⟨⟨hT, hL, hD, hP, hS, hU, hK, hR, hρ⟩, hW⟩
      simp (disch := first | omega | assumption) only [f_X10_count, ↓bX, ↓bXA, ↓jn_, ↓ob_, ↓b2_, ↓reduceIte, nn_lt, nn_le, nn_eq, nI_add, pk_mul, nn_su, gn_lt, gn_le, ng_lt, ng_le, ng_eq, gn_eq, gg_eq, n_m1, n_cl, if_true, if_false, if_pos, if_neg, lt0, hT.1]
    · rintro t q ρ L I - ⟨hT, hL, hD, hP, hS, hU, hK, hR⟩
      simp (disch := first | omega | assumption) only [f_X11_count, ↓bM, ↓bMA, ↓jn_, ↓ob_, ↓b2_, ↓reduceIte, nn_lt, nn_le, nn_eq, nI_add, pk_mul, nn_su, gn_lt, gn_le, ng_lt, ng_le, ng_eq, gn_eq, gg_eq, n_m1, n_cl, if_true, if_false, if_pos, if_neg, lt0, hT.1]
  · refine fin (-nI 1) ?_ ?_
    · intro q ρ L I _
      simp (disch := first | omega | assumption) only [f_X10_count, ↓bX, ↓bXA, ↓jn_, ↓ob_, ↓b2_, ↓reduceIte, nn_lt, nn_le, nn_eq, nI_add, pk_mul, nn_su, gn_lt, gn_le, ng_lt, ng_le, ng_eq, gn_eq, gg_eq, n_m1, n_cl, if_true, if_false, if_pos, if_neg, lt0, h0, h1, h2, h3, h4, h5, h6, h7, h8, h9, h10, h11]
    · intro t q ρ L I _ _
      simp (disch := first | omega | assumption) only [f_X11_count, ↓bM, ↓bMA, ↓jn_, ↓ob_, ↓b2_, ↓reduceIte, nn_lt, nn_le, nn_eq, nI_add, pk_mul, nn_su, gn_lt, gn_le, ng_lt, ng_le, ng_eq, gn_eq, gg_eq, n_m1, n_cl, if_true, if_false, if_pos, if_neg, lt0, h0, h1, h2, h3, h4, h5, h6, h7, h8, h9, h10, h11]
/-! ALMS -/
def puC (C : gC) (t x : Nat) : gC := (C.1, C.2.1, (fun i => if i = t then x else scU C i), C.2.2.2)
theorem XS_pu {C : gC} {P t x : Nat} {I : pI} (h : XS 19 C P I) : XS 19 (puC C t x) P (j_up I 21 t (nI x)) := by
  obtain ⟨⟨a1, a2⟩, a3, a4⟩ := h
  refine ⟨⟨by rw [up_ne (by omega)]; exact a1, by rw [up_ne (by omega)]; exact a2⟩, fun i hi => ?_, fun k hk => by rw [up_ne (by omega)]; exact a4 k hk⟩
  obtain ⟨b1, b2, b3⟩ := a3 i hi
  refine ⟨by rw [up_ne (by omega)]; exact b1, ?_, by rw [up_ne (by omega)]; exact b3⟩
  show j_up I 21 t (nI x) 21 i = nI (if i = t then x else scU C i)
  rw [up_at]
  split
  · rfl
  · exact b2
theorem MS_pu {C : gC} {a P t x : Nat} {I : pI} (hP : P ≤ 4) (ht : t < P) (h : MS a 0 C P I) : MS a 0 (puC C t x) P (j_up I a (4 + t) (nI x)) := by
  obtain ⟨⟨a1, a2⟩, a3, a4⟩ := h
  refine ⟨⟨by rw [up_nk (by omega)]; exact a1, by rw [up_nk (by omega)]; exact a2⟩, fun i hi => ?_, fun k hk => by rw [up_nk (by omega)]; exact a4 k hk⟩
  obtain ⟨b1, b2, b3⟩ := a3 i hi
  refine ⟨by rw [up_nk (by omega)]; exact b1, ?_, by rw [up_nk (by omega)]; exact b3⟩
  show j_up I a (4 + t) (nI x) a (0 + (4 + i)) = nI (if i = t then x else scU C i)
  rw [up_at]
  split
  · rw [if_pos (by omega)]
  · rw [if_neg (by omega)]
    exact b2
theorem WS_pu {C : gC} {P S t x : Nat} (h : WS C P S) (hx : x ≤ 9999) : WS (puC C t x) P S := fun i hi => ⟨(h i hi).1, by
  show (if i = t then x else scU C i) ≤ 9999
  split
  · exact hx
  · exact (h i hi).2⟩
theorem jmin_nn {a b : Nat} (ha : a < 2147483648) (hb : b < 2147483648) : j_min (nI a) (nI b) = nI (min a b) := by
  by_cases h : b < a
  · simp (disch := first | omega | assumption) only [j_min, ob_, b2_, jn_, nn_lt, nn_le, nn_eq, nI_add, pk_mul, nn_su, gn_lt, gn_le, ng_lt, ng_le, ng_eq, gn_eq, gg_eq, n_m1, n_cl, if_true, if_false, if_pos, if_neg, ite_self, lt0, Nat.min_eq_right]
  · simp (disch := first | omega | assumption) only [j_min, ob_, b2_, jn_, nn_lt, nn_le, nn_eq, nI_add, pk_mul, nn_su, gn_lt, gn_le, ng_lt, ng_le, ng_eq, gn_eq, gg_eq, n_m1, n_cl, if_true, if_false, if_pos, if_neg, ite_self, lt0, Nat.min_eq_left]
theorem jmax_nn {a b : Nat} (ha : a < 2147483648) (hb : b < 2147483648) : j_max (nI a) (nI b) = nI (max a b) := by
  by_cases h : a < b
  · simp (disch := first | omega | assumption) only [j_max, ob_, b2_, jn_, nn_lt, nn_le, nn_eq, nI_add, pk_mul, nn_su, gn_lt, gn_le, ng_lt, ng_le, ng_eq, gn_eq, gg_eq, n_m1, n_cl, if_true, if_false, if_pos, if_neg, ite_self, lt0, Nat.max_eq_right]
  · simp (disch := first | omega | assumption) only [j_max, ob_, b2_, jn_, nn_lt, nn_le, nn_eq, nI_add, pk_mul, nn_su, gn_lt, gn_le, ng_lt, ng_le, ng_eq, gn_eq, gg_eq, n_m1, n_cl, if_true, if_false, if_pos, if_neg, ite_self, lt0, Nat.max_eq_left]
theorem x_btw {a b : Nat} (ha : a < 2147483648) (hb : b < 2147483648) (h : jH) : f_X10_between 5000 (nI a) (nI b) h = some (nI (min a b), h) := by
  simp (disch := first | omega | assumption) only [f_X10_between, ob_, b2_, jn_, nn_lt, nn_le, nn_eq, nI_add, pk_mul, nn_su, gn_lt, gn_le, ng_lt, ng_le, ng_eq, gn_eq, gg_eq, n_m1, n_cl, if_true, if_false, if_pos, if_neg, ite_self, lt0, jmin_nn, Nat.zero_le]
theorem i_lt01 {a : Int32} (h : a < nI 0) : a < nI 1 := by
  rw [Int32.lt_iff_toInt_lt, n_ti (by omega)] at h ⊢
  omega
theorem i_9999 {a : Int32} {n : Nat} (hn : n < 1000000) (h1 : ¬ a < nI 0) (h2 : nI (n + 1) ≤ a) : ¬ a < nI 1 ∧ ¬ a ≤ nI n ∧ nI n < a := by
  obtain ⟨i, hi, rfl⟩ := c_lt0 h1
  rw [nn_le (by omega) hi] at h2
  rw [nn_le hi (by omega), nn_lt hi (by omega), nn_lt (by omega) hi]
  omega
theorem k_alms (a b c : Int32) : ∀ G, Wr G → ∃ v G', Wr G' ∧ XH (f_X10_alms 5000 0 a b c) G v G' ∧ MH (f_X11_alms 5000 129 a b c) G v G' := by
  intro G hG
  have hG' := hG
  obtain ⟨w1, w2, w3, w4, w5, w6, w7, w8, w9⟩ := hG
  have fin : ∀ v, (∀ q ρ L I, Xr G ρ L I → f_X10_alms 5000 0 a b c (hp q ρ L I) = some (v, hp q ρ L I)) → (∀ t q ρ L I, Mr t G ρ L I → Ms t G ρ (j_up I 129 13 (nI 0)) → f_X11_alms 5000 129 a b c (hp q ρ L I) = some (v, hp q ρ L (j_up I 129 13 (nI 0)))) → ∃ v G', Wr G' ∧ XH (f_X10_alms 5000 0 a b c) G v G' ∧ MH (f_X11_alms 5000 129 a b c) G v G' :=
    fun v hx hm => ⟨v, G, hG', XH_0 hx, MH_0 (fun t q ρ L I h => hm t q ρ L I h (Ms_0 h.1))⟩
  rcases ixo a (gP G) (by omega) with h | ⟨f, hf, rfl⟩
  · refine fin (-nI 1) ?_ ?_
    · rintro q ρ L I ⟨⟨hT, hL, hD, hP, hS, hU, hK, hR, hρ⟩, hW⟩
      simp (disch := first | omega | assumption) only [f_X10_alms, ↓bX, ↓bXA, ↓jn_, ↓ob_, ↓b2_, ↓reduceIte, nn_lt, nn_le, nn_eq, nI_add, pk_mul, nn_su, gn_lt, gn_le, ng_lt, ng_le, ng_eq, gn_eq, gg_eq, n_m1, n_cl, if_true, if_false, if_pos, if_neg, lt0, ↓b2e (x_isT0 (q := q) (ρ := ρ) (L := L) hP.1 h)]
    · rintro t q ρ L I - ⟨hT, hL, hD, hP, hS, hU, hK, hR⟩
      simp (disch := first | omega | assumption) only [f_X11_alms, ↓bM, ↓bMA, ↓jn_, ↓ob_, ↓b2_, ↓reduceIte, nn_lt, nn_le, nn_eq, nI_add, pk_mul, nn_su, gn_lt, gn_le, ng_lt, ng_le, ng_eq, gn_eq, gg_eq, n_m1, n_cl, if_true, if_false, if_pos, if_neg, lt0, ↓b2e (m_isT0 (q := q) (ρ := ρ) (L := L) hP.1 (by omega) h)]
  rcases ixo b (gP G) (by omega) with h | ⟨t, ht, rfl⟩
  · refine fin (-nI 1) ?_ ?_
    · rintro q ρ L I ⟨⟨hT, hL, hD, hP, hS, hU, hK, hR, hρ⟩, hW⟩
      simp (disch := first | omega | assumption) only [f_X10_alms, ↓bX, ↓bXA, ↓jn_, ↓ob_, ↓b2_, ↓reduceIte, nn_lt, nn_le, nn_eq, nI_add, pk_mul, nn_su, gn_lt, gn_le, ng_lt, ng_le, ng_eq, gn_eq, gg_eq, n_m1, n_cl, if_true, if_false, if_pos, if_neg, lt0, ↓b2e (x_isT1 (q := q) (ρ := ρ) (L := L) hP.1 (by omega) hf), ↓b2e (x_isT0 (q := q) (ρ := ρ) (L := L) hP.1 h)]
    · rintro t q ρ L I - ⟨hT, hL, hD, hP, hS, hU, hK, hR⟩
      simp (disch := first | omega | assumption) only [f_X11_alms, ↓bM, ↓bMA, ↓jn_, ↓ob_, ↓b2_, ↓reduceIte, nn_lt, nn_le, nn_eq, nI_add, pk_mul, nn_su, gn_lt, gn_le, ng_lt, ng_le, ng_eq, gn_eq, gg_eq, n_m1, n_cl, if_true, if_false, if_pos, if_neg, lt0, ↓b2e (m_isT1 (q := q) (ρ := ρ) (L := L) hP.1 (by omega) hf), ↓b2e (m_isT0 (q := q) (ρ := ρ) (L := L) hP.1 (by omega) h)]
  by_cases hft : f = t
  · refine fin (-nI 1) ?_ ?_
    · rintro q ρ L I ⟨⟨hT, hL, hD, hP, hS, hU, hK, hR, hρ⟩, hW⟩
      simp (disch := first | omega | assumption) only [f_X10_alms, ↓bX, ↓bXA, ↓jn_, ↓ob_, ↓b2_, ↓reduceIte, nn_lt, nn_le, nn_eq, nI_add, pk_mul, nn_su, gn_lt, gn_le, ng_lt, ng_le, ng_eq, gn_eq, gg_eq, n_m1, n_cl, if_true, if_false, if_pos, if_neg, lt0, ↓b2e (x_isT1 (q := q) (ρ := ρ) (L := L) hP.1 (by omega) hf), ↓b2e (x_isT1 (q := q) (ρ := ρ) (L := L) hP.1 (by omega) ht)]
    · rintro t' q ρ L I - ⟨hT, hL, hD, hP, hS, hU, hK, hR⟩
      simp (disch := first | omega | assumption) only [f_X11_alms, ↓bM, ↓bMA, ↓jn_, ↓ob_, ↓b2_, ↓reduceIte, nn_lt, nn_le, nn_eq, nI_add, pk_mul, nn_su, gn_lt, gn_le, ng_lt, ng_le, ng_eq, gn_eq, gg_eq, n_m1, n_cl, if_true, if_false, if_pos, if_neg, lt0, ↓b2e (m_isT1 (q := q) (ρ := ρ) (L := L) hP.1 (by omega) hf), ↓b2e (m_isT1 (q := q) (ρ := ρ) (L := L) hP.1 (by omega) ht)]
  rcases ixo c 10000 (by omega) with h | ⟨n, hn, rfl⟩
  · refine fin (-nI 1) ?_ ?_
    · rintro q ρ L I ⟨⟨hT, hL, hD, hP, hS, hU, hK, hR, hρ⟩, hW⟩
      rcases h with h | ⟨h1, h2⟩
      · simp (disch := first | omega | assumption) only [f_X10_alms, ↓bX, ↓bXA, ↓jn_, ↓ob_, ↓b2_, ↓reduceIte, nn_lt, nn_le, nn_eq, nI_add, pk_mul, nn_su, gn_lt, gn_le, ng_lt, ng_le, ng_eq, gn_eq, gg_eq, n_m1, n_cl, if_true, if_false, if_pos, if_neg, lt0, ↓b2e (x_isT1 (q := q) (ρ := ρ) (L := L) hP.1 (by omega) hf), ↓b2e (x_isT1 (q := q) (ρ := ρ) (L := L) hP.1 (by omega) ht), i_lt01 h]
      · obtain ⟨j1, j2, j3⟩ := i_9999 (n := 9999) (by omega) h1 h2
        simp (disch := first | omega | assumption) only [f_X10_alms, ↓bX, ↓bXA, ↓jn_, ↓ob_, ↓b2_, ↓reduceIte, nn_lt, nn_le, nn_eq, nI_add, pk_mul, nn_su, gn_lt, gn_le, ng_lt, ng_le, ng_eq, gn_eq, gg_eq, n_m1, n_cl, if_true, if_false, if_pos, if_neg, lt0, ↓b2e (x_isT1 (q := q) (ρ := ρ) (L := L) hP.1 (by omega) hf), ↓b2e (x_isT1 (q := q) (ρ := ρ) (L := L) hP.1 (by omega) ht), j1, j2]
    · rintro t' q ρ L I - ⟨hT, hL, hD, hP, hS, hU, hK, hR⟩
      rcases h with h | ⟨h1, h2⟩
      · simp (disch := first | omega | assumption) only [f_X11_alms, f_X11_in, ↓bM, ↓bMA, ↓jn_, ↓ob_, ↓b2_, ↓reduceIte, nn_lt, nn_le, nn_eq, nI_add, pk_mul, nn_su, gn_lt, gn_le, ng_lt, ng_le, ng_eq, gn_eq, gg_eq, n_m1, n_cl, if_true, if_false, if_pos, if_neg, lt0, ↓b2e (m_isT1 (q := q) (ρ := ρ) (L := L) hP.1 (by omega) hf), ↓b2e (m_isT1 (q := q) (ρ := ρ) (L := L) hP.1 (by omega) ht), i_lt01 h]
      · obtain ⟨j1, j2, j3⟩ := i_9999 (n := 9999) (by omega) h1 h2
        simp (disch := first | omega | assumption) only [f_X11_alms, f_X11_in, ↓bM, ↓bMA, ↓jn_, ↓ob_, ↓b2_, ↓reduceIte, nn_lt, nn_le, nn_eq, nI_add, pk_mul, nn_su, gn_lt, gn_le, ng_lt, ng_le, ng_eq, gn_eq, gg_eq, n_m1, n_cl, if_true, if_false, if_pos, if_neg, lt0, ↓b2e (m_isT1 (q := q) (ρ := ρ) (L := L) hP.1 (by omega) hf), ↓b2e (m_isT1 (q := q) (ρ := ρ) (L := L) hP.1 (by omega) ht), j1, j3]
  by_cases hn0 : n = 0
  · subst hn0
    refine fin (-nI 1) ?_ ?_
    · rintro q ρ L I ⟨⟨hT, hL, hD, hP, hS, hU, hK, hR, hρ⟩, hW⟩
      simp (disch := first | omega | assumption) only [f_X10_alms, ↓bX, ↓bXA, ↓jn_, ↓ob_, ↓b2_, ↓reduceIte, nn_lt, nn_le, nn_eq, nI_add, pk_mul, nn_su, gn_lt, gn_le, ng_lt, ng_le, ng_eq, gn_eq, gg_eq, n_m1, n_cl, if_true, if_false, if_pos, if_neg, lt0, ↓b2e (x_isT1 (q := q) (ρ := ρ) (L := L) hP.1 (by omega) hf), ↓b2e (x_isT1 (q := q) (ρ := ρ) (L := L) hP.1 (by omega) ht)]
    · rintro t' q ρ L I - ⟨hT, hL, hD, hP, hS, hU, hK, hR⟩
      simp (disch := first | omega | assumption) only [f_X11_alms, f_X11_in, ↓bM, ↓bMA, ↓jn_, ↓ob_, ↓b2_, ↓reduceIte, nn_lt, nn_le, nn_eq, nI_add, pk_mul, nn_su, gn_lt, gn_le, ng_lt, ng_le, ng_eq, gn_eq, gg_eq, n_m1, n_cl, if_true, if_false, if_pos, if_neg, lt0, ↓b2e (m_isT1 (q := q) (ρ := ρ) (L := L) hP.1 (by omega) hf), ↓b2e (m_isT1 (q := q) (ρ := ρ) (L := L) hP.1 (by omega) ht)]
  have pf := w5 f hf
  have pt := w5 t ht
  by_cases hpl : scP (gN G) f = scP (gN G) t
  · by_cases hpu : n ≤ scU (gN G) f
    · refine ⟨nI (min 9999 (scU (gN G) t + n)), sRw (sUn (sN G (puC (puC (gN G) f (scU (gN G) f - n)) t (min 9999 (scU (gN G) t + n)))) (puU (gUn G) (gN G))) (gRw G), ⟨w1, w2, w3, w4, WS_pu (WS_pu w5 (by omega)) (Nat.min_le_left _ _), WU_pu w6 w5, w7, w8, w9⟩, XH_s _ _ _ ?_, MH_s _ _ _ ?_⟩
      · rintro q ρ L I ⟨⟨hT, hL, hD, hP, hS, hU, hK, hR, hρ⟩, hW⟩
        obtain ⟨J, e1, e2, e3⟩ := x_mark (q := q) (ρ := ρ) (L := L) w4.1 hU w6 hS
        obtain ⟨K, f1, f2, f3⟩ := x_confirm (q := q) (ρ := ρ) (L := L) w6 e2
        have hS' : XS 19 (gN G) (gP G) K := XS_k (fun i hi => by rw [f3 _ (by omega), e3 _ (by omega)]) hS
        have b1 : I 20 f = nI (scP (gN G) f) := (hS.2.1 f hf).1
        have b2 : I 20 t = nI (scP (gN G) t) := (hS.2.1 t ht).1
        have b3 : I 21 f = nI (scU (gN G) f) := (hS.2.1 f hf).2.1
        have b4 : K 21 f = nI (scU (gN G) f) := (hS'.2.1 f hf).2.1
        have b5 : K 21 t = nI (scU (gN G) t) := (hS'.2.1 t ht).2.1
        refine ⟨L, j_up (j_up K 21 f (nI (scU (gN G) f - n))) 21 t (nI (min 9999 (scU (gN G) t + n))), ?_, Fr_26 (fun a ha => by rw [up_ne (by omega), up_ne (by omega), f3 a (by omega), e3 a (by omega)]), rfl, ?_, XS_pu (XS_pu hS'), XU_k (fun b _ _ => by rw [up_ne (by omega), up_ne (by omega)]) f2⟩
        · simp (disch := first | omega | assumption) only [f_X10_alms, ↓bX, ↓bXA, ↓jn_, ↓ob_, ↓b2_, ↓reduceIte, nn_lt, nn_le, nn_eq, nI_add, pk_mul, nn_su, gn_lt, gn_le, ng_lt, ng_le, ng_eq, gn_eq, gg_eq, n_m1, n_cl, if_true, if_false, if_pos, if_neg, lt0, ↓b2e (x_isT1 (q := q) (ρ := ρ) (L := L) hP.1 (by omega) hf), ↓b2e (x_isT1 (q := q) (ρ := ρ) (L := L) hP.1 (by omega) ht), b1, b2, b3, b4, b5, ↓oe e1, ↓oe f1, up_nk, x_btw, up_eq]
          rw [Nat.min_comm]
        · unfold XW at hW ⊢
          rw [up_ne (by omega), up_ne (by omega), f3 3 (by omega), e3 3 (by omega)]
          exact hW
      · rintro t' q ρ L I ⟨hM, hW⟩
        obtain ⟨hT, hL, hD, hP, hS, hU, hK, hR⟩ := Ms_0 (x := nI 0) hM
        obtain ⟨J, e1, e2, e3⟩ := m_remember (q := q) (ρ := ρ) (L := L) (a := 130) (.inl rfl) hU w6 w4.1 hS
        have hS' : MS 130 0 (gN G) (gP G) J := MS_k (e3.row 130 (fun k => rfl)) hS
        have b1 := (hS.2.1 f hf).1
        have b2 := (hS.2.1 t ht).1
        have b3 := (hS.2.1 f hf).2.1
        have b4 := (hS'.2.1 f hf).2.1
        have b5 := (hS'.2.1 t ht).2.1
        rw [Nat.zero_add] at b1 b2 b3 b4 b5
        refine ⟨ρ, L, j_up (j_up J 130 (4 + f) (nI (scU (gN G) f - n))) 130 (4 + t) (nI (min 9999 (scU (gN G) t + n))), ?_, Fr.up (Fr.up (Fr.tr (Fr.up Fr.rf rfl) (Fr_R e3)) rfl) rfl, ⟨rfl, rfl, rfl⟩, rfl, ?_, MS_pu w4.1 ht (MS_pu w4.1 hf hS'), MU_k (by simp (disch := first | omega | assumption) only [up_ne]) (by simp (disch := first | omega | assumption) only [up_ne]) e2⟩
        · simp (disch := first | omega | assumption) only [f_X11_alms, ↓bM, ↓bMA, ↓jn_, ↓ob_, ↓b2_, ↓reduceIte, nn_lt, nn_le, nn_eq, nI_add, pk_mul, nn_su, gn_lt, gn_le, ng_lt, ng_le, ng_eq, gn_eq, gg_eq, n_m1, n_cl, if_true, if_false, if_pos, if_neg, lt0, ↓b2e (m_isT1 (q := q) (ρ := ρ) (L := L) hP.1 (by omega) hf), ↓b2e (m_isT1 (q := q) (ρ := ρ) (L := L) hP.1 (by omega) ht), m_in, b1, b2, b3, b4, b5, ↓oe e1, up_nk, jmin_nn, up_eq]
        · unfold MW at hW ⊢
          rw [up_ne (by omega), up_ne (by omega), e3 129 12 rfl, up_nk (by omega)]
          exact hW
    · refine fin (-nI 2) ?_ ?_
      · rintro q ρ L I ⟨⟨hT, hL, hD, hP, hS, hU, hK, hR, hρ⟩, hW⟩
        have b1 : I 20 f = nI (scP (gN G) f) := (hS.2.1 f hf).1
        have b2 : I 20 t = nI (scP (gN G) t) := (hS.2.1 t ht).1
        have b3 : I 21 f = nI (scU (gN G) f) := (hS.2.1 f hf).2.1
        simp (disch := first | omega | assumption) only [f_X10_alms, ↓bX, ↓bXA, ↓jn_, ↓ob_, ↓b2_, ↓reduceIte, nn_lt, nn_le, nn_eq, nI_add, pk_mul, nn_su, gn_lt, gn_le, ng_lt, ng_le, ng_eq, gn_eq, gg_eq, n_m1, n_cl, if_true, if_false, if_pos, if_neg, lt0, ↓b2e (x_isT1 (q := q) (ρ := ρ) (L := L) hP.1 (by omega) hf), ↓b2e (x_isT1 (q := q) (ρ := ρ) (L := L) hP.1 (by omega) ht), b1, b2, b3]
      · rintro t' q ρ L I - ⟨hT, hL, hD, hP, hS, hU, hK, hR⟩
        have b1 := (hS.2.1 f hf).1
        have b2 := (hS.2.1 t ht).1
        have b3 := (hS.2.1 f hf).2.1
        rw [Nat.zero_add] at b1 b2 b3
        simp (disch := first | omega | assumption) only [f_X11_alms, ↓bM, ↓bMA, ↓jn_, ↓ob_, ↓b2_, ↓reduceIte, nn_lt, nn_le, nn_eq, nI_add, pk_mul, nn_su, gn_lt, gn_le, ng_lt, ng_le, ng_eq, gn_eq, gg_eq, n_m1, n_cl, if_true, if_false, if_pos, if_neg, lt0, ↓b2e (m_isT1 (q := q) (ρ := ρ) (L := L) hP.1 (by omega) hf), ↓b2e (m_isT1 (q := q) (ρ := ρ) (L := L) hP.1 (by omega) ht), m_in, b1, b2, b3]
  · refine fin (-nI 3) ?_ ?_
    · rintro q ρ L I ⟨⟨hT, hL, hD, hP, hS, hU, hK, hR, hρ⟩, hW⟩
      have b1 : I 20 f = nI (scP (gN G) f) := (hS.2.1 f hf).1
      have b2 : I 20 t = nI (scP (gN G) t) := (hS.2.1 t ht).1
      simp (disch := first | omega | assumption) only [f_X10_alms, ↓bX, ↓bXA, ↓jn_, ↓ob_, ↓b2_, ↓reduceIte, nn_lt, nn_le, nn_eq, nI_add, pk_mul, nn_su, gn_lt, gn_le, ng_lt, ng_le, ng_eq, gn_eq, gg_eq, n_m1, n_cl, if_true, if_false, if_pos, if_neg, lt0, ↓b2e (x_isT1 (q := q) (ρ := ρ) (L := L) hP.1 (by omega) hf), ↓b2e (x_isT1 (q := q) (ρ := ρ) (L := L) hP.1 (by omega) ht), b1, b2]
    · rintro t' q ρ L I - ⟨hT, hL, hD, hP, hS, hU, hK, hR⟩
      have b1 := (hS.2.1 f hf).1
      have b2 := (hS.2.1 t ht).1
      rw [Nat.zero_add] at b1 b2
      simp (disch := first | omega | assumption) only [f_X11_alms, ↓bM, ↓bMA, ↓jn_, ↓ob_, ↓b2_, ↓reduceIte, nn_lt, nn_le, nn_eq, nI_add, pk_mul, nn_su, gn_lt, gn_le, ng_lt, ng_le, ng_eq, gn_eq, gg_eq, n_m1, n_cl, if_true, if_false, if_pos, if_neg, lt0, ↓b2e (m_isT1 (q := q) (ρ := ρ) (L := L) hP.1 (by omega) hf), ↓b2e (m_isT1 (q := q) (ρ := ρ) (L := L) hP.1 (by omega) ht), m_in, b1, b2]
