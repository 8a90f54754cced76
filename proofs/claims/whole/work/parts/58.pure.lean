/-! CODE -/
def frB (g : gL) (n w u : Nat) : Bool := decide (u = w) || decide (n ≤ dif false g (max u w) (min u w))
theorem frB_s {g : gL} {n w u : Nat} : frB g n w u = frB g n u w := by
  unfold frB
  rw [Nat.max_comm, Nat.min_comm]
  by_cases h : u = w
  · simp [h]
  · have h' : ¬ w = u := fun e => h e.symm
    simp [h, h']
theorem x_farL {q : pQ} {ρ : pP} {L : pL} {I : pI} {g : gL} {n j : Nat} (hL : XL g I) (hg : WL g) (hj : j < lxW g) (hn : n ≤ 6) (h0 : ∀ w, w < j → ∀ i, i < 32 → bt (I 107 w) i = (decide (i < j) && frB g n w i)) (h1 : I 107 j = bit j) {kk : jH → Option jH} : ∃ J, f_X0_markFar_L22 5000 103 5 (nI n) (nI j) kk 5000 (nI 0) (hp q ρ L I) = kk (hp q ρ L J) ∧ (∀ w, w < j + 1 → ∀ i, i < 32 → bt (J 107 w) i = (decide (i < j + 1) && frB g n w i)) ∧ ∀ c, c < 104 ∨ 107 < c → J c = I c := by
  have hW := hg.1
  obtain ⟨J, e1, e2, e3, e4⟩ := loE (fun k (J : pI) t => f_X0_markFar_L22 5000 103 5 (nI n) (nI j) kk k (nI t) (hp q ρ L J)) (fun J => kk (hp q ρ L J)) j (fun t J => (∀ w, w < j → ∀ i, i < 32 → bt (J 107 w) i = ((decide (i < j) && frB g n w i) || (decide (i = j) && (decide (w < t) && frB g n w j)))) ∧ (∀ i, i < 32 → bt (J 107 j) i = (decide (i = j) || (decide (i < t) && frB g n j i))) ∧ ∀ c, c < 104 ∨ 107 < c → J c = I c) (by
    intro k J p
    rw [f_X0_markFar_L22]
    simp (disch := first | omega | assumption) only [↓bX, ↓bXA, ↓jn_, ↓ob_, ↓b2_, ↓reduceIte, nn_lt, nn_le, nn_eq, nI_add, pk_mul, nn_su, gn_lt, gn_le, ng_lt, ng_le, ng_eq, gn_eq, gg_eq, n_m1, n_cl, if_true, if_false, if_pos, if_neg, lt0, Nat.le_refl]) (by
    rintro k J t ht ⟨p1, p2, p3⟩
    have hL' : XL g J := XL_k (fun b _ _ => p3 b (by omega)) hL
    obtain ⟨K, f1, f2⟩ := x_difL (q := q) (ρ := ρ) (L := L) hL' hg hj (b := t) (by omega)
    have d1 := dif_le (v := false) hg hj (b := t) (by omega)
    have k7 : K 107 = J 107 := f2 107 (by omega)
    have k3 : ∀ c, c < 104 ∨ 107 < c → K c = I c := fun c hc => (f2 c (by omega)).trans (p3 c hc)
    have f0 : frB g n j t = decide (n ≤ dif false g j t) := by
      unfold frB
      rw [Nat.max_eq_right (by omega), Nat.min_eq_left (by omega)]
      have : ¬ t = j := by omega
      simp [this]
    have f0' : frB g n t j = decide (n ≤ dif false g j t) := by rw [frB_s]; exact f0
    by_cases hle : n ≤ dif false g j t
    · refine ⟨j_up (j_up K 107 j (K 107 j ||| bit t)) 107 t (K 107 t ||| bit j), ?_, fun w hw i hi => ?_, fun i hi => ?_, fun c hc => by rw [up_ne (by omega), up_ne (by omega)]; exact k3 c hc⟩
      · rw [f_X0_markFar_L22]
        simp (disch := first | omega | assumption) only [↓bX, ↓bXA, ↓jn_, ↓ob_, ↓b2_, ↓reduceIte, nn_lt, nn_le, nn_eq, nI_add, pk_mul, nn_su, gn_lt, gn_le, ng_lt, ng_le, ng_eq, gn_eq, gg_eq, n_m1, n_cl, if_true, if_false, if_pos, if_neg, lt0, ↓b2e f1, up_nk]
        rfl
      · by_cases h : w = t
        · subst h
          rw [up_eq, b_or, k7, p1 w hw i hi, bt_bit (by omega) hi]
          by_cases h2 : i = j
          · subst h2
            simp [f0', hle]
          · simp [h2]
        · rw [up_nk h, up_nk (by omega), k7, p1 w hw i hi]
          have h3 : decide (w < t + 1) = decide (w < t) := by
            by_cases h4 : w < t
            · have : w < t + 1 := by omega
              simp [h4, this]
            · have : ¬ w < t + 1 := by omega
              simp [h4, this]
          rw [h3]
      · rw [up_nk (by omega), up_eq, b_or, k7, p2 i hi, bt_bit (by omega) hi]
        by_cases h : i = t
        · subst h
          simp [f0, hle]
        · have h3 : decide (i < t + 1) = decide (i < t) := by
            by_cases h4 : i < t
            · have : i < t + 1 := by omega
              simp [h4, this]
            · have : ¬ i < t + 1 := by omega
              simp [h4, this]
          rw [h3]
          simp [h]
    · refine ⟨K, ?_, fun w hw i hi => ?_, fun i hi => ?_, k3⟩
      · rw [f_X0_markFar_L22]
        simp (disch := first | omega | assumption) only [↓bX, ↓bXA, ↓jn_, ↓ob_, ↓b2_, ↓reduceIte, nn_lt, nn_le, nn_eq, nI_add, pk_mul, nn_su, gn_lt, gn_le, ng_lt, ng_le, ng_eq, gn_eq, gg_eq, n_m1, n_cl, if_true, if_false, if_pos, if_neg, lt0, ↓b2e f1]
      · rw [k7, p1 w hw i hi]
        by_cases h : w = t
        · subst h
          simp [f0', hle]
        · have h3 : decide (w < t + 1) = decide (w < t) := by
            by_cases h4 : w < t
            · have : w < t + 1 := by omega
              simp [h4, this]
            · have : ¬ w < t + 1 := by omega
              simp [h4, this]
          rw [h3]
      · rw [k7, p2 i hi]
        by_cases h : i = t
        · subst h
          simp [f0, hle]
        · have h3 : decide (i < t + 1) = decide (i < t) := by
            by_cases h4 : i < t
            · have : i < t + 1 := by omega
              simp [h4, this]
            · have : ¬ i < t + 1 := by omega
              simp [h4, this]
          rw [h3]) j 5000 I 0 (by omega) (by omega) ⟨fun w hw i hi => by rw [h0 w hw i hi]; simp, fun i hi => by rw [h1, bt_bit (by omega) hi]; simp, fun c _ => rfl⟩
  refine ⟨J, e1, fun w hw i hi => ?_, e4⟩
  by_cases h : w = j
  · subst h
    rw [e3 i hi]
    by_cases h2 : i = w
    · subst h2
      simp [frB]
    · have h3 : decide (i < w + 1) = decide (i < w) := by
        by_cases h4 : i < w
        · have : i < w + 1 := by omega
          simp [h4, this]
        · have : ¬ i < w + 1 := by omega
          simp [h4, this]
      rw [h3]
      simp [h2]
  · rw [e2 w (by omega) i hi]
    by_cases h2 : i = j
    · subst h2
      have : w < i := by omega
      simp [this]
    · have h3 : decide (i < j + 1) = decide (i < j) := by
        by_cases h4 : i < j
        · have : i < j + 1 := by omega
          simp [h4, this]
        · have : ¬ i < j + 1 := by omega
          simp [h4, this]
      rw [h3]
      simp [h2]
theorem x_markFar {q : pQ} {ρ : pP} {L : pL} {I : pI} {g : gL} {n : Nat} (hL : XL g I) (hg : WL g) (hn : n ≤ 6) : ∃ J, f_X0_markFar 5000 103 5 (nI n) (hp q ρ L I) = some (hp q ρ L J) ∧ (∀ w, w < lxW g → ∀ i, i < 32 → bt (J 107 w) i = (decide (i < lxW g) && frB g n w i)) ∧ ∀ c, c < 104 ∨ 107 < c → J c = I c := by
  have hW := hg.1
  obtain ⟨J, e1, e2, e3⟩ := loE (fun k (J : pI) j => f_X0_markFar_L2 5000 103 5 (nI n) k (nI j) (hp q ρ L J)) (fun J => some (hp q ρ L J)) (lxW g) (fun j J => (∀ w, w < j → ∀ i, i < 32 → bt (J 107 w) i = (decide (i < j) && frB g n w i)) ∧ ∀ c, c < 104 ∨ 107 < c → J c = I c) (by
    intro k J p
    have e5 : J 5 0 = nI (lxW g) := by rw [p.2 5 (by omega)]; exact hL.1
    rw [f_X0_markFar_L2]
    simp (disch := first | omega | assumption) only [↓bX, ↓bXA, ↓jn_, ↓ob_, ↓b2_, ↓reduceIte, nn_lt, nn_le, nn_eq, nI_add, pk_mul, nn_su, gn_lt, gn_le, ng_lt, ng_le, ng_eq, gn_eq, gg_eq, n_m1, n_cl, if_true, if_false, if_pos, if_neg, lt0, e5, Nat.le_refl]) (by
    rintro k J j hj ⟨p1, p2⟩
    have e5 : J 5 0 = nI (lxW g) := by rw [p2 5 (by omega)]; exact hL.1
    obtain ⟨K, f1, f2, f3⟩ := x_farL (q := q) (ρ := ρ) (L := L) (I := j_up J 107 j (bit j)) (n := n) (XL_k (fun b _ _ => by rw [up_ne (by omega), p2 b (by omega)]) hL) hg hj hn (fun w hw i hi => by rw [up_nk (by omega)]; exact p1 w hw i hi) up_eq (kk := fun (h13 : jH) => f_X0_markFar_L2 5000 103 5 (nI n) k (nI j + nI 1) h13)
    refine ⟨K, ?_, f2, fun c hc => by rw [f3 c hc, up_ne (by omega)]; exact p2 c hc⟩
    rw [f_X0_markFar_L2]
    simp (disch := first | omega | assumption) only [↓bX, ↓bXA, ↓ob_, lt0, e5, nn_le, if_neg]
    rw [show (nI 1 <<< (nI j &&& nI 31)) = bit j from rfl, f1, nI_add]) (lxW g) 5000 I 0 (by omega) (by omega) ⟨fun w hw => absurd hw (Nat.not_lt_zero w), fun c _ => rfl⟩
  refine ⟨J, ?_, e2, e3⟩
  simp only [f_X0_markFar, kX, lt0]
  exact e1
def Apt (g : gL) (n s : Nat) : Prop := ∀ a, a < lxW g → ∀ b, b < a → s.testBit a = true → s.testBit b = true → n ≤ dif false g a b
def apB (g : gL) (n s : Nat) : Bool := decide (∀ a, a < lxW g → ∀ b, b < a → s.testBit a = true → s.testBit b = true → n ≤ dif false g a b)
theorem apB_t {g : gL} {n s : Nat} : apB g n s = true ↔ Apt g n s := by
  unfold apB Apt
  simp only [decide_eq_true_eq]
theorem x_areFar {q : pQ} {ρ : pP} {L : pL} {I : pI} {g : gL} {n s : Nat} (hg : WL g) (hs : s < 2 ^ lxW g) (hf : ∀ w, w < lxW g → ∀ i, i < 32 → bt (I 107 w) i = (decide (i < lxW g) && frB g n w i)) : f_X0_areFar 5000 103 (nI s) (nI (lxW g)) (hp q ρ L I) = some (bo (apB g n s), hp q ρ L I) := by
  have hW := hg.1
  have sub : ∀ w, w < lxW g → (nI s &&& (I 107 w ^^^ -nI 1) = nI 0 ↔ ∀ u, u < lxW g → s.testBit u = true → frB g n w u = true) := by
    intro w hw
    refine ⟨fun h u hu hb => ?_, fun h => b_ext (fun i hi => ?_)⟩
    · have : bt (nI s &&& (I 107 w ^^^ -nI 1)) u = bt (nI 0) u := by rw [h]
      rw [b_and, b_xor, bt_nI (by omega), hf w hw u (by omega), show bt (-nI 1) u = true from b_m1 u (by omega), show bt (nI 0) u = false from b_0 u, hb, decide_eq_true hu] at this
      cases hh : frB g n w u with
      | true => rfl
      | false => rw [hh] at this; cases this
    · rw [b_and, b_xor, bt_nI hi, hf w hw i hi, show bt (-nI 1) i = true from b_m1 i hi, show bt (nI 0) i = false from b_0 i]
      by_cases hiw : i < lxW g
      · cases hb : s.testBit i with
        | false => rfl
        | true =>
          have := h i hiw hb
          simp [this, hiw]
      · have : s.testBit i = false := Nat.testBit_lt_two_pow (Nat.lt_of_lt_of_le hs (Nat.pow_le_pow_right (by omega) (by omega)))
        rw [this]
        rfl
  simp only [f_X0_areFar, kX, lt0]
  refine lq (S := Unit) (fun o => o = some (bo (apB g n s), hp q ρ L I)) (fun k _ j => f_X0_areFar_L2 5000 103 (nI s) (nI (lxW g)) k (nI j) (hp q ρ L I)) (fun j _ => ∀ w, w < j → s.testBit w = true → ∀ u, u < lxW g → s.testBit u = true → frB g n w u = true) (lxW g) ?_ ?_ (lxW g) 5000 () 0 (by omega) (by omega) (fun w hw => absurd hw (Nat.not_lt_zero w))
  · intro k _ p
    have : apB g n s = true := apB_t.mpr (fun a ha b hb h1 h2 => by
      have := p a ha h1 b (by omega) h2
      unfold frB at this
      rw [Nat.max_eq_right (by omega), Nat.min_eq_left (by omega)] at this
      have hne : ¬ b = a := by omega
      simpa [hne] using this)
    rw [this, bo_t, f_X0_areFar_L2]
    simp (disch := first | omega | assumption) only [↓bX, ↓bXA, ↓jn_, ↓ob_, ↓b2_, ↓reduceIte, nn_lt, nn_le, nn_eq, nI_add, pk_mul, nn_su, gn_lt, gn_le, ng_lt, ng_le, ng_eq, gn_eq, gg_eq, n_m1, n_cl, if_true, if_false, if_pos, if_neg, lt0, Nat.le_refl]
  · intro k _ j hj p K
    cases hb : s.testBit j with
    | false =>
      have hk := K () (fun w hw h1 => by
        by_cases h : w = j
        · subst h; rw [hb] at h1; cases h1
        · exact p w (by omega) h1)
      rw [f_X0_areFar_L2]
      have e : bt (nI s) j = false := by rw [bt_nI (by omega)]; exact hb
      simp (disch := first | omega | assumption) only [↓bX, ↓bXA, ↓jn_, ↓ob_, ↓b2_, ↓reduceIte, nn_lt, nn_le, nn_eq, nI_add, pk_mul, nn_su, gn_lt, gn_le, ng_lt, ng_le, ng_eq, gn_eq, gg_eq, n_m1, n_cl, if_true, if_false, if_pos, if_neg, lt0, sh_1, e, Bool.false_eq_true]
      exact hk
    | true =>
      have e : bt (nI s) j = true := by rw [bt_nI (by omega)]; exact hb
      by_cases hz : nI s &&& (I 107 j ^^^ -nI 1) = nI 0
      · have hz' := (sub j hj).mp hz
        have hk := K () (fun w hw h1 => by
          by_cases h : w = j
          · subst h; exact hz'
          · exact p w (by omega) h1)
        rw [f_X0_areFar_L2]
        simp (disch := first | omega | assumption) only [↓bX, ↓bXA, ↓jn_, ↓ob_, ↓b2_, ↓reduceIte, nn_lt, nn_le, nn_eq, nI_add, pk_mul, nn_su, gn_lt, gn_le, ng_lt, ng_le, ng_eq, gn_eq, gg_eq, n_m1, n_cl, if_true, if_false, if_pos, if_neg, lt0, sh_1, e, hz]
        exact hk
      · have : apB g n s = false := by
          cases ha : apB g n s with
          | false => rfl
          | true =>
            exfalso
            refine hz ((sub j hj).mpr (fun u hu hbu => ?_))
            have hA := apB_t.mp ha
            unfold frB
            by_cases h1 : u = j
            · simp [h1]
            · by_cases h2 : u < j
              · have := hA j hj u h2 hb hbu
                rw [Nat.max_eq_right (by omega), Nat.min_eq_left (by omega)]
                simp [this]
              · have := hA u hu j (by omega) hbu hb
                rw [Nat.max_eq_left (by omega), Nat.min_eq_right (by omega)]
                simp [this]
        rw [this, bo_f, f_X0_areFar_L2]
        simp (disch := first | omega | assumption) only [↓bX, ↓bXA, ↓jn_, ↓ob_, ↓b2_, ↓reduceIte, nn_lt, nn_le, nn_eq, nI_add, pk_mul, nn_su, gn_lt, gn_le, ng_lt, ng_le, ng_eq, gn_eq, gg_eq, n_m1, n_cl, if_true, if_false, if_pos, if_neg, lt0, sh_1, e, hz]
theorem x_priceOf {q : pQ} {ρ : pP} {L : pL} {I : pI} {g : gL} {pr : Nat → Nat} {s : Nat} (hL : XL g I) (hg : WL g) (hpr : ∀ w, w < lxW g → I 115 w = nI (pr w)) : f_X10_priceOf 5000 0 (nI s) (hp q ρ L I) = some (nI (sumN s pr (lxW g)), hp q ρ L I) := by
  have hW := hg.1
  simp only [f_X10_priceOf, kX, lt0]
  refine lo (fun n (a : Nat) j => f_X10_priceOf_L4 5000 0 (nI s) n (nI a) (nI j) (hp q ρ L I)) (fun e a => if s.testBit e = true then a + pr e else a) (fun a => some (nI a, hp q ρ L I)) (lxW g) ?_ ?_ (lxW g) 5000 0 0 (by omega) (by omega)
  · intro n a
    rw [f_X10_priceOf_L4]
    simp (disch := first | omega | assumption) only [↓bX, ↓bXA, ↓jn_, ↓ob_, ↓b2_, ↓reduceIte, nn_lt, nn_le, nn_eq, nI_add, pk_mul, nn_su, gn_lt, gn_le, ng_lt, ng_le, ng_eq, gn_eq, gg_eq, n_m1, n_cl, if_true, if_false, if_pos, if_neg, lt0, hL.1, Nat.le_refl]
  · intro n a j hj
    have e := hpr j hj
    rw [f_X10_priceOf_L4]
    by_cases hb : s.testBit j = true
    · have e2 : bt (nI s) j = true := by rw [bt_nI (by omega)]; exact hb
      simp (disch := first | omega | assumption) only [↓bX, ↓bXA, ↓jn_, ↓ob_, ↓b2_, ↓reduceIte, nn_lt, nn_le, nn_eq, nI_add, pk_mul, nn_su, gn_lt, gn_le, ng_lt, ng_le, ng_eq, gn_eq, gg_eq, n_m1, n_cl, if_true, if_false, if_pos, if_neg, lt0, hL.1, e, sh_1, e2, if_pos hb, Nat.one_mul]
    · have e2 : ¬ bt (nI s) j = true := by rw [bt_nI (by omega)]; exact hb
      simp (disch := first | omega | assumption) only [↓bX, ↓bXA, ↓jn_, ↓ob_, ↓b2_, ↓reduceIte, nn_lt, nn_le, nn_eq, nI_add, pk_mul, nn_su, gn_lt, gn_le, ng_lt, ng_le, ng_eq, gn_eq, gg_eq, n_m1, n_cl, if_true, if_false, if_pos, if_neg, lt0, hL.1, e, sh_1, if_neg e2, if_neg hb, Nat.zero_mul, Nat.add_zero]
theorem m_tollsOf {q : pQ} {ρ : pP} {L : pL} {I : pI} {r : gT} {g : gL} {d : gD} {P S u s : Nat} {hr : Int32} {J : pI} {z : Option Nat} (hQ : MQ_ r g d P S ρ I) (hwr : WR r) (hg : WL g) (h12 : I 130 12 = hr) (hF : Fr tN I J) : ∃ K z', f_X11_tollsOf 5000 129 (nI s) (nI u) (hp q (rr ρ z) L J) = some (nI (sumN s (fun w => tol (cmp r) g w u hr) (lxW g)), hp q (rr ρ z') L K) ∧ Fr tTo J K := by
  have hW := hg.1
  obtain ⟨⟨a, z', K⟩, e1, e2, e3⟩ := loE (fun n (y : Nat × Option Nat × pI) j => f_X11_tollsOf_L5 5000 129 (nI s) (nI u) n (nI y.1) (nI j) (hp q (rr ρ y.2.1) L y.2.2)) (fun y => some (nI y.1, hp q (rr ρ y.2.1) L y.2.2)) (lxW g) (fun j y => y.1 = sumN s (fun w => tol (cmp r) g w u hr) j ∧ Fr tTo J y.2.2) (by
    rintro n ⟨a, z', K⟩ ⟨p1, p2⟩
    simp only [] at p1 p2 ⊢
    have e := (MQ_N (z := z') (Fr.tr hF (tTo_N p2)) hQ).2.1.1
    rw [f_X11_tollsOf_L5]
    simp (disch := first | omega | assumption) only [↓bM, ↓bMA, ↓jn_, ↓ob_, ↓b2_, ↓reduceIte, nn_lt, nn_le, nn_eq, nI_add, pk_mul, nn_su, gn_lt, gn_le, ng_lt, ng_le, ng_eq, gn_eq, gg_eq, n_m1, n_cl, if_true, if_false, if_pos, if_neg, lt0, e, Nat.le_refl]) (by
    rintro n ⟨a, z', K⟩ j hj ⟨p1, p2⟩
    simp only [] at p1 p2
    have e := (MQ_N (z := z') (Fr.tr hF (tTo_N p2)) hQ).2.1.1
    have hh := m_has (d := nI s) (e := j) (by omega) (hp q (rr ρ z') L K)
    rw [bt_nI (by omega)] at hh
    by_cases hb : s.testBit j = true
    · rw [if_pos hb] at hh
      obtain ⟨J1, z1, f1, f2⟩ := m_tollR (q := q) (L := L) (s := u) (z := z') hQ hwr hg h12 hj (Fr.tr hF (tTo_N p2))
      refine ⟨(a + tol (cmp r) g j u hr, z1, J1), ?_, ?_, Fr.tr p2 f2⟩
      · simp only []
        rw [f_X11_tollsOf_L5]
        simp (disch := first | omega | assumption) only [↓bM, ↓bMA, ↓jn_, ↓ob_, ↓b2_, ↓reduceIte, nn_lt, nn_le, nn_eq, nI_add, pk_mul, nn_su, gn_lt, gn_le, ng_lt, ng_le, ng_eq, gn_eq, gg_eq, n_m1, n_cl, if_true, if_false, if_pos, if_neg, lt0, e, ↓b2e hh, ↓b2e f1]
      · rw [sumN_s, if_pos hb, p1]
    · rw [if_neg hb] at hh
      refine ⟨(a, z', K), ?_, ?_, p2⟩
      · simp only []
        rw [f_X11_tollsOf_L5]
        simp (disch := first | omega | assumption) only [↓bM, ↓bMA, ↓jn_, ↓ob_, ↓b2_, ↓reduceIte, nn_lt, nn_le, nn_eq, nI_add, pk_mul, nn_su, gn_lt, gn_le, ng_lt, ng_le, ng_eq, gn_eq, gg_eq, n_m1, n_cl, if_true, if_false, if_pos, if_neg, lt0, e, ↓b2e hh, Nat.add_zero]
      · rw [sumN_s, if_neg hb]
        exact p1) (lxW g) 5000 (0, z, J) 0 (by omega) (by omega) ⟨rfl, Fr.rf⟩
  simp only [] at e1 e2 e3
  refine ⟨K, z', ?_, e3⟩
  rw [← e2]
  simp only [f_X11_tollsOf, kM, lt0]
  exact e1
theorem m_apart {q : pQ} {ρ : pP} {L : pL} {I : pI} {g : gL} {n s : Nat} (hL : ML g I) (hg : WL g) (hn : n ≤ 6) : ∃ J, f_X11_areApart 5000 129 (nI s) (nI n) (hp q ρ L I) = some (bo (apB g n s), hp q ρ L J) ∧ ∀ c, c < 148 ∨ 150 < c → J c = I c := by
  have hW := hg.1
  simp only [f_X11_areApart, kM, lt0]
  refine lq (S := pI) (fun o => ∃ J, o = some (bo (apB g n s), hp q ρ L J) ∧ ∀ c, c < 148 ∨ 150 < c → J c = I c) (fun k J j => f_X11_areApart_L2 5000 129 (nI s) (nI n) k (nI j) (hp q ρ L J)) (fun j J => (∀ c, c < 148 ∨ 150 < c → J c = I c) ∧ ∀ a, a < j → ∀ b, b < a → s.testBit a = true → s.testBit b = true → n ≤ dif false g a b) (lxW g) ?_ ?_ (lxW g) 5000 I 0 (by omega) (by omega) ⟨fun c _ => rfl, fun a ha => absurd ha (Nat.not_lt_zero a)⟩
  · rintro k J ⟨p1, p2⟩
    have e : J 129 2 = nI (lxW g) := by rw [p1 129 (by omega)]; exact hL.1
    refine ⟨J, ?_, p1⟩
    rw [apB_t.mpr p2, bo_t, f_X11_areApart_L2]
    simp (disch := first | omega | assumption) only [↓bM, ↓bMA, ↓jn_, ↓ob_, ↓b2_, ↓reduceIte, nn_lt, nn_le, nn_eq, nI_add, pk_mul, nn_su, gn_lt, gn_le, ng_lt, ng_le, ng_eq, gn_eq, gg_eq, n_m1, n_cl, if_true, if_false, if_pos, if_neg, lt0, e, Nat.le_refl]
  · rintro k J j hj ⟨p1, p2⟩ K
    have e : J 129 2 = nI (lxW g) := by rw [p1 129 (by omega)]; exact hL.1
    have key : ∃ J', f_X11_areApart_L13 5000 129 (nI s) (nI n) (nI j) (fun (h9 : jH) => f_X11_areApart_L2 5000 129 (nI s) (nI n) k (nI j + nI 1) h9) 5000 (nI 0) (hp q ρ L J) = some (bo (apB g n s), hp q ρ L J') ∧ ∀ c, c < 148 ∨ 150 < c → J' c = I c := by
      refine lq (S := pI) (fun o => ∃ J, o = some (bo (apB g n s), hp q ρ L J) ∧ ∀ c, c < 148 ∨ 150 < c → J c = I c) (fun m J t => f_X11_areApart_L13 5000 129 (nI s) (nI n) (nI j) (fun (h9 : jH) => f_X11_areApart_L2 5000 129 (nI s) (nI n) k (nI j + nI 1) h9) m (nI t) (hp q ρ L J)) (fun t J => (∀ c, c < 148 ∨ 150 < c → J c = I c) ∧ ∀ b, b < t → s.testBit j = true → s.testBit b = true → n ≤ dif false g j b) j ?_ ?_ j 5000 J 0 (by omega) (by omega) ⟨p1, fun b hb => absurd hb (Nat.not_lt_zero b)⟩
      · rintro m M ⟨q1, q2⟩
        have hk := K M ⟨q1, fun a ha b hb h1 h2 => by
          by_cases h : a = j
          · subst h; exact q2 b hb h1 h2
          · exact p2 a (by omega) b hb h1 h2⟩
        rw [f_X11_areApart_L13]
        simp (disch := first | omega | assumption) only [↓bM, ↓bMA, ↓jn_, ↓ob_, ↓b2_, ↓reduceIte, nn_lt, nn_le, nn_eq, nI_add, pk_mul, nn_su, gn_lt, gn_le, ng_lt, ng_le, ng_eq, gn_eq, gg_eq, n_m1, n_cl, if_true, if_false, if_pos, if_neg, lt0, Nat.le_refl]
        exact hk
      · rintro m M t ht ⟨q1, q2⟩ K2
        have hj1 := m_has (d := nI s) (e := j) (by omega) (hp q ρ L M)
        have ht1 := m_has (d := nI s) (e := t) (by omega) (hp q ρ L M)
        rw [bt_nI (by omega)] at hj1 ht1
        by_cases hb : s.testBit j = true
        · rw [if_pos hb] at hj1
          by_cases hb2 : s.testBit t = true
          · rw [if_pos hb2] at ht1
            obtain ⟨N, f1, f2⟩ := m_dif (q := q) (ρ := ρ) (L := L) (v := false) (ML_N (Fr_mc q1) hL) hg hj (b := t) (by omega)
            rw [bo_f] at f1
            have d1 := dif_le (v := false) hg hj (b := t) (by omega)
            have n1 : ∀ c, c < 148 ∨ 150 < c → N c = I c := fun c hc => (f2 c hc).trans (q1 c hc)
            by_cases hle : n ≤ dif false g j t
            · have hk := K2 N ⟨n1, fun b hb' h1 h2 => by
                by_cases h : b = t
                · subst h; exact hle
                · exact q2 b (by omega) h1 h2⟩
              rw [f_X11_areApart_L13]
              simp (disch := first | omega | assumption) only [↓bM, ↓bMA, ↓jn_, ↓ob_, ↓b2_, ↓reduceIte, nn_lt, nn_le, nn_eq, nI_add, pk_mul, nn_su, gn_lt, gn_le, ng_lt, ng_le, ng_eq, gn_eq, gg_eq, n_m1, n_cl, if_true, if_false, if_pos, if_neg, lt0, ↓b2e hj1, ↓b2e ht1, ↓b2e f1]
              rw [nI_add] at hk
              exact hk
            · have : apB g n s = false := by
                cases ha : apB g n s with
                | false => rfl
                | true => exact absurd (apB_t.mp ha j hj t ht hb hb2) hle
              refine ⟨N, ?_, n1⟩
              rw [this, bo_f, f_X11_areApart_L13]
              simp (disch := first | omega | assumption) only [↓bM, ↓bMA, ↓jn_, ↓ob_, ↓b2_, ↓reduceIte, nn_lt, nn_le, nn_eq, nI_add, pk_mul, nn_su, gn_lt, gn_le, ng_lt, ng_le, ng_eq, gn_eq, gg_eq, n_m1, n_cl, if_true, if_false, if_pos, if_neg, lt0, ↓b2e hj1, ↓b2e ht1, ↓b2e f1]
          · rw [if_neg hb2] at ht1
            have hk := K2 M ⟨q1, fun b hb' h1 h2 => by
              by_cases h : b = t
              · subst h; exact absurd h2 hb2
              · exact q2 b (by omega) h1 h2⟩
            rw [f_X11_areApart_L13]
            simp (disch := first | omega | assumption) only [↓bM, ↓bMA, ↓jn_, ↓ob_, ↓b2_, ↓reduceIte, nn_lt, nn_le, nn_eq, nI_add, pk_mul, nn_su, gn_lt, gn_le, ng_lt, ng_le, ng_eq, gn_eq, gg_eq, n_m1, n_cl, if_true, if_false, if_pos, if_neg, lt0, ↓b2e hj1, ↓b2e ht1]
            rw [nI_add] at hk
            exact hk
        · rw [if_neg hb] at hj1
          have hk := K2 M ⟨q1, fun b hb' h1 h2 => absurd h1 hb⟩
          rw [f_X11_areApart_L13]
          simp (disch := first | omega | assumption) only [↓bM, ↓bMA, ↓jn_, ↓ob_, ↓b2_, ↓reduceIte, nn_lt, nn_le, nn_eq, nI_add, pk_mul, nn_su, gn_lt, gn_le, ng_lt, ng_le, ng_eq, gn_eq, gg_eq, n_m1, n_cl, if_true, if_false, if_pos, if_neg, lt0, ↓b2e hj1]
          rw [nI_add] at hk
          exact hk
    rw [f_X11_areApart_L2]
    simp (disch := first | omega | assumption) only [↓bM, ↓ob_, lt0, e, nn_le, if_neg]
    exact key
/-- the best set so far -/
def cdS (ap : Nat → Bool) (T : Nat → Nat) (s b : Nat) : Nat := if ¬ (bc (nI s) - bc (nI b) < nI 0) ∧ ap s = true ∧ (nI 0 < bc (nI s) - bc (nI b) ∨ T s < T b) then s else b
def cdB (ap : Nat → Bool) (T : Nat → Nat) (n : Nat) : Nat := fo (fun k b => cdS ap T (k + 1) b) 0 n 0
theorem cdB_s {ap : Nat → Bool} {T : Nat → Nat} {n : Nat} : cdB ap T (n + 1) = cdS ap T (n + 1) (cdB ap T n) := by
  unfold cdB
  rw [fo_last, Nat.zero_add]
theorem cdB_le {ap : Nat → Bool} {T : Nat → Nat} : ∀ n, cdB ap T n ≤ n
  | 0 => Nat.le_refl 0
  | n + 1 => by
    have := cdB_le (ap := ap) (T := T) n
    rw [cdB_s]
    unfold cdS
    split <;> omega
theorem i_tri {x : Int32} (h1 : ¬ x < nI 0) (h2 : ¬ x = nI 0) : nI 0 < x := by
  rw [Int32.lt_iff_toInt_lt, n_ti (by omega)] at h1 ⊢
  rw [← Int32.toInt_inj, n_ti (by omega)] at h2
  omega
theorem i_irr {x : Int32} (h : x = nI 0) : ¬ nI 0 < x := by
  rw [h, nn_lt (by omega) (by omega)]
  omega
theorem i_ntri {x : Int32} (h1 : ¬ x < nI 0) (h2 : ¬ nI 0 < x) : x = nI 0 := by
  rw [Int32.lt_iff_toInt_lt, n_ti (by omega)] at h1 h2
  rw [← Int32.toInt_inj, n_ti (by omega)]
  omega
theorem k_code (a : Int32) : ∀ G, Wr G → ∃ v G', Wr G' ∧ XH (f_X10_code 5000 0 a) G v G' ∧ MH (f_X11_code 5000 129 a) G v G' := by
  intro G hG
  have hG' := hG
  obtain ⟨w1, w2, w3, w4, w5, w6, w7, w8, w9⟩ := hG
  have hW10 := w2.1
  rcases ixo a 7 (by omega) with h | ⟨n, hn, rfl⟩
  · refine ⟨-nI 1, G, hG', XH_0 ?_, MH_0 ?_⟩
    · intro q ρ L I hX
      by_cases h0 : a < nI 0
      · simp (disch := first | omega | assumption) only [f_X10_code, ↓bX, ↓bXA, ↓jn_, ↓ob_, ↓b2_, ↓reduceIte, nn_lt, nn_le, nn_eq, nI_add, pk_mul, nn_su, gn_lt, gn_le, ng_lt, ng_le, ng_eq, gn_eq, gg_eq, n_m1, n_cl, if_true, if_false, if_pos, if_neg, lt0, h0]
      · have h1 := le_out (n := 6) (by omega) h h0
        simp (disch := first | omega | assumption) only [f_X10_code, ↓bX, ↓bXA, ↓jn_, ↓ob_, ↓b2_, ↓reduceIte, nn_lt, nn_le, nn_eq, nI_add, pk_mul, nn_su, gn_lt, gn_le, ng_lt, ng_le, ng_eq, gn_eq, gg_eq, n_m1, n_cl, if_true, if_false, if_pos, if_neg, lt0, h0, h1]
    · intro t q ρ L I hM
      simp (disch := first | omega | assumption) only [f_X11_code, ↓bM, ↓bMA, ↓jn_, ↓ob_, ↓b2_, ↓reduceIte, nn_lt, nn_le, nn_eq, nI_add, pk_mul, nn_su, gn_lt, gn_le, ng_lt, ng_le, ng_eq, gn_eq, gg_eq, n_m1, n_cl, if_true, if_false, if_pos, if_neg, lt0, m_inO (n := 6) (by omega) h]
  obtain ⟨T, hT⟩ : ∃ T : Nat → Nat, T = fun s => sumN s (fun w => tol (cmp (gRu G)) (gLx G) w 0 (scH (gN G))) (lxW (gLx G)) := ⟨_, rfl⟩
  have bT : ∀ s, T s ≤ 594 * 10 := fun s => by
    rw [hT]
    have := sumN_le (s := s) (k := 594) (f := fun w => tol (cmp (gRu G)) (gLx G) w 0 (scH (gN G))) (lxW (gLx G)) (fun e he => tol_le w2 he)
    simp only []
    omega
  have hp0 : 1 ≤ 2 ^ lxW (gLx G) := Nat.one_le_two_pow
  have hp1 : 2 ^ lxW (gLx G) ≤ 2 ^ 10 := Nat.pow_le_pow_right (by omega) hW10
  obtain ⟨Z, hZ⟩ : ∃ Z, Z = 2 ^ lxW (gLx G) := ⟨_, rfl⟩
  rw [← hZ] at hp0 hp1
  have hbit : nI 1 <<< (nI (lxW (gLx G)) &&& nI 31) = nI Z := by
    rw [hZ]
    exact bit_n (by omega)
  obtain ⟨B, hB⟩ : ∃ B, B = cdB (apB (gLx G) n) T (Z - 1) := ⟨_, rfl⟩
  have hBl : B ≤ Z - 1 := by rw [hB]; exact cdB_le _
  refine ⟨bc (nI B), sRw G (1, fun _ => (nI B).toInt64), ⟨w1, w2, w3, w4, w5, w6, w7, by simp only []; omega, w9⟩, XH_q _ ?_, MH_q _ ?_⟩
  · intro q ρ L I hX
    obtain ⟨J, e1, e2, e3, e4, hA, z⟩ := x_pr hG' 0 q ρ L I hX
    obtain ⟨⟨hT', hL, hD, hP, hS, hU, hK, hR, hρ⟩, hW⟩ := hX
    obtain ⟨K, f1, f2, f3⟩ := x_markFar (q := q) (ρ := ρ) (L := L) (n := n) e4 w2 (by omega)
    have hLK : XL (gLx G) K := XL_k (fun b _ _ => f3 b (by omega)) e4
    have k5 := hLK.1
    have hpr : ∀ w, w < lxW (gLx G) → K 115 w = nI (tol (cmp (gRu G)) (gLx G) w 0 (scH (gN G))) := fun w hw => by rw [f3 115 (by omega)]; exact e2 w hw
    have hpo : ∀ s, f_X10_priceOf 5000 0 (nI s) (hp q ρ L K) = some (nI (T s), hp q ρ L K) := fun s => by rw [hT]; exact x_priceOf hLK w2 hpr
    obtain ⟨b, i1, i0, i2⟩ := loE (fun m (b : Nat) j => f_X10_code_L41 5000 0 (fun (y25 : Int32) (h26 : jH) =>
          (jg_R 10 1 h26 0).bind (fun v27 =>
          (f_X6_tell 5000 v27 (y25.toInt64) h26).bind (fun h28 =>
          j_b2 (f_J6_bitCount_0f7a4 5000 y25 h28) (fun v30 h29 =>
          some (v30, h29))))) m (nI b) (nI j) (hp q ρ L K)) (fun b => (jg_R 10 1 (hp q ρ L K) 0).bind (fun v27 =>
          (f_X6_tell 5000 v27 ((nI b).toInt64) (hp q ρ L K)).bind (fun h28 =>
          j_b2 (f_J6_bitCount_0f7a4 5000 (nI b) h28) (fun v30 h29 =>
          some (v30, h29))))) Z (fun j b => 1 ≤ j ∧ b = cdB (apB (gLx G) n) T (j - 1)) (by
      intro m b p
      rw [f_X10_code_L41]
      simp (disch := first | omega | assumption) only [↓bX, ↓ob_, lt0, k5, hbit, nn_le, Nat.le_refl, if_true]) (by
      rintro m b j hj ⟨p0, p1⟩
      obtain ⟨i, rfl⟩ : ∃ i, j = i + 1 := ⟨j - 1, by omega⟩
      rw [Nat.add_sub_cancel] at p1
      have haf := x_areFar (q := q) (ρ := ρ) (L := L) (I := K) (s := i + 1) w2 (by rw [← hZ]; exact hj) f2
      have b1 := bT (i + 1)
      have b2' := bT b
      refine ⟨cdS (apB (gLx G) n) T (i + 1) b, ?_, by omega, by rw [Nat.add_sub_cancel, cdB_s, ← p1]⟩
      rw [f_X10_code_L41]
      by_cases c1 : bc (nI (i + 1)) - bc (nI b) < nI 0
      · rw [show cdS (apB (gLx G) n) T (i + 1) b = b from if_neg (fun h => h.1 c1)]
        simp (disch := first | omega | assumption) only [↓bX, ↓bXA, ↓jn_, ↓ob_, ↓b2_, ↓reduceIte, nn_lt, nn_le, nn_eq, nI_add, pk_mul, nn_su, gn_lt, gn_le, ng_lt, ng_le, ng_eq, gn_eq, gg_eq, n_m1, n_cl, if_true, if_false, if_pos, if_neg, lt0, k5, hbit, bc_eq, c1]
      · cases hap : apB (gLx G) n (i + 1) with
        | false =>
          rw [hap, bo_f] at haf
          rw [show cdS (apB (gLx G) n) T (i + 1) b = b from if_neg (fun h => by rw [hap] at h; cases h.2.1)]
          simp (disch := first | omega | assumption) only [↓bX, ↓bXA, ↓jn_, ↓ob_, ↓b2_, ↓reduceIte, nn_lt, nn_le, nn_eq, nI_add, pk_mul, nn_su, gn_lt, gn_le, ng_lt, ng_le, ng_eq, gn_eq, gg_eq, n_m1, n_cl, if_true, if_false, if_pos, if_neg, lt0, k5, hbit, bc_eq, c1, ↓b2e haf]
        | true =>
          rw [hap, bo_t] at haf
          by_cases c2 : nI 0 < bc (nI (i + 1)) - bc (nI b)
          · rw [show cdS (apB (gLx G) n) T (i + 1) b = i + 1 from if_pos ⟨c1, hap, .inl c2⟩]
            simp (disch := first | omega | assumption) only [↓bX, ↓bXA, ↓jn_, ↓ob_, ↓b2_, ↓reduceIte, nn_lt, nn_le, nn_eq, nI_add, pk_mul, nn_su, gn_lt, gn_le, ng_lt, ng_le, ng_eq, gn_eq, gg_eq, n_m1, n_cl, if_true, if_false, if_pos, if_neg, lt0, k5, hbit, bc_eq, c1, ↓b2e haf, c2]
          · by_cases c3 : T (i + 1) < T b
            · rw [show cdS (apB (gLx G) n) T (i + 1) b = i + 1 from if_pos ⟨c1, hap, .inr c3⟩]
              simp (disch := first | omega | assumption) only [↓bX, ↓bXA, ↓jn_, ↓ob_, ↓b2_, ↓reduceIte, nn_lt, nn_le, nn_eq, nI_add, pk_mul, nn_su, gn_lt, gn_le, ng_lt, ng_le, ng_eq, gn_eq, gg_eq, n_m1, n_cl, if_true, if_false, if_pos, if_neg, lt0, k5, hbit, bc_eq, c1, ↓b2e haf, c2, ↓b2e (hpo (i + 1)), ↓b2e (hpo b)]
            · rw [show cdS (apB (gLx G) n) T (i + 1) b = b from if_neg (fun h => by rcases h.2.2 with h | h; exact c2 h; exact c3 h)]
              simp (disch := first | omega | assumption) only [↓bX, ↓bXA, ↓jn_, ↓ob_, ↓b2_, ↓reduceIte, nn_lt, nn_le, nn_eq, nI_add, pk_mul, nn_su, gn_lt, gn_le, ng_lt, ng_le, ng_eq, gn_eq, gg_eq, n_m1, n_cl, if_true, if_false, if_pos, if_neg, lt0, k5, hbit, bc_eq, c1, ↓b2e haf, c2, ↓b2e (hpo (i + 1)), ↓b2e (hpo b)]) (Z - 1) 5000 0 1 (by omega) (by omega) ⟨Nat.le_refl 1, rfl⟩
    rw [← hB] at i2
    subst i2
    refine ⟨ρ, j_up L 4 0 (nI b).toInt64, j_up K 3 1 (nI 1), ?_, ?_, ⟨rfl, rfl, hρ⟩, by rw [up_ne (by omega)], XW_1⟩
    · rw [f_X10_code]
      simp (disch := first | omega | assumption) only [↓bX, ↓ob_, lt0, nn_le, nn_lt, if_neg, if_pos, ↓oe e1, ↓oe f1]
      rw [i1]
      simp (disch := first | omega | assumption) only [↓bX, ↓bXA, ↓jn_, ↓ob_, ↓b2_, ↓reduceIte, nn_lt, nn_le, nn_eq, nI_add, pk_mul, nn_su, gn_lt, gn_le, ng_lt, ng_le, ng_eq, gn_eq, gg_eq, n_m1, n_cl, if_true, if_false, if_pos, if_neg, lt0, ↓oe (x_tell1 (q := q) (ρ := ρ) (L := L) (I := K)), bc_eq]
    · refine Fr.up (Fr.tr e3 (fun c k hh => ?_)) (by rcases hA with e | e <;> rw [e] <;> rfl)
      by_cases h1 : c < 104 ∨ 107 < c
      · rw [f3 c h1]
      · exfalso
        have : c = 104 ∨ c = 105 ∨ c = 106 ∨ c = 107 := by omega
        rcases this with rfl | rfl | rfl | rfl <;> cases hh
  · rintro t q ρ L I ⟨hM, hW⟩
    have hM0 := Ms_0 (x := nI 0) hM
    have hQ := MQ_of hM0
    have h12 := hM0.2.2.2.2.1.1.1
    rw [Nat.zero_add] at h12
    have hto : ∀ (s : Nat) (z : Option Nat) (J : pI), Fr tN (j_up I 129 13 (nI 0)) J → ∃ K z', f_X11_tollsOf 5000 129 (nI s) (nI 0) (hp q (rr ρ z) L J) = some (nI (T s), hp q (rr ρ z') L K) ∧ Fr tTo J K := fun s z J hF => by
      rw [hT]
      exact m_tollsOf hQ w9 w2 h12 hF
    obtain ⟨⟨b, z, K⟩, i1, i0, i2, i3⟩ := loE (fun m (y : Nat × Option Nat × pI) j => f_X11_code_L21 5000 129 (nI n) (fun (y18 : Int32) (h19 : jH) =>
        (jp_I 11 12 h19 129 (nI 0)).bind (fun h20 =>
        (f_X11_tell 5000 129 (y18.toInt64) h20).bind (fun h21 =>
        j_b2 (f_J6_bitCount_0f7a4 5000 y18 h21) (fun v23 h22 =>
        some (v23, h22))))) m (nI y.1) (nI j) (hp q (rr ρ y.2.1) L y.2.2)) (fun y => (jp_I 11 12 (hp q (rr ρ y.2.1) L y.2.2) 129 (nI 0)).bind (fun h20 =>
        (f_X11_tell 5000 129 ((nI y.1).toInt64) h20).bind (fun h21 =>
        j_b2 (f_J6_bitCount_0f7a4 5000 (nI y.1) h21) (fun v23 h22 =>
        some (v23, h22))))) Z (fun j y => 1 ≤ j ∧ y.1 = cdB (apB (gLx G) n) T (j - 1) ∧ Fr tN (j_up I 129 13 (nI 0)) y.2.2) (by
      rintro m ⟨b, z, K⟩ ⟨p0, p1, p2⟩
      simp only [] at p0 p1 p2 ⊢
      have k5 := (MQ_N (z := z) p2 hQ).2.1.1
      rw [f_X11_code_L21]
      simp (disch := first | omega | assumption) only [↓bM, ↓ob_, lt0, k5, hbit, nn_le, Nat.le_refl, if_true]) (by
      rintro m ⟨b, z, K⟩ j hj ⟨p0, p1, p2⟩
      simp only [] at p0 p1 p2
      obtain ⟨i, rfl⟩ : ∃ i, j = i + 1 := ⟨j - 1, by omega⟩
      rw [Nat.add_sub_cancel] at p1
      have k5 := (MQ_N (z := z) p2 hQ).2.1.1
      have b1 := bT (i + 1)
      have b2' := bT b
      by_cases c1 : bc (nI (i + 1)) - bc (nI b) < nI 0
      · refine ⟨(cdS (apB (gLx G) n) T (i + 1) b, z, K), ?_, by omega, by rw [Nat.add_sub_cancel, cdB_s, ← p1], p2⟩
        rw [show cdS (apB (gLx G) n) T (i + 1) b = b from if_neg (fun h => h.1 c1)]
        simp only []
        rw [f_X11_code_L21]
        simp (disch := first | omega | assumption) only [↓bM, ↓bMA, ↓jn_, ↓ob_, ↓b2_, ↓reduceIte, nn_lt, nn_le, nn_eq, nI_add, pk_mul, nn_su, gn_lt, gn_le, ng_lt, ng_le, ng_eq, gn_eq, gg_eq, n_m1, n_cl, if_true, if_false, if_pos, if_neg, lt0, k5, hbit, bc_eq, c1]
      · by_cases c2 : bc (nI (i + 1)) - bc (nI b) = nI 0
        · have c2' := i_irr c2
          obtain ⟨M, z1, g1, g2⟩ := hto (i + 1) z K p2
          obtain ⟨N, z2, j1, j2⟩ := hto b z1 M (Fr.tr p2 (tTo_N g2))
          have frN := Fr.tr p2 (tTo_N (Fr.tr g2 j2))
          by_cases c3 : T (i + 1) < T b
          · obtain ⟨R, r1, r2⟩ := m_apart (q := q) (ρ := rr ρ z2) (L := L) (I := N) (n := n) (s := i + 1) (MQ_N (z := z2) frN hQ).2.1 w2 (by omega)
            refine ⟨(cdS (apB (gLx G) n) T (i + 1) b, z2, R), ?_, by omega, by rw [Nat.add_sub_cancel, cdB_s, ← p1], Fr.tr frN (Fr_mc r2)⟩
            simp only []
            rw [f_X11_code_L21]
            cases hap : apB (gLx G) n (i + 1) with
            | false =>
              rw [hap, bo_f] at r1
              rw [show cdS (apB (gLx G) n) T (i + 1) b = b from if_neg (fun h => by rw [hap] at h; cases h.2.1)]
              simp (disch := first | omega | assumption) only [↓bM, ↓bMA, ↓jn_, ↓ob_, ↓b2_, ↓reduceIte, nn_lt, nn_le, nn_eq, nI_add, pk_mul, nn_su, gn_lt, gn_le, ng_lt, ng_le, ng_eq, gn_eq, gg_eq, n_m1, n_cl, if_true, if_false, if_pos, if_neg, lt0, k5, hbit, bc_eq, c2, ↓b2e g1, ↓b2e j1, ↓b2e r1]
            | true =>
              rw [hap, bo_t] at r1
              rw [show cdS (apB (gLx G) n) T (i + 1) b = i + 1 from if_pos ⟨c1, hap, .inr c3⟩]
              simp (disch := first | omega | assumption) only [↓bM, ↓bMA, ↓jn_, ↓ob_, ↓b2_, ↓reduceIte, nn_lt, nn_le, nn_eq, nI_add, pk_mul, nn_su, gn_lt, gn_le, ng_lt, ng_le, ng_eq, gn_eq, gg_eq, n_m1, n_cl, if_true, if_false, if_pos, if_neg, lt0, k5, hbit, bc_eq, c2, ↓b2e g1, ↓b2e j1, ↓b2e r1]
          · refine ⟨(cdS (apB (gLx G) n) T (i + 1) b, z2, N), ?_, by omega, by rw [Nat.add_sub_cancel, cdB_s, ← p1], frN⟩
            rw [show cdS (apB (gLx G) n) T (i + 1) b = b from if_neg (fun h => by rcases h.2.2 with h | h; exact c2' h; exact c3 h)]
            simp only []
            rw [f_X11_code_L21]
            simp (disch := first | omega | assumption) only [↓bM, ↓bMA, ↓jn_, ↓ob_, ↓b2_, ↓reduceIte, nn_lt, nn_le, nn_eq, nI_add, pk_mul, nn_su, gn_lt, gn_le, ng_lt, ng_le, ng_eq, gn_eq, gg_eq, n_m1, n_cl, if_true, if_false, if_pos, if_neg, lt0, k5, hbit, bc_eq, c2, ↓b2e g1, ↓b2e j1]
        · have c4 := i_tri c1 c2
          obtain ⟨R, r1, r2⟩ := m_apart (q := q) (ρ := rr ρ z) (L := L) (I := K) (n := n) (s := i + 1) (MQ_N (z := z) p2 hQ).2.1 w2 (by omega)
          refine ⟨(cdS (apB (gLx G) n) T (i + 1) b, z, R), ?_, by omega, by rw [Nat.add_sub_cancel, cdB_s, ← p1], Fr.tr p2 (Fr_mc r2)⟩
          simp only []
          rw [f_X11_code_L21]
          cases hap : apB (gLx G) n (i + 1) with
          | false =>
            rw [hap, bo_f] at r1
            rw [show cdS (apB (gLx G) n) T (i + 1) b = b from if_neg (fun h => by rw [hap] at h; cases h.2.1)]
            simp (disch := first | omega | assumption) only [↓bM, ↓bMA, ↓jn_, ↓ob_, ↓b2_, ↓reduceIte, nn_lt, nn_le, nn_eq, nI_add, pk_mul, nn_su, gn_lt, gn_le, ng_lt, ng_le, ng_eq, gn_eq, gg_eq, n_m1, n_cl, if_true, if_false, if_pos, if_neg, lt0, k5, hbit, bc_eq, c1, c2, ↓b2e r1]
          | true =>
            rw [hap, bo_t] at r1
            rw [show cdS (apB (gLx G) n) T (i + 1) b = i + 1 from if_pos ⟨c1, hap, .inl c4⟩]
            simp (disch := first | omega | assumption) only [↓bM, ↓bMA, ↓jn_, ↓ob_, ↓b2_, ↓reduceIte, nn_lt, nn_le, nn_eq, nI_add, pk_mul, nn_su, gn_lt, gn_le, ng_lt, ng_le, ng_eq, gn_eq, gg_eq, n_m1, n_cl, if_true, if_false, if_pos, if_neg, lt0, k5, hbit, bc_eq, c1, c2, ↓b2e r1]) (Z - 1) 5000 (0, ρ.2.2.1, j_up I 129 13 (nI 0)) 1 (by omega) (by omega) ⟨Nat.le_refl 1, rfl, Fr.rf⟩
    simp only [] at i1 i0 i2 i3
    rw [← hB] at i2
    subst i2
    rw [rr_id] at i1
    refine ⟨rr ρ z, j_up L 136 0 (nI b).toInt64, j_up K 129 12 (nI 1), ?_, Fr.up (Fr.tr (Fr.up Fr.rf rfl) i3) rfl, ⟨rfl, rfl, rfl⟩, by rw [up_ne (by omega)], MW_1⟩
    have hin := m_in n 0 6 (hp q ρ L (j_up I 129 13 (nI 0))) (by omega) (by omega) (by omega)
    rw [if_pos (by omega)] at hin
    rw [f_X11_code]
    simp (disch := first | omega | assumption) only [↓bM, ↓ob_, lt0, ↓b2e hin, nn_eq, if_neg, if_false]
    rw [i1]
    simp (disch := first | omega | assumption) only [↓bM, ↓bMA, ↓jn_, ↓ob_, ↓b2_, ↓reduceIte, nn_lt, nn_le, nn_eq, nI_add, pk_mul, nn_su, gn_lt, gn_le, ng_lt, ng_le, ng_eq, gn_eq, gg_eq, n_m1, n_cl, if_true, if_false, if_pos, if_neg, lt0, m_tell, bc_eq]
