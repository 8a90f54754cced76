/-! BEST -/
theorem nI_or (a b : Nat) : nI a ||| nI b = nI (a ||| b) := b_ext (fun i hi => by rw [b_or, bt_nI hi, bt_nI hi, bt_nI hi, Nat.testBit_or])
theorem bit_n {n : Nat} (h : n < 32) : bit n = nI (2 ^ n) := b_ext (fun i hi => by
  rw [bt_bit h hi, bt_nI hi, Nat.testBit_two_pow]
  by_cases g : i = n
  · subst g; simp
  · have g' : ¬ n = i := fun e => g e.symm
    simp [g, g'])
theorem mk_nat (p : Nat → Bool) : ∀ n, n ≤ 31 → ∃ O, O < 2 ^ n ∧ mk p n = nI O
  | 0, _ => ⟨0, by omega, rfl⟩
  | n + 1, h => by
    obtain ⟨O, h1, h2⟩ := mk_nat p n (by omega)
    have h3 : (2 : Nat) ^ n < 2 ^ (n + 1) := Nat.pow_lt_pow_right (by omega) (by omega)
    rw [mk_s]
    split
    · refine ⟨O ||| 2 ^ n, Nat.or_lt_two_pow (by omega) h3, ?_⟩
      rw [h2, bit_n (by omega), nI_or]
    · exact ⟨O, by omega, h2⟩
def sumN (s : Nat) (f : Nat → Nat) (n : Nat) : Nat := fo (fun e a => if s.testBit e = true then a + f e else a) 0 n 0
theorem sumN_s {s : Nat} {f : Nat → Nat} {n : Nat} : sumN s f (n + 1) = if s.testBit n = true then sumN s f n + f n else sumN s f n := by
  unfold sumN
  rw [fo_last, Nat.zero_add]
theorem sumN_le {s k : Nat} {f : Nat → Nat} : ∀ n, (∀ e, e < n → f e ≤ k) → sumN s f n ≤ k * n
  | 0, _ => Nat.le_refl 0
  | n + 1, h => by
    have ih := sumN_le (s := s) n (fun e he => h e (by omega))
    have hn := h n (by omega)
    rw [sumN_s, Nat.mul_succ]
    split <;> omega
theorem sumS_n {s : Nat} {f : Nat → Nat} : ∀ n, n ≤ 32 → sumS (nI s) (fun e => nI (f e)) n = nI (sumN s f n)
  | 0, _ => rfl
  | n + 1, h => by
    have ih := sumS_n (s := s) (f := f) n (by omega)
    unfold sumS at ih ⊢
    rw [fo_last, ih, Nat.zero_add, bt_nI (by omega), sumN_s]
    split
    · rw [show nI 1 * nI (f n) = nI (f n) from Int32.one_mul _, nI_add]
    · rw [show nI 0 * nI (f n) = nI 0 from Int32.zero_mul, add_0]
def bstS (sub : Nat → Bool) (T V : Nat → Nat) (pu set : Nat) (a : Nat × Nat × Nat) : Nat × Nat × Nat := if sub set = true ∧ T set ≤ pu ∧ (a.2.1 < V set ∨ (V set = a.2.1 ∧ T set < a.2.2)) then (set, V set, T set) else a
def bst (sub : Nat → Bool) (T V : Nat → Nat) (pu n : Nat) : Nat × Nat × Nat := fo (fun k a => bstS sub T V pu (k + 1) a) 0 n (0, 0, 0)
theorem bst_s {sub : Nat → Bool} {T V : Nat → Nat} {pu n : Nat} : bst sub T V pu (n + 1) = bstS sub T V pu (n + 1) (bst sub T V pu n) := by
  unfold bst
  rw [fo_last, Nat.zero_add]
theorem bst_le {sub : Nat → Bool} {T V : Nat → Nat} {pu : Nat} (hT : ∀ s, T s ≤ 10000) (hV : ∀ s, V s ≤ 10000) : ∀ n, (bst sub T V pu n).1 ≤ n ∧ (bst sub T V pu n).2.1 ≤ 10000 ∧ (bst sub T V pu n).2.2 ≤ 10000
  | 0 => by show 0 ≤ 0 ∧ 0 ≤ 10000 ∧ 0 ≤ 10000; omega
  | n + 1 => by
    have ih := bst_le (sub := sub) (pu := pu) hT hV n
    rw [bst_s]
    unfold bstS
    split
    · exact ⟨Nat.le_refl _, hV _, hT _⟩
    · exact ⟨by omega, ih.2⟩
def eP (g : gL) (d : gD) (pr : Nat → Nat) (e : Nat) : Nat := match chF g (duM d e) pr 0 with
  | none => 0
  | some w => pr w
theorem eP_n {g : gL} {d : gD} {pr : Nat → Nat} {e : Nat} (h : chF g (duM d e) pr 0 = none) : eP g d pr e = 0 := by unfold eP; rw [h]
theorem eP_s {g : gL} {d : gD} {pr : Nat → Nat} {e w : Nat} (h : chF g (duM d e) pr 0 = some w) : eP g d pr e = pr w := by unfold eP; rw [h]
theorem eP_le {g : gL} {d : gD} {pr : Nat → Nat} {e : Nat} (h : ∀ w, w < lxW g → pr w ≤ 594) : eP g d pr e ≤ 594 := by
  cases hc : chF g (duM d e) pr 0 with
  | none => rw [eP_n hc]; omega
  | some w => rw [eP_s hc]; exact h w (abest_in hc).1
def bOp (g : gL) (d : gD) (dn : Int32) (t s : Nat) (pr : Nat → Nat) (e : Nat) : Bool := (decide (duW d e = t) && !bt dn e) && (decide (duP d e = s) && (chF g (duM d e) pr 0).isSome)
theorem x_openL {q : pQ} {ρ : pP} {L : pL} {I : pI} {g : gL} {d : gD} {P S : Nat} {pr : Nat → Nat} {x0 : Int32} (hL : XL g I) (hg : WL g) (hD : XD d I) (hd : WD d P S) (hpr : ∀ w, w < lxW g → I 115 w = nI (pr w)) (hpb : ∀ w, w < lxW g → pr w ≤ 594) : ∃ J x, f_X10_openFor_L54 5000 0 5000 x0 (nI 0) (hp q ρ L I) = some (x, hp q ρ L J) ∧ (∀ i, i < 32 → bt x i = (bt x0 i && !(decide (i < duE d) && (chF g (duM d i) pr 0).isNone))) ∧ (∀ e, e < duE d → J 18 e = nI (eP g d pr e)) ∧ ∀ b, b ≠ 18 → J b = I b := by
  have h8 := hd.1
  obtain ⟨⟨x, J⟩, e1, e2, e3, e4⟩ := loE (fun n (y : Int32 × pI) j => f_X10_openFor_L54 5000 0 n y.1 (nI j) (hp q ρ L y.2)) (fun y => some (y.1, hp q ρ L y.2)) (duE d) (fun j y => (∀ i, i < 32 → bt y.1 i = (bt x0 i && !(decide (i < j) && (chF g (duM d i) pr 0).isNone))) ∧ (∀ e, e < j → y.2 18 e = nI (eP g d pr e)) ∧ ∀ b, b ≠ 18 → y.2 b = I b) (by
    rintro n ⟨x, J⟩ ⟨p1, p2, p3⟩
    simp only [] at p1 p2 p3 ⊢
    have e13 : J 13 0 = nI (duE d) := by rw [p3 13 (by omega)]; exact hD.1
    rw [f_X10_openFor_L54]
    simp (disch := first | omega | assumption) only [↓bX, ↓bXA, ↓jn_, ↓ob_, ↓b2_, ↓reduceIte, nn_lt, nn_le, nn_eq, nI_add, pk_mul, nn_su, gn_lt, gn_le, ng_lt, ng_le, ng_eq, gn_eq, gg_eq, n_m1, n_cl, if_true, if_false, if_pos, if_neg, lt0, e13, Nat.le_refl]) (by
    rintro n ⟨x, J⟩ j hj ⟨p1, p2, p3⟩
    simp only [] at p1 p2 p3
    have e13 : J 13 0 = nI (duE d) := by rw [p3 13 (by omega)]; exact hD.1
    have e15 : J 15 j = nI (duM d j) := by rw [p3 15 (by omega)]; exact (hD.2 j hj).2.1
    have hm9 := (hd.2 j hj).2.1
    have hc := x_cheapF (q := q) (ρ := ρ) (L := L) (I := J) (g := g) (pr := pr) (x := 0) (m := duM d j) (XL_k (fun b _ _ => p3 b (by omega)) hL) hg (fun w hw => by rw [p3 115 (by omega)]; exact hpr w hw) hpb (by omega) (by omega)
    have rows : ∀ x, x = nI (eP g d pr j) → ∀ e, e < j + 1 → j_up J 18 j x 18 e = nI (eP g d pr e) := fun x hx e he => by
      by_cases h : e = j
      · subst h; rw [up_eq, hx]
      · rw [up_nk h]; exact p2 e (by omega)
    cases h2 : chF g (duM d j) pr 0 with
    | none =>
      rw [h2, eo_n] at hc
      refine ⟨(x &&& (bit j ^^^ -nI 1), j_up J 18 j (nI 0)), ?_, fun i hi => ?_, rows _ (by rw [eP_n h2]), fun b hb => (up_ne hb).trans (p3 b hb)⟩
      · simp only []
        rw [f_X10_openFor_L54]
        simp (disch := first | omega | assumption) only [↓bX, ↓bXA, ↓jn_, ↓ob_, ↓b2_, ↓reduceIte, nn_lt, nn_le, nn_eq, nI_add, pk_mul, nn_su, gn_lt, gn_le, ng_lt, ng_le, ng_eq, gn_eq, gg_eq, n_m1, n_cl, if_true, if_false, if_pos, if_neg, lt0, e13, e15, ↓b2e hc]
        rfl
      · simp only []
        rw [b_and, b_xor, bt_bit (by omega) hi, show bt (-nI 1) i = true from b_m1 i hi, p1 i hi]
        by_cases h : i = j
        · subst h
          simp [h2]
        · have h3 : decide (i < j + 1) = decide (i < j) := by
            by_cases h4 : i < j
            · have : i < j + 1 := by omega
              simp [h4, this]
            · have : ¬ i < j + 1 := by omega
              simp [h4, this]
          rw [h3]
          simp [h]
    | some w =>
      rw [h2, eo_s] at hc
      have hw := (abest_in h2).1
      have hpw : J 115 w = nI (pr w) := by rw [p3 115 (by omega)]; exact hpr w hw
      have hW := hg.1
      refine ⟨(x, j_up J 18 j (nI (pr w))), ?_, fun i hi => ?_, rows _ (by rw [eP_s h2]), fun b hb => (up_ne hb).trans (p3 b hb)⟩
      · simp only []
        rw [f_X10_openFor_L54]
        simp (disch := first | omega | assumption) only [↓bX, ↓bXA, ↓jn_, ↓ob_, ↓b2_, ↓reduceIte, nn_lt, nn_le, nn_eq, nI_add, pk_mul, nn_su, gn_lt, gn_le, ng_lt, ng_le, ng_eq, gn_eq, gg_eq, n_m1, n_cl, if_true, if_false, if_pos, if_neg, lt0, e13, e15, ↓b2e hc, hpw]
      · simp only []
        rw [p1 i hi]
        by_cases h : i = j
        · subst h
          simp [h2]
        · have h3 : decide (i < j + 1) = decide (i < j) := by
            by_cases h4 : i < j
            · have : i < j + 1 := by omega
              simp [h4, this]
            · have : ¬ i < j + 1 := by omega
              simp [h4, this]
          rw [h3]) (duE d) 5000 (x0, I) 0 (by omega) (by omega) ⟨fun i hi => by simp, fun e he => absurd he (Nat.not_lt_zero e), fun b _ => rfl⟩
  simp only [] at e1 e2 e3 e4
  exact ⟨J, x, e1, e2, e3, e4⟩
theorem x_openFor {q : pQ} {ρ : pP} {L : pL} {I : pI} {c : List Int32} {g : gL} {d : gD} {C : gC} {P S t : Nat} (hQ : XQ c g d P S ρ I) (wQ : WQ c g d P S) (hC : XS 19 C P I) (hWS : WS C P S) (ht : t < P) : ∃ J, f_X10_openFor 5000 0 (nI t) (hp q ρ L I) = some (mk (bOp g d (scD C) t (scP C t) (fun w => tol c g w (scP C t) (scH C))) (duE d), hp q ρ L J) ∧ (∀ e, e < duE d → J 18 e = nI (eP g d (fun w => tol c g w (scP C t) (scH C)) e)) ∧ Fr (tY ρ.1.1) I J ∧ ∀ b, b < 115 → b ≠ 18 → J b = I b := by
  obtain ⟨⟨hA, hT⟩, hL, hD, hP, hS⟩ := hQ
  obtain ⟨w1, w2, w3, w4, w5⟩ := wQ
  have h8 := w3.1
  have hpl := (hWS t ht).1
  have b1 : I 20 t = nI (scP C t) := (hC.2.1 t ht).1
  obtain ⟨J, e1, e2, e3⟩ := x_priceAll (q := q) (ρ := ρ) (L := L) (B := 115) (s := scP C t) hA (.inl rfl) hT w1 hL w2 hC.1.1
  have z : ∀ b, b < 115 → J b = I b := fun b hb => e3 b (by unfold tT; omega) (by omega)
  obtain ⟨K, x, f1, f2, f3, f4⟩ := x_openL (q := q) (ρ := ρ) (L := L) (x0 := (dOf d t &&& dAt d (scP C t)) &&& (scD C ^^^ -nI 1)) (XL_k (fun b _ _ => z b (by omega)) hL) w2 (XD_k (fun b _ _ => z b (by omega)) hD) w3 e2 (fun w hw => tol_le w2 hw)
  have hx : x = mk (bOp g d (scD C) t (scP C t) (fun w => tol c g w (scP C t) (scH C))) (duE d) := by
    refine b_ext (fun i hi => ?_)
    rw [f2 i hi]
    unfold dOf dAt
    rw [b_and, b_and, b_xor, mk_bt _ _ _ (by omega) hi, mk_bt _ _ _ (by omega) hi, mk_bt _ _ _ (by omega) hi, show bt (-nI 1) i = true from b_m1 i hi]
    unfold bOp
    cases h1 : decide (i < duE d) with
    | false => simp
    | true =>
      cases h2 : chF g (duM d i) (fun w => tol c g w (scP C t) (scH C)) 0 with
      | none => simp
      | some w =>
        cases bt (scD C) i <;> cases decide (duW d i = t) <;> cases decide (duP d i = scP C t) <;> simp
  refine ⟨K, ?_, f3, ?_, fun b hb h18 => by rw [f4 b h18, z b hb]⟩
  · rw [← hx]
    simp (disch := first | omega | assumption) only [f_X10_openFor, ↓bX, ↓bXA, ↓jn_, ↓ob_, ↓b2_, ↓reduceIte, nn_lt, nn_le, nn_eq, nI_add, pk_mul, nn_su, gn_lt, gn_le, ng_lt, ng_le, ng_eq, gn_eq, gg_eq, n_m1, n_cl, if_true, if_false, if_pos, if_neg, lt0, b1, ↓b2e (x_of (q := q) (ρ := ρ) (L := L) (t := t) hD w3 (by omega) (by omega)), ↓b2e (x_at (q := q) (ρ := ρ) (L := L) (t := scP C t) hD w3 (by omega) (by omega)), hC.1.2, ↓oe e1]
    exact f1
  · refine Fr.tr (trB hA (.inl rfl) e3) (fun b k h => ?_)
    by_cases h18 : b = 18
    · subst h18
      rcases hA with e | e <;> rw [e] at h <;> cases h
    · rw [f4 b h18]
theorem x_bestL {q : pQ} {ρ : pP} {L : pL} {I : pI} {E O t pu : Nat} {T V : Nat → Nat} {sub : Nat → Bool} (hE : I 13 0 = nI E) (h8 : E ≤ 8) (hO : O < 256) (ht : t < 4) (hpu : I 21 t = nI pu) (hpb : pu ≤ 9999) (eT eV : Nat → Nat) (h18 : ∀ e, e < E → I 18 e = nI (eT e)) (h17 : ∀ e, e < E → I 17 e = nI (eV e)) (hT : ∀ s, T s = sumN s eT E) (hV : ∀ s, V s = sumN s eV E) (bT : ∀ s, T s ≤ 10000) (bV : ∀ s, V s ≤ 10000) (hsub : ∀ s, sub s = decide (nI s &&& (nI O ^^^ -nI 1) = nI 0)) {kk : Int32 → Int32 → Int32 → jH → Option (Int32 × jH)} : f_X10_best_L27 5000 0 (nI t) (nI O) kk 5000 (nI 0) (nI 0) (nI 0) (nI 1) (hp q ρ L I) = kk (nI (bst sub T V pu O).1) (nI (bst sub T V pu O).2.1) (nI (bst sub T V pu O).2.2) (hp q ρ L I) := by
  obtain ⟨y, e1, e0, e2⟩ := loE (fun n (y : Nat × Nat × Nat) j => f_X10_best_L27 5000 0 (nI t) (nI O) kk n (nI y.1) (nI y.2.1) (nI y.2.2) (nI j) (hp q ρ L I)) (fun y => kk (nI y.1) (nI y.2.1) (nI y.2.2) (hp q ρ L I)) (O + 1) (fun j y => 1 ≤ j ∧ y = bst sub T V pu (j - 1)) (by
    intro n y p
    rw [f_X10_best_L27]
    simp (disch := first | omega | assumption) only [↓bX, ↓bXA, ↓jn_, ↓ob_, ↓b2_, ↓reduceIte, nn_lt, nn_le, nn_eq, nI_add, pk_mul, nn_su, gn_lt, gn_le, ng_lt, ng_le, ng_eq, gn_eq, gg_eq, n_m1, n_cl, if_true, if_false, if_pos, if_neg, lt0]) (by
    rintro n y j hj ⟨p0, p1⟩
    obtain ⟨i, rfl⟩ : ∃ i, j = i + 1 := ⟨j - 1, by omega⟩
    rw [Nat.add_sub_cancel] at p1
    have hb := bst_le (sub := sub) (pu := pu) bT bV i
    rw [← p1] at hb
    have sT : f_X2_sumOf 5000 13 18 (nI (i + 1)) (hp q ρ L I) = some (nI (T (i + 1)), hp q ρ L I) := by
      rw [hT, ← sumS_n E (by omega)]
      exact x_sumOf (.inr rfl) hE h8 h18
    have sV : f_X2_sumOf 5000 13 17 (nI (i + 1)) (hp q ρ L I) = some (nI (V (i + 1)), hp q ρ L I) := by
      rw [hV, ← sumS_n E (by omega)]
      exact x_sumOf (.inl rfl) hE h8 h17
    have b1 := bT (i + 1)
    have b2 := bV (i + 1)
    refine ⟨bstS sub T V pu (i + 1) y, ?_, by omega, by rw [Nat.add_sub_cancel, bst_s, ← p1]⟩
    rw [f_X10_best_L27]
    by_cases hs : nI (i + 1) &&& (nI O ^^^ -nI 1) = nI 0
    · have hs' : sub (i + 1) = true := by rw [hsub]; exact decide_eq_true hs
      by_cases c1 : T (i + 1) ≤ pu
      · by_cases c2 : y.2.1 < V (i + 1)
        · rw [show bstS sub T V pu (i + 1) y = (i + 1, V (i + 1), T (i + 1)) from if_pos ⟨hs', c1, .inl c2⟩]
          simp (disch := first | omega | assumption) only [↓bX, ↓bXA, ↓jn_, ↓ob_, ↓b2_, ↓reduceIte, nn_lt, nn_le, nn_eq, nI_add, pk_mul, nn_su, gn_lt, gn_le, ng_lt, ng_le, ng_eq, gn_eq, gg_eq, n_m1, n_cl, if_true, if_false, if_pos, if_neg, lt0, hs, ↓b2e sT, hpu, ↓b2e sV]
        · by_cases c3 : V (i + 1) = y.2.1
          · by_cases c4 : T (i + 1) < y.2.2
            · rw [show bstS sub T V pu (i + 1) y = (i + 1, V (i + 1), T (i + 1)) from if_pos ⟨hs', c1, .inr ⟨c3, c4⟩⟩]
              simp (disch := first | omega | assumption) only [↓bX, ↓bXA, ↓jn_, ↓ob_, ↓b2_, ↓reduceIte, nn_lt, nn_le, nn_eq, nI_add, pk_mul, nn_su, gn_lt, gn_le, ng_lt, ng_le, ng_eq, gn_eq, gg_eq, n_m1, n_cl, if_true, if_false, if_pos, if_neg, lt0, hs, ↓b2e sT, hpu, ↓b2e sV]
            · rw [show bstS sub T V pu (i + 1) y = y from if_neg (fun h => by rcases h.2.2 with h | h; exact c2 h; exact c4 h.2)]
              simp (disch := first | omega | assumption) only [↓bX, ↓bXA, ↓jn_, ↓ob_, ↓b2_, ↓reduceIte, nn_lt, nn_le, nn_eq, nI_add, pk_mul, nn_su, gn_lt, gn_le, ng_lt, ng_le, ng_eq, gn_eq, gg_eq, n_m1, n_cl, if_true, if_false, if_pos, if_neg, lt0, hs, ↓b2e sT, hpu, ↓b2e sV]
          · rw [show bstS sub T V pu (i + 1) y = y from if_neg (fun h => by rcases h.2.2 with h | h; exact c2 h; exact c3 h.1)]
            simp (disch := first | omega | assumption) only [↓bX, ↓bXA, ↓jn_, ↓ob_, ↓b2_, ↓reduceIte, nn_lt, nn_le, nn_eq, nI_add, pk_mul, nn_su, gn_lt, gn_le, ng_lt, ng_le, ng_eq, gn_eq, gg_eq, n_m1, n_cl, if_true, if_false, if_pos, if_neg, lt0, hs, ↓b2e sT, hpu, ↓b2e sV]
      · rw [show bstS sub T V pu (i + 1) y = y from if_neg (fun h => c1 h.2.1)]
        simp (disch := first | omega | assumption) only [↓bX, ↓bXA, ↓jn_, ↓ob_, ↓b2_, ↓reduceIte, nn_lt, nn_le, nn_eq, nI_add, pk_mul, nn_su, gn_lt, gn_le, ng_lt, ng_le, ng_eq, gn_eq, gg_eq, n_m1, n_cl, if_true, if_false, if_pos, if_neg, lt0, hs, ↓b2e sT, hpu]
    · have hs' : ¬ sub (i + 1) = true := by rw [hsub]; simp [hs]
      rw [show bstS sub T V pu (i + 1) y = y from if_neg (fun h => hs' h.1)]
      simp (disch := first | omega | assumption) only [↓bX, ↓bXA, ↓jn_, ↓ob_, ↓b2_, ↓reduceIte, nn_lt, nn_le, nn_eq, nI_add, pk_mul, nn_su, gn_lt, gn_le, ng_lt, ng_le, ng_eq, gn_eq, gg_eq, n_m1, n_cl, if_true, if_false, if_pos, if_neg, lt0, hs, hpu]) O 5000 (0, 0, 0) 1 (by omega) (by omega) ⟨Nat.le_refl 1, rfl⟩
  rw [Nat.add_sub_cancel] at e2
  rw [← e2]
  exact e1
theorem m_bestC {q : pQ} {ρ : pP} {L : pL} {I : pI} {r : gT} {g : gL} {d : gD} {C : gC} {P S t : Nat} {J : pI} {z : Option Nat} (hQ : MQ_ r g d P S ρ I) (hwr : WR r) (wQ : WQ (cmp r) g d P S) (hC : MS 130 0 C P I) (hWS : WS C P S) (ht : t < P) (hF : Fr tN I J) {kk : Int32 → jH → Option (Int32 × jH)} : ∃ K z', f_X11_best_L19 5000 129 (nI t) kk 5000 (nI 0) (nI 0) (hp q (rr ρ z) L J) = kk (mk (bOp g d (scD C) t (scP C t) (fun w => tol (cmp r) g w (scP C t) (scH C))) (duE d)) (hp q (rr ρ z') L K) ∧ Fr tTo J K := by
  obtain ⟨w1, w2, w3, w4, w5⟩ := wQ
  have h8 := w3.1
  have hpl := (hWS t ht).1
  have h12 : I 130 12 = scH C := by have := hC.1.1; rw [Nat.zero_add] at this; exact this
  have h13 : I 130 13 = scD C := by have := hC.1.2; rw [Nat.zero_add] at this; exact this
  have ht0 : I 130 t = nI (scP C t) := by have := (hC.2.1 t ht).1; rw [Nat.zero_add] at this; exact this
  obtain ⟨⟨x, z', K⟩, e1, e2, e3⟩ := loE (fun n (y : Int32 × Option Nat × pI) j => f_X11_best_L19 5000 129 (nI t) kk n y.1 (nI j) (hp q (rr ρ y.2.1) L y.2.2)) (fun y => kk y.1 (hp q (rr ρ y.2.1) L y.2.2)) (duE d) (fun j y => y.1 = mk (bOp g d (scD C) t (scP C t) (fun w => tol (cmp r) g w (scP C t) (scH C))) j ∧ Fr tTo J y.2.2) (by
    rintro n ⟨x, z', K⟩ ⟨p1, p2⟩
    simp only [] at p1 p2 ⊢
    have e7 := (MQ_N (z := z') (Fr.tr hF (tTo_N p2)) hQ).2.2.1.1
    rw [f_X11_best_L19]
    simp (disch := first | omega | assumption) only [↓bM, ↓bMA, ↓jn_, ↓ob_, ↓b2_, ↓reduceIte, nn_lt, nn_le, nn_eq, nI_add, pk_mul, nn_su, gn_lt, gn_le, ng_lt, ng_le, ng_eq, gn_eq, gg_eq, n_m1, n_cl, if_true, if_false, if_pos, if_neg, lt0, e7, Nat.le_refl]) (by
    rintro n ⟨x, z', K⟩ j hj ⟨p1, p2⟩
    simp only [] at p1 p2
    have frK := Fr.tr hF (tTo_N p2)
    have hQ' := MQ_N (z := z') frK hQ
    have e7 := hQ'.2.2.1.1
    have r130 := frK.row 130 (fun k => rfl)
    have kt : K 130 t = nI (scP C t) := by rw [r130]; exact ht0
    have hoo := m_openOf (q := q) (ρ := rr ρ z') (L := L) (I := K) (t := t) (dn := scD C) hQ'.2.2.1 w3 (by omega) (by omega) (by rw [r130]; exact h13)
    have hh := m_has (d := dOpen d (scD C) t) (e := j) (by omega) (hp q (rr ρ z') L K)
    have hbt : bt (dOpen d (scD C) t) j = (decide (duW d j = t) && !bt (scD C) j) := by
      unfold dOpen
      rw [mk_bt _ _ _ (by omega) (by omega), decide_eq_true hj, Bool.true_and]
    rw [hbt] at hh
    obtain ⟨f0, f1, f2, f3⟩ := m_field (q := q) (ρ := rr ρ z') (L := L) hQ'.2.2.1 w3 hj
    have hpS := (w3.2 j hj).2.2.1
    have hm9 := (w3.2 j hj).2.1
    cases ho : (decide (duW d j = t) && !bt (scD C) j) with
    | false =>
      rw [ho] at hh
      simp only [Bool.false_eq_true, if_false] at hh
      have hb : bOp g d (scD C) t (scP C t) (fun w => tol (cmp r) g w (scP C t) (scH C)) j = false := by unfold bOp; rw [ho]; rfl
      refine ⟨(x, z', K), ?_, ?_, p2⟩
      · simp only []
        rw [f_X11_best_L19]
        simp (disch := first | omega | assumption) only [↓bM, ↓bMA, ↓jn_, ↓ob_, ↓b2_, ↓reduceIte, nn_lt, nn_le, nn_eq, nI_add, pk_mul, nn_su, gn_lt, gn_le, ng_lt, ng_le, ng_eq, gn_eq, gg_eq, n_m1, n_cl, if_true, if_false, if_pos, if_neg, lt0, e7, ↓b2e hoo, ↓b2e hh, or_0]
      · rw [mk_s, hb]
        exact p1
    | true =>
      rw [ho, if_pos rfl] at hh
      by_cases hpl2 : duP d j = scP C t
      · obtain ⟨M, z2, g1, g2⟩ := m_cheapO (q := q) (L := L) (s := scP C t) (m := duM d j) (hr := scH C) hQ' hwr w2 (by rw [r130]; exact h12) (by omega)
        cases hc : chF g (duM d j) (fun w => tol (cmp r) g w (scP C t) (scH C)) 0 with
        | none =>
          rw [hc, eo_n] at g1
          have hb : bOp g d (scD C) t (scP C t) (fun w => tol (cmp r) g w (scP C t) (scH C)) j = false := by unfold bOp; rw [hc]; simp
          refine ⟨(x, z2, M), ?_, ?_, Fr.tr p2 g2⟩
          · simp only []
            rw [f_X11_best_L19]
            simp (disch := first | omega | assumption) only [↓bM, ↓bMA, ↓jn_, ↓ob_, ↓b2_, ↓reduceIte, nn_lt, nn_le, nn_eq, nI_add, pk_mul, nn_su, gn_lt, gn_le, ng_lt, ng_le, ng_eq, gn_eq, gg_eq, n_m1, n_cl, if_true, if_false, if_pos, if_neg, lt0, e7, ↓b2e hoo, ↓b2e hh, ↓b2e f2, kt, hpl2, ↓b2e f1, ↓b2e g1, or_0]
            rfl
          · rw [mk_s, hb]
            exact p1
        | some w =>
          rw [hc, eo_s] at g1
          have hw := (abest_in hc).1
          have hW := w2.1
          have hb : bOp g d (scD C) t (scP C t) (fun w => tol (cmp r) g w (scP C t) (scH C)) j = true := by unfold bOp; rw [ho, hc]; simp [hpl2]
          refine ⟨(x ||| bit j, z2, M), ?_, ?_, Fr.tr p2 g2⟩
          · simp only []
            rw [f_X11_best_L19]
            simp (disch := first | omega | assumption) only [↓bM, ↓bMA, ↓jn_, ↓ob_, ↓b2_, ↓reduceIte, nn_lt, nn_le, nn_eq, nI_add, pk_mul, nn_su, gn_lt, gn_le, ng_lt, ng_le, ng_eq, gn_eq, gg_eq, n_m1, n_cl, if_true, if_false, if_pos, if_neg, lt0, e7, ↓b2e hoo, ↓b2e hh, ↓b2e f2, kt, hpl2, ↓b2e f1, ↓b2e g1]
            rfl
          · rw [mk_s, hb, if_pos rfl, p1]
      · have hb : bOp g d (scD C) t (scP C t) (fun w => tol (cmp r) g w (scP C t) (scH C)) j = false := by unfold bOp; simp [hpl2]
        refine ⟨(x, z', K), ?_, ?_, p2⟩
        · simp only []
          rw [f_X11_best_L19]
          simp (disch := first | omega | assumption) only [↓bM, ↓bMA, ↓jn_, ↓ob_, ↓b2_, ↓reduceIte, nn_lt, nn_le, nn_eq, nI_add, pk_mul, nn_su, gn_lt, gn_le, ng_lt, ng_le, ng_eq, gn_eq, gg_eq, n_m1, n_cl, if_true, if_false, if_pos, if_neg, lt0, e7, ↓b2e hoo, ↓b2e hh, ↓b2e f2, kt, hpl2, or_0]
        · rw [mk_s, hb]
          exact p1) (duE d) 5000 (nI 0, z, J) 0 (by omega) (by omega) ⟨rfl, Fr.rf⟩
  simp only [] at e1 e2 e3
  refine ⟨K, z', ?_, e3⟩
  rw [← e2]
  exact e1
theorem m_bestS {q : pQ} {ρ : pP} {L : pL} {I : pI} {r : gT} {g : gL} {d : gD} {C : gC} {P S t s : Nat} {J : pI} {z : Option Nat} {x2 x3 x4 x5 : Int32} (hQ : MQ_ r g d P S ρ I) (hwr : WR r) (wQ : WQ (cmp r) g d P S) (hC : MS 130 0 C P I) (hWS : WS C P S) (ht : t < P) (hF : Fr tN I J) (hok : ∀ e, e < duE d → s.testBit e = true → (chF g (duM d e) (fun w => tol (cmp r) g w (scP C t) (scH C)) 0).isSome = true) {kk : Int32 → Int32 → jH → Option (Int32 × jH)} : ∃ K z', f_X11_best_L128 5000 129 (nI t) x2 x3 x4 x5 (nI s) kk 5000 (nI 0) (nI 0) (nI 0) (hp q (rr ρ z) L J) = kk (nI (sumN s (duV d) (duE d))) (nI (sumN s (eP g d (fun w => tol (cmp r) g w (scP C t) (scH C))) (duE d))) (hp q (rr ρ z') L K) ∧ Fr tTo J K := by
  obtain ⟨w1, w2, w3, w4, w5⟩ := wQ
  have h8 := w3.1
  have hpl := (hWS t ht).1
  have h12 : I 130 12 = scH C := by have := hC.1.1; rw [Nat.zero_add] at this; exact this
  have ht0 : I 130 t = nI (scP C t) := by have := (hC.2.1 t ht).1; rw [Nat.zero_add] at this; exact this
  obtain ⟨⟨a, b, z', K⟩, e1, e2, e3, e4⟩ := loE (fun n (y : Nat × Nat × Option Nat × pI) j => f_X11_best_L128 5000 129 (nI t) x2 x3 x4 x5 (nI s) kk n (nI y.1) (nI y.2.1) (nI j) (hp q (rr ρ y.2.2.1) L y.2.2.2)) (fun y => kk (nI y.1) (nI y.2.1) (hp q (rr ρ y.2.2.1) L y.2.2.2)) (duE d) (fun j y => y.1 = sumN s (duV d) j ∧ y.2.1 = sumN s (eP g d (fun w => tol (cmp r) g w (scP C t) (scH C))) j ∧ Fr tTo J y.2.2.2) (by
    rintro n ⟨a, b, z', K⟩ ⟨p1, p2, p3⟩
    simp only [] at p1 p2 p3 ⊢
    have e7 := (MQ_N (z := z') (Fr.tr hF (tTo_N p3)) hQ).2.2.1.1
    rw [f_X11_best_L128]
    simp (disch := first | omega | assumption) only [↓bM, ↓bMA, ↓jn_, ↓ob_, ↓b2_, ↓reduceIte, nn_lt, nn_le, nn_eq, nI_add, pk_mul, nn_su, gn_lt, gn_le, ng_lt, ng_le, ng_eq, gn_eq, gg_eq, n_m1, n_cl, if_true, if_false, if_pos, if_neg, lt0, e7, Nat.le_refl]) (by
    rintro n ⟨a, b, z', K⟩ j hj ⟨p1, p2, p3⟩
    simp only [] at p1 p2 p3
    have frK := Fr.tr hF (tTo_N p3)
    have hQ' := MQ_N (z := z') frK hQ
    have e7 := hQ'.2.2.1.1
    have r130 := frK.row 130 (fun k => rfl)
    have kt : K 130 t = nI (scP C t) := by rw [r130]; exact ht0
    have hh := m_has (d := nI s) (e := j) (by omega) (hp q (rr ρ z') L K)
    rw [bt_nI (by omega)] at hh
    obtain ⟨f0, f1, f2, f3⟩ := m_field (q := q) (ρ := rr ρ z') (L := L) hQ'.2.2.1 w3 hj
    have hm9 := (w3.2 j hj).2.1
    by_cases hs : s.testBit j = true
    · rw [if_pos hs] at hh
      have hsome := hok j hj hs
      obtain ⟨M, z2, g1, g2⟩ := m_cheapO (q := q) (L := L) (s := scP C t) (m := duM d j) (hr := scH C) hQ' hwr w2 (by rw [r130]; exact h12) (by omega)
      cases hc : chF g (duM d j) (fun w => tol (cmp r) g w (scP C t) (scH C)) 0 with
      | none => rw [hc] at hsome; cases hsome
      | some w =>
        rw [hc, eo_s] at g1
        have hw := (abest_in hc).1
        obtain ⟨N, z3, i1, i2⟩ := m_tollR (q := q) (L := L) (s := scP C t) (w := w) (z := z2) hQ hwr w2 h12 hw (Fr.tr frK (tTo_N g2))
        have mt : M 130 t = nI (scP C t) := by rw [g2.row 130 (fun k => rfl)]; exact kt
        refine ⟨(a + duV d j, b + tol (cmp r) g w (scP C t) (scH C), z3, N), ?_, ?_, ?_, Fr.tr (Fr.tr p3 g2) i2⟩
        · simp only []
          have g1' : f_X11_cheapestOf 5000 129 (nI (duM d j)) (nI (scP C t)) (hp q (rr ρ z') L K) = some (nI w, hp q (rr ρ z2) L M) := g1
          rw [f_X11_best_L128]
          simp (disch := first | omega | assumption) only [↓bM, ↓bMA, ↓jn_, ↓ob_, ↓b2_, ↓reduceIte, nn_lt, nn_le, nn_eq, nI_add, pk_mul, nn_su, gn_lt, gn_le, ng_lt, ng_le, ng_eq, gn_eq, gg_eq, n_m1, n_cl, if_true, if_false, if_pos, if_neg, lt0, e7, ↓b2e hh, ↓b2e f3, ↓b2e f1, kt, ↓b2e g1', mt, ↓b2e i1]
        · rw [sumN_s, if_pos hs, p1]
        · rw [sumN_s, if_pos hs, eP_s hc, p2]
    · rw [if_neg hs] at hh
      refine ⟨(a, b, z', K), ?_, ?_, ?_, p3⟩
      · simp only []
        rw [f_X11_best_L128]
        simp (disch := first | omega | assumption) only [↓bM, ↓bMA, ↓jn_, ↓ob_, ↓b2_, ↓reduceIte, nn_lt, nn_le, nn_eq, nI_add, pk_mul, nn_su, gn_lt, gn_le, ng_lt, ng_le, ng_eq, gn_eq, gg_eq, n_m1, n_cl, if_true, if_false, if_pos, if_neg, lt0, e7, ↓b2e hh]
      · rw [sumN_s, if_neg hs]
        exact p1
      · rw [sumN_s, if_neg hs]
        exact p2) (duE d) 5000 (0, 0, z, J) 0 (by omega) (by omega) ⟨rfl, rfl, Fr.rf⟩
  simp only [] at e1 e2 e3 e4
  refine ⟨K, z', ?_, e4⟩
  rw [← e2, ← e3]
  exact e1
theorem sub_bit {s O e : Nat} (h : nI s &&& (nI O ^^^ -nI 1) = nI 0) (he : e < 32) (hs : s.testBit e = true) : O.testBit e = true := by
  have : bt (nI s &&& (nI O ^^^ -nI 1)) e = bt (nI 0) e := by rw [h]
  rw [b_and, b_xor, bt_nI he, bt_nI he, show bt (-nI 1) e = true from b_m1 e he, show bt (nI 0) e = false from b_0 e, hs] at this
  cases hO : O.testBit e with
  | true => rfl
  | false => rw [hO] at this; cases this
theorem m_bestL {q : pQ} {ρ : pP} {L : pL} {I : pI} {r : gT} {g : gL} {d : gD} {C : gC} {P S t O pu : Nat} {T V : Nat → Nat} {sub : Nat → Bool} {J : pI} {z : Option Nat} (hQ : MQ_ r g d P S ρ I) (hwr : WR r) (wQ : WQ (cmp r) g d P S) (hC : MS 130 0 C P I) (hWS : WS C P S) (ht : t < P) (hF : Fr tN I J) (hO : O < 256) (hOm : nI O = mk (bOp g d (scD C) t (scP C t) (fun w => tol (cmp r) g w (scP C t) (scH C))) (duE d)) (hpu : scU C t = pu) (hT : ∀ s, T s = sumN s (eP g d (fun w => tol (cmp r) g w (scP C t) (scH C))) (duE d)) (hV : ∀ s, V s = sumN s (duV d) (duE d)) (bT : ∀ s, T s ≤ 10000) (bV : ∀ s, V s ≤ 10000) (hsub : ∀ s, sub s = decide (nI s &&& (nI O ^^^ -nI 1) = nI 0)) {kk : Int32 → Int32 → Int32 → jH → Option (Int32 × jH)} : ∃ K z', f_X11_best_L101 5000 129 (nI t) (nI O) kk 5000 (nI 0) (nI 0) (nI 0) (nI 1) (hp q (rr ρ z) L J) = kk (nI (bst sub T V pu O).1) (nI (bst sub T V pu O).2.1) (nI (bst sub T V pu O).2.2) (hp q (rr ρ z') L K) ∧ Fr tTo J K := by
  have wQ' := wQ
  obtain ⟨w1, w2, w3, w4, w5⟩ := wQ
  have h8 := w3.1
  have hpb := (hWS t ht).2
  have hp4 : I 130 (4 + t) = nI pu := by have := (hC.2.1 t ht).2.1; rw [Nat.zero_add, hpu] at this; exact this
  obtain ⟨⟨y, z', K⟩, e1, e0, e2, e3⟩ := loE (fun n (y : (Nat × Nat × Nat) × Option Nat × pI) j => f_X11_best_L101 5000 129 (nI t) (nI O) kk n (nI y.1.1) (nI y.1.2.1) (nI y.1.2.2) (nI j) (hp q (rr ρ y.2.1) L y.2.2)) (fun y => kk (nI y.1.1) (nI y.1.2.1) (nI y.1.2.2) (hp q (rr ρ y.2.1) L y.2.2)) (O + 1) (fun j y => 1 ≤ j ∧ y.1 = bst sub T V pu (j - 1) ∧ Fr tTo J y.2.2) (by
    rintro n ⟨y, z', K⟩ p
    simp only []
    rw [f_X11_best_L101]
    simp (disch := first | omega | assumption) only [↓bM, ↓bMA, ↓jn_, ↓ob_, ↓b2_, ↓reduceIte, nn_lt, nn_le, nn_eq, nI_add, pk_mul, nn_su, gn_lt, gn_le, ng_lt, ng_le, ng_eq, gn_eq, gg_eq, n_m1, n_cl, if_true, if_false, if_pos, if_neg, lt0]) (by
    rintro n ⟨y, z', K⟩ j hj ⟨p0, p1, p2⟩
    simp only [] at p0 p1 p2
    obtain ⟨i, rfl⟩ : ∃ i, j = i + 1 := ⟨j - 1, by omega⟩
    rw [Nat.add_sub_cancel] at p1
    have hb := bst_le (sub := sub) (pu := pu) bT bV i
    rw [← p1] at hb
    have b1 := bT (i + 1)
    have b2 := bV (i + 1)
    by_cases hs : nI (i + 1) &&& (nI O ^^^ -nI 1) = nI 0
    · have hs' : sub (i + 1) = true := by rw [hsub]; exact decide_eq_true hs
      obtain ⟨M, z2, g1, g2⟩ := m_bestS (q := q) (L := L) (s := i + 1) (z := z') (x2 := nI O) (x3 := nI y.1) (x4 := nI y.2.1) (x5 := nI y.2.2) hQ hwr wQ' hC hWS ht (Fr.tr hF (tTo_N p2)) (fun e he hbit => by
        have h1 := sub_bit hs (by omega) hbit
        have h2 : bt (nI O) e = true := by rw [bt_nI (by omega)]; exact h1
        rw [hOm, mk_bt _ _ _ (by omega) (by omega), decide_eq_true he, Bool.true_and] at h2
        unfold bOp at h2
        simp only [Bool.and_eq_true] at h2
        exact h2.2.2) (kk := fun (y48 : Int32) (y49 : Int32) (h50 : jH) =>
            (jg_R 11 0 h50 129).bind (fun v51 =>
            (ja_I 100 h50 v51 (nI 4 + nI t)).bind (fun v52 =>
            if v52 < y49 then
              f_X11_best_L101 5000 129 (nI t) (nI O) kk n (nI y.1) (nI y.2.1) (nI y.2.2) (nI (i + 1) + nI 1) h50
            else
              if y48 < nI y.2.1 then
                f_X11_best_L101 5000 129 (nI t) (nI O) kk n (nI y.1) (nI y.2.1) (nI y.2.2) (nI (i + 1) + nI 1) h50
              else
                  if y48 = nI y.2.1 then
                    if y49 < nI y.2.2 then
                      f_X11_best_L101 5000 129 (nI t) (nI O) kk n (nI (i + 1)) y48 y49 (nI (i + 1) + nI 1) h50
                    else
                      f_X11_best_L101 5000 129 (nI t) (nI O) kk n (nI y.1) (nI y.2.1) (nI y.2.2) (nI (i + 1) + nI 1) h50
                  else
                    f_X11_best_L101 5000 129 (nI t) (nI O) kk n (nI (i + 1)) y48 y49 (nI (i + 1) + nI 1) h50)))
      rw [← hT, ← hV] at g1
      have m4 : M 130 (4 + t) = nI pu := by rw [g2.row 130 (fun k => rfl), p2.row 130 (fun k => rfl), hF.row 130 (fun k => rfl)]; exact hp4
      refine ⟨(bstS sub T V pu (i + 1) y, z2, M), ?_, by omega, by rw [Nat.add_sub_cancel, bst_s, ← p1], Fr.tr p2 g2⟩
      simp only []
      rw [f_X11_best_L101]
      simp (disch := first | omega | assumption) only [↓jn_, lt0, hs, nn_lt, if_neg, if_true]
      rw [g1]
      by_cases c1 : T (i + 1) ≤ pu
      · by_cases c2 : y.2.1 < V (i + 1)
        · rw [show bstS sub T V pu (i + 1) y = (i + 1, V (i + 1), T (i + 1)) from if_pos ⟨hs', c1, .inl c2⟩]
          simp (disch := first | omega | assumption) only [↓bM, ↓bMA, ↓jn_, ↓ob_, ↓b2_, ↓reduceIte, nn_lt, nn_le, nn_eq, nI_add, pk_mul, nn_su, gn_lt, gn_le, ng_lt, ng_le, ng_eq, gn_eq, gg_eq, n_m1, n_cl, if_true, if_false, if_pos, if_neg, lt0, m4]
        · by_cases c3 : V (i + 1) = y.2.1
          · by_cases c4 : T (i + 1) < y.2.2
            · rw [show bstS sub T V pu (i + 1) y = (i + 1, V (i + 1), T (i + 1)) from if_pos ⟨hs', c1, .inr ⟨c3, c4⟩⟩]
              simp (disch := first | omega | assumption) only [↓bM, ↓bMA, ↓jn_, ↓ob_, ↓b2_, ↓reduceIte, nn_lt, nn_le, nn_eq, nI_add, pk_mul, nn_su, gn_lt, gn_le, ng_lt, ng_le, ng_eq, gn_eq, gg_eq, n_m1, n_cl, if_true, if_false, if_pos, if_neg, lt0, m4]
            · rw [show bstS sub T V pu (i + 1) y = y from if_neg (fun h => by rcases h.2.2 with h | h; exact c2 h; exact c4 h.2)]
              simp (disch := first | omega | assumption) only [↓bM, ↓bMA, ↓jn_, ↓ob_, ↓b2_, ↓reduceIte, nn_lt, nn_le, nn_eq, nI_add, pk_mul, nn_su, gn_lt, gn_le, ng_lt, ng_le, ng_eq, gn_eq, gg_eq, n_m1, n_cl, if_true, if_false, if_pos, if_neg, lt0, m4]
          · rw [show bstS sub T V pu (i + 1) y = y from if_neg (fun h => by rcases h.2.2 with h | h; exact c2 h; exact c3 h.1)]
            simp (disch := first | omega | assumption) only [↓bM, ↓bMA, ↓jn_, ↓ob_, ↓b2_, ↓reduceIte, nn_lt, nn_le, nn_eq, nI_add, pk_mul, nn_su, gn_lt, gn_le, ng_lt, ng_le, ng_eq, gn_eq, gg_eq, n_m1, n_cl, if_true, if_false, if_pos, if_neg, lt0, m4]
      · rw [show bstS sub T V pu (i + 1) y = y from if_neg (fun h => c1 h.2.1)]
        simp (disch := first | omega | assumption) only [↓bM, ↓bMA, ↓jn_, ↓ob_, ↓b2_, ↓reduceIte, nn_lt, nn_le, nn_eq, nI_add, pk_mul, nn_su, gn_lt, gn_le, ng_lt, ng_le, ng_eq, gn_eq, gg_eq, n_m1, n_cl, if_true, if_false, if_pos, if_neg, lt0, m4]
    · have hs' : ¬ sub (i + 1) = true := by rw [hsub]; simp [hs]
      refine ⟨(bstS sub T V pu (i + 1) y, z', K), ?_, by omega, by rw [Nat.add_sub_cancel, bst_s, ← p1], p2⟩
      simp only []
      rw [show bstS sub T V pu (i + 1) y = y from if_neg (fun h => hs' h.1), f_X11_best_L101]
      simp (disch := first | omega | assumption) only [↓bM, ↓bMA, ↓jn_, ↓ob_, ↓b2_, ↓reduceIte, nn_lt, nn_le, nn_eq, nI_add, pk_mul, nn_su, gn_lt, gn_le, ng_lt, ng_le, ng_eq, gn_eq, gg_eq, n_m1, n_cl, if_true, if_false, if_pos, if_neg, lt0, hs]) O 5000 ((0, 0, 0), z, J) 1 (by omega) (by omega) ⟨Nat.le_refl 1, rfl, Fr.rf⟩
  simp only [] at e1 e2 e3
  rw [Nat.add_sub_cancel] at e2
  refine ⟨K, z', ?_, e3⟩
  rw [← e2]
  exact e1
theorem k_best (a : Int32) : ∀ G, Wr G → ∃ v G', Wr G' ∧ XH (f_X10_best 5000 0 a) G v G' ∧ MH (f_X11_best 5000 129 a) G v G' := by
  intro G hG
  have hG' := hG
  have wQ := WQ_of hG
  obtain ⟨w1, w2, w3, w4, w5, w6, w7, w8, w9⟩ := hG
  have h8 := w3.1
  have fin : ∀ v, (∀ q ρ L I, Xr G ρ L I → f_X10_best 5000 0 a (hp q ρ L I) = some (v, hp q ρ L I)) → (∀ t q ρ L I, Mr t G ρ L I → Ms t G ρ (j_up I 129 13 (nI 0)) → f_X11_best 5000 129 a (hp q ρ L I) = some (v, hp q ρ L (j_up I 129 13 (nI 0)))) → ∃ v G', Wr G' ∧ XH (f_X10_best 5000 0 a) G v G' ∧ MH (f_X11_best 5000 129 a) G v G' :=
    fun v hx hm => ⟨v, G, hG', XH_0 hx, MH_0 (fun t q ρ L I h => hm t q ρ L I h (Ms_0 h.1))⟩
  rcases ixo a (gP G) (by omega) with h | ⟨t, ht, rfl⟩
  · refine fin (-nI 1) ?_ ?_
    · rintro q ρ L I ⟨⟨hT, hL, hD, hP, hS, hU, hK, hR, hρ⟩, hW⟩
      simp (disch := first | omega | assumption) only [f_X10_best, ↓bX, ↓bXA, ↓jn_, ↓ob_, ↓b2_, ↓reduceIte, nn_lt, nn_le, nn_eq, nI_add, pk_mul, nn_su, gn_lt, gn_le, ng_lt, ng_le, ng_eq, gn_eq, gg_eq, n_m1, n_cl, if_true, if_false, if_pos, if_neg, lt0, ↓b2e (x_isT0 (q := q) (ρ := ρ) (L := L) hP.1 h)]
    · rintro t q ρ L I - ⟨hT, hL, hD, hP, hS, hU, hK, hR⟩
      simp (disch := first | omega | assumption) only [f_X11_best, ↓bM, ↓bMA, ↓jn_, ↓ob_, ↓b2_, ↓reduceIte, nn_lt, nn_le, nn_eq, nI_add, pk_mul, nn_su, gn_lt, gn_le, ng_lt, ng_le, ng_eq, gn_eq, gg_eq, n_m1, n_cl, if_true, if_false, if_pos, if_neg, lt0, ↓b2e (m_isT0 (q := q) (ρ := ρ) (L := L) hP.1 (by omega) h)]
  obtain ⟨O, hO1, hO2⟩ := mk_nat (bOp (gLx G) (gDu G) (scD (gN G)) t (scP (gN G) t) (fun w => tol (cmp (gRu G)) (gLx G) w (scP (gN G) t) (scH (gN G)))) (duE (gDu G)) (by omega)
  have hO : O < 256 := Nat.lt_of_lt_of_le hO1 (Nat.pow_le_pow_right (n := 2) (by omega) h8)
  obtain ⟨T, hT⟩ : ∃ T : Nat → Nat, T = fun s => sumN s (eP (gLx G) (gDu G) (fun w => tol (cmp (gRu G)) (gLx G) w (scP (gN G) t) (scH (gN G)))) (duE (gDu G)) := ⟨_, rfl⟩
  obtain ⟨V, hV⟩ : ∃ V : Nat → Nat, V = fun s => sumN s (duV (gDu G)) (duE (gDu G)) := ⟨_, rfl⟩
  obtain ⟨sub, hsub⟩ : ∃ sub : Nat → Bool, sub = fun s => decide (nI s &&& (nI O ^^^ -nI 1) = nI 0) := ⟨_, rfl⟩
  have bT : ∀ s, T s ≤ 10000 := fun s => by
    rw [hT]
    have := sumN_le (s := s) (k := 594) (f := eP (gLx G) (gDu G) (fun w => tol (cmp (gRu G)) (gLx G) w (scP (gN G) t) (scH (gN G)))) (duE (gDu G)) (fun e he => eP_le (fun w hw => tol_le w2 hw))
    simp only []
    omega
  have bV : ∀ s, V s ≤ 10000 := fun s => by
    rw [hV]
    have := sumN_le (s := s) (k := 99) (f := duV (gDu G)) (duE (gDu G)) (fun e he => (w3.2 e he).2.2.2)
    simp only []
    omega
  obtain ⟨B, hB⟩ : ∃ B, B = bst sub T V (scU (gN G) t) O := ⟨_, rfl⟩
  refine ⟨nI B.2.1, sRw G (2, fun i => if i = 0 then (nI B.1).toInt64 else (nI B.2.2).toInt64), ⟨w1, w2, w3, w4, w5, w6, w7, by simp only []; omega, w9⟩, XH_q _ ?_, MH_q _ ?_⟩
  · intro q ρ L I hX
    have hQ := XQ_of hX.1
    have hA := hQ.1.1
    obtain ⟨⟨hT', hL, hD, hP, hS, hU, hK, hR, hρ⟩, hW⟩ := hX
    obtain ⟨J, e1, e2, e3, e4⟩ := x_openFor (q := q) (L := L) hQ wQ hS w5 ht
    rw [hO2] at e1
    have e5 := x_bestL (q := q) (ρ := ρ) (L := L) (I := J) (E := duE (gDu G)) (O := O) (t := t) (pu := scU (gN G) t) (T := T) (V := V) (sub := sub) (by rw [e4 13 (by omega) (by omega)]; exact hD.1) h8 hO (by omega) (by rw [e4 21 (by omega) (by omega)]; exact (hS.2.1 t ht).2.1) (w5 t ht).2 _ (duV (gDu G)) e2 (fun e he => by rw [e4 17 (by omega) (by omega)]; exact (hD.2 e he).2.2.2) (fun s => by rw [hT]) (fun s => by rw [hV]) bT bV (fun s => by rw [hsub]) (kk := fun (y25 : Int32) (y26 : Int32) (y27 : Int32) (h28 : jH) =>
        (jg_R 10 1 h28 0).bind (fun v29 =>
        (f_X6_tell_ 5000 v29 (y25.toInt64) (y27.toInt64) h28).bind (fun h30 =>
        some (y26, h30))))
    rw [← hB] at e5
    refine ⟨ρ, j_up (j_up L 4 0 (nI B.1).toInt64) 4 1 (nI B.2.2).toInt64, j_up J 3 1 (nI 2), ?_, Fr.up e3 (by rcases hA with e | e <;> rw [e] <;> rfl), ⟨rfl, rfl, hρ⟩, by rw [up_ne (by omega), up_ne (by omega)], XW_2⟩
    rw [f_X10_best]
    simp (disch := first | omega | assumption) only [↓bX, lt0, ↓b2e (x_isT1 (q := q) (ρ := ρ) (L := L) hP.1 (by omega) ht), ↓b2e e1, nn_eq, if_neg, if_false]
    rw [e5]
    simp (disch := first | omega | assumption) only [↓bX, ↓bXA, ↓jn_, ↓ob_, ↓b2_, ↓reduceIte, nn_lt, nn_le, nn_eq, nI_add, pk_mul, nn_su, gn_lt, gn_le, ng_lt, ng_le, ng_eq, gn_eq, gg_eq, n_m1, n_cl, if_true, if_false, if_pos, if_neg, lt0, ↓oe (x_tell2 (q := q) (ρ := ρ) (L := L) (I := J))]
  · rintro t' q ρ L I ⟨hM, hW⟩
    have hM0 := Ms_0 (x := nI 0) hM
    have hQ := MQ_of hM0
    have hS := hM0.2.2.2.2.1
    obtain ⟨J, z, e1, e2⟩ := m_bestC (q := q) (L := L) (t := t) (z := ρ.2.2.1) hQ w9 wQ hS w5 ht Fr.rf (kk := fun (y24 : Int32) (h25 : jH) =>
        f_X11_best_L101 5000 129 (nI t) y24 (fun (y54 : Int32) (y55 : Int32) (y56 : Int32) (h57 : jH) =>
          (jp_I 11 12 h57 129 (nI 0)).bind (fun h58 =>
          (f_X11_tell 5000 129 (y54.toInt64) h58).bind (fun h59 =>
          (f_X11_tell 5000 129 (y56.toInt64) h59).bind (fun h60 =>
          some (y55, h60))))) 5000 (nI 0) (nI 0) (nI 0) (nI 1) h25)
    rw [hO2, rr_id] at e1
    obtain ⟨K, z2, f1, f2⟩ := m_bestL (q := q) (L := L) (t := t) (O := O) (pu := scU (gN G) t) (T := T) (V := V) (sub := sub) (z := z) hQ w9 wQ hS w5 ht (tTo_N e2) hO hO2.symm rfl (fun s => by rw [hT]) (fun s => by rw [hV]) bT bV (fun s => by rw [hsub]) (kk := fun (y54 : Int32) (y55 : Int32) (y56 : Int32) (h57 : jH) =>
          (jp_I 11 12 h57 129 (nI 0)).bind (fun h58 =>
          (f_X11_tell 5000 129 (y54.toInt64) h58).bind (fun h59 =>
          (f_X11_tell 5000 129 (y56.toInt64) h59).bind (fun h60 =>
          some (y55, h60)))))
    rw [← hB] at f1
    refine ⟨rr ρ z2, j_up (j_up L 136 0 (nI B.1).toInt64) 136 1 (nI B.2.2).toInt64, j_up K 129 12 (nI 2), ?_, Fr.up (Fr.tr (Fr.tr (Fr.up Fr.rf rfl) (tTo_N e2)) (tTo_N f2)) rfl, ⟨rfl, rfl, rfl⟩, by rw [up_ne (by omega), up_ne (by omega)], MW_2⟩
    rw [f_X11_best]
    simp (disch := first | omega | assumption) only [↓bM, ↓ob_, lt0, ↓b2e (m_isT1 (q := q) (ρ := ρ) (L := L) hQ.2.2.2.1 (by omega) ht), nn_eq, if_neg, if_false]
    rw [e1, f1]
    simp (disch := first | omega | assumption) only [↓bM, ↓bMA, ↓jn_, ↓ob_, ↓b2_, ↓reduceIte, nn_lt, nn_le, nn_eq, nI_add, pk_mul, nn_su, gn_lt, gn_le, ng_lt, ng_le, ng_eq, gn_eq, gg_eq, n_m1, n_cl, if_true, if_false, if_pos, if_neg, lt0, m_tell]
