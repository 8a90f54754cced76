/-! JOURNEY: what an act does -/
def fst_ (p : Nat → Bool) : Nat → Nat → Option Nat
  | 0, _ => none
  | m + 1, j => bif p j then some j else fst_ p m (j + 1)
theorem fst_n {p : Nat → Bool} : ∀ m j, fst_ p m j = none → ∀ i, j ≤ i → i < j + m → p i = false
  | 0, j, _, i, h1, h2 => absurd h2 (by omega)
  | m + 1, j, h, i, h1, h2 => by
    rw [fst_] at h
    cases hp : p j with
    | true => rw [hp] at h; cases h
    | false =>
      rw [hp] at h
      by_cases e : i = j
      · rw [e]; exact hp
      · exact fst_n m (j + 1) h i (by omega) (by omega)
theorem fst_s {p : Nat → Bool} : ∀ m j e, fst_ p m j = some e → j ≤ e ∧ e < j + m ∧ p e = true
  | 0, j, e, h => by cases h
  | m + 1, j, e, h => by
    rw [fst_] at h
    cases hp : p j with
    | true =>
      rw [hp] at h
      cases h
      exact ⟨Nat.le_refl _, by omega, hp⟩
    | false =>
      rw [hp] at h
      have := fst_s m (j + 1) e h
      exact ⟨by omega, by omega, this.2.2⟩
/-- his errands here that are not done -/
def hrE (d : gD) (C : gC) (t e : Nat) : Bool := (decide (duW d e = t) && !bt (scD C) e) && decide (duP d e = scP C t)
def wFor (c : List Int32) (g : gL) (d : gD) (C : gC) (t : Nat) : Option Nat := match fst_ (hrE d C t) (duE d) 0 with
  | none => none
  | some e => chF g (duM d e) (fun w => tol c g w (scP C t) (scH C)) 0
def jSay (c : List Int32) (g : gL) (d : gD) (C : gC) (t : Nat) (w : Option Nat) : Option (gC × Nat) := match w with
  | none => none
  | some w => if w < lxW g ∧ spT c g C t w ≤ scU C t then some (spC c g d C t w, spT c g C t w) else none
def jGo_ (S : Nat) (C : gC) (t w : Nat) : Option (gC × Nat) := match goP S (scP C t) w with
  | none => none
  | some p => some (hrC (mvC C t p) (nI 1), 0)
def jAct (c : List Int32) (g : gL) (d : gD) (P S : Nat) (C : gC) (a : Nat × Nat × Nat) : Option (gC × Nat) := if a.1 = 0 then some (hrC C (nI a.2.1), 0) else if a.2.1 < P then (if a.1 = 1 then jGo_ S C a.2.1 1 else if a.1 = 2 then jGo_ S C a.2.1 0 else if a.1 = 3 then jSay c g d C a.2.1 (wFor c g d C a.2.1) else jSay c g d C a.2.1 (some a.2.2)) else none
theorem jGo_W {S P t w u : Nat} {C C' : gC} (ht : t < P) (h : WS C P S) (e : jGo_ S C t w = some (C', u)) : WS C' P S ∧ u ≤ 594 := by
  unfold jGo_ at e
  cases g : goP S (scP C t) w with
  | none => rw [g] at e; cases e
  | some p =>
    rw [g] at e
    cases e
    exact ⟨WS_hr (WS_mv h (goP_in (h t ht).1 g)), by omega⟩
theorem jSay_W {c : List Int32} {g : gL} {d : gD} {S P t u : Nat} {C C' : gC} {w : Option Nat} (hg : WL g) (ht : t < P) (h : WS C P S) (e : jSay c g d C t w = some (C', u)) : WS C' P S ∧ u ≤ 594 := by
  unfold jSay at e
  cases w with
  | none => cases e
  | some w =>
    simp only [] at e
    by_cases g1 : w < lxW g ∧ spT c g C t w ≤ scU C t
    · rw [if_pos g1] at e
      cases e
      exact ⟨WS_sp h ht, tol_le hg g1.1⟩
    · rw [if_neg g1] at e
      cases e
theorem jAct_W {c : List Int32} {g : gL} {d : gD} {P S u : Nat} {C C' : gC} {a : Nat × Nat × Nat} (hg : WL g) (h : WS C P S) (e : jAct c g d P S C a = some (C', u)) : WS C' P S ∧ u ≤ 594 := by
  unfold jAct at e
  by_cases h0 : a.1 = 0
  · rw [if_pos h0] at e
    cases e
    exact ⟨WS_hr h, by omega⟩
  rw [if_neg h0] at e
  by_cases ht : a.2.1 < P
  · rw [if_pos ht] at e
    by_cases h1 : a.1 = 1
    · rw [if_pos h1] at e
      exact jGo_W ht h e
    rw [if_neg h1] at e
    by_cases h2 : a.1 = 2
    · rw [if_pos h2] at e
      exact jGo_W ht h e
    rw [if_neg h2] at e
    by_cases h3 : a.1 = 3
    · rw [if_pos h3] at e
      exact jSay_W hg ht h e
    · rw [if_neg h3] at e
      exact jSay_W hg ht h e
  · rw [if_neg ht] at e
    cases e
/-! by the class -/
theorem hr_x {d : gD} {C : gC} {t : Nat} (hE : duE d ≤ 32) : (dOf d t &&& dAt d (scP C t)) &&& (scD C ^^^ -nI 1) = mk (hrE d C t) (duE d) := by
  refine b_ext (fun i hi => ?_)
  unfold dOf dAt hrE
  rw [b_and, b_and, b_xor, mk_bt _ _ _ hE hi, mk_bt _ _ _ hE hi, mk_bt _ _ _ hE hi, show bt (-nI 1) i = true from b_m1 i hi]
  cases bt (scD C) i <;> cases decide (i < duE d) <;> cases decide (duW d i = t) <;> cases decide (duP d i = scP C t) <;> rfl
theorem mk_0 {p : Nat → Bool} {n : Nat} (hn : n ≤ 32) : mk p n = nI 0 ↔ ∀ i, i < n → p i = false := by
  refine ⟨fun h i hi => ?_, fun h => b_ext (fun i hi => ?_)⟩
  · have := mk_bt p n i hn (by omega)
    rw [h, show bt (nI 0) i = false from b_0 i, decide_eq_true hi, Bool.true_and] at this
    exact this.symm
  · rw [mk_bt p n i hn hi, show bt (nI 0) i = false from b_0 i]
    by_cases e : i < n
    · rw [h i e, Bool.and_false]
    · rw [decide_eq_false e, Bool.false_and]
theorem x_first {q : pQ} {ρ : pP} {L : pL} {I : pI} {E : Nat} {p : Nat → Bool} (hE : I 13 0 = nI E) (h8 : E ≤ 8) : ∀ m j N, j + m = E → m < N → f_X2_firstOf_L2 5000 13 (mk p E) N (nI j) (hp q ρ L I) = some ((match fst_ p m j with | some e => nI e | none => nI 0), hp q ρ L I)
  | _, _, 0, _, h => absurd h (Nat.not_lt_zero _)
  | 0, j, N + 1, h1, h2 => by
    have : j = E := by omega
    subst this
    rw [f_X2_firstOf_L2]
    simp (disch := first | omega | assumption) only [↓bX, lt0, hE, nn_le, Nat.le_refl, if_true, fst_]
  | m + 1, j, N + 1, h1, h2 => by
    have e := sh_1 (d := mk p E) (e := j) (by omega)
    rw [mk_bt _ _ _ (by omega) (by omega), decide_eq_true (show j < E by omega), Bool.true_and] at e
    rw [f_X2_firstOf_L2]
    cases hp : p j with
    | true =>
      rw [hp, if_pos rfl] at e
      simp (disch := first | omega | assumption) only [↓bX, lt0, hE, nn_le, if_neg, if_false, e, if_true, fst_, hp, cond_true]
    | false =>
      rw [hp, if_neg (by decide)] at e
      simp (disch := first | omega | assumption) only [↓bX, lt0, hE, nn_le, nn_eq, if_neg, if_false, e, fst_, hp, cond_false, nI_add]
      exact x_first hE h8 m (j + 1) N (by omega) (by omega)
/-- what an act leaves in the class -/
def acF (ρ : pP) (I J : pI) : Prop := Fr (tV ρ.1.1) I J ∧ ∀ b, b ≠ 0 → (b < 19 ∨ 23 < b) → b < 115 → J b = I b
theorem acF_rf {ρ : pP} {I : pI} : acF ρ I I := ⟨Fr.rf, fun _ _ _ _ => rfl⟩
theorem acF_tr {ρ : pP} {I J K : pI} (h : acF ρ I J) (g : acF ρ J K) : acF ρ I K := ⟨Fr.tr h.1 g.1, fun b b1 b2 b3 => (g.2 b b1 b2 b3).trans (h.2 b b1 b2 b3)⟩
theorem x_wfE {q : pQ} {ρ : pP} {L : pL} {I : pI} {c : List Int32} {g : gL} {d : gD} {C : gC} {P S t : Nat} (hQ : XQ c g d P S ρ I) (wQ : WQ c g d P S) (hC : XS 19 C P I) (hWS : WS C P S) (ht : t < P) : ∃ J, f_X10_wordForErrand 5000 0 (nI t) (hp q ρ L I) = some (eo (wFor c g d C t), hp q ρ L J) ∧ Fr (tY ρ.1.1) I J ∧ ∀ b, b < 115 → J b = I b := by
  obtain ⟨w1, w2, w3, w4, w5⟩ := wQ
  have hA := hQ.1.1
  have hE := w3.1
  have hpl := (hWS t ht).1
  have h20 := (hC.2.1 t ht).1
  have h191 := hC.1.2
  have e1 := x_isT1 (q := q) (ρ := ρ) (L := L) hQ.2.2.2.1 (by omega) ht
  have e2 := x_of (q := q) (ρ := ρ) (L := L) (t := t) hQ.2.2.1 w3 (by omega) (by omega)
  have e3 := x_at (q := q) (ρ := ρ) (L := L) (t := scP C t) hQ.2.2.1 w3 (by omega) (by omega)
  have hx := hr_x (d := d) (C := C) (t := t) (by omega)
  unfold wFor
  cases hf : fst_ (hrE d C t) (duE d) 0 with
  | none =>
    have h0 : mk (hrE d C t) (duE d) = nI 0 := (mk_0 (by omega)).mpr (fun i hi => fst_n _ _ hf i (Nat.zero_le i) (by omega))
    refine ⟨I, ?_, Fr.rf, fun _ _ => rfl⟩
    simp (disch := first | omega | assumption) only [f_X10_wordForErrand, ↓bX, ↓bXA, ↓ob_, lt0, ↓b2e e1, nn_eq, if_neg, if_false, h20, ↓b2e e2, ↓b2e e3, h191, hx, h0, if_true, eo_n]
  | some e =>
    obtain ⟨-, he, hpe⟩ := fst_s _ _ _ hf
    rw [Nat.zero_add] at he
    have h0 : ¬ mk (hrE d C t) (duE d) = nI 0 := fun h => by
      have := (mk_0 (by omega)).mp h e he
      rw [hpe] at this
      cases this
    obtain ⟨J, j1, j2, j3⟩ := x_priceAll (q := q) (ρ := ρ) (L := L) (B := 115) (s := scP C t) hA (.inl rfl) hQ.1.2 w1 hQ.2.1 w2 hC.1.1
    have z : ∀ b, b < 115 → J b = I b := fun b hb => j3 b (by unfold tT; omega) (by omega)
    have e4 : f_X2_firstOf 5000 13 (mk (hrE d C t) (duE d)) (hp q ρ L J) = some (nI e, hp q ρ L J) := by
      have := x_first (q := q) (ρ := ρ) (L := L) (I := J) (p := hrE d C t) (by rw [z 13 (by omega)]; exact hQ.2.2.1.1) hE (duE d) 0 5000 (by omega) (by omega)
      rw [hf] at this
      simp (disch := first | omega | assumption) only [f_X2_firstOf, ↓bX, lt0]
      exact this
    have h15 : J 15 e = nI (duM d e) := by rw [z 15 (by omega)]; exact (hQ.2.2.1.2 e he).2.1
    have hm := (w3.2 e he).2.1
    have e5 := x_cheapF (q := q) (ρ := ρ) (L := L) (I := J) (pr := fun w => tol c g w (scP C t) (scH C)) (x := 0) (m := duM d e) (XL_k (fun b _ _ => z b (by omega)) hQ.2.1) w2 j2 (fun w hw => tol_le w2 hw) (by omega) (by omega)
    refine ⟨J, ?_, trB hA (.inl rfl) j3, z⟩
    simp (disch := first | omega | assumption) only [f_X10_wordForErrand, ↓bX, ↓bXA, ↓ob_, lt0, ↓b2e e1, nn_eq, if_neg, if_false, h20, ↓b2e e2, ↓b2e e3, h191, hx, h0, ↓oe j1, ↓b2e e4, h15, ↓b2e e5]
theorem x_spO {q : pQ} {ρ : pP} {L : pL} {I : pI} {c : List Int32} {g : gL} {d : gD} {C : gC} {P S t : Nat} {w : Option Nat} (hQ : XQ c g d P S ρ I) (wQ : WQ c g d P S) (hC : XS 19 C P I) (hWS : WS C P S) (ht : t < P) (hw : ∀ x, w = some x → x < 1000) : ∃ J v, f_X10_speak 5000 0 (nI t) (eo w) (hp q ρ L I) = some (v, hp q ρ L J) ∧ (jSay c g d C t w = none → ¬ nI 0 ≤ v ∧ XS 19 C P J) ∧ (∀ C' u, jSay c g d C t w = some (C', u) → v = nI u ∧ XS 19 C' P J) ∧ acF ρ I J := by
  have hA := hQ.1.1
  have hP := hQ.2.2.2.1
  have wQ' := wQ
  obtain ⟨w1, w2, w3, w4, w5⟩ := wQ
  have e1 := x_isT1 (q := q) (ρ := ρ) (L := L) hP (by omega) ht
  have m1 : ¬ nI 0 ≤ -nI 1 := by rw [ng_le (by omega) (by omega) (by omega)]; exact fun h => h
  cases w with
  | none =>
    have e2 := x_isW0 (q := q) (ρ := ρ) (L := L) (I := I) hQ.2.1.1 (Out_neg (a := 1) (n := lxW g) (by omega) (by omega))
    refine ⟨I, -nI 1, ?_, fun _ => ⟨m1, hC⟩, fun C' u h => (by cases h), acF_rf⟩
    rw [eo_n]
    simp (disch := first | omega | assumption) only [f_X10_speak, ↓bX, ↓ob_, lt0, ↓b2e e1, nn_eq, if_neg, if_false, ↓b2e e2, if_true]
  | some w =>
    rw [eo_s]
    have hw' := hw w rfl
    by_cases h1 : w < lxW g
    · by_cases h2 : spT c g C t w ≤ scU C t
      · obtain ⟨J, j1, j2, j3, j4, j5⟩ := x_speak1 (q := q) (L := L) hQ wQ' hC hWS ht h1 h2
        have es : jSay c g d C t (some w) = some (spC c g d C t w, spT c g C t w) := if_pos ⟨h1, h2⟩
        refine ⟨J, nI (spT c g C t w), j1, fun h => (by rw [es] at h; cases h), fun C' u h => (by rw [es] at h; cases h; exact ⟨rfl, j2⟩), Fr_sp hA j4 j5, fun b b1 b2 b3 => j4 b (by unfold tT; omega) b1 b2⟩
      · obtain ⟨J, j1, j2⟩ := x_speak0 (q := q) (L := L) hQ wQ' hC ht h1 (hWS t ht).2 h2
        have es : jSay c g d C t (some w) = none := if_neg (fun h => h2 h.2)
        refine ⟨J, -nI 2, j1, fun _ => ⟨nle2, XS_k (fun i hi => j2 _ (by unfold tT; omega)) hC⟩, fun C' u h => (by rw [es] at h; cases h), Fr_sp0 hA j2, fun b b1 b2 b3 => j2 b (by unfold tT; omega)⟩
    · have e2 := x_isW0 (q := q) (ρ := ρ) (L := L) (I := I) hQ.2.1.1 (Out_ge (a := w) (n := lxW g) (by omega) (by omega))
      have es : jSay c g d C t (some w) = none := if_neg (fun h => h1 h.1)
      refine ⟨I, -nI 1, ?_, fun _ => ⟨m1, hC⟩, fun C' u h => (by rw [es] at h; cases h), acF_rf⟩
      simp (disch := first | omega | assumption) only [f_X10_speak, ↓bX, ↓ob_, lt0, ↓b2e e1, nn_eq, if_neg, if_false, ↓b2e e2, if_true]
theorem acF_19 {ρ : pP} {I J : pI} (h : ∀ b, (b < 19 ∨ 23 < b) → J b = I b) : acF ρ I J := ⟨Fr_26 (fun a ha => h a (by omega)), fun b b1 b2 b3 => h b b2⟩
theorem x_goO {q : pQ} {ρ : pP} {L : pL} {I : pI} {c : List Int32} {g : gL} {d : gD} {C : gC} {P S t w : Nat} (hQ : XQ c g d P S ρ I) (wQ : WQ c g d P S) (hC : XS 19 C P I) (hWS : WS C P S) (ht : t < P) (hw : w < 2) : ∃ J v, f_X10_goes 5000 0 (nI t) (nI w) (hp q ρ L I) = some (v, hp q ρ L J) ∧ (jGo_ S C t w = none → v = -nI 2 ∧ XS 19 C P J) ∧ (∀ C' u, jGo_ S C t w = some (C', u) → j_min v (nI 0) = nI u ∧ XS 19 C' P J) ∧ acF ρ I J := by
  have hP := hQ.2.2.2.1
  have hS := hQ.2.2.2.2
  obtain ⟨w1, w2, w3, w4, w5⟩ := wQ
  have hpl := (hWS t ht).1
  unfold jGo_
  cases g : goP S (scP C t) w with
  | none =>
    have e1 := x_move0 (q := q) (ρ := ρ) (L := L) hC hP hS w4 w5 ht hw hpl g
    refine ⟨I, -nI 2, ?_, fun _ => ⟨rfl, hC⟩, fun C' u h => (by cases h), acF_rf⟩
    simp (disch := first | omega | assumption) only [f_X10_goes, ↓bX, lt0, ↓b2e e1, gn_lt, if_true]
  | some p =>
    have e1 := x_move1 (q := q) (ρ := ρ) (L := L) hC hP hS w4 w5 ht hw hpl g
    have hp6 := goP_in hpl g
    have h19 : j_up I 20 t (nI p) 19 0 = scH C := by rw [up_ne (by omega)]; exact hC.1.1
    refine ⟨j_up (j_up I 20 t (nI p)) 19 0 (scH C + nI 1), nI p, ?_, fun h => (by cases h), fun C' u h => ?_, acF_19 (fun b hb => by rw [up_ne (by omega), up_ne (by omega)])⟩
    · simp (disch := first | omega | assumption) only [f_X10_goes, ↓bX, ↓ob_, lt0, ↓b2e e1, nn_lt, if_neg, if_false, h19, Nat.not_lt_zero]
    · cases h
      refine ⟨?_, XS_hr (XS_mv hC)⟩
      by_cases e : 0 < p
      · have h1 : ¬ nI p < nI 0 := by rw [nn_lt (by omega) (by omega)]; omega
        have h2 : nI 0 < nI p := by rw [nn_lt (by omega) (by omega)]; omega
        unfold j_min
        first | rw [if_neg h1] | rw [if_pos h2]
      · have e0 : p = 0 := by omega
        rw [e0]
        decide
theorem dv16 : ∀ a, a < 64 → j_div (nI a) (nI 16) = some (nI (a / 16)) ∧ j_rem (nI a) (nI 16) = some (nI (a % 16)) := by decide +kernel
theorem x_act {q : pQ} {ρ : pP} {L : pL} {I : pI} {c : List Int32} {g : gL} {d : gD} {C : gC} {P S : Nat} {a : Nat × Nat × Nat} (hQ : XQ c g d P S ρ I) (wQ : WQ c g d P S) (hC : XS 19 C P I) (hWS : WS C P S) (ha : a.1 ≤ 4 ∧ a.2.1 < 100 ∧ (a.1 ≠ 0 → a.2.1 < 4) ∧ (a.1 = 4 → a.2.2 < 10)) : ∃ J v, f_X10_act 5000 0 (nI (aX a)) (hp q ρ L I) = some (v, hp q ρ L J) ∧ (jAct c g d P S C a = none → ¬ nI 0 ≤ v ∧ XS 19 C P J) ∧ (∀ C' u, jAct c g d P S C a = some (C', u) → v = nI u ∧ XS 19 C' P J) ∧ acF ρ I J := by
  obtain ⟨a1, a2, a3, a4⟩ := ha
  have wQ' := wQ
  obtain ⟨w1, w2, w3, w4, w5⟩ := wQ
  have m1 : ¬ nI 0 ≤ -nI 1 := by rw [ng_le (by omega) (by omega) (by omega)]; exact fun h => h
  have mn2 : j_min (-nI 2) (nI 0) = -nI 2 := by decide
  have mn1 : j_min (-nI 1) (nI 0) = -nI 1 := by decide
  by_cases h0 : a.1 = 0
  · have ex : aX a = 1000 + a.2.1 := if_pos h0
    have ej : jAct c g d P S C a = some (hrC C (nI a.2.1), 0) := if_pos h0
    have h19 := hC.1.1
    rw [ex, ej]
    refine ⟨j_up I 19 0 (scH C + nI a.2.1), nI 0, ?_, fun h => (by cases h), fun C' u h => (by cases h; exact ⟨rfl, XS_hr hC⟩), acF_19 (fun b hb => up_ne (by omega))⟩
    simp (disch := first | omega | assumption) only [f_X10_act, ↓bX, ↓ob_, lt0, nn_lt, if_neg, if_false, h19, nn_su, Nat.add_sub_cancel_left]
  · have ht4 := a3 h0
    obtain ⟨t, hte⟩ : ∃ t, t = a.2.1 := ⟨_, rfl⟩
    obtain ⟨k, hke⟩ : ∃ k, k = (if a.1 = 1 then 10 else if a.1 = 2 then 11 else if a.1 = 3 then 12 else a.2.2) := ⟨_, rfl⟩
    have hk : k < 16 := by
      rw [hke]
      split
      · omega
      · split
        · omega
        · split
          · omega
          · have := a4 (by omega)
            omega
    have ex : aX a = t * 16 + k := by rw [hte, hke]; exact if_neg h0
    have ej : jAct c g d P S C a = if t < P then (if a.1 = 1 then jGo_ S C t 1 else if a.1 = 2 then jGo_ S C t 0 else if a.1 = 3 then jSay c g d C t (wFor c g d C t) else jSay c g d C t (some a.2.2)) else none := by rw [hte]; exact if_neg h0
    rw [← hte] at ht4
    obtain ⟨d1, d2⟩ := dv16 (t * 16 + k) (by omega)
    rw [show (t * 16 + k) / 16 = t by omega] at d1
    rw [show (t * 16 + k) % 16 = k by omega] at d2
    rw [ex, ej]
    have hP := hQ.2.2.2.1
    by_cases ht : t < P
    · rw [if_pos ht]
      by_cases h1 : a.1 = 1
      · have ek : k = 10 := by rw [hke, if_pos h1]
        rw [if_pos h1]
        obtain ⟨J, v, j1, j2, j3, j4⟩ := x_goO (q := q) (L := L) (w := 1) hQ wQ' hC hWS ht (by omega)
        refine ⟨J, j_min v (nI 0), ?_, fun h => ?_, j3, j4⟩
        · rw [ek] at d1 d2 ⊢
          simp (disch := first | omega | assumption) only [f_X10_act, ↓bX, lt0, nn_lt, if_pos, ↓oe d1, ↓oe d2, if_true, ↓b2e j1]
        · obtain ⟨rfl, h2⟩ := j2 h
          exact ⟨by rw [mn2]; exact nle2, h2⟩
      rw [if_neg h1]
      by_cases h2 : a.1 = 2
      · have ek : k = 11 := by rw [hke, if_neg h1, if_pos h2]
        rw [if_pos h2]
        obtain ⟨J, v, j1, j2, j3, j4⟩ := x_goO (q := q) (L := L) (w := 0) hQ wQ' hC hWS ht (by omega)
        refine ⟨J, j_min v (nI 0), ?_, fun h => ?_, j3, j4⟩
        · rw [ek] at d1 d2 ⊢
          simp (disch := first | omega | assumption) only [f_X10_act, ↓bX, lt0, nn_lt, nn_eq, if_pos, ↓oe d1, ↓oe d2, if_true, if_neg, if_false, ↓b2e j1]
        · obtain ⟨rfl, h2⟩ := j2 h
          exact ⟨by rw [mn2]; exact nle2, h2⟩
      rw [if_neg h2]
      by_cases h3 : a.1 = 3
      · have ek : k = 12 := by rw [hke, if_neg h1, if_neg h2, if_pos h3]
        rw [if_pos h3]
        obtain ⟨J, j1, j2, j3⟩ := x_wfE (q := q) (L := L) hQ wQ' hC hWS ht
        have hQ2 : XQ c g d P S ρ J := XQ_V (Fr_V j2) hQ
        have hC2 : XS 19 C P J := XS_k (fun i hi => j3 _ (by omega)) hC
        obtain ⟨K, v, k1, k2, k3, k4⟩ := x_spO (q := q) (L := L) (w := wFor c g d C t) hQ2 wQ' hC2 hWS ht (fun x hx => by
          unfold wFor at hx
          split at hx
          · cases hx
          · have := (abest_in hx).1
            have := w2.1
            omega)
        refine ⟨K, v, ?_, k2, k3, acF_tr ⟨Fr_V j2, fun b _ _ b3 => j3 b b3⟩ k4⟩
        rw [ek] at d1 d2 ⊢
        simp (disch := first | omega | assumption) only [f_X10_act, ↓bX, lt0, nn_lt, nn_eq, if_pos, ↓oe d1, ↓oe d2, if_true, if_neg, if_false, ↓b2e j1, ↓b2e k1]
      · have ek : k = a.2.2 := by rw [hke, if_neg h1, if_neg h2, if_neg h3]
        have hk10 := a4 (by omega)
        rw [if_neg h3]
        obtain ⟨K, v, k1, k2, k3, k4⟩ := x_spO (q := q) (L := L) (w := some a.2.2) hQ wQ' hC hWS ht (fun x hx => by cases hx; omega)
        refine ⟨K, v, ?_, k2, k3, k4⟩
        rw [eo_s, ← ek] at k1
        simp (disch := first | omega | assumption) only [f_X10_act, ↓bX, lt0, nn_lt, nn_eq, if_pos, ↓oe d1, ↓oe d2, if_true, if_neg, if_false, ↓b2e k1]
    · rw [if_neg ht]
      have e0 := x_isT0 (q := q) (ρ := ρ) (L := L) (I := I) hP (Out_ge (a := t) (n := P) (by omega) (by omega))
      have mv : ∀ w : Int32, f_X10_move 5000 0 (nI t) w (hp q ρ L I) = some (-nI 1, hp q ρ L I) := fun w => by
        simp (disch := first | omega | assumption) only [f_X10_move, ↓bX, lt0, ↓b2e e0, if_true]
      have go : ∀ w : Int32, f_X10_goes 5000 0 (nI t) w (hp q ρ L I) = some (-nI 1, hp q ρ L I) := fun w => by
        simp (disch := first | omega | assumption) only [f_X10_goes, ↓bX, lt0, ↓b2e (mv w), gn_lt, if_true]
      have sp : ∀ w : Int32, f_X10_speak 5000 0 (nI t) w (hp q ρ L I) = some (-nI 1, hp q ρ L I) := fun w => by
        simp (disch := first | omega | assumption) only [f_X10_speak, ↓bX, lt0, ↓b2e e0, if_true]
      have wf : f_X10_wordForErrand 5000 0 (nI t) (hp q ρ L I) = some (-nI 1, hp q ρ L I) := by
        simp (disch := first | omega | assumption) only [f_X10_wordForErrand, ↓bX, lt0, ↓b2e e0, if_true]
      refine ⟨I, -nI 1, ?_, fun _ => ⟨m1, hC⟩, fun C' u h => (by cases h), acF_rf⟩
      rcases (show k = 10 ∨ k = 11 ∨ k = 12 ∨ (k ≠ 10 ∧ k ≠ 11 ∧ k ≠ 12) by omega) with ek | ek | ek | ek
      · rw [ek] at d1 d2 ⊢
        simp (disch := first | omega | assumption) only [f_X10_act, ↓bX, lt0, nn_lt, if_pos, ↓oe d1, ↓oe d2, if_true, ↓b2e (go _), mn1]
      · rw [ek] at d1 d2 ⊢
        simp (disch := first | omega | assumption) only [f_X10_act, ↓bX, lt0, nn_lt, nn_eq, if_pos, ↓oe d1, ↓oe d2, if_true, if_neg, if_false, ↓b2e (go _), mn1]
      · rw [ek] at d1 d2 ⊢
        simp (disch := first | omega | assumption) only [f_X10_act, ↓bX, lt0, nn_lt, nn_eq, if_pos, ↓oe d1, ↓oe d2, if_true, if_neg, if_false, ↓b2e wf, ↓b2e (sp _)]
      · simp (disch := first | omega | assumption) only [f_X10_act, ↓bX, lt0, nn_lt, nn_eq, if_pos, ↓oe d1, ↓oe d2, if_true, if_neg, if_false, ek.1, ek.2.1, ek.2.2, ↓b2e (sp _)]
