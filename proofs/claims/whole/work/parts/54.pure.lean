/-! TAKES, GREED -/
def opn (d : gD) (dn : Int32) (s e : Nat) : Bool := decide (duP d e = s) && !bt dn e
def incS (g : gL) (d : gD) (dn : Int32) (s : Nat) (pr : Nat → Nat) (x e : Nat) (a : Nat × Nat) : Nat × Nat := bif opn d dn s e then (match chF g (duM d e) pr x with
  | none => a
  | some w => if pr w + x * vw g w ≤ duV d e then (a.1 + (pr w + x * vw g w), a.2 + 1) else a) else a
def inc (g : gL) (d : gD) (dn : Int32) (s : Nat) (pr : Nat → Nat) (x n : Nat) : Nat × Nat := fo (incS g d dn s pr x) 0 n (0, 0)
theorem inc_s {g : gL} {d : gD} {dn : Int32} {s : Nat} {pr : Nat → Nat} {x n : Nat} : inc g d dn s pr x (n + 1) = incS g d dn s pr x n (inc g d dn s pr x n) := by
  unfold inc
  rw [fo_last, Nat.zero_add]
theorem incS_0 {g : gL} {d : gD} {dn : Int32} {s : Nat} {pr : Nat → Nat} {x e : Nat} {a : Nat × Nat} (h : opn d dn s e = false) : incS g d dn s pr x e a = a := by unfold incS; rw [h]; rfl
theorem incS_n {g : gL} {d : gD} {dn : Int32} {s : Nat} {pr : Nat → Nat} {x e : Nat} {a : Nat × Nat} (h : opn d dn s e = true) (h2 : chF g (duM d e) pr x = none) : incS g d dn s pr x e a = a := by unfold incS; rw [h, h2]; rfl
theorem incS_t {g : gL} {d : gD} {dn : Int32} {s : Nat} {pr : Nat → Nat} {x e w : Nat} {a : Nat × Nat} (h : opn d dn s e = true) (h2 : chF g (duM d e) pr x = some w) (h3 : pr w + x * vw g w ≤ duV d e) : incS g d dn s pr x e a = (a.1 + (pr w + x * vw g w), a.2 + 1) := by unfold incS; rw [h, h2]; simp only [cond_true, if_pos h3]
theorem incS_f {g : gL} {d : gD} {dn : Int32} {s : Nat} {pr : Nat → Nat} {x e w : Nat} {a : Nat × Nat} (h : opn d dn s e = true) (h2 : chF g (duM d e) pr x = some w) (h3 : ¬ pr w + x * vw g w ≤ duV d e) : incS g d dn s pr x e a = a := by unfold incS; rw [h, h2]; simp only [cond_true, if_neg h3]
theorem inc_le {g : gL} {d : gD} {dn : Int32} {s P S : Nat} {pr : Nat → Nat} {x : Nat} (hd : WD d P S) : ∀ n, n ≤ duE d → (inc g d dn s pr x n).1 ≤ 99 * n ∧ (inc g d dn s pr x n).2 ≤ n
  | 0, _ => ⟨Nat.le_refl 0, Nat.le_refl 0⟩
  | n + 1, h => by
    obtain ⟨a, b⟩ := inc_le (g := g) (dn := dn) (s := s) (pr := pr) (x := x) hd n (by omega)
    have hv := (hd.2 n (by omega)).2.2.2
    rw [inc_s]
    cases h1 : opn d dn s n with
    | false => rw [incS_0 h1]; omega
    | true =>
      cases h2 : chF g (duM d n) pr x with
      | none => rw [incS_n h1 h2]; omega
      | some w =>
        by_cases h3 : pr w + x * vw g w ≤ duV d n
        · rw [incS_t h1 h2 h3]
          simp only []
          omega
        · rw [incS_f h1 h2 h3]; omega
theorem opn_bt {d : gD} {dn : Int32} {s e : Nat} (hE : duE d ≤ 8) (he : e < duE d) : bt (dAt d s &&& (dn ^^^ -nI 1)) e = opn d dn s e := by
  unfold dAt opn
  rw [b_and, b_xor, mk_bt _ _ _ (by omega) (by omega), show bt (-nI 1) e = true from b_m1 e (by omega), decide_eq_true he]
  cases bt dn e <;> simp
theorem x_income {q : pQ} {ρ : pP} {L : pL} {I : pI} {g : gL} {d : gD} {P S s x : Nat} {dn : Int32} {pr : Nat → Nat} (hL : XL g I) (hg : WL g) (hD : XD d I) (hd : WD d P S) (hS : S ≤ 6) (hs : s < 6) (hpr : ∀ w, w < lxW g → I 115 w = nI (pr w)) (hpb : ∀ w, w < lxW g → pr w ≤ 594) (hx : x ≤ 99) (h191 : I 19 1 = dn) : f_X10_incomeBy 5000 0 (nI s) (nI x) (hp q ρ L I) = some (nI (inc g d dn s pr x (duE d)).1, hp q ρ L (j_up I 0 19 (nI (inc g d dn s pr x (duE d)).2))) := by
  have hW := hg.1
  have h8 := hd.1
  obtain ⟨y, e1, e2⟩ := loE (fun n (y : Nat × Nat) j => f_X10_incomeBy_L30 5000 0 (nI x) (dAt d s &&& (dn ^^^ -nI 1)) n (nI y.1) (nI j) (hp q ρ L (j_up I 0 19 (nI y.2)))) (fun y => some (nI y.1, hp q ρ L (j_up I 0 19 (nI y.2)))) (duE d) (fun j y => y = inc g d dn s pr x j) (by
    intro n y p
    rw [f_X10_incomeBy_L30]
    simp (disch := first | omega | assumption) only [↓bX, ↓bXA, ↓jn_, ↓ob_, ↓b2_, ↓reduceIte, nn_lt, nn_le, nn_eq, nI_add, pk_mul, nn_su, gn_lt, gn_le, ng_lt, ng_le, ng_eq, gn_eq, gg_eq, n_m1, n_cl, if_true, if_false, if_pos, if_neg, lt0, up_ne, hD.1, Nat.le_refl]) (by
    intro n y j hj p
    have hb := inc_le (g := g) (dn := dn) (s := s) (pr := pr) (x := x) hd j (by omega)
    rw [← p] at hb
    have hv := (hd.2 j hj).2.2.2
    have hm9 := (hd.2 j hj).2.1
    have e15 : I 15 j = nI (duM d j) := (hD.2 j hj).2.1
    have e17 : I 17 j = nI (duV d j) := (hD.2 j hj).2.2.2
    have ho := opn_bt (dn := dn) (s := s) h8 hj
    refine ⟨incS g d dn s pr x j y, ?_, by rw [inc_s, p]⟩
    rw [f_X10_incomeBy_L30]
    cases h1 : opn d dn s j with
    | false =>
      rw [incS_0 h1]
      rw [h1] at ho
      simp (disch := first | omega | assumption) only [↓bX, ↓bXA, ↓jn_, ↓ob_, ↓b2_, ↓reduceIte, nn_lt, nn_le, nn_eq, nI_add, pk_mul, nn_su, gn_lt, gn_le, ng_lt, ng_le, ng_eq, gn_eq, gg_eq, n_m1, n_cl, if_true, if_false, if_pos, if_neg, lt0, up_ne, hD.1, sh_1, ho, Bool.false_eq_true]
    | true =>
      rw [h1] at ho
      have hc := x_cheapF (q := q) (ρ := ρ) (L := L) (I := j_up I 0 19 (nI y.2)) (g := g) (pr := pr) (x := x) (m := duM d j) (XL_k (fun b _ _ => up_ne (by omega)) hL) hg (fun w hw => by rw [up_ne (by omega)]; exact hpr w hw) hpb hx (by omega)
      cases h2 : chF g (duM d j) pr x with
      | none =>
        rw [incS_n h1 h2]
        rw [h2, eo_n] at hc
        simp (disch := first | omega | assumption) only [↓bX, ↓bXA, ↓jn_, ↓ob_, ↓b2_, ↓reduceIte, nn_lt, nn_le, nn_eq, nI_add, pk_mul, nn_su, gn_lt, gn_le, ng_lt, ng_le, ng_eq, gn_eq, gg_eq, n_m1, n_cl, if_true, if_false, if_pos, if_neg, lt0, up_ne, hD.1, sh_1, ho, e15, ↓b2e hc]
      | some w =>
        rw [h2, eo_s] at hc
        have hw := (abest_in h2).1
        have hpw := hpr w hw
        have hbw := hpb w hw
        have hvw := vw_le hg hw
        have hmul : x * vw g w ≤ 99 * 6 := Nat.mul_le_mul hx hvw
        have hvo := x_vowelsOf (q := q) (ρ := ρ) (L := L) (I := j_up I 0 19 (nI y.2)) (XL_k (fun b _ _ => up_ne (by omega)) hL) hg hw
        have ev : vws (lxL g w) (lxN g w) = vw g w := rfl
        rw [ev] at hvo
        by_cases h3 : pr w + x * vw g w ≤ duV d j
        · rw [incS_t h1 h2 h3]
          simp (disch := first | omega | assumption) only [↓bX, ↓bXA, ↓jn_, ↓ob_, ↓b2_, ↓reduceIte, nn_lt, nn_le, nn_eq, nI_add, pk_mul, nn_su, gn_lt, gn_le, ng_lt, ng_le, ng_eq, gn_eq, gg_eq, n_m1, n_cl, if_true, if_false, if_pos, if_neg, lt0, up_ne, hD.1, sh_1, ho, e15, ↓b2e hc, hpw, ↓b2e hvo, e17, up_eq, up_up]
        · rw [incS_f h1 h2 h3]
          simp (disch := first | omega | assumption) only [↓bX, ↓bXA, ↓jn_, ↓ob_, ↓b2_, ↓reduceIte, nn_lt, nn_le, nn_eq, nI_add, pk_mul, nn_su, gn_lt, gn_le, ng_lt, ng_le, ng_eq, gn_eq, gg_eq, n_m1, n_cl, if_true, if_false, if_pos, if_neg, lt0, up_ne, hD.1, sh_1, ho, e15, ↓b2e hc, hpw, ↓b2e hvo, e17]) (duE d) 5000 (0, 0) 0 (by omega) (by omega) rfl
  rw [← e2, ← e1]
  simp (disch := first | omega | assumption) only [f_X10_incomeBy, ↓bX, ↓bXA, ↓jn_, ↓ob_, ↓b2_, ↓reduceIte, nn_lt, nn_le, nn_eq, nI_add, pk_mul, nn_su, gn_lt, gn_le, ng_lt, ng_le, ng_eq, gn_eq, gg_eq, n_m1, n_cl, if_true, if_false, if_pos, if_neg, lt0, ↓b2e (x_at (q := q) (ρ := ρ) (L := L) (t := s) hD hd (by omega) (by omega)), h191]
/-- the least of those that mean it -/
def mnF (p : Nat → Bool) (c : Nat → Nat) (n : Nat) : Nat := fo (fun w v => bif p w then min v (c w) else v) 0 n 100000000
theorem mnF_s {p : Nat → Bool} {c : Nat → Nat} {n : Nat} : mnF p c (n + 1) = bif p n then min (mnF p c n) (c n) else mnF p c n := by
  unfold mnF
  rw [fo_last, Nat.zero_add]
theorem mnF_a {p : Nat → Bool} {c : Nat → Nat} : ∀ n, (∀ w, w < n → c w < 100000000) → (∀ w, abest p (fun w v => decide (c w < c v)) n = some w → mnF p c n = c w) ∧ (abest p (fun w v => decide (c w < c v)) n = none → mnF p c n = 100000000)
  | 0, _ => ⟨fun w h => (by cases h), fun _ => rfl⟩
  | n + 1, hb => by
    obtain ⟨a, b⟩ := mnF_a (p := p) (c := c) n (fun w hw => hb w (by omega))
    have hn := hb n (by omega)
    rw [abest_s, mnF_s]
    cases hp : p n with
    | false =>
      rw [bsS_f hp]
      exact ⟨a, b⟩
    | true =>
      simp only [cond_true]
      cases ha : abest p (fun w v => decide (c w < c v)) n with
      | none =>
        rw [bsS_n hp, b ha]
        exact ⟨fun w h => by cases h; exact Nat.min_eq_right (by omega), fun h => by cases h⟩
      | some v =>
        have ea := a v ha
        by_cases hlt : c n < c v
        · rw [bsS_s (r := fun w v => decide (c w < c v)) hp (decide_eq_true hlt)]
          exact ⟨fun w h => by cases h; rw [ea]; exact Nat.min_eq_right (by omega), fun h => by cases h⟩
        · rw [bsS_k (r := fun w v => decide (c w < c v)) hp (decide_eq_false hlt)]
          exact ⟨fun w h => by cases h; rw [ea]; exact Nat.min_eq_left (by omega), fun h => by cases h⟩
theorem mnF_le {p : Nat → Bool} {c : Nat → Nat} : ∀ n, mnF p c n ≤ 100000000
  | 0 => Nat.le_refl _
  | n + 1 => by
    have := mnF_le (p := p) (c := c) n
    rw [mnF_s]
    cases p n with
    | true => simp only [cond_true]; omega
    | false => exact this
theorem m_tkW {q : pQ} {ρ : pP} {L : pL} {I : pI} {r : gT} {g : gL} {d : gD} {P S s x e : Nat} {hr x3 : Int32} {J : pI} {z : Option Nat} (hQ : MQ_ r g d P S ρ I) (hwr : WR r) (hg : WL g) (hd : WD d P S) (h12 : I 130 12 = hr) (hx : x ≤ 99) (he : e < duE d) (hF : Fr tN I J) {kk : Int32 → jH → Option (Int32 × jH)} : ∃ K z', f_X11_takesBy_L56 5000 129 (nI s) (nI x) x3 (nI e) kk 5000 (nI 100000000) (nI 0) (hp q (rr ρ z) L J) = kk (nI (mnF (fun w => mean g w (duM d e)) (fun w => tol (cmp r) g w s hr + x * vw g w) (lxW g))) (hp q (rr ρ z') L K) ∧ Fr tTo J K := by
  have hW := hg.1
  have hm9 := (hd.2 e he).2.1
  obtain ⟨⟨v, z', K⟩, e1, e2, e3⟩ := loE (fun n (y : Nat × Option Nat × pI) j => f_X11_takesBy_L56 5000 129 (nI s) (nI x) x3 (nI e) kk n (nI y.1) (nI j) (hp q (rr ρ y.2.1) L y.2.2)) (fun y => kk (nI y.1) (hp q (rr ρ y.2.1) L y.2.2)) (lxW g) (fun j y => y.1 = mnF (fun w => mean g w (duM d e)) (fun w => tol (cmp r) g w s hr + x * vw g w) j ∧ Fr tTo J y.2.2) (by
    rintro n ⟨v, z', K⟩ ⟨p1, p2⟩
    simp only [] at p1 p2 ⊢
    have e2 := (MQ_N (z := z') (Fr.tr hF (tTo_N p2)) hQ).2.1.1
    rw [f_X11_takesBy_L56]
    simp (disch := first | omega | assumption) only [↓bM, ↓bMA, ↓jn_, ↓ob_, ↓b2_, ↓reduceIte, nn_lt, nn_le, nn_eq, nI_add, pk_mul, nn_su, gn_lt, gn_le, ng_lt, ng_le, ng_eq, gn_eq, gg_eq, n_m1, n_cl, if_true, if_false, if_pos, if_neg, lt0, e2, Nat.le_refl]) (by
    rintro n ⟨v, z', K⟩ j hj ⟨p1, p2⟩
    simp only [] at p1 p2
    have hQ' := MQ_N (z := z') (Fr.tr hF (tTo_N p2)) hQ
    have e2 := hQ'.2.1.1
    have hf := (m_field (q := q) (ρ := rr ρ z') (L := L) hQ'.2.2.1 hd he).2.1
    have hmn := m_means (q := q) (ρ := rr ρ z') (L := L) hQ'.2.1 hg hj (m := duM d e) (by omega)
    have hle := mnF_le (p := fun w => mean g w (duM d e)) (c := fun w => tol (cmp r) g w s hr + x * vw g w) j
    rw [← p1] at hle
    cases hme : mean g j (duM d e) with
    | false =>
      rw [hme, bo_f] at hmn
      refine ⟨(v, z', K), ?_, ?_, p2⟩
      · simp only []
        rw [f_X11_takesBy_L56]
        simp (disch := first | omega | assumption) only [↓bM, ↓bMA, ↓jn_, ↓ob_, ↓b2_, ↓reduceIte, nn_lt, nn_le, nn_eq, nI_add, pk_mul, nn_su, gn_lt, gn_le, ng_lt, ng_le, ng_eq, gn_eq, gg_eq, n_m1, n_cl, if_true, if_false, if_pos, if_neg, lt0, e2, ↓b2e hf, ↓b2e hmn]
      · rw [mnF_s]
        simp only [hme, cond_false]
        exact p1
    | true =>
      rw [hme, bo_t] at hmn
      obtain ⟨J1, z1, f1, f2⟩ := m_tollR (q := q) (L := L) (s := s) (z := z') hQ hwr hg h12 hj (Fr.tr hF (tTo_N p2))
      have hvo := m_vowelsIn (q := q) (ρ := rr ρ z1) (L := L) (MQ_N (z := z1) (Fr.tr hF (tTo_N (Fr.tr p2 f2))) hQ).2.1 hg hj
      have ev : vws (lxL g j) (lxN g j) = vw g j := rfl
      rw [ev] at hvo
      have b1 := tol_le (c := cmp r) (s := s) (hr := hr) hg hj
      have hmul : x * vw g j ≤ 99 * 6 := Nat.mul_le_mul hx (vw_le hg hj)
      refine ⟨(min v (tol (cmp r) g j s hr + x * vw g j), z1, J1), ?_, ?_, Fr.tr p2 f2⟩
      · simp only []
        rw [f_X11_takesBy_L56]
        simp (disch := first | omega | assumption) only [↓bM, ↓bMA, ↓jn_, ↓ob_, ↓b2_, ↓reduceIte, nn_lt, nn_le, nn_eq, nI_add, pk_mul, nn_su, gn_lt, gn_le, ng_lt, ng_le, ng_eq, gn_eq, gg_eq, n_m1, n_cl, if_true, if_false, if_pos, if_neg, lt0, e2, ↓b2e hf, ↓b2e hmn, ↓b2e f1, ↓b2e hvo, jmin_nn]
      · rw [mnF_s]
        simp only [hme, cond_true]
        rw [p1]) (lxW g) 5000 (100000000, z, J) 0 (by omega) (by omega) ⟨rfl, Fr.rf⟩
  simp only [] at e1 e2 e3
  refine ⟨K, z', ?_, e3⟩
  rw [← e2]
  exact e1
theorem mn_ch {g : gL} {m x : Nat} {pr : Nat → Nat} (hb : ∀ w, w < lxW g → pr w + x * vw g w < 100000000) : (∀ w, chF g m pr x = some w → mnF (fun w => mean g w m) (fun w => pr w + x * vw g w) (lxW g) = pr w + x * vw g w) ∧ (chF g m pr x = none → mnF (fun w => mean g w m) (fun w => pr w + x * vw g w) (lxW g) = 100000000) := mnF_a (p := fun w => mean g w m) (c := fun w => pr w + x * vw g w) (lxW g) hb
theorem m_takesBy {q : pQ} {ρ : pP} {L : pL} {I : pI} {r : gT} {g : gL} {d : gD} {P S s x : Nat} {hr dn : Int32} {J : pI} {z : Option Nat} (hQ : MQ_ r g d P S ρ I) (hwr : WR r) (hg : WL g) (hd : WD d P S) (hS : S ≤ 6) (hs : s < 6) (h12 : I 130 12 = hr) (h13 : I 130 13 = dn) (hx : x ≤ 99) (hF : Fr tN I J) : ∃ K z', f_X11_takesBy 5000 129 (nI s) (nI x) (hp q (rr ρ z) L J) = some (nI (inc g d dn s (fun w => tol (cmp r) g w s hr) x (duE d)).1, hp q (rr ρ z') L K) ∧ K 129 43 = nI (inc g d dn s (fun w => tol (cmp r) g w s hr) x (duE d)).2 ∧ Fr tN J K := by
  have h8 := hd.1
  have bd : ∀ w, w < lxW g → tol (cmp r) g w s hr + x * vw g w ≤ 1188 := fun w hw => by
    have b1 := tol_le (c := cmp r) (s := s) (hr := hr) hg hw
    have hmul : x * vw g w ≤ 99 * 6 := Nat.mul_le_mul hx (vw_le hg hw)
    omega
  obtain ⟨⟨a, z', K⟩, e1, e2, e3, e4⟩ := loE (fun n (y : (Nat × Nat) × Option Nat × pI) j => f_X11_takesBy_L10 5000 129 (nI s) (nI x) n (nI y.1.1) (nI j) (hp q (rr ρ y.2.1) L y.2.2)) (fun y => some (nI y.1.1, hp q (rr ρ y.2.1) L y.2.2)) (duE d) (fun j y => y.1 = inc g d dn s (fun w => tol (cmp r) g w s hr) x j ∧ y.2.2 129 43 = nI y.1.2 ∧ Fr tN J y.2.2) (by
    rintro n ⟨a, z', K⟩ ⟨p1, p2, p3⟩
    simp only [] at p1 p2 p3 ⊢
    have e7 := (MQ_N (z := z') (Fr.tr hF p3) hQ).2.2.1.1
    rw [f_X11_takesBy_L10]
    simp (disch := first | omega | assumption) only [↓bM, ↓bMA, ↓jn_, ↓ob_, ↓b2_, ↓reduceIte, nn_lt, nn_le, nn_eq, nI_add, pk_mul, nn_su, gn_lt, gn_le, ng_lt, ng_le, ng_eq, gn_eq, gg_eq, n_m1, n_cl, if_true, if_false, if_pos, if_neg, lt0, e7, Nat.le_refl]) (by
    rintro n ⟨a, z', K⟩ j hj ⟨p1, p2, p3⟩
    simp only [] at p1 p2 p3
    have hQ' := MQ_N (z := z') (Fr.tr hF p3) hQ
    have e7 := hQ'.2.2.1.1
    have k13 : K 130 13 = dn := by rw [p3.row 130 (fun k => rfl), hF.row 130 (fun k => rfl)]; exact h13
    have hh := m_has (d := dn) (e := j) (by omega) (hp q (rr ρ z') L K)
    obtain ⟨f0, f1, f2, f3⟩ := m_field (q := q) (ρ := rr ρ z') (L := L) hQ'.2.2.1 hd hj
    have hb := inc_le (g := g) (dn := dn) (s := s) (pr := fun w => tol (cmp r) g w s hr) (x := x) hd j (by omega)
    rw [← p1] at hb
    have hpS := (hd.2 j hj).2.2.1
    have hv := (hd.2 j hj).2.2.2
    by_cases hd1 : bt dn j = true
    · have h1 : opn d dn s j = false := by unfold opn; rw [hd1]; simp
      rw [hd1, if_pos rfl] at hh
      refine ⟨(a, z', K), ?_, ?_, p2, p3⟩
      · simp only []
        rw [f_X11_takesBy_L10]
        simp (disch := first | omega | assumption) only [↓bM, ↓bMA, ↓jn_, ↓ob_, ↓b2_, ↓reduceIte, nn_lt, nn_le, nn_eq, nI_add, pk_mul, nn_su, gn_lt, gn_le, ng_lt, ng_le, ng_eq, gn_eq, gg_eq, n_m1, n_cl, if_true, if_false, if_pos, if_neg, lt0, e7, k13, ↓b2e hh]
      · rw [inc_s, incS_0 h1]
        exact p1
    · rw [if_neg hd1] at hh
      by_cases hpl : duP d j = s
      · have h1 : opn d dn s j = true := by unfold opn; simp [hd1, hpl]
        obtain ⟨M, z2, g1, g2⟩ := m_tkW (q := q) (L := L) (s := s) (x := x) (x3 := nI a.1) (z := z') hQ hwr hg hd h12 hx hj (Fr.tr hF p3) (kk := fun (y22 : Int32) (h23 : jH) =>
              j_b2 (f_X11_field 5000 129 (nI j) (nI 3) h23) (fun v25 h24 =>
              if y22 ≤ v25 then
                (jg_I 11 43 h24 129).bind (fun v26 =>
                (jp_I 11 43 h24 129 (v26 + nI 1)).bind (fun h27 =>
                f_X11_takesBy_L10 5000 129 (nI s) (nI x) n (nI a.1 + y22) (nI j + nI 1) h27))
              else
                f_X11_takesBy_L10 5000 129 (nI s) (nI x) n (nI a.1) (nI j + nI 1) h24))
        have hQ2 := MQ_N (z := z2) (Fr.tr hF (Fr.tr p3 (tTo_N g2))) hQ
        have f3' := (m_field (q := q) (ρ := rr ρ z2) (L := L) hQ2.2.2.1 hd hj).2.2.2
        have m43 : M 129 43 = nI a.2 := by rw [g2 129 43 rfl]; exact p2
        have step : f_X11_takesBy_L10 5000 129 (nI s) (nI x) (n + 1) (nI a.1) (nI j) (hp q (rr ρ z') L K) = j_b2 (f_X11_field 5000 129 (nI j) (nI 3) (hp q (rr ρ z2) L M)) (fun v25 h24 =>
              if nI (mnF (fun w => mean g w (duM d j)) (fun w => tol (cmp r) g w s hr + x * vw g w) (lxW g)) ≤ v25 then
                (jg_I 11 43 h24 129).bind (fun v26 =>
                (jp_I 11 43 h24 129 (v26 + nI 1)).bind (fun h27 =>
                f_X11_takesBy_L10 5000 129 (nI s) (nI x) n (nI a.1 + nI (mnF (fun w => mean g w (duM d j)) (fun w => tol (cmp r) g w s hr + x * vw g w) (lxW g))) (nI j + nI 1) h27))
              else
                f_X11_takesBy_L10 5000 129 (nI s) (nI x) n (nI a.1) (nI j + nI 1) h24) := by
          rw [← g1, f_X11_takesBy_L10]
          simp (disch := first | omega | assumption) only [↓bM, ↓bMA, ↓jn_, ↓ob_, lt0, e7, k13, ↓b2e hh, ↓b2e f2, hpl, nn_le, nn_eq, if_neg, if_false, if_true, if_pos]
        have hmle := mnF_le (p := fun w => mean g w (duM d j)) (c := fun w => tol (cmp r) g w s hr + x * vw g w) (lxW g)
        obtain ⟨mc1, mc2⟩ := mn_ch (g := g) (m := duM d j) (x := x) (pr := fun w => tol (cmp r) g w s hr) (fun w hw => by have := bd w hw; show tol (cmp r) g w s hr + x * vw g w < 100000000; omega)
        cases h2 : chF g (duM d j) (fun w => tol (cmp r) g w s hr) x with
        | none =>
          have hmn := mc2 h2
          refine ⟨(a, z2, M), ?_, ?_, m43, Fr.tr p3 (tTo_N g2)⟩
          · simp only []
            rw [step, hmn]
            simp (disch := first | omega | assumption) only [↓bM, ↓bMA, ↓jn_, ↓ob_, ↓b2_, ↓reduceIte, nn_lt, nn_le, nn_eq, nI_add, pk_mul, nn_su, gn_lt, gn_le, ng_lt, ng_le, ng_eq, gn_eq, gg_eq, n_m1, n_cl, if_true, if_false, if_pos, if_neg, lt0, ↓b2e f3']
          · rw [inc_s, incS_n h1 h2]
            exact p1
        | some w =>
          have hmn := mc1 w h2
          have hbw := bd w (abest_in h2).1
          by_cases h3 : tol (cmp r) g w s hr + x * vw g w ≤ duV d j
          · refine ⟨((a.1 + (tol (cmp r) g w s hr + x * vw g w), a.2 + 1), z2, j_up M 129 43 (nI (a.2 + 1))), ?_, ?_, (up_eq : j_up M 129 43 (nI (a.2 + 1)) 129 43 = nI (a.2 + 1)), Fr.up (Fr.tr p3 (tTo_N g2)) rfl⟩
            · simp only []
              rw [step, hmn]
              simp (disch := first | omega | assumption) only [↓bM, ↓bMA, ↓jn_, ↓ob_, ↓b2_, ↓reduceIte, nn_lt, nn_le, nn_eq, nI_add, pk_mul, nn_su, gn_lt, gn_le, ng_lt, ng_le, ng_eq, gn_eq, gg_eq, n_m1, n_cl, if_true, if_false, if_pos, if_neg, lt0, ↓b2e f3', m43]
            · rw [inc_s, incS_t h1 h2 h3, ← p1]
          · refine ⟨(a, z2, M), ?_, ?_, m43, Fr.tr p3 (tTo_N g2)⟩
            · simp only []
              rw [step, hmn]
              simp (disch := first | omega | assumption) only [↓bM, ↓bMA, ↓jn_, ↓ob_, ↓b2_, ↓reduceIte, nn_lt, nn_le, nn_eq, nI_add, pk_mul, nn_su, gn_lt, gn_le, ng_lt, ng_le, ng_eq, gn_eq, gg_eq, n_m1, n_cl, if_true, if_false, if_pos, if_neg, lt0, ↓b2e f3']
            · rw [inc_s, incS_f h1 h2 h3]
              exact p1
      · have h1 : opn d dn s j = false := by unfold opn; simp [hpl]
        refine ⟨(a, z', K), ?_, ?_, p2, p3⟩
        · simp only []
          rw [f_X11_takesBy_L10]
          simp (disch := first | omega | assumption) only [↓bM, ↓bMA, ↓jn_, ↓ob_, ↓b2_, ↓reduceIte, nn_lt, nn_le, nn_eq, nI_add, pk_mul, nn_su, gn_lt, gn_le, ng_lt, ng_le, ng_eq, gn_eq, gg_eq, n_m1, n_cl, if_true, if_false, if_pos, if_neg, lt0, e7, k13, ↓b2e hh, ↓b2e f2, hpl]
        · rw [inc_s, incS_0 h1]
          exact p1) (duE d) 5000 ((0, 0), z, j_up J 129 43 (nI 0)) 0 (by omega) (by omega) ⟨rfl, (up_eq : j_up J 129 43 (nI 0) 129 43 = nI 0), Fr.up Fr.rf rfl⟩
  simp only [] at e1 e2 e3 e4
  refine ⟨K, z', ?_, by rw [e3, e2], e4⟩
  rw [← e2, ← e1]
  simp (disch := first | omega | assumption) only [f_X11_takesBy, ↓bM, ↓bMA, ↓jn_, ↓ob_, ↓b2_, ↓reduceIte, nn_lt, nn_le, nn_eq, nI_add, pk_mul, nn_su, gn_lt, gn_le, ng_lt, ng_le, ng_eq, gn_eq, gg_eq, n_m1, n_cl, if_true, if_false, if_pos, if_neg, lt0]
theorem k_takes (a b : Int32) : ∀ G, Wr G → ∃ v G', Wr G' ∧ XH (f_X10_takes 5000 0 a b) G v G' ∧ MH (f_X11_takes 5000 129 a b) G v G' := by
  intro G hG
  have hG' := hG
  obtain ⟨w1, w2, w3, w4, w5, w6, w7, w8, w9⟩ := hG
  have h8 := w3.1
  have fin : ∀ v, (∀ q ρ L I, Xr G ρ L I → f_X10_takes 5000 0 a b (hp q ρ L I) = some (v, hp q ρ L I)) → (∀ t q ρ L I, Mr t G ρ L I → Ms t G ρ (j_up I 129 13 (nI 0)) → f_X11_takes 5000 129 a b (hp q ρ L I) = some (v, hp q ρ L (j_up I 129 13 (nI 0)))) → ∃ v G', Wr G' ∧ XH (f_X10_takes 5000 0 a b) G v G' ∧ MH (f_X11_takes 5000 129 a b) G v G' :=
    fun v hx hm => ⟨v, G, hG', XH_0 hx, MH_0 (fun t q ρ L I h => hm t q ρ L I h (Ms_0 h.1))⟩
  rcases ixo a (gS G) (by omega) with h | ⟨s, hs, rfl⟩
  · refine fin (-nI 1) ?_ ?_
    · rintro q ρ L I ⟨⟨hT, hL, hD, hP, hS, hU, hK, hR, hρ⟩, hW⟩
      simp (disch := first | omega | assumption) only [f_X10_takes, ↓bX, ↓bXA, ↓jn_, ↓ob_, ↓b2_, ↓reduceIte, nn_lt, nn_le, nn_eq, nI_add, pk_mul, nn_su, gn_lt, gn_le, ng_lt, ng_le, ng_eq, gn_eq, gg_eq, n_m1, n_cl, if_true, if_false, if_pos, if_neg, lt0, ↓b2e (x_isS0 (q := q) (ρ := ρ) (L := L) hP.2 h)]
    · rintro t q ρ L I - ⟨hT, hL, hD, hP, hS, hU, hK, hR⟩
      simp (disch := first | omega | assumption) only [f_X11_takes, ↓bM, ↓bMA, ↓jn_, ↓ob_, ↓b2_, ↓reduceIte, nn_lt, nn_le, nn_eq, nI_add, pk_mul, nn_su, gn_lt, gn_le, ng_lt, ng_le, ng_eq, gn_eq, gg_eq, n_m1, n_cl, if_true, if_false, if_pos, if_neg, lt0, ↓b2e (m_isS0 (q := q) (ρ := ρ) (L := L) hP.2 (by omega) h)]
  rcases ixo b 100 (by omega) with h | ⟨x, hx, rfl⟩
  · refine fin (-nI 1) ?_ ?_
    · rintro q ρ L I ⟨⟨hT, hL, hD, hP, hS, hU, hK, hR, hρ⟩, hW⟩
      by_cases h0 : b < nI 0
      · simp (disch := first | omega | assumption) only [f_X10_takes, ↓bX, ↓bXA, ↓jn_, ↓ob_, ↓b2_, ↓reduceIte, nn_lt, nn_le, nn_eq, nI_add, pk_mul, nn_su, gn_lt, gn_le, ng_lt, ng_le, ng_eq, gn_eq, gg_eq, n_m1, n_cl, if_true, if_false, if_pos, if_neg, lt0, ↓b2e (x_isS1 (q := q) (ρ := ρ) (L := L) hP.2 (by omega) hs), h0]
      · have h1 := le_out (n := 99) (by omega) h h0
        simp (disch := first | omega | assumption) only [f_X10_takes, ↓bX, ↓bXA, ↓jn_, ↓ob_, ↓b2_, ↓reduceIte, nn_lt, nn_le, nn_eq, nI_add, pk_mul, nn_su, gn_lt, gn_le, ng_lt, ng_le, ng_eq, gn_eq, gg_eq, n_m1, n_cl, if_true, if_false, if_pos, if_neg, lt0, ↓b2e (x_isS1 (q := q) (ρ := ρ) (L := L) hP.2 (by omega) hs), h0, h1]
    · rintro t q ρ L I - ⟨hT, hL, hD, hP, hS, hU, hK, hR⟩
      simp (disch := first | omega | assumption) only [f_X11_takes, ↓bM, ↓bMA, ↓jn_, ↓ob_, ↓b2_, ↓reduceIte, nn_lt, nn_le, nn_eq, nI_add, pk_mul, nn_su, gn_lt, gn_le, ng_lt, ng_le, ng_eq, gn_eq, gg_eq, n_m1, n_cl, if_true, if_false, if_pos, if_neg, lt0, ↓b2e (m_isS1 (q := q) (ρ := ρ) (L := L) hP.2 (by omega) hs), m_inO (n := 99) (by omega) h]
  obtain ⟨A, hA0⟩ : ∃ A, A = inc (gLx G) (gDu G) (scD (gN G)) s (fun w => tol (cmp (gRu G)) (gLx G) w s (scH (gN G))) x (duE (gDu G)) := ⟨_, rfl⟩
  refine ⟨nI A.1, sRw G (1, fun _ => (nI A.2).toInt64), ⟨w1, w2, w3, w4, w5, w6, w7, by simp only []; omega, w9⟩, XH_q _ ?_, MH_q _ ?_⟩
  · intro q ρ L I hX
    obtain ⟨J, e1, e2, e3, e4, hA, z⟩ := x_pr hG' s q ρ L I hX
    obtain ⟨⟨hT, hL, hD, hP, hS, hU, hK, hR, hρ⟩, hW⟩ := hX
    have e5 := x_income (q := q) (ρ := ρ) (L := L) (s := s) (x := x) (dn := scD (gN G)) e4 w2 (XD_k (fun b _ _ => z b (by omega)) hD) w3 w4.2.2 (by omega) e2 (fun w hw => tol_le w2 hw) (by omega) (by rw [z 19 (by omega)]; exact hS.1.2)
    rw [← hA0] at e5
    refine ⟨ρ, j_up L 4 0 (nI A.2).toInt64, j_up (j_up J 0 19 (nI A.2)) 3 1 (nI 1), ?_, Fr.up (Fr.up e3 (by rcases hA with e | e <;> rw [e] <;> rfl)) (by rcases hA with e | e <;> rw [e] <;> rfl), ⟨rfl, rfl, hρ⟩, by rw [up_ne (by omega)], XW_1⟩
    simp (disch := first | omega | assumption) only [f_X10_takes, ↓bX, ↓bXA, ↓jn_, ↓ob_, ↓b2_, ↓reduceIte, nn_lt, nn_le, nn_eq, nI_add, pk_mul, nn_su, gn_lt, gn_le, ng_lt, ng_le, ng_eq, gn_eq, gg_eq, n_m1, n_cl, if_true, if_false, if_pos, if_neg, lt0, ↓b2e (x_isS1 (q := q) (ρ := ρ) (L := L) hP.2 (by omega) hs), ↓oe e1, ↓b2e e5, up_eq, ↓oe (x_tell1 (q := q) (ρ := ρ) (L := L) (I := j_up J 0 19 (nI A.2)))]
  · rintro t q ρ L I ⟨hM, hW⟩
    have hM0 := Ms_0 (x := nI 0) hM
    have hQ := MQ_of hM0
    have h12 := hM0.2.2.2.2.1.1.1
    have h13 := hM0.2.2.2.2.1.1.2
    rw [Nat.zero_add] at h12 h13
    obtain ⟨K, z, e1, e2, e3⟩ := m_takesBy (q := q) (L := L) (s := s) (x := x) (z := ρ.2.2.1) hQ w9 w2 w3 w4.2.2 (by omega) h12 h13 (by omega) Fr.rf
    rw [← hA0] at e1 e2
    have hin := m_in x 0 99 (hp q ρ L (j_up I 129 13 (nI 0))) (by omega) (by omega) (by omega)
    rw [if_pos (by omega)] at hin
    rw [rr_id] at e1
    refine ⟨rr ρ z, j_up L 136 0 (nI A.2).toInt64, j_up K 129 12 (nI 1), ?_, Fr.up (Fr.tr (Fr.up Fr.rf rfl) e3) rfl, ⟨rfl, rfl, rfl⟩, by rw [up_ne (by omega)], MW_1⟩
    simp (disch := first | omega | assumption) only [f_X11_takes, ↓bM, ↓bMA, ↓jn_, ↓ob_, ↓b2_, ↓reduceIte, nn_lt, nn_le, nn_eq, nI_add, pk_mul, nn_su, gn_lt, gn_le, ng_lt, ng_le, ng_eq, gn_eq, gg_eq, n_m1, n_cl, if_true, if_false, if_pos, if_neg, lt0, ↓b2e (m_isS1 (q := q) (ρ := ρ) (L := L) hQ.2.2.2.2 (by omega) hs), ↓b2e hin, ↓b2e e1, up_nk, e2, m_tell]
def grF (T : Nat → Nat) (n : Nat) : Nat := fo (fun k b => if T b < T (k + 1) then k + 1 else b) 0 n 0
theorem grF_s {T : Nat → Nat} {n : Nat} : grF T (n + 1) = if T (grF T n) < T (n + 1) then n + 1 else grF T n := by
  unfold grF
  rw [fo_last, Nat.zero_add]
theorem grF_le {T : Nat → Nat} : ∀ n, grF T n ≤ n
  | 0 => Nat.le_refl 0
  | n + 1 => by
    have := grF_le (T := T) n
    rw [grF_s]
    split <;> omega
theorem k_greed (a : Int32) : ∀ G, Wr G → ∃ v G', Wr G' ∧ XH (f_X10_greed 5000 0 a) G v G' ∧ MH (f_X11_greed 5000 129 a) G v G' := by
  intro G hG
  have hG' := hG
  obtain ⟨w1, w2, w3, w4, w5, w6, w7, w8, w9⟩ := hG
  have h8 := w3.1
  have fin : ∀ v, (∀ q ρ L I, Xr G ρ L I → f_X10_greed 5000 0 a (hp q ρ L I) = some (v, hp q ρ L I)) → (∀ t q ρ L I, Mr t G ρ L I → Ms t G ρ (j_up I 129 13 (nI 0)) → f_X11_greed 5000 129 a (hp q ρ L I) = some (v, hp q ρ L (j_up I 129 13 (nI 0)))) → ∃ v G', Wr G' ∧ XH (f_X10_greed 5000 0 a) G v G' ∧ MH (f_X11_greed 5000 129 a) G v G' :=
    fun v hx hm => ⟨v, G, hG', XH_0 hx, MH_0 (fun t q ρ L I h => hm t q ρ L I h (Ms_0 h.1))⟩
  rcases ixo a (gS G) (by omega) with h | ⟨s, hs, rfl⟩
  · refine fin (-nI 1) ?_ ?_
    · rintro q ρ L I ⟨⟨hT, hL, hD, hP, hS, hU, hK, hR, hρ⟩, hW⟩
      simp (disch := first | omega | assumption) only [f_X10_greed, ↓bX, ↓bXA, ↓jn_, ↓ob_, ↓b2_, ↓reduceIte, nn_lt, nn_le, nn_eq, nI_add, pk_mul, nn_su, gn_lt, gn_le, ng_lt, ng_le, ng_eq, gn_eq, gg_eq, n_m1, n_cl, if_true, if_false, if_pos, if_neg, lt0, ↓b2e (x_isS0 (q := q) (ρ := ρ) (L := L) hP.2 h)]
    · rintro t q ρ L I - ⟨hT, hL, hD, hP, hS, hU, hK, hR⟩
      simp (disch := first | omega | assumption) only [f_X11_greed, ↓bM, ↓bMA, ↓jn_, ↓ob_, ↓b2_, ↓reduceIte, nn_lt, nn_le, nn_eq, nI_add, pk_mul, nn_su, gn_lt, gn_le, ng_lt, ng_le, ng_eq, gn_eq, gg_eq, n_m1, n_cl, if_true, if_false, if_pos, if_neg, lt0, ↓b2e (m_isS0 (q := q) (ρ := ρ) (L := L) hP.2 (by omega) h)]
  obtain ⟨T, hT0⟩ : ∃ T : Nat → Nat × Nat, T = fun x => inc (gLx G) (gDu G) (scD (gN G)) s (fun w => tol (cmp (gRu G)) (gLx G) w s (scH (gN G))) x (duE (gDu G)) := ⟨_, rfl⟩
  have bd : ∀ x, (T x).1 ≤ 99 * 8 := fun x => by
    have := (inc_le (g := gLx G) (dn := scD (gN G)) (s := s) (pr := fun w => tol (cmp (gRu G)) (gLx G) w s (scH (gN G))) (x := x) w3 (duE (gDu G)) (Nat.le_refl _)).1
    rw [hT0]
    simp only []
    omega
  have hgl := grF_le (T := fun x => (T x).1) 99
  obtain ⟨B, hB⟩ : ∃ B, B = grF (fun x => (T x).1) 99 := ⟨_, rfl⟩
  rw [← hB] at hgl
  refine ⟨nI B, sRw G (2, fun i => if i = 0 then (nI (T B).1).toInt64 else (nI (T 0).1).toInt64), ⟨w1, w2, w3, w4, w5, w6, w7, by simp only []; omega, w9⟩, XH_q _ ?_, MH_q _ ?_⟩
  · intro q ρ L I hX
    obtain ⟨J, e1, e2, e3, e4, hA, z⟩ := x_pr hG' s q ρ L I hX
    obtain ⟨⟨hT, hL, hD, hP, hS, hU, hK, hR, hρ⟩, hW⟩ := hX
    have e5 : ∀ (y : Int32) (x : Nat), x ≤ 99 → f_X10_incomeBy 5000 0 (nI s) (nI x) (hp q ρ L (j_up J 0 19 y)) = some (nI (T x).1, hp q ρ L (j_up J 0 19 (nI (T x).2))) := fun y x hx => by
      have := x_income (q := q) (ρ := ρ) (L := L) (I := j_up J 0 19 y) (s := s) (x := x) (dn := scD (gN G)) (XL_k (fun b _ _ => up_ne (by omega)) e4) w2 (XD_k (fun b _ _ => by rw [up_ne (by omega), z b (by omega)]) hD) w3 w4.2.2 (by omega) (fun w hw => by rw [up_ne (by omega)]; exact e2 w hw) (fun w hw => tol_le w2 hw) (by omega) (by rw [up_ne (by omega), z 19 (by omega)]; exact hS.1.2)
      rw [up_up] at this
      rw [hT0]
      exact this
    have e6 : f_X10_incomeBy 5000 0 (nI s) (nI 0) (hp q ρ L J) = some (nI (T 0).1, hp q ρ L (j_up J 0 19 (nI (T 0).2))) := by
      have := e5 (J 0 19) 0 (by omega)
      rw [← up_self (f := J) (a := 0) (k := 19) rfl] at this
      exact this
    obtain ⟨⟨b, y⟩, f1, f0, f2⟩ := loE (fun n (y : Nat × Int32) j => f_X10_greed_L38 5000 0 (nI s) (nI (T 0).1) (fun (y13 : Int32) (y14 : Int32) (h15 : jH) =>
        (jg_R 10 1 h15 0).bind (fun v16 =>
        (f_X6_tell_ 5000 v16 (y13.toInt64) ((nI (T 0).1).toInt64) h15).bind (fun h17 =>
        some (y14, h17)))) n (nI (T y.1).1) (nI y.1) (nI j) (hp q ρ L (j_up J 0 19 y.2))) (fun y => (jg_R 10 1 (hp q ρ L (j_up J 0 19 y.2)) 0).bind (fun v16 =>
        (f_X6_tell_ 5000 v16 ((nI (T y.1).1).toInt64) ((nI (T 0).1).toInt64) (hp q ρ L (j_up J 0 19 y.2))).bind (fun h17 =>
        some (nI y.1, h17)))) 100 (fun j y => 1 ≤ j ∧ y.1 = grF (fun x => (T x).1) (j - 1)) (by
      rintro n ⟨b, y⟩ p
      simp only []
      rw [f_X10_greed_L38]
      simp (disch := first | omega | assumption) only [lt0, nn_lt, if_pos]) (by
      rintro n ⟨b, y⟩ j hj ⟨p0, p1⟩
      simp only [] at p0 p1
      obtain ⟨i, rfl⟩ : ∃ i, j = i + 1 := ⟨j - 1, by omega⟩
      rw [Nat.add_sub_cancel] at p1
      have e7 := e5 y (i + 1) (by omega)
      have b1 := bd (i + 1)
      have b2 := bd b
      by_cases hlt : (T b).1 < (T (i + 1)).1
      · refine ⟨(i + 1, nI (T (i + 1)).2), ?_, by omega, ?_⟩
        · simp only []
          rw [f_X10_greed_L38]
          simp (disch := first | omega | assumption) only [↓jn_, ↓ob_, ↓b2_, ↓reduceIte, nn_lt, nn_le, nn_eq, nI_add, pk_mul, nn_su, gn_lt, gn_le, ng_lt, ng_le, ng_eq, gn_eq, gg_eq, n_m1, n_cl, if_true, if_false, if_pos, if_neg, lt0, ↓b2e e7]
        · rw [Nat.add_sub_cancel, grF_s, ← p1, if_pos hlt]
      · refine ⟨(b, nI (T (i + 1)).2), ?_, by omega, ?_⟩
        · simp only []
          rw [f_X10_greed_L38]
          simp (disch := first | omega | assumption) only [↓jn_, ↓ob_, ↓b2_, ↓reduceIte, nn_lt, nn_le, nn_eq, nI_add, pk_mul, nn_su, gn_lt, gn_le, ng_lt, ng_le, ng_eq, gn_eq, gg_eq, n_m1, n_cl, if_true, if_false, if_pos, if_neg, lt0, ↓b2e e7]
        · rw [Nat.add_sub_cancel, grF_s, ← p1, if_neg hlt]) 99 5000 (0, nI (T 0).2) 1 (by omega) (by omega) ⟨Nat.le_refl 1, rfl⟩
    simp only [] at f1 f0 f2
    rw [show 100 - 1 = 99 from rfl, ← hB] at f2
    subst f2
    refine ⟨ρ, j_up (j_up L 4 0 (nI (T b).1).toInt64) 4 1 (nI (T 0).1).toInt64, j_up (j_up J 0 19 y) 3 1 (nI 2), ?_, Fr.up (Fr.up e3 (by rcases hA with e | e <;> rw [e] <;> rfl)) (by rcases hA with e | e <;> rw [e] <;> rfl), ⟨rfl, rfl, hρ⟩, by rw [up_ne (by omega), up_ne (by omega)], XW_2⟩
    rw [f_X10_greed]
    simp (disch := first | omega | assumption) only [↓bX, lt0, ↓b2e (x_isS1 (q := q) (ρ := ρ) (L := L) hP.2 (by omega) hs), ↓oe e1, ↓b2e e6, nn_eq, if_neg, if_false]
    rw [f1]
    simp (disch := first | omega | assumption) only [↓bX, ↓bXA, ↓jn_, ↓ob_, ↓b2_, ↓reduceIte, nn_lt, nn_le, nn_eq, nI_add, pk_mul, nn_su, gn_lt, gn_le, ng_lt, ng_le, ng_eq, gn_eq, gg_eq, n_m1, n_cl, if_true, if_false, if_pos, if_neg, lt0, ↓oe (x_tell2 (q := q) (ρ := ρ) (L := L) (I := j_up J 0 19 y))]
  · rintro t q ρ L I ⟨hM, hW⟩
    have hM0 := Ms_0 (x := nI 0) hM
    have hQ := MQ_of hM0
    have h12 := hM0.2.2.2.2.1.1.1
    have h13 := hM0.2.2.2.2.1.1.2
    rw [Nat.zero_add] at h12 h13
    have e5 : ∀ (z : Option Nat) (J : pI) (x : Nat), x ≤ 99 → Fr tN (j_up I 129 13 (nI 0)) J → ∃ K z', f_X11_takesBy 5000 129 (nI s) (nI x) (hp q (rr ρ z) L J) = some (nI (T x).1, hp q (rr ρ z') L K) ∧ Fr tN J K := fun z J x hx hF => by
      obtain ⟨K, z', e1, e2, e3⟩ := m_takesBy (q := q) (L := L) (s := s) (x := x) (z := z) hQ w9 w2 w3 w4.2.2 (by omega) h12 h13 (by omega) hF
      refine ⟨K, z', ?_, e3⟩
      rw [hT0]
      exact e1
    obtain ⟨J, z0, e6, e7⟩ := e5 ρ.2.2.1 (j_up I 129 13 (nI 0)) 0 (by omega) Fr.rf
    rw [rr_id] at e6
    obtain ⟨⟨b, z, K⟩, f1, f0, f2, f3⟩ := loE (fun n (y : Nat × Option Nat × pI) j => f_X11_greed_L30 5000 129 (nI s) (nI (T 0).1) (fun (y11 : Int32) (y12 : Int32) (h13 : jH) =>
        (jp_I 11 12 h13 129 (nI 0)).bind (fun h14 =>
        (f_X11_tell 5000 129 (y12.toInt64) h14).bind (fun h15 =>
        (f_X11_tell 5000 129 ((nI (T 0).1).toInt64) h15).bind (fun h16 =>
        some (y11, h16))))) n (nI y.1) (nI (T y.1).1) (nI j) (hp q (rr ρ y.2.1) L y.2.2)) (fun y => (jp_I 11 12 (hp q (rr ρ y.2.1) L y.2.2) 129 (nI 0)).bind (fun h14 =>
        (f_X11_tell 5000 129 ((nI (T y.1).1).toInt64) h14).bind (fun h15 =>
        (f_X11_tell 5000 129 ((nI (T 0).1).toInt64) h15).bind (fun h16 =>
        some (nI y.1, h16))))) 100 (fun j y => 1 ≤ j ∧ y.1 = grF (fun x => (T x).1) (j - 1) ∧ Fr tN (j_up I 129 13 (nI 0)) y.2.2) (by
      rintro n ⟨b, z, K⟩ p
      simp only []
      rw [f_X11_greed_L30]
      simp (disch := first | omega | assumption) only [lt0, nn_lt, if_pos]) (by
      rintro n ⟨b, z, K⟩ j hj ⟨p0, p1, p2⟩
      simp only [] at p0 p1 p2
      obtain ⟨i, rfl⟩ : ∃ i, j = i + 1 := ⟨j - 1, by omega⟩
      rw [Nat.add_sub_cancel] at p1
      obtain ⟨M, z2, g1, g2⟩ := e5 z K (i + 1) (by omega) p2
      have b1 := bd (i + 1)
      have b2 := bd b
      by_cases hlt : (T b).1 < (T (i + 1)).1
      · refine ⟨(i + 1, z2, M), ?_, by omega, ?_, Fr.tr p2 g2⟩
        · simp only []
          rw [f_X11_greed_L30]
          simp (disch := first | omega | assumption) only [↓jn_, ↓ob_, ↓b2_, ↓reduceIte, nn_lt, nn_le, nn_eq, nI_add, pk_mul, nn_su, gn_lt, gn_le, ng_lt, ng_le, ng_eq, gn_eq, gg_eq, n_m1, n_cl, if_true, if_false, if_pos, if_neg, lt0, ↓b2e g1]
        · rw [Nat.add_sub_cancel, grF_s, ← p1, if_pos hlt]
      · refine ⟨(b, z2, M), ?_, by omega, ?_, Fr.tr p2 g2⟩
        · simp only []
          rw [f_X11_greed_L30]
          simp (disch := first | omega | assumption) only [↓jn_, ↓ob_, ↓b2_, ↓reduceIte, nn_lt, nn_le, nn_eq, nI_add, pk_mul, nn_su, gn_lt, gn_le, ng_lt, ng_le, ng_eq, gn_eq, gg_eq, n_m1, n_cl, if_true, if_false, if_pos, if_neg, lt0, ↓b2e g1]
        · rw [Nat.add_sub_cancel, grF_s, ← p1, if_neg hlt]) 99 5000 (0, z0, J) 1 (by omega) (by omega) ⟨Nat.le_refl 1, rfl, e7⟩
    simp only [] at f1 f0 f2 f3
    rw [show 100 - 1 = 99 from rfl, ← hB] at f2
    subst f2
    refine ⟨rr ρ z, j_up (j_up L 136 0 (nI (T b).1).toInt64) 136 1 (nI (T 0).1).toInt64, j_up K 129 12 (nI 2), ?_, Fr.up (Fr.tr (Fr.up Fr.rf rfl) f3) rfl, ⟨rfl, rfl, rfl⟩, by rw [up_ne (by omega), up_ne (by omega)], MW_2⟩
    rw [f_X11_greed]
    simp (disch := first | omega | assumption) only [↓bM, ↓ob_, lt0, ↓b2e (m_isS1 (q := q) (ρ := ρ) (L := L) hQ.2.2.2.2 (by omega) hs), ↓b2e e6, nn_eq, if_neg, if_false]
    rw [f1]
    simp (disch := first | omega | assumption) only [↓bM, ↓bMA, ↓jn_, ↓ob_, ↓b2_, ↓reduceIte, nn_lt, nn_le, nn_eq, nI_add, pk_mul, nn_su, gn_lt, gn_le, ng_lt, ng_le, ng_eq, gn_eq, gg_eq, n_m1, n_cl, if_true, if_false, if_pos, if_neg, lt0, m_tell]
