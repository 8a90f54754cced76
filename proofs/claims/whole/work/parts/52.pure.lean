/-! THE BEST OF A ROW -/
def eo (o : Option Nat) : Int32 := match o with
  | none => -nI 1
  | some w => nI w
theorem eo_n : eo none = -nI 1 := rfl
theorem eo_s {w : Nat} : eo (some w) = nI w := rfl
theorem eo_m1 {o : Option Nat} (h : ∀ w, o = some w → w < 2147483648) : (eo o = -nI 1) = (o = none) := by
  cases o with
  | none => rw [eo_n]; simp
  | some w => rw [eo_s, ng_eq (by omega) (by omega) (h w rfl)]; simp
def bsS (p : Nat → Bool) (r : Nat → Nat → Bool) (w : Nat) (b : Option Nat) : Option Nat := bif p w then (match b with
  | none => some w
  | some v => bif r w v then some w else some v) else b
def abest (p : Nat → Bool) (r : Nat → Nat → Bool) (n : Nat) : Option Nat := fo (bsS p r) 0 n none
theorem abest_s {p : Nat → Bool} {r : Nat → Nat → Bool} {n : Nat} : abest p r (n + 1) = bsS p r n (abest p r n) := by
  unfold abest
  rw [fo_last, Nat.zero_add]
theorem bsS_f {p : Nat → Bool} {r : Nat → Nat → Bool} {w : Nat} {b : Option Nat} (h : p w = false) : bsS p r w b = b := by unfold bsS; rw [h]; rfl
theorem bsS_n {p : Nat → Bool} {r : Nat → Nat → Bool} {w : Nat} (h : p w = true) : bsS p r w none = some w := by unfold bsS; rw [h]; rfl
theorem bsS_s {p : Nat → Bool} {r : Nat → Nat → Bool} {w v : Nat} (h : p w = true) (g : r w v = true) : bsS p r w (some v) = some w := by unfold bsS; rw [h]; simp only [cond_true, g]
theorem bsS_k {p : Nat → Bool} {r : Nat → Nat → Bool} {w v : Nat} (h : p w = true) (g : r w v = false) : bsS p r w (some v) = some v := by unfold bsS; rw [h]; simp only [cond_true, g, cond_false]
theorem abest_in {p : Nat → Bool} {r : Nat → Nat → Bool} : ∀ {n w : Nat}, abest p r n = some w → w < n ∧ p w = true
  | 0, w, h => by cases h
  | n + 1, w, h => by
    rw [abest_s] at h
    cases hp : p n with
    | false =>
      rw [bsS_f hp] at h
      have := abest_in h
      exact ⟨by omega, this.2⟩
    | true =>
      cases hb : abest p r n with
      | none =>
        rw [hb, bsS_n hp] at h
        cases h
        exact ⟨by omega, hp⟩
      | some v =>
        rw [hb] at h
        cases hr : r n v with
        | true =>
          rw [bsS_s hp hr] at h
          cases h
          exact ⟨by omega, hp⟩
        | false =>
          rw [bsS_k hp hr] at h
          cases h
          have := abest_in hb
          exact ⟨by omega, this.2⟩
/-! PRICES -/
theorem trB {A B : Nat} {I J : pI} (hA : A = 119 ∨ A = 124) (hB : B = 115 ∨ B = 116) (h : ∀ b, tT A b → b ≠ B → J b = I b) : Fr (tY A) I J := fun b k e => by
  by_cases g : tT A b
  · by_cases gb : b = B
    · subst gb
      exfalso
      rcases hA with rfl | rfl <;> rcases hB with rfl | rfl <;> cases e
    · rw [h b g gb]
  · exfalso
    unfold tT at g
    have : b = A + 1 ∨ b = A + 3 ∨ b = A + 4 := by omega
    rcases hA with rfl | rfl
    · rcases this with rfl | rfl | rfl <;> cases e
    · rcases this with rfl | rfl | rfl <;> cases e
theorem x_priceAll {q : pQ} {ρ : pP} {L : pL} {I : pI} {A B s : Nat} {c : List Int32} {g : gL} {hr : Int32} (hA : A = 119 ∨ A = 124) (hB : B = 115 ∨ B = 116) (hT : Tf A c I) (hc : Cok c) (hL : XL g I) (hg : WL g) (h19 : I 19 0 = hr) : ∃ J, f_X10_priceAll 5000 0 A (nI s) B (hp q ρ L I) = some (hp q ρ L J) ∧ (∀ w, w < lxW g → J B w = nI (tol c g w s hr)) ∧ ∀ b, tT A b → b ≠ B → J b = I b := by
  have hW := hg.1
  have hBj : ∀ (I : pI) j x, j < 10 → jb_I 100 (hp q ρ L I) B (nI j) x = some (hp q ρ L (j_up I B j x)) := by
    intro I j x hj
    rcases hB with rfl | rfl <;> exact hb_I rfl rfl rfl hj
  obtain ⟨J, e1, e2, e3⟩ := loE (fun n (s' : pI) j => f_X10_priceAll_L3 5000 0 A (nI s) B n (nI j) (hp q ρ L s')) (fun s => some (hp q ρ L s)) (lxW g) (fun j s' => (∀ w, w < j → s' B w = nI (tol c g w s hr)) ∧ ∀ b, tT A b → b ≠ B → s' b = I b) (by
    intro n s' p
    have e : s' 5 0 = nI (lxW g) := by rw [p.2 5 (by unfold tT; omega) (by omega)]; exact hL.1
    rw [f_X10_priceAll_L3]
    simp (disch := first | omega | assumption) only [↓bX, ↓bXA, ↓jn_, ↓ob_, ↓b2_, ↓reduceIte, nn_lt, nn_le, nn_eq, nI_add, pk_mul, nn_su, gn_lt, gn_le, ng_lt, ng_le, ng_eq, gn_eq, gg_eq, n_m1, n_cl, if_true, if_false, if_pos, if_neg, lt0, e, Nat.le_refl]) (by
    intro n s' j hj p
    obtain ⟨p1, p2⟩ := p
    have z : ∀ b, b < 115 → s' b = I b := fun b hb => p2 b (by unfold tT; omega) (by omega)
    have e : s' 5 0 = nI (lxW g) := by rw [z 5 (by omega)]; exact hL.1
    have e19 : s' 19 0 = hr := by rw [z 19 (by omega)]; exact h19
    have hL' : XL g s' := XL_k (fun b _ _ => z b (by omega)) hL
    have hT' : Tf A c s' := Tf_k hT (by rw [p2 A (by unfold tT; omega) (by omega)]) (p2 _ (by unfold tT; omega) (by omega))
    obtain ⟨K, f1, f2, f3⟩ := x_charge (q := q) (ρ := ρ) (L := L) (s := s) (hr := hr) hA hT' hc hL' hg hj
    refine ⟨j_up K B j (nI (tol c g j s hr)), ?_, fun w hw => ?_, fun b h1 h2 => by rw [up_ne h2, f3 b h1]; exact p2 b h1 h2⟩
    · rw [f_X10_priceAll_L3]
      simp (disch := first | omega | assumption) only [↓bX, ↓bXA, ↓jn_, ↓ob_, ↓b2_, ↓reduceIte, nn_lt, nn_le, nn_eq, nI_add, pk_mul, nn_su, gn_lt, gn_le, ng_lt, ng_le, ng_eq, gn_eq, gg_eq, n_m1, n_cl, if_true, if_false, if_pos, if_neg, lt0, e, e19, ↓b2e f1, hBj]
    · by_cases h : w = j
      · subst h; exact up_eq
      · rw [up_nk h, f3 B (by unfold tT; omega)]
        exact p1 w (by omega)) (lxW g) 5000 I 0 (by omega) (by omega) ⟨fun w hw => absurd hw (Nat.not_lt_zero w), fun b _ _ => rfl⟩
  refine ⟨J, ?_, e2, e3⟩
  simp only [f_X10_priceAll, kX, lt0]
  exact e1
def vw (g : gL) (w : Nat) : Nat := vws (lxL g w) (lxN g w)
theorem vw_le {g : gL} {w : Nat} (hg : WL g) (hw : w < lxW g) : vw g w ≤ 6 := Nat.le_trans (vws_le _) (hg.2 w hw).1.2
def chF (g : gL) (m : Nat) (pr : Nat → Nat) (x : Nat) : Option Nat := abest (fun w => mean g w m) (fun w v => decide (pr w + x * vw g w < pr v + x * vw g v)) (lxW g)
theorem x_cheapF {q : pQ} {ρ : pP} {L : pL} {I : pI} {g : gL} {pr : Nat → Nat} {x m : Nat} (hL : XL g I) (hg : WL g) (hpr : ∀ w, w < lxW g → I 115 w = nI (pr w)) (hpb : ∀ w, w < lxW g → pr w ≤ 594) (hx : x ≤ 99) (hm : m < 1000) : f_X10_cheapestFor 5000 0 (nI m) (nI x) (hp q ρ L I) = some (eo (chF g m pr x), hp q ρ L I) := by
  have hW := hg.1
  have bd : ∀ w, w < lxW g → pr w + x * vw g w ≤ 1188 := fun w hw => by
    have h1 := hpb w hw
    have h2 := vw_le hg hw
    have h3 : x * vw g w ≤ 99 * 6 := Nat.mul_le_mul hx h2
    omega
  obtain ⟨⟨b, l⟩, e1, e2, e3⟩ := loE (fun n (z : Option Nat × Int32) j => f_X10_cheapestFor_L8 5000 0 (nI m) (nI x) n (eo z.1) z.2 (nI j) (hp q ρ L I)) (fun z => some (eo z.1, hp q ρ L I)) (lxW g) (fun j z => z.1 = abest (fun w => mean g w m) (fun w v => decide (pr w + x * vw g w < pr v + x * vw g v)) j ∧ ∀ v, z.1 = some v → z.2 = nI (pr v + x * vw g v)) (by
    rintro n ⟨b, l⟩ p
    simp only []
    rw [f_X10_cheapestFor_L8]
    simp (disch := first | omega | assumption) only [↓bX, ↓bXA, ↓jn_, ↓ob_, ↓b2_, ↓reduceIte, nn_lt, nn_le, nn_eq, nI_add, pk_mul, nn_su, gn_lt, gn_le, ng_lt, ng_le, ng_eq, gn_eq, gg_eq, n_m1, n_cl, if_true, if_false, if_pos, if_neg, lt0, hL.1, Nat.le_refl]) (by
    rintro n ⟨b, l⟩ j hj ⟨p1, p2⟩
    simp only [] at p1 p2
    have hv := x_vowelsOf (q := q) (ρ := ρ) (L := L) hL hg hj
    have hmn := x_means (q := q) (ρ := ρ) (L := L) hL hg hj hm
    have hp := hpr j hj
    have hbd := bd j hj
    have ev : pr j + x * vws (lxL g j) (lxN g j) = pr j + x * vw g j := rfl
    cases hme : mean g j m with
    | false =>
      rw [hme, bo_f] at hmn
      refine ⟨(b, l), ?_, ?_, p2⟩
      · simp only []
        rw [f_X10_cheapestFor_L8]
        simp (disch := first | omega | assumption) only [↓bX, ↓bXA, ↓jn_, ↓ob_, ↓b2_, ↓reduceIte, nn_lt, nn_le, nn_eq, nI_add, pk_mul, nn_su, gn_lt, gn_le, ng_lt, ng_le, ng_eq, gn_eq, gg_eq, n_m1, n_cl, if_true, if_false, if_pos, if_neg, lt0, hL.1, hp, ↓b2e hv, ↓b2e hmn]
      · rw [abest_s]
        exact p1.trans (bsS_f (p := fun w => mean g w m) (r := fun w v => decide (pr w + x * vw g w < pr v + x * vw g v)) hme).symm
    | true =>
      rw [hme, bo_t] at hmn
      cases b with
      | none =>
        refine ⟨(some j, nI (pr j + x * vw g j)), ?_, ?_, fun v hv => by cases hv; rfl⟩
        · simp only [eo_n, eo_s]
          rw [f_X10_cheapestFor_L8]
          simp (disch := first | omega | assumption) only [↓bX, ↓bXA, ↓jn_, ↓ob_, ↓b2_, ↓reduceIte, nn_lt, nn_le, nn_eq, nI_add, pk_mul, nn_su, gn_lt, gn_le, ng_lt, ng_le, ng_eq, gn_eq, gg_eq, n_m1, n_cl, if_true, if_false, if_pos, if_neg, lt0, hL.1, hp, ↓b2e hv, ↓b2e hmn, ev]
        · rw [abest_s, ← p1]
          exact (bsS_n (p := fun w => mean g w m) (r := fun w v => decide (pr w + x * vw g w < pr v + x * vw g v)) hme).symm
      | some v =>
        have hvn := (abest_in p1.symm).1
        have hbv := bd v (by omega)
        have hl := p2 v rfl
        by_cases hlt : pr j + x * vw g j < pr v + x * vw g v
        · refine ⟨(some j, nI (pr j + x * vw g j)), ?_, ?_, fun v hv => by cases hv; rfl⟩
          · simp only [eo_s]
            rw [f_X10_cheapestFor_L8]
            simp (disch := first | omega | assumption) only [↓bX, ↓bXA, ↓jn_, ↓ob_, ↓b2_, ↓reduceIte, nn_lt, nn_le, nn_eq, nI_add, pk_mul, nn_su, gn_lt, gn_le, ng_lt, ng_le, ng_eq, gn_eq, gg_eq, n_m1, n_cl, if_true, if_false, if_pos, if_neg, lt0, hL.1, hp, ↓b2e hv, ↓b2e hmn, hl, ev]
          · rw [abest_s, ← p1]
            exact (bsS_s (p := fun w => mean g w m) (r := fun w v => decide (pr w + x * vw g w < pr v + x * vw g v)) hme (decide_eq_true hlt)).symm
        · refine ⟨(some v, l), ?_, ?_, fun v' hv' => by cases hv'; exact hl⟩
          · simp only [eo_s]
            rw [f_X10_cheapestFor_L8]
            simp (disch := first | omega | assumption) only [↓bX, ↓bXA, ↓jn_, ↓ob_, ↓b2_, ↓reduceIte, nn_lt, nn_le, nn_eq, nI_add, pk_mul, nn_su, gn_lt, gn_le, ng_lt, ng_le, ng_eq, gn_eq, gg_eq, n_m1, n_cl, if_true, if_false, if_pos, if_neg, lt0, hL.1, hp, ↓b2e hv, ↓b2e hmn, hl, ev]
          · rw [abest_s, ← p1]
            exact (bsS_k (p := fun w => mean g w m) (r := fun w v => decide (pr w + x * vw g w < pr v + x * vw g v)) hme (decide_eq_false hlt)).symm) (lxW g) 5000 (none, nI 0) 0 (by omega) (by omega) ⟨rfl, fun v hv => by cases hv⟩
  simp only [] at e1 e2
  unfold chF
  rw [← e2]
  simp only [f_X10_cheapestFor, kX, lt0]
  rw [eo_n] at e1
  exact e1
/-- how many words mean it -/
def cnt (p : Nat → Bool) (n : Nat) : Nat := fo (fun w a => bif p w then a + 1 else a) 0 n 0
theorem cnt_s {p : Nat → Bool} {n : Nat} : cnt p (n + 1) = bif p n then cnt p n + 1 else cnt p n := by
  unfold cnt
  rw [fo_last, Nat.zero_add]
theorem cnt_le {p : Nat → Bool} : ∀ n, cnt p n ≤ n
  | 0 => Nat.le_refl 0
  | n + 1 => by
    have := cnt_le (p := p) n
    rw [cnt_s]
    cases p n <;> simp <;> omega
theorem x_mcount {q : pQ} {ρ : pP} {L : pL} {I : pI} {g : gL} {m : Nat} (hL : XL g I) (hg : WL g) (hm : m < 1000) : f_X3_meaningCount 5000 5 (nI m) (hp q ρ L I) = some (nI (cnt (fun w => mean g w m) (lxW g)), hp q ρ L I) := by
  have hW := hg.1
  simp only [f_X3_meaningCount, kX, lt0]
  refine lo (fun n (s : Nat) j => f_X3_meaningCount_L4 5000 5 (nI m) n (nI s) (nI j) (hp q ρ L I)) (fun w a => bif mean g w m then a + 1 else a) (fun s => some (nI s, hp q ρ L I)) (lxW g) ?_ ?_ (lxW g) 5000 0 0 (by omega) (by omega)
  · intro n s
    rw [f_X3_meaningCount_L4]
    simp (disch := first | omega | assumption) only [↓bX, ↓bXA, ↓jn_, ↓ob_, ↓b2_, ↓reduceIte, nn_lt, nn_le, nn_eq, nI_add, pk_mul, nn_su, gn_lt, gn_le, ng_lt, ng_le, ng_eq, gn_eq, gg_eq, n_m1, n_cl, if_true, if_false, if_pos, if_neg, lt0, hL.1, Nat.le_refl]
  · intro n s j hj
    have hmn := x_means (q := q) (ρ := ρ) (L := L) hL hg hj hm
    rw [f_X3_meaningCount_L4]
    cases hme : mean g j m with
    | true =>
      rw [hme, bo_t] at hmn
      simp (disch := first | omega | assumption) only [↓bX, ↓bXA, ↓jn_, ↓ob_, ↓b2_, ↓reduceIte, nn_lt, nn_le, nn_eq, nI_add, pk_mul, nn_su, gn_lt, gn_le, ng_lt, ng_le, ng_eq, gn_eq, gg_eq, n_m1, n_cl, if_true, if_false, if_pos, if_neg, lt0, hL.1, ↓b2e hmn, cond_true]
    | false =>
      rw [hme, bo_f] at hmn
      simp (disch := first | omega | assumption) only [↓bX, ↓bXA, ↓jn_, ↓ob_, ↓b2_, ↓reduceIte, nn_lt, nn_le, nn_eq, nI_add, pk_mul, nn_su, gn_lt, gn_le, ng_lt, ng_le, ng_eq, gn_eq, gg_eq, n_m1, n_cl, if_true, if_false, if_pos, if_neg, lt0, hL.1, ↓b2e hmn, cond_false]
/-! the reference's tolls of now -/
theorem up_self {α : Type} {f : Nat → Nat → α} {a k : Nat} {x : α} (h : f a k = x) : f = j_up f a k x := by
  funext b j
  unfold j_up
  split
  · rename_i e
    split
    · rename_i e'
      rw [e, e', h]
    · rfl
  · rfl
theorem m_tollN {q : pQ} {ρ : pP} {L : pL} {I : pI} {r : gT} {g : gL} {d : gD} {P S w s : Nat} {hr : Int32} (hQ : MQ_ r g d P S ρ I) (hwr : WR r) (hg : WL g) (hw : w < lxW g) (h12 : I 130 12 = hr) : ∃ J z, f_X11_tollNow 5000 129 (nI w) (nI s) (hp q ρ L I) = some (nI (tol (cmp r) g w s hr), hp q (rr ρ z) L J) ∧ Fr tTo I J := by
  obtain ⟨J, z, e1, e2, e3⟩ := m_toll (q := q) (L := L) (s := s) (hr := hr) hQ.1 hwr hQ.2.1 hg hw
  refine ⟨J, z, ?_, e3⟩
  simp (disch := first | omega | assumption) only [f_X11_tollNow, ↓bM, ↓bMA, ↓jn_, ↓ob_, ↓b2_, ↓reduceIte, nn_lt, nn_le, nn_eq, nI_add, pk_mul, nn_su, gn_lt, gn_le, ng_lt, ng_le, ng_eq, gn_eq, gg_eq, n_m1, n_cl, if_true, if_false, if_pos, if_neg, lt0, h12, ↓b2e e1]
theorem m_tollR {q : pQ} {ρ : pP} {L : pL} {I : pI} {r : gT} {g : gL} {d : gD} {P S w s : Nat} {hr : Int32} {J : pI} {z : Option Nat} (hQ : MQ_ r g d P S ρ I) (hwr : WR r) (hg : WL g) (h12 : I 130 12 = hr) (hw : w < lxW g) (hF : Fr tN I J) : ∃ K z', f_X11_tollNow 5000 129 (nI w) (nI s) (hp q (rr ρ z) L J) = some (nI (tol (cmp r) g w s hr), hp q (rr ρ z') L K) ∧ Fr tTo J K := by
  obtain ⟨K, z', e1, e2⟩ := m_tollN (q := q) (L := L) (s := s) (hr := hr) (MQ_N (z := z) hF hQ) hwr hg hw (by rw [hF.row 130 (fun k => rfl)]; exact h12)
  exact ⟨K, z', e1, e2⟩
theorem m_tollA {q : pQ} {ρ : pP} {L : pL} {I : pI} {r : gT} {g : gL} {d : gD} {P S w s : Nat} {hr : Int32} {J : pI} {z : Option Nat} (hQ : MQ_ r g d P S ρ I) (hwr : WR r) (hg : WL g) (hw : w < lxW g) (hF : Fr tN I J) : ∃ K z', f_X11_tollOf 5000 129 (nI w) (nI s) hr (hp q (rr ρ z) L J) = some (nI (tol (cmp r) g w s hr), hp q (rr ρ z') L K) ∧ Fr tTo J K := by
  obtain ⟨K, z', e1, e2, e3⟩ := m_toll (q := q) (L := L) (s := s) (hr := hr) (MQ_N (z := z) hF hQ).1 hwr (MQ_N (z := z) hF hQ).2.1 hg hw
  exact ⟨K, z', e1, e3⟩
theorem m_cheapO {q : pQ} {ρ : pP} {L : pL} {I : pI} {r : gT} {g : gL} {d : gD} {P S m s : Nat} {hr : Int32} (hQ : MQ_ r g d P S ρ I) (hwr : WR r) (hg : WL g) (h12 : I 130 12 = hr) (hm : m < 1000) : ∃ J z, f_X11_cheapestOf 5000 129 (nI m) (nI s) (hp q ρ L I) = some (eo (chF g m (fun w => tol (cmp r) g w s hr) 0), hp q (rr ρ z) L J) ∧ Fr tTo I J := by
  have hW := hg.1
  obtain ⟨⟨b, z, J⟩, e1, e2, e3⟩ := loE (fun n (y : Option Nat × Option Nat × pI) j => f_X11_cheapestOf_L5 5000 129 (nI m) (nI s) n (eo y.1) (nI j) (hp q (rr ρ y.2.1) L y.2.2)) (fun y => some (eo y.1, hp q (rr ρ y.2.1) L y.2.2)) (lxW g) (fun j y => y.1 = abest (fun w => mean g w m) (fun w v => decide (tol (cmp r) g w s hr + 0 * vw g w < tol (cmp r) g v s hr + 0 * vw g v)) j ∧ Fr tTo I y.2.2) (by
    rintro n ⟨b, z, J⟩ ⟨p1, p2⟩
    simp only [] at p1 p2 ⊢
    have e := (MQ_N (z := z) (tTo_N p2) hQ).2.1.1
    rw [f_X11_cheapestOf_L5]
    simp (disch := first | omega | assumption) only [↓bM, ↓bMA, ↓jn_, ↓ob_, ↓b2_, ↓reduceIte, nn_lt, nn_le, nn_eq, nI_add, pk_mul, nn_su, gn_lt, gn_le, ng_lt, ng_le, ng_eq, gn_eq, gg_eq, n_m1, n_cl, if_true, if_false, if_pos, if_neg, lt0, e, Nat.le_refl]) (by
    rintro n ⟨b, z, J⟩ j hj ⟨p1, p2⟩
    simp only [] at p1 p2
    have hQ' := MQ_N (z := z) (tTo_N p2) hQ
    have e := hQ'.2.1.1
    have hmn := m_means (q := q) (ρ := rr ρ z) (L := L) hQ'.2.1 hg hj hm
    cases hme : mean g j m with
    | false =>
      rw [hme, bo_f] at hmn
      refine ⟨(b, z, J), ?_, ?_, p2⟩
      · simp only []
        rw [f_X11_cheapestOf_L5]
        simp (disch := first | omega | assumption) only [↓bM, ↓bMA, ↓jn_, ↓ob_, ↓b2_, ↓reduceIte, nn_lt, nn_le, nn_eq, nI_add, pk_mul, nn_su, gn_lt, gn_le, ng_lt, ng_le, ng_eq, gn_eq, gg_eq, n_m1, n_cl, if_true, if_false, if_pos, if_neg, lt0, e, ↓b2e hmn]
      · rw [abest_s]
        exact p1.trans (bsS_f (p := fun w => mean g w m) (r := fun w v => decide (tol (cmp r) g w s hr + 0 * vw g w < tol (cmp r) g v s hr + 0 * vw g v)) hme).symm
    | true =>
      rw [hme, bo_t] at hmn
      cases b with
      | none =>
        refine ⟨(some j, z, J), ?_, ?_, p2⟩
        · simp only [eo_n, eo_s]
          rw [f_X11_cheapestOf_L5]
          simp (disch := first | omega | assumption) only [↓bM, ↓bMA, ↓jn_, ↓ob_, ↓b2_, ↓reduceIte, nn_lt, nn_le, nn_eq, nI_add, pk_mul, nn_su, gn_lt, gn_le, ng_lt, ng_le, ng_eq, gn_eq, gg_eq, n_m1, n_cl, if_true, if_false, if_pos, if_neg, lt0, e, ↓b2e hmn]
        · rw [abest_s, ← p1]
          exact (bsS_n (p := fun w => mean g w m) (r := fun w v => decide (tol (cmp r) g w s hr + 0 * vw g w < tol (cmp r) g v s hr + 0 * vw g v)) hme).symm
      | some v =>
        have hvn := (abest_in p1.symm).1
        obtain ⟨J1, z1, f1, f2⟩ := m_tollR (q := q) (L := L) (s := s) (z := z) hQ hwr hg h12 hj (tTo_N p2)
        obtain ⟨J2, z2, g1, g2⟩ := m_tollR (q := q) (L := L) (s := s) (w := v) (z := z1) hQ hwr hg h12 (by omega) (tTo_N (Fr.tr p2 f2))
        have b1 := tol_le (c := cmp r) (s := s) (hr := hr) hg hj
        have b2 := tol_le (c := cmp r) (w := v) (s := s) (hr := hr) hg (by omega)
        by_cases hlt : tol (cmp r) g j s hr + 0 * vw g j < tol (cmp r) g v s hr + 0 * vw g v
        · have hlt' : tol (cmp r) g j s hr < tol (cmp r) g v s hr := by rw [Nat.zero_mul, Nat.zero_mul] at hlt; omega
          refine ⟨(some j, z2, J2), ?_, ?_, Fr.tr (Fr.tr p2 f2) g2⟩
          · simp only [eo_s]
            rw [f_X11_cheapestOf_L5]
            simp (disch := first | omega | assumption) only [↓bM, ↓bMA, ↓jn_, ↓ob_, ↓b2_, ↓reduceIte, nn_lt, nn_le, nn_eq, nI_add, pk_mul, nn_su, gn_lt, gn_le, ng_lt, ng_le, ng_eq, gn_eq, gg_eq, n_m1, n_cl, if_true, if_false, if_pos, if_neg, lt0, e, ↓b2e hmn, ↓b2e f1, ↓b2e g1]
          · rw [abest_s, ← p1]
            exact (bsS_s (p := fun w => mean g w m) (r := fun w v => decide (tol (cmp r) g w s hr + 0 * vw g w < tol (cmp r) g v s hr + 0 * vw g v)) hme (decide_eq_true hlt)).symm
        · have hlt' : ¬ tol (cmp r) g j s hr < tol (cmp r) g v s hr := by rw [Nat.zero_mul, Nat.zero_mul] at hlt; omega
          refine ⟨(some v, z2, J2), ?_, ?_, Fr.tr (Fr.tr p2 f2) g2⟩
          · simp only [eo_s]
            rw [f_X11_cheapestOf_L5]
            simp (disch := first | omega | assumption) only [↓bM, ↓bMA, ↓jn_, ↓ob_, ↓b2_, ↓reduceIte, nn_lt, nn_le, nn_eq, nI_add, pk_mul, nn_su, gn_lt, gn_le, ng_lt, ng_le, ng_eq, gn_eq, gg_eq, n_m1, n_cl, if_true, if_false, if_pos, if_neg, lt0, e, ↓b2e hmn, ↓b2e f1, ↓b2e g1]
          · rw [abest_s, ← p1]
            exact (bsS_k (p := fun w => mean g w m) (r := fun w v => decide (tol (cmp r) g w s hr + 0 * vw g w < tol (cmp r) g v s hr + 0 * vw g v)) hme (decide_eq_false hlt)).symm) (lxW g) 5000 (none, ρ.2.2.1, I) 0 (by omega) (by omega) ⟨rfl, Fr.rf⟩
  simp only [] at e1 e2 e3
  refine ⟨J, z, ?_, e3⟩
  unfold chF
  rw [← e2]
  simp only [f_X11_cheapestOf, kM, lt0]
  rw [eo_n] at e1
  exact e1
theorem m_chL {q : pQ} {ρ : pP} {L : pL} {I : pI} {r : gT} {g : gL} {d : gD} {P S m : Nat} {x2 x3 : Int32} (hQ : MQ_ r g d P S ρ I) (hg : WL g) (hm : m < 1000) {kk : Int32 → jH → Option (Int32 × jH)} : f_X11_cheapest_L43 5000 129 (nI m) x2 x3 kk 5000 (nI 0) (nI 0) (hp q ρ L I) = kk (nI (cnt (fun w => mean g w m) (lxW g))) (hp q ρ L I) := by
  have hW := hg.1
  refine lo (fun n (s : Nat) j => f_X11_cheapest_L43 5000 129 (nI m) x2 x3 kk n (nI s) (nI j) (hp q ρ L I)) (fun w a => bif mean g w m then a + 1 else a) (fun s => kk (nI s) (hp q ρ L I)) (lxW g) ?_ ?_ (lxW g) 5000 0 0 (by omega) (by omega)
  · intro n s
    rw [f_X11_cheapest_L43]
    simp (disch := first | omega | assumption) only [↓bM, ↓bMA, ↓jn_, ↓ob_, ↓b2_, ↓reduceIte, nn_lt, nn_le, nn_eq, nI_add, pk_mul, nn_su, gn_lt, gn_le, ng_lt, ng_le, ng_eq, gn_eq, gg_eq, n_m1, n_cl, if_true, if_false, if_pos, if_neg, lt0, hQ.2.1.1, Nat.le_refl]
  · intro n s j hj
    have hmn := m_means (q := q) (ρ := ρ) (L := L) hQ.2.1 hg hj hm
    rw [f_X11_cheapest_L43]
    cases hme : mean g j m with
    | true =>
      rw [hme, bo_t] at hmn
      simp (disch := first | omega | assumption) only [↓bM, ↓bMA, ↓jn_, ↓ob_, ↓b2_, ↓reduceIte, nn_lt, nn_le, nn_eq, nI_add, pk_mul, nn_su, gn_lt, gn_le, ng_lt, ng_le, ng_eq, gn_eq, gg_eq, n_m1, n_cl, if_true, if_false, if_pos, if_neg, lt0, hQ.2.1.1, ↓b2e hmn, cond_true]
    | false =>
      rw [hme, bo_f] at hmn
      simp (disch := first | omega | assumption) only [↓bM, ↓bMA, ↓jn_, ↓ob_, ↓b2_, ↓reduceIte, nn_lt, nn_le, nn_eq, nI_add, pk_mul, nn_su, gn_lt, gn_le, ng_lt, ng_le, ng_eq, gn_eq, gg_eq, n_m1, n_cl, if_true, if_false, if_pos, if_neg, lt0, hQ.2.1.1, ↓b2e hmn, cond_false, Nat.add_zero]
theorem chF_x {g : gL} {m : Nat} {pr pr' : Nat → Nat} {x : Nat} (h : ∀ w, w < lxW g → pr w = pr' w) : chF g m pr x = chF g m pr' x := by
  have : ∀ n, n ≤ lxW g → abest (fun w => mean g w m) (fun w v => decide (pr w + x * vw g w < pr v + x * vw g v)) n = abest (fun w => mean g w m) (fun w v => decide (pr' w + x * vw g w < pr' v + x * vw g v)) n := by
    intro n
    induction n with
    | zero => intro _; rfl
    | succ n ih =>
      intro hn
      rw [abest_s, abest_s, ih (by omega)]
      cases hb : abest (fun w => mean g w m) (fun w v => decide (pr' w + x * vw g w < pr' v + x * vw g v)) n with
      | none => rfl
      | some v =>
        have := (abest_in hb).1
        unfold bsS
        simp only [h n (by omega), h v (by omega)]
  exact this _ (Nat.le_refl _)
theorem k_cheapest (a b : Int32) : ∀ G, Wr G → ∃ v G', Wr G' ∧ XH (f_X10_cheapest 5000 0 a b) G v G' ∧ MH (f_X11_cheapest 5000 129 a b) G v G' := by
  intro G hG
  have hG' := hG
  have wQ := WQ_of hG
  obtain ⟨w1, w2, w3, w4, w5, w6, w7, w8, w9⟩ := hG
  have hW10 := w2.1
  have fin : ∀ v, (∀ q ρ L I, Xr G ρ L I → f_X10_cheapest 5000 0 a b (hp q ρ L I) = some (v, hp q ρ L I)) → (∀ t q ρ L I, Mr t G ρ L I → Ms t G ρ (j_up I 129 13 (nI 0)) → f_X11_cheapest 5000 129 a b (hp q ρ L I) = some (v, hp q ρ L (j_up I 129 13 (nI 0)))) → ∃ v G', Wr G' ∧ XH (f_X10_cheapest 5000 0 a b) G v G' ∧ MH (f_X11_cheapest 5000 129 a b) G v G' :=
    fun v hx hm => ⟨v, G, hG', XH_0 hx, MH_0 (fun t q ρ L I h => hm t q ρ L I h (Ms_0 h.1))⟩
  rcases ixo a 10 (by omega) with h | ⟨m, hm, rfl⟩
  · refine fin (-nI 1) ?_ ?_
    · intro q ρ L I hX
      simp (disch := first | omega | assumption) only [f_X10_cheapest, ↓bX, ↓bXA, ↓jn_, ↓ob_, ↓b2_, ↓reduceIte, nn_lt, nn_le, nn_eq, nI_add, pk_mul, nn_su, gn_lt, gn_le, ng_lt, ng_le, ng_eq, gn_eq, gg_eq, n_m1, n_cl, if_true, if_false, if_pos, if_neg, lt0, x_isM0 h]
    · intro t q ρ L I _ hM
      simp (disch := first | omega | assumption) only [f_X11_cheapest, ↓bM, ↓bMA, ↓jn_, ↓ob_, ↓b2_, ↓reduceIte, nn_lt, nn_le, nn_eq, nI_add, pk_mul, nn_su, gn_lt, gn_le, ng_lt, ng_le, ng_eq, gn_eq, gg_eq, n_m1, n_cl, if_true, if_false, if_pos, if_neg, lt0, m_isM0 h]
  rcases ixo b (gS G) (by omega) with h | ⟨s, hs, rfl⟩
  · refine fin (-nI 1) ?_ ?_
    · rintro q ρ L I ⟨⟨hT, hL, hD, hP, hS, hU, hK, hR, hρ⟩, hW⟩
      simp (disch := first | omega | assumption) only [f_X10_cheapest, ↓bX, ↓bXA, ↓jn_, ↓ob_, ↓b2_, ↓reduceIte, nn_lt, nn_le, nn_eq, nI_add, pk_mul, nn_su, gn_lt, gn_le, ng_lt, ng_le, ng_eq, gn_eq, gg_eq, n_m1, n_cl, if_true, if_false, if_pos, if_neg, lt0, x_isM1 hm, ↓b2e (x_isS0 (q := q) (ρ := ρ) (L := L) hP.2 h)]
    · rintro t q ρ L I - ⟨hT, hL, hD, hP, hS, hU, hK, hR⟩
      simp (disch := first | omega | assumption) only [f_X11_cheapest, ↓bM, ↓bMA, ↓jn_, ↓ob_, ↓b2_, ↓reduceIte, nn_lt, nn_le, nn_eq, nI_add, pk_mul, nn_su, gn_lt, gn_le, ng_lt, ng_le, ng_eq, gn_eq, gg_eq, n_m1, n_cl, if_true, if_false, if_pos, if_neg, lt0, m_isM1 hm, ↓b2e (m_isS0 (q := q) (ρ := ρ) (L := L) hP.2 (by omega) h)]
  have xp : ∀ q ρ L I, Xr G ρ L I → ∃ J, f_X10_priceAll 5000 0 ρ.1.1 (nI s) 115 (hp q ρ L I) = some (hp q ρ L J) ∧ (∀ w, w < lxW (gLx G) → J 115 w = nI (tol (cmp (gRu G)) (gLx G) w s (scH (gN G)))) ∧ Fr (tY ρ.1.1) I J ∧ XL (gLx G) J ∧ (ρ.1.1 = 119 ∨ ρ.1.1 = 124) := by
    rintro q ρ L I ⟨⟨hT, hL, hD, hP, hS, hU, hK, hR, hρ⟩, hW⟩
    obtain ⟨hA, hTf⟩ := XR_Tf hR
    obtain ⟨J, e1, e2, e3⟩ := x_priceAll (q := q) (ρ := ρ) (L := L) (B := 115) (s := s) hA (.inl rfl) hTf wQ.1 hL w2 hS.1.1
    exact ⟨J, e1, e2, trB hA (.inl rfl) e3, XL_k (fun b _ _ => e3 b (by unfold tT; omega) (by omega)) hL, hA⟩
  cases hb : chF (gLx G) m (fun w => tol (cmp (gRu G)) (gLx G) w s (scH (gN G))) 0 with
  | none =>
    refine ⟨-nI 2, sRw G (gRw G), hG', XH_q _ ?_, MH_q _ ?_⟩
    · intro q ρ L I hX
      obtain ⟨J, e1, e2, e3, e4, hA⟩ := xp q ρ L I hX
      have hc := x_cheapF (q := q) (ρ := ρ) (L := L) (x := 0) (m := m) e4 w2 e2 (fun w hw => tol_le w2 hw) (by omega) (by omega)
      rw [hb, eo_n] at hc
      obtain ⟨⟨hT, hL, hD, hP, hS, hU, hK, hR, hρ⟩, hW⟩ := hX
      refine ⟨ρ, L, J, ?_, e3, ⟨rfl, rfl, hρ⟩, rfl, ?_⟩
      · simp (disch := first | omega | assumption) only [f_X10_cheapest, ↓bX, ↓bXA, ↓jn_, ↓ob_, ↓b2_, ↓reduceIte, nn_lt, nn_le, nn_eq, nI_add, pk_mul, nn_su, gn_lt, gn_le, ng_lt, ng_le, ng_eq, gn_eq, gg_eq, n_m1, n_cl, if_true, if_false, if_pos, if_neg, lt0, x_isM1 hm, ↓b2e (x_isS1 (q := q) (ρ := ρ) (L := L) hP.2 (by omega) hs), ↓oe e1, ↓b2e hc]
      · unfold XW at hW ⊢
        rw [show J 3 1 = I 3 1 from by
          obtain ⟨hA', hTf⟩ := XR_Tf hR
          obtain ⟨J', e1', e2', e3'⟩ := x_priceAll (q := q) (ρ := ρ) (L := L) (B := 115) (s := s) hA' (.inl rfl) hTf wQ.1 hL w2 hS.1.1
          rw [e1] at e1'
          have : J = J' := by
            have h1 := Option.some.inj e1'
            exact congrArg (fun h : jH => h.2.2.1) h1
          rw [this, e3' 3 (by unfold tT; omega) (by omega)]]
        exact hW
    · rintro t q ρ L I ⟨hM, hW⟩
      have hM0 := Ms_0 (x := nI 0) hM
      have hQ := MQ_of hM0
      have h12 := hM0.2.2.2.2.1.1.1
      rw [Nat.zero_add] at h12
      obtain ⟨J, z, e1, e2⟩ := m_cheapO (q := q) (L := L) (s := s) hQ w9 w2 h12 (m := m) (by omega)
      rw [hb, eo_n] at e1
      refine ⟨rr ρ z, L, J, ?_, Fr.tr (Fr.up Fr.rf rfl) (tTo_N e2), ⟨rfl, rfl, rfl⟩, rfl, ?_⟩
      · simp (disch := first | omega | assumption) only [f_X11_cheapest, ↓bM, ↓bMA, ↓jn_, ↓ob_, ↓b2_, ↓reduceIte, nn_lt, nn_le, nn_eq, nI_add, pk_mul, nn_su, gn_lt, gn_le, ng_lt, ng_le, ng_eq, gn_eq, gg_eq, n_m1, n_cl, if_true, if_false, if_pos, if_neg, lt0, m_isM1 hm, ↓b2e (m_isS1 (q := q) (ρ := ρ) (L := L) hQ.2.2.2.2 (by omega) hs), ↓b2e e1]
      · unfold MW at hW ⊢
        rw [e2 129 12 rfl, up_nk (by omega)]
        exact hW
  | some w =>
    have hw := (abest_in hb).1
    have b594 := tol_le (c := cmp (gRu G)) (s := s) (hr := scH (gN G)) w2 hw
    have c10 := cnt_le (p := fun w => mean (gLx G) w m) (lxW (gLx G))
    refine ⟨nI w, sRw G (2, fun i => if i = 0 then (nI (tol (cmp (gRu G)) (gLx G) w s (scH (gN G)))).toInt64 else (nI (cnt (fun w => mean (gLx G) w m) (lxW (gLx G)))).toInt64), ⟨w1, w2, w3, w4, w5, w6, w7, by simp only []; omega, w9⟩, XH_q _ ?_, MH_q _ ?_⟩
    · intro q ρ L I hX
      obtain ⟨J, e1, e2, e3, e4, hA⟩ := xp q ρ L I hX
      have hc := x_cheapF (q := q) (ρ := ρ) (L := L) (x := 0) (m := m) e4 w2 e2 (fun w hw => tol_le w2 hw) (by omega) (by omega)
      rw [hb, eo_s] at hc
      obtain ⟨⟨hT, hL, hD, hP, hS, hU, hK, hR, hρ⟩, hW⟩ := hX
      refine ⟨ρ, j_up (j_up L 4 0 _) 4 1 _, j_up J 3 1 (nI 2), ?_, Fr.up e3 (by rcases hA with e | e <;> rw [e] <;> rfl), ⟨rfl, rfl, hρ⟩, by rw [up_ne (by omega), up_ne (by omega)], XW_2⟩
      simp (disch := first | omega | assumption) only [f_X10_cheapest, ↓bX, ↓bXA, ↓jn_, ↓ob_, ↓b2_, ↓reduceIte, nn_lt, nn_le, nn_eq, nI_add, pk_mul, nn_su, gn_lt, gn_le, ng_lt, ng_le, ng_eq, gn_eq, gg_eq, n_m1, n_cl, if_true, if_false, if_pos, if_neg, lt0, x_isM1 hm, ↓b2e (x_isS1 (q := q) (ρ := ρ) (L := L) hP.2 (by omega) hs), ↓oe e1, ↓b2e hc, e2 w hw, ↓b2e (x_mcount (q := q) (ρ := ρ) (L := L) (m := m) e4 w2 (by omega)), ↓oe (x_tell2 (q := q) (ρ := ρ) (L := L) (I := J))]
    · rintro t q ρ L I ⟨hM, hW⟩
      have hM0 := Ms_0 (x := nI 0) hM
      have hQ := MQ_of hM0
      have h12 := hM0.2.2.2.2.1.1.1
      rw [Nat.zero_add] at h12
      obtain ⟨J, z, e1, e2⟩ := m_cheapO (q := q) (L := L) (s := s) hQ w9 w2 h12 (m := m) (by omega)
      rw [hb, eo_s] at e1
      have hQ2 := MQ_N (z := z) (tTo_N e2) hQ
      have fr3 : Fr tN J (j_up J 129 12 (nI 0)) := Fr.up Fr.rf rfl
      obtain ⟨K, z2, g1, g2⟩ := m_tollR (q := q) (L := L) (s := s) (z := z) hQ w9 w2 h12 hw (Fr.tr (tTo_N e2) fr3)
      have k12 : K = j_up K 129 12 (nI 0) := up_self (by rw [g2 129 12 rfl, up_eq])
      refine ⟨rr ρ z2, j_up (j_up L 136 0 _) 136 1 _, j_up K 129 12 (nI 2), ?_, Fr.up (Fr.tr (Fr.tr (Fr.tr (Fr.up Fr.rf rfl) (tTo_N e2)) fr3) (tTo_N g2)) rfl, ⟨rfl, rfl, rfl⟩, by rw [up_ne (by omega), up_ne (by omega)], MW_2⟩
      rw [f_X11_cheapest]
      simp (disch := first | omega | assumption) only [↓bM, ↓bMA, ↓jn_, ↓ob_, ↓b2_, ↓reduceIte, nn_lt, nn_le, nn_eq, nI_add, pk_mul, nn_su, gn_lt, gn_le, ng_lt, ng_le, ng_eq, gn_eq, gg_eq, n_m1, n_cl, if_true, if_false, if_pos, if_neg, lt0, m_isM1 hm, ↓b2e (m_isS1 (q := q) (ρ := ρ) (L := L) hQ.2.2.2.2 (by omega) hs), ↓b2e e1]
      rw [m_chL (q := q) (L := L) hQ2 w2 (by omega)]
      simp (disch := first | omega | assumption) only [↓bM, ↓bMA, ↓jn_, ↓ob_, ↓b2_, ↓reduceIte, nn_lt, nn_le, nn_eq, nI_add, pk_mul, nn_su, gn_lt, gn_le, ng_lt, ng_le, ng_eq, gn_eq, gg_eq, n_m1, n_cl, if_true, if_false, if_pos, if_neg, lt0, ↓b2e g1]
      rw [k12]
      simp (disch := first | omega | assumption) only [m_tell, ob_, up_up]
