/-! A TARIFF's cells: A and the four behind it -/
theorem kT {A : Nat} (hA : A = 119 ∨ A = 124) (q : pQ) (ρ : pP) (L : pL) (I : pI) :
    (∀ {α : Type} (x : Option α), j_gd 8 (hp q ρ L I) A x = x) ∧ jg_I 8 4 (hp q ρ L I) A = some (I A 4) ∧ (∀ x, jp_I 8 4 (hp q ρ L I) A x = some (hp q ρ L (j_up I A 4 x))) ∧
    jg_R 8 0 (hp q ρ L I) A = some (A + 1) ∧ jg_R 8 1 (hp q ρ L I) A = some (A + 2) ∧ jg_R 8 2 (hp q ρ L I) A = some (A + 3) ∧ jg_R 8 3 (hp q ρ L I) A = some (A + 4) ∧
    (∀ j, j < 5 → ja_I 100 (hp q ρ L I) (A + 1) (nI j) = some (I (A + 1) j)) ∧ (∀ j, j < 40 → ja_I 100 (hp q ρ L I) (A + 2) (nI j) = some (I (A + 2) j)) ∧ (∀ j, j < 40 → ja_I 100 (hp q ρ L I) (A + 3) (nI j) = some (I (A + 3) j)) ∧ (∀ j, j < 7 → ja_I 100 (hp q ρ L I) (A + 4) (nI j) = some (I (A + 4) j)) ∧
    (∀ j x, j < 5 → jb_I 100 (hp q ρ L I) (A + 1) (nI j) x = some (hp q ρ L (j_up I (A + 1) j x))) ∧ (∀ j x, j < 40 → jb_I 100 (hp q ρ L I) (A + 2) (nI j) x = some (hp q ρ L (j_up I (A + 2) j x))) ∧ (∀ j x, j < 40 → jb_I 100 (hp q ρ L I) (A + 3) (nI j) x = some (hp q ρ L (j_up I (A + 3) j x))) ∧ (∀ j x, j < 7 → jb_I 100 (hp q ρ L I) (A + 4) (nI j) x = some (hp q ρ L (j_up I (A + 4) j x))) ∧
    jn_len 100 (hp q ρ L I) (A + 1) = some (nI 5) := by
  rcases hA with rfl | rfl
  · exact ⟨fun _ => hg_d rfl rfl, hg_I rfl rfl, fun _ => hq_I rfl rfl, hg_R rfl rfl rfl, hg_R rfl rfl rfl, hg_R rfl rfl rfl, hg_R rfl rfl rfl, fun _ hj => ha_I rfl rfl rfl hj, fun _ hj => ha_I rfl rfl rfl hj, fun _ hj => ha_I rfl rfl rfl hj, fun _ hj => ha_I rfl rfl rfl hj, fun _ _ hj => hb_I rfl rfl rfl hj, fun _ _ hj => hb_I rfl rfl rfl hj, fun _ _ hj => hb_I rfl rfl rfl hj, fun _ _ hj => hb_I rfl rfl rfl hj, hn_l rfl rfl⟩
  · exact ⟨fun _ => hg_d rfl rfl, hg_I rfl rfl, fun _ => hq_I rfl rfl, hg_R rfl rfl rfl, hg_R rfl rfl rfl, hg_R rfl rfl rfl, hg_R rfl rfl rfl, fun _ hj => ha_I rfl rfl rfl hj, fun _ hj => ha_I rfl rfl rfl hj, fun _ hj => ha_I rfl rfl rfl hj, fun _ hj => ha_I rfl rfl rfl hj, fun _ _ hj => hb_I rfl rfl rfl hj, fun _ _ hj => hb_I rfl rfl rfl hj, fun _ _ hj => hb_I rfl rfl rfl hj, fun _ _ hj => hb_I rfl rfl rfl hj, hn_l rfl rfl⟩
/-- steps c laid into tariff A -/
def cw (I : pI) (A : Nat) (c : List Int32) : pI := fun b k => if b = A ∧ k = 4 then nI c.length else if b = A + 2 ∧ k < c.length then c.getD k 0 else I b k
theorem cw_sz {I : pI} {A : Nat} {c : List Int32} : cw I A c A 4 = nI c.length := if_pos ⟨rfl, rfl⟩
theorem cw_ne {I : pI} {A b : Nat} {c : List Int32} (h1 : b ≠ A) (h2 : b ≠ A + 2) : cw I A c b = I b := by
  funext k
  unfold cw
  rw [if_neg (fun h => h1 h.1), if_neg (fun h => h2 h.1)]
theorem cw_put {I : pI} {A : Nat} {c : List Int32} {x : Int32} : j_up (j_up (cw I A c) (A + 2) c.length x) A 4 (nI (c.length + 1)) = cw I A (c ++ [x]) := by
  funext b k
  simp only [j_up, cw, List.length_append, List.length_cons, List.length_nil]
  by_cases h1 : b = A
  · subst h1
    by_cases h2 : k = 4
    · subst h2
      simp
    · have : ¬ b = b + 2 := by omega
      simp [h2, this]
  · by_cases h2 : b = A + 2
    · subst h2
      have h3 : ¬ A + 2 = A := by omega
      by_cases h4 : k = c.length
      · subst h4
        simp [h3]
      · by_cases h5 : k < c.length
        · have : k < c.length + 1 := by omega
          simp [h3, h4, h5, this, List.getElem?_append_left h5]
        · have : ¬ k < c.length + 1 := by omega
          simp [h3, h4, h5, this]
    · simp [h1, h2]
theorem Rd_cw {I : pI} {f : Nat → Nat} {n A : Nat} {c : List Int32} (hA : A = 119 ∨ A = 124) (h : Rd I f n) : Rd (cw I A c) f n := by
  unfold Rd
  rw [cw_ne (by omega) (by omega), cw_ne (by omega) (by omega)]
  exact h
theorem x_put {q : pQ} {ρ : pP} {L : pL} {I : pI} {A p : Nat} {c : List Int32} {x : Int32} (hA : A = 119 ∨ A = 124) (hc : c.length < 40) : f_X8_put 5000 A x (hp q ρ L (ap (cw I A c) p)) = some (nI 1, hp q ρ L (ap (cw I A (c ++ [x])) p)) := by
  simp (disch := first | omega | assumption) only [f_X8_put, kT hA, ob_, b2_, jn_, nn_lt, nn_le, nn_eq, nI_add, pk_mul, nn_su, gn_lt, gn_le, ng_lt, ng_le, ng_eq, gn_eq, gg_eq, n_m1, n_cl, if_true, if_false, if_pos, if_neg, ite_self, lt0, ap_ne, cw_sz, up_ne, ap_co, cw_put]
theorem x_either {q : pQ} {ρ : pP} {L : pL} {I : pI} {f : Nat → Nat} {n p a b : Nat} (hR : Rd I f n) (hpn : p ≤ n) (ha : a < 900) (hb : b < 900) (h1 : 1 ≤ a) (h2 : 1 ≤ b) : f_X8_takeEither 5000 1 (nI a) (nI b) (hp q ρ L (ap I p)) = if sg f n p = a then some (nI a, hp q ρ L (ap I (p + 1))) else if sg f n p = b then some (nI b, hp q ρ L (ap I (p + 1))) else some (-nI 1, hp q ρ L (ap I p)) := by
  simp (disch := first | omega | assumption) only [f_X8_takeEither, x_take hR hpn]
  by_cases h : sg f n p = a
  · simp (disch := first | omega | assumption) only [h, if_true, ob_, b2_, jn_, nn_lt, nn_le, nn_eq, nI_add, pk_mul, nn_su, gn_lt, gn_le, ng_lt, ng_le, ng_eq, gn_eq, gg_eq, n_m1, n_cl, if_true, if_false, if_pos, if_neg, ite_self, lt0]
  · by_cases g : sg f n p = b
    · simp (disch := first | omega | assumption) only [h, g, if_true, if_false, x_take hR hpn, ob_, b2_, jn_, nn_lt, nn_le, nn_eq, nI_add, pk_mul, nn_su, gn_lt, gn_le, ng_lt, ng_le, ng_eq, gn_eq, gg_eq, n_m1, n_cl, if_true, if_false, if_pos, if_neg, ite_self, lt0]
    · simp (disch := first | omega | assumption) only [h, g, if_true, if_false, x_take hR hpn, ob_, b2_, jn_, nn_lt, nn_le, nn_eq, nI_add, pk_mul, nn_su, gn_lt, gn_le, ng_lt, ng_le, ng_eq, gn_eq, gg_eq, n_m1, n_cl, if_true, if_false, if_pos, if_neg, ite_self, lt0]
/-- a reader's answer, told as the class tells it -/
def bo (b : Bool) : Int32 := bif b then nI 1 else nI 0
theorem bo_t : bo true = nI 1 := rfl
theorem bo_f : bo false = nI 0 := rfl
def pEnd (q : pQ) (ρ : pP) (L : pL) (I : pI) (A : Nat) (c0 : List Int32) (o : pO) : Option (Int32 × jH) := some (bo o.1, hp q ρ L (ap (cw I A (c0 ++ o.2.2)) o.2.1))
def SP (q : pQ) (ρ : pP) (L : pL) (I : pI) (A n : Nat) (g : jH → Option (Int32 × jH)) (pf : Nat → pO) : Prop := ∀ (c0 : List Int32) (p : Nat), p ≤ n → c0.length ≤ p → g (hp q ρ L (ap (cw I A c0) p)) = pEnd q ρ L I A c0 (pf p)
/-- it goes on, within the text, and makes no more steps than it reads signs -/
def Gd (n : Nat) (pf : Nat → pO) : Prop := ∀ p, p ≤ n → p ≤ (pf p).2.1 ∧ (pf p).2.1 ≤ n ∧ (pf p).2.2.length + p ≤ (pf p).2.1
theorem pMin_le (f : Nat → Nat) (n : Nat) : ∀ k p, p ≤ n → (pMin f n k p).1 ≤ n ∧ p + (pMin f n k p).2 = (pMin f n k p).1
  | 0, p, h => ⟨h, rfl⟩
  | k + 1, p, h => by
    simp only [pMin]
    split
    · rename_i g
      have := pMin_le f n k (p + 1) (sg_in (f := f) (by omega))
      exact ⟨this.1, by simp only []; omega⟩
    · exact ⟨h, rfl⟩
theorem Gd_thing {f : Nat → Nat} {n : Nat} {rec : Option (Nat → pO)} (h : ∀ k, rec = some k → Gd n k) : Gd n (pThing f n rec) := by
  intro p hp
  unfold pThing
  split
  · rename_i k e
    have hs : sg f n p = 40 := by
      split at e
      · assumption
      · cases e
    rw [if_pos hs] at e
    have hp1 : p < n := sg_in (f := f) (by omega)
    obtain ⟨a, b, c⟩ := h k e (p + 1) hp1
    split
    · rename_i p1 c1 e1
      rw [e1] at a b c
      exact ⟨by simp only [] at *; omega, b, by simp only [] at *; omega⟩
    · rename_i p1 c1 e1
      rw [e1] at a b c
      simp only [] at a b c
      split
      · rename_i g
        have : p1 < n := sg_in (f := f) (by omega)
        exact ⟨by simp only []; omega, this, by simp only []; omega⟩
      · exact ⟨by simp only []; omega, b, by simp only []; omega⟩
  · split
    · rename_i g
      have hp1 : p < n := sg_in (f := f) (by omega)
      have e : pNum f n 3 p 0 = pNum f n 2 (p + 1) (0 * 10 + (sg f n p - 48)) := by
        rw [pNum, if_pos g]
      have := pNum_le f n 2 (p + 1) (0 * 10 + (sg f n p - 48)) hp1
      rw [← e] at this
      exact ⟨by simp only []; omega, this.1, by simp only [List.length_cons, List.length_nil]; omega⟩
    · split
      · rename_i g1 g
        have : sg f n p < 900 := by
          unfold pFact at g
          split at g
          · omega
          · split at g
            · omega
            · split at g
              · omega
              · split at g
                · omega
                · split at g
                  · omega
                  · split at g
                    · omega
                    · split at g <;> omega
        have hp1 : p < n := sg_in (f := f) this
        exact ⟨by simp only []; omega, hp1, by simp only [List.length_cons, List.length_nil]; omega⟩
      · exact ⟨Nat.le_refl p, hp, by simp⟩
theorem Gd_fac {f : Nat → Nat} {n : Nat} {rec : Option (Nat → pO)} (h : ∀ k, rec = some k → Gd n k) : Gd n (pFac f n rec) := by
  intro p hp
  obtain ⟨m1, m2⟩ := pMin_le f n 40 p hp
  have g := Gd_thing (f := f) h (pMin f n 40 p).1 m1
  unfold pFac
  split
  · rename_i e
    rw [e] at g
    simp only [] at g ⊢
    omega
  · rename_i e
    rw [e] at g
    simp only [] at g ⊢
    split
    · omega
    · simp only [List.length_append, List.length_cons, List.length_nil]
      omega
theorem Gd_more {f : Nat → Nat} {n a b : Nat} {part : Nat → pO} (ha : a < 900) (hb : b < 900) (h : Gd n part) : ∀ k (o : pO) (p0 : Nat), p0 ≤ o.2.1 ∧ o.2.1 ≤ n ∧ o.2.2.length + p0 ≤ o.2.1 → p0 ≤ (pMore f n a b part k o).2.1 ∧ (pMore f n a b part k o).2.1 ≤ n ∧ (pMore f n a b part k o).2.2.length + p0 ≤ (pMore f n a b part k o).2.1
  | 0, o, p0, g => g
  | k + 1, (false, p, c), p0, g => g
  | k + 1, (true, p, c), p0, g => by
    simp only [pMore]
    simp only [] at g
    split
    · rename_i s
      have hp1 : p < n := sg_in (f := f) (by omega)
      have h1 := h (p + 1) hp1
      split
      · rename_i e
        rw [e] at h1
        simp only [List.length_append] at h1 ⊢
        omega
      · rename_i p1 c1 e
        rw [e] at h1
        simp only [] at h1
        refine Gd_more ha hb h k _ p0 ?_
        simp only [List.length_append, List.length_cons, List.length_nil]
        omega
    · exact g
theorem Gd_pro {f : Nat → Nat} {n : Nat} {rec : Option (Nat → pO)} (h : ∀ k, rec = some k → Gd n k) : Gd n (pPro f n rec) := fun p hp => Gd_more (by omega) (by omega) (Gd_fac h) 40 _ p (Gd_fac h p hp)
theorem Gd_sum {f : Nat → Nat} {n : Nat} {rec : Option (Nat → pO)} (h : ∀ k, rec = some k → Gd n k) : Gd n (pSum f n rec) := fun p hp => Gd_more (by omega) (by omega) (Gd_pro h) 40 _ p (Gd_pro h p hp)
theorem Gd_cmp {f : Nat → Nat} {n : Nat} {rec : Option (Nat → pO)} (h : ∀ k, rec = some k → Gd n k) : Gd n (pCmp f n rec) := by
  intro p hp
  have g := Gd_sum (f := f) h p hp
  unfold pCmp
  split
  · rename_i e
    rw [e] at g
    exact g
  · rename_i p1 c e
    rw [e] at g
    simp only [] at g ⊢
    split
    · rename_i s
      have hp1 : p1 < n := sg_in (f := f) (by omega)
      have g2 := Gd_sum (f := f) h (p1 + 1) hp1
      split
      · rename_i e2
        rw [e2] at g2
        simp only [List.length_append] at g2 ⊢
        omega
      · rename_i e2
        rw [e2] at g2
        simp only [List.length_append, List.length_cons, List.length_nil] at g2 ⊢
        omega
    · exact g
theorem Gd_exp {f : Nat → Nat} {n : Nat} : ∀ r, Gd n (pExp f n r)
  | 0 => Gd_cmp (fun _ h => by cases h)
  | r + 1 => Gd_cmp (fun k h => by cases h; exact Gd_exp r)
