/-! WHAT STEPS PUSH -/
def vO (fx : Nat → Int32) (c : List Int32) : Int32 := (rn fx c []).getD 0 0
def Pu (fx : Nat → Int32) (c : List Int32) : Prop := ∀ rest st, rn fx (c ++ rest) st = rn fx rest (vO fx c :: st)
/-- steps that are numbers, facts, signs -/
def St (c : List Int32) : Prop := ∀ p, p ∈ c → ∃ v, p = nI v ∧ (v < 1007 ∨ v = 2000 ∨ (2040 < v ∧ v < 2063))
theorem rn_p {fx : Nat → Int32} {p : Int32} {c st : List Int32} (h : p < nI 2000) : rn fx (p :: c) st = rn fx c ((if p < nI 1000 then p else fx (p.toNatClampNeg - 1000)) :: st) := by
  rw [rn.eq_def]
  simp only [h, if_true]
theorem Pu_of {fx : Nat → Int32} {c : List Int32} {v : Int32} (h : ∀ rest st, rn fx (c ++ rest) st = rn fx rest (v :: st)) : Pu fx c ∧ vO fx c = v := by
  have e : vO fx c = v := by
    have := h [] []
    rw [List.append_nil] at this
    unfold vO
    rw [this]
    rfl
  exact ⟨fun r s => by rw [e]; exact h r s, e⟩
theorem Pu_num {fx : Nat → Int32} {v : Nat} (hv : v < 1000) : Pu fx [nI v] ∧ vO fx [nI v] = nI v := Pu_of (fun rest st => by
  show rn fx (nI v :: rest) st = _
  rw [rn_p (by rw [nn_lt (by omega) (by omega)]; omega), if_pos (by rw [nn_lt (by omega) (by omega)]; omega)])
theorem Pu_fact {fx : Nat → Int32} {k : Nat} (hk : k < 7) : Pu fx [nI (1000 + k)] ∧ vO fx [nI (1000 + k)] = fx k := Pu_of (fun rest st => by
  show rn fx (nI (1000 + k) :: rest) st = _
  rw [rn_p (by rw [nn_lt (by omega) (by omega)]; omega), if_neg (by rw [nn_lt (by omega) (by omega)]; omega), n_cl (by omega), show 1000 + k - 1000 = k by omega])
theorem Pu_neg {fx : Nat → Int32} {c : List Int32} (h : Pu fx c) : Pu fx (c ++ [nI 2000]) ∧ vO fx (c ++ [nI 2000]) = -vO fx c := Pu_of (fun rest st => by
  rw [List.append_assoc, h]
  show rn fx (nI 2000 :: rest) _ = _
  rw [rn, if_neg (by rw [nn_lt (by omega) (by omega)]; omega), if_pos rfl])
theorem Pu_bin {fx : Nat → Int32} {c d : List Int32} {s : Nat} (h : Pu fx c) (g : Pu fx d) (h1 : 1 ≤ s) (h2 : s < 100) : Pu fx (c ++ d ++ [nI (2000 + s)]) ∧ vO fx (c ++ d ++ [nI (2000 + s)]) = jnd s (vO fx c) (vO fx d) := Pu_of (fun rest st => by
  rw [List.append_assoc, List.append_assoc, h, g]
  show rn fx (nI (2000 + s) :: rest) _ = _
  rw [rn, if_neg (by rw [nn_lt (by omega) (by omega)]; omega), if_neg (by rw [nn_eq (by omega) (by omega)]; omega)]
  simp only []
  rw [n_cl (by omega), show 2000 + s - 2000 = s by omega])
theorem St_app {c d : List Int32} (h : St c) (g : St d) : St (c ++ d) := fun p hp => (List.mem_append.mp hp).elim (h p) (g p)
theorem St_one {v : Nat} (h : v < 1007 ∨ v = 2000 ∨ (2040 < v ∧ v < 2063)) : St [nI v] := fun p hp => ⟨v, List.mem_singleton.mp hp, h⟩
def PS (fx : Nat → Int32) (pf : Nat → pO) : Prop := ∀ p, (pf p).1 = true → Pu fx (pf p).2.2 ∧ St (pf p).2.2
theorem PS_thing {fx : Nat → Int32} {f : Nat → Nat} {n : Nat} {rec : Option (Nat → pO)} (h : ∀ k, rec = some k → PS fx k) : PS fx (pThing f n rec) := by
  intro p ho
  unfold pThing at ho ⊢
  split at ho
  · rename_i k e
    have hr : rec = some k := by
      split at e
      · exact e
      · cases e
    have h1 := h k hr (p + 1)
    rcases hk : k (p + 1) with ⟨ok, p1, c⟩
    rw [hk] at h1
    simp only [hk] at ho ⊢
    cases ok with
    | false => cases ho
    | true =>
      simp only [] at ho ⊢
      split at ho
      · rename_i h2
        simp only [if_pos h2]
        exact h1 rfl
      · cases ho
  · split at ho
    · rename_i h2
      rw [if_pos h2]
      have hv := pNum_lt f n 3 p 0
      exact ⟨(Pu_num (by omega)).1, St_one (.inl (by omega))⟩
    · rename_i h2
      rw [if_neg h2]
      split at ho
      · rename_i h3
        rw [if_pos h3]
        exact ⟨(Pu_fact h3).1, St_one (.inl (by omega))⟩
      · cases ho
theorem PS_fac {fx : Nat → Int32} {f : Nat → Nat} {n : Nat} {rec : Option (Nat → pO)} (h : ∀ k, rec = some k → PS fx k) : PS fx (pFac f n rec) := by
  intro p ho
  have g := PS_thing (f := f) (n := n) h (pMin f n 40 p).1
  unfold pFac at ho ⊢
  rcases hk : pThing f n rec (pMin f n 40 p).1 with ⟨ok, p1, c⟩
  rw [hk] at g
  simp only [hk] at ho ⊢
  cases ok with
  | false => cases ho
  | true =>
    obtain ⟨g1, g2⟩ := g rfl
    simp only []
    split
    · exact ⟨g1, g2⟩
    · exact ⟨(Pu_neg g1).1, St_app g2 (St_one (.inr (.inl rfl)))⟩
theorem PS_more {fx : Nat → Int32} {f : Nat → Nat} {n a b : Nat} {part : Nat → pO} (ha : 40 < a ∧ a < 63) (hb : 40 < b ∧ b < 63) (h : PS fx part) : ∀ k (o : pO), (o.1 = true → Pu fx o.2.2 ∧ St o.2.2) → (pMore f n a b part k o).1 = true → Pu fx (pMore f n a b part k o).2.2 ∧ St (pMore f n a b part k o).2.2
  | 0, o, g, ho => g ho
  | k + 1, (false, p, c), g, ho => by cases ho
  | k + 1, (true, p, c), g, ho => by
    simp only [pMore] at ho ⊢
    by_cases s : sg f n p = a ∨ sg f n p = b
    · rw [if_pos s] at ho ⊢
      have h1 := h (p + 1)
      rcases hk : part (p + 1) with ⟨ok, p1, c1⟩
      rw [hk] at h1
      simp only [hk] at ho ⊢
      cases ok with
      | false => cases ho
      | true =>
        simp only [] at ho ⊢
        obtain ⟨h2, h3⟩ := h1 rfl
        obtain ⟨g1, g2⟩ := g rfl
        refine PS_more ha hb h k _ (fun _ => ⟨(Pu_bin g1 h2 (by omega) (by omega)).1, St_app (St_app g2 h3) (St_one (.inr (.inr (by omega))))⟩) ho
    · rw [if_neg s] at ho ⊢
      exact g rfl
theorem PS_pro {fx : Nat → Int32} {f : Nat → Nat} {n : Nat} {rec : Option (Nat → pO)} (h : ∀ k, rec = some k → PS fx k) : PS fx (pPro f n rec) := fun p ho => PS_more (by omega) (by omega) (PS_fac h) 40 _ (PS_fac h p) ho
theorem PS_sum {fx : Nat → Int32} {f : Nat → Nat} {n : Nat} {rec : Option (Nat → pO)} (h : ∀ k, rec = some k → PS fx k) : PS fx (pSum f n rec) := fun p ho => PS_more (by omega) (by omega) (PS_pro h) 40 _ (PS_pro h p) ho
theorem PS_cmp {fx : Nat → Int32} {f : Nat → Nat} {n : Nat} {rec : Option (Nat → pO)} (h : ∀ k, rec = some k → PS fx k) : PS fx (pCmp f n rec) := by
  intro p ho
  have g := PS_sum (f := f) (n := n) h p
  unfold pCmp at ho ⊢
  rcases hk : pSum f n rec p with ⟨ok, p1, c⟩
  rw [hk] at g
  simp only [hk] at ho ⊢
  cases ok with
  | false => cases ho
  | true =>
    obtain ⟨g1, g2⟩ := g rfl
    simp only [] at ho ⊢
    by_cases s : sg f n p1 = 60 ∨ sg f n p1 = 62 ∨ sg f n p1 = 61
    · rw [if_pos s] at ho ⊢
      have h1 := PS_sum (f := f) (n := n) h (p1 + 1)
      rcases hk2 : pSum f n rec (p1 + 1) with ⟨ok, p2, c2⟩
      rw [hk2] at h1
      simp only [hk2] at ho ⊢
      cases ok with
      | false => cases ho
      | true =>
        obtain ⟨h2, h3⟩ := h1 rfl
        exact ⟨(Pu_bin g1 h2 (by omega) (by omega)).1, St_app (St_app g2 h3) (St_one (.inr (.inr (by omega))))⟩
    · rw [if_neg s]
      exact ⟨g1, g2⟩
theorem PS_exp {fx : Nat → Int32} {f : Nat → Nat} {n : Nat} : ∀ r, PS fx (pExp f n r)
  | 0 => PS_cmp (fun _ h => by cases h)
  | r + 1 => PS_cmp (fun k h => by cases h; exact PS_exp r)
/-- a rule's steps -/
theorem cmp_ok {g : gT} (h : WR g) (fx : Nat → Int32) : Pu fx (cmp g) ∧ St (cmp g) ∧ (cmp g).length ≤ 40 ∧ 1 ≤ (cmp g).length := by
  obtain ⟨h1, h2, h3⟩ := h
  unfold cmp
  by_cases hz : g.1 = 0
  · rw [if_pos hz]
    refine ⟨(Pu_bin (s := 43) (Pu_fact (k := 0) (by omega)).1 (Pu_num (v := 1) (by omega)).1 (by omega) (by omega)).1, St_app (St_app (St_one (.inl (by omega))) (St_one (.inl (by omega)))) (St_one (v := 2043) (.inr (.inr (by omega)))), by decide, by decide⟩
  · rw [if_neg hz]
    rcases h3 with h3 | ⟨h3, h4⟩
    · exact absurd h3 hz
    · rw [Nat.min_eq_left h1] at h3 h4
      obtain ⟨a, b⟩ := PS_exp (fx := fx) 4 0 h3
      have gd := Gd_exp (f := g.2) (n := g.1) 4 0 (by omega)
      refine ⟨a, b, by omega, ?_⟩
      rcases hl : (pExp g.2 g.1 4 0).2.2 with _ | ⟨x, l⟩
      · exfalso
        have := a [] [nI 1]
        rw [hl] at this
        have e2 := congrArg List.length this
        simp [rn, vO] at e2
      · simp
