/-! THE CLASS RUNS STEPS -/
def Sk (r : Nat → Int32) : List Int32 → Prop
  | [] => True
  | x :: t => r t.length = x ∧ Sk r t
theorem Sk_k {r r' : Nat → Int32} : ∀ {t : List Int32}, Sk r t → (∀ j, j < t.length → r' j = r j) → Sk r' t
  | [], _, _ => trivial
  | x :: t, h, g => ⟨(g t.length (by simp)).trans h.1, Sk_k h.2 (fun j hj => g j (by simp; omega))⟩
theorem x_joined (s : Nat) (hs : 40 < s ∧ s < 63) (x y : Int32) (h : jH) : f_X8_joined 5000 (nI s) x y h = some (jnd s x y, h) := by
  simp (disch := first | omega | assumption) only [f_X8_joined, ob_, b2_, jn_, nn_lt, nn_le, nn_eq, nI_add, pk_mul, nn_su, gn_lt, gn_le, ng_lt, ng_le, ng_eq, gn_eq, gg_eq, n_m1, n_cl, if_true, if_false, if_pos, if_neg, ite_self, lt0, jnd]
  by_cases h1 : s = 42
  · subst h1; simp (disch := first | omega | assumption) only [ob_, b2_, jn_, nn_lt, nn_le, nn_eq, nI_add, pk_mul, nn_su, gn_lt, gn_le, ng_lt, ng_le, ng_eq, gn_eq, gg_eq, n_m1, n_cl, if_true, if_false, if_pos, if_neg, ite_self, lt0]
  by_cases h2 : s = 43
  · subst h2; simp (disch := first | omega | assumption) only [ob_, b2_, jn_, nn_lt, nn_le, nn_eq, nI_add, pk_mul, nn_su, gn_lt, gn_le, ng_lt, ng_le, ng_eq, gn_eq, gg_eq, n_m1, n_cl, if_true, if_false, if_pos, if_neg, ite_self, lt0]
  by_cases h3 : s = 45
  · subst h3; simp (disch := first | omega | assumption) only [ob_, b2_, jn_, nn_lt, nn_le, nn_eq, nI_add, pk_mul, nn_su, gn_lt, gn_le, ng_lt, ng_le, ng_eq, gn_eq, gg_eq, n_m1, n_cl, if_true, if_false, if_pos, if_neg, ite_self, lt0]
  by_cases h4 : s = 47
  · subst h4
    by_cases hy : y = nI 0
    · simp (disch := first | omega | assumption) only [ob_, b2_, jn_, nn_lt, nn_le, nn_eq, nI_add, pk_mul, nn_su, gn_lt, gn_le, ng_lt, ng_le, ng_eq, gn_eq, gg_eq, n_m1, n_cl, if_true, if_false, if_pos, if_neg, ite_self, lt0, hy]
    · have e : j_div x y = some (x / y) := if_neg hy
      simp (disch := first | omega | assumption) only [ob_, b2_, jn_, nn_lt, nn_le, nn_eq, nI_add, pk_mul, nn_su, gn_lt, gn_le, ng_lt, ng_le, ng_eq, gn_eq, gg_eq, n_m1, n_cl, if_true, if_false, if_pos, if_neg, ite_self, lt0, hy, e]
  by_cases h5 : s = 60
  · subst h5
    by_cases hy : x < y
    · simp (disch := first | omega | assumption) only [ob_, b2_, jn_, nn_lt, nn_le, nn_eq, nI_add, pk_mul, nn_su, gn_lt, gn_le, ng_lt, ng_le, ng_eq, gn_eq, gg_eq, n_m1, n_cl, if_true, if_false, if_pos, if_neg, ite_self, lt0, hy, i_nle hy]
    · simp (disch := first | omega | assumption) only [ob_, b2_, jn_, nn_lt, nn_le, nn_eq, nI_add, pk_mul, nn_su, gn_lt, gn_le, ng_lt, ng_le, ng_eq, gn_eq, gg_eq, n_m1, n_cl, if_true, if_false, if_pos, if_neg, ite_self, lt0, hy, i_ngt hy]
  by_cases h6 : s = 62
  · subst h6
    by_cases hy : y < x
    · simp (disch := first | omega | assumption) only [ob_, b2_, jn_, nn_lt, nn_le, nn_eq, nI_add, pk_mul, nn_su, gn_lt, gn_le, ng_lt, ng_le, ng_eq, gn_eq, gg_eq, n_m1, n_cl, if_true, if_false, if_pos, if_neg, ite_self, lt0, hy, i_nle hy]
    · simp (disch := first | omega | assumption) only [ob_, b2_, jn_, nn_lt, nn_le, nn_eq, nI_add, pk_mul, nn_su, gn_lt, gn_le, ng_lt, ng_le, ng_eq, gn_eq, gg_eq, n_m1, n_cl, if_true, if_false, if_pos, if_neg, ite_self, lt0, hy, i_ngt hy]
  simp only [if_neg h1, if_neg h2, if_neg h3, if_neg h4, if_neg h5, if_neg h6]
  split <;> rfl
theorem v_loop {q : pQ} {ρ : pP} {L : pL} {A : Nat} (hA : A = 119 ∨ A = 124) {fx : Nat → Int32} {k140 : jH → Option (Int32 × jH)} {v : Int32} : ∀ (c : List Int32) (N i : Nat) (st : List Int32) (I : pI), c.length < N → I A 4 = nI (i + c.length) → i + c.length ≤ 40 → st.length ≤ i → (∀ j, j < c.length → I (A + 2) (i + j) = c.getD j 0) → Sk (I (A + 3)) st → (∀ k, k < 7 → I (A + 4) k = fx k) → St c → rn fx c st = [v] →
    ∃ J, f_X8_value_L4 5000 A k140 N (nI st.length) (nI i) (hp q ρ L I) = k140 (hp q ρ L J) ∧ J (A + 3) 0 = v ∧ ∀ b, b ≠ A + 3 → J b = I b
  | _, 0, _, _, _, h, _, _, _, _, _, _, _, _ => absurd h (Nat.not_lt_zero _)
  | [], N + 1, i, st, I, h1, h2, h3, h4, h5, h6, h7, h8, h9 => by
    simp only [List.length_nil, Nat.add_zero] at h2 h3
    simp only [rn] at h9
    subst h9
    refine ⟨I, ?_, h6.1, fun _ _ => rfl⟩
    simp (disch := first | omega | assumption) only [f_X8_value_L4, kT hA, ob_, b2_, jn_, nn_lt, nn_le, nn_eq, nI_add, pk_mul, nn_su, gn_lt, gn_le, ng_lt, ng_le, ng_eq, gn_eq, gg_eq, n_m1, n_cl, if_true, if_false, if_pos, if_neg, ite_self, lt0, h2, Nat.le_refl]
  | p :: c, N + 1, i, st, I, h1, h2, h3, h4, h5, h6, h7, h8, h9 => by
    simp only [List.length_cons] at h1 h2 h3
    obtain ⟨w, rfl, hw⟩ := h8 p List.mem_cons_self
    have hs : I (A + 2) i = nI w := h5 0 (by simp)
    have h8' : St c := fun p hp => h8 p (List.mem_cons_of_mem _ hp)
    have h5' : ∀ (J : pI), J (A + 2) = I (A + 2) → ∀ j, j < c.length → J (A + 2) (i + 1 + j) = c.getD j 0 := by
      intro J e j hj
      rw [e, show i + 1 + j = i + (j + 1) by omega, h5 (j + 1) (by simp; omega)]
      rfl
    rw [f_X8_value_L4]
    by_cases g1 : w < 1007
    · rw [rn_p (by rw [nn_lt (by omega) (by omega)]; omega)] at h9
      obtain ⟨J, e1, e2, e3⟩ := v_loop (q := q) (ρ := ρ) (L := L) hA (k140 := k140) c N (i + 1) ((if nI w < nI 1000 then nI w else fx ((nI w).toNatClampNeg - 1000)) :: st) (j_up I (A + 3) st.length (if nI w < nI 1000 then nI w else fx ((nI w).toNatClampNeg - 1000))) (by omega) (by rw [up_ne (by omega), h2]; congr 1; omega) (by omega) (by simp; omega) (h5' _ (up_ne (by omega))) ⟨up_eq, Sk_k h6 (fun j hj => up_nk (by omega))⟩ (fun k hk => by rw [up_ne (by omega)]; exact h7 k hk) h8' h9
      refine ⟨J, ?_, e2, fun b hb => (e3 b hb).trans (up_ne hb)⟩
      rw [← e1]
      by_cases g2 : w < 1000
      · simp (disch := first | omega | assumption) only [kT hA, ob_, b2_, jn_, nn_lt, nn_le, nn_eq, nI_add, pk_mul, nn_su, gn_lt, gn_le, ng_lt, ng_le, ng_eq, gn_eq, gg_eq, n_m1, n_cl, if_true, if_false, if_pos, if_neg, ite_self, lt0, h2, hs, List.length_cons]
      · simp (disch := first | omega | assumption) only [kT hA, ob_, b2_, jn_, nn_lt, nn_le, nn_eq, nI_add, pk_mul, nn_su, gn_lt, gn_le, ng_lt, ng_le, ng_eq, gn_eq, gg_eq, n_m1, n_cl, if_true, if_false, if_pos, if_neg, ite_self, lt0, h2, hs, List.length_cons, h7]
    · by_cases g2 : w = 2000
      · subst g2
        match st, h4, h6, h9 with
        | [], _, _, h9 => 
          rw [rn.eq_def] at h9
          simp (disch := first | omega | assumption) only [nn_lt, if_neg, if_true] at h9
          cases h9
        | x :: t, h4, h6, h9 =>
          simp only [List.length_cons] at h4
          have h9' : rn fx c (-x :: t) = [v] := by
            rw [rn.eq_def] at h9
            simp (disch := first | omega | assumption) only [nn_lt, if_neg, if_true] at h9
            exact h9
          obtain ⟨J, e1, e2, e3⟩ := v_loop (q := q) (ρ := ρ) (L := L) hA (k140 := k140) c N (i + 1) (-x :: t) (j_up I (A + 3) t.length (-x)) (by omega) (by rw [up_ne (by omega), h2]; congr 1; omega) (by omega) (by simp; omega) (h5' _ (up_ne (by omega))) ⟨up_eq, Sk_k h6.2 (fun j hj => up_nk (by omega))⟩ (fun k hk => by rw [up_ne (by omega)]; exact h7 k hk) h8' h9'
          refine ⟨J, ?_, e2, fun b hb => (e3 b hb).trans (up_ne hb)⟩
          rw [← e1]
          have h61 := h6.1
          simp (disch := first | omega | assumption) only [kT hA, ob_, b2_, jn_, nn_lt, nn_le, nn_eq, nI_add, pk_mul, nn_su, gn_lt, gn_le, ng_lt, ng_le, ng_eq, gn_eq, gg_eq, n_m1, n_cl, if_true, if_false, if_pos, if_neg, ite_self, lt0, h2, hs, List.length_cons, Nat.add_sub_cancel, h61]
      · match st, h4, h6, h9 with
        | [], _, _, h9 =>
          rw [rn.eq_def] at h9
          simp (disch := first | omega | assumption) only [nn_lt, nn_eq, if_neg] at h9
          cases h9
        | [x], _, _, h9 =>
          rw [rn.eq_def] at h9
          simp (disch := first | omega | assumption) only [nn_lt, nn_eq, if_neg] at h9
          cases h9
        | y :: x :: t, h4, h6, h9 =>
          simp only [List.length_cons] at h4
          have h9' : rn fx c (jnd (w - 2000) x y :: t) = [v] := by
            rw [rn.eq_def] at h9
            simp (disch := first | omega | assumption) only [nn_lt, nn_eq, if_neg, n_cl] at h9
            exact h9
          obtain ⟨J, e1, e2, e3⟩ := v_loop (q := q) (ρ := ρ) (L := L) hA (k140 := k140) c N (i + 1) (jnd (w - 2000) x y :: t) (j_up I (A + 3) t.length (jnd (w - 2000) x y)) (by omega) (by rw [up_ne (by omega), h2]; congr 1; omega) (by omega) (by simp; omega) (h5' _ (up_ne (by omega))) ⟨up_eq, Sk_k h6.2.2 (fun j hj => up_nk (by omega))⟩ (fun k hk => by rw [up_ne (by omega)]; exact h7 k hk) h8' h9'
          refine ⟨J, ?_, e2, fun b hb => (e3 b hb).trans (up_ne hb)⟩
          rw [← e1]
          have h61 := h6.1
          have h62 := h6.2.1
          simp only [List.length_cons] at h61
          simp (disch := first | omega | assumption) only [kT hA, ob_, b2_, jn_, nn_lt, nn_le, nn_eq, nI_add, pk_mul, nn_su, gn_lt, gn_le, ng_lt, ng_le, ng_eq, gn_eq, gg_eq, n_m1, n_cl, if_true, if_false, if_pos, if_neg, ite_self, lt0, h2, hs, List.length_cons, Nat.add_sub_cancel, h61, h62, x_joined]
/-- a tariff that holds steps c -/
def Tf (A : Nat) (c : List Int32) (I : pI) : Prop := I A 4 = nI c.length ∧ ∀ i, i < c.length → I (A + 2) i = c.getD i 0
theorem Tf_k {A : Nat} {c : List Int32} {I J : pI} (h : Tf A c I) (e1 : J A 4 = I A 4) (e2 : J (A + 2) = I (A + 2)) : Tf A c J := by
  unfold Tf
  rw [e1, e2]
  exact h
/-- steps that may be run -/
def Cok (c : List Int32) : Prop := (∀ fx, Pu fx c) ∧ St c ∧ c.length ≤ 40 ∧ 1 ≤ c.length
theorem cmp_cok {g : gT} (h : WR g) : Cok (cmp g) := ⟨fun fx => (cmp_ok h fx).1, (cmp_ok h (fun _ => 0)).2.1, (cmp_ok h (fun _ => 0)).2.2.1, (cmp_ok h (fun _ => 0)).2.2.2⟩
theorem x_value {q : pQ} {ρ : pP} {L : pL} {I : pI} {A : Nat} {c : List Int32} {fx : Nat → Int32} (hA : A = 119 ∨ A = 124) (hT : Tf A c I) (hc : Cok c) (hf : ∀ k, k < 7 → I (A + 4) k = fx k) : ∃ J, f_X8_value 5000 A (hp q ρ L I) = some (vO fx c, hp q ρ L J) ∧ ∀ b, b ≠ A + 3 → J b = I b := by
  obtain ⟨hP, hS, h40, _⟩ := hc
  have hr : rn fx c [] = [vO fx c] := by
    have := hP fx [] []
    rw [List.append_nil] at this
    exact this
  obtain ⟨J, e1, e2, e3⟩ := v_loop (q := q) (ρ := ρ) (L := L) hA (k140 := fun (h28 : jH) => (jg_R 8 2 h28 A).bind (fun v29 => (ja_I 100 h28 v29 (nI 0)).bind (fun v30 => some (v30, h28)))) c 5000 0 [] I (by omega) (by rw [hT.1, Nat.zero_add]) (by omega) (by simp) (fun j hj => by rw [Nat.zero_add]; exact hT.2 j hj) trivial hf hS hr
  refine ⟨J, ?_, e3⟩
  have e0 : f_X8_value 5000 A (hp q ρ L I) = f_X8_value_L4 5000 A (fun (h28 : jH) => (jg_R 8 2 h28 A).bind (fun v29 => (ja_I 100 h28 v29 (nI 0)).bind (fun v30 => some (v30, h28)))) 5000 (nI 0) (nI 0) (hp q ρ L I) := by
    simp only [f_X8_value, kT hA, lt0]
  rw [e0]
  rw [show ([] : List Int32).length = 0 from rfl] at e1
  rw [e1]
  simp (disch := first | omega | assumption) only [kT hA, ob_, b2_, jn_, nn_lt, nn_le, nn_eq, nI_add, pk_mul, nn_su, gn_lt, gn_le, ng_lt, ng_le, ng_eq, gn_eq, gg_eq, n_m1, n_cl, if_true, if_false, if_pos, if_neg, ite_self, lt0, e2]
theorem x_between (x : Int32) (h : jH) : f_X10_between 5000 x (nI 99) h = some (nI (cl99 x), h) := by
  by_cases h0 : x < nI 0
  · have hx : x.toNatClampNeg = 0 := by
      rw [Int32.lt_iff_toInt_lt, n_ti (by omega)] at h0
      show x.toInt.toNat = 0
      omega
    simp only [f_X10_between, lt0, i_nle h0, if_false, cl99, hx]
    rfl
  · obtain ⟨j, hj, rfl⟩ := c_lt0 h0
    by_cases h1 : 99 < j
    · simp (disch := first | omega | assumption) only [f_X10_between, ob_, b2_, jn_, nn_lt, nn_le, nn_eq, nI_add, pk_mul, nn_su, gn_lt, gn_le, ng_lt, ng_le, ng_eq, gn_eq, gg_eq, n_m1, n_cl, if_true, if_false, if_pos, if_neg, ite_self, lt0, j_min, cl99, Nat.min_eq_left, Nat.zero_le]
    · simp (disch := first | omega | assumption) only [f_X10_between, ob_, b2_, jn_, nn_lt, nn_le, nn_eq, nI_add, pk_mul, nn_su, gn_lt, gn_le, ng_lt, ng_le, ng_eq, gn_eq, gg_eq, n_m1, n_cl, if_true, if_false, if_pos, if_neg, ite_self, lt0, j_min, cl99, Nat.min_eq_right, Nat.zero_le]
theorem x_vowelOf (c : Nat) (hc : c < 26) (h : jH) : f_X3_vowelOf 5000 (nI (97 + c)) h = some (if vo c < 5 then nI (vo c) else -nI 1, h) := by
  simp (disch := first | omega | assumption) only [f_X3_vowelOf, ob_, b2_, jn_, nn_lt, nn_le, nn_eq, nI_add, pk_mul, nn_su, gn_lt, gn_le, ng_lt, ng_le, ng_eq, gn_eq, gg_eq, n_m1, n_cl, if_true, if_false, if_pos, if_neg, ite_self, lt0, vo]
  by_cases h1 : c = 0
  · subst h1; simp (disch := first | omega | assumption) only [ob_, b2_, jn_, nn_lt, nn_le, nn_eq, nI_add, pk_mul, nn_su, gn_lt, gn_le, ng_lt, ng_le, ng_eq, gn_eq, gg_eq, n_m1, n_cl, if_true, if_false, if_pos, if_neg, ite_self, lt0]
  by_cases h2 : c = 4
  · subst h2; simp (disch := first | omega | assumption) only [ob_, b2_, jn_, nn_lt, nn_le, nn_eq, nI_add, pk_mul, nn_su, gn_lt, gn_le, ng_lt, ng_le, ng_eq, gn_eq, gg_eq, n_m1, n_cl, if_true, if_false, if_pos, if_neg, ite_self, lt0]
  by_cases h3 : c = 8
  · subst h3; simp (disch := first | omega | assumption) only [ob_, b2_, jn_, nn_lt, nn_le, nn_eq, nI_add, pk_mul, nn_su, gn_lt, gn_le, ng_lt, ng_le, ng_eq, gn_eq, gg_eq, n_m1, n_cl, if_true, if_false, if_pos, if_neg, ite_self, lt0]
  by_cases h4 : c = 14
  · subst h4; simp (disch := first | omega | assumption) only [ob_, b2_, jn_, nn_lt, nn_le, nn_eq, nI_add, pk_mul, nn_su, gn_lt, gn_le, ng_lt, ng_le, ng_eq, gn_eq, gg_eq, n_m1, n_cl, if_true, if_false, if_pos, if_neg, ite_self, lt0]
  by_cases h5 : c = 20
  · subst h5; simp (disch := first | omega | assumption) only [ob_, b2_, jn_, nn_lt, nn_le, nn_eq, nI_add, pk_mul, nn_su, gn_lt, gn_le, ng_lt, ng_le, ng_eq, gn_eq, gg_eq, n_m1, n_cl, if_true, if_false, if_pos, if_neg, ite_self, lt0]
  simp (disch := first | omega | assumption) only [ob_, b2_, jn_, nn_lt, nn_le, nn_eq, nI_add, pk_mul, nn_su, gn_lt, gn_le, ng_lt, ng_le, ng_eq, gn_eq, gg_eq, n_m1, n_cl, if_true, if_false, if_pos, if_neg, ite_self, lt0]
