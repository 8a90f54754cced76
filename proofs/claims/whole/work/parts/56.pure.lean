/-! HOW WORDS DIFFER -/
def lvR (a b p : Nat → Nat) (i : Nat) : Nat → Nat
  | 0 => i + 1
  | j + 1 => min (p j + (if a i = b j then 0 else 1)) (min (p (j + 1)) (lvR a b p i j) + 1)
def lev (a b : Nat → Nat) : Nat → Nat → Nat
  | 0 => fun j => j
  | i + 1 => lvR a b (lev a b i) i
theorem lev_00 {a b : Nat → Nat} {j : Nat} : lev a b 0 j = j := rfl
theorem lev_s0 {a b : Nat → Nat} : ∀ i, lev a b i 0 = i
  | 0 => rfl
  | i + 1 => rfl
theorem lev_ss {a b : Nat → Nat} {i j : Nat} : lev a b (i + 1) (j + 1) = min (lev a b i j + (if a i = b j then 0 else 1)) (min (lev a b i (j + 1)) (lev a b (i + 1) j) + 1) := rfl
theorem lev_le {a b : Nat → Nat} : ∀ i j, lev a b i j ≤ i + j
  | 0, j => by rw [lev_00]; omega
  | i + 1, 0 => by rw [lev_s0]; omega
  | i + 1, j + 1 => by
    rw [lev_ss]
    have := lev_le (a := a) (b := b) i (j + 1)
    have := Nat.min_le_left (lev a b i (j + 1)) (lev a b (i + 1) j)
    have := Nat.min_le_right (lev a b i j + (if a i = b j then 0 else 1)) (min (lev a b i (j + 1)) (lev a b (i + 1) j) + 1)
    omega
/-- letters that are kept: all, or the vowels -/
def spS (l : Nat → Nat) (v : Bool) (k : Nat) (s : Nat × (Nat → Nat)) : Nat × (Nat → Nat) := bif !v || decide (vo (l k) < 5) then (s.1 + 1, fun i => if i = s.1 then l k else s.2 i) else s
def spl (l : Nat → Nat) (v : Bool) (n : Nat) : Nat × (Nat → Nat) := fo (spS l v) 0 n (0, fun _ => 0)
theorem spl_s {l : Nat → Nat} {v : Bool} {n : Nat} : spl l v (n + 1) = spS l v n (spl l v n) := by
  unfold spl
  rw [fo_last, Nat.zero_add]
theorem spl_le {l : Nat → Nat} {v : Bool} : ∀ n, (spl l v n).1 ≤ n
  | 0 => Nat.le_refl 0
  | n + 1 => by
    have := spl_le (l := l) (v := v) n
    rw [spl_s]
    unfold spS
    cases (!v || decide (vo (l n) < 5)) with
    | true => simp only [cond_true]; omega
    | false => simp only [cond_false]; omega
theorem spl_lt {l : Nat → Nat} {v : Bool} : ∀ n, (∀ k, k < n → l k < 26) → ∀ i, (spl l v n).2 i < 26
  | 0, _, i => by show 0 < 26; omega
  | n + 1, h, i => by
    have ih := spl_lt (l := l) (v := v) n (fun k hk => h k (by omega)) i
    rw [spl_s]
    unfold spS
    cases (!v || decide (vo (l n) < 5)) with
    | true =>
      show (if i = (spl l v n).1 then l n else (spl l v n).2 i) < 26
      split
      · exact h n (by omega)
      · exact ih
    | false => exact ih
theorem x_letter {q : pQ} {ρ : pP} {L : pL} {I : pI} {g : gL} {w k : Nat} (hL : XL g I) (hg : WL g) (hw : w < lxW g) (hk : k < lxN g w) : f_X3_letter 5000 5 (nI w) (nI k) (hp q ρ L I) = some (nI (97 + lxL g w k), hp q ρ L I) := by
  obtain ⟨⟨h6, h7, h8, h11⟩, h9, h10⟩ := hL.2 w hw
  obtain ⟨⟨n1, n6⟩, hl, hma, hmb⟩ := hg.2 w hw
  have hW := hg.1
  simp (disch := first | omega | assumption) only [f_X3_letter, kX, kXA, ob_, b2_, jn_, nn_lt, nn_le, nn_eq, nI_add, pk_mul, nn_su, gn_lt, gn_le, ng_lt, ng_le, ng_eq, gn_eq, gg_eq, n_m1, n_cl, if_true, if_false, if_pos, if_neg, ite_self, lt0, h9]
theorem x_spell {q : pQ} {ρ : pP} {L : pL} {I : pI} {g : gL} {w B : Nat} {v : Bool} (hB : B = 104 ∨ B = 105) (hL : XL g I) (hg : WL g) (hw : w < lxW g) : ∃ J, f_X0_spell 5000 5 (nI w) B (bo v) (hp q ρ L I) = some (nI (spl (lxL g w) v (lxN g w)).1, hp q ρ L J) ∧ (∀ i, i < (spl (lxL g w) v (lxN g w)).1 → J B i = nI (97 + (spl (lxL g w) v (lxN g w)).2 i)) ∧ ∀ b, b ≠ B → J b = I b := by
  obtain ⟨⟨n1, n6⟩, hl, hma, hmb⟩ := hg.2 w hw
  have hW := hg.1
  have hBj : ∀ (I : pI) j x, j < 6 → jb_I 100 (hp q ρ L I) B (nI j) x = some (hp q ρ L (j_up I B j x)) := by
    intro I j x hj
    rcases hB with rfl | rfl <;> exact hb_I rfl rfl rfl hj
  obtain ⟨⟨m, J⟩, e1, e2, e3, e4⟩ := loE (fun n (y : Nat × pI) j => f_X0_spell_L6 5000 5 (nI w) B (bo v) n (nI y.1) (nI j) (hp q ρ L y.2)) (fun y => some (nI y.1, hp q ρ L y.2)) (lxN g w) (fun j y => y.1 = (spl (lxL g w) v j).1 ∧ (∀ i, i < (spl (lxL g w) v j).1 → y.2 B i = nI (97 + (spl (lxL g w) v j).2 i)) ∧ ∀ b, b ≠ B → y.2 b = I b) (by
    rintro n ⟨m, J⟩ ⟨p1, p2, p3⟩
    simp only [] at p1 p2 p3 ⊢
    have e6 : J 6 w = nI (lxN g w) := by rw [p3 6 (by omega)]; exact (hL.2 w hw).1.1
    rw [f_X0_spell_L6]
    simp (disch := first | omega | assumption) only [↓bX, ↓bXA, ↓jn_, ↓ob_, ↓b2_, ↓reduceIte, nn_lt, nn_le, nn_eq, nI_add, pk_mul, nn_su, gn_lt, gn_le, ng_lt, ng_le, ng_eq, gn_eq, gg_eq, n_m1, n_cl, if_true, if_false, if_pos, if_neg, lt0, e6, Nat.le_refl]) (by
    rintro n ⟨m, J⟩ j hj ⟨p1, p2, p3⟩
    simp only [] at p1 p2 p3
    have hL' : XL g J := XL_k (fun b _ _ => p3 b (by omega)) hL
    have e6 : J 6 w = nI (lxN g w) := (hL'.2 w hw).1.1
    have hle := x_letter (q := q) (ρ := ρ) (L := L) hL' hg hw hj
    have hlj := hl j hj
    have hvo := x_vowelOf (lxL g w j) hlj (hp q ρ L J)
    have hm := spl_le (l := lxL g w) (v := v) j
    rw [← p1] at hm
    have put : ∀ c, c = true → (!v || decide (vo (lxL g w j) < 5)) = c → (∀ i, i < (spl (lxL g w) v (j + 1)).1 → j_up J B m (nI (97 + lxL g w j)) B i = nI (97 + (spl (lxL g w) v (j + 1)).2 i)) ∧ m + 1 = (spl (lxL g w) v (j + 1)).1 := by
      intro c hc hcc
      rw [hc] at hcc
      have es : spl (lxL g w) v (j + 1) = ((spl (lxL g w) v j).1 + 1, fun i => if i = (spl (lxL g w) v j).1 then lxL g w j else (spl (lxL g w) v j).2 i) := by
        rw [spl_s]
        unfold spS
        rw [hcc]
        rfl
      rw [es]
      simp only [← p1]
      refine ⟨fun i hi => ?_, trivial⟩
      by_cases h : i = m
      · subst h
        rw [up_eq, if_pos rfl]
      · rw [up_nk h, if_neg h]
        exact p2 i (by omega)
    cases v with
    | false =>
      obtain ⟨q1, q2⟩ := put true rfl (by simp)
      refine ⟨(m + 1, j_up J B m (nI (97 + lxL g w j))), ?_, q2, q1, fun b hb => (up_ne hb).trans (p3 b hb)⟩
      simp only [bo_f]
      rw [f_X0_spell_L6]
      simp (disch := first | omega | assumption) only [↓bX, ↓bXA, ↓jn_, ↓ob_, ↓b2_, ↓reduceIte, nn_lt, nn_le, nn_eq, nI_add, pk_mul, nn_su, gn_lt, gn_le, ng_lt, ng_le, ng_eq, gn_eq, gg_eq, n_m1, n_cl, if_true, if_false, if_pos, if_neg, lt0, e6, ↓b2e hle, hBj]
    | true =>
      by_cases hv : vo (lxL g w j) < 5
      · obtain ⟨q1, q2⟩ := put true rfl (by simp [hv])
        rw [if_pos hv] at hvo
        refine ⟨(m + 1, j_up J B m (nI (97 + lxL g w j))), ?_, q2, q1, fun b hb => (up_ne hb).trans (p3 b hb)⟩
        simp only [bo_t]
        rw [f_X0_spell_L6]
        simp (disch := first | omega | assumption) only [↓bX, ↓bXA, ↓jn_, ↓ob_, ↓b2_, ↓reduceIte, nn_lt, nn_le, nn_eq, nI_add, pk_mul, nn_su, gn_lt, gn_le, ng_lt, ng_le, ng_eq, gn_eq, gg_eq, n_m1, n_cl, if_true, if_false, if_pos, if_neg, lt0, e6, ↓b2e hle, ↓b2e hvo, hBj]
      · have es : spl (lxL g w) true (j + 1) = spl (lxL g w) true j := by
          rw [spl_s]
          unfold spS
          simp [hv]
        rw [if_neg hv] at hvo
        refine ⟨(m, J), ?_, by rw [es]; exact p1, by rw [es]; exact p2, p3⟩
        simp only [bo_t]
        rw [f_X0_spell_L6]
        simp (disch := first | omega | assumption) only [↓bX, ↓bXA, ↓jn_, ↓ob_, ↓b2_, ↓reduceIte, nn_lt, nn_le, nn_eq, nI_add, pk_mul, nn_su, gn_lt, gn_le, ng_lt, ng_le, ng_eq, gn_eq, gg_eq, n_m1, n_cl, if_true, if_false, if_pos, if_neg, lt0, e6, ↓b2e hle, ↓b2e hvo]) (lxN g w) 5000 (0, I) 0 (by omega) (by omega) ⟨rfl, fun i hi => absurd hi (Nat.not_lt_zero i), fun b _ => rfl⟩
  simp only [] at e1 e2 e3 e4
  refine ⟨J, ?_, e3, e4⟩
  rw [← e2]
  exact e1
theorem m_spell {q : pQ} {ρ : pP} {L : pL} {I : pI} {g : gL} {w B : Nat} {v : Bool} (hB : B = 148 ∨ B = 149) (hL : ML g I) (hg : WL g) (hw : w < lxW g) : ∃ J, f_X11_layWord 5000 129 (nI w) B (bo v) (hp q ρ L I) = some (nI (spl (lxL g w) v (lxN g w)).1, hp q ρ L J) ∧ (∀ i, i < (spl (lxL g w) v (lxN g w)).1 → J B i = nI ((spl (lxL g w) v (lxN g w)).2 i)) ∧ ∀ b, b ≠ B → J b = I b := by
  obtain ⟨⟨n1, n6⟩, hl, hma, hmb⟩ := hg.2 w hw
  have hW := hg.1
  have hBj : ∀ (I : pI) j x, j < 6 → jb_I 100 (hp q ρ L I) B (nI j) x = some (hp q ρ L (j_up I B j x)) := by
    intro I j x hj
    rcases hB with rfl | rfl <;> exact hb_I rfl rfl rfl hj
  obtain ⟨⟨m, J⟩, e1, e2, e3, e4⟩ := loE (fun n (y : Nat × pI) j => f_X11_layWord_L6 5000 129 (nI w) B (bo v) n (nI y.1) (nI j) (hp q ρ L y.2)) (fun y => some (nI y.1, hp q ρ L y.2)) (lxN g w) (fun j y => y.1 = (spl (lxL g w) v j).1 ∧ (∀ i, i < (spl (lxL g w) v j).1 → y.2 B i = nI ((spl (lxL g w) v j).2 i)) ∧ ∀ b, b ≠ B → y.2 b = I b) (by
    rintro n ⟨m, J⟩ ⟨p1, p2, p3⟩
    simp only [] at p1 p2 p3 ⊢
    have e6 : J 132 w = nI (lxN g w) := by rw [p3 132 (by omega)]; exact (hL.2 w hw).1.1
    rw [f_X11_layWord_L6]
    simp (disch := first | omega | assumption) only [↓bM, ↓bMA, ↓jn_, ↓ob_, ↓b2_, ↓reduceIte, nn_lt, nn_le, nn_eq, nI_add, pk_mul, nn_su, gn_lt, gn_le, ng_lt, ng_le, ng_eq, gn_eq, gg_eq, n_m1, n_cl, if_true, if_false, if_pos, if_neg, lt0, e6, Nat.le_refl]) (by
    rintro n ⟨m, J⟩ j hj ⟨p1, p2, p3⟩
    simp only [] at p1 p2 p3
    have hL' : ML g J := ML_k (by rw [p3 129 (by omega)]) (p3 131 (by omega)) (p3 132 (by omega)) (p3 133 (by omega)) hL
    have e6 : J 132 w = nI (lxN g w) := (hL'.2 w hw).1.1
    have hle := m_letter1 (q := q) (ρ := ρ) (L := L) hL' hg hw hj
    have hlj := hl j hj
    have hvo := m_vowelOf (lxL g w j) hlj (hp q ρ L J)
    have hm := spl_le (l := lxL g w) (v := v) j
    rw [← p1] at hm
    have put : ∀ c, c = true → (!v || decide (vo (lxL g w j) < 5)) = c → (∀ i, i < (spl (lxL g w) v (j + 1)).1 → j_up J B m (nI (lxL g w j)) B i = nI ((spl (lxL g w) v (j + 1)).2 i)) ∧ m + 1 = (spl (lxL g w) v (j + 1)).1 := by
      intro c hc hcc
      rw [hc] at hcc
      have es : spl (lxL g w) v (j + 1) = ((spl (lxL g w) v j).1 + 1, fun i => if i = (spl (lxL g w) v j).1 then lxL g w j else (spl (lxL g w) v j).2 i) := by
        rw [spl_s]
        unfold spS
        rw [hcc]
        rfl
      rw [es]
      simp only [← p1]
      refine ⟨fun i hi => ?_, trivial⟩
      by_cases h : i = m
      · subst h
        rw [up_eq, if_pos rfl]
      · rw [up_nk h, if_neg h]
        exact p2 i (by omega)
    cases v with
    | false =>
      obtain ⟨q1, q2⟩ := put true rfl (by simp)
      refine ⟨(m + 1, j_up J B m (nI (lxL g w j))), ?_, q2, q1, fun b hb => (up_ne hb).trans (p3 b hb)⟩
      simp only [bo_f]
      rw [f_X11_layWord_L6]
      simp (disch := first | omega | assumption) only [↓bM, ↓bMA, ↓jn_, ↓ob_, ↓b2_, ↓reduceIte, nn_lt, nn_le, nn_eq, nI_add, pk_mul, nn_su, gn_lt, gn_le, ng_lt, ng_le, ng_eq, gn_eq, gg_eq, n_m1, n_cl, if_true, if_false, if_pos, if_neg, lt0, e6, ↓b2e hle, hBj]
    | true =>
      by_cases hv : vo (lxL g w j) < 5
      · obtain ⟨q1, q2⟩ := put true rfl (by simp [hv])
        rw [if_pos hv] at hvo
        refine ⟨(m + 1, j_up J B m (nI (lxL g w j))), ?_, q2, q1, fun b hb => (up_ne hb).trans (p3 b hb)⟩
        simp only [bo_t]
        rw [f_X11_layWord_L6]
        simp (disch := first | omega | assumption) only [↓bM, ↓bMA, ↓jn_, ↓ob_, ↓b2_, ↓reduceIte, nn_lt, nn_le, nn_eq, nI_add, pk_mul, nn_su, gn_lt, gn_le, ng_lt, ng_le, ng_eq, gn_eq, gg_eq, n_m1, n_cl, if_true, if_false, if_pos, if_neg, lt0, e6, ↓b2e hle, ↓b2e hvo, hBj]
      · have es : spl (lxL g w) true (j + 1) = spl (lxL g w) true j := by
          rw [spl_s]
          unfold spS
          simp [hv]
        rw [if_neg hv] at hvo
        refine ⟨(m, J), ?_, by rw [es]; exact p1, by rw [es]; exact p2, p3⟩
        simp only [bo_t]
        rw [f_X11_layWord_L6]
        simp (disch := first | omega | assumption) only [↓bM, ↓bMA, ↓jn_, ↓ob_, ↓b2_, ↓reduceIte, nn_lt, nn_le, nn_eq, nI_add, pk_mul, nn_su, gn_lt, gn_le, ng_lt, ng_le, ng_eq, gn_eq, gg_eq, n_m1, n_cl, if_true, if_false, if_pos, if_neg, lt0, e6, ↓b2e hle, ↓b2e hvo]) (lxN g w) 5000 (0, I) 0 (by omega) (by omega) ⟨rfl, fun i hi => absurd hi (Nat.not_lt_zero i), fun b _ => rfl⟩
  simp only [] at e1 e2 e3 e4
  refine ⟨J, ?_, e3, e4⟩
  rw [← e2]
  simp only [f_X11_layWord, kM, lt0]
  exact e1
theorem x_few {q : pQ} {ρ : pP} {L : pL} {I : pI} {a b : Nat → Nat} {m n : Nat} (hm : m ≤ 6) (hn : n ≤ 6) (ha : ∀ i, i < m → I 104 i = nI (97 + a i)) (hb : ∀ i, i < n → I 105 i = nI (97 + b i)) (la : ∀ i, a i < 26) (lb : ∀ i, b i < 26) : ∃ J, f_X0_fewest 5000 103 (nI m) (nI n) (hp q ρ L I) = some (nI (lev a b m n), hp q ρ L J) ∧ ∀ c, c ≠ 106 → J c = I c := by
  -- the inner loop
  have inner : ∀ (J0 : pI) (i : Nat), i < m → (∀ c, c ≠ 106 → J0 c = I c) → (J0 106 0 = nI (i + 1)) → (∀ j, 1 ≤ j → j ≤ n → J0 106 j = nI (lev a b i j)) → ∀ kk : jH → Option (Int32 × jH), ∃ J, f_X0_fewest_L45 5000 103 (nI m) (nI n) (nI (i + 1)) kk 5000 (nI (lev a b i 0)) (nI 1) (hp q ρ L J0) = kk (hp q ρ L J) ∧ (∀ c, c ≠ 106 → J c = I c) ∧ ∀ j, j ≤ n → J 106 j = nI (lev a b (i + 1) j) := by
    intro J0 i hi h0 h1 h2 kk
    obtain ⟨J, e1, e0, e2, e3, e4⟩ := loE (fun k (J : pI) j => f_X0_fewest_L45 5000 103 (nI m) (nI n) (nI (i + 1)) kk k (nI (lev a b i (j - 1))) (nI j) (hp q ρ L J)) (fun J => kk (hp q ρ L J)) (n + 1) (fun j J => 1 ≤ j ∧ (∀ c, c ≠ 106 → J c = I c) ∧ (∀ k, k < j → J 106 k = nI (lev a b (i + 1) k)) ∧ ∀ k, j ≤ k → k ≤ n → J 106 k = nI (lev a b i k)) (by
      intro k J p
      rw [f_X0_fewest_L45]
      simp (disch := first | omega | assumption) only [↓bX, ↓bXA, ↓jn_, ↓ob_, ↓b2_, ↓reduceIte, nn_lt, nn_le, nn_eq, nI_add, pk_mul, nn_su, gn_lt, gn_le, ng_lt, ng_le, ng_eq, gn_eq, gg_eq, n_m1, n_cl, if_true, if_false, if_pos, if_neg, lt0]) (by
      rintro k J j hj ⟨p0, p1, p2, p3⟩
      obtain ⟨t, rfl⟩ : ∃ t, j = t + 1 := ⟨j - 1, by omega⟩
      have e104 : J 104 i = nI (97 + a i) := by rw [p1 104 (by omega)]; exact ha i hi
      have e105 : J 105 t = nI (97 + b t) := by rw [p1 105 (by omega)]; exact hb t (by omega)
      have l1 := p3 (t + 1) (Nat.le_refl _) (by omega)
      have l2 := p2 t (by omega)
      have b1 := lev_le (a := a) (b := b) i t
      have b2 := lev_le (a := a) (b := b) i (t + 1)
      have b3 := lev_le (a := a) (b := b) (i + 1) t
      have la' := la i
      have lb' := lb t
      refine ⟨j_up J 106 (t + 1) (nI (lev a b (i + 1) (t + 1))), ?_, by omega, fun c hc => (up_ne hc).trans (p1 c hc), fun k hk => ?_, fun k h1 h2 => by rw [up_nk (by omega)]; exact p3 k (by omega) h2⟩
      · rw [f_X0_fewest_L45, lev_ss]
        by_cases hab : a i = b t
        · simp (disch := first | omega | assumption) only [↓bX, ↓bXA, ↓jn_, ↓ob_, ↓b2_, ↓reduceIte, nn_lt, nn_le, nn_eq, nI_add, pk_mul, nn_su, gn_lt, gn_le, ng_lt, ng_le, ng_eq, gn_eq, gg_eq, n_m1, n_cl, if_true, if_false, if_pos, if_neg, lt0, Nat.add_sub_cancel, e104, e105, hab, l1, l2, jmin_nn]
        · simp (disch := first | omega | assumption) only [↓bX, ↓bXA, ↓jn_, ↓ob_, ↓b2_, ↓reduceIte, nn_lt, nn_le, nn_eq, nI_add, pk_mul, nn_su, gn_lt, gn_le, ng_lt, ng_le, ng_eq, gn_eq, gg_eq, n_m1, n_cl, if_true, if_false, if_pos, if_neg, lt0, Nat.add_sub_cancel, e104, e105, l1, l2, jmin_nn, if_neg hab]
      · by_cases h : k = t + 1
        · subst h; exact up_eq
        · rw [up_nk h]; exact p2 k (by omega)) n 5000 J0 1 (by omega) (by omega) ⟨Nat.le_refl 1, h0, fun k hk => by
          have : k = 0 := by omega
          subst this
          rw [lev_s0]; exact h1, h2⟩
    exact ⟨J, e1, e2, fun j hj => e3 j (by omega)⟩
  -- the first line
  obtain ⟨J1, i1, i0, i2⟩ := loE (fun k (J : pI) j => f_X0_fewest_L2 5000 103 (nI m) (nI n) (fun (h3 : jH) =>
      f_X0_fewest_L22 5000 103 (nI m) (nI n) (fun (h24 : jH) =>
        (jg_R 0 2 h24 103).bind (fun v25 =>
        (ja_I 100 h24 v25 (nI n)).bind (fun v26 =>
        some (v26, h24)))) 5000 (nI 1) h3) k (nI j) (hp q ρ L J)) (fun J => f_X0_fewest_L22 5000 103 (nI m) (nI n) (fun (h24 : jH) =>
        (jg_R 0 2 h24 103).bind (fun v25 =>
        (ja_I 100 h24 v25 (nI n)).bind (fun v26 =>
        some (v26, h24)))) 5000 (nI 1) (hp q ρ L J)) (n + 1) (fun j J => (∀ c, c ≠ 106 → J c = I c) ∧ ∀ k, k < j → J 106 k = nI k) (by
    intro k J p
    rw [f_X0_fewest_L2]
    simp (disch := first | omega | assumption) only [↓bX, ↓bXA, ↓jn_, ↓ob_, ↓b2_, ↓reduceIte, nn_lt, nn_le, nn_eq, nI_add, pk_mul, nn_su, gn_lt, gn_le, ng_lt, ng_le, ng_eq, gn_eq, gg_eq, n_m1, n_cl, if_true, if_false, if_pos, if_neg, lt0]) (by
    rintro k J j hj ⟨p1, p2⟩
    refine ⟨j_up J 106 j (nI j), ?_, fun c hc => (up_ne hc).trans (p1 c hc), fun k hk => ?_⟩
    · rw [f_X0_fewest_L2]
      simp (disch := first | omega | assumption) only [↓bX, ↓bXA, ↓jn_, ↓ob_, ↓b2_, ↓reduceIte, nn_lt, nn_le, nn_eq, nI_add, pk_mul, nn_su, gn_lt, gn_le, ng_lt, ng_le, ng_eq, gn_eq, gg_eq, n_m1, n_cl, if_true, if_false, if_pos, if_neg, lt0]
    · by_cases h : k = j
      · subst h; exact up_eq
      · rw [up_nk h]; exact p2 k (by omega)) (n + 1) 5000 I 0 (by omega) (by omega) ⟨fun c _ => rfl, fun k hk => absurd hk (Nat.not_lt_zero k)⟩
  -- the lines
  obtain ⟨J2, o1, o0, o2, o3⟩ := loE (fun k (J : pI) j => f_X0_fewest_L22 5000 103 (nI m) (nI n) (fun (h24 : jH) =>
        (jg_R 0 2 h24 103).bind (fun v25 =>
        (ja_I 100 h24 v25 (nI n)).bind (fun v26 =>
        some (v26, h24)))) k (nI j) (hp q ρ L J)) (fun J => (jg_R 0 2 (hp q ρ L J) 103).bind (fun v25 =>
        (ja_I 100 (hp q ρ L J) v25 (nI n)).bind (fun v26 =>
        some (v26, hp q ρ L J)))) (m + 1) (fun j J => 1 ≤ j ∧ (∀ c, c ≠ 106 → J c = I c) ∧ ∀ k, k ≤ n → J 106 k = nI (lev a b (j - 1) k)) (by
    intro k J p
    rw [f_X0_fewest_L22]
    simp (disch := first | omega | assumption) only [lt0, nn_lt, if_pos]) (by
    rintro k J j hj ⟨p0, p1, p2⟩
    obtain ⟨t, rfl⟩ : ∃ t, j = t + 1 := ⟨j - 1, by omega⟩
    rw [Nat.add_sub_cancel] at p2
    obtain ⟨K, f1, f2, f3⟩ := inner (j_up J 106 0 (nI (t + 1))) t (by omega) (fun c hc => (up_ne hc).trans (p1 c hc)) up_eq (fun j h1 h2 => by rw [up_nk (by omega)]; exact p2 j h2) (fun (h23 : jH) => f_X0_fewest_L22 5000 103 (nI m) (nI n) (fun (h24 : jH) =>
        (jg_R 0 2 h24 103).bind (fun v25 =>
        (ja_I 100 h24 v25 (nI n)).bind (fun v26 =>
        some (v26, h24)))) k (nI (t + 1) + nI 1) h23)
    have l0 := p2 0 (by omega)
    refine ⟨K, ?_, by omega, f2, fun k hk => by rw [Nat.add_sub_cancel]; exact f3 k hk⟩
    rw [f_X0_fewest_L22]
    simp (disch := first | omega | assumption) only [↓bX, ↓bXA, ↓ob_, lt0, nn_lt, if_neg, l0]
    rw [f1, nI_add]) m 5000 J1 1 (by omega) (by omega) ⟨Nat.le_refl 1, i0, fun k hk => i2 k (by omega)⟩
  have o4 := o3 n (Nat.le_refl n)
  rw [Nat.add_sub_cancel] at o4
  refine ⟨J2, ?_, o2⟩
  simp only [f_X0_fewest, kX, lt0]
  rw [i1, o1]
  simp (disch := first | omega | assumption) only [↓bX, ↓bXA, ↓jn_, ↓ob_, ↓b2_, ↓reduceIte, nn_lt, nn_le, nn_eq, nI_add, pk_mul, nn_su, gn_lt, gn_le, ng_lt, ng_le, ng_eq, gn_eq, gg_eq, n_m1, n_cl, if_true, if_false, if_pos, if_neg, lt0, o4]
theorem m_few {q : pQ} {ρ : pP} {L : pL} {I : pI} {a b : Nat → Nat} {m n : Nat} (hm : m ≤ 6) (hn : n ≤ 6) (ha : ∀ i, i < m → I 148 i = nI (a i)) (hb : ∀ i, i < n → I 149 i = nI (b i)) (la : ∀ i, a i < 26) (lb : ∀ i, b i < 26) : ∃ J, f_X11_changesOf 5000 129 (nI m) (nI n) (hp q ρ L I) = some (nI (lev a b m n), hp q ρ L J) ∧ ∀ c, c ≠ 150 → J c = I c := by
  have inner : ∀ (J0 : pI) (i : Nat), i ≤ m → (∀ c, c ≠ 150 → J0 c = I c) → (∀ k j, k < i → j ≤ n → J0 150 (7 * k + j) = nI (lev a b k j)) → ∀ kk : jH → Option (Int32 × jH), ∃ J, f_X11_changesOf_L15 5000 129 (nI m) (nI n) (nI 7) (nI i) kk 5000 (nI 0) (hp q ρ L J0) = kk (hp q ρ L J) ∧ (∀ c, c ≠ 150 → J c = I c) ∧ ∀ k j, k < i + 1 → j ≤ n → J 150 (7 * k + j) = nI (lev a b k j) := by
    intro J0 i hi h0 h1 kk
    obtain ⟨J, e1, e2, e3, e4⟩ := loE (fun k (J : pI) j => f_X11_changesOf_L15 5000 129 (nI m) (nI n) (nI 7) (nI i) kk k (nI j) (hp q ρ L J)) (fun J => kk (hp q ρ L J)) (n + 1) (fun j J => (∀ c, c ≠ 150 → J c = I c) ∧ (∀ k t, k < i → t ≤ n → J 150 (7 * k + t) = nI (lev a b k t)) ∧ ∀ t, t < j → J 150 (7 * i + t) = nI (lev a b i t)) (by
      intro k J p
      rw [f_X11_changesOf_L15]
      simp (disch := first | omega | assumption) only [↓bM, ↓bMA, ↓jn_, ↓ob_, ↓b2_, ↓reduceIte, nn_lt, nn_le, nn_eq, nI_add, pk_mul, nn_su, gn_lt, gn_le, ng_lt, ng_le, ng_eq, gn_eq, gg_eq, n_m1, n_cl, if_true, if_false, if_pos, if_neg, lt0]) (by
      rintro k J j hj ⟨p1, p2, p3⟩
      have b0 := lev_le (a := a) (b := b) i j
      have fin : ∀ x, x = nI (lev a b i j) → (∀ c, c ≠ 150 → j_up J 150 (7 * i + j) x c = I c) ∧ (∀ k t, k < i → t ≤ n → j_up J 150 (7 * i + j) x 150 (7 * k + t) = nI (lev a b k t)) ∧ ∀ t, t < j + 1 → j_up J 150 (7 * i + j) x 150 (7 * i + t) = nI (lev a b i t) := by
        intro x hx
        refine ⟨fun c hc => (up_ne hc).trans (p1 c hc), fun k t hk ht => by rw [up_nk (by omega)]; exact p2 k t hk ht, fun t ht => ?_⟩
        by_cases h : t = j
        · subst h; rw [up_eq, hx]
        · rw [up_nk (by omega)]; exact p3 t (by omega)
      by_cases hi0 : i = 0
      · subst hi0
        refine ⟨j_up J 150 (7 * 0 + j) (nI (0 + j)), ?_, fin _ (by rw [lev_00, Nat.zero_add])⟩
        rw [f_X11_changesOf_L15]
        simp (disch := first | omega | assumption) only [↓bM, ↓bMA, ↓jn_, ↓ob_, ↓b2_, ↓reduceIte, nn_lt, nn_le, nn_eq, nI_add, pk_mul, nn_su, gn_lt, gn_le, ng_lt, ng_le, ng_eq, gn_eq, gg_eq, n_m1, n_cl, if_true, if_false, if_pos, if_neg, lt0]
      · by_cases hj0 : j = 0
        · subst hj0
          refine ⟨j_up J 150 (7 * i + 0) (nI (i + 0)), ?_, fin _ (by rw [lev_s0, Nat.add_zero])⟩
          rw [f_X11_changesOf_L15]
          simp (disch := first | omega | assumption) only [↓bM, ↓bMA, ↓jn_, ↓ob_, ↓b2_, ↓reduceIte, nn_lt, nn_le, nn_eq, nI_add, pk_mul, nn_su, gn_lt, gn_le, ng_lt, ng_le, ng_eq, gn_eq, gg_eq, n_m1, n_cl, if_true, if_false, if_pos, if_neg, lt0]
        · obtain ⟨u, rfl⟩ : ∃ u, i = u + 1 := ⟨i - 1, by omega⟩
          obtain ⟨t, rfl⟩ : ∃ t, j = t + 1 := ⟨j - 1, by omega⟩
          have e1 : J 148 u = nI (a u) := by rw [p1 148 (by omega)]; exact ha u (by omega)
          have e2 : J 149 t = nI (b t) := by rw [p1 149 (by omega)]; exact hb t (by omega)
          have l1 := p2 u t (by omega) (by omega)
          have l2 := p2 u (t + 1) (by omega) (by omega)
          have l3 := p3 t (by omega)
          have b1 := lev_le (a := a) (b := b) u t
          have b2 := lev_le (a := a) (b := b) u (t + 1)
          have b3 := lev_le (a := a) (b := b) (u + 1) t
          have la' := la u
          have lb' := lb t
          have x1 : 7 * u + (t + 1) - 1 = 7 * u + t := by omega
          have x2 : 7 * (u + 1) + (t + 1) - 1 = 7 * (u + 1) + t := by omega
          refine ⟨j_up J 150 (7 * (u + 1) + (t + 1)) (nI (lev a b (u + 1) (t + 1))), ?_, fin _ rfl⟩
          rw [f_X11_changesOf_L15, lev_ss]
          by_cases hab : a u = b t
          · simp (disch := first | omega | assumption) only [↓bM, ↓bMA, ↓jn_, ↓ob_, ↓b2_, ↓reduceIte, nn_lt, nn_le, nn_eq, nI_add, pk_mul, nn_su, gn_lt, gn_le, ng_lt, ng_le, ng_eq, gn_eq, gg_eq, n_m1, n_cl, if_true, if_false, if_pos, if_neg, lt0, Nat.add_sub_cancel, e1, e2, hab, x1, x2, l1, l2, l3, jmin_nn]
            rw [Nat.add_comm 1]
          · simp (disch := first | omega | assumption) only [↓bM, ↓bMA, ↓jn_, ↓ob_, ↓b2_, ↓reduceIte, nn_lt, nn_le, nn_eq, nI_add, pk_mul, nn_su, gn_lt, gn_le, ng_lt, ng_le, ng_eq, gn_eq, gg_eq, n_m1, n_cl, if_true, if_false, if_pos, if_neg, lt0, Nat.add_sub_cancel, e1, e2, x1, x2, l1, l2, l3, jmin_nn, if_neg hab]
            rw [Nat.add_comm 1]) (n + 1) 5000 J0 0 (by omega) (by omega) ⟨h0, h1, fun t ht => absurd ht (Nat.not_lt_zero t)⟩
    refine ⟨J, e1, e2, fun k j hk hj => ?_⟩
    by_cases h : k = i
    · subst h; exact e4 j (by omega)
    · exact e3 k j (by omega) hj
  obtain ⟨J2, o1, o2, o3⟩ := loE (fun k (J : pI) j => f_X11_changesOf_L6 5000 129 (nI m) (nI n) (nI 7) (fun (h21 : jH) =>
      (jg_R 11 37 h21 129).bind (fun v22 =>
      (ja_I 100 h21 v22 ((nI 7 * nI m) + nI n)).bind (fun v23 =>
      some (v23, h21)))) k (nI j) (hp q ρ L J)) (fun J => (jg_R 11 37 (hp q ρ L J) 129).bind (fun v22 =>
      (ja_I 100 (hp q ρ L J) v22 ((nI 7 * nI m) + nI n)).bind (fun v23 =>
      some (v23, hp q ρ L J)))) (m + 1) (fun j J => (∀ c, c ≠ 150 → J c = I c) ∧ ∀ k t, k < j → t ≤ n → J 150 (7 * k + t) = nI (lev a b k t)) (by
    intro k J p
    rw [f_X11_changesOf_L6]
    simp (disch := first | omega | assumption) only [lt0, nn_lt, if_pos]) (by
    rintro k J j hj ⟨p1, p2⟩
    obtain ⟨K, f1, f2, f3⟩ := inner J j (by omega) p1 p2 (fun (h20 : jH) => f_X11_changesOf_L6 5000 129 (nI m) (nI n) (nI 7) (fun (h21 : jH) =>
      (jg_R 11 37 h21 129).bind (fun v22 =>
      (ja_I 100 h21 v22 ((nI 7 * nI m) + nI n)).bind (fun v23 =>
      some (v23, h21)))) k (nI j + nI 1) h20)
    refine ⟨K, ?_, f2, f3⟩
    rw [f_X11_changesOf_L6]
    simp (disch := first | omega | assumption) only [lt0, nn_lt, if_neg]
    rw [f1, nI_add]) (m + 1) 5000 I 0 (by omega) (by omega) ⟨fun c _ => rfl, fun k t hk => absurd hk (Nat.not_lt_zero k)⟩
  have o4 := o3 m n (by omega) (Nat.le_refl n)
  refine ⟨J2, ?_, o2⟩
  simp only [f_X11_changesOf, kM, lt0]
  rw [o1]
  simp (disch := first | omega | assumption) only [↓bM, ↓bMA, ↓jn_, ↓ob_, ↓b2_, ↓reduceIte, nn_lt, nn_le, nn_eq, nI_add, pk_mul, nn_su, gn_lt, gn_le, ng_lt, ng_le, ng_eq, gn_eq, gg_eq, n_m1, n_cl, if_true, if_false, if_pos, if_neg, lt0, o4]
def dif (v : Bool) (g : gL) (a b : Nat) : Nat := lev (spl (lxL g a) v (lxN g a)).2 (spl (lxL g b) v (lxN g b)).2 (spl (lxL g a) v (lxN g a)).1 (spl (lxL g b) v (lxN g b)).1
theorem dif_le {v : Bool} {g : gL} {a b : Nat} (hg : WL g) (ha : a < lxW g) (hb : b < lxW g) : dif v g a b ≤ 12 := by
  have h1 := lev_le (a := (spl (lxL g a) v (lxN g a)).2) (b := (spl (lxL g b) v (lxN g b)).2) (spl (lxL g a) v (lxN g a)).1 (spl (lxL g b) v (lxN g b)).1
  have h2 := spl_le (l := lxL g a) (v := v) (lxN g a)
  have h3 := spl_le (l := lxL g b) (v := v) (lxN g b)
  have h4 := (hg.2 a ha).1.2
  have h5 := (hg.2 b hb).1.2
  unfold dif
  omega
theorem x_dif {q : pQ} {ρ : pP} {L : pL} {I : pI} {g : gL} {a b : Nat} {v : Bool} (hL : XL g I) (hg : WL g) (ha : a < lxW g) (hb : b < lxW g) : ∃ J, (∀ kk : Int32 → jH → Option (Int32 × jH), (j_b2 (f_X0_spell 5000 5 (nI a) 104 (bo v) (hp q ρ L I)) (fun v3 h2 => j_b2 (f_X0_spell 5000 5 (nI b) 105 (bo v) h2) (fun v6 h5 => j_b2 (f_X0_fewest 5000 103 v3 v6 h5) kk))) = kk (nI (dif v g a b)) (hp q ρ L J)) ∧ ∀ c, c < 104 ∨ 106 < c → J c = I c := by
  obtain ⟨J1, e1, e2, e3⟩ := x_spell (q := q) (ρ := ρ) (L := L) (B := 104) (v := v) (.inl rfl) hL hg ha
  obtain ⟨J2, f1, f2, f3⟩ := x_spell (q := q) (ρ := ρ) (L := L) (I := J1) (B := 105) (v := v) (.inr rfl) (XL_k (fun b _ _ => e3 b (by omega)) hL) hg hb
  have h2 := spl_le (l := lxL g a) (v := v) (lxN g a)
  have h3 := spl_le (l := lxL g b) (v := v) (lxN g b)
  have h4 := (hg.2 a ha).1.2
  have h5 := (hg.2 b hb).1.2
  obtain ⟨J3, g1, g2⟩ := x_few (q := q) (ρ := ρ) (L := L) (I := J2) (a := (spl (lxL g a) v (lxN g a)).2) (b := (spl (lxL g b) v (lxN g b)).2) (m := (spl (lxL g a) v (lxN g a)).1) (n := (spl (lxL g b) v (lxN g b)).1) (by omega) (by omega) (fun i hi => by rw [f3 104 (by omega)]; exact e2 i hi) f2 (spl_lt _ (hg.2 a ha).2.1) (spl_lt _ (hg.2 b hb).2.1)
  refine ⟨J3, fun kk => ?_, fun c hc => by rw [g2 c (by omega), f3 c (by omega), e3 c (by omega)]⟩
  rw [e1, b2, f1, b2, g1, b2]
  rfl
theorem x_difL {q : pQ} {ρ : pP} {L : pL} {I : pI} {g : gL} {a b : Nat} (hL : XL g I) (hg : WL g) (ha : a < lxW g) (hb : b < lxW g) : ∃ J, f_X0_ofLetters 5000 103 5 (nI a) (nI b) (hp q ρ L I) = some (nI (dif false g a b), hp q ρ L J) ∧ ∀ c, c < 104 ∨ 106 < c → J c = I c := by
  obtain ⟨J, e1, e2⟩ := x_dif (q := q) (ρ := ρ) (L := L) (v := false) hL hg ha hb
  refine ⟨J, ?_, e2⟩
  obtain ⟨J1, s1, s2, s3⟩ := x_spell (q := q) (ρ := ρ) (L := L) (B := 104) (v := false) (.inl rfl) hL hg ha
  have e := e1 (fun v8 h7 => some (v8, h7))
  rw [bo_f] at e s1
  rw [s1, b2] at e
  simp only [f_X0_ofLetters, kX, ob_, lt0, s1, b2_]
  exact e
theorem x_difV {q : pQ} {ρ : pP} {L : pL} {I : pI} {g : gL} {a b : Nat} (hL : XL g I) (hg : WL g) (ha : a < lxW g) (hb : b < lxW g) : ∃ J, f_X0_ofVowels 5000 103 5 (nI a) (nI b) (hp q ρ L I) = some (nI (dif true g a b), hp q ρ L J) ∧ ∀ c, c < 104 ∨ 106 < c → J c = I c := by
  obtain ⟨J, e1, e2⟩ := x_dif (q := q) (ρ := ρ) (L := L) (v := true) hL hg ha hb
  refine ⟨J, ?_, e2⟩
  obtain ⟨J1, s1, s2, s3⟩ := x_spell (q := q) (ρ := ρ) (L := L) (B := 104) (v := true) (.inl rfl) hL hg ha
  have e := e1 (fun v8 h7 => some (v8, h7))
  rw [bo_t] at e s1
  rw [s1, b2] at e
  simp only [f_X0_ofVowels, kX, ob_, lt0, s1, b2_]
  exact e
theorem m_dif {q : pQ} {ρ : pP} {L : pL} {I : pI} {g : gL} {a b : Nat} {v : Bool} (hL : ML g I) (hg : WL g) (ha : a < lxW g) (hb : b < lxW g) : ∃ J, f_X11_differBy 5000 129 (nI a) (nI b) (bo v) (hp q ρ L I) = some (nI (dif v g a b), hp q ρ L J) ∧ ∀ c, c < 148 ∨ 150 < c → J c = I c := by
  obtain ⟨J1, e1, e2, e3⟩ := m_spell (q := q) (ρ := ρ) (L := L) (B := 148) (v := v) (.inl rfl) hL hg ha
  obtain ⟨J2, f1, f2, f3⟩ := m_spell (q := q) (ρ := ρ) (L := L) (I := J1) (B := 149) (v := v) (.inr rfl) (ML_k (by rw [e3 129 (by omega)]) (e3 131 (by omega)) (e3 132 (by omega)) (e3 133 (by omega)) hL) hg hb
  have h2 := spl_le (l := lxL g a) (v := v) (lxN g a)
  have h3 := spl_le (l := lxL g b) (v := v) (lxN g b)
  have h4 := (hg.2 a ha).1.2
  have h5 := (hg.2 b hb).1.2
  obtain ⟨J3, g1, g2⟩ := m_few (q := q) (ρ := ρ) (L := L) (I := J2) (a := (spl (lxL g a) v (lxN g a)).2) (b := (spl (lxL g b) v (lxN g b)).2) (m := (spl (lxL g a) v (lxN g a)).1) (n := (spl (lxL g b) v (lxN g b)).1) (by omega) (by omega) (fun i hi => by rw [f3 148 (by omega)]; exact e2 i hi) f2 (spl_lt _ (hg.2 a ha).2.1) (spl_lt _ (hg.2 b hb).2.1)
  refine ⟨J3, ?_, fun c hc => by rw [g2 c (by omega), f3 c (by omega), e3 c (by omega)]⟩
  simp only [f_X11_differBy, kM, ob_, e1, b2_, f1, g1]
  rfl
