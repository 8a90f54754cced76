/-! LAW -/
theorem sb_le {a b : Nat} (ha : a < 100000) (hb : b < 100000) : (nI a - nI b ≤ nI 0) = (a ≤ b) := propext (by
  rw [Int32.le_iff_toInt_le, pk_sub_toInt (by omega) (by omega), n_ti (by omega)]
  omega)
theorem le_sb {a b : Nat} (ha : a < 100000) (hb : b < 100000) : (nI 0 ≤ nI a - nI b) = (b ≤ a) := propext (by
  rw [Int32.le_iff_toInt_le, pk_sub_toInt (by omega) (by omega), n_ti (by omega)]
  omega)
def lwF (P Q : Nat → Nat) (j : Nat) (s : Nat × Nat × Int32) : Nat × Nat × Int32 := (if P j < Q j then s.1 + 1 else s.1, if Q j < P j then s.2.1 + 1 else s.2.1, s.2.2 + (nI (Q j) - nI (P j)))
def lw_ (P Q : Nat → Nat) (n : Nat) : Nat × Nat × Int32 := fo (lwF P Q) 0 n (0, 0, nI 0)
theorem lw_s {P Q : Nat → Nat} {n : Nat} : lw_ P Q (n + 1) = lwF P Q n (lw_ P Q n) := by
  unfold lw_
  rw [fo_last, Nat.zero_add]
theorem x_lwL {q : pQ} {ρ : pP} {L : pL} {I : pI} {P Q : Nat → Nat} {W : Nat} (hW : W ≤ 10) (h5 : I 5 0 = nI W) (h115 : ∀ w, w < W → I 115 w = nI (P w)) (h116 : ∀ w, w < W → I 116 w = nI (Q w)) (hP : ∀ w, w < W → P w ≤ 594 ∧ Q w ≤ 594) {kk : Int32 → Int32 → Int32 → jH → Option (Int32 × jH)} : f_X10_law_L59 5000 0 kk 5000 (nI 0) (nI 0) (nI 0) (nI 0) (hp q ρ L I) = kk (nI (lw_ P Q W).1) (nI (lw_ P Q W).2.1) (lw_ P Q W).2.2 (hp q ρ L I) := by
  refine lo (S := Nat × Nat × Int32) (fun n s j => f_X10_law_L59 5000 0 kk n (nI s.1) (nI s.2.1) s.2.2 (nI j) (hp q ρ L I)) (lwF P Q) (fun s => kk (nI s.1) (nI s.2.1) s.2.2 (hp q ρ L I)) W ?_ ?_ W 5000 (0, 0, nI 0) 0 (by omega) (by omega)
  · intro n s
    show f_X10_law_L59 5000 0 kk (n + 1) (nI s.1) (nI s.2.1) s.2.2 (nI W) (hp q ρ L I) = _
    rw [f_X10_law_L59]
    simp (disch := first | omega | assumption) only [↓bX, ↓bXA, ↓jn_, ↓ob_, ↓b2_, ↓reduceIte, nn_lt, nn_le, nn_eq, nI_add, pk_mul, nn_su, gn_lt, gn_le, ng_lt, ng_le, ng_eq, gn_eq, gg_eq, n_m1, n_cl, if_true, if_false, if_pos, if_neg, lt0, h5, Nat.le_refl]
  · intro n s j hj
    obtain ⟨b1, b2⟩ := hP j hj
    show f_X10_law_L59 5000 0 kk (n + 1) (nI s.1) (nI s.2.1) s.2.2 (nI j) (hp q ρ L I) = f_X10_law_L59 5000 0 kk n (nI (if P j < Q j then s.1 + 1 else s.1)) (nI (if Q j < P j then s.2.1 + 1 else s.2.1)) (s.2.2 + (nI (Q j) - nI (P j))) (nI (j + 1)) (hp q ρ L I)
    rw [f_X10_law_L59]
    by_cases c1 : P j < Q j
    · rw [if_pos c1, if_neg (by omega)]
      simp (disch := first | omega | assumption) only [↓bX, ↓bXA, ↓jn_, ↓ob_, ↓b2_, ↓reduceIte, nn_lt, nn_le, nn_eq, nI_add, pk_mul, nn_su, gn_lt, gn_le, ng_lt, ng_le, ng_eq, gn_eq, gg_eq, n_m1, n_cl, if_true, if_false, if_pos, if_neg, lt0, h5, h115, h116, sb_le, le_sb]
    · by_cases c2 : Q j < P j
      · rw [if_neg c1, if_pos c2]
        simp (disch := first | omega | assumption) only [↓bX, ↓bXA, ↓jn_, ↓ob_, ↓b2_, ↓reduceIte, nn_lt, nn_le, nn_eq, nI_add, pk_mul, nn_su, gn_lt, gn_le, ng_lt, ng_le, ng_eq, gn_eq, gg_eq, n_m1, n_cl, if_true, if_false, if_pos, if_neg, lt0, h5, h115, h116, sb_le, le_sb]
      · rw [if_neg c1, if_neg c2]
        simp (disch := first | omega | assumption) only [↓bX, ↓bXA, ↓jn_, ↓ob_, ↓b2_, ↓reduceIte, nn_lt, nn_le, nn_eq, nI_add, pk_mul, nn_su, gn_lt, gn_le, ng_lt, ng_le, ng_eq, gn_eq, gg_eq, n_m1, n_cl, if_true, if_false, if_pos, if_neg, lt0, h5, h115, h116, sb_le, le_sb]
theorem trS {ρ : pP} {I J : pI} (hR : ρ.1 = (119, 124) ∨ ρ.1 = (124, 119)) (h : ∀ b, tT ρ.1.2 b → b ≠ 116 → J b = I b) : Fr (tY ρ.1.1) I J := fun b k hb => by
  by_cases g : tT ρ.1.2 b ∧ b ≠ 116
  · rw [h b g.1 g.2]
  · exfalso
    have : b = ρ.1.2 + 1 ∨ b = ρ.1.2 + 3 ∨ b = ρ.1.2 + 4 ∨ b = 116 := by
      unfold tT at g
      omega
    rcases hR with e | e <;> rw [e] at hb this <;> rcases this with rfl | rfl | rfl | rfl <;> cases hb
/-! in the reference -/
def tLw (b k : Nat) : Bool := tTo b k || Nat.beq b 153
theorem tTo_Lw {I J : pI} (h : Fr tTo I J) : Fr tLw I J := h.mo (fun b k e => by unfold tLw; rw [e]; rfl)
theorem tLw_N {I J : pI} (h : Fr tLw I J) : Fr tN I J := fun b k e => by
  by_cases h1 : b = 153
  · subst h1
    cases e
  · refine h b k ?_
    unfold tLw
    have e1 : Nat.beq b 153 = false := by
      cases e2 : Nat.beq b 153 with
      | false => rfl
      | true => exact absurd (Nat.eq_of_beq_eq_true e2) h1
    rw [e1, Bool.or_false]
    cases e2 : tTo b k with
    | false => rfl
    | true =>
      have := tTo_N (I := fun _ _ => 0) (J := fun b' k' => if b' = b ∧ k' = k then 1 else 0) (fun b' k' e' => by
        by_cases g : b' = b ∧ k' = k
        · obtain ⟨rfl, rfl⟩ := g
          rw [e2] at e'
          cases e'
        · simp only [if_neg g]) b k e
      simp at this
theorem m_tollU {q : pQ} {ρ : pP} {L : pL} {I : pI} {U w s : Nat} {g : gT} {x : gL} {hr : Int32} (hU : Ru ρ U g I) (hg : WR g) (hL : ML x I) (hx : WL x) (hw : w < lxW x) (h12 : I 130 12 = hr) : ∃ J z, f_X11_tollNow 5000 129 (nI w) (nI s) (hp q ρ L I) = some (nI (tol (cmp g) x w s hr), hp q (rr ρ z) L J) ∧ Fr tTo I J := by
  obtain ⟨J, z, e1, -, e3⟩ := m_toll (q := q) (L := L) (s := s) (hr := hr) hU hg hL hx hw
  refine ⟨J, z, ?_, e3⟩
  simp (disch := first | omega | assumption) only [f_X11_tollNow, ↓bM, ↓bMA, ↓jn_, ↓ob_, ↓b2_, ↓reduceIte, nn_lt, nn_le, nn_eq, nI_add, pk_mul, nn_su, gn_lt, gn_le, ng_lt, ng_le, ng_eq, gn_eq, gg_eq, n_m1, n_cl, if_true, if_false, if_pos, if_neg, lt0, h12, ↓b2e e1]
theorem Ru_fr {ρ : pP} {U : Nat} {g : gT} {I J : pI} {z : Option Nat} (h : Fr tLw I J) (hU : Ru ρ U g I) : Ru (rr ρ z) U g J := by
  obtain ⟨h1, h2, h3, h4⟩ := hU
  refine ⟨h1, h2, by rw [h 129 24 rfl]; exact h3, ?_⟩
  rcases h2 with rfl | rfl
  · rw [h.row 140 (fun k => rfl)]
    exact h4
  · rw [h.row 141 (fun k => rfl)]
    exact h4
theorem ML_lw {g : gL} {I J : pI} (h : Fr tLw I J) (hL : ML g I) : ML g J := ML_k (h 129 2 rfl) (h.row 131 (fun k => rfl)) (h.row 132 (fun k => rfl)) (h.row 133 (fun k => rfl)) hL
theorem m_lw1 {q : pQ} {ρ : pP} {L : pL} {I : pI} {U s : Nat} {g : gT} {x : gL} {hr x2 : Int32} (hU : Ru ρ U g I) (hg : WR g) (hL : ML x I) (hx : WL x) (h12 : I 130 12 = hr) {kk : jH → Option (Int32 × jH)} : ∃ J z, f_X11_law_L42 5000 129 (nI s) x2 kk 5000 (nI 0) (hp q ρ L I) = kk (hp q (rr ρ z) L J) ∧ (∀ w, w < lxW x → J 153 w = nI (tol (cmp g) x w s hr)) ∧ Fr tLw I J := by
  have hW := hx.1
  obtain ⟨⟨z, J⟩, e1, e2, e3⟩ := loE (S := Option Nat × pI) (fun n s_ j => f_X11_law_L42 5000 129 (nI s) x2 kk n (nI j) (hp q (rr ρ s_.1) L s_.2)) (fun s_ => kk (hp q (rr ρ s_.1) L s_.2)) (lxW x) (fun j s_ => (∀ w, w < j → s_.2 153 w = nI (tol (cmp g) x w s hr)) ∧ Fr tLw I s_.2) (by
    rintro n ⟨z, J⟩ ⟨p1, p2⟩
    show f_X11_law_L42 5000 129 (nI s) x2 kk (n + 1) (nI (lxW x)) (hp q (rr ρ z) L J) = kk (hp q (rr ρ z) L J)
    have e2 : J 129 2 = nI (lxW x) := (ML_lw p2 hL).1
    rw [f_X11_law_L42]
    simp (disch := first | omega | assumption) only [↓bM, ↓bMA, ↓jn_, ↓ob_, ↓b2_, ↓reduceIte, nn_lt, nn_le, nn_eq, nI_add, pk_mul, nn_su, gn_lt, gn_le, ng_lt, ng_le, ng_eq, gn_eq, gg_eq, n_m1, n_cl, if_true, if_false, if_pos, if_neg, lt0, e2, Nat.le_refl]) (by
    rintro n ⟨z, J⟩ j hj ⟨p1, p2⟩
    simp only [] at p1 p2
    have e2 : J 129 2 = nI (lxW x) := (ML_lw p2 hL).1
    obtain ⟨K, z', k1, k2⟩ := m_tollU (q := q) (L := L) (s := s) (hr := hr) (Ru_fr (z := z) p2 hU) hg (ML_lw p2 hL) hx hj (h12 := by rw [p2 130 12 rfl]; exact h12)
    refine ⟨(z', j_up K 153 j (nI (tol (cmp g) x j s hr))), ?_, fun w hw => ?_, Fr.up (Fr.tr p2 (tTo_Lw k2)) rfl⟩
    · show f_X11_law_L42 5000 129 (nI s) x2 kk (n + 1) (nI j) (hp q (rr ρ z) L J) = f_X11_law_L42 5000 129 (nI s) x2 kk n (nI (j + 1)) (hp q (rr ρ z') L (j_up K 153 j (nI (tol (cmp g) x j s hr))))
      rw [f_X11_law_L42]
      simp (disch := first | omega | assumption) only [↓bM, ↓bMA, ↓jn_, ↓ob_, ↓b2_, ↓reduceIte, nn_lt, nn_le, nn_eq, nI_add, pk_mul, nn_su, gn_lt, gn_le, ng_lt, ng_le, ng_eq, gn_eq, gg_eq, n_m1, n_cl, if_true, if_false, if_pos, if_neg, lt0, e2, ↓b2e k1]
      rfl
    · show j_up K 153 j (nI (tol (cmp g) x j s hr)) 153 w = _
      by_cases e : w = j
      · rw [e, up_eq]
      · rw [up_nk e, k2.row 153 (fun k => rfl)]
        exact p1 w (by omega)) (lxW x) 5000 (ρ.2.2.1, I) 0 (by omega) (by omega) ⟨fun w hw => absurd hw (Nat.not_lt_zero w), Fr.rf⟩
  exact ⟨J, z, e1, e2, e3⟩
theorem m_lw2 {q : pQ} {ρ : pP} {L : pL} {I : pI} {T : Nat} {f : Nat → Nat} {x1 : Int32} {x3 : Nat} {x4 : Int32} (hT : T ≤ 40) (hρ : ρ.2.2.2.1 = 141) (hf : ∀ k, k < T → I 135 k = by8 (f k)) {kk : jH → Option (Int32 × jH)} : ∃ J, f_X11_law_L95 5000 129 x1 (nI T) x3 x4 kk 5000 (nI 0) (hp q ρ L I) = kk (hp q ρ L J) ∧ (∀ k, k < T → J 141 k = by8 (f k)) ∧ ∀ b, b ≠ 141 → J b = I b := by
  obtain ⟨J, e1, e2⟩ := loE (fun m (z : pI) j => f_X11_law_L95 5000 129 x1 (nI T) x3 x4 kk m (nI j) (hp q ρ L z)) (fun z => kk (hp q ρ L z)) T (fun j z => (∀ k, k < j → z 141 k = by8 (f k)) ∧ ∀ b, b ≠ 141 → z b = I b) (by
    intro m z p
    rw [f_X11_law_L95]
    simp (disch := first | omega | assumption) only [↓bM, ↓bMA, ↓jn_, ↓ob_, ↓b2_, ↓reduceIte, nn_lt, nn_le, nn_eq, nI_add, pk_mul, nn_su, gn_lt, gn_le, ng_lt, ng_le, ng_eq, gn_eq, gg_eq, n_m1, n_cl, if_true, if_false, if_pos, if_neg, lt0]) (by
    rintro m z j hj ⟨p1, p2⟩
    have z5 : z 135 j = by8 (f j) := by rw [p2 135 (by omega)]; exact hf j hj
    refine ⟨j_up z 141 j (by8 (f j)), ?_, fun k hk => ?_, fun b hb => by rw [up_ne hb]; exact p2 b hb⟩
    · rw [f_X11_law_L95]
      simp (disch := first | omega | assumption) only [↓bM, ↓bMA, ↓jn_, ↓ob_, ↓b2_, ↓reduceIte, nn_lt, nn_le, nn_eq, nI_add, pk_mul, nn_su, gn_lt, gn_le, ng_lt, ng_le, ng_eq, gn_eq, gg_eq, n_m1, n_cl, if_true, if_false, if_pos, if_neg, lt0, hρ, z5, by8_by8]
    · by_cases e : k = j
      · rw [e, up_eq]
      · rw [up_nk e]
        exact p1 k (by omega)) T 5000 I 0 (by omega) (by omega) ⟨fun k hk => absurd hk (Nat.not_lt_zero k), fun b _ => rfl⟩
  exact ⟨J, e1, e2⟩
theorem m_lw3 {q : pQ} {ρ : pP} {L : pL} {I : pI} {U s : Nat} {g : gT} {x : gL} {hr : Int32} {P Q : Nat → Nat} {x3 : Nat} {x4 : Int32} (hU : Ru ρ U g I) (hg : WR g) (hL : ML x I) (hx : WL x) (h12 : I 130 12 = hr) (hP : ∀ w, w < lxW x → I 153 w = nI (P w) ∧ P w ≤ 594) (hQ : Q = fun w => tol (cmp g) x w s hr) {kk : Int32 → Int32 → Int32 → jH → Option (Int32 × jH)} : ∃ J z, f_X11_law_L133 5000 129 (nI s) x3 x4 kk 5000 (nI 0) (nI 0) (nI 0) (nI 0) (hp q ρ L I) = kk (nI (lw_ P Q (lxW x)).1) (nI (lw_ P Q (lxW x)).2.1) (lw_ P Q (lxW x)).2.2 (hp q (rr ρ z) L J) ∧ Fr tTo I J := by
  have hW := hx.1
  obtain ⟨⟨c, z, J⟩, e1, e2, e3⟩ := loE (S := (Nat × Nat × Int32) × Option Nat × pI) (fun n s_ j => f_X11_law_L133 5000 129 (nI s) x3 x4 kk n (nI s_.1.1) (nI s_.1.2.1) s_.1.2.2 (nI j) (hp q (rr ρ s_.2.1) L s_.2.2)) (fun s_ => kk (nI s_.1.1) (nI s_.1.2.1) s_.1.2.2 (hp q (rr ρ s_.2.1) L s_.2.2)) (lxW x) (fun j s_ => s_.1 = lw_ P Q j ∧ Fr tTo I s_.2.2) (by
    rintro n ⟨c, z, J⟩ ⟨p1, p2⟩
    show f_X11_law_L133 5000 129 (nI s) x3 x4 kk (n + 1) (nI c.1) (nI c.2.1) c.2.2 (nI (lxW x)) (hp q (rr ρ z) L J) = kk (nI c.1) (nI c.2.1) c.2.2 (hp q (rr ρ z) L J)
    have e2 : J 129 2 = nI (lxW x) := (ML_lw (tTo_Lw p2) hL).1
    rw [f_X11_law_L133]
    simp (disch := first | omega | assumption) only [↓bM, ↓bMA, ↓jn_, ↓ob_, ↓b2_, ↓reduceIte, nn_lt, nn_le, nn_eq, nI_add, pk_mul, nn_su, gn_lt, gn_le, ng_lt, ng_le, ng_eq, gn_eq, gg_eq, n_m1, n_cl, if_true, if_false, if_pos, if_neg, lt0, e2, Nat.le_refl]) (by
    rintro n ⟨c, z, J⟩ j hj ⟨p1, p2⟩
    simp only [] at p1 p2
    have hl := tTo_Lw p2
    have e2 : J 129 2 = nI (lxW x) := (ML_lw hl hL).1
    obtain ⟨K, z', k1, k2⟩ := m_tollU (q := q) (L := L) (s := s) (hr := hr) (Ru_fr (z := z) hl hU) hg (ML_lw hl hL) hx hj (h12 := by rw [p2 130 12 rfl]; exact h12)
    have q1 : tol (cmp g) x j s hr = Q j := by rw [hQ]
    have q2 : Q j ≤ 594 := by rw [← q1]; exact tol_le hx hj
    rw [q1] at k1
    obtain ⟨b1, b2⟩ := hP j hj
    have b3 : K 153 j = nI (P j) := by rw [k2 153 j rfl, p2 153 j rfl]; exact b1
    refine ⟨(lwF P Q j c, z', K), ?_, by show lwF P Q j c = _; rw [lw_s, p1], Fr.tr p2 k2⟩
    show f_X11_law_L133 5000 129 (nI s) x3 x4 kk (n + 1) (nI c.1) (nI c.2.1) c.2.2 (nI j) (hp q (rr ρ z) L J) = f_X11_law_L133 5000 129 (nI s) x3 x4 kk n (nI (if P j < Q j then c.1 + 1 else c.1)) (nI (if Q j < P j then c.2.1 + 1 else c.2.1)) (c.2.2 + (nI (Q j) - nI (P j))) (nI (j + 1)) (hp q (rr ρ z') L K)
    rw [f_X11_law_L133]
    by_cases c1 : P j < Q j
    · rw [if_pos c1, if_neg (by omega)]
      simp (disch := first | omega | assumption) only [↓bM, ↓bMA, ↓jn_, ↓ob_, ↓b2_, ↓reduceIte, nn_lt, nn_le, nn_eq, nI_add, pk_mul, nn_su, gn_lt, gn_le, ng_lt, ng_le, ng_eq, gn_eq, gg_eq, n_m1, n_cl, if_true, if_false, if_pos, if_neg, lt0, e2, ↓b2e k1, b3, sb_le, le_sb, Nat.add_zero]
      rfl
    · by_cases c2 : Q j < P j
      · rw [if_neg c1, if_pos c2]
        simp (disch := first | omega | assumption) only [↓bM, ↓bMA, ↓jn_, ↓ob_, ↓b2_, ↓reduceIte, nn_lt, nn_le, nn_eq, nI_add, pk_mul, nn_su, gn_lt, gn_le, ng_lt, ng_le, ng_eq, gn_eq, gg_eq, n_m1, n_cl, if_true, if_false, if_pos, if_neg, lt0, e2, ↓b2e k1, b3, sb_le, le_sb, Nat.add_zero]
        rfl
      · rw [if_neg c1, if_neg c2]
        simp (disch := first | omega | assumption) only [↓bM, ↓bMA, ↓jn_, ↓ob_, ↓b2_, ↓reduceIte, nn_lt, nn_le, nn_eq, nI_add, pk_mul, nn_su, gn_lt, gn_le, ng_lt, ng_le, ng_eq, gn_eq, gg_eq, n_m1, n_cl, if_true, if_false, if_pos, if_neg, lt0, e2, ↓b2e k1, b3, sb_le, le_sb, Nat.add_zero]
        rfl) (lxW x) 5000 ((0, 0, nI 0), ρ.2.2.1, I) 0 (by omega) (by omega) ⟨rfl, Fr.rf⟩
  simp only [] at e1 e2 e3
  rw [e2] at e1
  exact ⟨J, z, e1, e3⟩
