/-! SCENES, in the class -/
def Sb (b : Nat) : Prop := b = 19 ∨ b = 92 ∨ b = 97 ∨ ∃ i, i < 13 ∧ b = 26 + 5 * i
def Sf (b : Nat) : Prop := (Nat.blt b 162 = true ∧ Nat.blt (b + 1) 162 = true ∧ Nat.blt (b + 2) 162 = true ∧ Nat.blt (b + 3) 162 = true ∧ Nat.blt (b + 4) 162 = true) ∧ (pS b = (7, 0) ∧ pS (b + 1) = (100, 4) ∧ pS (b + 2) = (100, 4) ∧ pS (b + 3) = (100, 4) ∧ pS (b + 4) = (100, 30)) ∧ ∀ ρ, pR ρ b 2 = some (b + 1) ∧ pR ρ b 3 = some (b + 2) ∧ pR ρ b 4 = some (b + 3) ∧ pR ρ b 5 = some (b + 4)
theorem Sb_f {b : Nat} (h : Sb b) : Sf b := by
  rcases h with rfl | rfl | rfl | ⟨i, hi, rfl⟩
  · exact ⟨⟨rfl, rfl, rfl, rfl, rfl⟩, ⟨rfl, rfl, rfl, rfl, rfl⟩, fun ρ => ⟨rfl, rfl, rfl, rfl⟩⟩
  · exact ⟨⟨rfl, rfl, rfl, rfl, rfl⟩, ⟨rfl, rfl, rfl, rfl, rfl⟩, fun ρ => ⟨rfl, rfl, rfl, rfl⟩⟩
  · exact ⟨⟨rfl, rfl, rfl, rfl, rfl⟩, ⟨rfl, rfl, rfl, rfl, rfl⟩, fun ρ => ⟨rfl, rfl, rfl, rfl⟩⟩
  · match i, hi with
    | 0, _ => exact ⟨⟨rfl, rfl, rfl, rfl, rfl⟩, ⟨rfl, rfl, rfl, rfl, rfl⟩, fun ρ => ⟨rfl, rfl, rfl, rfl⟩⟩
    | 1, _ => exact ⟨⟨rfl, rfl, rfl, rfl, rfl⟩, ⟨rfl, rfl, rfl, rfl, rfl⟩, fun ρ => ⟨rfl, rfl, rfl, rfl⟩⟩
    | 2, _ => exact ⟨⟨rfl, rfl, rfl, rfl, rfl⟩, ⟨rfl, rfl, rfl, rfl, rfl⟩, fun ρ => ⟨rfl, rfl, rfl, rfl⟩⟩
    | 3, _ => exact ⟨⟨rfl, rfl, rfl, rfl, rfl⟩, ⟨rfl, rfl, rfl, rfl, rfl⟩, fun ρ => ⟨rfl, rfl, rfl, rfl⟩⟩
    | 4, _ => exact ⟨⟨rfl, rfl, rfl, rfl, rfl⟩, ⟨rfl, rfl, rfl, rfl, rfl⟩, fun ρ => ⟨rfl, rfl, rfl, rfl⟩⟩
    | 5, _ => exact ⟨⟨rfl, rfl, rfl, rfl, rfl⟩, ⟨rfl, rfl, rfl, rfl, rfl⟩, fun ρ => ⟨rfl, rfl, rfl, rfl⟩⟩
    | 6, _ => exact ⟨⟨rfl, rfl, rfl, rfl, rfl⟩, ⟨rfl, rfl, rfl, rfl, rfl⟩, fun ρ => ⟨rfl, rfl, rfl, rfl⟩⟩
    | 7, _ => exact ⟨⟨rfl, rfl, rfl, rfl, rfl⟩, ⟨rfl, rfl, rfl, rfl, rfl⟩, fun ρ => ⟨rfl, rfl, rfl, rfl⟩⟩
    | 8, _ => exact ⟨⟨rfl, rfl, rfl, rfl, rfl⟩, ⟨rfl, rfl, rfl, rfl, rfl⟩, fun ρ => ⟨rfl, rfl, rfl, rfl⟩⟩
    | 9, _ => exact ⟨⟨rfl, rfl, rfl, rfl, rfl⟩, ⟨rfl, rfl, rfl, rfl, rfl⟩, fun ρ => ⟨rfl, rfl, rfl, rfl⟩⟩
    | 10, _ => exact ⟨⟨rfl, rfl, rfl, rfl, rfl⟩, ⟨rfl, rfl, rfl, rfl, rfl⟩, fun ρ => ⟨rfl, rfl, rfl, rfl⟩⟩
    | 11, _ => exact ⟨⟨rfl, rfl, rfl, rfl, rfl⟩, ⟨rfl, rfl, rfl, rfl, rfl⟩, fun ρ => ⟨rfl, rfl, rfl, rfl⟩⟩
    | 12, _ => exact ⟨⟨rfl, rfl, rfl, rfl, rfl⟩, ⟨rfl, rfl, rfl, rfl, rfl⟩, fun ρ => ⟨rfl, rfl, rfl, rfl⟩⟩
    | n + 13, h => omega
theorem h_copy {q : pQ} {ρ : pP} {L : pL} {I : pI} {a b n : Nat} (ha : Nat.blt a 162 = true) (hb : Nat.blt b 162 = true) (ea : pS a = (100, n)) (eb : pS b = (100, n)) (hn : n < 1000) : j_copy (hp q ρ L I) a (nI 0) b (nI 0) (nI n) = some (hp q ρ L (j_row I b (va_cpy (I a) (I b) 0 0 n))) := by
  show (if (pSx q.2 a).1 = 100 ∧ (pSx q.2 b).1 = 100 ∧ ¬ nI 0 < 0 ∧ ¬ nI 0 < 0 ∧ ¬ nI n < 0 ∧ (nI 0).toNatClampNeg + (nI n).toNatClampNeg ≤ (pSx q.2 a).2 ∧ (nI 0).toNatClampNeg + (nI n).toNatClampNeg ≤ (pSx q.2 b).2 then some (js_C (hp q ρ L I) b (va_cpy (I a) (I b) (nI 0).toNatClampNeg (nI 0).toNatClampNeg (nI n).toNatClampNeg)) else none) = _
  rw [pSx_at ha, pSx_at hb, ea, eb, n_cl (show n < 2147483648 by omega), n_cl (show 0 < 2147483648 by omega), if_pos ⟨rfl, rfl, by decide, by decide, nI_pos (nb_ (by omega)), by simp, by simp⟩]
  rfl
theorem row_ne {α : Type} {f : Nat → Nat → α} {a b : Nat} {g : Nat → α} (h : b ≠ a) : j_row f a g b = f b := if_neg h
theorem row_eq {α : Type} {f : Nat → Nat → α} {a : Nat} {g : Nat → α} : j_row f a g a = g := if_pos rfl
theorem x_copy {q : pQ} {ρ : pP} {L : pL} {I : pI} {b s : Nat} (hb : Sb b) (hs : Sb s) (hne : b ≠ s) : ∃ J, f_X7_copy 5000 b s (hp q ρ L I) = some (hp q ρ L J) ∧ (∀ C P, P ≤ 4 → XS s C P I → XS b C P J) ∧ ∀ a, a < b ∨ b + 4 < a → J a = I a := by
  obtain ⟨⟨b0, b1, b2, b3, b4⟩, ⟨c0, c1, c2, c3, c4⟩, br⟩ := Sb_f hb
  obtain ⟨⟨s0, s1, s2, s3, s4⟩, ⟨d0, d1, d2, d3, d4⟩, sr⟩ := Sb_f hs
  obtain ⟨br2, br3, br4, br5⟩ := br ρ
  obtain ⟨sr2, sr3, sr4, sr5⟩ := sr ρ
  have far : b + 5 ≤ s ∨ s + 5 ≤ b := by
    unfold Sb at hb hs
    rcases hb with rfl | rfl | rfl | ⟨i, hi, rfl⟩ <;> rcases hs with rfl | rfl | rfl | ⟨k, hk, rfl⟩ <;> omega
  refine ⟨j_row (j_row (j_row (j_row (j_up (j_up I b 0 (I s 0)) b 1 (I s 1)) (b + 1) (va_cpy (I (s + 1)) (I (b + 1)) 0 0 4)) (b + 2) (va_cpy (I (s + 2)) (I (b + 2)) 0 0 4)) (b + 3) (va_cpy (I (s + 3)) (I (b + 3)) 0 0 4)) (b + 4) (va_cpy (I (s + 4)) (I (b + 4)) 0 0 30), ?_, ?_, ?_⟩
  · simp (disch := first | assumption | omega) only [f_X7_copy, hg_d b0 c0, ↓oe (hg_I s0 d0), ↓oe (hq_I b0 c0), ↓oe (hg_R s0 d0 sr2), ↓oe (hg_R b0 c0 br2), ↓oe (hg_R s0 d0 sr3), ↓oe (hg_R b0 c0 br3), ↓oe (hg_R s0 d0 sr4), ↓oe (hg_R b0 c0 br4), ↓oe (hg_R s0 d0 sr5), ↓oe (hg_R b0 c0 br5), lt0, h_copy s1 b1 d1 c1, h_copy s2 b2 d2 c2, h_copy s3 b3 d3 c3, h_copy s4 b4 d4 c4, ob_, up_ne, row_ne]
  · intro C P hP h
    obtain ⟨⟨x1, x2⟩, x3, x4⟩ := h
    refine ⟨⟨?_, ?_⟩, fun t ht => ?_, fun k hk => ?_⟩
    · simp (disch := first | omega | assumption) only [row_ne, up_nk, up_eq, x1]
    · simp (disch := first | omega | assumption) only [row_ne, up_eq, x2]
    · obtain ⟨y1, y2, y3⟩ := x3 t ht
      refine ⟨?_, ?_, ?_⟩
      · simp (disch := first | omega | assumption) only [row_ne, row_eq]
        rw [sb_cpy0 (by omega), y1]
      · simp (disch := first | omega | assumption) only [row_ne, row_eq]
        rw [sb_cpy0 (by omega), y2]
      · simp (disch := first | omega | assumption) only [row_ne, row_eq]
        rw [sb_cpy0 (by omega), y3]
    · rw [row_eq, sb_cpy0 (by omega), x4 k hk]
  · intro a ha
    simp (disch := first | omega | assumption) only [row_ne, up_ne]
/-! the past -/
def puU (g : gU) (C : gC) : gU := if g.1 < 12 then (g.1 + 1, fun i => if i = g.1 then C else g.2 i) else (12, fun i => if i = 11 then C else g.2 (i + 1))
/-- one more scene noted than counted -/
def XV (g : gU) (C : gC) (P : Nat) (I : pI) : Prop := ∃ o, o < 13 ∧ I 24 1 = nI o ∧ I 24 2 = nI g.1 ∧ (∀ i, i < g.1 → XS (26 + 5 * ((o + i) % 13)) (g.2 i) P I) ∧ XS (26 + 5 * ((o + g.1) % 13)) C P I
theorem rem13 {a : Nat} (h : a < 2147483648) : j_rem (nI a) (nI 13) = some (nI (a % 13)) := by
  unfold j_rem
  rw [if_neg (show ¬ nI 13 = 0 by decide)]
  congr 1
  exact pk_rem h (by omega) (by omega)
theorem x_slot {q : pQ} {ρ : pP} {L : pL} {I : pI} {o k : Nat} (h1 : I 24 1 = nI o) (ho : o < 13) (hk : k < 1000) : f_X4_slot 5000 24 (nI k) (hp q ρ L I) = some (nI ((o + k) % 13), hp q ρ L I) := by
  simp (disch := first | omega | assumption) only [f_X4_slot, kX, kXA, ob_, b2_, jn_, nn_lt, nn_le, nn_eq, nI_add, pk_mul, nn_su, gn_lt, gn_le, ng_lt, ng_le, ng_eq, gn_eq, gg_eq, n_m1, n_cl, if_true, if_false, if_pos, if_neg, ite_self, lt0, h1, rem13]
theorem sc_ref {ρ : pP} : ∀ i, i < 13 → pR ρ 25 i = some (26 + 5 * i)
  | 0, _ => rfl
  | 1, _ => rfl
  | 2, _ => rfl
  | 3, _ => rfl
  | 4, _ => rfl
  | 5, _ => rfl
  | 6, _ => rfl
  | 7, _ => rfl
  | 8, _ => rfl
  | 9, _ => rfl
  | 10, _ => rfl
  | 11, _ => rfl
  | 12, _ => rfl
  | n + 13, h => by omega
theorem x_scene {q : pQ} {ρ : pP} {L : pL} {I : pI} {i : Nat} (hi : i < 13) : ja_R (hp q ρ L I) 25 (nI i) = some (26 + 5 * i) := by
  rw [ha_R rfl rfl rfl hi, sc_ref i hi]
theorem x_mark {q : pQ} {ρ : pP} {L : pL} {I : pI} {g : gU} {C : gC} {P S : Nat} (hP : P ≤ 4) (hU : XU g P I) (hg : WU g P S) (hC : XS 19 C P I) : ∃ J, f_X4_mark 5000 24 19 (hp q ρ L I) = some (hp q ρ L J) ∧ XV g C P J ∧ ∀ a, a < 26 ∨ 90 < a → J a = I a := by
  obtain ⟨o, ho, h1, h2, h3⟩ := hU
  have h12 := hg.1
  have hlt : (o + g.1) % 13 < 13 := Nat.mod_lt _ (by omega)
  obtain ⟨J, e1, e2, e3⟩ := x_copy (q := q) (ρ := ρ) (L := L) (I := I) (b := 26 + 5 * ((o + g.1) % 13)) (s := 19) (.inr (.inr (.inr ⟨_, hlt, rfl⟩))) (.inl rfl) (by omega)
  refine ⟨J, ?_, ⟨o, ho, ?_, ?_, fun i hi => ?_, e2 C P hP hC⟩, fun a ha => e3 a (by omega)⟩
  · simp (disch := first | omega | assumption) only [f_X4_mark, kX, kXA, ob_, b2_, jn_, nn_lt, nn_le, nn_eq, nI_add, pk_mul, nn_su, gn_lt, gn_le, ng_lt, ng_le, ng_eq, gn_eq, gg_eq, n_m1, n_cl, if_true, if_false, if_pos, if_neg, ite_self, lt0, h2, x_slot h1 ho, x_scene hlt, e1]
  · rw [e3 24 (by omega)]
    exact h1
  · rw [e3 24 (by omega)]
    exact h2
  · refine XS_k (fun j hj => e3 _ ?_) (h3 i hi)
    have : (o + i) % 13 ≠ (o + g.1) % 13 := by omega
    omega
theorem x_confirm {q : pQ} {ρ : pP} {L : pL} {I : pI} {g : gU} {C : gC} {P S : Nat} (hg : WU g P S) (hV : XV g C P I) : ∃ J, f_X4_confirm 5000 24 (hp q ρ L I) = some (hp q ρ L J) ∧ XU (puU g C) P J ∧ ∀ a, a ≠ 24 → J a = I a := by
  obtain ⟨o, ho, h1, h2, h3, h4⟩ := hV
  have h12 := hg.1
  by_cases h : g.1 < 12
  · refine ⟨j_up I 24 2 (nI (g.1 + 1)), ?_, ?_, fun a ha => up_ne ha⟩
    · simp (disch := first | omega | assumption) only [f_X4_confirm, kX, kXA, ob_, b2_, jn_, nn_lt, nn_le, nn_eq, nI_add, pk_mul, nn_su, gn_lt, gn_le, ng_lt, ng_le, ng_eq, gn_eq, gg_eq, n_m1, n_cl, if_true, if_false, if_pos, if_neg, ite_self, lt0, h2]
    · unfold puU
      rw [if_pos h]
      refine ⟨o, ho, by rw [up_nk (by omega)]; exact h1, up_eq, fun i hi => ?_⟩
      simp only [] at hi ⊢
      by_cases hi2 : i = g.1
      · rw [if_pos hi2, hi2]
        exact XS_k (fun j hj => up_ne (by omega)) h4
      · rw [if_neg hi2]
        exact XS_k (fun j hj => up_ne (by omega)) (h3 i (by omega))
  · have e12 : g.1 = 12 := by omega
    refine ⟨j_up I 24 1 (nI ((o + 1) % 13)), ?_, ?_, fun a ha => up_ne ha⟩
    · simp (disch := first | omega | assumption) only [f_X4_confirm, kX, kXA, ob_, b2_, jn_, nn_lt, nn_le, nn_eq, nI_add, pk_mul, nn_su, gn_lt, gn_le, ng_lt, ng_le, ng_eq, gn_eq, gg_eq, n_m1, n_cl, if_true, if_false, if_pos, if_neg, ite_self, lt0, h2, e12, x_slot h1 ho]
    · unfold puU
      rw [if_neg h]
      refine ⟨(o + 1) % 13, Nat.mod_lt _ (by omega), up_eq, by rw [up_nk (by omega), h2, e12], fun i hi => ?_⟩
      simp only [] at hi ⊢
      by_cases hi2 : i = 11
      · rw [if_pos hi2, hi2]
        rw [e12] at h4
        rw [show ((o + 1) % 13 + 11) % 13 = (o + 12) % 13 by omega]
        exact XS_k (fun j hj => up_ne (by omega)) h4
      · rw [if_neg hi2]
        rw [show ((o + 1) % 13 + i) % 13 = (o + (i + 1)) % 13 by omega]
        exact XS_k (fun j hj => up_ne (by omega)) (h3 (i + 1) (by omega))
theorem XV_k {g : gU} {C : gC} {P : Nat} {I J : pI} (e : ∀ b, 24 ≤ b → b ≤ 90 → J b = I b) (h : XV g C P I) : XV g C P J := by
  obtain ⟨o, a1, a2, a3, a4, a5⟩ := h
  exact ⟨o, a1, by rw [e 24 (by omega) (by omega)]; exact a2, by rw [e 24 (by omega) (by omega)]; exact a3, fun i hi => XS_k (fun j hj => e _ (by omega) (by omega)) (a4 i hi), XS_k (fun j hj => e _ (by omega) (by omega)) a5⟩
theorem XV_U {g : gU} {C : gC} {P : Nat} {I : pI} (h : XV g C P I) : XU g P I := by
  obtain ⟨o, a1, a2, a3, a4, a5⟩ := h
  exact ⟨o, a1, a2, a3, a4⟩
theorem WU_pu {g : gU} {C : gC} {P S : Nat} (hg : WU g P S) (hC : WS C P S) : WU (puU g C) P S := by
  unfold puU
  split
  · rename_i h
    refine ⟨by simp only []; omega, fun i hi => ?_⟩
    simp only [] at hi ⊢
    split
    · exact hC
    · exact hg.2 i (by omega)
  · rename_i h
    have := hg.1
    refine ⟨Nat.le_refl 12, fun i hi => ?_⟩
    simp only [] at hi ⊢
    split
    · exact hC
    · exact hg.2 (i + 1) (by omega)
