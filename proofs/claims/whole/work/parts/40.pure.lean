/-! LOOPS once more: the next state is said to be there -/
theorem loE {S A : Type} (f : Nat → S → Nat → A) (K : S → A) (N : Nat) (P : Nat → S → Prop) (he : ∀ n s, P N s → f (n + 1) s N = K s) (hs : ∀ n s j, j < N → P j s → ∃ s', f (n + 1) s j = f n s' (j + 1) ∧ P (j + 1) s') : ∀ m n s j, j + m = N → m < n → P j s → ∃ s', f n s j = K s' ∧ P N s'
  | _, 0, _, _, _, h, _ => absurd h (Nat.not_lt_zero _)
  | 0, n + 1, s, j, e, _, p => by
    have : j = N := by omega
    subst this
    exact ⟨s, he n s p, p⟩
  | m + 1, n + 1, s, j, e, h, p => by
    obtain ⟨s', e1, p1⟩ := hs n s j (by omega) p
    rw [e1]
    exact loE f K N P he hs m n s' (j + 1) (by omega) (by omega) p1
/-! calls that change the scene, and what can be undone -/
def tV (A : Nat) (b k : Nat) : Bool := tY A b k || (Nat.ble 19 b && Nat.ble b 90)
def tO (b k : Nat) : Bool := tN b k || (Nat.beq b 130 || Nat.beq b 144 || (Nat.beq b 129 && Nat.beq k 29))
def tRem (b k : Nat) : Bool := Nat.beq b 144 || (Nat.beq b 129 && Nat.beq k 29)
theorem ble_f {a b : Nat} (h : b < a) : Nat.ble a b = false := by
  cases e : Nat.ble a b with
  | false => rfl
  | true =>
    have := Nat.le_of_ble_eq_true e
    omega
theorem beq_f {a b : Nat} (h : a ≠ b) : Nat.beq a b = false := by
  cases e : Nat.beq a b with
  | false => rfl
  | true => exact absurd (Nat.eq_of_beq_eq_true e) h
theorem tV_k {A b k : Nat} (h1 : 91 ≤ b) (h2 : b < 103) : tV A b k = false := by
  unfold tV
  rw [tY_mid (by omega) h2, ble_f (a := b) (by omega), Bool.and_false]
  rfl
theorem tV_m {A b k : Nat} (h1 : 129 ≤ b) (h2 : b < 161) : tV A b k = false := by
  unfold tV
  rw [tY_m h1 h2, ble_f (a := b) (by omega), Bool.and_false]
  rfl
theorem tO_x {b k : Nat} (h : b < 129) : tO b k = false := by
  unfold tO
  rw [tN_x h, beq_f (by omega), beq_f (by omega), beq_f (a := b) (by omega)]
  rfl
theorem Fr_V {A : Nat} {I J : pI} (h : Fr (tY A) I J) : Fr (tV A) I J := h.mo (fun b k e => by unfold tV; rw [e]; rfl)
theorem Fr_O {I J : pI} (h : Fr tN I J) : Fr tO I J := h.mo (fun b k e => by unfold tO; rw [e]; rfl)
theorem Fr_R {I J : pI} (h : Fr tRem I J) : Fr tO I J := h.mo (fun b k e => by
  unfold tRem at e
  unfold tO
  rw [Bool.or_eq_true] at e
  rcases e with e | e
  · rw [e, Bool.or_true, Bool.true_or, Bool.or_true]
  · rw [e, Bool.or_true, Bool.or_true])
theorem Fr_26 {A : Nat} {I J : pI} (h : ∀ a, a < 19 ∨ 90 < a → J a = I a) : Fr (tV A) I J := fun b k e => by
  by_cases g : b < 19 ∨ 90 < b
  · rw [h b g]
  · exfalso
    unfold tV at e
    rw [Nat.ble_eq_true_of_le (show 19 ≤ b by omega), Nat.ble_eq_true_of_le (show b ≤ 90 by omega)] at e
    simp at e
theorem Xs_sc {G : gG} {ρ : pP} {I J : pI} {C : gC} {U : gU} (h : Fr (tV ρ.1.1) I J) (hC : XS 19 C (gP G) J) (hU : XU U (gP G) J) (g : Xs G ρ I) : Xs (sUn (sN G C) U) ρ J := by
  obtain ⟨g1, g2, g3, g4, g5, g6, g7, g8, g9⟩ := g
  refine ⟨?_, ?_, ?_, ?_, hC, hU, ?_, ?_, g9⟩
  · exact XT_k (h 1 1 rfl) (h.row 2 (fun k => rfl)) g1
  · unfold XL at g2 ⊢
    rw [h.row 5 (fun k => rfl), h.row 6 (fun k => rfl), h.row 7 (fun k => rfl), h.row 8 (fun k => rfl), h.row 9 (fun k => rfl), h.row 10 (fun k => rfl), h.row 11 (fun k => rfl)]
    exact g2
  · unfold XD at g3 ⊢
    rw [h.row 13 (fun k => rfl), h.row 14 (fun k => rfl), h.row 15 (fun k => rfl), h.row 16 (fun k => rfl), h.row 17 (fun k => rfl)]
    exact g3
  · rw [h 0 18 rfl, h 0 17 rfl]
    exact g4
  · exact XK_k (fun b a1 a2 => funext (fun k => h b k (tV_k a1 (by omega)))) g7
  · unfold XR at g8 ⊢
    obtain ⟨c1, c2⟩ := g8
    rcases c1 with c1 | c1
    · rw [c1] at c2 h ⊢
      simp only [] at c2 h ⊢
      rw [h 119 4 rfl, h.row 121 (fun k => rfl)]
      exact ⟨.inl trivial, c2⟩
    · rw [c1] at c2 h ⊢
      simp only [] at c2 h ⊢
      rw [h 124 4 rfl, h.row 126 (fun k => rfl)]
      exact ⟨.inr trivial, c2⟩
theorem Ms_sc {t : Nat} {G : gG} {ρ ρ' : pP} {I J : pI} {C : gC} {U : gU} (h : Fr tO I J) (h0 : ρ'.2.2.2 = ρ.2.2.2) (hC : MS 130 0 C (gP G) J) (hU : MU U (gP G) J) (g : Ms t G ρ I) : Ms (t + 1) (sUn (sN G C) U) ρ' J := by
  obtain ⟨g1, g2, g3, g4, g5, g6, g7, g8⟩ := g
  refine ⟨MT_k (h 129 10 rfl) (h.row 135 (fun k => rfl)) g1, ML_k (h 129 2 rfl) (h.row 131 (fun k => rfl)) (h.row 132 (fun k => rfl)) (h.row 133 (fun k => rfl)) g2, MD_k (h 129 7 rfl) (h.row 134 (fun k => rfl)) g3, ?_, hC, hU, MK_k (Nat.le_succ t) (h 129 52 rfl) (h.row 158 (fun k => rfl)) (h.row 159 (fun k => rfl)) (h.row 160 (fun k => rfl)) g7, ?_⟩
  · rw [h 129 6 rfl, h 129 1 rfl]
    exact g4
  · unfold MR at g8 ⊢
    rw [h0, h 129 24 rfl, h.row 140 (fun k => rfl)]
    exact g8
theorem XH_s {fX : jH → Option (Int32 × jH)} {G : gG} {v : Int32} (C : gC) (U : gU) (rw_ : gR) (h : ∀ q ρ L I, Xr G ρ L I → ∃ L' I', fX (hp q ρ L I) = some (v, hp q ρ L' I') ∧ Fr (tV ρ.1.1) I I' ∧ L' 136 = L 136 ∧ XW rw_ L' I' ∧ XS 19 C (gP G) I' ∧ XU U (gP G) I') : XH fX G v (sRw (sUn (sN G C) U) rw_) := by
  intro q ρ L I hq hX
  obtain ⟨L', I', e, hF, hL, hw, hC, hU⟩ := h q ρ L I hX
  exact ⟨q, ρ, L', I', e, ⟨Xs_sc (G := sRw G rw_) hF hC hU hX.1, hw⟩, ⟨rfl, hL, fun b h1 h2 => funext (fun k => hF b k (tV_m h1 h2))⟩, Nat.le_refl _, Nat.le_succ _, Nat.le_add_right _ _⟩
theorem MH_s {fM : jH → Option (Int32 × jH)} {G : gG} {v : Int32} (C : gC) (U : gU) (rw_ : gR) (h : ∀ t q ρ L I, Mr t G ρ L I → ∃ ρ' L' I', fM (hp q ρ L I) = some (v, hp q ρ' L' I') ∧ Fr tO I I' ∧ (ρ'.1 = ρ.1 ∧ ρ'.2.1 = ρ.2.1 ∧ ρ'.2.2.2 = ρ.2.2.2) ∧ L' 4 = L 4 ∧ MW rw_ L' I' ∧ MS 130 0 C (gP G) I' ∧ MU U (gP G) I') : MH fM G v (sRw (sUn (sN G C) U) rw_) := by
  intro t q ρ L I ht hM
  obtain ⟨ρ', L', I', e, hF, ⟨r1, r2, r3⟩, hL, hw, hC, hU⟩ := h t q ρ L I hM
  exact ⟨ρ', L', I', e, ⟨Ms_sc (G := sRw G rw_) hF r3 hC hU hM.1, hw⟩, ⟨r1, r2⟩, hL, fun b h1 => funext (fun k => hF b k (tO_x h1))⟩
/-! SCENES, in the reference -/
theorem MS_lay {a b o o' P : Nat} {C : gC} {I J : pI} (hP : P ≤ 4) (h : ∀ k, k < 44 → J b (o + k) = I a (o' + k)) (g : MS a o' C P I) : MS b o C P J := by
  obtain ⟨⟨g1, g2⟩, g3, g4⟩ := g
  refine ⟨⟨?_, ?_⟩, fun t ht => ⟨?_, ?_, ?_⟩, fun k hk => ?_⟩
  · rw [h 12 (by omega)]; exact g1
  · rw [h 13 (by omega)]; exact g2
  · rw [h t (by omega)]; exact (g3 t ht).1
  · rw [h (4 + t) (by omega)]; exact (g3 t ht).2.1
  · rw [h (8 + t) (by omega)]; exact (g3 t ht).2.2
  · rw [h (14 + k) (by omega)]; exact g4 k hk
theorem m_lay {q : pQ} {ρ : pP} {L : pL} {I : pI} {a b n o : Nat} (ha : Nat.blt a 162 = true) (ea : pS a = (100, 44)) (hb : Nat.blt b 162 = true) (eb : pS b = (100, n)) (hn : o + 44 ≤ n) (hn2 : n < 1000) (hne : a ≠ b) : ∃ J, f_X11_lay 5000 a b (nI o) (hp q ρ L I) = some (hp q ρ L J) ∧ (∀ k, k < 44 → J b (o + k) = I a k) ∧ (∀ k, k < o ∨ o + 44 ≤ k → J b k = I b k) ∧ ∀ c, c ≠ b → J c = I c := by
  have hn3 : Nat.blt n 2147483648 = true := by rw [Nat.blt_eq]; omega
  obtain ⟨J, e1, e2, e3, e4⟩ := loE (fun n (s : pI) j => f_X11_lay_L2 5000 a b (nI o) n (nI j) (hp q ρ L s)) (fun s => some (hp q ρ L s)) 44 (fun j s => (∀ k, k < j → s b (o + k) = I a k) ∧ (∀ k, k < o ∨ o + j ≤ k → s b k = I b k) ∧ ∀ c, c ≠ b → s c = I c) (by
    intro n s p
    rw [f_X11_lay_L2]
    simp (disch := first | omega | assumption) only [↓jn_, ↓ob_, ↓b2_, ↓reduceIte, nn_lt, nn_le, nn_eq, nI_add, pk_mul, nn_su, gn_lt, gn_le, ng_lt, ng_le, ng_eq, gn_eq, gg_eq, n_m1, n_cl, if_true, if_false, if_pos, if_neg, lt0, Nat.le_refl]) (by
    intro n s j hj p
    obtain ⟨p1, p2, p3⟩ := p
    refine ⟨j_up s b (o + j) (s a j), ?_, fun k hk => ?_, fun k hk => ?_, fun c hc => ?_⟩
    · rw [f_X11_lay_L2]
      simp (disch := first | omega | assumption) only [↓jn_, ↓ob_, ↓b2_, ↓reduceIte, nn_lt, nn_le, nn_eq, nI_add, pk_mul, nn_su, gn_lt, gn_le, ng_lt, ng_le, ng_eq, gn_eq, gg_eq, n_m1, n_cl, if_true, if_false, if_pos, if_neg, lt0, ↓oe (ha_I (q := q) (ρ := ρ) (L := L) (I := s) ha ea rfl hj), ↓oe (hb_I (q := q) (ρ := ρ) (L := L) (I := s) (j := o + j) hb eb hn3 (by omega))]
    · by_cases h : k = j
      · subst h
        rw [up_eq, p3 a hne]
      · rw [up_nk (by omega)]
        exact p1 k (by omega)
    · rw [up_nk (by omega)]
      exact p2 k (by omega)
    · rw [up_ne hc]
      exact p3 c hc) 44 5000 I 0 (by omega) (by omega) ⟨fun k hk => absurd hk (Nat.not_lt_zero k), fun k _ => rfl, fun c _ => rfl⟩
  exact ⟨J, e1, e2, e3, e4⟩
theorem m_shift {q : pQ} {ρ : pP} {L : pL} {I : pI} {a : Nat} {kk : jH → Option jH} : ∃ J, f_X11_remember_L11 5000 129 a kk 5000 (nI 0) (hp q ρ L I) = kk (hp q ρ L J) ∧ (∀ k, k < 484 → J 144 k = I 144 (k + 44)) ∧ ∀ c, c ≠ 144 → J c = I c := by
  obtain ⟨J, e1, e2, e3, e4⟩ := loE (fun n (s : pI) j => f_X11_remember_L11 5000 129 a kk n (nI j) (hp q ρ L s)) (fun s => kk (hp q ρ L s)) 484 (fun j s => (∀ k, k < j → s 144 k = I 144 (k + 44)) ∧ (∀ k, j ≤ k → s 144 k = I 144 k) ∧ ∀ c, c ≠ 144 → s c = I c) (by
    intro n s p
    rw [f_X11_remember_L11]
    simp (disch := first | omega | assumption) only [↓bM, ↓bMA, ↓jn_, ↓ob_, ↓b2_, ↓reduceIte, nn_lt, nn_le, nn_eq, nI_add, pk_mul, nn_su, gn_lt, gn_le, ng_lt, ng_le, ng_eq, gn_eq, gg_eq, n_m1, n_cl, if_true, if_false, if_pos, if_neg, lt0, Nat.le_refl]) (by
    intro n s j hj p
    obtain ⟨p1, p2, p3⟩ := p
    refine ⟨j_up s 144 j (s 144 (j + 44)), ?_, fun k hk => ?_, fun k hk => ?_, fun c hc => ?_⟩
    · rw [f_X11_remember_L11]
      simp (disch := first | omega | assumption) only [↓bM, ↓bMA, ↓jn_, ↓ob_, ↓b2_, ↓reduceIte, nn_lt, nn_le, nn_eq, nI_add, pk_mul, nn_su, gn_lt, gn_le, ng_lt, ng_le, ng_eq, gn_eq, gg_eq, n_m1, n_cl, if_true, if_false, if_pos, if_neg, lt0]
    · by_cases h : k = j
      · subst h
        rw [up_eq, p2 _ (by omega)]
      · rw [up_nk (by omega)]
        exact p1 k (by omega)
    · rw [up_nk (by omega)]
      exact p2 k (by omega)
    · rw [up_ne hc]
      exact p3 c hc) 484 5000 I 0 (by omega) (by omega) ⟨fun k hk => absurd hk (Nat.not_lt_zero k), fun k _ => rfl, fun c _ => rfl⟩
  exact ⟨J, e1, e2, e4⟩
theorem m_remember {q : pQ} {ρ : pP} {L : pL} {I : pI} {a P S : Nat} {U : gU} {C : gC} (ha : a = 130 ∨ a = 145) (hU : MU U P I) (hg : WU U P S) (hP : P ≤ 4) (hC : MS a 0 C P I) : ∃ J, f_X11_remember 5000 129 a (hp q ρ L I) = some (hp q ρ L J) ∧ MU (puU U C) P J ∧ Fr tRem I J := by
  have h12 := hg.1
  have fr : ∀ {J : pI} {x : Int32}, (∀ c, c ≠ 144 → (c ≠ 129 → J c = I c) ∧ ∀ k, k ≠ 29 → J 129 k = I 129 k) → Fr tRem I (j_up J 129 29 x) := by
    intro J x h
    refine Fr.up (fun b k e => ?_) rfl
    unfold tRem at e
    rw [Bool.or_eq_false_iff, Bool.and_eq_false_iff] at e
    have h1 : b ≠ 144 := fun g => by rw [g] at e; exact absurd e.1 (by decide)
    by_cases h2 : b = 129
    · subst h2
      have h3 : k ≠ 29 := fun g => by rw [g] at e; exact absurd e.2 (by decide)
      exact (h 129 (by omega)).2 k h3
    · rw [(h b h1).1 h2]
  by_cases h : U.1 < 12
  · obtain ⟨J, e1, e2, e3, e4⟩ := m_lay (q := q) (ρ := ρ) (L := L) (I := I) (a := a) (b := 144) (o := 44 * U.1) (n := 528) (by rcases ha with rfl | rfl <;> rfl) (by rcases ha with rfl | rfl <;> rfl) rfl rfl (by omega) (by omega) (by omega)
    have e29 : J 129 29 = nI U.1 := by rw [e4 129 (by omega)]; exact hU.1
    refine ⟨j_up J 129 29 (nI (U.1 + 1)), ?_, ?_, fr (fun c hc => ⟨fun _ => e4 c hc, fun k _ => by rw [e4 129 (by omega)]⟩)⟩
    · simp (disch := first | omega | assumption) only [f_X11_remember, ↓bM, ↓bMA, ↓jn_, ↓ob_, ↓b2_, ↓reduceIte, nn_lt, nn_le, nn_eq, nI_add, pk_mul, nn_su, gn_lt, gn_le, ng_lt, ng_le, ng_eq, gn_eq, gg_eq, n_m1, n_cl, if_true, if_false, if_pos, if_neg, lt0, hU.1, ↓oe e1, e29]
    · unfold puU
      rw [if_pos h]
      refine ⟨up_eq, fun i hi => ?_⟩
      simp only [] at hi ⊢
      by_cases hi2 : i = U.1
      · subst hi2
        rw [if_pos rfl]
        exact MS_lay hP (fun k hk => by rw [up_ne (by omega), e2 k hk, Nat.zero_add]) hC
      · rw [if_neg hi2]
        exact MS_lay (I := I) (o' := 44 * i) hP (fun k hk => by rw [up_ne (by omega), e3 _ (by omega)]) (hU.2 i (by omega))
  · have e12 : U.1 = 12 := by omega
    obtain ⟨J0, s1, s2, s3⟩ := m_shift (q := q) (ρ := ρ) (L := L) (I := I) (a := a) (kk := fun (h12 : jH) => (jg_I 11 29 h12 129).bind (fun v13 => (jp_I 11 29 h12 129 (v13 - nI 1)).bind (fun h14 => (jg_R 11 28 h14 129).bind (fun v3 => (jg_I 11 29 h14 129).bind (fun v4 => (f_X11_lay 5000 a v3 (nI 44 * v4) h14).bind (fun h5 => (jg_I 11 29 h5 129).bind (fun v6 => (jp_I 11 29 h5 129 (v6 + nI 1)).bind (fun h7 => some h7))))))))
    obtain ⟨J, e1, e2, e3, e4⟩ := m_lay (q := q) (ρ := ρ) (L := L) (I := j_up J0 129 29 (nI 11)) (a := a) (b := 144) (o := 44 * 11) (n := 528) (by rcases ha with rfl | rfl <;> rfl) (by rcases ha with rfl | rfl <;> rfl) rfl rfl (by omega) (by omega) (by omega)
    have e29 : J 129 29 = nI 11 := by rw [e4 129 (by omega)]; exact up_eq
    have h29 : J0 129 29 = nI 12 := by rw [s3 129 (by omega), hU.1, e12]
    refine ⟨j_up J 129 29 (nI 12), ?_, ?_, fr (fun c hc => ⟨fun h2 => by rw [e4 c hc, up_ne h2, s3 c hc], fun k hk => by rw [e4 129 (by omega), up_nk hk, s3 129 (by omega)]⟩)⟩
    · have e0 : f_X11_remember 5000 129 a (hp q ρ L I) = f_X11_remember_L11 5000 129 a (fun (h12 : jH) => (jg_I 11 29 h12 129).bind (fun v13 => (jp_I 11 29 h12 129 (v13 - nI 1)).bind (fun h14 => (jg_R 11 28 h14 129).bind (fun v3 => (jg_I 11 29 h14 129).bind (fun v4 => (f_X11_lay 5000 a v3 (nI 44 * v4) h14).bind (fun h5 => (jg_I 11 29 h5 129).bind (fun v6 => (jp_I 11 29 h5 129 (v6 + nI 1)).bind (fun h7 => some h7)))))))) 5000 (nI 0) (hp q ρ L I) := by
        simp (disch := first | omega | assumption) only [f_X11_remember, ↓bM, ↓jn_, hU.1, e12, lt0, if_true]
      rw [e0, s1]
      simp (disch := first | omega | assumption) only [↓bM, ↓bMA, ↓jn_, ↓ob_, ↓b2_, ↓reduceIte, nn_lt, nn_le, nn_eq, nI_add, pk_mul, nn_su, gn_lt, gn_le, ng_lt, ng_le, ng_eq, gn_eq, gg_eq, n_m1, n_cl, if_true, if_false, if_pos, if_neg, lt0, h29, up_eq]
      rw [show 12 - 1 = 11 from rfl]
      simp (disch := first | omega | assumption) only [↓bM, ↓bMA, ↓jn_, ↓ob_, ↓b2_, ↓reduceIte, nn_lt, nn_le, nn_eq, nI_add, pk_mul, nn_su, gn_lt, gn_le, ng_lt, ng_le, ng_eq, gn_eq, gg_eq, n_m1, n_cl, if_true, if_false, if_pos, if_neg, lt0, ↓oe e1, e29]
    · unfold puU
      rw [if_neg h]
      refine ⟨up_eq, fun i hi => ?_⟩
      simp only [] at hi ⊢
      by_cases hi2 : i = 11
      · subst hi2
        rw [if_pos rfl]
        exact MS_lay hP (fun k hk => by
          rw [up_ne (by omega), e2 k hk, Nat.zero_add]
          rcases ha with rfl | rfl
          · rw [up_ne (by omega), s3 130 (by omega)]
          · rw [up_ne (by omega), s3 145 (by omega)]) hC
      · rw [if_neg hi2]
        exact MS_lay (I := I) (o' := 44 * (i + 1)) hP (fun k hk => by rw [up_ne (by omega), e3 _ (by omega), up_ne (by omega), s2 _ (by omega), show 44 * i + k + 44 = 44 * (i + 1) + k by omega]) (hU.2 (i + 1) (by omega))
