/-! TRIP: the reference walks and looks -/
theorem div_256 {i : Nat} (h : i < 100000) : j_div (nI i) (nI 256) = some (nI (i / 256)) := by
  unfold j_div
  rw [if_neg (show ¬ nI 256 = 0 by decide), pk_div (by omega) (by omega) (by omega)]
theorem wlk_omB {S s X D : Nat} {v : gV} (bd : ∀ s X c, v s X = some c → c ≤ D) (hs : s < S) : om (wlkV S v s X) D = if s + 1 < S then min (if 0 < s then min (om (v s X) D) (om (v (s - 1) X) D) else om (v s X) D) (om (v (s + 1) X) D) else (if 0 < s then min (om (v s X) D) (om (v (s - 1) X) D) else om (v s X) D) := by
  have e1 : om (omin (v s X) (if 0 < s then v (s - 1) X else none)) D = if 0 < s then min (om (v s X) D) (om (v (s - 1) X) D) else om (v s X) D := by
    by_cases h : 0 < s
    · rw [if_pos h, if_pos h, om_om (bd _ _) (bd _ _)]
    · rw [if_neg h, if_neg h, omin_n]
  have bd1 : ∀ c, omin (v s X) (if 0 < s then v (s - 1) X else none) = some c → c ≤ D := fun c e => by
    rcases omin_s e with e | e
    · exact bd _ _ _ e
    · split at e
      · exact bd _ _ _ e
      · cases e
  unfold wlkV
  rw [if_pos hs]
  by_cases h : s + 1 < S
  · rw [if_pos h, if_pos h, om_om bd1 (bd _ _), e1]
  · rw [if_neg h, if_neg h, omin_n, e1]
theorem rV_w {O S s Z : Nat} {v : gV} : rV O (wlkV S v) s Z = wlkV S (rV O v) s Z := by
  unfold rV wlkV
  by_cases h : 255 - O ≤ Z
  · simp only [if_pos h]
  · simp only [if_neg h, ite_self]
    split <;> rfl
theorem m_mv1 {q : pQ} {ρ : pP} {L : pL} {I : pI} {O S pl k : Nat} {v : gV} (hO : O < 256) (hS : S ≤ 6) (hG : GV O S pl k v) (h1 : I 129 1 = nI S) (hC : MXr O S v I) {kk : jH → Option jH} : ∃ J, f_X11_move_L2 5000 129 kk 5000 (nI 0) (hp q ρ L I) = kk (hp q ρ L J) ∧ (∀ s Z, s < S → Z < 256 → J 152 (256 * s + Z) = nI (om (rV O (wlkV S v) s Z) 100000000)) ∧ ∀ c, c ≠ 152 → J c = I c := by
  obtain ⟨J, e1, e2, e3⟩ := loE (fun n (z : pI) j => f_X11_move_L2 5000 129 kk n (nI j) (hp q ρ L z)) (fun z => kk (hp q ρ L z)) 1536 (fun j z => (∀ s Z, s < S → Z < 256 → 256 * s + Z < j → z 152 (256 * s + Z) = nI (om (rV O (wlkV S v) s Z) 100000000)) ∧ ∀ c, c ≠ 152 → z c = I c) (by
    intro n z p
    rw [f_X11_move_L2]
    simp (disch := first | omega | assumption) only [↓bM, ↓bMA, nn_le, Nat.le_refl, if_true]) (by
    rintro n z j hj ⟨p1, p2⟩
    obtain ⟨s, hse⟩ : ∃ s, s = j / 256 := ⟨_, rfl⟩
    obtain ⟨Z, hZe⟩ : ∃ Z, Z = j % 256 := ⟨_, rfl⟩
    have hj2 : j = 256 * s + Z := by omega
    have hZ : Z < 256 := by omega
    have hs6 : s < 6 := by omega
    have dv := div_256 (i := j) (by omega)
    rw [← hse] at dv
    have z1 : z 129 1 = nI S := by rw [p2 129 (by omega)]; exact h1
    have fin : ∀ x : Int32, (s < S → x = nI (om (rV O (wlkV S v) s Z) 100000000)) → (∀ s' Z', s' < S → Z' < 256 → 256 * s' + Z' < j + 1 → j_up z 152 j x 152 (256 * s' + Z') = nI (om (rV O (wlkV S v) s' Z') 100000000)) ∧ ∀ c, c ≠ 152 → j_up z 152 j x c = I c := by
      intro x hx
      refine ⟨fun s' Z' c1 c2 c3 => ?_, fun c hc => by rw [up_ne hc]; exact p2 c hc⟩
      by_cases e : 256 * s' + Z' = j
      · have es : s' = s := by omega
        have eZ : Z' = Z := by omega
        rw [e, up_eq, es, eZ]
        exact hx (by omega)
      · rw [up_nk e]
        exact p1 s' Z' c1 c2 (by omega)
    by_cases hs : s < S
    · have bd : ∀ s X c, rV O v s X = some c → c ≤ 100000000 := fun s X c e => by have := rV_b hO hG e; omega
      have wo := wlk_omB (X := Z) bd hs
      rw [← rV_w] at wo
      have b0 := rV_om (s := s) (Z := Z) hO hG
      have b1 := rV_om (s := s - 1) (Z := Z) hO hG
      have b2 := rV_om (s := s + 1) (Z := Z) hO hG
      have e0 : z 151 j = nI (om (rV O v s Z) 100000000) := by rw [p2 151 (by omega), hj2]; exact hC s Z hs hZ
      by_cases g1 : 0 < s
      · have e1 : z 151 (j - 256) = nI (om (rV O v (s - 1) Z) 100000000) := by rw [p2 151 (by omega), show j - 256 = 256 * (s - 1) + Z by omega]; exact hC (s - 1) Z (by omega) hZ
        rw [if_pos g1] at wo
        by_cases g2 : s + 1 < S
        · have e2 : z 151 (j + 256) = nI (om (rV O v (s + 1) Z) 100000000) := by rw [p2 151 (by omega), show j + 256 = 256 * (s + 1) + Z by omega]; exact hC (s + 1) Z (by omega) hZ
          rw [if_pos g2] at wo
          refine ⟨_, ?_, fin _ (fun _ => by rw [wo])⟩
          rw [f_X11_move_L2]
          simp (disch := first | omega | assumption) only [↓bM, ↓bMA, ↓ob_, jn_, lt0, nn_le, if_neg, if_false, ↓oe dv, e0, e1, e2, z1, nI_add, nn_su, jm_nn]
        · rw [if_neg g2] at wo
          refine ⟨_, ?_, fin _ (fun _ => by rw [wo])⟩
          rw [f_X11_move_L2]
          simp (disch := first | omega | assumption) only [↓bM, ↓bMA, ↓ob_, jn_, lt0, nn_le, if_neg, if_false, if_pos, if_true, ↓oe dv, e0, e1, z1, nI_add, nn_su, jm_nn]
      · rw [if_neg g1] at wo
        by_cases g2 : s + 1 < S
        · have e2 : z 151 (j + 256) = nI (om (rV O v (s + 1) Z) 100000000) := by rw [p2 151 (by omega), show j + 256 = 256 * (s + 1) + Z by omega]; exact hC (s + 1) Z (by omega) hZ
          rw [if_pos g2] at wo
          refine ⟨_, ?_, fin _ (fun _ => by rw [wo])⟩
          rw [f_X11_move_L2]
          simp (disch := first | omega | assumption) only [↓bM, ↓bMA, ↓ob_, jn_, lt0, nn_le, if_neg, if_false, if_pos, if_true, ↓oe dv, e0, e2, z1, nI_add, nn_su, jm_nn]
        · rw [if_neg g2] at wo
          refine ⟨_, ?_, fin _ (fun _ => by rw [wo])⟩
          rw [f_X11_move_L2]
          simp (disch := first | omega | assumption) only [↓bM, ↓bMA, ↓ob_, jn_, lt0, nn_le, if_neg, if_false, if_pos, if_true, ↓oe dv, e0, z1, nI_add, nn_su, jm_nn]
    · refine ⟨_, ?_, fin (nI 100000000) (fun h => absurd h hs)⟩
      rw [f_X11_move_L2]
      by_cases g1 : 0 < s
      · simp (disch := first | omega | assumption) only [↓bM, ↓bMA, ↓ob_, jn_, lt0, nn_le, if_neg, if_false, if_pos, if_true, ↓oe dv, z1, nI_add, nn_su]
      · simp (disch := first | omega | assumption) only [↓bM, ↓bMA, ↓ob_, jn_, lt0, nn_le, if_neg, if_false, if_pos, if_true, ↓oe dv, z1, nI_add, nn_su]) 1536 5000 I 0 (by omega) (by omega) ⟨fun _ _ _ _ h => absurd h (Nat.not_lt_zero _), fun _ _ => rfl⟩
  exact ⟨J, e1, fun s Z c1 c2 => e2 s Z c1 c2 (by omega), e3⟩
theorem m_move {q : pQ} {ρ : pP} {L : pL} {I : pI} {O S pl k : Nat} {v : gV} (hO : O < 256) (hS : S ≤ 6) (hG : GV O S pl k v) (h1 : I 129 1 = nI S) (hC : MXr O S v I) : ∃ J, f_X11_move 5000 129 (hp q ρ L I) = some (hp q ρ L J) ∧ MXr O S (wlkV S v) J ∧ ∀ c, c ≠ 151 → c ≠ 152 → J c = I c := by
  obtain ⟨J1, a1, a2, a3⟩ := m_mv1 (q := q) (ρ := ρ) (L := L) hO hS hG h1 hC (kk := fun (h22 : jH) => f_X11_move_L97 5000 129 5000 (nI 0) h22)
  obtain ⟨J, e1, e2, e3⟩ := loE (fun n (z : pI) j => f_X11_move_L97 5000 129 n (nI j) (hp q ρ L z)) (fun z => some (hp q ρ L z)) 1536 (fun j z => (∀ i, i < j → z 151 i = J1 152 i) ∧ ∀ c, c ≠ 151 → z c = J1 c) (by
    intro n z p
    rw [f_X11_move_L97]
    simp (disch := first | omega | assumption) only [↓bM, ↓bMA, nn_le, Nat.le_refl, if_true]) (by
    rintro n z j hj ⟨p1, p2⟩
    have e : z 152 j = J1 152 j := by rw [p2 152 (by omega)]
    refine ⟨j_up z 151 j (J1 152 j), ?_, fun i hi => ?_, fun c hc => by rw [up_ne hc]; exact p2 c hc⟩
    · rw [f_X11_move_L97]
      simp (disch := first | omega | assumption) only [↓bM, ↓bMA, ↓ob_, lt0, nn_le, if_neg, if_false, e, nI_add]
    · by_cases g : i = j
      · rw [g, up_eq]
      · rw [up_nk g]
        exact p1 i (by omega)) 1536 5000 J1 0 (by omega) (by omega) ⟨fun _ h => absurd h (Nat.not_lt_zero _), fun _ _ => rfl⟩
  refine ⟨J, ?_, fun s Z c1 c2 => by rw [e2 _ (by omega)]; exact a2 s Z c1 c2, fun c c1 c2 => by rw [e3 c c1, a3 c c2]⟩
  simp (disch := first | omega | assumption) only [f_X11_move, ↓bM, lt0]
  exact a1.trans e1
/-- the least at all stations, against the best so far -/
theorem olt_st {e x b : Option Nat} : (olt x (omin b e) = true → olt (omin e x) b = true ∧ omin b (omin e x) = x) ∧ (olt x (omin b e) = false → olt (omin e x) b = olt e b ∧ omin b (omin e x) = omin b e) := by
  cases e with
  | none =>
    cases x with
    | none => exact ⟨fun h => (by cases h), fun _ => ⟨rfl, rfl⟩⟩
    | some x =>
      cases b with
      | none => exact ⟨fun _ => ⟨rfl, rfl⟩, fun h => by cases h⟩
      | some b =>
        refine ⟨fun h => ⟨h, ?_⟩, fun h => ⟨h, ?_⟩⟩
        · have := of_decide_eq_true h
          show some (min b x) = some x
          rw [Nat.min_eq_right (by omega)]
        · have := of_decide_eq_false h
          show some (min b x) = some b
          rw [Nat.min_eq_left (by omega)]
  | some e =>
    cases x with
    | none => exact ⟨fun h => (by cases h), fun _ => ⟨rfl, rfl⟩⟩
    | some x =>
      cases b with
      | none =>
        refine ⟨fun h => ⟨rfl, ?_⟩, fun h => ⟨rfl, ?_⟩⟩
        · have := of_decide_eq_true h
          show some (min e x) = some x
          rw [Nat.min_eq_right (by omega)]
        · have := of_decide_eq_false h
          show some (min e x) = some e
          rw [Nat.min_eq_left (by omega)]
      | some b =>
        refine ⟨fun h => ⟨?_, ?_⟩, fun h => ⟨?_, ?_⟩⟩
        · have := of_decide_eq_true h
          show decide (min e x < b) = true
          rw [decide_eq_true_iff]
          omega
        · have := of_decide_eq_true h
          show some (min b (min e x)) = some x
          congr 1
          omega
        · have := of_decide_eq_false h
          show decide (min e x < b) = decide (e < b)
          by_cases g : e < b
          · rw [decide_eq_true g, decide_eq_true (by omega)]
          · rw [decide_eq_false g, decide_eq_false (by omega)]
        · have := of_decide_eq_false h
          show some (min b (min e x)) = some (min b e)
          congr 1
          omega
theorem m_best {q : pQ} {ρ : pP} {L : pL} {O S pl k : Nat} {v : gV} {b h : Option Nat} {x1 x2 : Int32} (hO : O < 256) (hS : S ≤ 6) (hG : GV O S pl k v) (hb : ∀ c, b = some c → c ≤ 594 * O) (hk : k ≤ 12) {kk : Int32 → jH → Option (Int32 × jH)} : ∀ n s N (J : pI), s + n = S → n < N → J 129 1 = nI S → MXr O S v J → J 129 42 = eo (bif olt (fo (fun s a => omin a (v s O)) 0 s none) b then some k else h) → ∃ J', f_X11_leastTrip_L102 5000 129 x1 x2 (nI k) kk N (nI (om (omin b (fo (fun s a => omin a (v s O)) 0 s none)) 100000000)) (nI s) (hp q ρ L J) = kk (nI (om (omin b (bsV O S v)) 100000000)) (hp q ρ L J') ∧ J' 129 42 = eo (bif olt (bsV O S v) b then some k else h) ∧ (∀ i, i ≠ 42 → J' 129 i = J 129 i) ∧ ∀ c, c ≠ 129 → J' c = J c
  | _, _, 0, _, _, h, _, _, _ => absurd h (Nat.not_lt_zero _)
  | 0, s, N + 1, J, h1, h2, h3, hC, h4 => by
    have : s = S := by omega
    subst this
    refine ⟨J, ?_, h4, fun _ _ => rfl, fun _ _ => rfl⟩
    rw [f_X11_leastTrip_L102]
    simp (disch := first | omega | assumption) only [↓bM, h3, nn_le, Nat.le_refl, if_true]
    rfl
  | n + 1, s, N + 1, J, h1, h2, h3, hC, h4 => by
    obtain ⟨e, hee⟩ : ∃ e, e = fo (fun s a => omin a (v s O)) 0 s none := ⟨_, rfl⟩
    have es : fo (fun s a => omin a (v s O)) 0 (s + 1) none = omin e (v s O) := by rw [fo_last, Nat.zero_add, ← hee]
    have eb : ∀ c, e = some c → c ≤ 594 * O := fun c hc => by rw [hee] at hc; exact bsV_le hG s c hc
    have bb : ∀ c, omin b e = some c → c < 100000000 := fun c hc => by
      rcases omin_s hc with hc | hc
      · have := hb c hc; omega
      · have := eb c hc; omega
    have xb : ∀ c, v s O = some c → c < 100000000 := fun c hc => by have := GV_b hO hG hc; omega
    have o1 : om (omin b e) 100000000 ≤ 100000000 := by
      cases hh : omin b e with
      | none => exact Nat.le_refl _
      | some c => exact Nat.le_of_lt (bb c hh)
    have o2 : om (v s O) 100000000 ≤ 100000000 := GV_om hO hG (by omega)
    have ce := hC s 255 (by omega) (by omega)
    have rz : rV O v s 255 = v s O := by
      unfold rV
      rw [if_pos (by omega), show 255 - (255 - O) = O by omega]
    rw [rz] at ce
    have ol := om_lt xb bb
    rw [← hee] at h4 ⊢
    have ix : 256 * s + 256 - 1 = 256 * s + 255 := by omega
    cases hl : olt (v s O) (omin b e) with
    | true =>
      obtain ⟨s1, s2⟩ := olt_st.1 hl
      have hlt : nI (om (v s O) 100000000) < nI (om (omin b e) 100000000) := by rw [nn_lt (by omega) (by omega), ol]; exact hl
      obtain ⟨J', a1, a2, a3, a4⟩ := m_best (q := q) (ρ := ρ) (L := L) (h := h) (x1 := x1) (x2 := x2) hO hS hG hb hk (kk := kk) n (s + 1) N (j_up J 129 42 (nI k)) (by omega) (by omega) (by rw [up_nk (by omega)]; exact h3) (fun s' Z' c1 c2 => by rw [up_ne (by omega)]; exact hC s' Z' c1 c2) (by rw [es, s1, up_eq]; rfl)
      rw [es, s2] at a1
      refine ⟨J', ?_, a2, fun i hi => by rw [a3 i hi, up_nk hi], fun c hc => by rw [a4 c hc, up_ne hc]⟩
      rw [f_X11_leastTrip_L102]
      simp (disch := first | omega | assumption) only [↓bM, ↓bMA, ↓ob_, jn_, lt0, h3, nn_le, if_neg, if_false, pk_mul, nI_add, nn_su, ix, ce, if_pos hlt]
      exact a1
    | false =>
      obtain ⟨s1, s2⟩ := olt_st.2 hl
      have hlt : ¬ nI (om (v s O) 100000000) < nI (om (omin b e) 100000000) := by rw [nn_lt (by omega) (by omega), ol, hl]; exact fun h => by cases h
      obtain ⟨J', a1, a2, a3, a4⟩ := m_best (q := q) (ρ := ρ) (L := L) (h := h) (x1 := x1) (x2 := x2) hO hS hG hb hk (kk := kk) n (s + 1) N J (by omega) (by omega) h3 hC (by rw [es, s1]; exact h4)
      rw [es, s2] at a1
      refine ⟨J', ?_, a2, a3, a4⟩
      rw [f_X11_leastTrip_L102]
      simp (disch := first | omega | assumption) only [↓bM, ↓bMA, ↓ob_, jn_, lt0, h3, nn_le, if_neg, if_false, pk_mul, nI_add, nn_su, ix, ce, if_neg hlt]
      exact a1
