/-! TRIP: the class walks, looks, goes by hours -/
theorem jm_nn {a b : Nat} (ha : a < 2147483648) (hb : b < 2147483648) : j_min (nI a) (nI b) = nI (min a b) := by
  unfold j_min
  by_cases h : b < a
  · rw [if_pos (by rw [nn_lt hb ha]; exact h), Nat.min_eq_right (by omega)]
  · rw [if_neg (by rw [nn_lt hb ha]; exact h), Nat.min_eq_left (by omega)]
theorem wlk_om {O S pl k s X D : Nat} {v : gV} (hO : O < 256) (hG : GV O S pl k v) (hD : 151470 ≤ D) (hs : s < S) : om (wlkV S v s X) D = if s + 1 < S then min (if 0 < s then min (om (v s X) D) (om (v (s - 1) X) D) else om (v s X) D) (om (v (s + 1) X) D) else (if 0 < s then min (om (v s X) D) (om (v (s - 1) X) D) else om (v s X) D) := by
  have bd : ∀ s X c, v s X = some c → c ≤ D := fun s X c e => by have := GV_b hO hG e; omega
  have e1 : om (omin (v s X) (if 0 < s then v (s - 1) X else none)) D = if 0 < s then min (om (v s X) D) (om (v (s - 1) X) D) else om (v s X) D := by
    by_cases h : 0 < s
    · rw [if_pos h, if_pos h, om_om (bd _ _) (bd _ _)]
    · rw [if_neg h, if_neg h, omin_n]
  have bd1 : ∀ c, omin (v s X) (if 0 < s then v (s - 1) X else none) = some c → c ≤ D := fun c e => by
    rcases omin_s e with e | e
    · exact bd _ _ _ e
    · split at e
      · exact bd _ _ _ e
      · cases e
  unfold wlkV
  rw [if_pos hs]
  by_cases h : s + 1 < S
  · rw [if_pos h, if_pos h, om_om bd1 (bd _ _), e1]
  · rw [if_neg h, if_neg h, omin_n, e1]
theorem x_wkI {q : pQ} {ρ : pP} {L : pL} {O S pl k s A B : Nat} {v : gV} (hAB : (A = 112 ∧ B = 113) ∨ (A = 113 ∧ B = 112)) (hρ : ρ.2.1 = (A, B)) (hO : O < 256) (hs : s < S) (hS : S ≤ 6) (hG : GV O S pl k v) {kk : jH → Option jH} : ∀ n X N (J : pI), X + n = O + 1 → n < N → CX O S v A J → J 108 7 = nI O → J 108 8 = nI S → (∀ Y, Y < X → J B (s * 256 + Y) = nI (om (wlkV S v s Y) 1000000)) → ∃ J', f_X5_walkOn_L12 5000 108 (nI s) kk N (nI X) (hp q ρ L J) = kk (hp q ρ L J') ∧ (∀ Y, Y ≤ O → J' B (s * 256 + Y) = nI (om (wlkV S v s Y) 1000000)) ∧ (∀ i, i < s * 256 ∨ s * 256 + 256 ≤ i → J' B i = J B i) ∧ ∀ b, b ≠ B → J' b = J b
  | _, _, 0, _, _, h, _, _, _, _ => absurd h (Nat.not_lt_zero _)
  | 0, X, N + 1, J, h1, h2, hC, h7, h8, h9 => by
    refine ⟨J, ?_, fun Y hY => h9 Y (by omega), fun _ _ => rfl, fun _ _ => rfl⟩
    rw [f_X5_walkOn_L12]
    simp (disch := first | omega | assumption) only [↓bX, h7, nn_lt, if_pos]
  | n + 1, X, N + 1, J, h1, h2, hC, h7, h8, h9 => by
    have hA : A = 112 ∨ A = 113 := by omega
    have hB : B = 112 ∨ B = 113 := by omega
    have r1 : ρ.2.1.1 = A := by rw [hρ]
    have r2 : ρ.2.1.2 = B := by rw [hρ]
    have bd : ∀ s X, om (v s X) 1000000 ≤ 1000000 := fun s X => GV_om hO hG (by omega)
    have b0 := bd s X
    have b1 := bd (s - 1) X
    have b2 := bd (s + 1) X
    have e0 := hC s X hs (by omega)
    have key : ∀ z, z = om (wlkV S v s X) 1000000 → ∃ J', f_X5_walkOn_L12 5000 108 (nI s) kk N (nI (X + 1)) (hp q ρ L (j_up J B (s * 256 + X) (nI z))) = kk (hp q ρ L J') ∧ (∀ Y, Y ≤ O → J' B (s * 256 + Y) = nI (om (wlkV S v s Y) 1000000)) ∧ (∀ i, i < s * 256 ∨ s * 256 + 256 ≤ i → J' B i = J B i) ∧ ∀ b, b ≠ B → J' b = J b := by
      intro z hz
      obtain ⟨J', a1, a2, a3, a4⟩ := x_wkI (q := q) (L := L) hAB hρ hO hs hS hG (kk := kk) n (X + 1) N (j_up J B (s * 256 + X) (nI z)) (by omega) (by omega) (fun s' Y c1 c2 => by rw [up_ne (by omega)]; exact hC s' Y c1 c2) (by rw [up_ne (by omega)]; exact h7) (by rw [up_ne (by omega)]; exact h8) (fun Y hY => by
        by_cases e : Y = X
        · rw [e, up_eq, hz]
        · rw [up_nk (by omega)]
          exact h9 Y (by omega))
      exact ⟨J', a1, a2, fun i hi => by rw [a3 i hi, up_nk (by omega)], fun b hb => by rw [a4 b hb, up_ne hb]⟩
    have wo := wlk_om (X := X) (D := 1000000) hO hG (by omega) hs
    rw [f_X5_walkOn_L12]
    by_cases g1 : 0 < s
    · rw [if_pos g1] at wo
      have e1 := hC (s - 1) X (by omega) (by omega)
      by_cases g2 : s + 1 < S
      · rw [if_pos g2] at wo
        have e2 := hC (s + 1) X g2 (by omega)
        simp (disch := first | omega | assumption) only [↓bX, lt0, h7, h8, nn_lt, nn_le, if_neg, if_false, r1, r2, pk_mul, nI_add, nn_su, kP hA, kP hB, ↓ob_, jn_, e0, e1, e2, jm_nn]
        exact key _ wo.symm
      · rw [if_neg g2] at wo
        simp (disch := first | omega | assumption) only [↓bX, lt0, h7, h8, nn_lt, nn_le, if_neg, if_false, if_pos, if_true, r1, r2, pk_mul, nI_add, nn_su, kP hA, kP hB, ↓ob_, jn_, e0, e1, jm_nn]
        exact key _ wo.symm
    · rw [if_neg g1] at wo
      by_cases g2 : s + 1 < S
      · rw [if_pos g2] at wo
        have e2 := hC (s + 1) X g2 (by omega)
        simp (disch := first | omega | assumption) only [↓bX, lt0, h7, h8, nn_lt, nn_le, if_neg, if_false, if_pos, if_true, r1, r2, pk_mul, nI_add, nn_su, kP hA, kP hB, ↓ob_, jn_, e0, e2, jm_nn]
        exact key _ wo.symm
      · rw [if_neg g2] at wo
        simp (disch := first | omega | assumption) only [↓bX, lt0, h7, h8, nn_lt, nn_le, if_neg, if_false, if_pos, if_true, r1, r2, pk_mul, nI_add, nn_su, kP hA, kP hB, ↓ob_, jn_, e0, jm_nn]
        exact key _ wo.symm
theorem x_wkS {q : pQ} {ρ : pP} {L : pL} {O S pl k A B : Nat} {v : gV} (hAB : (A = 112 ∧ B = 113) ∨ (A = 113 ∧ B = 112)) (hρ : ρ.2.1 = (A, B)) (hO : O < 256) (hS : S ≤ 6) (hG : GV O S pl k v) {kk : jH → Option jH} : ∀ n s N (J : pI), s + n = S → n < N → CX O S v A J → J 108 7 = nI O → J 108 8 = nI S → (∀ s', s' < s → ∀ Y, Y ≤ O → J B (s' * 256 + Y) = nI (om (wlkV S v s' Y) 1000000)) → ∃ J', f_X5_walkOn_L2 5000 108 kk N (nI s) (hp q ρ L J) = kk (hp q ρ L J') ∧ CX O S (wlkV S v) B J' ∧ ∀ b, b ≠ B → J' b = J b
  | _, _, 0, _, _, h, _, _, _, _ => absurd h (Nat.not_lt_zero _)
  | 0, s, N + 1, J, h1, h2, hC, h7, h8, h9 => by
    refine ⟨J, ?_, fun s' Y c1 c2 => h9 s' (by omega) Y c2, fun _ _ => rfl⟩
    rw [f_X5_walkOn_L2]
    simp (disch := first | omega | assumption) only [↓bX, h8, nn_le, if_pos]
  | n + 1, s, N + 1, J, h1, h2, hC, h7, h8, h9 => by
    obtain ⟨J1, a1, a2, a3, a4⟩ := x_wkI (q := q) (L := L) hAB hρ hO (show s < S by omega) hS hG (kk := fun (h16 : jH) => f_X5_walkOn_L2 5000 108 kk N (nI (s + 1)) h16) (O + 1) 0 5000 J (by omega) (by omega) hC h7 h8 (fun Y hY => absurd hY (Nat.not_lt_zero Y))
    obtain ⟨J2, b1, b2, b3⟩ := x_wkS (q := q) (L := L) hAB hρ hO hS hG (kk := kk) n (s + 1) N J1 (by omega) (by omega) (fun s' Y c1 c2 => by rw [a4 A (by omega)]; exact hC s' Y c1 c2) (by rw [a4 108 (by omega)]; exact h7) (by rw [a4 108 (by omega)]; exact h8) (fun s' hs' Y hY => by
      by_cases e : s' = s
      · rw [e]
        exact a2 Y hY
      · rw [a3 _ (by omega)]
        exact h9 s' (by omega) Y hY)
    refine ⟨J2, ?_, b2, fun b hb => by rw [b3 b hb, a4 b hb]⟩
    rw [f_X5_walkOn_L2]
    simp (disch := first | omega | assumption) only [↓bX, lt0, h8, nn_le, if_neg, if_false, nI_add]
    exact a1.trans b1
theorem x_walkOn {q : pQ} {ρ1 : Nat × Nat} {ρ3 : Option Nat × (Nat × Nat)} {L : pL} {I : pI} {O S pl k A B : Nat} {v : gV} (hAB : (A = 112 ∧ B = 113) ∨ (A = 113 ∧ B = 112)) (hO : O < 256) (hS : S ≤ 6) (hG : GV O S pl k v) (hC : CX O S v A I) (h7 : I 108 7 = nI O) (h8 : I 108 8 = nI S) : ∃ J', f_X5_walkOn 5000 108 (hp q (ρ1, (A, B), ρ3) L I) = some (hp q (ρ1, (B, A), ρ3) L J') ∧ CX O S (wlkV S v) B J' ∧ ∀ b, b ≠ B → J' b = I b := by
  obtain ⟨J', a1, a2, a3⟩ := x_wkS (q := q) (ρ := (ρ1, (A, B), ρ3)) (L := L) hAB rfl hO hS hG (kk := fun (h17 : jH) =>
      (jg_R 5 5 h17 108).bind (fun v18 =>
      (jg_R 5 6 h17 108).bind (fun v19 =>
      (jp_R 5 5 h17 108 v19).bind (fun h20 =>
      (jp_R 5 6 h20 108 v18).bind (fun h21 =>
      some h21))))) S 0 5000 I (by omega) (by omega) hC h7 h8 (fun s' hs' => absurd hs' (Nat.not_lt_zero s'))
  refine ⟨J', ?_, a2, a3⟩
  simp (disch := first | omega | assumption) only [f_X5_walkOn, ↓bX, lt0]
  refine a1.trans ?_
  simp (disch := first | omega | assumption) only [↓bX, ↓oe (hR55 _ _ _ _ _), ↓oe (hR56 _ _ _ _ _)]
theorem x_chL {q : pQ} {ρ : pP} {L : pL} {I : pI} {O S pl k A : Nat} {v : gV} (hA : A = 112 ∨ A = 113) (hρ : ρ.2.1.1 = A) (hO : O < 256) (hS : S ≤ 6) (hG : GV O S pl k v) (hC : CX O S v A I) (h7 : I 108 7 = nI O) (h8 : I 108 8 = nI S) {kk : Int32 → jH → Option (Int32 × jH)} : ∀ n s N, s + n = S → n < N → f_X5_isCheaperNow_L5 5000 108 kk N (nI (om (fo (fun s a => omin a (v s O)) 0 s none) 1000000)) (nI s) (hp q ρ L I) = kk (nI (om (bsV O S v) 1000000)) (hp q ρ L I)
  | _, _, 0, _, h => absurd h (Nat.not_lt_zero _)
  | 0, s, N + 1, h1, h2 => by
    have : s = S := by omega
    subst this
    rw [f_X5_isCheaperNow_L5]
    simp (disch := first | omega | assumption) only [↓bX, h8, nn_le, Nat.le_refl, if_true]
    rfl
  | n + 1, s, N + 1, h1, h2 => by
    have e := hC s O (by omega) (Nat.le_refl O)
    have b1 := GV_om (s := s) (X := O) hO hG (D := 1000000) (by omega)
    have bp : ∀ c, fo (fun s a => omin a (v s O)) 0 s none = some c → c ≤ 1000000 := fun c hc => by have := bsV_le hG s c hc; omega
    have b2 : om (fo (fun s a => omin a (v s O)) 0 s none) 1000000 ≤ 1000000 := by
      cases hh : fo (fun s a => omin a (v s O)) 0 s none with
      | none => exact Nat.le_refl _
      | some c => exact bp c hh
    have ih := x_chL (q := q) (ρ := ρ) (L := L) hA hρ hO hS hG hC h7 h8 (kk := kk) n (s + 1) N (by omega) (by omega)
    rw [fo_last, Nat.zero_add, om_om bp (fun c hc => by have := GV_b hO hG hc; omega)] at ih
    rw [f_X5_isCheaperNow_L5]
    simp (disch := first | omega | assumption) only [↓bX, lt0, h7, h8, nn_le, if_neg, if_false, hρ, pk_mul, nI_add, kP hA, ↓ob_, e, jm_nn]
    exact ih
theorem x_cheap {q : pQ} {ρ : pP} {L : pL} {I : pI} {O S pl k A : Nat} {v : gV} {b : Option Nat} (hA : A = 112 ∨ A = 113) (hρ : ρ.2.1.1 = A) (hO : O < 256) (hS : S ≤ 6) (hG : GV O S pl k v) (hC : CX O S v A I) (h7 : I 108 7 = nI O) (h8 : I 108 8 = nI S) (h2 : I 108 2 = nI (om b 1000000)) (hb : ∀ c, b = some c → c ≤ 594 * O) : ∃ J, f_X5_isCheaperNow 5000 108 (hp q ρ L I) = some (bo (olt (bsV O S v) b), hp q ρ L J) ∧ J 108 2 = nI (om (bif olt (bsV O S v) b then bsV O S v else b) 1000000) ∧ (∀ k, k ≠ 2 → J 108 k = I 108 k) ∧ ∀ a, a ≠ 108 → J a = I a := by
  have be : ∀ c, bsV O S v = some c → c < 1000000 := fun c hc => by have := bsV_le hG S c hc; omega
  have bb : ∀ c, b = some c → c < 1000000 := fun c hc => by have := hb c hc; omega
  have ol := om_lt be bb
  have o1 : om (bsV O S v) 1000000 ≤ 1000000 := by
    cases hh : bsV O S v with
    | none => exact Nat.le_refl _
    | some c => exact Nat.le_of_lt (be c hh)
  have o2 : om b 1000000 ≤ 1000000 := by
    cases hh : b with
    | none => exact Nat.le_refl _
    | some c => exact Nat.le_of_lt (bb c hh)
  have lp := x_chL (q := q) (ρ := ρ) (L := L) hA hρ hO hS hG hC h7 h8 (kk := fun (y5 : Int32) (h6 : jH) =>
      (jg_I 5 2 h6 108).bind (fun v7 =>
      if y5 < v7 then
        (jp_I 5 2 h6 108 y5).bind (fun h8 =>
        some (nI 1, h8))
      else
        some (nI 0, h6))) S 0 5000 (by omega) (by omega)
  cases hl : olt (bsV O S v) b with
  | true =>
    refine ⟨j_up I 108 2 (nI (om (bsV O S v) 1000000)), ?_, by rw [up_eq]; rfl, fun k hk => up_nk hk, fun a ha => up_ne ha⟩
    have hlt : nI (om (bsV O S v) 1000000) < nI (om b 1000000) := by rw [nn_lt (by omega) (by omega), ol]; exact hl
    simp (disch := first | omega | assumption) only [f_X5_isCheaperNow, ↓bX, lt0]
    refine lp.trans ?_
    simp (disch := first | omega | assumption) only [↓bX, ↓ob_, h2, if_pos hlt, bo_t]
  | false =>
    refine ⟨I, ?_, h2, fun k hk => rfl, fun a ha => rfl⟩
    have hlt : ¬ nI (om (bsV O S v) 1000000) < nI (om b 1000000) := by rw [nn_lt (by omega) (by omega), ol, hl]; exact fun h => by cases h
    simp (disch := first | omega | assumption) only [f_X5_isCheaperNow, ↓bX, lt0]
    refine lp.trans ?_
    simp (disch := first | omega | assumption) only [↓bX, ↓ob_, h2, if_neg hlt, bo_f]
theorem x_fillP {q : pQ} {ρ : pP} {L : pL} {A : Nat} {x : Int32} (hA : A = 112 ∨ A = 113) : ∀ m j N (I : pI), j + m = 1536 → m < N → (∀ i, i < j → I A i = x) → ∃ J, f_J7_fill_53178_L5 5000 A x (nI 1536) N (nI j) (hp q ρ L I) = some (hp q ρ L J) ∧ (∀ i, i < 1536 → J A i = x) ∧ ∀ b, b ≠ A → J b = I b := by
  intro m j N I h1 h2 h3
  obtain ⟨J, e1, e2⟩ := loE (fun n (z : pI) j => f_J7_fill_53178_L5 5000 A x (nI 1536) n (nI j) (hp q ρ L z)) (fun z => some (hp q ρ L z)) 1536 (fun j z => (∀ i, i < j → z A i = x) ∧ ∀ b, b ≠ A → z b = I b) (by
    intro n z p
    rw [f_J7_fill_53178_L5]
    simp (disch := first | omega | assumption) only [nn_le, Nat.le_refl, if_true]) (by
    rintro n z j hj ⟨p1, p2⟩
    refine ⟨j_up z A j x, ?_, fun i hi => ?_, fun b hb => by rw [up_ne hb]; exact p2 b hb⟩
    · rw [f_J7_fill_53178_L5]
      simp (disch := first | omega | assumption) only [lt0, nn_le, if_neg, if_false, kP hA, ↓ob_, nI_add]
    · by_cases e : i = j
      · rw [e, up_eq]
      · rw [up_nk e]
        exact p1 i (by omega)) m N I j h1 h2 ⟨h3, fun _ _ => rfl⟩
  exact ⟨J, e1, e2⟩
theorem x_begin {q : pQ} {ρ : pP} {L : pL} {I : pI} {O S pl A : Nat} (hA : A = 112 ∨ A = 113) (hρ : ρ.2.1.1 = A) (hO : O < 256) (hS : S ≤ 6) (hpl : pl < S) : ∃ J, f_X5_begin 5000 108 (nI O) (nI pl) (nI S) (hp q ρ L I) = some (hp q ρ L J) ∧ (J 108 7 = nI O ∧ J 108 3 = bc (nI O) ∧ J 108 8 = nI S ∧ J 108 2 = nI 1000000) ∧ CX O S (stt pl) A J ∧ ∀ b, b ≠ A → b ≠ 108 → J b = I b := by
  obtain ⟨K, hK⟩ : ∃ K, K = j_up (j_up (j_up (j_up I 108 7 (nI O)) 108 3 (bc (nI O))) 108 8 (nI S)) 108 2 (nI 1000000) := ⟨_, rfl⟩
  obtain ⟨J, e1, e2, e3⟩ := x_fillP (q := q) (ρ := ρ) (L := L) (x := nI 1000000) hA 1536 0 5000 K (by omega) (by omega) (fun i hi => absurd hi (Nat.not_lt_zero i))
  refine ⟨j_up J A (pl * 256) (nI 0), ?_, ⟨?_, ?_, ?_, ?_⟩, fun s X hs hX => ?_, fun b b1 b2 => ?_⟩
  · simp (disch := first | omega | assumption) only [f_X5_begin, f_J7_fill_53178, ↓bX, ↓ob_, lt0, ↓b2e (bc_eq _ _), hρ, kP hA, pk_mul]
    rw [← hK, e1, ob]
    simp (disch := first | omega | assumption) only [↓bX, hρ, kP hA, ↓ob_]
  · rw [up_ne (by omega), e3 108 (by omega), hK, up_nk (by omega), up_nk (by omega), up_nk (by omega), up_eq]
  · rw [up_ne (by omega), e3 108 (by omega), hK, up_nk (by omega), up_nk (by omega), up_eq]
  · rw [up_ne (by omega), e3 108 (by omega), hK, up_nk (by omega), up_eq]
  · rw [up_ne (by omega), e3 108 (by omega), hK, up_eq]
  · unfold stt
    by_cases g : s = pl ∧ X = 0
    · rw [if_pos g, om_s, g.1, g.2, Nat.add_zero, up_eq]
    · rw [if_neg g, om_n, up_nk (by omega)]
      exact e2 _ (by omega)
  · rw [up_ne b1, e3 b b1, hK, up_ne b2, up_ne b2, up_ne b2, up_ne b2]
theorem sayA_hi {O S pl k W : Nat} {B P : Nat → Nat → Nat} {v : gV} {s : Nat} (hP : ∀ w s, w < W → P w s ≤ 594) (hG : GV O S pl k v) (h : pl + k < s) : ∀ n, sayA O B P W (s + n) v = sayA O B P W s v
  | 0 => rfl
  | n + 1 => by
    rw [← Nat.add_assoc, sayA_s, sayA_hi hP hG h n]
    refine sayS_n (fun X => ?_)
    cases e : sayA O B P W s v (s + n) X with
    | none => rfl
    | some c =>
      have := (sayA_G (n := s) (B := B) hP hG _ _ _ e).2.2.2.1
      omega
theorem sayA_lo {O S pl k W : Nat} {B P : Nat → Nat → Nat} {v : gV} (hG : GV O S pl k v) : ∀ s, s ≤ pl - k → sayA O B P W s v = v
  | 0, _ => rfl
  | s + 1, h => by
    rw [sayA_s, sayA_lo hG s (by omega)]
    refine sayS_n (fun X => ?_)
    cases e : v s X with
    | none => rfl
    | some c =>
      have := (hG _ _ _ e).2.2.2.2
      omega
theorem jmx {a b : Nat} (ha : a < 100000) (hb : b < 100000) : j_max (nI 0) (nI a - nI b) = nI (a - b) := by
  unfold j_max
  by_cases h : b < a
  · rw [nn_su (by omega), if_pos (by rw [nn_lt (by omega) (by omega)]; omega)]
  · have : ¬ nI 0 < nI a - nI b := by
      rw [Int32.lt_iff_toInt_lt, pk_sub_toInt (by omega) (by omega), n_ti (by omega)]
      omega
    rw [if_neg this, show a - b = 0 by omega]
