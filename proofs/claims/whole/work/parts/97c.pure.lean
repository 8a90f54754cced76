/-! TRIP: the class by hours -/
theorem x_st91 {q : pQ} {ρ : pP} {L : pL} {c : List Int32} {g : gL} {d : gD} {P S pl k t A : Nat} {hr dn x2 x3 x6 : Int32} {v : gV} (wQ : WQ c g d P S) (hA : A = 112 ∨ A = 113) (hρ : ρ.2.1.1 = A) (hpl : pl < S) (hk : k ≤ 12) (hG : GV (oW d dn t) S pl k v) {kk : jH → Option (Int32 × jH)} : ∀ n s N (J : pI), s + n = S → n < N → XQ c g d P S ρ J → J 19 0 = hr → J 108 7 = nI (oW d dn t) → CX (oW d dn t) S (sayA (oW d dn t) (fun w s => bW d g t w s) (fun w s => tol c g w s (hr + nI k)) (lxW g) s v) A J → ∃ J', f_X10_soonest_L91 5000 0 x2 x3 (nI (oW d dn t)) (nI pl) x6 (nI k) kk N (nI s) (hp q ρ L J) = kk (hp q ρ L J') ∧ CX (oW d dn t) S (sayA (oW d dn t) (fun w s => bW d g t w s) (fun w s => tol c g w s (hr + nI k)) (lxW g) S v) A J' ∧ tFr ρ J J' ∧ J' 108 = J 108 ∧ ∀ b, b = 112 ∨ b = 113 → b ≠ A → J' b = J b
  | _, _, 0, _, _, h, _, _, _, _ => absurd h (Nat.not_lt_zero _)
  | 0, s, N + 1, J, h1, h2, hQ, h19, h7, hC => by
    have hS := wQ.2.2.2.2
    have h17 := hQ.2.2.2.2
    have : s = S := by omega
    subst this
    refine ⟨J, ?_, hC, tFr_rf, rfl, fun _ _ _ => rfl⟩
    rw [f_X10_soonest_L91]
    simp (disch := first | omega | assumption) only [↓bX, h17, nn_le, Nat.le_refl, if_true]
  | n + 1, s, N + 1, J, h1, h2, hQ, h19, h7, hC => by
    have hS := wQ.2.2.2.2
    have h17 := hQ.2.2.2.2
    have hA1 := hQ.1.1
    have hPb : ∀ w s, w < lxW g → (fun w s => tol c g w s (hr + nI k)) w s ≤ 594 := fun w s hw => tol_le wQ.2.1 hw
    by_cases g1 : pl + k < s
    · have e := sayA_hi (B := fun w s => bW d g t w s) (W := lxW g) hPb hG g1 (n + 1)
      rw [h1] at e
      refine ⟨J, ?_, by rw [e]; exact hC, tFr_rf, rfl, fun _ _ _ => rfl⟩
      rw [f_X10_soonest_L91]
      simp (disch := first | omega | assumption) only [↓bX, h17, nn_le, nn_lt, nI_add, if_neg, if_false, if_pos]
    · have at_ := x_at (q := q) (ρ := ρ) (L := L) (t := s) hQ.2.2.1 wQ.2.2.1 (by omega) (by omega)
      obtain ⟨J1, a1, a2, a3, a4, a5⟩ := x_sayTh (q := q) (L := L) (s := s) wQ hA hρ (by omega) hQ h19 h7 hC (sayA_G (n := s) hPb hG)
      rw [← sayA_s] at a2
      obtain ⟨J2, b1, b2, b3, b4, b5⟩ := x_st91 (q := q) (L := L) (x2 := x2) (x3 := x3) (x6 := x6) wQ hA hρ hpl hk hG (kk := kk) n (s + 1) N J1 (by omega) (by omega) (tFr_Q a3 hQ) (by rw [tFr_19 hA1 a3 (by omega)]; exact h19) (by rw [a4]; exact h7) a2
      refine ⟨J2, ?_, b2, tFr_tr a3 b3, by rw [b4, a4], fun b c1 c2 => by rw [b5 b c1 c2, a5 b c1 c2]⟩
      rw [f_X10_soonest_L91]
      simp (disch := first | omega | assumption) only [↓bX, lt0, h17, nn_le, nn_lt, nI_add, if_neg, if_false, ↓b2e at_, ↓oe a1]
      exact b1
/-- the state at the hour k -/
def hPre (O : Nat) (B : Nat → Nat → Nat) (P : Nat → Nat → Nat → Nat) (W S pl : Nat) : Nat → gV
  | 0 => stt pl
  | k + 1 => hV O B P W S pl k
def hWk (O : Nat) (B : Nat → Nat → Nat) (P : Nat → Nat → Nat → Nat) (W S pl : Nat) : Nat → gV
  | 0 => stt pl
  | k + 1 => wlkV S (hV O B P W S pl k)
theorem hV_w {O W S pl k : Nat} {B : Nat → Nat → Nat} {P : Nat → Nat → Nat → Nat} : hV O B P W S pl k = sayA O B (P k) W S (hWk O B P W S pl k) := by cases k <;> rfl
theorem hWk_G {O W S pl : Nat} {B : Nat → Nat → Nat} {P : Nat → Nat → Nat → Nat} (hP : ∀ k w s, w < W → P k w s ≤ 594) (h : pl < S) : ∀ k, GV O S pl k (hWk O B P W S pl k)
  | 0 => stt_G h
  | k + 1 => wlkV_G (hV_G hP h k)
/-- the class's cells at the hour k, before it goes by -/
def hX (c : List Int32) (g : gL) (d : gD) (P S pl t : Nat) (hr dn : Int32) (ρ1 : Nat × Nat) (A B k : Nat) (b : Option Nat) (J : pI) : Prop := (∀ (A' B' : Nat) (ρ3 : Option Nat × (Nat × Nat)), XQ c g d P S (ρ1, (A', B'), ρ3) J) ∧ J 19 0 = hr ∧ (J 108 7 = nI (oW d dn t) ∧ J 108 8 = nI S ∧ J 108 2 = nI (om b 1000000)) ∧ CX (oW d dn t) S (hPre (oW d dn t) (fun w s => bW d g t w s) (fun k w s => tol c g w s (hr + nI k)) (lxW g) S pl k) A J
theorem x_hour {q : pQ} {ρ1 : Nat × Nat} {ρ3 : Option Nat × (Nat × Nat)} {L : pL} {I : pI} {c : List Int32} {g : gL} {d : gD} {P S pl k t A B H : Nat} {hr dn x3 x6 : Int32} {b : Option Nat} (wQ : WQ c g d P S) (hAB : (A = 112 ∧ B = 113) ∨ (A = 113 ∧ B = 112)) (hpl : pl < S) (hk : k ≤ H) (hH : H ≤ 12) (hx : x3 = nI 0 ∨ x6 = -nI 1) (hb : ∀ c, b = some c → c ≤ 594 * oW d dn t) (h : hX c g d P S pl t hr dn ρ1 A B k b I) (N : Nat) : ∃ A' B' J x6', f_X10_soonest_L52 5000 0 (nI H) x3 (nI (oW d dn t)) (nI pl) (N + 1) x6 (nI k) (hp q (ρ1, (A, B), ρ3) L I) = f_X10_soonest_L52 5000 0 (nI H) x3 (nI (oW d dn t)) (nI pl) N x6' (nI (k + 1)) (hp q (ρ1, (A', B'), ρ3) L J) ∧ x6' = (bif olt (bsV (oW d dn t) S (hV (oW d dn t) (fun w s => bW d g t w s) (fun k w s => tol c g w s (hr + nI k)) (lxW g) S pl k)) b then nI k else x6) ∧ ((A' = 112 ∧ B' = 113) ∨ (A' = 113 ∧ B' = 112)) ∧ hX c g d P S pl t hr dn ρ1 A' B' (k + 1) (bif olt (bsV (oW d dn t) S (hV (oW d dn t) (fun w s => bW d g t w s) (fun k w s => tol c g w s (hr + nI k)) (lxW g) S pl k)) b then bsV (oW d dn t) S (hV (oW d dn t) (fun w s => bW d g t w s) (fun k w s => tol c g w s (hr + nI k)) (lxW g) S pl k) else b) J ∧ J 108 3 = I 108 3 ∧ ∀ b, tT ρ1.1 b → b ≠ 108 → b ≠ 112 → b ≠ 113 → J b = I b := by
  have hS := wQ.2.2.2.2
  have hE := wQ.2.2.1.1
  have hO := (oW_e (d := d) (dn := dn) (t := t) hE).2
  have hPb : ∀ k w s, w < lxW g → (fun k w s => tol c g w s (hr + nI k)) k w s ≤ 594 := fun k w s hw => tol_le wQ.2.1 hw
  obtain ⟨hQ, h19, ⟨h7, h8, h2⟩, hC⟩ := h
  -- the hour goes by
  have wk : ∃ A' B' J1, ((A' = 112 ∧ B' = 113) ∨ (A' = 113 ∧ B' = 112)) ∧ CX (oW d dn t) S (hWk (oW d dn t) (fun w s => bW d g t w s) (fun k w s => tol c g w s (hr + nI k)) (lxW g) S pl k) A' J1 ∧ (∀ b, b ≠ 112 → b ≠ 113 → J1 b = I b) ∧ (k = 0 → A' = A ∧ B' = B ∧ J1 = I) ∧ (k ≠ 0 → f_X5_walkOn 5000 108 (hp q (ρ1, (A, B), ρ3) L I) = some (hp q (ρ1, (A', B'), ρ3) L J1)) := by
    cases k with
    | zero => exact ⟨A, B, I, hAB, hC, fun _ _ _ => rfl, fun _ => ⟨rfl, rfl, rfl⟩, fun h => absurd rfl h⟩
    | succ k =>
      obtain ⟨J1, a1, a2, a3⟩ := x_walkOn (q := q) (ρ1 := ρ1) (ρ3 := ρ3) (L := L) hAB hO hS (hV_G hPb hpl k) hC h7 h8
      exact ⟨B, A, J1, by omega, a2, fun b b1 b2 => a3 b (by omega), fun h => (by cases h), fun _ => a1⟩
  obtain ⟨A', B', J1, hAB', c1, c2, c3, c4⟩ := wk
  have hA' : A' = 112 ∨ A' = 113 := by omega
  have hA1 := (hQ A B ρ3).1.1
  have f1 : tFr (ρ1, (A', B'), ρ3) I J1 := fun b b1 b2 b3 b4 => c2 b b3 b4
  have hQ1 := tFr_Q f1 (hQ A' B' ρ3)
  obtain ⟨J2, a1, a2, a3, a4, a5⟩ := x_st91 (q := q) (ρ := (ρ1, (A', B'), ρ3)) (L := L) (hr := hr) (dn := dn) (t := t) (pl := pl) (k := k) (x2 := nI H) (x3 := x3) (x6 := x6) wQ hA' rfl hpl (by omega) (hWk_G hPb hpl k) (kk := fun (h19 : jH) =>
            (jg_R 10 9 h19 0).bind (fun v20 =>
            j_b2 (f_X5_isCheaperNow 5000 v20 h19) (fun v22 h21 =>
              if v22 = nI 0 then
                f_X10_soonest_L52 5000 0 (nI H) x3 (nI (oW d dn t)) (nI pl) N x6 (nI (k + 1)) h21
              else
                f_X10_soonest_L52 5000 0 (nI H) x3 (nI (oW d dn t)) (nI pl) N (nI k) (nI (k + 1)) h21))) (S - (pl - k)) (pl - k) 5000 J1 (by omega) (by omega) hQ1 (by rw [c2 19 (by omega) (by omega)]; exact h19) (by rw [c2 108 (by omega) (by omega)]; exact h7) (by rw [sayA_lo (hWk_G hPb hpl k) _ (Nat.le_refl _)]; exact c1)
  have ehv := hV_w (O := oW d dn t) (B := fun w s => bW d g t w s) (P := fun k w s => tol c g w s (hr + nI k)) (W := lxW g) (S := S) (pl := pl) (k := k)
  rw [← ehv] at a2
  have k8 : J2 108 = I 108 := by rw [a4, c2 108 (by omega) (by omega)]
  obtain ⟨J3, b1, b2, b3, b4⟩ := x_cheap (q := q) (ρ := (ρ1, (A', B'), ρ3)) (L := L) (I := J2) (b := b) hA' rfl hO hS (hV_G hPb hpl k) a2 (by rw [k8]; exact h7) (by rw [k8]; exact h8) (by rw [k8]; exact h2) hb
  have f3 : tFr (ρ1, (A', B'), ρ3) I J3 := tFr_tr (tFr_tr f1 a3) (fun b b1 b2 b3' b4' => b4 b b2)
  refine ⟨A', B', J3, _, ?_, rfl, hAB', ⟨fun A2 B2 r3 => tFr_Q (ρ := (ρ1, (A2, B2), r3)) f3 (hQ A2 B2 r3), by rw [tFr_19 hA1 f3 (by omega)]; exact h19, ⟨by rw [b3 7 (by omega), k8]; exact h7, by rw [b3 8 (by omega), k8]; exact h8, b2⟩, fun s X d1 d2 => by rw [b4 A' (by omega)]; exact a2 s X d1 d2⟩, by rw [b3 3 (by omega), k8], f3⟩
  rw [f_X10_soonest_L52, if_neg (by rw [nn_lt (by omega) (by omega)]; omega)]
  have tail : f_X10_soonest_L91 5000 0 (nI H) x3 (nI (oW d dn t)) (nI pl) x6 (nI k) (fun (h19 : jH) =>
            (jg_R 10 9 h19 0).bind (fun v20 =>
            j_b2 (f_X5_isCheaperNow 5000 v20 h19) (fun v22 h21 =>
              if v22 = nI 0 then
                f_X10_soonest_L52 5000 0 (nI H) x3 (nI (oW d dn t)) (nI pl) N x6 (nI (k + 1)) h21
              else
                f_X10_soonest_L52 5000 0 (nI H) x3 (nI (oW d dn t)) (nI pl) N (nI k) (nI (k + 1)) h21))) 5000 (nI (pl - k)) (hp q (ρ1, (A', B'), ρ3) L J1) = f_X10_soonest_L52 5000 0 (nI H) x3 (nI (oW d dn t)) (nI pl) N (bif olt (bsV (oW d dn t) S (hV (oW d dn t) (fun w s => bW d g t w s) (fun k w s => tol c g w s (hr + nI k)) (lxW g) S pl k)) b then nI k else x6) (nI (k + 1)) (hp q (ρ1, (A', B'), ρ3) L J3) := by
    refine a1.trans ?_
    cases hl : olt (bsV (oW d dn t) S (hV (oW d dn t) (fun w s => bW d g t w s) (fun k w s => tol c g w s (hr + nI k)) (lxW g) S pl k)) b with
    | true =>
      rw [hl, bo_t] at b1
      simp (disch := first | omega | assumption) only [↓bX, ↓b2e b1, nn_eq, if_neg, if_false, cond_true]
    | false =>
      rw [hl, bo_f] at b1
      simp (disch := first | omega | assumption) only [↓bX, ↓b2e b1, if_true, cond_false]
  rw [← tail]
  by_cases k0 : k = 0
  · obtain ⟨r1, r2, r3⟩ := c3 k0
    subst r1 r2 r3
    rcases hx with hx | hx
    · simp (disch := first | omega | assumption) only [jn_, lt0, hx, if_true, nn_le, if_pos, jmx, nI_add]
    · by_cases hx0 : x3 = nI 0
      · simp (disch := first | omega | assumption) only [jn_, lt0, hx0, if_true, nn_le, if_pos, jmx, nI_add]
      · simp (disch := first | omega | assumption) only [jn_, lt0, hx0, hx, if_false, if_true, nn_le, if_pos, jmx, nI_add]
  · have w4 := c4 k0
    rcases hx with hx | hx
    · simp (disch := first | omega | assumption) only [jn_, lt0, hx, if_true, nn_le, if_neg, if_false, jmx, nI_add, ↓bX, ↓oe w4]
    · by_cases hx0 : x3 = nI 0
      · simp (disch := first | omega | assumption) only [jn_, lt0, hx0, if_true, nn_le, if_neg, if_false, jmx, nI_add, ↓bX, ↓oe w4]
      · simp (disch := first | omega | assumption) only [jn_, lt0, hx0, hx, if_true, nn_le, if_neg, if_false, jmx, nI_add, ↓bX, ↓oe w4]
abbrev tHc (c : List Int32) (g : gL) (d : gD) (S pl t : Nat) (hr dn : Int32) (n : Nat) : gH := tH (oW d dn t) (fun w s => bW d g t w s) (fun k w s => tol c g w s (hr + nI k)) (lxW g) S pl n
theorem tHc_ok {c : List Int32} {g : gL} {d : gD} {S pl t : Nat} {hr dn : Int32} (hg : WL g) (hpl : pl < S) (n : Nat) : tOk n (594 * oW d dn t) (tHc c g d S pl t hr dn n) := tH_ok (fun k w s hw => tol_le hg hw) hpl n
theorem x_tripL {q : pQ} {ρ1 : Nat × Nat} {ρ3 : Option Nat × (Nat × Nat)} {L : pL} {c : List Int32} {g : gL} {d : gD} {P S pl t H : Nat} {hr dn : Int32} (wQ : WQ c g d P S) (hpl : pl < S) (hH : H ≤ 12) : ∀ n k N A B (I : pI), k + n = H + 1 → n < N → ((A = 112 ∧ B = 113) ∨ (A = 113 ∧ B = 112)) → hX c g d P S pl t hr dn ρ1 A B k (tHc c g d S pl t hr dn k).1 I → ∃ A' B' J, f_X10_soonest_L52 5000 0 (nI H) (nI 0) (nI (oW d dn t)) (nI pl) N (eo (tHc c g d S pl t hr dn k).2.1) (nI k) (hp q (ρ1, (A, B), ρ3) L I) = some (eo (tHc c g d S pl t hr dn (H + 1)).2.1, hp q (ρ1, (A', B'), ρ3) L J) ∧ ((A' = 112 ∧ B' = 113) ∨ (A' = 113 ∧ B' = 112)) ∧ J 108 2 = nI (om (tHc c g d S pl t hr dn (H + 1)).1 1000000) ∧ J 108 3 = I 108 3 ∧ ∀ b, tT ρ1.1 b → b ≠ 108 → b ≠ 112 → b ≠ 113 → J b = I b
  | _, _, 0, _, _, _, _, h, _, _ => absurd h (Nat.not_lt_zero _)
  | 0, k, N + 1, A, B, I, h1, h2, hAB, h => by
    have : k = H + 1 := by omega
    subst this
    refine ⟨A, B, I, ?_, hAB, h.2.2.1.2.2, rfl, fun _ _ _ _ _ => rfl⟩
    rw [f_X10_soonest_L52, if_pos (by rw [nn_lt (by omega) (by omega)]; omega)]
  | n + 1, k, N + 1, A, B, I, h1, h2, hAB, h => by
    have ok := tHc_ok (c := c) (d := d) (t := t) (hr := hr) (dn := dn) wQ.2.1 hpl k
    obtain ⟨A1, B1, J1, x6, a1, a2, a3, a4, a5, a6⟩ := x_hour (q := q) (ρ3 := ρ3) (L := L) (H := H) (x3 := nI 0) (x6 := eo (tHc c g d S pl t hr dn k).2.1) wQ hAB hpl (by omega) hH (.inl rfl) (fun y hy => by
      rcases ok with e | ⟨b, h, k', c', e, h1, h2, h3, h4⟩
      · rw [e] at hy; cases hy
      · rw [e] at hy; cases hy; exact h1) h N
    have es := tH_s (O := oW d dn t) (B := fun w s => bW d g t w s) (P := fun k w s => tol c g w s (hr + nI k)) (W := lxW g) (S := S) (pl := pl) (n := k)
    have e1 : (tHc c g d S pl t hr dn (k + 1)).1 = (bif olt (bsV (oW d dn t) S (hV (oW d dn t) (fun w s => bW d g t w s) (fun k w s => tol c g w s (hr + nI k)) (lxW g) S pl k)) (tHc c g d S pl t hr dn k).1 then bsV (oW d dn t) S (hV (oW d dn t) (fun w s => bW d g t w s) (fun k w s => tol c g w s (hr + nI k)) (lxW g) S pl k) else (tHc c g d S pl t hr dn k).1) := by
      show (tH _ _ _ _ _ _ _).1 = _
      rw [es]
      rfl
    have e2 : eo (tHc c g d S pl t hr dn (k + 1)).2.1 = x6 := by
      rw [a2]
      show eo (tH _ _ _ _ _ _ _).2.1 = _
      rw [es]
      show eo (bif olt _ _ then some k else _) = _
      cases olt (bsV (oW d dn t) S (hV (oW d dn t) (fun w s => bW d g t w s) (fun k w s => tol c g w s (hr + nI k)) (lxW g) S pl k)) (tH (oW d dn t) (fun w s => bW d g t w s) (fun k w s => tol c g w s (hr + nI k)) (lxW g) S pl k).1 <;> rfl
    rw [← e1] at a4
    obtain ⟨A2, B2, J2, b1, b2, b3, b4, b5⟩ := x_tripL (q := q) (ρ3 := ρ3) (L := L) wQ hpl hH n (k + 1) N A1 B1 J1 (by omega) (by omega) a3 a4
    refine ⟨A2, B2, J2, ?_, b2, b3, by rw [b4, a5], fun b c1 c2 c3 c4 => by rw [b5 b c1 c2 c3 c4, a6 b c1 c2 c3 c4]⟩
    rw [a1, ← e2]
    exact b1
theorem tH_keep {c : List Int32} {g : gL} {d : gD} {S pl t : Nat} {hr dn : Int32} {y : Nat × Nat} {n : Nat} (h : (tHc c g d S pl t hr dn n).2.2 = some y) : ∀ m, (tHc c g d S pl t hr dn (n + m)).2.2 = some y
  | 0 => h
  | m + 1 => by
    have ih := tH_keep h m
    show (tH _ _ _ _ _ _ (n + m + 1)).2.2 = _
    rw [tH_s]
    unfold tS
    simp only []
    rw [show (tH (oW d dn t) (fun w s => bW d g t w s) (fun k w s => tol c g w s (hr + nI k)) (lxW g) S pl (n + m)).2.2 = some y from ih]
theorem x_hastL {q : pQ} {ρ1 : Nat × Nat} {ρ3 : Option Nat × (Nat × Nat)} {L : pL} {c : List Int32} {g : gL} {d : gD} {P S pl t H : Nat} {hr dn : Int32} (wQ : WQ c g d P S) (hpl : pl < S) (hH : H ≤ 12) : ∀ n k N A B (I : pI), k + n = H + 1 → n + 1 < N → ((A = 112 ∧ B = 113) ∨ (A = 113 ∧ B = 112)) → hX c g d P S pl t hr dn ρ1 A B k none I → tHc c g d S pl t hr dn k = (none, none, none) → ∃ A' B' J v, f_X10_soonest_L52 5000 0 (nI H) (nI 1) (nI (oW d dn t)) (nI pl) N (-nI 1) (nI k) (hp q (ρ1, (A, B), ρ3) L I) = some (v, hp q (ρ1, (A', B'), ρ3) L J) ∧ ((A' = 112 ∧ B' = 113) ∨ (A' = 113 ∧ B' = 112)) ∧ (((tHc c g d S pl t hr dn (H + 1)).2.2 = none ∧ v = -nI 1) ∨ ∃ h y, (tHc c g d S pl t hr dn (H + 1)).2.2 = some (h, y) ∧ h ≤ H ∧ v = nI h ∧ J 108 2 = nI y) ∧ ∀ b, tT ρ1.1 b → b ≠ 108 → b ≠ 112 → b ≠ 113 → J b = I b
  | _, _, 0, _, _, _, _, h, _, _, _ => absurd h (Nat.not_lt_zero _)
  | 0, k, N + 1, A, B, I, h1, h2, hAB, h, ht => by
    have : k = H + 1 := by omega
    subst this
    refine ⟨A, B, I, -nI 1, ?_, hAB, .inl ⟨by rw [ht], rfl⟩, fun _ _ _ _ _ => rfl⟩
    rw [f_X10_soonest_L52, if_pos (by rw [nn_lt (by omega) (by omega)]; omega)]
  | n + 1, k, N + 1, A, B, I, h1, h2, hAB, h, ht => by
    obtain ⟨A1, B1, J1, x6, a1, a2, a3, a4, a5, a6⟩ := x_hour (q := q) (ρ3 := ρ3) (L := L) (H := H) (x3 := nI 1) (x6 := -nI 1) wQ hAB hpl (by omega) hH (.inr rfl) (fun y hy => by cases hy) h N
    have es : tHc c g d S pl t hr dn (k + 1) = tS (bsV (oW d dn t) S (hV (oW d dn t) (fun w s => bW d g t w s) (fun k w s => tol c g w s (hr + nI k)) (lxW g) S pl k)) k (none, none, none) := by
      rw [← ht]
      exact tH_s
    cases he : bsV (oW d dn t) S (hV (oW d dn t) (fun w s => bW d g t w s) (fun k w s => tol c g w s (hr + nI k)) (lxW g) S pl k) with
    | none =>
      rw [he] at a2 a4 es
      rw [a2] at a1
      obtain ⟨A2, B2, J2, v, b1, b2, b3, b4⟩ := x_hastL (q := q) (ρ3 := ρ3) (L := L) wQ hpl hH n (k + 1) N A1 B1 J1 (by omega) (by omega) a3 a4 es
      exact ⟨A2, B2, J2, v, a1.trans b1, b2, b3, fun b c1 c2 c3 c4 => by rw [b4 b c1 c2 c3 c4, a6 b c1 c2 c3 c4]⟩
    | some y =>
      rw [he] at a2 a4 es
      have e22 : (tHc c g d S pl t hr dn (k + 1)).2.2 = some (k, y) := by rw [es]; rfl
      have kp := tH_keep e22 (H - k)
      rw [show k + 1 + (H - k) = H + 1 by omega] at kp
      refine ⟨A1, B1, J1, nI k, ?_, a3, .inr ⟨k, y, kp, by omega, rfl, a4.2.2.1.2.2⟩, a6⟩
      rw [a1, a2]
      obtain ⟨N, rfl⟩ : ∃ M, N = M + 1 := ⟨N - 1, by omega⟩
      show f_X10_soonest_L52 5000 0 (nI H) (nI 1) (nI (oW d dn t)) (nI pl) (N + 1) (nI k) (nI (k + 1)) _ = _
      rw [f_X10_soonest_L52]
      by_cases g1 : H < k + 1
      · rw [if_pos (by rw [nn_lt (by omega) (by omega)]; exact g1)]
      · rw [if_neg (by rw [nn_lt (by omega) (by omega)]; exact g1)]
        simp (disch := first | omega | assumption) only [jn_, lt0, nn_eq, ng_eq, if_neg, if_false]
