/-! TRIP: the class says -/
theorem kP {A : Nat} (hA : A = 112 ∨ A = 113) (q : pQ) (ρ : pP) (L : pL) (I : pI) : (∀ j, j < 1536 → ja_I 100 (hp q ρ L I) A (nI j) = some (I A j)) ∧ (∀ j x, j < 1536 → jb_I 100 (hp q ρ L I) A (nI j) x = some (hp q ρ L (j_up I A j x))) ∧ jn_len 100 (hp q ρ L I) A = some (nI 1536) := by
  rcases hA with rfl | rfl
  · exact ⟨fun _ hj => ha_I rfl rfl rfl hj, fun _ _ hj => hb_I rfl rfl rfl hj, hn_l rfl rfl⟩
  · exact ⟨fun _ hj => ha_I rfl rfl rfl hj, fun _ _ hj => hb_I rfl rfl rfl hj, hn_l rfl rfl⟩
def CX (O S : Nat) (v : gV) (A : Nat) (J : pI) : Prop := ∀ s X, s < S → X ≤ O → J A (s * 256 + X) = nI (om (v s X) 1000000)
theorem GV_b {O S pl k s X c : Nat} {v : gV} (hO : O < 256) (h : GV O S pl k v) (e : v s X = some c) : c ≤ 151470 := by
  obtain ⟨a1, a2, -⟩ := h _ _ _ e
  have := sub_le_or a1
  omega
theorem GV_om {O S pl k s X D : Nat} {v : gV} (hO : O < 256) (h : GV O S pl k v) (hD : 151470 ≤ D) : om (v s X) D ≤ D := by
  cases e : v s X with
  | none => exact Nat.le_refl D
  | some c =>
    have := GV_b hO h e
    show c ≤ D
    omega
theorem x_sayL {q : pQ} {ρ : pP} {L : pL} {O S pl k m p s A : Nat} (hA : A = 112 ∨ A = 113) (hρ : ρ.2.1.1 = A) (hO : O < 256) (hm : m ||| O = O) (hpb : p ≤ 594) (hs : s < S) (hS : S ≤ 6) : ∀ n X N v (J : pI), X + n = O + 1 → n < N → CX O S v A J → GV O S pl k v → J 108 7 = nI O → ∃ J', f_X5_sayAt_L10 5000 108 (nI m) (nI p) (nI (s * 256)) N (nI X) (hp q ρ L J) = some (hp q ρ L J') ∧ CX O S (fo (fun X v => stV m p s X v) X n v) A J' ∧ ∀ b, b ≠ A → J' b = J b
  | _, _, 0, _, _, _, h, _, _, _ => absurd h (Nat.not_lt_zero _)
  | 0, X, N + 1, v, J, h1, h2, hC, hG, h7 => by
    refine ⟨J, ?_, hC, fun _ _ => rfl⟩
    rw [f_X5_sayAt_L10]
    simp (disch := first | omega | assumption) only [↓bX, h7, nn_lt, if_pos]
  | n + 1, X, N + 1, v, J, h1, h2, hC, hG, h7 => by
    have hmO := sub_le_or hm
    have hT : X ||| m < 256 := Nat.or_lt_two_pow (n := 8) (show X < 2 ^ 8 by omega) (show m < 2 ^ 8 by omega)
    have e3 := hC s X hs (by omega)
    have go : ∀ J1 : pI, CX O S (stV m p s X v) A J1 → (∀ b, b ≠ A → J1 b = J b) → ∃ J', f_X5_sayAt_L10 5000 108 (nI m) (nI p) (nI (s * 256)) N (nI (X + 1)) (hp q ρ L J1) = some (hp q ρ L J') ∧ CX O S (fo (fun X v => stV m p s X v) X (n + 1) v) A J' ∧ ∀ b, b ≠ A → J' b = J b := by
      intro J1 c1 c2
      obtain ⟨J', a1, a2, a3⟩ := x_sayL (q := q) (L := L) hA hρ hO hm hpb hs hS n (X + 1) N (stV m p s X v) J1 (by omega) (by omega) c1 (stV_G hm hpb hG) (by rw [c2 108 (by omega)]; exact h7)
      exact ⟨J', a1, a2, fun b hb => by rw [a3 b hb, c2 b hb]⟩
    have hob := GV_om (s := s) (X := X) hO hG (D := 1000000) (by omega)
    rw [f_X5_sayAt_L10]
    simp (disch := first | omega | assumption) only [↓bX, lt0, h7, nn_lt, if_neg, if_false, hρ, nI_add, nI_or, kP hA, ↓ob_, jn_, e3]
    have wr : ∀ x : Int32, (∀ s' Y, s' < S → Y ≤ O → (s' = s ∧ Y = X ||| m → x = nI (om (stV m p s X v s' Y) 1000000))) → CX O S (stV m p s X v) A (j_up J A (s * 256 + (X ||| m)) x) := by
      intro x hx s' Y hs' hY
      by_cases g : s' = s ∧ Y = X ||| m
      · rw [g.1, g.2, up_eq]
        have := hx s' Y hs' hY g
        rw [g.1, g.2] at this
        exact this
      · rw [up_nk (by omega)]
        have : stV m p s X v s' Y = v s' Y := if_neg g
        rw [this]
        exact hC s' Y hs' hY
    cases hX : v s X with
    | none =>
      have es : stV m p s X v = v := stV_n hX
      rw [om_n]
      by_cases hle : J A (s * 256 + (X ||| m)) ≤ nI (1000000 + p)
      · rw [if_pos hle]
        exact go J (by rw [es]; exact hC) (fun _ _ => rfl)
      · rw [if_neg hle]
        refine go _ (wr _ (fun s' Y hs' hY g => ?_)) (fun b hb => up_ne hb)
        exfalso
        have e5 := hC s (X ||| m) hs (by omega)
        have := GV_om (s := s) (X := X ||| m) hO hG (D := 1000000) (by omega)
        rw [e5, nn_le (by omega) (by omega)] at hle
        omega
    | some c =>
      have hc := GV_b hO hG hX
      have hXO := (hG _ _ _ hX).1
      have hTO := sub_le_or (or_sub hXO hm)
      have e5 := hC s (X ||| m) hs hTO
      have hot := GV_om (s := s) (X := X ||| m) hO hG (D := 1000000) (by omega)
      have so : om (stV m p s X v s (X ||| m)) 1000000 = min (om (v s (X ||| m)) 1000000) (c + p) := by
        have : stV m p s X v s (X ||| m) = omin (v s (X ||| m)) (oad (v s X) p) := if_pos ⟨rfl, rfl⟩
        rw [this, st_om (fun x hx => by have := GV_b hO hG hx; omega) (fun x hx => by have := GV_b hO hG hx; omega), hX]
        rfl
      rw [om_s, e5]
      by_cases hle : om (v s (X ||| m)) 1000000 ≤ c + p
      · rw [if_pos (by rw [nn_le (by omega) (by omega)]; exact hle)]
        refine go J (fun s' Y hs' hY => ?_) (fun _ _ => rfl)
        by_cases g : s' = s ∧ Y = X ||| m
        · rw [g.1, g.2, so, Nat.min_eq_left hle]
          exact e5
        · have : stV m p s X v s' Y = v s' Y := if_neg g
          rw [this]
          exact hC s' Y hs' hY
      · rw [if_neg (by rw [nn_le (by omega) (by omega)]; exact hle)]
        refine go _ (wr _ (fun s' Y hs' hY g => ?_)) (fun b hb => up_ne hb)
        rw [g.1, g.2, so, Nat.min_eq_right (by omega)]
theorem x_sayAt {q : pQ} {ρ : pP} {L : pL} {I : pI} {O S pl k m p s A : Nat} {v : gV} (hA : A = 112 ∨ A = 113) (hρ : ρ.2.1.1 = A) (hO : O < 256) (hm : m ||| O = O) (hpb : p ≤ 594) (hs : s < S) (hS : S ≤ 6) (hC : CX O S v A I) (hG : GV O S pl k v) (h7 : I 108 7 = nI O) : ∃ J', f_X5_sayAt 5000 108 (nI s) (nI m) (nI p) (hp q ρ L I) = some (hp q ρ L J') ∧ CX O S (sayV O m p s v) A J' ∧ ∀ b, b ≠ A → J' b = I b := by
  obtain ⟨J', a1, a2, a3⟩ := x_sayL (q := q) (L := L) hA hρ hO hm hpb hs hS (O + 1) 0 5000 v I (by omega) (by omega) hC hG h7
  refine ⟨J', ?_, a2, a3⟩
  simp (disch := first | omega | assumption) only [f_X5_sayAt, ↓bX, lt0, pk_mul]
  exact a1
/-! bits -/
theorem nI_and (a b : Nat) : nI a &&& nI b = nI (a &&& b) := b_ext (fun i hi => by rw [b_and, bt_nI hi, bt_nI hi, bt_nI hi, Nat.testBit_and])
def bW (d : gD) (g : gL) (t w s : Nat) : Nat := (dDoes d g t w s).toNatClampNeg
theorem bW_e {d : gD} {g : gL} {t w s : Nat} (hE : duE d ≤ 8) : dDoes d g t w s = nI (bW d g t w s) ∧ bW d g t w s < 256 := by
  obtain ⟨O, h1, h2⟩ := mk_nat (fun e => decide (duW d e = t) && (decide (duP d e = s) && mean g w (duM d e))) (duE d) (by omega)
  have h256 : O < 256 := Nat.lt_of_lt_of_le h1 (show 2 ^ duE d ≤ 2 ^ 8 from Nat.pow_le_pow_right (by omega) hE)
  have h3 : dDoes d g t w s = nI O := h2
  have h4 : bW d g t w s = O := by
    unfold bW
    rw [h3, n_cl (by omega)]
  rw [h4]
  exact ⟨h3, h256⟩
def oW (d : gD) (dn : Int32) (t : Nat) : Nat := (dOpen d dn t).toNatClampNeg
theorem oW_e {d : gD} {dn : Int32} {t : Nat} (hE : duE d ≤ 8) : dOpen d dn t = nI (oW d dn t) ∧ oW d dn t < 256 := by
  obtain ⟨O, h1, h2⟩ := mk_nat (fun e => decide (duW d e = t) && !bt dn e) (duE d) (by omega)
  have h256 : O < 256 := Nat.lt_of_lt_of_le h1 (show 2 ^ duE d ≤ 2 ^ 8 from Nat.pow_le_pow_right (by omega) hE)
  have h3 : dOpen d dn t = nI O := h2
  have h4 : oW d dn t = O := by
    unfold oW
    rw [h3, n_cl (by omega)]
  rw [h4]
  exact ⟨h3, h256⟩
theorem met_e {d : gD} {g : gL} {dn : Int32} {t w s : Nat} (hE : duE d ≤ 8) : (nI (oW d dn t) &&& dAt d s) &&& dMet d g w s = nI (bW d g t w s &&& oW d dn t) := by
  rw [← nI_and, ← (bW_e hE).1, ← (oW_e hE).1]
  refine b_ext (fun i hi => ?_)
  unfold dOpen dAt dMet dDoes
  rw [b_and, b_and, b_and, mk_bt _ _ _ (by omega) hi, mk_bt _ _ _ (by omega) hi, mk_bt _ _ _ (by omega) hi, mk_bt _ _ _ (by omega) hi]
  cases bt dn i <;> cases decide (i < duE d) <;> cases decide (duW d i = t) <;> cases decide (duP d i = s) <;> cases mean g w (duM d i) <;> rfl
theorem met_0 {d : gD} {g : gL} {dn : Int32} {t w s : Nat} (hE : duE d ≤ 8) (h : nI (oW d dn t) &&& dAt d s = nI 0) : bW d g t w s &&& oW d dn t = 0 := by
  have e := met_e (d := d) (g := g) (dn := dn) (t := t) (w := w) (s := s) hE
  have e0 : nI 0 &&& dMet d g w s = nI 0 := b_ext (fun i hi => by rw [b_and, show bt (nI 0) i = false from b_0 i, Bool.false_and])
  rw [h, e0] at e
  have h1 := (bW_e (d := d) (g := g) (t := t) (w := w) (s := s) hE).2
  have h2 : bW d g t w s &&& oW d dn t ≤ bW d g t w s := Nat.and_le_left
  have := (nn_eq (a := 0) (b := bW d g t w s &&& oW d dn t) (by omega) (by omega)).mp e
  exact this.symm
/-- what stays while the class plans -/
def tFr (ρ : pP) (I J : pI) : Prop := ∀ b, tT ρ.1.1 b → b ≠ 108 → b ≠ 112 → b ≠ 113 → J b = I b
theorem tFr_Q {c : List Int32} {g : gL} {d : gD} {P S : Nat} {ρ : pP} {I J : pI} (h : tFr ρ I J) (hQ : XQ c g d P S ρ I) : XQ c g d P S ρ J := XQ_k (by rw [h 0 (by unfold tT; omega) (by omega) (by omega) (by omega)]) (by rw [h 0 (by unfold tT; omega) (by omega) (by omega) (by omega)]) (fun b _ _ => h b (by unfold tT; have := hQ.1.1; omega) (by omega) (by omega) (by omega)) (fun b _ _ => h b (by unfold tT; have := hQ.1.1; omega) (by omega) (by omega) (by omega)) (by rw [h ρ.1.1 (by unfold tT; omega) (by have := hQ.1.1; omega) (by have := hQ.1.1; omega) (by have := hQ.1.1; omega)]) (h (ρ.1.1 + 2) (by unfold tT; omega) (by have := hQ.1.1; omega) (by have := hQ.1.1; omega) (by have := hQ.1.1; omega)) hQ
theorem tFr_rf {ρ : pP} {I : pI} : tFr ρ I I := fun _ _ _ _ _ => rfl
theorem tFr_tr {ρ : pP} {I J K : pI} (h : tFr ρ I J) (g : tFr ρ J K) : tFr ρ I K := fun b b1 b2 b3 b4 => (g b b1 b2 b3 b4).trans (h b b1 b2 b3 b4)
theorem tFr_19 {ρ : pP} {I J : pI} (hA : ρ.1.1 = 119 ∨ ρ.1.1 = 124) (h : tFr ρ I J) {b : Nat} (hb : b < 108) : J b = I b := h b (by unfold tT; omega) (by omega) (by omega) (by omega)
theorem x_sayT {q : pQ} {ρ : pP} {L : pL} {c : List Int32} {g : gL} {d : gD} {P S pl k t s A : Nat} {hr dn : Int32} (wQ : WQ c g d P S) (hA : A = 112 ∨ A = 113) (hρ : ρ.2.1.1 = A) (hs : s < S) : ∀ n w N v (J : pI), w + n = lxW g → n < N → XQ c g d P S ρ J → J 19 0 = hr → J 108 7 = nI (oW d dn t) → CX (oW d dn t) S v A J → GV (oW d dn t) S pl k v → ∃ J', f_X10_sayThere_L3 5000 0 (nI (oW d dn t) &&& dAt d s) (nI s) (nI k) N (nI w) (hp q ρ L J) = some (hp q ρ L J') ∧ CX (oW d dn t) S (fo (fun w v => sayV (oW d dn t) (bW d g t w s &&& oW d dn t) (tol c g w s (hr + nI k)) s v) w n v) A J' ∧ tFr ρ J J' ∧ J' 108 = J 108 ∧ ∀ b, b = 112 ∨ b = 113 → b ≠ A → J' b = J b
  | _, _, 0, _, _, _, h, _, _, _, _, _ => absurd h (Nat.not_lt_zero _)
  | 0, w, N + 1, v, J, h1, h2, hQ, h19, h7, hC, hG => by
    have h5 := hQ.2.1.1
    have := wQ.2.1.1
    refine ⟨J, ?_, hC, tFr_rf, rfl, fun _ _ _ => rfl⟩
    rw [f_X10_sayThere_L3]
    simp (disch := first | omega | assumption) only [↓bX, h5, nn_le, if_pos]
  | n + 1, w, N + 1, v, J, h1, h2, hQ, h19, h7, hC, hG => by
    have h5 := hQ.2.1.1
    have hW := wQ.2.1.1
    have hE := wQ.2.2.1.1
    have hS := wQ.2.2.2.2
    have hA1 := hQ.1.1
    have hw : w < lxW g := by omega
    obtain ⟨O, hOe⟩ : ∃ O, O = oW d dn t := ⟨_, rfl⟩
    have hO : O < 256 := by rw [hOe]; exact (oW_e hE).2
    by_cases x0 : nI (oW d dn t) &&& dAt d s = nI 0
    · have hid : ∀ n w v, fo (fun w v => sayV (oW d dn t) (bW d g t w s &&& oW d dn t) (tol c g w s (hr + nI k)) s v) w n v = v := by
        intro n
        induction n with
        | zero => intro w v; rfl
        | succ n ih =>
          intro w v
          show fo _ (w + 1) n (sayV (oW d dn t) (bW d g t w s &&& oW d dn t) (tol c g w s (hr + nI k)) s v) = v
          rw [met_0 hE x0, sayV_0]
          exact ih (w + 1) v
      rw [hid]
      refine ⟨J, ?_, hC, tFr_rf, rfl, fun _ _ _ => rfl⟩
      rw [f_X10_sayThere_L3]
      simp (disch := first | omega | assumption) only [↓bX, lt0, h5, nn_le, if_neg, if_false, x0, if_true]
    · have mb := x_metBy (q := q) (ρ := ρ) (L := L) (w := w) (t := s) hQ.2.2.1 wQ.2.2.1 (by omega) (by omega) hQ.2.1 wQ.2.1 hw
      have me := met_e (d := d) (g := g) (dn := dn) (t := t) (w := w) (s := s) hE
      obtain ⟨m, hme⟩ : ∃ m, m = bW d g t w s &&& oW d dn t := ⟨_, rfl⟩
      have hmO : m ||| O = O := by rw [hme, hOe]; exact and_sub _ _
      have hmle := sub_le_or hmO
      rw [← hme] at me
      have go : ∀ J1 : pI, CX (oW d dn t) S (sayV (oW d dn t) m (tol c g w s (hr + nI k)) s v) A J1 → tFr ρ J J1 → J1 108 = J 108 → (∀ b, b = 112 ∨ b = 113 → b ≠ A → J1 b = J b) → ∃ J', f_X10_sayThere_L3 5000 0 (nI (oW d dn t) &&& dAt d s) (nI s) (nI k) N (nI (w + 1)) (hp q ρ L J1) = some (hp q ρ L J') ∧ CX (oW d dn t) S (fo (fun w v => sayV (oW d dn t) (bW d g t w s &&& oW d dn t) (tol c g w s (hr + nI k)) s v) w (n + 1) v) A J' ∧ tFr ρ J J' ∧ J' 108 = J 108 ∧ ∀ b, b = 112 ∨ b = 113 → b ≠ A → J' b = J b := by
        intro J1 c1 c2 c3 c4
        have hG1 : GV (oW d dn t) S pl k (sayV (oW d dn t) m (tol c g w s (hr + nI k)) s v) := sayV_G (by rw [← hOe]; exact hmO) (tol_le wQ.2.1 hw) hG
        obtain ⟨J', a1, a2, a3, a4, a5⟩ := x_sayT (q := q) (L := L) (hr := hr) (dn := dn) (t := t) (pl := pl) wQ hA hρ hs n (w + 1) N _ J1 (by omega) (by omega) (tFr_Q c2 hQ) (by rw [tFr_19 hA1 c2 (by omega)]; exact h19) (by rw [c3]; exact h7) c1 hG1
        refine ⟨J', a1, ?_, tFr_tr c2 a3, by rw [a4, c3], fun b b1 b2 => by rw [a5 b b1 b2, c4 b b1 b2]⟩
        rw [hme] at a2
        exact a2
      by_cases m0 : m = 0
      · have id0 : sayV (oW d dn t) m (tol c g w s (hr + nI k)) s v = v := by rw [m0]; exact sayV_0
        obtain ⟨J', r1, r2⟩ := go J (by rw [id0]; exact hC) tFr_rf rfl (fun _ _ _ => rfl)
        refine ⟨J', ?_, r2⟩
        rw [m0] at me
        rw [f_X10_sayThere_L3]
        simp (disch := first | omega | assumption) only [↓bX, jn_, lt0, h5, nn_le, if_neg, if_false, x0, ↓b2e mb, me, if_true, nI_add]
        exact r1
      · obtain ⟨J1, j1, -, j3⟩ := x_charge (q := q) (ρ := ρ) (L := L) (s := s) (hr := hr + nI k) hA1 hQ.1.2 wQ.1 hQ.2.1 wQ.2.1 hw
        have f1 : tFr ρ J J1 := fun b b1 _ _ _ => j3 b b1
        obtain ⟨J2, k1, k2, k3⟩ := x_sayAt (q := q) (ρ := ρ) (L := L) (I := J1) (m := m) (p := tol c g w s (hr + nI k)) hA hρ hO hmO (tol_le wQ.2.1 hw) hs hS (v := v) (by
          rw [hOe]
          intro s' X a b
          rw [j3 A (by unfold tT; omega)]
          exact hC s' X a b) (by rw [hOe]; exact hG) (by rw [j3 108 (by unfold tT; omega), hOe]; exact h7)
        rw [hOe] at k2
        obtain ⟨J', r1, r2⟩ := go J2 k2 (tFr_tr f1 (fun b b1 b2 b3 b4 => k3 b (by omega))) (by rw [k3 108 (by omega), j3 108 (by unfold tT; omega)]) (fun b b1 b2 => by rw [k3 b b2, j3 b (by unfold tT; omega)])
        refine ⟨J', ?_, r2⟩
        rw [f_X10_sayThere_L3]
        simp (disch := first | omega | assumption) only [↓bX, ↓ob_, jn_, lt0, h5, nn_le, nn_eq, if_neg, if_false, x0, ↓b2e mb, me, h19, ↓b2e j1, ↓oe k1, nI_add]
        exact r1
theorem x_sayTh {q : pQ} {ρ : pP} {L : pL} {I : pI} {c : List Int32} {g : gL} {d : gD} {P S pl k t s A : Nat} {hr dn : Int32} {v : gV} (wQ : WQ c g d P S) (hA : A = 112 ∨ A = 113) (hρ : ρ.2.1.1 = A) (hs : s < S) (hQ : XQ c g d P S ρ I) (h19 : I 19 0 = hr) (h7 : I 108 7 = nI (oW d dn t)) (hC : CX (oW d dn t) S v A I) (hG : GV (oW d dn t) S pl k v) : ∃ J', f_X10_sayThere 5000 0 (nI (oW d dn t) &&& dAt d s) (nI s) (nI k) (hp q ρ L I) = some (hp q ρ L J') ∧ CX (oW d dn t) S (sayS (oW d dn t) (fun w s => bW d g t w s) (fun w s => tol c g w s (hr + nI k)) s (lxW g) v) A J' ∧ tFr ρ I J' ∧ J' 108 = I 108 ∧ ∀ b, b = 112 ∨ b = 113 → b ≠ A → J' b = I b := by
  obtain ⟨J', a1, a2⟩ := x_sayT (q := q) (L := L) (hr := hr) (dn := dn) (t := t) (pl := pl) wQ hA hρ hs (lxW g) 0 5000 v I (by omega) (by have := wQ.2.1.1; omega) hQ h19 h7 hC hG
  refine ⟨J', ?_, a2⟩
  simp (disch := first | omega | assumption) only [f_X10_sayThere, ↓bX, lt0]
  exact a1
