/-! TRIP: the reference -/
def rV (O : Nat) (v : gV) : gV := fun s Z => if 255 - O ≤ Z then v s (Z - (255 - O)) else none
def MXr (O S : Nat) (v : gV) (J : pI) : Prop := ∀ s Z, s < S → Z < 256 → J 151 (256 * s + Z) = nI (om (rV O v s Z) 100000000)
theorem rV_b {O S pl k s Z c : Nat} {v : gV} (hO : O < 256) (h : GV O S pl k v) (e : rV O v s Z = some c) : c ≤ 151470 := by
  unfold rV at e
  split at e
  · exact GV_b hO h e
  · cases e
theorem rV_om {O S pl k s Z : Nat} {v : gV} (hO : O < 256) (h : GV O S pl k v) : om (rV O v s Z) 100000000 ≤ 100000000 := by
  cases e : rV O v s Z with
  | none => exact Nat.le_refl _
  | some c =>
    have := rV_b hO h e
    show c ≤ 100000000
    omega
theorem m_sayL {q : pQ} {ρ : pP} {L : pL} {O S pl k b p s : Nat} {v : gV} {x1 x2 x4 : Int32} (hO : O < 256) (hb : b < 256) (hpb : p ≤ 594) (hs : s < S) (hS : S ≤ 6) (hG : GV O S pl k v) {kk : jH → Option jH} : ∀ n Z N (J : pI), Z + n = 256 → n < N → MXr O S (fo (fun X v => stV (b &&& O) p s X v) 0 (Z - (255 - O)) v) J → ∃ J', f_X11_speak_L53 5000 129 x1 x2 (nI s) x4 (nI p) (nI b) kk N (nI Z) (hp q ρ L J) = kk (hp q ρ L J') ∧ MXr O S (sayV O (b &&& O) p s v) J' ∧ ∀ c, c ≠ 151 → J' c = J c
  | _, _, 0, _, _, h, _ => absurd h (Nat.not_lt_zero _)
  | 0, Z, N + 1, J, h1, h2, hC => by
    have : Z = 256 := by omega
    subst this
    rw [show 256 - (255 - O) = O + 1 by omega] at hC
    refine ⟨J, ?_, hC, fun _ _ => rfl⟩
    rw [f_X11_speak_L53]
    simp (disch := first | omega | assumption) only [lt0, nn_le, Nat.le_refl, if_true]
  | n + 1, Z, N + 1, J, h1, h2, hC => by
    have hm := and_sub b O
    obtain ⟨u, hu⟩ : ∃ u, u = fo (fun X v => stV (b &&& O) p s X v) 0 (Z - (255 - O)) v := ⟨_, rfl⟩
    have hGu : GV O S pl k u := by rw [hu]; exact fo_G (fun _ _ h => stV_G hm hpb h) _ _ _ hG
    rw [← hu] at hC
    have hT : Z ||| b < 256 := Nat.or_lt_two_pow (n := 8) (show Z < 2 ^ 8 by omega) (show b < 2 ^ 8 by omega)
    have e13 := hC s Z hs (by omega)
    have e11 := hC s (Z ||| b) hs hT
    have o13 := rV_om (s := s) (Z := Z) hO hGu
    have o11 := rV_om (s := s) (Z := Z ||| b) hO hGu
    have go : ∀ x : Nat, MXr O S (fo (fun X v => stV (b &&& O) p s X v) 0 (Z + 1 - (255 - O)) v) (j_up J 151 (256 * s + (Z ||| b)) (nI x)) → ∃ J', f_X11_speak_L53 5000 129 x1 x2 (nI s) x4 (nI p) (nI b) kk N (nI (Z + 1)) (hp q ρ L (j_up J 151 (256 * s + (Z ||| b)) (nI x))) = kk (hp q ρ L J') ∧ MXr O S (sayV O (b &&& O) p s v) J' ∧ ∀ c, c ≠ 151 → J' c = J c := by
      intro x hx
      obtain ⟨J', a1, a2, a3⟩ := m_sayL (q := q) (ρ := ρ) (L := L) (x1 := x1) (x2 := x2) (x4 := x4) hO hb hpb hs hS hG (kk := kk) n (Z + 1) N _ (by omega) (by omega) hx
      exact ⟨J', a1, a2, fun c hc => by rw [a3 c hc, up_ne hc]⟩
    rw [f_X11_speak_L53]
    simp (disch := first | omega | assumption) only [↓bM, ↓bMA, ↓ob_, lt0, nn_le, if_neg, if_false, pk_mul, nI_add, nI_or, e13, e11, jm_nn]
    refine go _ ?_
    have same : ∀ w : gV, w = u → min (om (rV O u s (Z ||| b)) 100000000) (om (rV O u s Z) 100000000 + p) = om (rV O u s (Z ||| b)) 100000000 → MXr O S w (j_up J 151 (256 * s + (Z ||| b)) (nI (min (om (rV O u s (Z ||| b)) 100000000) (om (rV O u s Z) 100000000 + p)))) := by
      intro w hw hmin
      rw [hw, hmin, ← e11, ← up_self rfl]
      exact hC
    by_cases hZ : 255 - O ≤ Z
    · obtain ⟨X, hXe⟩ : ∃ X, X = Z - (255 - O) := ⟨_, rfl⟩
      have es : fo (fun X v => stV (b &&& O) p s X v) 0 (Z + 1 - (255 - O)) v = stV (b &&& O) p s X u := by
        rw [show Z + 1 - (255 - O) = X + 1 by omega, fo_last, Nat.zero_add, hu, ← hXe]
      have rz : rV O u s Z = u s X := by
        unfold rV
        rw [if_pos hZ, ← hXe]
      rw [es]
      cases hc : u s X with
      | none =>
        refine same _ (stV_n hc) ?_
        rw [rz, hc, om_n]
        omega
      | some c =>
        have hXO := (hGu _ _ _ hc).1
        have hcb := GV_b hO hGu hc
        have tg := tgt hO hb hXO
        rw [show 255 - O + X = Z by omega] at tg
        have hXm := sub_le_or (or_sub hXO hm)
        have rt : rV O u s (Z ||| b) = u s (X ||| (b &&& O)) := by
          unfold rV
          rw [if_pos (by omega), tg]
          congr 1
          omega
        intro s' Z' hs' hZ'
        by_cases g : s' = s ∧ Z' = Z ||| b
        · rw [g.1, g.2, up_eq, rt, rz, hc]
          have : rV O (stV (b &&& O) p s X u) s (Z ||| b) = omin (u s (X ||| (b &&& O))) (oad (u s X) p) := by
            unfold rV
            rw [if_pos (by omega)]
            exact if_pos ⟨rfl, by omega⟩
          rw [this, st_om (fun x hx => by have := GV_b hO hGu hx; omega) (fun x hx => by have := GV_b hO hGu hx; omega), hc]
        · rw [up_nk (by omega)]
          have : rV O (stV (b &&& O) p s X u) s' Z' = rV O u s' Z' := by
            unfold rV
            by_cases hz : 255 - O ≤ Z'
            · rw [if_pos hz, if_pos hz]
              refine if_neg (fun h => g ⟨h.1, ?_⟩)
              have := h.2
              omega
            · rw [if_neg hz, if_neg hz]
          rw [this]
          exact hC s' Z' hs' hZ'
    · have es : fo (fun X v => stV (b &&& O) p s X v) 0 (Z + 1 - (255 - O)) v = u := by
        rw [hu, show Z + 1 - (255 - O) = 0 by omega, show Z - (255 - O) = 0 by omega]
      have rz : rV O u s Z = none := if_neg hZ
      rw [es]
      refine same _ rfl ?_
      rw [rz, om_n]
      omega
/-! frames -/
def tTp (b k : Nat) : Bool := tTo b k || (Nat.beq b 151 || (Nat.beq b 152 || (Nat.beq b 129 && (Nat.beq k 40 || (Nat.beq k 41 || Nat.beq k 42)))))
theorem Tp_T {I J : pI} (h : Fr tTo I J) : Fr tTp I J := h.mo (fun b k e => by unfold tTp; rw [e]; rfl)
theorem tTp_N {I J : pI} (h : Fr tTp I J) : Fr tN I J := fun b k e => by
  refine h b k ?_
  cases e2 : tTp b k with
  | false => rfl
  | true =>
    exfalso
    unfold tTp at e2
    rw [Bool.or_eq_true, Bool.or_eq_true, Bool.or_eq_true, Bool.and_eq_true, Bool.or_eq_true, Bool.or_eq_true] at e2
    rcases e2 with e2 | e2 | e2 | ⟨e2, e3⟩
    · have := tTo_N (I := fun _ _ => 0) (J := fun b' k' => if b' = b ∧ k' = k then 1 else 0) (fun b' k' e' => by
        by_cases g : b' = b ∧ k' = k
        · obtain ⟨rfl, rfl⟩ := g
          rw [e2] at e'
          cases e'
        · simp only [if_neg g]) b k e
      simp at this
    · rw [Nat.eq_of_beq_eq_true e2] at e; cases e
    · rw [Nat.eq_of_beq_eq_true e2] at e; cases e
    · rw [Nat.eq_of_beq_eq_true e2] at e
      rcases e3 with e3 | e3 | e3
      · rw [Nat.eq_of_beq_eq_true e3] at e; cases e
      · rw [Nat.eq_of_beq_eq_true e3] at e; cases e
      · rw [Nat.eq_of_beq_eq_true e3] at e; cases e
theorem Tp_151 {I J : pI} (h : ∀ c, c ≠ 151 → J c = I c) : Fr tTp I J := fun b k e => by rw [h b (fun g => by rw [g] at e; cases e)]
/-! all words at a station -/
theorem m_sayW {q : pQ} {ρ : pP} {L : pL} {I : pI} {r : gT} {g : gL} {d : gD} {P S pl k t s : Nat} {hr dn : Int32} (hQ : MQ_ r g d P S ρ I) (hwr : WR r) (wQ : WQ (cmp r) g d P S) (h12 : I 130 12 = hr) (ht : t < 1000) (hs : s < S) {kk : jH → Option jH} : ∀ n w N v (J : pI) z0, w + n = lxW g → n < N → Fr tTp I J → GV (oW d dn t) S pl k v → MXr (oW d dn t) S v J → ∃ J' z, f_X11_speak_L13 5000 129 (nI t) (nI k) (nI s) kk N (nI w) (hp q (rr ρ z0) L J) = kk (hp q (rr ρ z) L J') ∧ MXr (oW d dn t) S (fo (fun w v => sayV (oW d dn t) (bW d g t w s &&& oW d dn t) (tol (cmp r) g w s (hr + nI k)) s v) w n v) J' ∧ Fr tTp I J' ∧ J' 129 40 = J 129 40 ∧ J' 129 41 = J 129 41 ∧ J' 129 42 = J 129 42
  | _, _, 0, _, _, _, _, h, _, _, _ => absurd h (Nat.not_lt_zero _)
  | 0, w, N + 1, v, J, z0, h1, h2, hF, hG, hC => by
    have hW := wQ.2.1.1
    have e2 : J 129 2 = nI (lxW g) := by rw [hF 129 2 rfl]; exact hQ.2.1.1
    refine ⟨J, z0, ?_, hC, hF, rfl, rfl, rfl⟩
    rw [f_X11_speak_L13]
    simp (disch := first | omega | assumption) only [↓bM, e2, nn_le, if_pos]
  | n + 1, w, N + 1, v, J, z0, h1, h2, hF, hG, hC => by
    have hW := wQ.2.1.1
    have hE := wQ.2.2.1.1
    have hS := wQ.2.2.2.2
    have hP4 := wQ.2.2.2.1
    have hw : w < lxW g := by omega
    have hO := (oW_e (d := d) (dn := dn) (t := t) hE).2
    obtain ⟨bw1, bw2⟩ := bW_e (d := d) (g := g) (t := t) (w := w) (s := s) hE
    have e2 : J 129 2 = nI (lxW g) := by rw [hF 129 2 rfl]; exact hQ.2.1.1
    have e12 : J 130 12 = hr := by rw [hF 130 12 rfl]; exact h12
    obtain ⟨J1, z1, a1, a2⟩ := m_tollA (q := q) (L := L) (s := s) (hr := hr + nI k) (z := z0) hQ hwr wQ.2.1 hw (tTp_N hF)
    have f1 : Fr tTp I J1 := Fr.tr hF (Tp_T a2)
    have hQ1 := MQ_N (z := z1) (tTp_N f1) hQ
    have de := m_does (q := q) (ρ := rr ρ z1) (L := L) (t := t) (w := w) (s := s) hQ1.2.2.1 wQ.2.2.1 (by omega) (by omega) ht (by omega) hQ1.2.1 wQ.2.1 hw
    rw [bw1] at de
    have hC1 : MXr (oW d dn t) S v J1 := fun s' Z' c1 c2 => by rw [a2.row 151 (fun k => rfl)]; exact hC s' Z' c1 c2
    have hC1' : MXr (oW d dn t) S (fo (fun X v => stV (bW d g t w s &&& oW d dn t) (tol (cmp r) g w s (hr + nI k)) s X v) 0 (0 - (255 - oW d dn t)) v) J1 := by rw [Nat.zero_sub]; exact hC1
    obtain ⟨J2, b1, b2, b3⟩ := m_sayL (q := q) (ρ := rr ρ z1) (L := L) (b := bW d g t w s) (p := tol (cmp r) g w s (hr + nI k)) (x1 := nI t) (x2 := nI k) (x4 := nI w) hO bw2 (tol_le wQ.2.1 hw) hs hS hG (kk := fun (h15 : jH) => f_X11_speak_L13 5000 129 (nI t) (nI k) (nI s) kk N (nI (w + 1)) h15) 256 0 5000 J1 (by omega) (by omega) hC1'
    have hG2 : GV (oW d dn t) S pl k (sayV (oW d dn t) (bW d g t w s &&& oW d dn t) (tol (cmp r) g w s (hr + nI k)) s v) := sayV_G (and_sub _ _) (tol_le wQ.2.1 hw) hG
    obtain ⟨J3, z3, c1, c2, c3, c4, c5, c6⟩ := m_sayW (q := q) (L := L) (k := k) hQ hwr wQ h12 ht hs (kk := kk) n (w + 1) N _ J2 z1 (by omega) (by omega) (Fr.tr f1 (Tp_151 b3)) hG2 b2
    refine ⟨J3, z3, ?_, c2, c3, by rw [c4, b3 129 (by omega), a2 129 40 rfl], by rw [c5, b3 129 (by omega), a2 129 41 rfl], by rw [c6, b3 129 (by omega), a2 129 42 rfl]⟩
    rw [f_X11_speak_L13]
    simp (disch := first | omega | assumption) only [↓bM, ↓bMA, ↓ob_, lt0, e2, e12, nn_le, if_neg, if_false, ↓b2e a1, ↓b2e de, nI_add]
    exact b1.trans c1
theorem m_sayA {q : pQ} {ρ : pP} {L : pL} {I : pI} {r : gT} {g : gL} {d : gD} {P S pl k t : Nat} {hr dn : Int32} {v : gV} (hQ : MQ_ r g d P S ρ I) (hwr : WR r) (wQ : WQ (cmp r) g d P S) (h12 : I 130 12 = hr) (ht : t < 1000) (hG : GV (oW d dn t) S pl k v) : ∀ n s N (J : pI) z0, s + n = S → n < N → Fr tTp I J → MXr (oW d dn t) S (sayA (oW d dn t) (fun w s => bW d g t w s) (fun w s => tol (cmp r) g w s (hr + nI k)) (lxW g) s v) J → ∃ J' z, f_X11_speak_L2 5000 129 (nI t) (nI k) N (nI s) (hp q (rr ρ z0) L J) = some (hp q (rr ρ z) L J') ∧ MXr (oW d dn t) S (sayA (oW d dn t) (fun w s => bW d g t w s) (fun w s => tol (cmp r) g w s (hr + nI k)) (lxW g) S v) J' ∧ Fr tTp I J' ∧ J' 129 40 = J 129 40 ∧ J' 129 41 = J 129 41 ∧ J' 129 42 = J 129 42
  | _, _, 0, _, _, _, h, _, _ => absurd h (Nat.not_lt_zero _)
  | 0, s, N + 1, J, z0, h1, h2, hF, hC => by
    have hS := wQ.2.2.2.2
    have : s = S := by omega
    subst this
    have e1 : J 129 1 = nI s := by rw [hF 129 1 rfl]; exact hQ.2.2.2.2
    refine ⟨J, z0, ?_, hC, hF, rfl, rfl, rfl⟩
    rw [f_X11_speak_L2]
    simp (disch := first | omega | assumption) only [↓bM, e1, nn_le, Nat.le_refl, if_true]
  | n + 1, s, N + 1, J, z0, h1, h2, hF, hC => by
    have hS := wQ.2.2.2.2
    have e1 : J 129 1 = nI S := by rw [hF 129 1 rfl]; exact hQ.2.2.2.2
    have hPb : ∀ w s, w < lxW g → (fun w s => tol (cmp r) g w s (hr + nI k)) w s ≤ 594 := fun w s hw => tol_le wQ.2.1 hw
    obtain ⟨J1, z1, a1, a2, a3, a4, a5, a6⟩ := m_sayW (q := q) (L := L) (s := s) (k := k) hQ hwr wQ h12 ht (by omega) (kk := fun (h16 : jH) => f_X11_speak_L2 5000 129 (nI t) (nI k) N (nI (s + 1)) h16) (lxW g) 0 5000 _ J z0 (by omega) (by have := wQ.2.1.1; omega) hF (sayA_G (n := s) hPb hG) hC
    have a2' : MXr (oW d dn t) S (sayA (oW d dn t) (fun w s => bW d g t w s) (fun w s => tol (cmp r) g w s (hr + nI k)) (lxW g) (s + 1) v) J1 := by rw [sayA_s]; exact a2
    obtain ⟨J2, z2, b1, b2, b3, b4, b5, b6⟩ := m_sayA (q := q) (L := L) hQ hwr wQ h12 ht hG n (s + 1) N J1 z1 (by omega) (by omega) a3 a2'
    refine ⟨J2, z2, ?_, b2, b3, by rw [b4, a4], by rw [b5, a5], by rw [b6, a6]⟩
    rw [f_X11_speak_L2]
    simp (disch := first | omega | assumption) only [↓bM, lt0, e1, nn_le, if_neg, if_false, nI_add]
    exact a1.trans b1
