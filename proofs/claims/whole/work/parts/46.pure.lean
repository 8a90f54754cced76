/-! SPEAKING -/
def spM (d : gD) (g : gL) (C : gC) (t w : Nat) : Int32 := mk (fun e => decide (duW d e = t) && (decide (duP d e = scP C t) && (mean g w (duM d e) && !bt (scD C) e))) (duE d)
theorem spM_x {d : gD} {g : gL} {C : gC} {t w : Nat} (hE : duE d ≤ 32) : (dMet d g w (scP C t) &&& dOf d t) &&& (scD C ^^^ -nI 1) = spM d g C t w := by
  refine b_ext (fun i hi => ?_)
  unfold dMet dOf spM
  rw [b_and, b_and, b_xor, mk_bt _ _ _ hE hi, mk_bt _ _ _ hE hi, mk_bt _ _ _ hE hi, show bt (-nI 1) i = true from b_m1 i hi]
  cases bt (scD C) i <;> cases decide (i < duE d) <;> cases decide (duW d i = t) <;> cases decide (duP d i = scP C t) <;> cases mean g w (duM d i) <;> rfl
/-- the toll of word w for traveller t in scene C -/
def spT (c : List Int32) (g : gL) (C : gC) (t w : Nat) : Nat := tol c g w (scP C t) (scH C)
def spC (c : List Int32) (g : gL) (d : gD) (C : gC) (t w : Nat) : gC := ((scH C, scD C ||| spM d g C t w), scP C, (fun i => if i = t then scU C t - spT c g C t w else scU C i), (fun i => if i = t then scS C t + nI (spT c g C t w) else scS C i), (fun k => if scP C t * 5 ≤ k ∧ k < scP C t * 5 + 5 then scB C k + nI (oft (lxL g w) (lxN g w) (k - scP C t * 5)) else scB C k))
theorem WS_sp {c : List Int32} {g : gL} {d : gD} {C : gC} {t w P S : Nat} (h : WS C P S) (ht : t < P) : WS (spC c g d C t w) P S := fun i hi => ⟨(h i hi).1, by
  show (if i = t then scU C t - spT c g C t w else scU C i) ≤ 9999
  have := (h i hi).2
  have := (h t ht).2
  split <;> omega⟩
theorem tol_le {c : List Int32} {g : gL} {w s : Nat} {hr : Int32} (hg : WL g) (hw : w < lxW g) : tol c g w s hr ≤ 594 := by
  have h1 := (tl_le c (lxL g w) (lxN g w) s hr (lxN g w)).1
  have h2 := (hg.2 w hw).1.2
  unfold tol
  omega
/-- what the class needs to know for it -/
def XQ (c : List Int32) (g : gL) (d : gD) (P S : Nat) (ρ : pP) (I : pI) : Prop := ((ρ.1.1 = 119 ∨ ρ.1.1 = 124) ∧ Tf ρ.1.1 c I) ∧ XL g I ∧ XD d I ∧ I 0 18 = nI P ∧ I 0 17 = nI S
def WQ (c : List Int32) (g : gL) (d : gD) (P S : Nat) : Prop := Cok c ∧ WL g ∧ WD d P S ∧ P ≤ 4 ∧ S ≤ 6
theorem XQ_k {c : List Int32} {g : gL} {d : gD} {P S : Nat} {ρ : pP} {I J : pI} (e0 : J 0 18 = I 0 18) (e1 : J 0 17 = I 0 17) (e2 : ∀ b, 5 ≤ b → b ≤ 11 → J b = I b) (e3 : ∀ b, 13 ≤ b → b ≤ 17 → J b = I b) (e4 : J ρ.1.1 4 = I ρ.1.1 4) (e5 : J (ρ.1.1 + 2) = I (ρ.1.1 + 2)) (h : XQ c g d P S ρ I) : XQ c g d P S ρ J := ⟨⟨h.1.1, Tf_k h.1.2 e4 e5⟩, XL_k e2 h.2.1, XD_k e3 h.2.2.1, e0.trans h.2.2.2.1, e1.trans h.2.2.2.2⟩
theorem XQ_T {c : List Int32} {g : gL} {d : gD} {P S : Nat} {ρ : pP} {I J : pI} (e : ∀ b, tT ρ.1.1 b → b ≠ 0 → (b < 19 ∨ 23 < b) → J b = I b) (e2 : ∀ k, k ≠ 19 → J 0 k = I 0 k) (h : XQ c g d P S ρ I) : XQ c g d P S ρ J := by
  have hA := h.1.1
  have z : ∀ b, b < 119 → tT ρ.1.1 b := fun b hb => by unfold tT; omega
  exact XQ_k (e2 18 (by omega)) (e2 17 (by omega)) (fun b h1 h2 => e b (z b (by omega)) (by omega) (by omega)) (fun b h1 h2 => e b (z b (by omega)) (by omega) (by omega)) (by rw [e _ (by unfold tT; omega) (by omega) (by omega)]) (e _ (by unfold tT; omega) (by omega) (by omega)) h
theorem x_speakL {q : pQ} {ρ : pP} {L : pL} {I : pI} {c : List Int32} {g : gL} {d : gD} {P S t w s : Nat} {x4 : Int32} (hQ : XQ c g d P S ρ I) (wQ : WQ c g d P S) (hw : w < lxW g) (hs : s < 6) {kk : jH → Option (Int32 × jH)} : ∃ J, f_X10_speak_L98 5000 0 (nI t) (nI w) (nI s) x4 kk 5000 (nI 0) (hp q ρ L I) = kk (hp q ρ L J) ∧ (∀ k, J 23 k = if s * 5 ≤ k ∧ k < s * 5 + 5 then I 23 k + nI (oft (lxL g w) (lxN g w) (k - s * 5)) else I 23 k) ∧ ∀ b, b ≠ 23 → J b = I b := by
  obtain ⟨J, e1, e2, e3⟩ := loE (fun m (z : pI) j => f_X10_speak_L98 5000 0 (nI t) (nI w) (nI s) x4 kk m (nI j) (hp q ρ L z)) (fun z => kk (hp q ρ L z)) 5 (fun j z => (∀ k, z 23 k = if s * 5 ≤ k ∧ k < s * 5 + j then I 23 k + nI (oft (lxL g w) (lxN g w) (k - s * 5)) else I 23 k) ∧ ∀ b, b ≠ 23 → z b = I b) (by
    intro m z p
    rw [f_X10_speak_L98]
    simp (disch := first | omega | assumption) only [↓bX, ↓bXA, ↓jn_, ↓ob_, ↓b2_, ↓reduceIte, nn_lt, nn_le, nn_eq, nI_add, pk_mul, nn_su, gn_lt, gn_le, ng_lt, ng_le, ng_eq, gn_eq, gg_eq, n_m1, n_cl, if_true, if_false, if_pos, if_neg, lt0, Nat.le_refl]) (by
    intro m z j hj p
    obtain ⟨p1, p2⟩ := p
    have hL : XL g z := XL_k (fun b _ _ => p2 b (by omega)) hQ.2.1
    have e := p1 (s * 5 + j)
    rw [if_neg (by omega)] at e
    refine ⟨j_up z 23 (s * 5 + j) (I 23 (s * 5 + j) + nI (oft (lxL g w) (lxN g w) j)), ?_, fun k => ?_, fun b hb => ?_⟩
    · rw [f_X10_speak_L98]
      simp (disch := first | omega | assumption) only [↓bX, ↓bXA, ↓jn_, ↓ob_, ↓b2_, ↓reduceIte, nn_lt, nn_le, nn_eq, nI_add, pk_mul, nn_su, gn_lt, gn_le, ng_lt, ng_le, ng_eq, gn_eq, gg_eq, n_m1, n_cl, if_true, if_false, if_pos, if_neg, lt0, ↓b2e (x_heardIn (q := q) (ρ := ρ) (L := L) hL wQ.2.1 hw hj), e]
    · rw [up_at]
      by_cases h : k = s * 5 + j
      · subst h
        rw [if_pos rfl, if_pos (by omega), Nat.add_sub_cancel_left]
      · rw [if_neg h, p1 k]
        by_cases h2 : s * 5 ≤ k ∧ k < s * 5 + j
        · rw [if_pos h2, if_pos (by omega)]
        · rw [if_neg h2, if_neg (by omega)]
    · rw [up_ne hb]
      exact p2 b hb) 5 5000 I 0 (by omega) (by omega) ⟨fun k => by rw [if_neg (by omega)], fun b _ => rfl⟩
  exact ⟨J, e1, e2, e3⟩
theorem x_speak0 {q : pQ} {ρ : pP} {L : pL} {I : pI} {c : List Int32} {g : gL} {d : gD} {C : gC} {P S t w : Nat} (hQ : XQ c g d P S ρ I) (wQ : WQ c g d P S) (hC : XS 19 C P I) (ht : t < P) (hw : w < lxW g) (hU : scU C t ≤ 9999) (hle : ¬ spT c g C t w ≤ scU C t) : ∃ J, f_X10_speak 5000 0 (nI t) (nI w) (hp q ρ L I) = some (-nI 2, hp q ρ L J) ∧ ∀ b, tT ρ.1.1 b → J b = I b := by
  obtain ⟨⟨hA, hT⟩, hL, hD, hP, hS⟩ := hQ
  obtain ⟨w1, w2, w3, w4, w5⟩ := wQ
  have hW := w2.1
  obtain ⟨J, e1, e2, e3⟩ := x_charge (q := q) (ρ := ρ) (L := L) (s := scP C t) (hr := scH C) hA hT w1 hL w2 hw
  have z : ∀ b, b < 119 → J b = I b := fun b hb => e3 b (by unfold tT; omega)
  have b1 : I 20 t = nI (scP C t) := (hC.2.1 t ht).1
  have b2 : J 21 t = nI (scU C t) := by rw [z 21 (by omega)]; exact (hC.2.1 t ht).2.1
  have b3 : I 19 0 = scH C := hC.1.1
  have h594 := tol_le (c := c) (s := scP C t) (hr := scH C) w2 hw
  unfold spT at hle
  refine ⟨J, ?_, e3⟩
  simp (disch := first | omega | assumption) only [f_X10_speak, ↓bX, ↓bXA, ↓jn_, ↓ob_, ↓b2_, ↓reduceIte, nn_lt, nn_le, nn_eq, nI_add, pk_mul, nn_su, gn_lt, gn_le, ng_lt, ng_le, ng_eq, gn_eq, gg_eq, n_m1, n_cl, if_true, if_false, if_pos, if_neg, lt0, ↓b2e (x_isT1 (q := q) (ρ := ρ) (L := L) hP (by omega) ht), ↓b2e (x_isW1 (q := q) (ρ := ρ) (L := L) hL.1 (by omega) hw), b1, b3, ↓b2e e1, b2]
theorem x_speak1 {q : pQ} {ρ : pP} {L : pL} {I : pI} {c : List Int32} {g : gL} {d : gD} {C : gC} {P S t w : Nat} (hQ : XQ c g d P S ρ I) (wQ : WQ c g d P S) (hC : XS 19 C P I) (hWS : WS C P S) (ht : t < P) (hw : w < lxW g) (hle : spT c g C t w ≤ scU C t) : ∃ J, f_X10_speak 5000 0 (nI t) (nI w) (hp q ρ L I) = some (nI (spT c g C t w), hp q ρ L J) ∧ XS 19 (spC c g d C t w) P J ∧ J 0 19 = spM d g C t w ∧ (∀ b, tT ρ.1.1 b → b ≠ 0 → (b < 19 ∨ 23 < b) → J b = I b) ∧ ∀ k, k ≠ 19 → J 0 k = I 0 k := by
  have hQ' := hQ
  obtain ⟨⟨hA, hT⟩, hL, hD, hP, hS⟩ := hQ
  have wQ' := wQ
  obtain ⟨w1, w2, w3, w4, w5⟩ := wQ
  have hW := w2.1
  have hpl := (hWS t ht).1
  have hpu := (hWS t ht).2
  obtain ⟨J, e1, e2, e3⟩ := x_charge (q := q) (ρ := ρ) (L := L) (s := scP C t) (hr := scH C) hA hT w1 hL w2 hw
  have z : ∀ b, b < 119 → J b = I b := fun b hb => e3 b (by unfold tT; omega)
  have b1 : I 20 t = nI (scP C t) := (hC.2.1 t ht).1
  have b2 : J 21 t = nI (scU C t) := by rw [z 21 (by omega)]; exact (hC.2.1 t ht).2.1
  have b3 : I 19 0 = scH C := hC.1.1
  have b4 : J 22 t = scS C t := by rw [z 22 (by omega)]; exact (hC.2.1 t ht).2.2
  have hQ2 : XQ c g d P S ρ (j_up (j_up J 21 t (nI (scU C t - spT c g C t w))) 22 t (scS C t + nI (spT c g C t w))) := XQ_T (fun b h1 h2 h3 => by rw [up_ne (by omega), up_ne (by omega), e3 b h1]) (fun k hk => by rw [up_ne (by omega), up_ne (by omega), z 0 (by omega)]) hQ'
  obtain ⟨K, f1, f2, f3⟩ := x_speakL (q := q) (L := L) (t := t) (x4 := nI (spT c g C t w)) hQ2 wQ' hw (s := scP C t) (by omega) (kk := fun (h32 : jH) =>
            (jg_R 10 3 h32 0).bind (fun v33 =>
            (jg_R 10 2 h32 0).bind (fun v34 =>
            j_b2 (f_X2_metBy 5000 v33 v34 (nI w) (nI (scP C t)) h32) (fun v36 h35 =>
            (jg_R 10 3 h35 0).bind (fun v37 =>
            j_b2 (f_X2_of 5000 v37 (nI t) h35) (fun v39 h38 =>
            (jg_R 10 4 h38 0).bind (fun v40 =>
            (jg_I 7 1 h38 v40).bind (fun v41 =>
            (jp_I 10 19 h38 0 ((v36 &&& v39) &&& (v41 ^^^ (-nI 1)))).bind (fun h42 =>
            (jg_R 10 4 h42 0).bind (fun v43 =>
            (jg_I 7 1 h42 v43).bind (fun v44 =>
            (jg_I 10 19 h42 0).bind (fun v45 =>
            (jp_I 7 1 h42 v43 (v44 ||| v45)).bind (fun h46 =>
            some (nI (spT c g C t w), h46))))))))))))))
  have kz : ∀ b, b < 119 → b ≠ 21 → b ≠ 22 → b ≠ 23 → K b = I b := fun b h1 h2 h3 h4 => by rw [f3 b h4, up_ne h3, up_ne h2, z b h1]
  have hL3 : XL g K := XL_k (fun b _ _ => kz b (by omega) (by omega) (by omega) (by omega)) hL
  have hD3 : XD d K := XD_k (fun b _ _ => kz b (by omega) (by omega) (by omega) (by omega)) hD
  have k1 : K 19 1 = scD C := by rw [kz 19 (by omega) (by omega) (by omega) (by omega)]; exact hC.1.2
  have hm := spM_x (d := d) (g := g) (C := C) (t := t) (w := w) (by have := w3.1; omega)
  refine ⟨j_up (j_up K 0 19 (spM d g C t w)) 19 1 (scD C ||| spM d g C t w), ?_, ⟨⟨?_, up_eq⟩, fun i hi => ⟨?_, ?_, ?_⟩, fun k hk => ?_⟩, ?_, fun b h1 h2 h3 => ?_, fun k hk => ?_⟩
  · rw [f_X10_speak]
    have hle' : tol c g w (scP C t) (scH C) ≤ scU C t := hle
    have h594 := tol_le (c := c) (s := scP C t) (hr := scH C) w2 hw
    simp (disch := first | omega | assumption) only [↓bX, ↓bXA, ↓jn_, ↓ob_, ↓b2_, ↓reduceIte, nn_lt, nn_le, nn_eq, nI_add, pk_mul, nn_su, gn_lt, gn_le, ng_lt, ng_le, ng_eq, gn_eq, gg_eq, n_m1, n_cl, if_true, if_false, if_pos, if_neg, lt0, ↓b2e (x_isT1 (q := q) (ρ := ρ) (L := L) hP (by omega) ht), ↓b2e (x_isW1 (q := q) (ρ := ρ) (L := L) hL.1 (by omega) hw), b1, b3, ↓b2e e1, b2, up_ne, b4]
    unfold spT at f1
    rw [f1]
    simp (disch := first | omega | assumption) only [↓bX, ↓bXA, ↓jn_, ↓ob_, ↓b2_, ↓reduceIte, nn_lt, nn_le, nn_eq, nI_add, pk_mul, nn_su, gn_lt, gn_le, ng_lt, ng_le, ng_eq, gn_eq, gg_eq, n_m1, n_cl, if_true, if_false, if_pos, if_neg, lt0, ↓b2e (x_metBy (q := q) (ρ := ρ) (L := L) (t := scP C t) hD3 w3 (by omega) (by omega) hL3 w2 hw), ↓b2e (x_of (q := q) (ρ := ρ) (L := L) (t := t) hD3 w3 (by omega) (by omega)), k1, hm, up_ne, up_eq]
    rfl
  · rw [up_nk (by omega), up_ne (by omega), kz 19 (by omega) (by omega) (by omega) (by omega)]
    exact hC.1.1
  · rw [up_ne (by omega), up_ne (by omega), kz _ (by omega) (by omega) (by omega) (by omega)]
    exact (hC.2.1 i hi).1
  · rw [up_ne (by omega), up_ne (by omega), f3 _ (by omega), up_ne (by omega)]
    show j_up J 21 t (nI (scU C t - spT c g C t w)) 21 i = nI (if i = t then scU C t - spT c g C t w else scU C i)
    rw [up_at]
    split
    · rfl
    · rw [z 21 (by omega)]
      exact (hC.2.1 i hi).2.1
  · rw [up_ne (by omega), up_ne (by omega), f3 _ (by omega)]
    show j_up _ 22 t (scS C t + nI (spT c g C t w)) 22 i = (if i = t then scS C t + nI (spT c g C t w) else scS C i)
    rw [up_at]
    split
    · rfl
    · rw [up_ne (by omega), z 22 (by omega)]
      exact (hC.2.1 i hi).2.2
  · have e23 : J 23 k = scB C k := by rw [z 23 (by omega)]; exact hC.2.2 k hk
    rw [up_ne (by omega), up_ne (by omega), f2 k, up_ne (by omega), up_ne (by omega), e23]
    rfl
  · rw [up_ne (by omega), up_eq]
  · rw [up_ne (by omega), up_ne h2, f3 b (by omega), up_ne (by omega), up_ne (by omega), e3 b h1]
  · rw [up_ne (by omega), up_nk hk, kz 0 (by omega) (by omega) (by omega) (by omega)]
/-! the reference speaks, in the scene of row a -/
theorem ar_j {a : Nat} (ha : a = 130 ∨ a = 157) : (∀ (q : pQ) (ρ : pP) (L : pL) (I : pI) j, j < 44 → ja_I 100 (hp q ρ L I) a (nI j) = some (I a j)) ∧ ∀ (q : pQ) (ρ : pP) (L : pL) (I : pI) j x, j < 44 → jb_I 100 (hp q ρ L I) a (nI j) x = some (hp q ρ L (j_up I a j x)) := by
  rcases ha with rfl | rfl
  · exact ⟨fun q ρ L I j hj => ha_I rfl rfl rfl hj, fun q ρ L I j x hj => hb_I rfl rfl rfl hj⟩
  · exact ⟨fun q ρ L I j hj => ha_I rfl rfl rfl hj, fun q ρ L I j x hj => hb_I rfl rfl rfl hj⟩
/-- what the reference needs to know for it -/
def MQ_ (r : gT) (g : gL) (d : gD) (P S : Nat) (ρ : pP) (I : pI) : Prop := Ru ρ 140 r I ∧ ML g I ∧ MD d I ∧ I 129 6 = nI P ∧ I 129 1 = nI S
def tGo (a b k : Nat) : Bool := tTo b k || (Nat.beq b a || (Nat.beq b 129 && Nat.beq k 31))
theorem MQ_k {r : gT} {g : gL} {d : gD} {P S a : Nat} {ρ : pP} {I J : pI} {z : Option Nat} (ha : a = 130 ∨ a = 157) (h : Fr (tGo a) I J) (g0 : MQ_ r g d P S ρ I) : MQ_ r g d P S (rr ρ z) J := by
  obtain ⟨⟨r1, r2, r3, r4⟩, g2, g3, g4, g5⟩ := g0
  rcases ha with rfl | rfl
  · refine ⟨⟨r1, r2, by rw [h 129 24 rfl]; exact r3, fun k hk => by rw [h.row 140 (fun k => rfl)]; exact r4 k hk⟩, ML_k (h 129 2 rfl) (h.row 131 (fun k => rfl)) (h.row 132 (fun k => rfl)) (h.row 133 (fun k => rfl)) g2, MD_k (h 129 7 rfl) (h.row 134 (fun k => rfl)) g3, by rw [h 129 6 rfl]; exact g4, by rw [h 129 1 rfl]; exact g5⟩
  · refine ⟨⟨r1, r2, by rw [h 129 24 rfl]; exact r3, fun k hk => by rw [h.row 140 (fun k => rfl)]; exact r4 k hk⟩, ML_k (h 129 2 rfl) (h.row 131 (fun k => rfl)) (h.row 132 (fun k => rfl)) (h.row 133 (fun k => rfl)) g2, MD_k (h 129 7 rfl) (h.row 134 (fun k => rfl)) g3, by rw [h 129 6 rfl]; exact g4, by rw [h 129 1 rfl]; exact g5⟩
theorem Fr_Go {a : Nat} {I J : pI} (h : Fr tTo I J) : Fr (tGo a) I J := h.mo (fun b k e => by unfold tGo; rw [e]; rfl)
theorem m_refSay {q : pQ} {ρ : pP} {L : pL} {I : pI} {r : gT} {g : gL} {d : gD} {C : gC} {a P S t w : Nat} (ha : a = 130 ∨ a = 157) (hQ : MQ_ r g d P S ρ I) (hr : WR r) (wQ : WQ (cmp r) g d P S) (hC : MS a 0 C P I) (ht : t < P) (hw : w < lxW g) (hU : scU C t ≤ 9999) : ∃ J z, f_X11_refusesSay 5000 129 a (nI t) (nI w) (hp q ρ L I) = some (if spT (cmp r) g C t w ≤ scU C t then nI 0 else -nI 2, hp q (rr ρ z) L J) ∧ Fr tTo I J := by
  obtain ⟨hR, hL, hD, hP, hS⟩ := hQ
  obtain ⟨w1, w2, w3, w4, w5⟩ := wQ
  have hW := w2.1
  obtain ⟨hA, hB⟩ := ar_j ha
  obtain ⟨J, z, e1, e2, e3⟩ := m_toll (q := q) (L := L) (s := scP C t) (hr := scH C) hR hr hL w2 hw
  have b1 := (hC.2.1 t ht).1
  have b2 := (hC.2.1 t ht).2.1
  have b3 := hC.1.1
  rw [Nat.zero_add] at b1 b2 b3
  have h594 := tol_le (c := cmp r) (s := scP C t) (hr := scH C) w2 hw
  refine ⟨J, z, ?_, e3⟩
  unfold spT
  by_cases h : tol (cmp r) g w (scP C t) (scH C) ≤ scU C t
  · simp (disch := first | omega | assumption) only [f_X11_refusesSay, ↓bM, ↓bMA, ↓jn_, ↓ob_, ↓b2_, ↓reduceIte, nn_lt, nn_le, nn_eq, nI_add, pk_mul, nn_su, gn_lt, gn_le, ng_lt, ng_le, ng_eq, gn_eq, gg_eq, n_m1, n_cl, if_true, if_false, if_pos, if_neg, lt0, ↓b2e (m_isT1 (q := q) (ρ := ρ) (L := L) hP (by omega) ht), ↓b2e (m_isW1 (q := q) (ρ := ρ) (L := L) hL.1 (by omega) hw), hA, b1, b2, b3, e1, if_pos h]
  · simp (disch := first | omega | assumption) only [f_X11_refusesSay, ↓bM, ↓bMA, ↓jn_, ↓ob_, ↓b2_, ↓reduceIte, nn_lt, nn_le, nn_eq, nI_add, pk_mul, nn_su, gn_lt, gn_le, ng_lt, ng_le, ng_eq, gn_eq, gg_eq, n_m1, n_cl, if_true, if_false, if_pos, if_neg, lt0, ↓b2e (m_isT1 (q := q) (ρ := ρ) (L := L) hP (by omega) ht), ↓b2e (m_isW1 (q := q) (ρ := ρ) (L := L) hL.1 (by omega) hw), hA, b1, b2, b3, e1, if_neg h]
theorem m_goB {q : pQ} {ρ : pP} {L : pL} {I : pI} {g : gL} {a t w s : Nat} {x4 : Int32} (ha : a = 130 ∨ a = 157) (hL : ML g I) (wL : WL g) (ht : t < 4) (hw : w < lxW g) (hs : s < 6) (hat : I a t = nI s) {kk : jH → Option (Int32 × jH)} : ∃ J, f_X11_goSay_L38 5000 129 a (nI t) (nI w) x4 kk 5000 (nI 0) (hp q ρ L I) = kk (hp q ρ L J) ∧ (∀ k, J a k = if 14 + 5 * s ≤ k ∧ k < 14 + 5 * s + 5 then I a k + nI (oft (lxL g w) (lxN g w) (k - (14 + 5 * s))) else I a k) ∧ ∀ b, b ≠ a → J b = I b := by
  obtain ⟨hA, hB⟩ := ar_j ha
  obtain ⟨J, e1, e2, e3⟩ := loE (fun m (z : pI) j => f_X11_goSay_L38 5000 129 a (nI t) (nI w) x4 kk m (nI j) (hp q ρ L z)) (fun z => kk (hp q ρ L z)) 5 (fun j z => (∀ k, z a k = if 14 + 5 * s ≤ k ∧ k < 14 + 5 * s + j then I a k + nI (oft (lxL g w) (lxN g w) (k - (14 + 5 * s))) else I a k) ∧ ∀ b, b ≠ a → z b = I b) (by
    intro m z p
    rw [f_X11_goSay_L38]
    simp (disch := first | omega | assumption) only [↓bM, ↓bMA, ↓jn_, ↓ob_, ↓b2_, ↓reduceIte, nn_lt, nn_le, nn_eq, nI_add, pk_mul, nn_su, gn_lt, gn_le, ng_lt, ng_le, ng_eq, gn_eq, gg_eq, n_m1, n_cl, if_true, if_false, if_pos, if_neg, lt0, Nat.le_refl]) (by
    intro m z j hj p
    obtain ⟨p1, p2⟩ := p
    have hL' : ML g z := ML_k (by rw [p2 129 (by omega)]) (p2 131 (by omega)) (p2 132 (by omega)) (p2 133 (by omega)) hL
    have e := p1 (14 + 5 * s + j)
    rw [if_neg (by omega)] at e
    have et := p1 t
    rw [if_neg (by omega), hat] at et
    refine ⟨j_up z a (14 + 5 * s + j) (I a (14 + 5 * s + j) + nI (oft (lxL g w) (lxN g w) j)), ?_, fun k => ?_, fun b hb => ?_⟩
    · rw [f_X11_goSay_L38]
      simp (disch := first | omega | assumption) only [↓bM, ↓bMA, ↓jn_, ↓ob_, ↓b2_, ↓reduceIte, nn_lt, nn_le, nn_eq, nI_add, pk_mul, nn_su, gn_lt, gn_le, ng_lt, ng_le, ng_eq, gn_eq, gg_eq, n_m1, n_cl, if_true, if_false, if_pos, if_neg, lt0, ↓b2e (m_often (q := q) (ρ := ρ) (L := L) hL' wL hw hj), hA, hB, et, e]
    · rw [up_at]
      by_cases h : k = 14 + 5 * s + j
      · subst h
        rw [if_pos rfl, if_pos (by omega), Nat.add_sub_cancel_left]
      · rw [if_neg h, p1 k]
        by_cases h2 : 14 + 5 * s ≤ k ∧ k < 14 + 5 * s + j
        · rw [if_pos h2, if_pos (by omega)]
        · rw [if_neg h2, if_neg (by omega)]
    · rw [up_ne hb]
      exact p2 b hb) 5 5000 I 0 (by omega) (by omega) ⟨fun k => by rw [if_neg (by omega)], fun b _ => rfl⟩
  exact ⟨J, e1, e2, e3⟩
theorem m_goE {q : pQ} {ρ : pP} {L : pL} {I : pI} {g : gL} {d : gD} {C : gC} {a P S t w : Nat} {x4 : Int32} (ha : a = 130 ∨ a = 157) (hL : ML g I) (wL : WL g) (hD : MD d I) (wD : WD d P S) (hP : P ≤ 4) (hS : S ≤ 6) (ht : t < P) (hw : w < lxW g) (hs : scP C t < S) (hat : I a t = nI (scP C t)) (h13 : I a 13 = scD C) (h31 : I 129 31 = nI 0) {kk : jH → Option (Int32 × jH)} : ∃ J, f_X11_goSay_L81 5000 129 a (nI t) (nI w) x4 kk 5000 (nI 0) (hp q ρ L I) = kk (hp q ρ L J) ∧ J 129 31 = spM d g C t w ∧ (∀ k, k ≠ 31 → J 129 k = I 129 k) ∧ ∀ b, b ≠ 129 → J b = I b := by
  obtain ⟨hA, hB⟩ := ar_j ha
  have h8 := wD.1
  obtain ⟨J, e1, e2, e3, e4⟩ := loE (fun m (z : pI) j => f_X11_goSay_L81 5000 129 a (nI t) (nI w) x4 kk m (nI j) (hp q ρ L z)) (fun z => kk (hp q ρ L z)) (duE d) (fun j z => z 129 31 = mk (fun e => decide (duW d e = t) && (decide (duP d e = scP C t) && (mean g w (duM d e) && !bt (scD C) e))) j ∧ (∀ k, k ≠ 31 → z 129 k = I 129 k) ∧ ∀ b, b ≠ 129 → z b = I b) (by
    intro m z p
    have e7 : z 129 7 = nI (duE d) := by rw [p.2.1 7 (by omega)]; exact hD.1
    rw [f_X11_goSay_L81]
    simp (disch := first | omega | assumption) only [↓bM, ↓bMA, ↓jn_, ↓ob_, ↓b2_, ↓reduceIte, nn_lt, nn_le, nn_eq, nI_add, pk_mul, nn_su, gn_lt, gn_le, ng_lt, ng_le, ng_eq, gn_eq, gg_eq, n_m1, n_cl, if_true, if_false, if_pos, if_neg, lt0, e7, Nat.le_refl]) (by
    intro m z j hj p
    obtain ⟨p1, p2, p3⟩ := p
    have hL' : ML g z := ML_k (p2 2 (by omega)) (p3 131 (by omega)) (p3 132 (by omega)) (p3 133 (by omega)) hL
    have hD' : MD d z := MD_k (p2 7 (by omega)) (p3 134 (by omega)) hD
    have e7 := hD'.1
    have et : z a t = nI (scP C t) := by rw [p3 a (by omega)]; exact hat
    have e13 : z a 13 = scD C := by rw [p3 a (by omega)]; exact h13
    obtain ⟨f0, f1, f2, f3⟩ := m_field (q := q) (ρ := ρ) (L := L) hD' wD hj
    obtain ⟨k1, k2, k3, k4⟩ := wD.2 j hj
    have hh := m_has (d := scD C) (e := j) (by omega) (hp q ρ L z)
    have hm := m_means (q := q) (ρ := ρ) (L := L) hL' wL hw (m := duM d j) (by omega)
    have key : ∀ x, x = (if (decide (duW d j = t) && (decide (duP d j = scP C t) && (mean g w (duM d j) && !bt (scD C) j))) = true then bit j else nI 0) → f_X11_goSay_L81 5000 129 a (nI t) (nI w) x4 kk (m + 1) (nI j) (hp q ρ L z) = f_X11_goSay_L81 5000 129 a (nI t) (nI w) x4 kk m (nI (j + 1)) (hp q ρ L (j_up z 129 31 (z 129 31 ||| x))) := by
      intro x hx
      rw [f_X11_goSay_L81]
      by_cases h1 : duW d j = t
      · by_cases h2 : duP d j = scP C t
        · cases h3 : mean g w (duM d j) with
          | true =>
            rw [h3, bo_t] at hm
            cases h4 : bt (scD C) j with
            | true =>
              rw [h4, if_pos rfl] at hh
              simp only [h1, h2, h3, h4, decide_true, Bool.not_true, Bool.and_false, Bool.false_eq_true, if_false] at hx
              simp (disch := first | omega | assumption) only [↓bM, ↓bMA, ↓jn_, ↓ob_, ↓b2_, ↓reduceIte, nn_lt, nn_le, nn_eq, nI_add, pk_mul, nn_su, gn_lt, gn_le, ng_lt, ng_le, ng_eq, gn_eq, gg_eq, n_m1, n_cl, if_true, if_false, if_pos, if_neg, lt0, e7, ↓b2e f0, h1, ↓b2e f2, h2, ↓b2e f1, hA, et, ↓b2e hm, e13, ↓b2e hh, hx]
            | false =>
              rw [h4] at hh
              simp only [Bool.false_eq_true, if_false] at hh
              simp only [h1, h2, h3, h4, decide_true, Bool.not_false, Bool.and_true, if_true] at hx
              simp (disch := first | omega | assumption) only [↓bM, ↓bMA, ↓jn_, ↓ob_, ↓b2_, ↓reduceIte, nn_lt, nn_le, nn_eq, nI_add, pk_mul, nn_su, gn_lt, gn_le, ng_lt, ng_le, ng_eq, gn_eq, gg_eq, n_m1, n_cl, if_true, if_false, if_pos, if_neg, lt0, e7, ↓b2e f0, h1, ↓b2e f2, h2, ↓b2e f1, hA, et, ↓b2e hm, e13, ↓b2e hh, hx]
              rfl
          | false =>
            rw [h3, bo_f] at hm
            simp only [h1, h2, h3, decide_true, Bool.false_and, Bool.and_false, Bool.false_eq_true, if_false] at hx
            simp (disch := first | omega | assumption) only [↓bM, ↓bMA, ↓jn_, ↓ob_, ↓b2_, ↓reduceIte, nn_lt, nn_le, nn_eq, nI_add, pk_mul, nn_su, gn_lt, gn_le, ng_lt, ng_le, ng_eq, gn_eq, gg_eq, n_m1, n_cl, if_true, if_false, if_pos, if_neg, lt0, e7, ↓b2e f0, h1, ↓b2e f2, h2, ↓b2e f1, hA, et, ↓b2e hm, hx]
        · simp only [h1, h2, decide_true, decide_false, Bool.false_and, Bool.and_false, Bool.false_eq_true, if_false] at hx
          simp (disch := first | omega | assumption) only [↓bM, ↓bMA, ↓jn_, ↓ob_, ↓b2_, ↓reduceIte, nn_lt, nn_le, nn_eq, nI_add, pk_mul, nn_su, gn_lt, gn_le, ng_lt, ng_le, ng_eq, gn_eq, gg_eq, n_m1, n_cl, if_true, if_false, if_pos, if_neg, lt0, e7, ↓b2e f0, h1, ↓b2e f2, h2, hA, et, hx]
      · simp only [h1, decide_false, Bool.false_and, Bool.false_eq_true, if_false] at hx
        simp (disch := first | omega | assumption) only [↓bM, ↓bMA, ↓jn_, ↓ob_, ↓b2_, ↓reduceIte, nn_lt, nn_le, nn_eq, nI_add, pk_mul, nn_su, gn_lt, gn_le, ng_lt, ng_le, ng_eq, gn_eq, gg_eq, n_m1, n_cl, if_true, if_false, if_pos, if_neg, lt0, e7, ↓b2e f0, h1, hx]
    refine ⟨_, key _ rfl, ?_, fun k hk => ?_, fun b hb => ?_⟩
    · rw [up_eq, mk_s, p1]
      split
      · rfl
      · exact or_0 _
    · rw [up_nk hk]
      exact p2 k hk
    · rw [up_ne hb]
      exact p3 b hb) (duE d) 5000 I 0 (by omega) (by omega) ⟨h31, fun k _ => rfl, fun b _ => rfl⟩
  exact ⟨J, e1, e2, e3, e4⟩
theorem m_goSay {q : pQ} {ρ : pP} {L : pL} {I : pI} {r : gT} {g : gL} {d : gD} {C : gC} {a P S t w : Nat} (ha : a = 130 ∨ a = 157) (hQ : MQ_ r g d P S ρ I) (hr : WR r) (wQ : WQ (cmp r) g d P S) (hC : MS a 0 C P I) (hWS : WS C P S) (ht : t < P) (hw : w < lxW g) (hle : spT (cmp r) g C t w ≤ scU C t) : ∃ J z, f_X11_goSay 5000 129 a (nI t) (nI w) (hp q ρ L I) = some (nI (spT (cmp r) g C t w), hp q (rr ρ z) L J) ∧ MS a 0 (spC (cmp r) g d C t w) P J ∧ J 129 31 = spM d g C t w ∧ Fr (tGo a) I J := by
  obtain ⟨hR, hL, hD, hP, hS⟩ := hQ
  obtain ⟨w1, w2, w3, w4, w5⟩ := wQ
  have hW := w2.1
  obtain ⟨hA, hB⟩ := ar_j ha
  have hpl := (hWS t ht).1
  have hpu := (hWS t ht).2
  obtain ⟨J, z, e1, e2, e3⟩ := m_toll (q := q) (L := L) (s := scP C t) (hr := scH C) hR hr hL w2 hw
  have ea : J a = I a := by rcases ha with rfl | rfl <;> exact e3.row _ (fun k => rfl)
  obtain ⟨⟨m1, m2⟩, m3, m4⟩ := hC
  have b1 := (m3 t ht).1
  have b2 := (m3 t ht).2.1
  have b3 := m1
  have b4 := (m3 t ht).2.2
  rw [Nat.zero_add] at b1 b2 b3 b4
  have hle' : tol (cmp r) g w (scP C t) (scH C) ≤ scU C t := hle
  have h594 := tol_le (c := cmp r) (s := scP C t) (hr := scH C) w2 hw
  let J2 := j_up (j_up J a (4 + t) (nI (scU C t - spT (cmp r) g C t w))) a (8 + t) (scS C t + nI (spT (cmp r) g C t w))
  have hJ2 : ∀ b, b ≠ a → J2 b = J b := fun b hb => by show j_up _ a _ _ b = _; rw [up_ne hb, up_ne hb]
  have hL2 : ML g J2 := ML_k (by rw [hJ2 129 (by omega)]; exact e3 129 2 rfl) (by rw [hJ2 131 (by omega)]; exact e3.row 131 (fun k => rfl)) (by rw [hJ2 132 (by omega)]; exact e3.row 132 (fun k => rfl)) (by rw [hJ2 133 (by omega)]; exact e3.row 133 (fun k => rfl)) hL
  have hD2 : MD d J2 := MD_k (by rw [hJ2 129 (by omega)]; exact e3 129 7 rfl) (by rw [hJ2 134 (by omega)]; exact e3.row 134 (fun k => rfl)) hD
  have a2 : ∀ k, k ≠ 4 + t → k ≠ 8 + t → J2 a k = I a k := fun k h1 h2 => by show j_up _ a _ _ a k = _; rw [up_nk h2, up_nk h1, ea]
  obtain ⟨K, f1, f2, f3⟩ := m_goB (q := q) (ρ := rr ρ z) (L := L) (x4 := nI (spT (cmp r) g C t w)) (I := J2) (t := t) ha hL2 w2 (by omega) hw (s := scP C t) (by omega) (by rw [a2 t (by omega) (by omega)]; exact b1) (kk := fun (h14 : jH) =>
      (jp_I 11 31 h14 129 (nI 0)).bind (fun h15 =>
      f_X11_goSay_L81 5000 129 a (nI t) (nI w) (nI (spT (cmp r) g C t w)) (fun (h38 : jH) =>
        (ja_I 100 h38 a (nI 13)).bind (fun v39 =>
        (jg_I 11 31 h38 129).bind (fun v40 =>
        (jb_I 100 h38 a (nI 13) (v39 ||| v40)).bind (fun h41 =>
        some (nI (spT (cmp r) g C t w), h41))))) 5000 (nI 0) h15))
  have k2 : ∀ b, b ≠ a → b ≠ 129 → j_up K 129 31 (nI 0) b = J b := fun b h1 h2 => by rw [up_ne h2, f3 b h1, hJ2 b h1]
  have k3 : ∀ k, k ≠ 31 → j_up K 129 31 (nI 0) 129 k = J 129 k := fun k h1 => by rw [up_nk h1, f3 129 (by omega), hJ2 129 (by omega)]
  have ka : ∀ k, k < 14 → j_up K 129 31 (nI 0) a k = J2 a k := fun k hk => by rw [up_ne (by omega), f2 k, if_neg (by omega)]
  have hL3 : ML g (j_up K 129 31 (nI 0)) := ML_k (by rw [k3 2 (by omega), ← hJ2 129 (by omega)]) (by rw [k2 131 (by omega) (by omega), ← hJ2 131 (by omega)]) (by rw [k2 132 (by omega) (by omega), ← hJ2 132 (by omega)]) (by rw [k2 133 (by omega) (by omega), ← hJ2 133 (by omega)]) hL2
  have hD3 : MD d (j_up K 129 31 (nI 0)) := MD_k (by rw [k3 7 (by omega), ← hJ2 129 (by omega)]) (by rw [k2 134 (by omega) (by omega), ← hJ2 134 (by omega)]) hD2
  obtain ⟨N, g1, g2, g3, g4⟩ := m_goE (q := q) (ρ := rr ρ z) (L := L) (C := C) (x4 := nI (spT (cmp r) g C t w)) ha hL3 w2 hD3 w3 w4 w5 ht hw hpl (by rw [ka t (by omega), a2 t (by omega) (by omega)]; exact b1) (by rw [ka 13 (by omega), a2 13 (by omega) (by omega)]; rw [Nat.zero_add] at m2; exact m2) up_eq (kk := fun (h38 : jH) =>
        (ja_I 100 h38 a (nI 13)).bind (fun v39 =>
        (jg_I 11 31 h38 129).bind (fun v40 =>
        (jb_I 100 h38 a (nI 13) (v39 ||| v40)).bind (fun h41 =>
        some (nI (spT (cmp r) g C t w), h41)))))
  have na : N a = K a := by rw [g4 a (by omega), up_ne (by omega)]
  have n13 : N a 13 = scD C := by rw [na, f2 13, if_neg (by omega), a2 13 (by omega) (by omega)]; rw [Nat.zero_add] at m2; exact m2
  refine ⟨j_up N a 13 (scD C ||| spM d g C t w), z, ?_, ⟨⟨?_, ?_⟩, fun i hi => ⟨?_, ?_, ?_⟩, fun k hk => ?_⟩, ?_, ?_⟩
  · rw [f_X11_goSay]
    have c1 : J a (4 + t) = nI (scU C t) := by rw [ea]; exact b2
    have c2 : J a (8 + t) = scS C t := by rw [ea]; exact b4
    simp (disch := first | omega | assumption) only [↓bM, ↓bMA, ↓jn_, ↓ob_, ↓b2_, ↓reduceIte, nn_lt, nn_le, nn_eq, nI_add, pk_mul, nn_su, gn_lt, gn_le, ng_lt, ng_le, ng_eq, gn_eq, gg_eq, n_m1, n_cl, if_true, if_false, if_pos, if_neg, lt0, hA, hB, b1, b3, ↓b2e e1, c1, up_nk, c2]
    have f1' := f1
    unfold spT at f1'
    refine f1'.trans ?_
    simp (disch := first | omega | assumption) only [↓bM, ↓bMA, ↓jn_, ↓ob_, ↓b2_, ↓reduceIte, nn_lt, nn_le, nn_eq, nI_add, pk_mul, nn_su, gn_lt, gn_le, ng_lt, ng_le, ng_eq, gn_eq, gg_eq, n_m1, n_cl, if_true, if_false, if_pos, if_neg, lt0]
    have g1' := g1
    unfold spT at g1'
    refine g1'.trans ?_
    simp (disch := first | omega | assumption) only [↓bM, ↓bMA, ↓jn_, ↓ob_, ↓b2_, ↓reduceIte, nn_lt, nn_le, nn_eq, nI_add, pk_mul, nn_su, gn_lt, gn_le, ng_lt, ng_le, ng_eq, gn_eq, gg_eq, n_m1, n_cl, if_true, if_false, if_pos, if_neg, lt0, hA, hB, n13, g2]
    rfl
  · rw [up_nk (by omega), na, f2 _, if_neg (by omega), a2 _ (by omega) (by omega)]
    exact m1
  · rw [Nat.zero_add, up_eq]
    rfl
  · rw [up_nk (by omega), na, f2 _, if_neg (by omega), a2 _ (by omega) (by omega)]
    exact (m3 i hi).1
  · rw [up_nk (by omega), na, f2 _, if_neg (by omega)]
    show j_up _ a (8 + t) _ a (0 + (4 + i)) = nI (if i = t then scU C t - spT (cmp r) g C t w else scU C i)
    rw [up_nk (by omega), up_at]
    split
    · rw [if_pos (by omega)]
    · rw [if_neg (by omega), ea]
      exact (m3 i hi).2.1
  · rw [up_nk (by omega), na, f2 _, if_neg (by omega)]
    show j_up _ a (8 + t) _ a (0 + (8 + i)) = (if i = t then scS C t + nI (spT (cmp r) g C t w) else scS C i)
    rw [up_at]
    split
    · rw [if_pos (by omega)]
    · rw [if_neg (by omega), up_nk (by omega), ea]
      exact (m3 i hi).2.2
  · rw [up_nk (by omega), na, f2 _, a2 _ (by omega) (by omega), m4 k hk]
    show _ = (if scP C t * 5 ≤ k ∧ k < scP C t * 5 + 5 then scB C k + nI (oft (lxL g w) (lxN g w) (k - scP C t * 5)) else scB C k)
    by_cases h : scP C t * 5 ≤ k ∧ k < scP C t * 5 + 5
    · rw [if_pos (by omega), if_pos h, show 0 + (14 + k) - (14 + 5 * scP C t) = k - scP C t * 5 by omega]
    · rw [if_neg (by omega), if_neg h]
  · rw [up_ne (by omega)]
    exact g2
  · intro b k e
    unfold tGo at e
    rw [Bool.or_eq_false_iff, Bool.or_eq_false_iff] at e
    obtain ⟨x1, x2, x3⟩ := e
    have ne : b ≠ a := fun h => by rw [h, show Nat.beq a a = true from Nat.beq_refl a] at x2; cases x2
    rw [up_ne ne]
    by_cases hb : b = 129
    · subst hb
      have nk : k ≠ 31 := fun h => by rw [h] at x3; cases x3
      rw [g3 k nk, k3 k nk]
      exact e3 129 k x1
    · rw [g4 b hb, k2 b ne hb]
      exact e3 b k x1
