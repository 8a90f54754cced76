/-! YEARS, whole -/
theorem tV_big {A n k : Nat} (h : 162 ≤ n) : tV A n k = true := by
  have e : Nat.ble 161 n = true := Nat.ble_eq_true_of_le (by omega)
  have e1 : Nat.blt n 103 = false := by
    cases e : Nat.blt n 103 with
    | false => rfl
    | true => rw [Nat.blt_eq] at e; omega
  have e2 : Nat.blt n 119 = false := by
    cases e : Nat.blt n 119 with
    | false => rfl
    | true => rw [Nat.blt_eq] at e; omega
  have e3 : Nat.blt n 129 = false := by
    cases e : Nat.blt n 129 with
    | false => rfl
    | true => rw [Nat.blt_eq] at e; omega
  unfold tV tY tX
  rw [e1, e2, e3, e]
  rfl
theorem Fr.ro {T : Nat → Nat → Bool} {I J : pI} {a : Nat} {g : Nat → Int32} (h : Fr T I J) (e : ∀ k, T a k = true) : Fr T I (j_row J a g) := fun b j ht => by
  by_cases hb : b = a
  · subst hb
    rw [e j] at ht
    cases ht
  · rw [row_ne hb]
    exact h b j ht
theorem x_new {q : pQ} {ρ : pP} {L : pL} {I : pI} {c m : Nat} (h : 162 ≤ q.1.1) : jn_O c m (hp q ρ L I) = some (q.1.1, hp (qN q c m) ρ (j_row L q.1.1 (fun _ => 0)) (j_row I q.1.1 (fun _ => 0))) := by
  show some (q.1.1, js_N (hp q ρ L I) (c, 0) m) = _
  rw [js_hp h]
theorem x_back {q : pQ} {ρ : pP} {L : pL} {I : pI} {g : gU} {C : gC} {P S : Nat} (hP : P ≤ 4) (hg : WU g P S) (hV : XV g C P I) : ∃ J, f_X4_backToMark 5000 24 19 (hp q ρ L I) = some (hp q ρ L J) ∧ XS 19 C P J ∧ ∀ a, a < 19 ∨ 23 < a → J a = I a := by
  obtain ⟨o, ho, h1, h2, h3, h4⟩ := hV
  have h12 := hg.1
  have hlt : (o + g.1) % 13 < 13 := Nat.mod_lt _ (by omega)
  obtain ⟨J, e1, e2, e3⟩ := x_copy (q := q) (ρ := ρ) (L := L) (I := I) (b := 19) (s := 26 + 5 * ((o + g.1) % 13)) (.inl rfl) (.inr (.inr (.inr ⟨_, hlt, rfl⟩))) (by omega)
  refine ⟨J, ?_, e2 C P hP h4, fun a ha => e3 a (by omega)⟩
  simp (disch := first | omega | assumption) only [f_X4_backToMark, kX, kXA, ob_, b2_, jn_, nn_lt, nn_le, nn_eq, nI_add, pk_mul, nn_su, gn_lt, gn_le, ng_lt, ng_le, ng_eq, gn_eq, gg_eq, n_m1, n_cl, if_true, if_false, if_pos, if_neg, ite_self, lt0, h2, x_slot h1 ho, x_scene hlt, e1]
theorem MS_12 {C : gC} {a P : Nat} {I : pI} {x : Int32} (hP : P ≤ 4) (e : x = scH C) (h : MS a 0 C P I) : MS a 0 C P (j_up I a 12 x) := by
  obtain ⟨⟨a1, a2⟩, a3, a4⟩ := h
  refine ⟨⟨by rw [Nat.zero_add, up_eq]; exact e, by rw [up_nk (by omega)]; exact a2⟩, fun i hi => ?_, fun k hk => by rw [up_nk (by omega)]; exact a4 k hk⟩
  obtain ⟨b1, b2, b3⟩ := a3 i hi
  exact ⟨by rw [up_nk (by omega)]; exact b1, by rw [up_nk (by omega)]; exact b2, by rw [up_nk (by omega)]; exact b3⟩
theorem MQ_N {r : gT} {g : gL} {d : gD} {P S : Nat} {ρ : pP} {I J : pI} {z : Option Nat} (h : Fr tN I J) (g0 : MQ_ r g d P S ρ I) : MQ_ r g d P S (rr ρ z) J := by
  obtain ⟨⟨r1, r2, r3, r4⟩, g2, g3, g4, g5⟩ := g0
  exact ⟨⟨r1, r2, by rw [h 129 24 rfl]; exact r3, fun k hk => by rw [h.row 140 (fun k => rfl)]; exact r4 k hk⟩, ML_k (h 129 2 rfl) (h.row 131 (fun k => rfl)) (h.row 132 (fun k => rfl)) (h.row 133 (fun k => rfl)) g2, MD_k (h 129 7 rfl) (h.row 134 (fun k => rfl)) g3, by rw [h 129 6 rfl]; exact g4, by rw [h 129 1 rfl]; exact g5⟩
theorem Fr_G7 {I J : pI} (h : Fr (tGo 157) I J) : Fr tN I J := h.mo (fun b k e => by
  unfold tGo at e
  rw [Bool.or_eq_true, Bool.or_eq_true, Bool.and_eq_true] at e
  rcases e with e | e | ⟨e, e'⟩
  · have y := tTo_N (I := fun b k => if tTo b k = true then 0 else 1) (J := fun _ _ => 1) (fun b k h => by simp [h])
    cases hN : tN b k with
    | true => rfl
    | false =>
      have := y b k hN
      simp [e] at this
  · have := Nat.eq_of_beq_eq_true e
    subst this
    rfl
  · have e1 := Nat.eq_of_beq_eq_true e
    have e2 := Nat.eq_of_beq_eq_true e'
    subst e1 e2
    rfl)
theorem m_yStep {q : pQ} {ρ : pP} {L : pL} {D : Int32 → Int32} {N : Int32 → Nat → Nat} {r : gT} {g : gL} {d : gD} {P S m j k : Nat} {y : gY} {J : pI} {z : Option Nat} {kk : Int32 → Int32 → jH → Option (Int32 × jH)} (hN : ∀ r n, 0 < n → N r n < n) (hB : ∀ (ρ : pP) (I : pI) m r, I 129 50 = r → 0 < m → m < 100000 → f_X11_draw 5000 129 (nI m) (hp q ρ L I) = some (nI (N (D r) m), hp q ρ L (j_up I 129 50 (D r))))
    (hQ : MQ_ r g d P S (rr ρ z) J) (hr : WR r) (wQ : WQ (cmp r) g d P S) (hP : 0 < P) (hW : 0 < lxW g) (hC : MS 157 0 y.1 P J) (hWS : WS y.1 P S) (h50 : J 129 50 = y.2.1) (hm : m ≤ 60) (hj : j < m) :
    ∃ z' J', f_X11_years_L59 5000 129 (nI m) kk (k + 1) y.2.2.1 y.2.2.2 (nI j) (hp q (rr ρ z) L J) = f_X11_years_L59 5000 129 (nI m) kk k (ySt D N (cmp r) g d P S y).2.2.1 (ySt D N (cmp r) g d P S y).2.2.2 (nI (j + 1)) (hp q (rr ρ z') L J') ∧ MS 157 0 (ySt D N (cmp r) g d P S y).1 P J' ∧ J' 129 50 = (ySt D N (cmp r) g d P S y).2.1 ∧ Fr tN J J' := by
  have wQ' := wQ
  obtain ⟨w1, w2, w3, w4, w5⟩ := wQ
  have hW10 := w2.1
  have fu : ∀ x, Fr tN J (j_up J 129 50 x) := fun x => Fr.up Fr.rf rfl
  have hx : ∀ x, MQ_ r g d P S (rr ρ z) (j_up J 129 50 x) := fun x => MQ_N (z := z) (fu x) hQ
  have hC2 : ∀ x, MS 157 0 y.1 P (j_up J 129 50 x) := fun x => MS_k (up_ne (by omega)) hC
  have e1 : f_X11_draw 5000 129 (nI P) (hp q (rr ρ z) L J) = some (nI (yT D N P y), hp q (rr ρ z) L (j_up J 129 50 (D y.2.1))) := hB _ _ P _ h50 hP (by omega)
  have e2 : f_X11_draw 5000 129 (nI 4) (hp q (rr ρ z) L (j_up J 129 50 (D y.2.1))) = some (nI (yK D N y), hp q (rr ρ z) L (j_up J 129 50 (D (D y.2.1)))) := by
    have := hB (rr ρ z) (j_up J 129 50 (D y.2.1)) 4 _ up_eq (by omega) (by omega)
    rw [up_up] at this
    exact this
  have ht : yT D N P y < P := hN _ _ hP
  have h4 : yK D N y < 4 := hN _ _ (by omega)
  have hpl := (hWS _ ht).1
  have hpu := (hWS _ ht).2
  have i6 := hQ.2.2.2.1
  have i2 : ∀ x, j_up J 129 50 x 129 2 = nI (lxW g) := fun x => (hx x).2.1.1
  have h12 : ∀ x, j_up J 129 50 x 157 12 = scH y.1 := fun x => by have := (hC2 x).1.1; rw [Nat.zero_add] at this; exact this
  by_cases h2 : yK D N y < 2
  · rw [show ySt D N (cmp r) g d P S y = yGo y.1 (yT D N P y) (goP S (scP y.1 (yT D N P y)) (1 - yK D N y)) (D (D y.2.1)) y.2.2.1 y.2.2.2 from if_pos h2]
    have hw2 : 1 - yK D N y < 2 := by omega
    cases hg : goP S (scP y.1 (yT D N P y)) (1 - yK D N y) with
    | some p =>
      rw [yGo_1]
      have e3 := m_ref1 (q := q) (ρ := rr ρ z) (L := L) (I := j_up J 129 50 (D (D y.2.1))) (a := 157) (.inr rfl) (hC2 _) (hx _).2.2.2.1 (hx _).2.2.2.2 w4 w5 ht hw2 hpl hg
      have e4 := m_goWalk (q := q) (ρ := rr ρ z) (L := L) (I := j_up J 129 50 (D (D y.2.1))) (a := 157) (.inr rfl) (hC2 _) w4 w5 ht hw2 hpl hg
      refine ⟨z, j_up (j_up (j_up J 129 50 (D (D y.2.1))) 157 (yT D N P y) (nI p)) 157 12 (scH y.1 + nI 1), ?_, MS_hr w4 (MS_mv w4 ht (hC2 _)), by rw [up_ne (by omega), up_ne (by omega), up_eq], Fr.up (Fr.up (fu _) rfl) rfl⟩
      rw [f_X11_years_L59]
      simp (disch := first | omega | assumption) only [↓bM, ↓bMA, ↓jn_, ↓ob_, ↓b2_, ↓reduceIte, nn_lt, nn_le, nn_eq, nI_add, pk_mul, nn_su, gn_lt, gn_le, ng_lt, ng_le, ng_eq, gn_eq, gg_eq, n_m1, n_cl, if_true, if_false, if_pos, if_neg, lt0, i6, ↓b2e e1, ↓b2e e2, h12, ↓b2e e3, ↓b2e e4, up_up, add_0]
    | none =>
      rw [yGo_0]
      have e3 := m_ref0 (q := q) (ρ := rr ρ z) (L := L) (I := j_up J 129 50 (D (D y.2.1))) (a := 157) (.inr rfl) (hC2 _) (hx _).2.2.2.1 (hx _).2.2.2.2 w4 w5 ht hw2 hpl hg
      refine ⟨z, j_up (j_up J 129 50 (D (D y.2.1))) 157 12 (scH y.1 + nI 1), ?_, MS_hr w4 (hC2 _), by rw [up_ne (by omega), up_eq], Fr.up (fu _) rfl⟩
      rw [f_X11_years_L59]
      simp (disch := first | omega | assumption) only [↓bM, ↓bMA, ↓jn_, ↓ob_, ↓b2_, ↓reduceIte, nn_lt, nn_le, nn_eq, nI_add, pk_mul, nn_su, gn_lt, gn_le, ng_lt, ng_le, ng_eq, gn_eq, gg_eq, n_m1, n_cl, if_true, if_false, if_pos, if_neg, lt0, i6, ↓b2e e1, ↓b2e e2, h12, ↓b2e e3]
  · rw [show ySt D N (cmp r) g d P S y = ySay (cmp r) g d y.1 (yT D N P y) (yW D N g y) (D (D (D y.2.1))) y.2.2.1 y.2.2.2 from if_neg h2]
    unfold ySay
    have e3 : f_X11_draw 5000 129 (nI (lxW g)) (hp q (rr ρ z) L (j_up J 129 50 (D (D y.2.1)))) = some (nI (yW D N g y), hp q (rr ρ z) L (j_up J 129 50 (D (D (D y.2.1))))) := by
      have := hB (rr ρ z) (j_up J 129 50 (D (D y.2.1))) (lxW g) _ up_eq hW (by omega)
      rw [up_up] at this
      exact this
    have hw : yW D N g y < lxW g := hN _ _ hW
    obtain ⟨K, z1, f1, f2⟩ := m_refSay (q := q) (L := L) (a := 157) (.inr rfl) (hx (D (D (D y.2.1)))) hr wQ' (hC2 _) ht hw hpu
    have f2' := tTo_N f2
    by_cases hle : spT (cmp r) g y.1 (yT D N P y) (yW D N g y) ≤ scU y.1 (yT D N P y)
    · rw [if_pos hle]
      rw [if_pos hle] at f1
      obtain ⟨M, z2, g1, g2, g3, g4⟩ := m_goSay (q := q) (L := L) (a := 157) (.inr rfl) (MQ_N (z := z1) f2' (hx _)) hr wQ' (MS_k (f2.row 157 (fun k => rfl)) (hC2 _)) hWS ht hw hle
      refine ⟨z2, j_up M 157 12 (scH y.1 + nI 1), ?_, MS_hr w4 g2, ?_, Fr.up (Fr.tr (Fr.tr (fu _) f2') (Fr_G7 g4)) rfl⟩
      · rw [f_X11_years_L59]
        simp (disch := first | omega | assumption) only [↓bM, ↓bMA, ↓jn_, ↓ob_, ↓b2_, ↓reduceIte, nn_lt, nn_le, nn_eq, nI_add, pk_mul, nn_su, gn_lt, gn_le, ng_lt, ng_le, ng_eq, gn_eq, gg_eq, n_m1, n_cl, if_true, if_false, if_pos, if_neg, lt0, i6, ↓b2e e1, ↓b2e e2, h12, i2, ↓b2e e3, ↓b2e f1, ↓b2e g1, add_0]
        rfl
      · rw [up_ne (by omega), g4 129 50 rfl, f2 129 50 rfl, up_eq]
    · rw [if_neg hle]
      rw [if_neg hle] at f1
      refine ⟨z1, j_up K 157 12 (scH y.1 + nI 1), ?_, MS_hr w4 (MS_k (f2.row 157 (fun k => rfl)) (hC2 _)), ?_, Fr.up (Fr.tr (fu _) f2') rfl⟩
      · rw [f_X11_years_L59]
        simp (disch := first | omega | assumption) only [↓bM, ↓bMA, ↓jn_, ↓ob_, ↓b2_, ↓reduceIte, nn_lt, nn_le, nn_eq, nI_add, pk_mul, nn_su, gn_lt, gn_le, ng_lt, ng_le, ng_eq, gn_eq, gg_eq, n_m1, n_cl, if_true, if_false, if_pos, if_neg, lt0, i6, ↓b2e e1, ↓b2e e2, h12, i2, ↓b2e e3, ↓b2e f1]
        rfl
      · rw [up_ne (by omega), f2 129 50 rfl, up_eq]
theorem m_yearsL {q : pQ} {ρ : pP} {L : pL} {I : pI} {D : Int32 → Int32} {N : Int32 → Nat → Nat} {r : gT} {g : gL} {d : gD} {P S m : Nat} {y : gY} {kk : Int32 → Int32 → jH → Option (Int32 × jH)} (hN : ∀ r n, 0 < n → N r n < n) (hB : ∀ (ρ : pP) (I : pI) m r, I 129 50 = r → 0 < m → m < 100000 → f_X11_draw 5000 129 (nI m) (hp q ρ L I) = some (nI (N (D r) m), hp q ρ L (j_up I 129 50 (D r))))
    (hQ : MQ_ r g d P S ρ I) (hr : WR r) (wQ : WQ (cmp r) g d P S) (hP : 0 < P) (hW : 0 < lxW g) (hC : MS 157 0 y.1 P I) (hWS : WS y.1 P S) (h50 : I 129 50 = y.2.1) (hm : m ≤ 60) (h1 : y.2.2.1 = nI 0) (h2 : y.2.2.2 = nI 0) :
    ∃ z J, f_X11_years_L59 5000 129 (nI m) kk 5000 (nI 0) (nI 0) (nI 0) (hp q ρ L I) = kk (yN D N (cmp r) g d P S y m).2.2.1 (yN D N (cmp r) g d P S y m).2.2.2 (hp q (rr ρ z) L J) ∧ MS 157 0 (yN D N (cmp r) g d P S y m).1 P J ∧ Fr tN I J := by
  obtain ⟨⟨p, f, z, J⟩, e1, e2, e3, e4, e5, e6, e7⟩ := loE (fun k (s : Int32 × Int32 × Option Nat × pI) j => f_X11_years_L59 5000 129 (nI m) kk k s.1 s.2.1 (nI j) (hp q (rr ρ s.2.2.1) L s.2.2.2)) (fun s => kk s.1 s.2.1 (hp q (rr ρ s.2.2.1) L s.2.2.2)) m (fun j s => s.1 = (yN D N (cmp r) g d P S y j).2.2.1 ∧ s.2.1 = (yN D N (cmp r) g d P S y j).2.2.2 ∧ MS 157 0 (yN D N (cmp r) g d P S y j).1 P s.2.2.2 ∧ WS (yN D N (cmp r) g d P S y j).1 P S ∧ s.2.2.2 129 50 = (yN D N (cmp r) g d P S y j).2.1 ∧ Fr tN I s.2.2.2) (by
    rintro k ⟨p, f, z, J⟩ _
    simp only []
    rw [f_X11_years_L59]
    simp (disch := first | omega | assumption) only [↓bM, ↓bMA, ↓jn_, ↓ob_, ↓b2_, ↓reduceIte, nn_lt, nn_le, nn_eq, nI_add, pk_mul, nn_su, gn_lt, gn_le, ng_lt, ng_le, ng_eq, gn_eq, gg_eq, n_m1, n_cl, if_true, if_false, if_pos, if_neg, lt0, Nat.le_refl]) (by
    rintro k ⟨p, f, z, J⟩ j hj ⟨p1, p2, p3, p4, p5, p6⟩
    simp only [] at p1 p2 p3 p4 p5 p6
    obtain ⟨z', J', f1, f2, f3, f4⟩ := m_yStep (q := q) (ρ := ρ) (L := L) (k := k) (j := j) (m := m) (kk := kk) hN hB (MQ_N (z := z) p6 hQ) hr wQ hP hW p3 p4 p5 hm hj
    refine ⟨((ySt D N (cmp r) g d P S (yN D N (cmp r) g d P S y j)).2.2.1, (ySt D N (cmp r) g d P S (yN D N (cmp r) g d P S y j)).2.2.2, z', J'), ?_, ?_⟩
    · simp only []
      rw [p1, p2]
      exact f1
    · rw [yN_s]
      exact ⟨rfl, rfl, f2, WS_y hN hP p4, f3, Fr.tr p6 f4⟩) m 5000 (nI 0, nI 0, ρ.2.2.1, I) 0 (by omega) (by omega) ⟨h1.symm, h2.symm, hC, hWS, h50, Fr.rf⟩
  simp only [] at e1 e2 e3 e4 e5 e6 e7
  exact ⟨z, J, by rw [← e2, ← e3]; exact e1, e4, e7⟩
theorem k_years_ (D : Int32 → Int32) (N : Int32 → Nat → Nat) (hN : ∀ r n, 0 < n → N r n < n) (hBx : ∀ (q : pQ) (ρ : pP) (L : pL) (n : Nat), 162 ≤ n → q.2 n = (1, 0) → ∀ (I : pI) m r, I n 0 = r → 0 < m → m < 100000 → f_X1_below 5000 n (nI m) (hp q ρ L I) = some (nI (N (D r) m), hp q ρ L (j_up I n 0 (D r)))) (hBm : ∀ (q : pQ) (L : pL) (ρ : pP) (I : pI) m r, I 129 50 = r → 0 < m → m < 100000 → f_X11_draw 5000 129 (nI m) (hp q ρ L I) = some (nI (N (D r) m), hp q ρ L (j_up I 129 50 (D r)))) (a b : Int32) : ∀ G, Wr G → ∃ v G', Wr G' ∧ XH (f_X10_years 5000 0 a b) G v G' ∧ MH (f_X11_years 5000 129 a b) G v G' := by
  intro G hG
  have hG' := hG
  have wQ := WQ_of hG
  obtain ⟨w1, w2, w3, w4, w5, w6, w7, w8, w9⟩ := hG
  have hW10 := w2.1
  have fin : ∀ v, (∀ q ρ L I, Xr G ρ L I → f_X10_years 5000 0 a b (hp q ρ L I) = some (v, hp q ρ L I)) → (∀ t q ρ L I, Mr t G ρ L I → Ms t G ρ (j_up I 129 13 (nI 0)) → f_X11_years 5000 129 a b (hp q ρ L I) = some (v, hp q ρ L (j_up I 129 13 (nI 0)))) → ∃ v G', Wr G' ∧ XH (f_X10_years 5000 0 a b) G v G' ∧ MH (f_X11_years 5000 129 a b) G v G' :=
    fun v hx hm => ⟨v, G, hG', XH_0 hx, MH_0 (fun t q ρ L I h => hm t q ρ L I h (Ms_0 h.1))⟩
  by_cases hP0 : gP G = 0
  · refine fin (-nI 2) ?_ ?_
    · rintro q ρ L I ⟨⟨hT, hL, hD, hP, hS, hU, hK, hR, hρ⟩, hW⟩
      have e := hP.1
      rw [hP0] at e
      simp (disch := first | omega | assumption) only [f_X10_years, ↓bX, ↓bXA, ↓jn_, ↓ob_, ↓b2_, ↓reduceIte, nn_lt, nn_le, nn_eq, nI_add, pk_mul, nn_su, gn_lt, gn_le, ng_lt, ng_le, ng_eq, gn_eq, gg_eq, n_m1, n_cl, if_true, if_false, if_pos, if_neg, lt0, e]
    · rintro t q ρ L I - ⟨hT, hL, hD, hP, hS, hU, hK, hR⟩
      have e := hP.1
      rw [hP0] at e
      simp (disch := first | omega | assumption) only [f_X11_years, ↓bM, ↓bMA, ↓jn_, ↓ob_, ↓b2_, ↓reduceIte, nn_lt, nn_le, nn_eq, nI_add, pk_mul, nn_su, gn_lt, gn_le, ng_lt, ng_le, ng_eq, gn_eq, gg_eq, n_m1, n_cl, if_true, if_false, if_pos, if_neg, lt0, e]
  by_cases hW0 : lxW (gLx G) = 0
  · refine fin (-nI 2) ?_ ?_
    · rintro q ρ L I ⟨⟨hT, hL, hD, hP, hS, hU, hK, hR, hρ⟩, hW⟩
      have e := hP.1
      have e2 := hL.1
      rw [hW0] at e2
      simp (disch := first | omega | assumption) only [f_X10_years, ↓bX, ↓bXA, ↓jn_, ↓ob_, ↓b2_, ↓reduceIte, nn_lt, nn_le, nn_eq, nI_add, pk_mul, nn_su, gn_lt, gn_le, ng_lt, ng_le, ng_eq, gn_eq, gg_eq, n_m1, n_cl, if_true, if_false, if_pos, if_neg, lt0, e, e2]
    · rintro t q ρ L I - ⟨hT, hL, hD, hP, hS, hU, hK, hR⟩
      have e := hP.1
      have e2 := hL.1
      rw [hW0] at e2
      simp (disch := first | omega | assumption) only [f_X11_years, ↓bM, ↓bMA, ↓jn_, ↓ob_, ↓b2_, ↓reduceIte, nn_lt, nn_le, nn_eq, nI_add, pk_mul, nn_su, gn_lt, gn_le, ng_lt, ng_le, ng_eq, gn_eq, gg_eq, n_m1, n_cl, if_true, if_false, if_pos, if_neg, lt0, e, e2]
  rcases ixo b 61 (by omega) with h | ⟨m, hm, rfl⟩
  · refine fin (-nI 1) ?_ ?_
    · rintro q ρ L I ⟨⟨hT, hL, hD, hP, hS, hU, hK, hR, hρ⟩, hW⟩
      have e := hP.1
      have e2 := hL.1
      rcases h with h | ⟨h1, h2⟩
      · simp (disch := first | omega | assumption) only [f_X10_years, ↓bX, ↓bXA, ↓jn_, ↓ob_, ↓b2_, ↓reduceIte, nn_lt, nn_le, nn_eq, nI_add, pk_mul, nn_su, gn_lt, gn_le, ng_lt, ng_le, ng_eq, gn_eq, gg_eq, n_m1, n_cl, if_true, if_false, if_pos, if_neg, lt0, e, e2, i_lt01 h]
      · obtain ⟨j1, j2, j3⟩ := i_9999 (n := 60) (by omega) h1 h2
        simp (disch := first | omega | assumption) only [f_X10_years, ↓bX, ↓bXA, ↓jn_, ↓ob_, ↓b2_, ↓reduceIte, nn_lt, nn_le, nn_eq, nI_add, pk_mul, nn_su, gn_lt, gn_le, ng_lt, ng_le, ng_eq, gn_eq, gg_eq, n_m1, n_cl, if_true, if_false, if_pos, if_neg, lt0, e, e2, j1, j2]
    · rintro t q ρ L I - ⟨hT, hL, hD, hP, hS, hU, hK, hR⟩
      have e := hP.1
      have e2 := hL.1
      rcases h with h | ⟨h1, h2⟩
      · simp (disch := first | omega | assumption) only [f_X11_years, f_X11_in, ↓bM, ↓bMA, ↓jn_, ↓ob_, ↓b2_, ↓reduceIte, nn_lt, nn_le, nn_eq, nI_add, pk_mul, nn_su, gn_lt, gn_le, ng_lt, ng_le, ng_eq, gn_eq, gg_eq, n_m1, n_cl, if_true, if_false, if_pos, if_neg, lt0, e, e2, i_lt01 h]
      · obtain ⟨j1, j2, j3⟩ := i_9999 (n := 60) (by omega) h1 h2
        simp (disch := first | omega | assumption) only [f_X11_years, f_X11_in, ↓bM, ↓bMA, ↓jn_, ↓ob_, ↓b2_, ↓reduceIte, nn_lt, nn_le, nn_eq, nI_add, pk_mul, nn_su, gn_lt, gn_le, ng_lt, ng_le, ng_eq, gn_eq, gg_eq, n_m1, n_cl, if_true, if_false, if_pos, if_neg, lt0, e, e2, j1, j3]
  by_cases hm0 : m = 0
  · subst hm0
    refine fin (-nI 1) ?_ ?_
    · rintro q ρ L I ⟨⟨hT, hL, hD, hP, hS, hU, hK, hR, hρ⟩, hW⟩
      have e := hP.1
      have e2 := hL.1
      simp (disch := first | omega | assumption) only [f_X10_years, ↓bX, ↓bXA, ↓jn_, ↓ob_, ↓b2_, ↓reduceIte, nn_lt, nn_le, nn_eq, nI_add, pk_mul, nn_su, gn_lt, gn_le, ng_lt, ng_le, ng_eq, gn_eq, gg_eq, n_m1, n_cl, if_true, if_false, if_pos, if_neg, lt0, e, e2]
    · rintro t q ρ L I - ⟨hT, hL, hD, hP, hS, hU, hK, hR⟩
      have e := hP.1
      have e2 := hL.1
      simp (disch := first | omega | assumption) only [f_X11_years, f_X11_in, ↓bM, ↓bMA, ↓jn_, ↓ob_, ↓b2_, ↓reduceIte, nn_lt, nn_le, nn_eq, nI_add, pk_mul, nn_su, gn_lt, gn_le, ng_lt, ng_le, ng_eq, gn_eq, gg_eq, n_m1, n_cl, if_true, if_false, if_pos, if_neg, lt0, e, e2]
  have hPp : 0 < gP G := by omega
  have hWp : 0 < lxW (gLx G) := by omega
  obtain ⟨Y, hY⟩ : ∃ Y, Y = yN D N (cmp (gRu G)) (gLx G) (gDu G) (gP G) (gS G) (gN G, a, nI 0, nI 0) m := ⟨_, rfl⟩
  refine ⟨bc (scD Y.1) - bc (scD (gN G)), sRw G (2, fun i => if i = 0 then Y.2.2.1.toInt64 else Y.2.2.2.toInt64), ⟨w1, w2, w3, w4, w5, w6, w7, by simp only []; omega, w9⟩, ?_, MH_q _ ?_⟩
  · intro q ρ L I hq hX
    have hQ := XQ_of hX.1
    have hA := hQ.1.1
    have hX' := hX
    obtain ⟨⟨hT, hL, hD, hP, hS, hU, hK, hR, hρ⟩, hW⟩ := hX'
    obtain ⟨J, e1, e2, e3⟩ := x_mark (q := q) (ρ := ρ) (L := L) w4.1 hU w6 hS
    have hF1 : Fr (tV ρ.1.1) I (j_up (j_row J q.1.1 (fun _ => 0)) q.1.1 0 a) := Fr.up (Fr.ro (Fr_26 (fun a ha => e3 a (by omega))) (fun k => tV_big hq)) (tV_big hq)
    have low : ∀ b, b < 162 → j_up (j_row J q.1.1 (fun _ => 0)) q.1.1 0 a b = J b := fun b hb => by rw [up_ne (by omega), row_ne (by omega)]
    have hS1 : XS 19 (gN G) (gP G) (j_up (j_row J q.1.1 (fun _ => 0)) q.1.1 0 a) := XS_k (fun i hi => by rw [low _ (by omega), e3 _ (by omega)]) hS
    have hV1 : XV (gUn G) (gN G) (gP G) (j_up (j_row J q.1.1 (fun _ => 0)) q.1.1 0 a) := XV_k (fun b _ _ => low b (by omega)) e2
    have hq1 : (qN q 1 1).2 q.1.1 = (1, 0) := if_pos rfl
    have hnew := x_new (ρ := ρ) (L := L) (I := J) (c := 1) (m := 1) hq
    have hini : f_X1_init 5000 q.1.1 a (hp (qN q 1 1) ρ (j_row L q.1.1 (fun _ => 0)) (j_row J q.1.1 (fun _ => 0))) = some (hp (qN q 1 1) ρ (j_row L q.1.1 (fun _ => 0)) (j_up (j_row J q.1.1 (fun _ => 0)) q.1.1 0 a)) := by
      rw [f_X1_init, hN_p hq hq1, ob]
    have i1 : j_up (j_row J q.1.1 (fun _ => 0)) q.1.1 0 a 19 1 = scD (gN G) := hS1.1.2
    have up1 : j_up (j_row J q.1.1 (fun _ => 0)) q.1.1 0 a q.1.1 0 = a := up_eq
    generalize j_up (j_row J q.1.1 (fun _ => 0)) q.1.1 0 a = I1 at hF1 low hS1 hV1 hini i1 up1
    obtain ⟨K, f1, f2, f3, f4⟩ := x_yearsL (q := qN q 1 1) (ρ := ρ) (L := j_row L q.1.1 (fun _ => 0)) (n := q.1.1) (m := m) (y := (gN G, a, nI 0, nI 0)) (U := gUn G) (C0 := gN G) hN (hBx _ _ _ _ hq hq1) hq hq1 (XQ_V hF1 hQ) wQ hPp hWp hS1 w5 up1 hV1 (by omega) rfl rfl (x4 := bc (scD (gN G))) (kk := fun (y22 : Int32) (y23 : Int32) (h24 : jH) =>
              (jg_R 10 4 h24 0).bind (fun v25 =>
              (jg_I 7 1 h24 v25).bind (fun v26 =>
              j_b2 (f_J6_bitCount_0f7a4 5000 v26 h24) (fun v28 h27 =>
              (jg_R 10 5 h27 0).bind (fun v29 =>
              (jg_R 10 4 h27 0).bind (fun v30 =>
              (f_X4_backToMark 5000 v29 v30 h27).bind (fun h31 =>
              (jg_R 10 1 h31 0).bind (fun v32 =>
              (f_X6_tell_ 5000 v32 (y22.toInt64) (y23.toInt64) h31).bind (fun h33 =>
              some ((v28 - bc (scD (gN G))), h33))))))))))
    rw [← hY] at f1 f2
    obtain ⟨M, g1, g2, g3⟩ := x_back (q := qN q 1 1) (ρ := ρ) (L := j_row L q.1.1 (fun _ => 0)) w4.1 w6 f3
    have hF : Fr (tV ρ.1.1) I (j_up M 3 1 (nI 2)) := Fr.up (Fr.tr (Fr.tr hF1 f4) (Fr_26 (fun a ha => g3 a (by omega)))) (by rcases hA with e | e <;> rw [e] <;> rfl)
    have k1 := f2.1.2
    refine ⟨qN q 1 1, ρ, j_up (j_up (j_row L q.1.1 (fun _ => 0)) 4 0 Y.2.2.1.toInt64) 4 1 Y.2.2.2.toInt64, j_up M 3 1 (nI 2), ?_, ⟨Xs_sc (G := sRw G (2, fun i => if i = 0 then Y.2.2.1.toInt64 else Y.2.2.2.toInt64)) hF (XS_k (fun i hi => up_ne (by omega)) g2) (XU_k (fun b _ _ => by rw [up_ne (by omega), g3 b (by omega)]) (XV_U f3)) hX.1, XW_2⟩, ⟨rfl, ?_, fun b h1 h2 => funext (fun k => hF b k (tV_m h1 h2))⟩, Nat.le_succ _, Nat.le_refl _, Nat.add_le_add_left (by omega) _⟩
    · rw [f_X10_years]
      simp (disch := first | omega | assumption) only [↓bX, ↓bXA, ↓jn_, ↓ob_, ↓b2_, ↓reduceIte, nn_lt, nn_le, nn_eq, nI_add, pk_mul, nn_su, gn_lt, gn_le, ng_lt, ng_le, ng_eq, gn_eq, gg_eq, n_m1, n_cl, if_true, if_false, if_pos, if_neg, lt0, hP.1, hL.1, ↓oe e1, ↓b2e hnew, ↓oe hini, i1, ↓b2e (bc_eq (scD (gN G)) _)]
      rw [f1]
      simp (disch := first | omega | assumption) only [↓bX, ↓bXA, ↓jn_, ↓ob_, ↓b2_, ↓reduceIte, nn_lt, nn_le, nn_eq, nI_add, pk_mul, nn_su, gn_lt, gn_le, ng_lt, ng_le, ng_eq, gn_eq, gg_eq, n_m1, n_cl, if_true, if_false, if_pos, if_neg, lt0, k1, bc_eq, ↓oe g1, ↓oe (x_tell2 (q := qN q 1 1) (ρ := ρ) (L := j_row L q.1.1 (fun _ => 0)) (I := M))]
    · rw [up_ne (by omega), up_ne (by omega), row_ne (by omega)]
  · rintro t q ρ L I ⟨hM, hW⟩
    have hM0 := Ms_0 (x := nI 0) hM
    have hQ0 := MQ_of hM0
    obtain ⟨hT, hL, hD, hP, hS, hU, hK, hR⟩ := hM0
    obtain ⟨J, e1, e2, e3, e4⟩ := m_lay (q := q) (ρ := ρ) (L := L) (I := j_up (j_up I 129 13 (nI 0)) 129 50 a) (a := 130) (b := 157) (o := 0) (n := 44) rfl rfl rfl rfl (by omega) (by omega) (by omega)
    have fr1 : Fr tN (j_up I 129 13 (nI 0)) J := fun b k h => by
      by_cases hb : b = 157
      · subst hb; cases h
      · rw [e4 b hb]
        exact (Fr.up Fr.rf rfl : Fr tN (j_up I 129 13 (nI 0)) _) b k h
    have hS1 : MS 157 0 (gN G) (gP G) J := MS_lay (I := j_up I 129 13 (nI 0)) (o' := 0) w4.1 (fun k hk => by rw [e2 k hk, up_ne (by omega), Nat.zero_add]) hS
    have j50 : J 129 50 = a := by rw [e4 129 (by omega), up_eq]
    obtain ⟨z, K, f1, f2, f3⟩ := m_yearsL (q := q) (L := L) (ρ := ρ) (I := J) (m := m) (y := (gN G, a, nI 0, nI 0)) hN (hBm q L) (MQ_N (z := ρ.2.2.1) fr1 hQ0) w9 wQ hPp hWp hS1 w5 j50 (by omega) rfl rfl (kk := fun (y44 : Int32) (y45 : Int32) (h46 : jH) =>
            (jp_I 11 12 h46 129 (nI 0)).bind (fun h47 =>
            (f_X11_tell 5000 129 (y44.toInt64) h47).bind (fun h48 =>
            (f_X11_tell 5000 129 (y45.toInt64) h48).bind (fun h49 =>
            (jg_R 11 51 h49 129).bind (fun v50 =>
            (ja_I 100 h49 v50 (nI 13)).bind (fun v51 =>
            j_b2 (f_J6_bitCount_0f7a4 5000 v51 h49) (fun v53 h52 =>
            (jg_R 11 0 h52 129).bind (fun v54 =>
            (ja_I 100 h52 v54 (nI 13)).bind (fun v55 =>
            j_b2 (f_J6_bitCount_0f7a4 5000 v55 h52) (fun v57 h56 =>
            some ((v53 - v57), h56)))))))))))
    rw [← hY] at f1 f2
    have k1 := f2.1.2
    rw [Nat.zero_add] at k1
    have k2 : K 130 13 = scD (gN G) := by
      have := hS.1.2
      rw [Nat.zero_add] at this
      rw [f3.row 130 (fun k => rfl), fr1.row 130 (fun k => rfl)]
      exact this
    refine ⟨rr ρ z, j_up (j_up L 136 0 Y.2.2.1.toInt64) 136 1 Y.2.2.2.toInt64, j_up K 129 12 (nI 2), ?_, Fr.up (Fr.tr (Fr.tr (Fr.up Fr.rf rfl) fr1) f3) rfl, ⟨rfl, rfl, rfl⟩, ?_, MW_2⟩
    · rw [f_X11_years]
      have hin := m_in m 1 60 (hp q ρ L (j_up I 129 13 (nI 0))) (by omega) (by omega) (by omega)
      rw [if_pos (by omega)] at hin
      simp (disch := first | omega | assumption) only [↓bM, ↓bMA, ↓jn_, ↓ob_, ↓b2_, ↓reduceIte, nn_lt, nn_le, nn_eq, nI_add, pk_mul, nn_su, gn_lt, gn_le, ng_lt, ng_le, ng_eq, gn_eq, gg_eq, n_m1, n_cl, if_true, if_false, if_pos, if_neg, lt0, hP.1, hL.1, ↓b2e hin, ↓oe e1]
      rw [f1]
      simp (disch := first | omega | assumption) only [↓bM, ↓bMA, ↓jn_, ↓ob_, ↓b2_, ↓reduceIte, nn_lt, nn_le, nn_eq, nI_add, pk_mul, nn_su, gn_lt, gn_le, ng_lt, ng_le, ng_eq, gn_eq, gg_eq, n_m1, n_cl, if_true, if_false, if_pos, if_neg, lt0, m_tell, up_ne, k1, k2, bc_eq]
    · rw [up_ne (by omega), up_ne (by omega)]
theorem k_years (a b : Int32) : ∀ G, Wr G → ∃ v G', Wr G' ∧ XH (f_X10_years 5000 0 a b) G v G' ∧ MH (f_X11_years 5000 129 a b) G v G' :=
  k_years_ dr dn (fun r n h => dn_lt h) (fun q ρ L n hn hq I m r h1 h2 h3 => x_below hn hq h1 h2 h3) (fun q L ρ I m r h1 h2 h3 => m_draw h1 h2 h3) a b
