/-! JOURNEY: acts in the reference -/
def tAc (b k : Nat) : Bool := tTo b k || (Nat.beq b 130 || (Nat.beq b 129 && (Nat.beq k 31 || Nat.beq k 33)))
theorem Ac_T {I J : pI} (h : Fr tTo I J) : Fr tAc I J := h.mo (fun b k e => by unfold tAc; rw [e]; rfl)
theorem Ac_G {I J : pI} (h : Fr (tGo 130) I J) : Fr tAc I J := h.mo (fun b k e => by
  unfold tGo at e
  unfold tAc
  rw [Bool.or_eq_true, Bool.or_eq_true, Bool.and_eq_true] at e ⊢
  rcases e with e | e | ⟨e1, e2⟩
  · exact .inl e
  · exact .inr (.inl e)
  · exact .inr (.inr (by rw [e1, e2]; exact ⟨rfl, rfl⟩)))
theorem MQ_Ac {r : gT} {g : gL} {d : gD} {P S : Nat} {ρ : pP} {I J : pI} {z : Option Nat} (h : Fr tAc I J) (g0 : MQ_ r g d P S ρ I) : MQ_ r g d P S (rr ρ z) J := by
  obtain ⟨⟨h1, h2, h3, h4⟩, h5, h6, h7, h8⟩ := g0
  exact ⟨⟨h1, h2, by rw [h 129 24 rfl]; exact h3, by rw [h.row 140 (fun k => rfl)]; exact h4⟩, ML_k (h 129 2 rfl) (h.row 131 (fun k => rfl)) (h.row 132 (fun k => rfl)) (h.row 133 (fun k => rfl)) h5, MD_k (h 129 7 rfl) (h.row 134 (fun k => rfl)) h6, by rw [h 129 6 rfl]; exact h7, by rw [h 129 1 rfl]; exact h8⟩
theorem m_wfL {q : pQ} {ρ : pP} {L : pL} {I : pI} {d : gD} {C : gC} {P S t : Nat} (hD : MD d I) (hd : WD d P S) (hP : P ≤ 4) (hS : S ≤ 6) (ht : t < P) (hs : scP C t < S) (h13 : I 130 13 = scD C) (h0 : I 130 t = nI (scP C t)) {kk : Int32 → jH → Option (Int32 × jH)} : ∀ m j N, j + m = duE d → m < N → f_X11_wordFor_L2 5000 129 (nI t) kk N (nI j) (hp q ρ L I) = (match fst_ (hrE d C t) m j with | none => some (-nI 1, hp q ρ L I) | some e => kk (nI e) (hp q ρ L I))
  | _, _, 0, _, h => absurd h (Nat.not_lt_zero _)
  | 0, j, N + 1, h1, h2 => by
    have hE := hd.1
    have h7 := hD.1
    rw [f_X11_wordFor_L2]
    simp (disch := first | omega | assumption) only [↓bM, lt0, h7, nn_le, if_pos, fst_]
  | m + 1, j, N + 1, h1, h2 => by
    have hE := hd.1
    have h7 := hD.1
    have hj : j < duE d := by omega
    have dp := (hd.2 j hj).2.2.1
    have op := m_openOf (q := q) (ρ := ρ) (L := L) (t := t) (dn := scD C) hD hd (by omega) (by omega) h13
    have hs_ := m_has (d := dOpen d (scD C) t) (e := j) (by omega) (hp q ρ L I)
    have eb : bt (dOpen d (scD C) t) j = (decide (duW d j = t) && !bt (scD C) j) := by
      unfold dOpen
      rw [mk_bt _ _ _ (by omega) (by omega), decide_eq_true hj, Bool.true_and]
    have fd := (m_field (q := q) (ρ := ρ) (L := L) hD hd hj).2.2.1
    rw [eb] at hs_
    have ih := m_wfL (q := q) (ρ := ρ) (L := L) hD hd hP hS ht hs h13 h0 (kk := kk) m (j + 1) N (by omega) (by omega)
    rw [f_X11_wordFor_L2, fst_]
    cases hb : (decide (duW d j = t) && !bt (scD C) j) with
    | false =>
      have hh : hrE d C t j = false := by unfold hrE; rw [hb]; rfl
      rw [hb, if_neg (by decide)] at hs_
      simp (disch := first | omega | assumption) only [↓bM, jn_, lt0, h7, nn_le, if_neg, if_false, ↓b2e op, ↓b2e hs_, if_true, hh, cond_false, nI_add]
      exact ih
    | true =>
      rw [hb, if_pos rfl] at hs_
      by_cases e : duP d j = scP C t
      · have hh : hrE d C t j = true := by unfold hrE; rw [hb, decide_eq_true e]; rfl
        simp (disch := first | omega | assumption) only [↓bM, ↓bMA, jn_, lt0, h7, nn_le, nn_eq, if_neg, if_false, ↓b2e op, ↓b2e hs_, ↓b2e fd, h0, e, if_true, hh, cond_true]
      · have hh : hrE d C t j = false := by unfold hrE; rw [hb, decide_eq_false e]; rfl
        simp (disch := first | omega | assumption) only [↓bM, ↓bMA, jn_, lt0, h7, nn_le, nn_eq, if_neg, if_false, ↓b2e op, ↓b2e hs_, ↓b2e fd, h0, e, hh, cond_false, nI_add]
        exact ih
theorem m_wFor {q : pQ} {ρ : pP} {L : pL} {I : pI} {r : gT} {g : gL} {d : gD} {C : gC} {P S t : Nat} (hQ : MQ_ r g d P S ρ I) (hr : WR r) (wQ : WQ (cmp r) g d P S) (hC : MS 130 0 C P I) (hWS : WS C P S) (ht : t < P) : ∃ J z, f_X11_wordFor 5000 129 (nI t) (hp q ρ L I) = some (eo (wFor (cmp r) g d C t), hp q (rr ρ z) L J) ∧ Fr tTo I J := by
  obtain ⟨w1, w2, w3, w4, w5⟩ := wQ
  have hpl := (hWS t ht).1
  have h0 := (hC.2.1 t ht).1
  have h13 := hC.1.2
  have h12 := hC.1.1
  rw [Nat.zero_add] at h0 h13 h12
  have lp := fun kk => m_wfL (q := q) (ρ := ρ) (L := L) (kk := kk) hQ.2.2.1 w3 w4 w5 ht hpl h13 h0 (duE d) 0 5000 (by omega) (by have := w3.1; omega)
  unfold wFor
  cases hf : fst_ (hrE d C t) (duE d) 0 with
  | none =>
    simp only [hf] at lp
    refine ⟨I, ρ.2.2.1, ?_, Fr.rf⟩
    rw [rr_id, eo_n]
    simp (disch := first | omega | assumption) only [f_X11_wordFor, ↓bM, lt0]
    exact lp _
  | some e =>
    simp only [hf] at lp
    obtain ⟨-, he, -⟩ := fst_s _ _ _ hf
    rw [Nat.zero_add] at he
    have fd := (m_field (q := q) (ρ := ρ) (L := L) hQ.2.2.1 w3 he).2.1
    have hm := (w3.2 e he).2.1
    obtain ⟨J, z, j1, j2⟩ := m_cheapO (q := q) (L := L) (s := scP C t) hQ hr w2 h12 (show duM d e < 1000 by omega)
    refine ⟨J, z, ?_, j2⟩
    simp (disch := first | omega | assumption) only [f_X11_wordFor, ↓bM, lt0]
    refine (lp _).trans ?_
    simp (disch := first | omega | assumption) only [↓bM, ↓bMA, ↓ob_, ↓b2e fd, h0, ↓b2e j1]
theorem m_spO {q : pQ} {ρ : pP} {L : pL} {I : pI} {r : gT} {g : gL} {d : gD} {C : gC} {P S t : Nat} {w : Option Nat} (hQ : MQ_ r g d P S ρ I) (hr : WR r) (wQ : WQ (cmp r) g d P S) (hC : MS 130 0 C P I) (hWS : WS C P S) (ht : t < P) (hw : ∀ x, w = some x → x < 1000) : ∃ J z v, (if eo w < nI 0 then
                  some (nI 0, hp q ρ L I)
                else
                  (jg_R 11 0 (hp q ρ L I) 129).bind (fun v17 =>
                  j_b2 (f_X11_refusesSay 5000 129 v17 (nI t) (eo w) (hp q ρ L I)) (fun v19 h18 =>
                  if nI 0 ≤ v19 then
                    (jg_I 11 33 h18 129).bind (fun v20 =>
                    (jg_R 11 0 h18 129).bind (fun v21 =>
                    j_b2 (f_X11_goSay 5000 129 v21 (nI t) (eo w) h18) (fun v23 h22 =>
                    (jp_I 11 33 h22 129 (v20 + v23)).bind (fun h24 =>
                    some (nI 1, h24)))))
                  else
                    some (nI 0, h18)))) = some (v, hp q (rr ρ z) L J) ∧ (jSay (cmp r) g d C t w = none → v = nI 0 ∧ MS 130 0 C P J ∧ J 129 33 = I 129 33) ∧ (∀ C' u, jSay (cmp r) g d C t w = some (C', u) → v = nI 1 ∧ MS 130 0 C' P J ∧ J 129 33 = I 129 33 + nI u) ∧ Fr tAc I J := by
  have wQ' := wQ
  obtain ⟨w1, w2, w3, w4, w5⟩ := wQ
  cases w with
  | none =>
    refine ⟨I, ρ.2.2.1, nI 0, ?_, fun _ => ⟨rfl, hC, rfl⟩, fun C' u h => (by cases h), Fr.rf⟩
    rw [rr_id, eo_n, if_pos (by rw [gn_lt (by omega) (by omega) (by omega)]; trivial)]
  | some w =>
    have hw' := hw w rfl
    rw [eo_s, if_neg (by rw [nn_lt (by omega) (by omega)]; omega)]
    by_cases h1 : w < lxW g
    · obtain ⟨J, z, j1, j2⟩ := m_refSay (q := q) (L := L) (.inl rfl) hQ hr wQ' hC ht h1 (hWS t ht).2
      have hQ2 := MQ_Ac (z := z) (Ac_T j2) hQ
      have hC2 : MS 130 0 C P J := MS_k (j2.row 130 (fun k => rfl)) hC
      by_cases h2 : spT (cmp r) g C t w ≤ scU C t
      · rw [if_pos h2] at j1
        obtain ⟨K, z', k1, k2, k3, k4⟩ := m_goSay (q := q) (L := L) (.inl rfl) hQ2 hr wQ' hC2 hWS ht h1 h2
        have es : jSay (cmp r) g d C t (some w) = some (spC (cmp r) g d C t w, spT (cmp r) g C t w) := if_pos ⟨h1, h2⟩
        refine ⟨j_up K 129 33 (J 129 33 + nI (spT (cmp r) g C t w)), z', nI 1, ?_, fun h => (by rw [es] at h; cases h), fun C' u h => ?_, Fr.up (Fr.tr (Ac_T j2) (Ac_G k4)) rfl⟩
        · simp (disch := first | omega | assumption) only [↓bM, ↓ob_, ↓b2e j1, nn_le, Nat.le_refl, if_true, ↓b2e k1]
          rfl
        · rw [es] at h
          cases h
          exact ⟨rfl, MS_k (up_ne (by omega)) k2, by rw [up_eq, j2 129 33 rfl]⟩
      · rw [if_neg h2] at j1
        have es : jSay (cmp r) g d C t (some w) = none := if_neg (fun h => h2 h.2)
        refine ⟨J, z, nI 0, ?_, fun _ => ⟨rfl, hC2, j2 129 33 rfl⟩, fun C' u h => (by rw [es] at h; cases h), Ac_T j2⟩
        simp (disch := first | omega | assumption) only [↓bM, ↓b2e j1, nle2, if_false]
    · have es : jSay (cmp r) g d C t (some w) = none := if_neg (fun h => h1 h.1)
      have e1 := m_isT1 (q := q) (ρ := ρ) (L := L) (I := I) hQ.2.2.2.1 (by omega) ht
      have e2 := m_isW0 (q := q) (ρ := ρ) (L := L) (I := I) hQ.2.1.1 (by have := w2.1; omega) (Out_ge (a := w) (n := lxW g) (by omega) (by omega))
      have rs : f_X11_refusesSay 5000 129 130 (nI t) (nI w) (hp q ρ L I) = some (-nI 1, hp q ρ L I) := by
        simp (disch := first | omega | assumption) only [f_X11_refusesSay, ↓bM, lt0, ↓b2e e1, nn_eq, if_neg, if_false, ↓b2e e2, if_true]
      refine ⟨I, ρ.2.2.1, nI 0, ?_, fun _ => ⟨rfl, hC, rfl⟩, fun C' u h => (by rw [es] at h; cases h), Fr.rf⟩
      rw [rr_id]
      simp (disch := first | omega | assumption) only [↓bM, ↓b2e rs, ng_le, if_false]
theorem m_goO {q : pQ} {ρ : pP} {L : pL} {I : pI} {r : gT} {g : gL} {d : gD} {C : gC} {P S t w : Nat} (hQ : MQ_ r g d P S ρ I) (wQ : WQ (cmp r) g d P S) (hC : MS 130 0 C P I) (hWS : WS C P S) (ht : t < P) (hw : w < 2) : ∃ J v, ((jg_R 11 0 (hp q ρ L I) 129).bind (fun v9 =>
            j_b2 (f_X11_refusesWalk 5000 129 v9 (nI t) (nI w) (hp q ρ L I)) (fun v11 h10 =>
            if nI 0 ≤ v11 then
              (jg_R 11 0 h10 129).bind (fun v12 =>
              j_b2 (f_X11_goWalk 5000 v12 (nI t) (nI w) h10) (fun v14 h13 =>
              some (nI 1, h13)))
            else
              some (nI 0, h10)))) = some (v, hp q ρ L J) ∧ (jGo_ S C t w = none → v = nI 0 ∧ MS 130 0 C P J ∧ J 129 33 = I 129 33) ∧ (∀ C' u, jGo_ S C t w = some (C', u) → v = nI 1 ∧ MS 130 0 C' P J ∧ J 129 33 = I 129 33 + nI u) ∧ Fr tAc I J := by
  obtain ⟨w1, w2, w3, w4, w5⟩ := wQ
  have hpl := (hWS t ht).1
  unfold jGo_
  cases g : goP S (scP C t) w with
  | none =>
    have e1 := m_ref0 (q := q) (ρ := ρ) (L := L) (.inl rfl) hC hQ.2.2.2.1 hQ.2.2.2.2 w4 w5 ht hw hpl g
    refine ⟨I, nI 0, ?_, fun _ => ⟨rfl, hC, rfl⟩, fun C' u h => (by cases h), Fr.rf⟩
    simp (disch := first | omega | assumption) only [↓bM, ↓b2e e1, nle2, if_false]
  | some p =>
    have e1 := m_ref1 (q := q) (ρ := ρ) (L := L) (.inl rfl) hC hQ.2.2.2.1 hQ.2.2.2.2 w4 w5 ht hw hpl g
    have e2 := m_goWalk (q := q) (ρ := ρ) (L := L) (.inl rfl) hC w4 w5 ht hw hpl g
    refine ⟨j_up (j_up I 130 t (nI p)) 130 12 (scH C + nI 1), nI 1, ?_, fun h => (by cases h), fun C' u h => ?_, Fr.up (Fr.up Fr.rf rfl) rfl⟩
    · simp (disch := first | omega | assumption) only [↓bM, ↓b2e e1, nn_le, Nat.le_refl, if_true, ↓b2e e2]
    · cases h
      exact ⟨rfl, MS_hr w4 (MS_mv w4 ht hC), by rw [up_ne (by omega), up_ne (by omega), add_0]⟩
theorem m_act {q : pQ} {ρ : pP} {L : pL} {I : pI} {r : gT} {g : gL} {d : gD} {C : gC} {P S : Nat} {a : Nat × Nat × Nat} {x3 : Int32} (hQ : MQ_ r g d P S ρ I) (hr : WR r) (wQ : WQ (cmp r) g d P S) (hC : MS 130 0 C P I) (hWS : WS C P S) (ha : a.1 ≤ 4 ∧ a.2.1 < 100 ∧ (a.1 ≠ 0 → a.2.1 < 4) ∧ (a.1 = 4 → a.2.2 < 10)) (hx : a.1 = 4 → x3 = nI a.2.2) : ∃ J z v, f_X11_act 5000 129 (nI (aM a.1)) (nI a.2.1) x3 (hp q ρ L I) = some (v, hp q (rr ρ z) L J) ∧ (jAct (cmp r) g d P S C a = none → v = nI 0 ∧ MS 130 0 C P J ∧ J 129 33 = I 129 33) ∧ (∀ C' u, jAct (cmp r) g d P S C a = some (C', u) → v = nI 1 ∧ MS 130 0 C' P J ∧ J 129 33 = I 129 33 + nI u) ∧ Fr tAc I J := by
  obtain ⟨a1, a2, a3, a4⟩ := ha
  have wQ' := wQ
  obtain ⟨w1, w2, w3, w4, w5⟩ := wQ
  obtain ⟨t, hte⟩ : ∃ t, t = a.2.1 := ⟨_, rfl⟩
  have h12 := hC.1.1
  rw [Nat.zero_add] at h12
  by_cases h0 : a.1 = 0
  · have em : aM a.1 = 119 := by rw [h0]; rfl
    have ej : jAct (cmp r) g d P S C a = some (hrC C (nI t), 0) := by rw [hte]; exact if_pos h0
    rw [em, ej, ← hte]
    refine ⟨j_up I 130 12 (scH C + nI t), ρ.2.2.1, nI 1, ?_, fun h => (by cases h), fun C' u h => ?_, Fr.up Fr.rf rfl⟩
    · rw [rr_id]
      simp (disch := first | omega | assumption) only [f_X11_act, ↓bM, ↓bMA, ↓ob_, lt0, if_true, h12]
    · cases h
      exact ⟨rfl, MS_hr w4 hC, by rw [up_ne (by omega), add_0]⟩
  · have ej : jAct (cmp r) g d P S C a = if t < P then (if a.1 = 1 then jGo_ S C t 1 else if a.1 = 2 then jGo_ S C t 0 else if a.1 = 3 then jSay (cmp r) g d C t (wFor (cmp r) g d C t) else jSay (cmp r) g d C t (some a.2.2)) else none := by rw [hte]; exact if_neg h0
    have ht4 := a3 h0
    rw [← hte] at ht4 ⊢
    have am : aM a.1 ≠ 119 ∧ aM a.1 < 200 := by
      unfold aM
      rw [if_neg h0]
      split
      · omega
      · split
        · omega
        · split <;> omega
    rw [ej]
    by_cases ht : t < P
    · have e1 := m_isT1 (q := q) (ρ := ρ) (L := L) (I := I) hQ.2.2.2.1 (by omega) ht
      rw [if_pos ht]
      by_cases h1 : a.1 = 1
      · have em : aM a.1 = 62 := by rw [h1]; rfl
        rw [if_pos h1, em]
        obtain ⟨J, v, j1, j2, j3, j4⟩ := m_goO (q := q) (ρ := ρ) (L := L) (w := 1) hQ wQ' hC hWS ht (by omega)
        refine ⟨J, ρ.2.2.1, v, ?_, j2, j3, j4⟩
        rw [rr_id, ← j1]
        simp (disch := first | omega | assumption) only [f_X11_act, kM, jn_, lt0, nn_eq, if_neg, if_false, ↓b2e e1, if_true]
      rw [if_neg h1]
      by_cases h2 : a.1 = 2
      · have em : aM a.1 = 60 := by rw [h2]; rfl
        rw [if_pos h2, em]
        obtain ⟨J, v, j1, j2, j3, j4⟩ := m_goO (q := q) (ρ := ρ) (L := L) (w := 0) hQ wQ' hC hWS ht (by omega)
        refine ⟨J, ρ.2.2.1, v, ?_, j2, j3, j4⟩
        rw [rr_id, ← j1]
        simp (disch := first | omega | assumption) only [f_X11_act, kM, jn_, lt0, nn_eq, if_neg, if_false, ↓b2e e1, if_true]
      rw [if_neg h2]
      by_cases h3 : a.1 = 3
      · have em : aM a.1 = 33 := by rw [h3]; rfl
        rw [if_pos h3, em]
        obtain ⟨J, z, j1, j2⟩ := m_wFor (q := q) (L := L) hQ hr wQ' hC hWS ht
        have hQ2 := MQ_Ac (z := z) (Ac_T j2) hQ
        have hC2 : MS 130 0 C P J := MS_k (j2.row 130 (fun k => rfl)) hC
        obtain ⟨K, z', v, k1, k2, k3, k4⟩ := m_spO (q := q) (L := L) (w := wFor (cmp r) g d C t) hQ2 hr wQ' hC2 hWS ht (fun x hx => by
          unfold wFor at hx
          split at hx
          · cases hx
          · have := (abest_in hx).1
            have := w2.1
            omega)
        rw [j2 129 33 rfl] at k2 k3
        refine ⟨K, z', v, Eq.trans ?_ k1, k2, k3, Fr.tr (Ac_T j2) k4⟩
        simp (disch := first | omega | assumption) only [f_X11_act, kM, jn_, lt0, nn_eq, if_neg, if_false, ↓b2e e1, ↓b2e j1]
      · have h4 : a.1 = 4 := by omega
        have em : aM a.1 = 115 := by rw [h4]; rfl
        have hk10 := a4 h4
        rw [if_neg h3, em, hx h4]
        obtain ⟨K, z', v, k1, k2, k3, k4⟩ := m_spO (q := q) (L := L) (w := some a.2.2) hQ hr wQ' hC hWS ht (fun x hx => by cases hx; omega)
        rw [eo_s] at k1
        refine ⟨K, z', v, Eq.trans ?_ k1, k2, k3, k4⟩
        simp (disch := first | omega | assumption) only [f_X11_act, kM, jn_, lt0, nn_eq, if_neg, if_false, ↓b2e e1, if_true]
    · have e0 := m_isT0 (q := q) (ρ := ρ) (L := L) (I := I) hQ.2.2.2.1 (by omega) (Out_ge (a := t) (n := P) (by omega) (by omega))
      rw [if_neg ht]
      refine ⟨I, ρ.2.2.1, nI 0, ?_, fun _ => ⟨rfl, hC, rfl⟩, fun C' u h => (by cases h), Fr.rf⟩
      rw [rr_id]
      simp (disch := first | omega | assumption) only [f_X11_act, ↓bM, lt0, nn_eq, if_neg, if_false, am.1, ↓b2e e0, if_true]
