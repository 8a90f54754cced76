/-! JOURNEY: acts one by one -/
def jrn (c : List Int32) (g : gL) (d : gD) (P S : Nat) (A : Nat → Nat × Nat × Nat) : Nat → Nat → gC → Int32 → Nat × gC × Int32
  | 0, j, C, p => (j, C, p)
  | m + 1, j, C, p => match jAct c g d P S C (A j) with
    | none => (j, C, p)
    | some (C', u) => jrn c g d P S A m (j + 1) C' (p + nI u)
theorem jrn_n {c : List Int32} {g : gL} {d : gD} {P S : Nat} {A : Nat → Nat × Nat × Nat} {m j : Nat} {C : gC} {p : Int32} (h : jAct c g d P S C (A j) = none) : jrn c g d P S A (m + 1) j C p = (j, C, p) := by
  rw [jrn, h]
theorem jrn_s {c : List Int32} {g : gL} {d : gD} {P S u : Nat} {A : Nat → Nat × Nat × Nat} {m j : Nat} {C C' : gC} {p : Int32} (h : jAct c g d P S C (A j) = some (C', u)) : jrn c g d P S A (m + 1) j C p = jrn c g d P S A m (j + 1) C' (p + nI u) := by
  rw [jrn, h]
theorem jrn_in {c : List Int32} {g : gL} {d : gD} {P S : Nat} {A : Nat → Nat × Nat × Nat} (hg : WL g) : ∀ m j C p, WS C P S → j ≤ (jrn c g d P S A m j C p).1 ∧ (jrn c g d P S A m j C p).1 ≤ j + m ∧ WS (jrn c g d P S A m j C p).2.1 P S
  | 0, j, C, p, h => ⟨Nat.le_refl _, Nat.le_refl _, h⟩
  | m + 1, j, C, p, h => by
    cases e : jAct c g d P S C (A j) with
    | none =>
      rw [jrn_n e]
      exact ⟨Nat.le_refl _, Nat.le_add_right _ _, h⟩
    | some o =>
      obtain ⟨C', u⟩ := o
      rw [jrn_s e]
      obtain ⟨a, b, c⟩ := jrn_in hg m (j + 1) C' (p + nI u) (jAct_W hg h e).1
      exact ⟨by omega, by omega, c⟩
def aOk (a : Nat × Nat × Nat) : Prop := a.1 ≤ 4 ∧ a.2.1 < 100 ∧ (a.1 ≠ 0 → a.2.1 < 4) ∧ (a.1 = 4 → a.2.2 < 10)
theorem x_jrn {q : pQ} {ρ : pP} {L : pL} {c : List Int32} {g : gL} {d : gD} {P S K : Nat} {A : Nat → Nat × Nat × Nat} (wQ : WQ c g d P S) (hK : K ≤ 21) (hA : ∀ j, j < K → aOk (A j)) {kk : Int32 → Int32 → Int32 → jH → Option (Int32 × jH)} : ∀ m j N C p (I : pI), j + m = K → m + 1 < N → XQ c g d P S ρ I → XS 19 C P I → WS C P S → (∀ j, j < K → I 114 j = nI (aX (A j))) → ∃ J, f_X10_journey_L35 5000 0 (nI K) kk N p (nI j) (nI 0) (hp q ρ L I) = kk (jrn c g d P S A m j C p).2.2 (nI (jrn c g d P S A m j C p).1) (if (jrn c g d P S A m j C p).1 < K then nI 1 else nI 0) (hp q ρ L J) ∧ XS 19 (jrn c g d P S A m j C p).2.1 P J ∧ acF ρ I J
  | _, _, 0, _, _, _, _, h, _, _, _, _ => absurd h (Nat.not_lt_zero _)
  | _, _, 1, _, _, _, _, h, _, _, _, _ => absurd h (by omega)
  | 0, j, N + 2, C, p, I, h1, h2, hQ, hC, hWS, h114 => by
    have : j = K := by omega
    subst this
    refine ⟨I, ?_, hC, acF_rf⟩
    rw [f_X10_journey_L35, if_pos (by rw [nn_le (by omega) (by omega)]; omega)]
    simp only [jrn, Nat.lt_irrefl, if_false]
  | m + 1, j, N + 2, C, p, I, h1, h2, hQ, hC, hWS, h114 => by
    have e4 := h114 j (by omega)
    obtain ⟨J, v, j1, j2, j3, j4⟩ := x_act (q := q) (L := L) hQ wQ hC hWS (hA j (by omega))
    cases e : jAct c g d P S C (A j) with
    | none =>
      obtain ⟨hv, hC2⟩ := j2 e
      rw [jrn_n e]
      refine ⟨J, ?_, hC2, j4⟩
      rw [f_X10_journey_L35]
      simp (disch := first | omega | assumption) only [↓bX, ↓bXA, jn_, lt0, nn_le, if_neg, if_false, if_true, e4, ↓b2e j1, hv]
      rw [f_X10_journey_L35, if_neg (by rw [nn_le (by omega) (by omega)]; omega), if_neg (by decide), if_pos (by omega)]
    | some o =>
      obtain ⟨C', u⟩ := o
      obtain ⟨rfl, hC2⟩ := j3 C' u e
      have ub := (jAct_W wQ.2.1 hWS e)
      obtain ⟨K', k1, k2, k3⟩ := x_jrn (q := q) (L := L) wQ hK hA (kk := kk) m (j + 1) (N + 1) C' (p + nI u) J (by omega) (by omega) (XQ_V j4.1 hQ) hC2 ub.1 (fun i hi => by rw [j4.2 114 (by omega) (by omega) (by omega)]; exact h114 i hi)
      rw [jrn_s e]
      refine ⟨K', ?_, k2, acF_tr j4 k3⟩
      rw [f_X10_journey_L35]
      simp (disch := first | omega | assumption) only [↓bX, ↓bXA, jn_, lt0, nn_le, if_neg, if_false, if_true, if_pos, e4, ↓b2e j1, Nat.zero_le, nI_add]
      exact k1
theorem m_jrn {q : pQ} {ρ : pP} {L : pL} {r : gT} {g : gL} {d : gD} {P S K : Nat} {A : Nat → Nat × Nat × Nat} (hr : WR r) (wQ : WQ (cmp r) g d P S) (hK : K ≤ 21) (hA : ∀ j, j < K → aOk (A j)) {kk : Int32 → jH → Option (Int32 × jH)} : ∀ m j N C p (I : pI) z0, j + m = K → m < N → MQ_ r g d P S ρ I → MS 130 0 C P I → WS C P S → I 129 33 = p → (∀ j, j < K → I 146 (3 * j) = nI (aM (A j).1) ∧ I 146 (3 * j + 1) = nI (A j).2.1 ∧ ((A j).1 = 4 → I 146 (3 * j + 2) = nI (A j).2.2)) → ∃ J z, f_X11_journey_L90 5000 129 (nI K) kk N (nI j) (hp q (rr ρ z0) L I) = kk (nI (jrn (cmp r) g d P S A m j C p).1) (hp q (rr ρ z) L J) ∧ MS 130 0 (jrn (cmp r) g d P S A m j C p).2.1 P J ∧ J 129 33 = (jrn (cmp r) g d P S A m j C p).2.2 ∧ Fr tAc I J
  | _, _, 0, _, _, _, _, _, h, _, _, _, _, _ => absurd h (Nat.not_lt_zero _)
  | 0, j, N + 1, C, p, I, z0, h1, h2, hQ, hC, hWS, h33, h146 => by
    have : j = K := by omega
    subst this
    refine ⟨I, z0, ?_, hC, h33, Fr.rf⟩
    rw [f_X11_journey_L90, if_pos (by rw [nn_le (by omega) (by omega)]; omega)]
    rfl
  | m + 1, j, N + 1, C, p, I, z0, h1, h2, hQ, hC, hWS, h33, h146 => by
    obtain ⟨c1, c2, c3⟩ := h146 j (by omega)
    obtain ⟨J, z, v, j1, j2, j3, j4⟩ := m_act (q := q) (L := L) (x3 := I 146 (3 * j + 2)) (MQ_Ac (z := z0) Fr.rf hQ) hr wQ hC hWS (hA j (by omega)) c3
    have j1' : f_X11_act 5000 129 (nI (aM (A j).1)) (nI (A j).2.1) (I 146 (3 * j + 2)) (hp q (rr ρ z0) L I) = some (v, hp q (rr ρ z) L J) := j1
    cases e : jAct (cmp r) g d P S C (A j) with
    | none =>
      obtain ⟨rfl, hC2, e33⟩ := j2 e
      rw [jrn_n e]
      refine ⟨J, z, ?_, hC2, by rw [e33]; exact h33, j4⟩
      rw [f_X11_journey_L90]
      simp (disch := first | omega | assumption) only [↓bM, ↓bMA, lt0, nn_le, if_neg, if_false, pk_mul, nI_add, c1, c2, ↓b2e j1', if_true]
    | some o =>
      obtain ⟨C', u⟩ := o
      obtain ⟨rfl, hC2, e33⟩ := j3 C' u e
      have ub := (jAct_W wQ.2.1 hWS e)
      obtain ⟨K', z', k1, k2, k3, k4⟩ := m_jrn (q := q) (L := L) hr wQ hK hA (kk := kk) m (j + 1) N C' (p + nI u) J z (by omega) (by omega) (MQ_Ac (z := ρ.2.2.1) j4 hQ) hC2 ub.1 (by rw [e33, h33]) (fun i hi => by rw [j4.row 146 (fun k => rfl)]; exact h146 i hi)
      rw [jrn_s e]
      refine ⟨K', z', ?_, k2, k3, Fr.tr j4 k4⟩
      rw [f_X11_journey_L90]
      simp (disch := first | omega | assumption) only [↓bM, ↓bMA, lt0, nn_le, nn_eq, if_neg, if_false, pk_mul, nI_add, c1, c2, ↓b2e j1']
      exact k1
/-- what follows the acts, in the reference -/
def jKE (y11 y28 : Int32) (h29 : jH) : Option (Int32 × jH) :=
  j_jn (fun (h30 : jH) =>
              (jp_I 11 12 h30 129 (nI 0)).bind (fun h31 =>
              j_jn (fun (s32 : Int64) (s33 : Nat) (h34 : jH) =>
                (f_X11_tell 5000 s33 s32 h34).bind (fun h35 =>
                (jg_I 11 33 h35 129).bind (fun v36 =>
                (f_X11_tell 5000 129 (v36.toInt64) h35).bind (fun h37 =>
                some (y28, h37))))) (fun J164 =>
                if y11 ≤ y28 then
                  J164 0 129 h31
                else
                  J164 1 129 h31))) (fun J148 =>
              if y28 ≤ nI 0 then
                J148 h29
              else
                (jg_R 11 30 h29 129).bind (fun v38 =>
                (f_X11_remember 5000 129 v38 h29).bind (fun h39 =>
                J148 h39)))
def jKS (y11 : Int32) (h13 : jH) : Option (Int32 × jH) :=
  (jg_R 11 0 h13 129).bind (fun v16 =>
          (jg_R 11 30 h13 129).bind (fun v17 =>
          (f_X11_lay 5000 v16 v17 (nI 0) h13).bind (fun h18 =>
          (jp_I 11 33 h18 129 (nI 0)).bind (fun h19 =>
          f_X11_journey_L90 5000 129 y11 (jKE y11) 5000 (nI 0) h19))))
theorem jK_eq {h : jH} : f_X11_journey 5000 129 h = j_gd 11 h 129 ((jp_I 11 13 h 129 (nI 0)).bind (fun h1 =>
    (f_X11_beginText 5000 129 (nI 60) h1).bind (fun h2 =>
    (jg_I 11 15 h2 129).bind (fun v3 =>
      if v3 ≤ nI 0 then
        f_X11_journey_L26 5000 129 (mKK jKS) 5000 (nI 0) (nI 0) h2
      else
        f_X11_journey_L26 5000 129 (mKK jKS) 5000 (nI 0) (nI 1) h2)))) := by
  simp only [f_X11_journey, lt0, jn_]
  rfl
def jRow (D K : Nat) (p : Int32) : gR := (2, fun i => if i = 0 then (if D < K then 1 else 0 : Int64) else p.toInt64)
theorem m_jE {q : pQ} {ρ : pP} {L : pL} {I : pI} {K D P S : Nat} {U : gU} {C C' : gC} {pd : Int32} (hK : K ≤ 21) (hD : D ≤ K) (hU : MU U P I) (hg : WU U P S) (hP : P ≤ 4) (hC : MS 145 0 C P I) (hC' : MS 130 0 C' P I) (h33 : I 129 33 = pd) : ∃ L' J, jKE (nI K) (nI D) (hp q ρ L I) = some (nI D, hp q ρ L' J) ∧ MU (if D = 0 then U else puU U C) P J ∧ MS 130 0 C' P J ∧ MW (jRow D K pd) L' J ∧ Fr tO I J ∧ ∀ b, b ≠ 136 → L' b = L b := by
  obtain ⟨s, hs⟩ : ∃ s : Int64, s = if D < K then 1 else 0 := ⟨_, rfl⟩
  have tl : ∀ J : pI, J 129 33 = pd → (f_X11_tell 5000 129 s (hp q ρ L (j_up J 129 12 (nI 0)))).bind (fun h35 =>
                (jg_I 11 33 h35 129).bind (fun v36 =>
                (f_X11_tell 5000 129 (v36.toInt64) h35).bind (fun h37 =>
                some (nI D, h37)))) = some (nI D, hp q ρ (j_up (j_up L 136 0 s) 136 1 pd.toInt64) (j_up J 129 12 (nI 2))) := fun J hJ => by
    simp (disch := first | omega | assumption) only [↓oe (m_tell (q := q) (ρ := ρ) (L := L) (I := J) (r := 0) (v := s) (by omega)), ↓bM, up_nk, hJ, ↓oe (m_tell (q := q) (ρ := ρ) (L := j_up L 136 0 s) (I := J) (r := 1) (v := pd.toInt64) (by omega))]
  have rest : ∀ J : pI, J 129 33 = pd → ((jp_I 11 12 (hp q ρ L J) 129 (nI 0)).bind (fun h31 =>
              j_jn (fun (s32 : Int64) (s33 : Nat) (h34 : jH) =>
                (f_X11_tell 5000 s33 s32 h34).bind (fun h35 =>
                (jg_I 11 33 h35 129).bind (fun v36 =>
                (f_X11_tell 5000 129 (v36.toInt64) h35).bind (fun h37 =>
                some (nI D, h37))))) (fun J164 =>
                if nI K ≤ nI D then
                  J164 0 129 h31
                else
                  J164 1 129 h31))) = some (nI D, hp q ρ (j_up (j_up L 136 0 s) 136 1 pd.toInt64) (j_up J 129 12 (nI 2))) := fun J hJ => by
    by_cases e : D < K
    · rw [if_pos e] at hs
      rw [← tl J hJ]
      simp (disch := first | omega | assumption) only [↓bM, jn_, nn_le, if_neg, if_false, hs]
    · rw [if_neg e] at hs
      rw [← tl J hJ]
      simp (disch := first | omega | assumption) only [↓bM, jn_, nn_le, if_pos, if_true, hs]
  have row : ∀ J : pI, MW (jRow D K pd) (j_up (j_up L 136 0 s) 136 1 pd.toInt64) (j_up J 129 12 (nI 2)) := fun J => by
    unfold jRow
    rw [← hs]
    exact MW_2
  by_cases h0 : D = 0
  · rw [if_pos h0]
    refine ⟨_, j_up I 129 12 (nI 2), ?_, MU_k (by rw [up_nk (by omega)]) (by rw [up_ne (by omega)]) hU, MS_k (up_ne (by omega)) hC', row I, Fr.up Fr.rf rfl, fun b hb => by rw [up_ne hb, up_ne hb]⟩
    rw [← rest I h33]
    unfold jKE
    rw [jn_, if_pos (by rw [nn_le (by omega) (by omega)]; omega)]
  · rw [if_neg h0]
    obtain ⟨J, j1, j2, j3⟩ := m_remember (q := q) (ρ := ρ) (L := L) (a := 145) (.inr rfl) hU hg hP hC
    refine ⟨_, j_up J 129 12 (nI 2), ?_, MU_k (by rw [up_nk (by omega)]) (by rw [up_ne (by omega)]) j2, MS_k (by rw [up_ne (by omega)]; exact j3.row 130 (fun k => rfl)) hC', row J, Fr.up (Fr_R j3) rfl, fun b hb => by rw [up_ne hb, up_ne hb]⟩
    rw [← rest J (by rw [j3 129 33 rfl]; exact h33)]
    unfold jKE
    rw [jn_, if_neg (by rw [nn_le (by omega) (by omega)]; omega)]
    simp (disch := first | omega | assumption) only [↓bM, ↓oe j1]
