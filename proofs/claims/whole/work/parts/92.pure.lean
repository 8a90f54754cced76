/-! JOURNEY: the reference reads acts -/
def raT (a1 v8 : Int32) (h11 : jH) : Option jH :=
  (jg_I 11 17 h11 129).bind (fun v12 =>
        (jp_I 11 17 h11 129 (v12 + nI 1)).bind (fun h13 =>
        (jg_R 11 32 h13 129).bind (fun v14 =>
        j_b2 (f_X11_in 5000 v8 (nI 48) (nI 57) h13) (fun v16 h15 =>
          if v16 = nI 0 then
          (jb_I 100 h15 v14 a1 v8).bind (fun h21 =>
          (jg_R 11 32 h21 129).bind (fun v22 =>
          (jb_I 100 h21 v22 (a1 + nI 2) (v8 - nI 48)).bind (fun h23 =>
          some h23)))
          else
          (jb_I 100 h15 v14 a1 (nI 115)).bind (fun h21 =>
          (jg_R 11 32 h21 129).bind (fun v22 =>
          (jb_I 100 h21 v22 (a1 + nI 2) (v8 - nI 48)).bind (fun h23 =>
          some h23)))))))
theorem raE {q : pQ} {ρ : pP} {L : pL} {I : pI} {a : Nat} : f_X11_readAct 5000 129 (nI a) (hp q ρ L I) = j_b2 (f_X11_passes 5000 129 (nI 119) (hp q ρ L I)) (fun v2 h1 =>
    if v2 = nI 0 then
      (jg_R 11 32 h1 129).bind (fun v3 =>
      j_b2 (f_X11_oneOf 5000 129 (nI 97) (nI 4) h1) (fun v5 h4 =>
      (jb_I 100 h4 v3 (nI a + nI 1) v5).bind (fun h6 =>
      j_b2 (f_X11_here 5000 129 h6) (fun v8 h7 =>
      j_b2 (f_X11_fine 5000 129 h7) (fun v10 h9 =>
        if v10 = nI 0 then
          raT (nI a) v8 h9
        else
          if v8 = nI 62 then
            raT (nI a) v8 h9
          else
            if v8 = nI 60 then
              raT (nI a) v8 h9
            else
              if v8 = nI 33 then
                raT (nI a) v8 h9
              else
                j_b2 (f_X11_in 5000 v8 (nI 48) (nI 57) h9) (fun v25 h24 =>
                if v25 = nI 0 then
                  (jg_I 11 17 h24 129).bind (fun v26 =>
                  (f_X11_fault 5000 129 v26 h24).bind (fun h27 =>
                  raT (nI a) v8 h27))
                else
                  raT (nI a) v8 h24))))))
    else
      (jg_R 11 32 h1 129).bind (fun v28 =>
      (jb_I 100 h1 v28 (nI a) (nI 119)).bind (fun h29 =>
      (jg_R 11 32 h29 129).bind (fun v30 =>
      j_b2 (f_X11_number 5000 129 (nI 2) h29) (fun v32 h31 =>
      (jb_I 100 h31 v30 (nI a + nI 1) v32).bind (fun h33 =>
      some h33)))))) := by
  simp only [f_X11_readAct, kM, lt0, jn_]
  rfl
theorem m_raT {q : pQ} {ρ : pP} {L : pL} {I : pI} {a p : Nat} {v8 w : Int32} {dg : Bool} (ha : a < 200) (hin : ∀ h, f_X11_in 5000 v8 (nI 48) (nI 57) h = some (bo dg, h)) : raT (nI a) v8 (hp q ρ L (mp I p w)) = some (hp q ρ L (mp (j_up (j_up I 146 a (bif dg then nI 115 else v8)) 146 (a + 2) (v8 - nI 48)) (p + 1) w)) := by
  cases dg with
  | false =>
    have hin' : ∀ h, f_X11_in 5000 v8 (nI 48) (nI 57) h = some (nI 0, h) := hin
    simp (disch := first | omega | assumption) only [raT, ↓bM, ↓bMA, ↓ob_, mp_at, nI_add, mp_u17, ↓b2e (hin' _), if_true, mp_co, cond_false]
  | true =>
    have hin' : ∀ h, f_X11_in 5000 v8 (nI 48) (nI 57) h = some (nI 1, h) := hin
    simp (disch := first | omega | assumption) only [raT, ↓bM, ↓bMA, ↓ob_, mp_at, nI_add, mp_u17, ↓b2e (hin' _), nn_eq, if_neg, if_false, mp_co, cond_true]
theorem v8_in {ρ : pP} {I : pI} {f : Nat → Nat} {n p : Nat} (hR : RdM ρ I f n) (h : jH) : f_X11_in 5000 (if p < n then nI (sg f n p) else -nI 1) (nI 48) (nI 57) h = some (bo (decide (48 ≤ sg f n p ∧ sg f n p ≤ 57)), h) := by
  by_cases hp' : p < n
  · have hsl : sg f n p < 256 := by
      obtain ⟨U, T, top, e, hU, h15, h16, hn', hT, htop, hk⟩ := hR
      rw [show sg f n p = f p from if_pos hp']
      exact (hk p hp').2
    rw [if_pos hp', m_in _ _ _ _ (by omega) (by omega) (by omega)]
    by_cases g : 48 ≤ sg f n p ∧ sg f n p ≤ 57
    · rw [if_pos g, decide_eq_true g, bo_t]
    · rw [if_neg g, decide_eq_false g, bo_f]
  · rw [if_neg hp', m_inN _ _ _ (by omega), decide_eq_false (by rw [show sg f n p = 999 from if_neg hp']; omega), bo_f]
def raP (f : Nat → Nat) (n a p : Nat) (I J : pI) (p' : Nat) (w : Int32) : Prop := (∀ b, b ≠ 146 → J b = I b) ∧ (∀ j, j < a → J 146 j = I 146 j) ∧ p' ≤ 200 ∧ ((ard f n p).1 = true → p' = (ard f n p).2 ∧ w = -nI 1 ∧ J 146 a = nI (aM (aKd f n p).1) ∧ J 146 (a + 1) = nI (aKd f n p).2.1 ∧ ((aKd f n p).1 = 4 → J 146 (a + 2) = nI (aKd f n p).2.2)) ∧ ((ard f n p).1 = false → w = nI (ard f n p).2)
theorem m_raW {q : pQ} {ρ : pP} {L : pL} {I : pI} {f : Nat → Nat} {n p a : Nat} (hR : RdM ρ I f n) (hn : n ≤ 76) (hpn : p ≤ n) (ha : a < 200) (g1 : sg f n p = 119) : ∃ J p' w, f_X11_readAct 5000 129 (nI a) (hp q ρ L (mp I p (-nI 1))) = some (hp q ρ L (mp J p' w)) ∧ raP f n a p I J p' w := by
  have i1 := sg_in (f := f) (n := n) (p := p) (by omega)
  have ps := m_passes (q := q) (L := L) (c := 119) hR (show p ≤ 200 by omega) (by omega)
  rw [if_pos g1] at ps
  have hR2 : RdM ρ (j_up I 146 a (nI 119)) f n := RdM_k hR (by rw [up_ne (by omega)]) (by rw [up_ne (by omega)]) (fun b hb => up_ne (by omega))
  have nm := m_number2 (q := q) (L := L) hR2 (p + 1) (by omega)
  have ek : aKd f n p = (0, (pNum f n 2 (p + 1) 0).2, 0) := if_pos g1
  by_cases g2 : 48 ≤ sg f n (p + 1) ∧ sg f n (p + 1) ≤ 57
  · rw [if_pos g2] at nm
    have er : ard f n p = (true, (pNum f n 2 (p + 1) 0).1) := by unfold ard; rw [if_pos g1, if_pos g2]
    have pl := (pNum_le f n 2 (p + 1) 0 (by omega)).1
    refine ⟨j_up (j_up I 146 a (nI 119)) 146 (a + 1) (nI (pNum f n 2 (p + 1) 0).2), (pNum f n 2 (p + 1) 0).1, -nI 1, ?_, fun b hb => by rw [up_ne hb, up_ne hb], fun j hj => by rw [up_nk (by omega), up_nk (by omega)], by omega, fun _ => ?_, fun h => ?_⟩
    · rw [raE, ps, b2, if_neg (by decide)]
      simp (disch := first | omega | assumption) only [↓bM, ↓bMA, ↓ob_, mp_co, ↓b2e nm, nI_add]
    · rw [er, ek]
      exact ⟨rfl, rfl, by rw [up_nk (by omega), up_eq]; rfl, up_eq, fun h => by cases h⟩
    · rw [er] at h
      cases h
  · rw [if_neg g2] at nm
    have er : ard f n p = (false, p + 1) := by unfold ard; rw [if_pos g1, if_neg g2]
    refine ⟨j_up (j_up I 146 a (nI 119)) 146 (a + 1) (nI 0), p + 1, nI (p + 1), ?_, fun b hb => by rw [up_ne hb, up_ne hb], fun j hj => by rw [up_nk (by omega), up_nk (by omega)], by omega, fun h => ?_, fun _ => by rw [er]⟩
    · rw [raE, ps, b2, if_neg (by decide)]
      simp (disch := first | omega | assumption) only [↓bM, ↓bMA, ↓ob_, mp_co, ↓b2e nm, nI_add]
    · rw [er] at h
      cases h
theorem m_raF {q : pQ} {ρ : pP} {L : pL} {I : pI} {f : Nat → Nat} {n p a : Nat} (hR : RdM ρ I f n) (hn : n ≤ 76) (hpn : p ≤ n) (ha : a < 200) (g1 : ¬ sg f n p = 119) (g2 : ¬ (97 ≤ sg f n p ∧ sg f n p < 101)) : ∃ J p' w, f_X11_readAct 5000 129 (nI a) (hp q ρ L (mp I p (-nI 1))) = some (hp q ρ L (mp J p' w)) ∧ raP f n a p I J p' w := by
  have ps := m_passes (q := q) (L := L) (c := 119) hR (show p ≤ 200 by omega) (by omega)
  rw [if_neg g1] at ps
  have on := m_oneOf (q := q) (L := L) (a := 97) (m := 4) hR (show p ≤ 200 by omega) (by omega) (by omega)
  rw [if_neg (by omega)] at on
  have er : ard f n p = (false, p) := by unfold ard; rw [if_neg g1, if_neg g2]
  have hR2 : RdM ρ (j_up I 146 (a + 1) (nI 0)) f n := RdM_k hR (by rw [up_ne (by omega)]) (by rw [up_ne (by omega)]) (fun b hb => up_ne (by omega))
  have he := m_here (q := q) (L := L) (p := p) (w := nI p) hR2 (by omega)
  have fi := m_dead (q := q) (ρ := ρ) (L := L) (I := j_up I 146 (a + 1) (nI 0)) (p := p) (x := p) (by omega)
  have tl := m_raT (q := q) (ρ := ρ) (L := L) (I := j_up I 146 (a + 1) (nI 0)) (p := p) (w := nI p) ha (v8_in (p := p) hR)
  obtain ⟨K, hK⟩ : ∃ K, K = j_up (j_up (j_up I 146 (a + 1) (nI 0)) 146 a (bif decide (48 ≤ sg f n p ∧ sg f n p ≤ 57) then nI 115 else if p < n then nI (sg f n p) else -nI 1)) 146 (a + 2) ((if p < n then nI (sg f n p) else -nI 1) - nI 48) := ⟨_, rfl⟩
  rw [← hK] at tl
  refine ⟨K, p + 1, nI p, ?_, fun b hb => ?_, fun j hj => ?_, by omega, fun h => ?_, fun _ => by rw [er]⟩
  · rw [raE, ps, b2, if_pos rfl]
    simp (disch := first | omega | assumption) only [↓bM, ↓bMA, ↓ob_, ↓b2e on, nI_add, mp_co, ↓b2e he, ↓b2e fi, if_true]
    exact tl
  · rw [hK, up_ne hb, up_ne hb, up_ne hb]
  · rw [hK, up_nk (by omega), up_nk (by omega), up_nk (by omega)]
  · rw [er] at h
    cases h
theorem m_raL {q : pQ} {ρ : pP} {L : pL} {I : pI} {f : Nat → Nat} {n p a : Nat} (hR : RdM ρ I f n) (hn : n ≤ 76) (hpn : p ≤ n) (ha : a < 200) (g1 : ¬ sg f n p = 119) (g2 : 97 ≤ sg f n p ∧ sg f n p < 101) : ∃ J p' w, f_X11_readAct 5000 129 (nI a) (hp q ρ L (mp I p (-nI 1))) = some (hp q ρ L (mp J p' w)) ∧ raP f n a p I J p' w := by
  have i1 := sg_in (f := f) (n := n) (p := p) (by omega)
  have ps := m_passes (q := q) (L := L) (c := 119) hR (show p ≤ 200 by omega) (by omega)
  rw [if_neg g1] at ps
  have on := m_oneOf (q := q) (L := L) (a := 97) (m := 4) hR (show p ≤ 200 by omega) (by omega) (by omega)
  rw [if_pos (by omega)] at on
  obtain ⟨I2, hI2⟩ : ∃ I2, I2 = j_up I 146 (a + 1) (nI (sg f n p - 97)) := ⟨_, rfl⟩
  have hR2 : RdM ρ I2 f n := by rw [hI2]; exact RdM_k hR (by rw [up_ne (by omega)]) (by rw [up_ne (by omega)]) (fun b hb => up_ne (by omega))
  have he := m_here (q := q) (L := L) (p := p + 1) (w := -nI 1) hR2 (by omega)
  have fi := m_fine (q := q) (ρ := ρ) (L := L) (I := I2) (p := p + 1)
  obtain ⟨v8, hv8⟩ : ∃ v8 : Int32, v8 = if p + 1 < n then nI (sg f n (p + 1)) else -nI 1 := ⟨_, rfl⟩
  have vin := fun h => v8_in (p := p + 1) hR h
  have v62 := hv_eq (p := p + 1) (c := 62) hR (by omega)
  have v60 := hv_eq (p := p + 1) (c := 60) hR (by omega)
  have v33 := hv_eq (p := p + 1) (c := 33) hR (by omega)
  rw [← hv8] at he v62 v60 v33
  simp only [← hv8] at vin
  have head : f_X11_readAct 5000 129 (nI a) (hp q ρ L (mp I p (-nI 1))) = (if v8 = nI 62 then
            raT (nI a) v8 (hp q ρ L (mp I2 (p + 1) (-nI 1)))
          else
            if v8 = nI 60 then
              raT (nI a) v8 (hp q ρ L (mp I2 (p + 1) (-nI 1)))
            else
              if v8 = nI 33 then
                raT (nI a) v8 (hp q ρ L (mp I2 (p + 1) (-nI 1)))
              else
                j_b2 (f_X11_in 5000 v8 (nI 48) (nI 57) (hp q ρ L (mp I2 (p + 1) (-nI 1)))) (fun v25 h24 =>
                if v25 = nI 0 then
                  (jg_I 11 17 h24 129).bind (fun v26 =>
                  (f_X11_fault 5000 129 v26 h24).bind (fun h27 =>
                  raT (nI a) v8 h27))
                else
                  raT (nI a) v8 h24)) := by
    rw [raE, ps, b2, if_pos rfl]
    simp (disch := first | omega | assumption) only [↓bM, ↓bMA, ↓ob_, ↓b2e on, nI_add, mp_co]
    rw [← hI2]
    simp (disch := first | omega | assumption) only [↓b2e he, ↓b2e fi, nn_eq, if_neg, if_false]
  have fin : ∀ (w : Int32) (dg : Bool), (∀ h, f_X11_in 5000 v8 (nI 48) (nI 57) h = some (bo dg, h)) → raT (nI a) v8 (hp q ρ L (mp I2 (p + 1) w)) = some (hp q ρ L (mp (j_up (j_up I2 146 a (bif dg then nI 115 else v8)) 146 (a + 2) (v8 - nI 48)) (p + 2) w)) := fun w dg h => m_raT ha h
  have rows : ∀ x y : Int32, (∀ b, b ≠ 146 → j_up (j_up I2 146 a x) 146 (a + 2) y b = I b) ∧ (∀ j, j < a → j_up (j_up I2 146 a x) 146 (a + 2) y 146 j = I 146 j) ∧ j_up (j_up I2 146 a x) 146 (a + 2) y 146 a = x ∧ j_up (j_up I2 146 a x) 146 (a + 2) y 146 (a + 1) = nI (sg f n p - 97) ∧ j_up (j_up I2 146 a x) 146 (a + 2) y 146 (a + 2) = y := fun x y => by
    rw [hI2]
    exact ⟨fun b hb => by rw [up_ne hb, up_ne hb, up_ne hb], fun j hj => by rw [up_nk (by omega), up_nk (by omega), up_nk (by omega)], by rw [up_nk (by omega), up_eq], by rw [up_nk (by omega), up_nk (by omega), up_eq], up_eq⟩
  by_cases g3 : 48 ≤ sg f n (p + 1) ∧ sg f n (p + 1) ≤ 57
  · have er : ard f n p = (true, p + 2) := by unfold ard; rw [if_neg g1, if_pos g2, if_pos (.inl g3)]
    have ek : aKd f n p = (4, sg f n p - 97, sg f n (p + 1) - 48) := by unfold aKd; rw [if_neg g1, if_pos g3]
    have i2 := sg_in (f := f) (n := n) (p := p + 1) (by omega)
    have e8 : v8 = nI (sg f n (p + 1)) := by rw [hv8, if_pos i2]
    rw [decide_eq_true g3] at vin
    obtain ⟨r1, r2, r3, r4, r5⟩ := rows (nI 115) (v8 - nI 48)
    refine ⟨_, p + 2, -nI 1, ?_, r1, r2, by omega, fun _ => ?_, fun h => ?_⟩
    · rw [head, if_neg (by rw [v62]; omega), if_neg (by rw [v60]; omega), if_neg (by rw [v33]; omega), vin, b2, bo_t, if_neg (by decide), fin _ true vin]
      rfl
    · rw [er, ek]
      exact ⟨rfl, rfl, r3, r4, fun _ => by rw [r5, e8, nn_su (by omega)]⟩
    · rw [er] at h
      cases h
  · rw [decide_eq_false g3] at vin
    obtain ⟨r1, r2, r3, r4, r5⟩ := rows v8 (v8 - nI 48)
    have good : ∀ z, (aKd f n p).1 = z → ard f n p = (true, p + 2) → v8 = nI (aM z) → z ≠ 4 → f_X11_readAct 5000 129 (nI a) (hp q ρ L (mp I p (-nI 1))) = raT (nI a) v8 (hp q ρ L (mp I2 (p + 1) (-nI 1))) → ∃ J p' w, f_X11_readAct 5000 129 (nI a) (hp q ρ L (mp I p (-nI 1))) = some (hp q ρ L (mp J p' w)) ∧ raP f n a p I J p' w := by
      intro z hz er e8 hz4 hh
      have ek : (aKd f n p).2.1 = sg f n p - 97 := by unfold aKd; rw [if_neg g1]
      refine ⟨_, p + 2, -nI 1, ?_, r1, r2, by omega, fun _ => ?_, fun h => ?_⟩
      · rw [hh, fin _ false vin]
        rfl
      · rw [er, hz, ek]
        exact ⟨rfl, rfl, by rw [r3, e8], r4, fun h => absurd h hz4⟩
      · rw [er] at h
        cases h
    by_cases g4 : sg f n (p + 1) = 62
    · have i2 := sg_in (f := f) (n := n) (p := p + 1) (by omega)
      refine good 1 (by unfold aKd; rw [if_neg g1, if_neg g3, if_pos g4]) (by unfold ard; rw [if_neg g1, if_pos g2, if_pos (.inr (.inl g4))]) (by rw [hv8, if_pos i2, g4]; rfl) (by omega) (by rw [head, if_pos (by rw [v62]; exact g4)])
    by_cases g5 : sg f n (p + 1) = 60
    · have i2 := sg_in (f := f) (n := n) (p := p + 1) (by omega)
      refine good 2 (by unfold aKd; rw [if_neg g1, if_neg g3, if_neg g4, if_pos g5]) (by unfold ard; rw [if_neg g1, if_pos g2, if_pos (.inr (.inr (.inl g5)))]) (by rw [hv8, if_pos i2, g5]; rfl) (by omega) (by rw [head, if_neg (by rw [v62]; exact g4), if_pos (by rw [v60]; exact g5)])
    by_cases g6 : sg f n (p + 1) = 33
    · have i2 := sg_in (f := f) (n := n) (p := p + 1) (by omega)
      refine good 3 (by unfold aKd; rw [if_neg g1, if_neg g3, if_neg g4, if_neg g5]) (by unfold ard; rw [if_neg g1, if_pos g2, if_pos (.inr (.inr (.inr g6)))]) (by rw [hv8, if_pos i2, g6]; rfl) (by omega) (by rw [head, if_neg (by rw [v62]; exact g4), if_neg (by rw [v60]; exact g5), if_pos (by rw [v33]; exact g6)])
    have er : ard f n p = (false, p + 1) := by
      unfold ard
      rw [if_neg g1, if_pos g2, if_neg (fun h => by rcases h with h | h | h | h <;> contradiction)]
    refine ⟨_, p + 2, nI (p + 1), ?_, r1, r2, by omega, fun h => ?_, fun _ => by rw [er]⟩
    · rw [head, if_neg (by rw [v62]; exact g4), if_neg (by rw [v60]; exact g5), if_neg (by rw [v33]; exact g6), vin, b2, bo_f, if_pos rfl]
      simp (disch := first | omega | assumption) only [↓bM, mp_at, ↓oe (m_fault (q := q) (ρ := ρ) (L := L) (I := I2) (p := p + 1) (x := p + 1))]
      rw [fin _ false vin]
      rfl
    · rw [er] at h
      cases h
theorem m_ra {q : pQ} {ρ : pP} {L : pL} {I : pI} {f : Nat → Nat} {n p a : Nat} (hR : RdM ρ I f n) (hn : n ≤ 76) (hpn : p ≤ n) (ha : a < 200) : ∃ J p' w, f_X11_readAct 5000 129 (nI a) (hp q ρ L (mp I p (-nI 1))) = some (hp q ρ L (mp J p' w)) ∧ raP f n a p I J p' w := by
  by_cases g1 : sg f n p = 119
  · exact m_raW hR hn hpn ha g1
  · by_cases g2 : 97 ≤ sg f n p ∧ sg f n p < 101
    · exact m_raL hR hn hpn ha g1 g2
    · exact m_raF hR hn hpn ha g1 g2
def acM (I : pI) (ρ : pP) (f : Nat → Nat) (n T : Nat) (k : Nat) (J : pI) : Prop := RdM ρ J f n ∧ J 129 15 = nI T ∧ (∀ j, j < k → (ard f n (lnP (ard f n) j)).1 = true ∧ J 146 (3 * j) = nI (aM (aKd f n (lnP (ard f n) j)).1) ∧ J 146 (3 * j + 1) = nI (aKd f n (lnP (ard f n) j)).2.1 ∧ ((aKd f n (lnP (ard f n) j)).1 = 4 → J 146 (3 * j + 2) = nI (aKd f n (lnP (ard f n) j)).2.2)) ∧ ∀ b, b ≠ 146 → J b = I b
def acB (x1 : Int32) (h : jH) (cont : jH → Option (Int32 × jH)) : Option (Int32 × jH) := (f_X11_readAct 5000 129 (nI 3 * x1) h).bind cont
theorem acB_lp {ks : Int32 → jH → Option (Int32 × jH)} : ∀ m x1 x2 h, f_X11_journey_L26 5000 129 (mKK ks) (m + 1) x1 x2 h = if x2 = nI 0 then mKK ks x1 h else j_b2 (f_X11_fine 5000 129 h) (fun v5 h4 => if v5 = nI 0 then mKK ks x1 h4 else acB x1 h4 (fun h7 => j_b2 (f_X11_passes 5000 129 (nI 59) h7) (fun v9 h8 => f_X11_journey_L26 5000 129 (mKK ks) m (x1 + nI 1) v9 h8))) := by
  intro m x1 x2 h
  rw [f_X11_journey_L26]
  simp only [lt0]
  rfl
theorem m_acB {q : pQ} {ρ : pP} {L : pL} {I : pI} {I0 : pI} {f : Nat → Nat} {n T k : Nat} (hk : k < 21) (h : acM I0 ρ f n T k I) (hn : lnP (ard f n) k ≤ n) (hn76 : n ≤ 76) : ∃ J' p' w, (∀ kk, acB (nI k) (hp q ρ L (mp I (lnP (ard f n) k) (-nI 1))) kk = kk (hp q ρ L (mp J' p' w))) ∧ acM I0 ρ f n T k J' ∧ p' ≤ 200 ∧ ((ard f n (lnP (ard f n) k)).1 = true → p' = (ard f n (lnP (ard f n) k)).2 ∧ w = -nI 1 ∧ acM I0 ρ f n T (k + 1) J') ∧ ((ard f n (lnP (ard f n) k)).1 = false → w = nI (ard f n (lnP (ard f n) k)).2) := by
  obtain ⟨h1, h2, h3, h4⟩ := h
  obtain ⟨J, p', w, e, r1, r2, r3, r4, r5⟩ := m_ra (q := q) (L := L) (a := 3 * k) h1 hn76 hn (by omega)
  have hR : RdM ρ J f n := RdM_k h1 (by rw [r1 129 (by omega)]) (by rw [r1 129 (by omega)]) (fun b hb => r1 b (by omega))
  have h15 : J 129 15 = nI T := by rw [r1 129 (by omega)]; exact h2
  have old : ∀ j, j < k → (ard f n (lnP (ard f n) j)).1 = true ∧ J 146 (3 * j) = nI (aM (aKd f n (lnP (ard f n) j)).1) ∧ J 146 (3 * j + 1) = nI (aKd f n (lnP (ard f n) j)).2.1 ∧ ((aKd f n (lnP (ard f n) j)).1 = 4 → J 146 (3 * j + 2) = nI (aKd f n (lnP (ard f n) j)).2.2) := fun j hj => by
    rw [r2 (3 * j) (by omega), r2 (3 * j + 1) (by omega), r2 (3 * j + 2) (by omega)]
    exact h3 j hj
  refine ⟨J, p', w, fun kk => ?_, ⟨hR, h15, old, fun b hb => by rw [r1 b hb]; exact h4 b hb⟩, r3, fun ht => ?_, r5⟩
  · unfold acB
    rw [pk_mul, e, ob]
  · obtain ⟨s1, s2, s3, s4, s5⟩ := r4 ht
    refine ⟨s1, s2, hR, h15, fun j hj => ?_, fun b hb => by rw [r1 b hb]; exact h4 b hb⟩
    by_cases e : j = k
    · subst e
      exact ⟨ht, s3, s4, s5⟩
    · exact old j (by omega)
theorem m_acC {q : pQ} {ρ : pP} {L : pL} {I I0 : pI} {f : Nat → Nat} {n T : Nat} (h : acM I0 ρ f n T 21 I) (hn : lnP (ard f n) 21 ≤ n) (hn60 : n ≤ 60) (kk : jH → Option (Int32 × jH)) : acB (nI 21) (hp q ρ L (mp I (lnP (ard f n) 21) (-nI 1))) kk = kk (hp q ρ L (mp I (lnP (ard f n) 21) (nI (lnP (ard f n) 21)))) := by
  have := ard_k 21 (fun j hj => (h.2.2.1 j hj).1)
  omega
