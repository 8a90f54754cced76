theorem up_row {f g : pI} {a k b : Nat} {x : Int32} (h : f b = g b) : j_up f a k x b = j_up g a k x b := by
  funext j
  have := congrFun h j
  simp only [j_up]
  by_cases e : b = a
  · subst e
    simp only [if_true, this]
  · simp only [e, if_false, this]
theorem x_spare {G : gG} (hG : Wr G) : ∀ q ρ L I, Xr G ρ L I → ∃ v I', f_X10_readSpareTariff 5000 0 (hp q ρ L I) = some (v, hp q ρ L I') ∧ (cmpOk (gTx G) → v = nI 0 ∧ Tf ρ.1.2 (cmp (gTx G)) I') ∧ (¬ cmpOk (gTx G) → v = -nI (1 + cmpP (gTx G)) ∧ cmpP (gTx G) ≤ 80) ∧ Fr (tY ρ.1.1) (j_up I 1 1 (nI 0)) I' ∧ (∀ b, b ≠ 1 → b < 119 → I' b = I b) ∧ (ρ.1.2 = 119 ∨ ρ.1.2 = 124) := by
  intro q ρ L I hX
  obtain ⟨⟨hT, hL, hD, hP, hS, hU, hK, hR, hρ⟩, hW⟩ := hX
  have h80 := hG.1.1
  have hA : ρ.1.2 = 119 ∨ ρ.1.2 = 124 := by
    rcases hR.1 with e | e
    · exact .inr (congrArg Prod.snd e)
    · exact .inl (congrArg Prod.snd e)
  have op := x_open (q := q) (ρ := ρ) (L := L) (m := 40) hT.1 h80 (by omega)
  have hRd := Rd_of (m := 40) hT hG.1 (by omega)
  obtain ⟨c, bb, e1, e2, e3, e4⟩ := x_read (q := q) (ρ := ρ) (L := L) (I := j_up I 1 3 (nI (min (gTx G).1 40))) hA (by rw [up_nk (by omega)]; exact hT.1) h80 hRd
  have e0 : ((gTx G).1, (gTx G).2) = gTx G := rfl
  rw [e0] at e1 e2 e3 e4
  have row : ∀ b, b ≠ ρ.1.2 → b ≠ ρ.1.2 + 2 → j_up (ap (cw (j_up I 1 3 (nI (min (gTx G).1 40))) ρ.1.2 c) (cmpP (gTx G))) 1 1 (nI 0) b = j_up (ap (j_up I 1 3 (nI (min (gTx G).1 40))) (cmpP (gTx G))) 1 1 (nI 0) b := fun b h1 h2 => up_row (up_row (cw_ne h1 h2))
  have hF : Fr (tY ρ.1.1) (j_up I 1 1 (nI 0)) (j_up (ap (cw (j_up I 1 3 (nI (min (gTx G).1 40))) ρ.1.2 c) (cmpP (gTx G))) 1 1 (nI 0)) := Fr.tr (x_op (x := nI (min (gTx G).1 40)) (p := cmpP (gTx G))) (fun b k hb => by
    by_cases h1 : b = ρ.1.2
    · exfalso
      rcases hR.1 with e | e
      · rw [h1, e] at hb
        cases hb
      · rw [h1, e] at hb
        cases hb
    · by_cases h2 : b = ρ.1.2 + 2
      · exfalso
        rcases hR.1 with e | e
        · rw [h2, e] at hb
          cases hb
        · rw [h2, e] at hb
          cases hb
      · rw [row b h1 h2])
  have hB : ∀ b, b ≠ 1 → b < 119 → j_up (ap (cw (j_up I 1 3 (nI (min (gTx G).1 40))) ρ.1.2 c) (cmpP (gTx G))) 1 1 (nI 0) b = I b := fun b h1 h2 => by
    rw [row b (by omega) (by omega), up_ne h1, ap_ne h1, up_ne h1]
  cases bb with
  | false =>
    have nk : ¬ cmpOk (gTx G) := fun h => by cases e2.mpr h
    rw [bo_f] at e1
    refine ⟨-nI (1 + cmpP (gTx G)), _, ?_, fun h => absurd h nk, fun _ => ⟨rfl, by omega⟩, hF, hB, hA⟩
    simp (disch := first | omega | assumption) only [f_X10_readSpareTariff, ↓bX, ↓bXA, ↓jn_, ↓ob_, ↓b2_, ↓reduceIte, nn_lt, nn_le, nn_eq, nI_add, pk_mul, nn_su, gn_lt, gn_le, ng_lt, ng_le, ng_eq, gn_eq, gg_eq, n_m1, n_cl, if_true, if_false, if_pos, if_neg, lt0, ↓oe op, ↓b2e e1, ↓b2e (x_fault (q := q) (ρ := ρ) (L := L) (I := cw (j_up I 1 3 (nI (min (gTx G).1 40))) ρ.1.2 c) (p := cmpP (gTx G)))]
  | true =>
    have ok := e2.mp rfl
    rw [bo_t] at e1
    refine ⟨nI 0, _, ?_, fun h => ⟨rfl, ?_, fun i hi => ?_⟩, fun h => absurd ok h, hF, hB, hA⟩
    · simp (disch := first | omega | assumption) only [f_X10_readSpareTariff, ↓bX, ↓bXA, ↓jn_, ↓ob_, ↓b2_, ↓reduceIte, nn_lt, nn_le, nn_eq, nI_add, pk_mul, nn_su, gn_lt, gn_le, ng_lt, ng_le, ng_eq, gn_eq, gg_eq, n_m1, n_cl, if_true, if_false, if_pos, if_neg, lt0, ↓oe op, ↓b2e e1]
    · rw [up_ne (by omega), ap_ne (by omega), cw_sz, e3 ok]
    · rw [up_ne (by omega), ap_ne (by omega), ← e3 ok]
      rw [← e3 ok] at hi
      unfold cw
      rw [if_neg (by omega), if_pos ⟨rfl, hi⟩]
theorem bgn_fr {I : pI} {T m : Nat} : Fr tN (j_up I 129 10 (nI 0)) (bgn (j_up I 129 13 (nI 0)) T m) := by
  unfold bgn
  rw [up_co (a := 129) (k := 16) (by omega), up_co (a := 129) (k := 15) (by omega), up_co (a := 129) (k := 13) (by omega)]
  exact Fr.up (Fr.up (Fr.up Fr.rf rfl) rfl) rfl
theorem ok40 {g : gT} (h : cmpOk g) : g.1 ≤ 40 := by
  rcases h with h | ⟨h1, h2⟩
  · omega
  · have := (Gd_exp (f := g.2) (n := min g.1 40) 4 0 (by omega)).2.1
    omega
theorem k_rule : ∀ G, Wr G → ∃ v G', Wr G' ∧ XH (f_X10_rule 5000 0) G v G' ∧ MH (f_X11_rule 5000 129) G v G' := by
  intro G hG
  have hG' := hG
  obtain ⟨w1, w2, w3, w4, w5, w6, w7, w8, w9⟩ := hG
  by_cases hok : cmpOk (gTx G)
  · have hT40 := ok40 hok
    refine ⟨nI 0, sRu (sTx G oTx) (gTx G), ⟨WT_0, w2, w3, w4, w5, w6, w7, w8, hT40, fun k hk => w1.2 k hk, hok⟩, ?_, ?_⟩
    · intro q ρ L I hq hX
      obtain ⟨v, I', e1, e2, -, e4, e5, hA⟩ := x_spare hG' q ρ L I hX
      obtain ⟨rfl, e2x⟩ := e2 hok
      have xs := Xs_fr (G := sTx G oTx) (ρ' := ρ) e4 rfl hX.1.2.2.2.2.2.2.2.2 (Xs_tx hX.1)
      obtain ⟨hT, hL, hD, hP, hS, hU, hK, hR, hρ⟩ := xs
      refine ⟨q, ((ρ.1.2, ρ.1.1), ρ.2), L, I', ?_, ⟨⟨hT, hL, hD, hP, hS, hU, hK, ⟨?_, e2x⟩, hρ⟩, ?_⟩, ⟨rfl, rfl, fun b h1 h2 => funext (fun k => by rw [e4 b k (tY_m h1 h2), up_ne (by omega)])⟩, Nat.le_refl _, Nat.le_succ _, Nat.le_add_right _ _⟩
      · simp (disch := first | omega | assumption) only [f_X10_rule, ↓bX, ↓bXA, ↓jn_, ↓ob_, ↓b2_, ↓reduceIte, nn_lt, nn_le, nn_eq, nI_add, pk_mul, nn_su, gn_lt, gn_le, ng_lt, ng_le, ng_eq, gn_eq, gg_eq, n_m1, n_cl, if_true, if_false, if_pos, if_neg, lt0, ↓b2e e1, ↓oe (hR15 _ _ _ _ _), ↓oe (hR16 _ _ _ _ _)]
      · rcases hR.1 with e | e
        · right
          show (ρ.1.2, ρ.1.1) = _
          rw [e]
        · left
          show (ρ.1.2, ρ.1.1) = _
          rw [e]
      · have hW := hX.2
        unfold XW at hW ⊢
        rw [e5 3 (by omega) (by omega)]
        exact hW
    · rintro t q ρ L I ht ⟨hM, hW⟩
      obtain ⟨hT, hL, hD, hP, hS, hU, hK, hR⟩ := Ms_0 (x := nI 0) hM
      obtain ⟨p, x, bb, e1, e2, e3⟩ := m_readR (q := q) (ρ := ρ) (L := L) hT w1
      have hb : bb = true := e2.mpr hok
      subst hb
      rw [bo_t] at e1
      have hρ : (rr ρ (some 135)).2.2.2.1 = 140 := by
        show ρ.2.2.2.1 = 140
        rw [hR.1]
      obtain ⟨J, j1, j2, j3⟩ := m_ruL (q := q) (ρ := rr ρ (some 135)) (L := L) (I := mp (j_up (bgn (j_up I 129 13 (nI 0)) (gTx G).1 40) 129 25 (nI 0)) p x) (T := (gTx G).1) (f := (gTx G).2) hT40 hρ (fun k hk => by rw [mp_ne (by omega), up_ne (by omega), bgn_ne (by omega)]; exact hT.2 k hk) (kk := fun (h10 : jH) =>
        (jp_I 11 24 h10 129 (nI (gTx G).1)).bind (fun h11 =>
        some (nI 0, h11)))
      have e5 : ∀ b, b ≠ 129 → b ≠ 140 → j_up J 129 24 (nI (gTx G).1) b = j_up I 129 13 (nI 0) b := fun b b1 b2 => by rw [up_ne b1, j3 b b2, mp_ne b1, up_ne b1, bgn_ne b1]
      have e6 : ∀ k, k ≠ 10 → (k < 15 ∨ 18 < k) → k ≠ 24 → k ≠ 25 → j_up J 129 24 (nI (gTx G).1) 129 k = j_up I 129 13 (nI 0) 129 k := fun k k1 k2 k3 k4 => by rw [up_nk k3, j3 129 (by omega), mp_nk (by omega) (by omega), up_nk k4, bgn_k (by omega) (by omega) (by omega)]
      refine ⟨rr ρ (some 135), L, j_up J 129 24 (nI (gTx G).1), ?_, ⟨⟨⟨?_, fun k hk => absurd hk (Nat.not_lt_zero k)⟩, ML_k (e6 _ (by omega) (by omega) (by omega) (by omega)) (e5 131 (by omega) (by omega)) (e5 132 (by omega) (by omega)) (e5 133 (by omega) (by omega)) hL, MD_k (e6 _ (by omega) (by omega) (by omega) (by omega)) (e5 134 (by omega) (by omega)) hD, by rw [e6 _ (by omega) (by omega) (by omega) (by omega), e6 _ (by omega) (by omega) (by omega) (by omega)]; exact hP, MS_k (e5 130 (by omega) (by omega)) hS, MU_k (e6 _ (by omega) (by omega) (by omega) (by omega)) (e5 144 (by omega) (by omega)) hU, MK_k (Nat.le_succ t) (e6 _ (by omega) (by omega) (by omega) (by omega)) (e5 158 (by omega) (by omega)) (e5 159 (by omega) (by omega)) (e5 160 (by omega) (by omega)) hK, ⟨hR.1, up_eq, fun k hk => by rw [up_ne (by omega)]; exact j2 k hk⟩⟩, ?_⟩, ⟨rfl, rfl⟩, rfl, fun b hb => by rw [e5 b (by omega) (by omega), up_ne (by omega)]⟩
      · simp (disch := first | omega | assumption) only [f_X11_rule, ↓bM, ↓ob_, lt0, hT.1, ↓b2e e1, nn_eq, if_neg, if_false]
        refine j1.trans ?_
        simp (disch := first | omega | assumption) only [↓bM]
      · rw [up_nk (by omega), j3 129 (by omega), mp_nk (by omega) (by omega), up_nk (by omega), bgn_10]
      · unfold MW at hW ⊢
        rw [e6 _ (by omega) (by omega) (by omega) (by omega), up_nk (by omega)]
        exact hW
  · refine ⟨-nI (1 + cmpP (gTx G)), sRw (sTx G oTx) (gRw G), ⟨WT_0, w2, w3, w4, w5, w6, w7, w8, w9⟩, XH_x _ ?_, MH_x _ ?_⟩
    · intro q ρ L I hX
      obtain ⟨v, I', e1, -, e3, e4, e5, hA⟩ := x_spare hG' q ρ L I hX
      obtain ⟨rfl, e3x⟩ := e3 hok
      refine ⟨ρ, L, I', ?_, e4, ⟨rfl, rfl, hX.1.2.2.2.2.2.2.2.2⟩, rfl, ?_⟩
      · simp (disch := first | omega | assumption) only [f_X10_rule, ↓bX, ↓bXA, ↓jn_, ↓ob_, ↓b2_, ↓reduceIte, nn_lt, nn_le, nn_eq, nI_add, pk_mul, nn_su, gn_lt, gn_le, ng_lt, ng_le, ng_eq, gn_eq, gg_eq, n_m1, n_cl, if_true, if_false, if_pos, if_neg, lt0, ↓b2e e1]
      · have hW := hX.2
        unfold XW at hW ⊢
        rw [e5 3 (by omega) (by omega)]
        exact hW
    · rintro t q ρ L I ⟨hM, hW⟩
      obtain ⟨hT, hL, hD, hP, hS, hU, hK, hR⟩ := Ms_0 (x := nI 0) hM
      obtain ⟨p, x, bb, e1, e2, e3⟩ := m_readR (q := q) (ρ := ρ) (L := L) hT w1
      have hb : bb = false := by
        cases bb with
        | false => rfl
        | true => exact absurd (e2.mp rfl) hok
      subst hb
      have e3' := e3 rfl
      subst e3'
      rw [bo_f] at e1
      refine ⟨rr ρ (some 135), L, mp (j_up (bgn (j_up I 129 13 (nI 0)) (gTx G).1 40) 129 25 (nI 0)) p (nI (cmpP (gTx G))), ?_, Fr.mp_ (Fr.up bgn_fr rfl) rfl rfl, ⟨rfl, rfl, rfl⟩, rfl, ?_⟩
      · simp (disch := first | omega | assumption) only [f_X11_rule, ↓bM, ↓ob_, lt0, hT.1, ↓b2e e1, if_true, mp_w, gs_]
      · unfold MW at hW ⊢
        rw [mp_nk (by omega) (by omega), up_nk (by omega), bgn_k (by omega) (by omega) (by omega), up_nk (by omega)]
        exact hW
