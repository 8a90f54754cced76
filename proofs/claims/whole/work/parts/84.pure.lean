theorem k_law (a : Int32) : ∀ G, Wr G → ∃ v G', Wr G' ∧ XH (f_X10_law 5000 0 a) G v G' ∧ MH (f_X11_law 5000 129 a) G v G' := by
  intro G hG
  have hG' := hG
  obtain ⟨w1, w2, w3, w4, w5, w6, w7, w8, w9⟩ := hG
  have hW10 := w2.1
  have hGt : Wr (sRw (sTx G oTx) (gRw G)) := ⟨WT_0, w2, w3, w4, w5, w6, w7, w8, w9⟩
  rcases ixo a (gS G) (by omega) with h | ⟨s, hs, rfl⟩
  · refine ⟨-nI 100, sRw (sTx G oTx) (gRw G), hGt, XH_x _ ?_, MH_x _ ?_⟩
    · intro q ρ L I hX
      obtain ⟨v, I', e1, -, -, e4, e5, hA⟩ := x_spare hG' q ρ L I hX
      obtain ⟨⟨hT, hL, hD, hP, hS, hU, hK, hR, hρ⟩, hW⟩ := hX
      have hP2 : I' 0 17 = nI (gS G) := by rw [e5 0 (by omega) (by omega)]; exact hP.2
      refine ⟨ρ, L, I', ?_, e4, ⟨rfl, rfl, hρ⟩, rfl, ?_⟩
      · simp (disch := first | omega | assumption) only [f_X10_law, ↓bX, ↓bXA, ↓jn_, ↓ob_, ↓b2_, ↓reduceIte, nn_lt, nn_le, nn_eq, nI_add, pk_mul, nn_su, gn_lt, gn_le, ng_lt, ng_le, ng_eq, gn_eq, gg_eq, n_m1, n_cl, if_true, if_false, if_pos, if_neg, lt0, ↓b2e e1, ↓b2e (x_isS0 (q := q) (ρ := ρ) (L := L) hP2 h)]
      · unfold XW at hW ⊢
        rw [e5 3 (by omega) (by omega)]
        exact hW
    · rintro t q ρ L I ⟨hM, hW⟩
      refine ⟨ρ, L, j_up (j_up I 129 13 (nI 0)) 129 10 (nI 0), ?_, by rw [up_co (by omega)]; exact Fr.up Fr.rf rfl, ⟨rfl, rfl, rfl⟩, rfl, ?_⟩
      · obtain ⟨hT, hL, hD, hP, hS, hU, hK, hR⟩ := Ms_0 (x := nI 0) hM
        simp (disch := first | omega | assumption) only [f_X11_law, ↓bM, ↓bMA, ↓jn_, ↓ob_, ↓b2_, ↓reduceIte, nn_lt, nn_le, nn_eq, nI_add, pk_mul, nn_su, gn_lt, gn_le, ng_lt, ng_le, ng_eq, gn_eq, gg_eq, n_m1, n_cl, if_true, if_false, if_pos, if_neg, lt0, ↓b2e (m_isS0 (q := q) (ρ := ρ) (L := L) hP.2 (by omega) h)]
      · unfold MW at hW ⊢
        rw [up_nk (by omega), up_nk (by omega)]
        exact hW
  by_cases hok : cmpOk (gTx G)
  case neg =>
    refine ⟨-nI (1 + cmpP (gTx G)), sRw (sTx G oTx) (gRw G), hGt, XH_x _ ?_, MH_x _ ?_⟩
    · intro q ρ L I hX
      obtain ⟨v, I', e1, -, e3, e4, e5, hA⟩ := x_spare hG' q ρ L I hX
      obtain ⟨rfl, e3x⟩ := e3 hok
      obtain ⟨⟨hT, hL, hD, hP, hS, hU, hK, hR, hρ⟩, hW⟩ := hX
      have hP2 : I' 0 17 = nI (gS G) := by rw [e5 0 (by omega) (by omega)]; exact hP.2
      refine ⟨ρ, L, I', ?_, e4, ⟨rfl, rfl, hρ⟩, rfl, ?_⟩
      · simp (disch := first | omega | assumption) only [f_X10_law, ↓bX, ↓bXA, ↓jn_, ↓ob_, ↓b2_, ↓reduceIte, nn_lt, nn_le, nn_eq, nI_add, pk_mul, nn_su, gn_lt, gn_le, ng_lt, ng_le, ng_eq, gn_eq, gg_eq, n_m1, n_cl, if_true, if_false, if_pos, if_neg, lt0, ↓b2e e1, ↓b2e (x_isS1 (q := q) (ρ := ρ) (L := L) hP2 (by omega) hs)]
      · unfold XW at hW ⊢
        rw [e5 3 (by omega) (by omega)]
        exact hW
    · rintro t q ρ L I ⟨hM, hW⟩
      obtain ⟨hT, hL, hD, hP, hS, hU, hK, hR⟩ := Ms_0 (x := nI 0) hM
      obtain ⟨p, x, bb, e1, e2, e3⟩ := m_readR (q := q) (ρ := ρ) (L := L) hT w1
      have hb : bb = false := by
        cases bb with
        | false => rfl
        | true => exact absurd (e2.mp rfl) hok
      subst hb
      have e3' := e3 rfl
      subst e3'
      rw [bo_f] at e1
      refine ⟨rr ρ (some 135), L, mp (j_up (bgn (j_up I 129 13 (nI 0)) (gTx G).1 40) 129 25 (nI 0)) p (nI (cmpP (gTx G))), ?_, Fr.mp_ (Fr.up bgn_fr rfl) rfl rfl, ⟨rfl, rfl, rfl⟩, rfl, ?_⟩
      · simp (disch := first | omega | assumption) only [f_X11_law, ↓bM, ↓ob_, lt0, hT.1, ↓b2e (m_isS1 (q := q) (ρ := ρ) (L := L) hP.2 (by omega) hs), ↓b2e e1, if_true, nn_eq, if_neg, if_false, mp_w, gs_]
      · unfold MW at hW ⊢
        rw [mp_nk (by omega) (by omega), up_nk (by omega), bgn_k (by omega) (by omega) (by omega), up_nk (by omega)]
        exact hW
  case pos =>
    have hT40 := ok40 hok
    have wg : WR (gTx G) := ⟨hT40, fun k hk => w1.2 k hk, hok⟩
    obtain ⟨P, hPe⟩ : ∃ P : Nat → Nat, P = fun w => tol (cmp (gRu G)) (gLx G) w s (scH (gN G)) := ⟨_, rfl⟩
    obtain ⟨Q, hQe⟩ : ∃ Q : Nat → Nat, Q = fun w => tol (cmp (gTx G)) (gLx G) w s (scH (gN G)) := ⟨_, rfl⟩
    have hPb : ∀ w, w < lxW (gLx G) → P w ≤ 594 := fun w hw => by rw [hPe]; exact tol_le w2 hw
    have hQb : ∀ w, w < lxW (gLx G) → Q w ≤ 594 := fun w hw => by rw [hQe]; exact tol_le w2 hw
    obtain ⟨c, hc⟩ : ∃ c, c = lw_ P Q (lxW (gLx G)) := ⟨_, rfl⟩
    refine ⟨nI c.1, sRw (sTx G oTx) (2, fun i => if i = 0 then (nI c.2.1).toInt64 else c.2.2.toInt64), ⟨WT_0, w2, w3, w4, w5, w6, w7, by simp only []; omega, w9⟩, XH_x _ ?_, MH_x _ ?_⟩
    · intro q ρ L I hX
      obtain ⟨v, I', e1, e2, -, e4, e5, hA⟩ := x_spare hG' q ρ L I hX
      obtain ⟨rfl, e2x⟩ := e2 hok
      have hX' := hX
      have xs := Xs_fr (G := sTx G oTx) (ρ' := ρ) e4 rfl hX.1.2.2.2.2.2.2.2.2 (Xs_tx hX.1)
      obtain ⟨hT, hL, hD, hP, hS, hU, hK, hR, hρ⟩ := xs
      obtain ⟨hA1, hTf⟩ := XR_Tf hR
      obtain ⟨J, j1, j2, j3⟩ := x_priceAll (q := q) (ρ := ρ) (L := L) (B := 115) (s := s) hA1 (.inl rfl) hTf (cmp_cok w9) hL w2 hS.1.1
      have jA : ∀ b, b < 115 → J b = I' b := fun b hb => j3 b (by unfold tT; omega) (by omega)
      have hR1 := hR.1
      have hT2 : Tf ρ.1.2 (cmp (gTx G)) J := by
        refine Tf_k e2x ?_ ?_
        · rw [j3 ρ.1.2 (by unfold tT; rcases hR1 with e | e <;> rw [e] <;> decide) (by omega)]
        · rw [j3 (ρ.1.2 + 2) (by unfold tT; rcases hR1 with e | e <;> rw [e] <;> decide) (by omega)]
      have hL2 : XL (gLx G) J := XL_k (fun b _ _ => jA b (by omega)) hL
      obtain ⟨K, k1, k2, k3⟩ := x_priceAll (q := q) (ρ := ρ) (L := L) (B := 116) (s := s) (hr := scH (gN G)) hA (.inr rfl) hT2 (cmp_cok wg) hL2 w2 (by rw [jA 19 (by omega)]; exact hS.1.1)
      have kA : ∀ b, b < 116 → K b = J b := fun b hb => k3 b (by unfold tT; omega) (by omega)
      have lp := fun kk => x_lwL (q := q) (ρ := ρ) (L := L) (I := K) (P := P) (Q := Q) (W := lxW (gLx G)) (kk := kk) hW10 (by rw [kA 5 (by omega), jA 5 (by omega)]; exact hL.1) (fun w hw => by rw [kA 115 (by omega), j2 w hw, hPe]) (fun w hw => by rw [k2 w hw, hQe]) (fun w hw => ⟨hPb w hw, hQb w hw⟩)
      rw [← hc] at lp
      have hP2 : I' 0 17 = nI (gS G) := hP.2
      refine ⟨ρ, j_up (j_up L 4 0 (nI c.2.1).toInt64) 4 1 c.2.2.toInt64, j_up K 3 1 (nI 2), ?_, Fr.up (Fr.tr (Fr.tr e4 (trB hA1 (.inl rfl) j3)) (trS hR1 k3)) (by rcases hA1 with e | e <;> rw [e] <;> rfl), ⟨rfl, rfl, hρ⟩, by rw [up_ne (by omega), up_ne (by omega)], XW_2⟩
      simp (disch := first | omega | assumption) only [f_X10_law, ↓bX, ↓ob_, lt0, ↓b2e e1, ↓b2e (x_isS1 (q := q) (ρ := ρ) (L := L) hP2 (by omega) hs), nn_eq, nn_le, if_neg, if_false, if_pos, if_true, Nat.le_refl, ↓oe j1, ↓oe k1]
      rw [lp]
      simp (disch := first | omega | assumption) only [↓bX, ↓oe (x_tell2 (q := q) (ρ := ρ) (L := L) (I := K))]
    · rintro t q ρ L I ⟨hM, hW⟩
      obtain ⟨hT, hL, hD, hP, hS, hU, hK, hR⟩ := Ms_0 (x := nI 0) hM
      obtain ⟨p, x, bb, e1, e2, e3⟩ := m_readR (q := q) (ρ := ρ) (L := L) hT w1
      have hb : bb = true := e2.mpr hok
      subst hb
      rw [bo_t] at e1
      obtain ⟨I1, hI1⟩ : ∃ I1, I1 = mp (j_up (bgn (j_up I 129 13 (nI 0)) (gTx G).1 40) 129 25 (nI 0)) p x := ⟨_, rfl⟩
      have f1 : Fr tN (j_up I 129 10 (nI 0)) I1 := by rw [hI1]; exact Fr.mp_ (Fr.up bgn_fr rfl) rfl rfl
      have hM1 := Ms_fr (G := sTx G oTx) (ρ' := ρ) f1 rfl (Ms_tx (f := fun _ => 0) hM)
      rw [← hI1] at e1
      obtain ⟨-, hL1, -, -, hS1, -, -, hR1⟩ := hM1
      rcases ρ with ⟨ρ1, ρ2, ρ3, ρ4⟩
      have hρ4 : ρ4 = (140, 141) := hR1.1
      subst hρ4
      have h12 := hS1.1.1
      rw [Nat.zero_add] at h12
      have ru1 : Ru (rr (ρ1, ρ2, ρ3, (140, 141)) (some 135)) 140 (gRu G) I1 := ⟨rfl, .inl rfl, hR1.2.1, hR1.2.2⟩
      have t1 : ∀ k, k < (gTx G).1 → I1 135 k = by8 ((gTx G).2 k) := fun k hk => by rw [f1 135 k rfl, up_ne (by omega)]; exact hM.1.2 k hk
      have fin : ∀ (z : Option Nat) (J : pI), (∀ w, w < lxW (gLx G) → J 153 w = nI (tol (cmp (gRu G)) (gLx G) w s (scH (gN G)))) → Fr tLw I1 J → ∃ (z' : Option Nat) (K : pI), f_X11_law_L95 5000 129 (nI s) (nI (gTx G).1) 140 (nI (gRu G).1) (fun (h24 : jH) =>
            f_X11_law_L133 5000 129 (nI s) 140 (nI (gRu G).1) (fun (y36 : Int32) (y37 : Int32) (y38 : Int32) (h39 : jH) =>
              (jp_R 11 22 h39 129 140).bind (fun h40 =>
              (jp_I 11 24 h40 129 (nI (gRu G).1)).bind (fun h41 =>
              (jp_I 11 12 h41 129 (nI 0)).bind (fun h42 =>
              (f_X11_tell 5000 129 (y37.toInt64) h42).bind (fun h43 =>
              (f_X11_tell 5000 129 (y38.toInt64) h43).bind (fun h44 =>
              some (y36, h44))))))) 5000 (nI 0) (nI 0) (nI 0) (nI 0) h24) 5000 (nI 0) (hp q (ρ1, ρ2, z, (141, 141)) L (j_up J 129 24 (nI (gTx G).1))) = some (nI c.1, hp q (ρ1, ρ2, z', (140, 141)) (j_up (j_up L 136 0 (nI c.2.1).toInt64) 136 1 c.2.2.toInt64) (j_up K 129 12 (nI 2))) ∧ Fr tN I1 K := by
        intro z J j2 j3
        obtain ⟨J2, a1, a2, a3⟩ := m_lw2 (q := q) (ρ := (ρ1, ρ2, z, (141, 141))) (L := L) (I := j_up J 129 24 (nI (gTx G).1)) (x1 := nI s) (x3 := 140) (x4 := nI (gRu G).1) (T := (gTx G).1) (f := (gTx G).2) hT40 rfl (fun k hk => by rw [up_ne (by omega), j3 135 k rfl]; exact t1 k hk) (kk := fun (h24 : jH) =>
            f_X11_law_L133 5000 129 (nI s) 140 (nI (gRu G).1) (fun (y36 : Int32) (y37 : Int32) (y38 : Int32) (h39 : jH) =>
              (jp_R 11 22 h39 129 140).bind (fun h40 =>
              (jp_I 11 24 h40 129 (nI (gRu G).1)).bind (fun h41 =>
              (jp_I 11 12 h41 129 (nI 0)).bind (fun h42 =>
              (f_X11_tell 5000 129 (y37.toInt64) h42).bind (fun h43 =>
              (f_X11_tell 5000 129 (y38.toInt64) h43).bind (fun h44 =>
              some (y36, h44))))))) 5000 (nI 0) (nI 0) (nI 0) (nI 0) h24)
        have ru2 : Ru (ρ1, ρ2, z, (141, 141)) 141 (gTx G) J2 := ⟨rfl, .inr rfl, by rw [a3 129 (by omega), up_eq], a2⟩
        have ml2 : ML (gLx G) J2 := ML_k (by rw [a3 129 (by omega), up_nk (by omega), j3 129 2 rfl]) (by rw [a3 131 (by omega), up_ne (by omega)]; exact j3.row 131 (fun k => rfl)) (by rw [a3 132 (by omega), up_ne (by omega)]; exact j3.row 132 (fun k => rfl)) (by rw [a3 133 (by omega), up_ne (by omega)]; exact j3.row 133 (fun k => rfl)) hL1
        obtain ⟨J3, z3, b1, b2⟩ := m_lw3 (q := q) (L := L) (s := s) (hr := scH (gN G)) (P := P) (Q := Q) (x3 := 140) (x4 := nI (gRu G).1) ru2 wg ml2 w2 (by rw [a3 130 (by omega), up_ne (by omega), j3 130 12 rfl]; exact h12) (fun w hw => ⟨by rw [a3 153 (by omega), up_ne (by omega), j2 w hw, hPe], hPb w hw⟩) hQe (kk := fun (y36 : Int32) (y37 : Int32) (y38 : Int32) (h39 : jH) =>
              (jp_R 11 22 h39 129 140).bind (fun h40 =>
              (jp_I 11 24 h40 129 (nI (gRu G).1)).bind (fun h41 =>
              (jp_I 11 12 h41 129 (nI 0)).bind (fun h42 =>
              (f_X11_tell 5000 129 (y37.toInt64) h42).bind (fun h43 =>
              (f_X11_tell 5000 129 (y38.toInt64) h43).bind (fun h44 =>
              some (y36, h44)))))))
        rw [← hc] at b1
        refine ⟨z3, j_up J3 129 24 (nI (gRu G).1), ?_, fun b k hb => ?_⟩
        · rw [a1]
          refine b1.trans ?_
          simp (disch := first | omega | assumption) only [rr, ↓oe (hR22 _ _ _ _ _), ↓bM, ↓oe (m_tell (q := q) (r := 0) (by omega)), ↓oe (m_tell (q := q) (r := 1) (by omega))]
        · have hb2 : tTo b k = false := by
            cases e : tTo b k with
            | false => rfl
            | true =>
              have := tTo_N (I := fun _ _ => 0) (J := fun b' k' => if b' = b ∧ k' = k then 1 else 0) (fun b' k' e' => by
                by_cases g : b' = b ∧ k' = k
                · obtain ⟨rfl, rfl⟩ := g
                  rw [e] at e'
                  cases e'
                · simp only [if_neg g]) b k hb
              simp at this
          have hb3 : b ≠ 141 := fun e => by rw [e] at hb; cases hb
          by_cases g : b = 129 ∧ k = 24
          · obtain ⟨rfl, rfl⟩ := g
            rw [up_eq]
            exact hR1.2.1.symm
          · have u : ∀ (F : pI) (v : Int32), j_up F 129 24 v b k = F b k := fun F v => by
              by_cases g1 : b = 129
              · rw [up_nk (fun g2 => g ⟨g1, g2⟩)]
              · rw [up_ne g1]
            rw [u, b2 b k hb2, a3 b hb3, u]
            exact tLw_N j3 b k hb
      obtain ⟨J, z, j1, j2, j3⟩ := m_lw1 (q := q) (L := L) (s := s) (hr := scH (gN G)) (x2 := nI (gTx G).1) ru1 w9 hL1 w2 h12 (kk := fun (h14 : jH) =>
          (jg_R 11 22 h14 129).bind (fun v15 =>
          (jg_I 11 24 h14 129).bind (fun v16 =>
          (jg_R 11 23 h14 129).bind (fun v17 =>
          (jp_R 11 22 h14 129 v17).bind (fun h18 =>
          (jp_I 11 24 h18 129 (nI (gTx G).1)).bind (fun h19 =>
          f_X11_law_L95 5000 129 (nI s) (nI (gTx G).1) v15 v16 (fun (h24 : jH) =>
            f_X11_law_L133 5000 129 (nI s) v15 v16 (fun (y36 : Int32) (y37 : Int32) (y38 : Int32) (h39 : jH) =>
              (jp_R 11 22 h39 129 v15).bind (fun h40 =>
              (jp_I 11 24 h40 129 v16).bind (fun h41 =>
              (jp_I 11 12 h41 129 (nI 0)).bind (fun h42 =>
              (f_X11_tell 5000 129 (y37.toInt64) h42).bind (fun h43 =>
              (f_X11_tell 5000 129 (y38.toInt64) h43).bind (fun h44 =>
              some (y36, h44))))))) 5000 (nI 0) (nI 0) (nI 0) (nI 0) h24) 5000 (nI 0) h19))))))
      obtain ⟨z', K, k1, k2⟩ := fin z J j2 j3
      have j24 : J 129 24 = nI (gRu G).1 := by rw [j3 129 24 rfl]; exact hR1.2.1
      refine ⟨(ρ1, ρ2, z', (140, 141)), j_up (j_up L 136 0 (nI c.2.1).toInt64) 136 1 c.2.2.toInt64, j_up K 129 12 (nI 2), ?_, Fr.up (Fr.tr f1 k2) rfl, ⟨rfl, rfl, rfl⟩, by rw [up_ne (by omega), up_ne (by omega)], MW_2⟩
      simp (disch := first | omega | assumption) only [f_X11_law, ↓bM, ↓ob_, lt0, hT.1, ↓b2e (m_isS1 (q := q) (ρ := (ρ1, ρ2, ρ3, (140, 141))) (L := L) hP.2 (by omega) hs), ↓b2e e1, nn_eq, if_neg, if_false]
      refine j1.trans ?_
      simp (disch := first | omega | assumption) only [rr, ↓bM, j24, ↓oe (hR22 _ _ _ _ _)]
      exact k1
