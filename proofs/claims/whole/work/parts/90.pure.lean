/-! SAID -/
theorem x_sdL {q : pQ} {ρ : pP} {L : pL} {f : Nat → Nat} {kk : jH → Option (Int32 × jH)} : ∀ m j N (I : pI), j + m = 5 → m < N → (∀ v, v < 5 → I 2 v = nI (f v) ∧ 48 ≤ f v ∧ f v < 256) → (∀ v, v < j → I 117 v = nI (f v - 48)) → ∃ J, f_X10_said_L31 5000 0 kk N (nI j) (hp q ρ L I) = kk (hp q ρ L J) ∧ (∀ v, v < 5 → J 117 v = nI (f v - 48)) ∧ ∀ b, b ≠ 117 → J b = I b
  | _, _, 0, _, _, h, _, _ => absurd h (Nat.not_lt_zero _)
  | 0, j, N + 1, I, h1, h2, h3, h4 => by
    refine ⟨I, ?_, fun v hv => h4 v (by omega), fun b _ => rfl⟩
    rw [f_X10_said_L31]
    simp (disch := first | omega | assumption) only [↓bX, ↓bXA, ↓jn_, ↓ob_, ↓b2_, ↓reduceIte, nn_lt, nn_le, nn_eq, nI_add, pk_mul, nn_su, gn_lt, gn_le, ng_lt, ng_le, ng_eq, gn_eq, gg_eq, n_m1, n_cl, if_true, if_false, if_pos, if_neg, lt0]
  | m + 1, j, N + 1, I, h1, h2, h3, h4 => by
    obtain ⟨a1, a2, a3⟩ := h3 j (by omega)
    obtain ⟨J, e1, e2, e3⟩ := x_sdL (q := q) (ρ := ρ) (L := L) (f := f) (kk := kk) m (j + 1) N (j_up I 117 j (nI (f j - 48))) (by omega) (by omega) (fun v hv => by rw [up_ne (by omega)]; exact h3 v hv) (fun v hv => by
      by_cases e : v = j
      · rw [e, up_eq]
      · rw [up_nk e]
        exact h4 v (by omega))
    refine ⟨J, ?_, e2, fun b hb => by rw [e3 b hb, up_ne hb]⟩
    rw [f_X10_said_L31]
    simp (disch := first | omega | assumption) only [↓bX, ↓bXA, ↓jn_, ↓ob_, ↓b2_, ↓reduceIte, nn_lt, nn_le, nn_eq, nI_add, pk_mul, nn_su, gn_lt, gn_le, ng_lt, ng_le, ng_eq, gn_eq, gg_eq, n_m1, n_cl, if_true, if_false, if_pos, if_neg, lt0, a1]
    exact e1
theorem lM_len {W : Nat} (hW : W ≤ 10) : (lM W 4 0 []).length ≤ 4000 := by
  have h : (lM W 4 0 []).countP (fun _ => true) = (lA W 4 0 []).countP (fun _ => true) := cnt_lM 4 0 []
  rw [List.countP_true] at h
  have e : (lA W 4 0 []).length = (lX W 0 0 []).length + (lX W 1 0 []).length + (lX W 2 0 []).length + (lX W 3 0 []).length + (lX W 4 0 []).length := by
    show (lX W 0 0 [] ++ lX W 1 0 [] ++ lX W 2 0 [] ++ lX W 3 0 [] ++ lX W 4 0 []).length = _
    rw [List.length_append, List.length_append, List.length_append, List.length_append]
  rw [lX_len, lX_len, lX_len, lX_len, lX_len] at e
  have c0 := cn_le (W - 0) (by omega) 0 (by omega)
  have c1 := cn_le (W - 0) (by omega) 1 (by omega)
  have c2 := cn_le (W - 0) (by omega) 2 (by omega)
  have c3 := cn_le (W - 0) (by omega) 3 (by omega)
  have c4 := cn_le (W - 0) (by omega) 4 (by omega)
  omega
theorem k_said : ∀ G, Wr G → ∃ v G', Wr G' ∧ XH (f_X10_said 5000 0) G v G' ∧ MH (f_X11_said 5000 129) G v G' := by
  intro G hG
  have hG' := hG
  obtain ⟨w1, w2, w3, w4, w5, w6, w7, w8, w9⟩ := hG
  have hW10 := w2.1
  have h80 := w1.1
  have hGt : Wr (sRw (sTx G oTx) (gRw G)) := ⟨WT_0, w2, w3, w4, w5, w6, w7, w8, w9⟩
  obtain ⟨T, hTe⟩ : ∃ T, T = (gTx G).1 := ⟨_, rfl⟩
  obtain ⟨f, hfe⟩ : ∃ f, f = (gTx G).2 := ⟨_, rfl⟩
  obtain ⟨e, he⟩ : ∃ e, e = dgr f T 5 0 := ⟨_, rfl⟩
  have el := (dgr_le (f := f) (n := T) 5 0).2
  have eT := dgr_n (f := f) (n := T) 5 0 (Nat.zero_le T)
  have ed := fun j => dgr_in (f := f) (n := T) 5 0 j (Nat.zero_le j)
  rw [← he] at el eT ed
  rw [← hTe] at h80
  have opn : ∀ q ρ L I, Xr G ρ L I → f_X9_open 5000 1 (nI 5) (hp q ρ L I) = some (hp q ρ L (ap (j_up I 1 3 (nI (min T 5))) 0)) := fun q ρ L I hX => by
    have op := x_open (q := q) (ρ := ρ) (L := L) (m := 5) hX.1.1.1 (by omega) (by omega)
    rw [← hTe] at op
    exact op
  have xrd : ∀ q ρ L I, Xr G ρ L I → f_X10_readDigits 5000 0 (nI 5) (nI 5) (hp q ρ L (ap (j_up I 1 3 (nI (min T 5))) 0)) = some (if 5 ≤ e ∧ e = T then nI 0 else -nI (1 + e), hp q ρ L (ap (j_up I 1 3 (nI (min T 5))) e)) := by
    intro q ρ L I hX
    have hT := hX.1.1
    have hR := Rd_of (m := 5) hT w1 (by omega)
    rw [← hTe, ← hfe] at hR
    have := x_digits (q := q) (ρ := ρ) (L := L) (a := 5) (m := 5) (T := T) hR (by rw [up_nk (by omega), hTe]; exact hT.1) h80 (by omega) (by omega)
    rw [dgr_min 5 0 (by omega), ← he] at this
    exact this
  have mrd : ∀ t q ρ L I, Ms t G ρ I → ∀ kk : jH → Option (Int32 × jH), ∃ J p w, f_X11_said_L13 5000 129 kk 5000 (nI 0) (hp q (rr ρ (some 135)) L (mp (bgn (j_up I 129 13 (nI 0)) T 80) 0 (-nI 1))) = kk (hp q (rr ρ (some 135)) L (mp J p w)) ∧ (e = 5 → p = 5 ∧ w = -nI 1 ∧ ∀ v, v < 5 → J 154 v = nI (sg f T v - 48)) ∧ (e ≠ 5 → w = nI e ∧ p ≤ 5) ∧ ∀ b, b ≠ 154 → J b = bgn (j_up I 129 13 (nI 0)) T 80 b := by
    intro t q ρ L I hM kk
    have hT := (Ms_0 (x := nI 0) hM).1
    have hR := RdM_of (ρ := ρ) (m := 80) hT w1 (by omega)
    rw [← hTe, ← hfe, Nat.min_eq_left h80] at hR
    obtain ⟨J, p, w, a1, a2, a3, a4⟩ := m_sdL (q := q) (ρ := rr ρ (some 135)) (L := L) (f := f) (T := T) (kk := kk) 5 0 5000 _ (by omega) (by omega) hR (fun v hv => absurd hv (Nat.not_lt_zero v))
    rw [← he] at a2 a3
    exact ⟨J, p, w, a1, a2, a3, a4⟩
  have mfr : ∀ (I J : pI) (p : Nat) (w : Int32), (∀ b, b ≠ 154 → J b = bgn (j_up I 129 13 (nI 0)) T 80 b) → Fr tN (j_up I 129 10 (nI 0)) (mp J p w) := fun I J p w h => by
    refine Fr.mp_ (Fr.tr (bgn_fr (T := T) (m := 80)) (fun b k e => ?_)) rfl rfl
    rw [h b (fun h => by rw [h] at e; cases e)]
  by_cases hg : 5 ≤ e ∧ e = T
  case neg =>
    refine ⟨-nI (1 + e), sRw (sTx G oTx) (gRw G), hGt, XH_x _ ?_, MH_x _ ?_⟩
    · intro q ρ L I hX
      have rd := xrd q ρ L I hX
      rw [if_neg hg] at rd
      have op := opn q ρ L I hX
      obtain ⟨⟨hT, hL, hD, hP, hS, hU, hK, hR, hρ⟩, hW⟩ := hX
      refine ⟨ρ, L, j_up (ap (j_up I 1 3 (nI (min T 5))) e) 1 1 (nI 0), ?_, x_op, ⟨rfl, rfl, hρ⟩, rfl, ?_⟩
      · simp (disch := first | omega | assumption) only [f_X10_said, ↓bX, ↓bXA, ↓jn_, ↓ob_, ↓b2_, ↓reduceIte, nn_lt, nn_le, nn_eq, nI_add, pk_mul, nn_su, gn_lt, gn_le, ng_lt, ng_le, ng_eq, gn_eq, gg_eq, n_m1, n_cl, if_true, if_false, if_pos, if_neg, lt0, ↓oe op, ↓b2e rd]
      · unfold XW at hW ⊢
        rw [up_ne (by omega), ap_ne (by omega), up_ne (by omega)]
        exact hW
    · rintro t q ρ L I ⟨hM, hW⟩
      have hT := (Ms_0 (x := nI 0) hM).1
      have e10 := hT.1
      rw [← hTe] at e10
      have bg := m_begin (q := q) (ρ := ρ) (L := L) (m := 80) e10
      obtain ⟨J, p, w, a1, a2, a3, a4⟩ := mrd t q ρ L I hM (fun (h7 : jH) =>
        j_b2 (f_X11_wasRight 5000 129 h7) (fun v9 h8 =>
        if v9 = nI 0 then
          (jg_I 11 18 h8 129).bind (fun v10 =>
          some ((-nI 1 - v10), h8))
        else
          (jp_I 11 49 h8 129 (nI 0)).bind (fun h11 =>
          (f_X11_goSaid 5000 129 (nI 0) (nI 0) h11).bind (fun h12 =>
          (jp_I 11 12 h12 129 (nI 0)).bind (fun h13 =>
          f_X11_said_L70 5000 129 (fun (h19 : jH) =>
            (jg_I 11 49 h19 129).bind (fun v20 =>
            some (v20, h19))) 5000 (nI 0) h13)))))
      have h15 : J 129 15 = nI T := by rw [a4 129 (by omega)]; exact bgn_15
      have wr : ∃ p', f_X11_wasRight 5000 129 (hp q (rr ρ (some 135)) L (mp J p w)) = some (nI 0, hp q (rr ρ (some 135)) L (mp J p' (nI e))) := by
        by_cases h5 : e = 5
        · obtain ⟨rfl, rfl, -⟩ := a2 h5
          have := m_right (q := q) (ρ := rr ρ (some 135)) (L := L) (p := 5) h15 h80 (by omega)
          rw [if_neg (by omega)] at this
          exact ⟨5, by rw [h5]; exact this⟩
        · obtain ⟨rfl, hp5⟩ := a3 h5
          exact ⟨p, m_wrong (q := q) (ρ := rr ρ (some 135)) (L := L) h15 h80 (by omega) (by omega)⟩
      obtain ⟨p', wr⟩ := wr
      refine ⟨rr ρ (some 135), L, mp J p' (nI e), ?_, mfr I J p' (nI e) a4, ⟨rfl, rfl, rfl⟩, rfl, ?_⟩
      · simp (disch := first | omega | assumption) only [f_X11_said, ↓bM, ↓ob_, lt0, ↓oe bg]
        refine a1.trans ?_
        simp (disch := first | omega | assumption) only [↓b2e wr, if_true, ↓bM, mp_w, gs_]
      · unfold MW at hW ⊢
        rw [mp_nk (by omega) (by omega), a4 129 (by omega), bgn_k (by omega) (by omega) (by omega), up_nk (by omega)]
        exact hW
  case pos =>
    obtain ⟨e5, e6⟩ := hg
    have hT5 : T = 5 := by omega
    have he5 : e = 5 := by omega
    obtain ⟨d, hde⟩ : ∃ d : Nat → Nat, d = fun k => f k - 48 := ⟨_, rfl⟩
    have hf : ∀ v, v < 5 → sg f T v = f v ∧ 48 ≤ f v ∧ f v < 58 := fun v hv => by
      have := ed v (by omega)
      rw [show sg f T v = f v from if_pos (by omega)] at this ⊢
      exact ⟨rfl, this⟩
    have hd9 : ∀ v, v < 5 → d v ≤ 9 := fun v hv => by
      have := hf v hv
      rw [hde]
      simp only []
      omega
    obtain ⟨S, hS_⟩ : ∃ S, S = (lAll (lxW (gLx G))).foldl (sX (okv (gLx G) d)) (0, []) := ⟨_, rfl⟩
    obtain ⟨B, hB_⟩ : ∃ B, B = (lM (lxW (gLx G)) 4 0 []).foldl (sM (okv (gLx G) d)) (0, []) := ⟨_, rfl⟩
    obtain ⟨q1, q2, q3, q4⟩ := said_eq hW10 (okv (gLx G) d) []
    rw [← hS_, ← hB_] at q1 q2
    rw [← hS_] at q3 q4
    have lml := lM_len hW10
    have hBl := fM_le (ok := okv (gLx G) d) (lM (lxW (gLx G)) 4 0 []) (0, [])
    rw [← hB_] at hBl
    simp only [] at hBl
    refine ⟨nI S.1, sRw (sTx G oTx) (S.2.length, fun n => (nI (S.2.getD n 0)).toInt64), ⟨WT_0, w2, w3, w4, w5, w6, w7, by simp only []; omega, w9⟩, XH_x _ ?_, MH_x _ ?_⟩
    · intro q ρ L I hX
      have rd := xrd q ρ L I hX
      rw [if_pos ⟨e5, e6⟩] at rd
      have op := opn q ρ L I hX
      obtain ⟨⟨hT, hL, hD, hP, hS, hU, hK, hR, hρ⟩, hW⟩ := hX
      have hA := (XR_Tf hR).1
      obtain ⟨K, k1, k2, k3⟩ := x_sdL (q := q) (ρ := ρ) (L := L) (f := f) (kk := fun (h12 : jH) =>
        (jg_R 10 1 h12 0).bind (fun v13 =>
        (f_X6_clear 5000 v13 h12).bind (fun h14 =>
        f_X10_said_L71 5000 0 5000 (nI 0) (nI 1) h14))) 5 0 5000 (j_up (ap (j_up I 1 3 (nI (min T 5))) e) 1 1 (nI 0)) (by omega) (by omega) (fun v hv => by
          have := hf v hv
          rw [up_ne (by omega), ap_ne (by omega), up_ne (by omega), hT.2 v (by omega), ← hfe]
          exact ⟨rfl, by omega, by omega⟩) (fun v hv => absurd hv (Nat.not_lt_zero v))
      have kI : ∀ b, b ≠ 1 → b ≠ 117 → K b = I b := fun b b1 b2 => by rw [k3 b b2, up_ne b1, ap_ne b1, up_ne b1]
      obtain ⟨L', J, j1, j2⟩ := x_said (q := q) (ρ := ρ) (L := L) (I0 := j_up K 3 1 (nI 0)) (g := gLx G) (d := d) (XL_k (fun b b1 b2 => by rw [up_ne (by omega)]; exact kI b (by omega) (by omega)) hL) w2 (fun v hv => ⟨by rw [up_ne (by omega), k2 v hv, hde], hd9 v hv⟩) up_eq
      rw [← hS_] at j1 j2
      obtain ⟨⟨s1, s2⟩, s3, s4, s5⟩ := j2
      refine ⟨ρ, L', J, ?_, ?_, ⟨rfl, rfl, hρ⟩, s4 136 (by omega), s1, s2⟩
      · simp (disch := first | omega | assumption) only [f_X10_said, ↓bX, ↓ob_, lt0, ↓oe op, ↓b2e rd, nn_le, Nat.le_refl, if_true]
        refine k1.trans ?_
        simp (disch := first | omega | assumption) only [↓bX, ↓oe (x_clear (q := q) (ρ := ρ) (L := L) (I := K))]
        exact j1
      · refine Fr.tr (x_op (x := nI (min T 5)) (p := e)) (fun b k hb => ?_)
        have b118 : b ≠ 118 := fun h => by rw [h] at hb; rcases hA with h' | h' <;> rw [h'] at hb <;> cases hb
        have b117 : b ≠ 117 := fun h => by rw [h] at hb; rcases hA with h' | h' <;> rw [h'] at hb <;> cases hb
        have b3 : b = 3 → k ≠ 1 := fun h h' => by rw [h, h'] at hb; rcases hA with h'' | h'' <;> rw [h''] at hb <;> cases hb
        rw [s5 b k b118 b3]
        by_cases g : b = 3
        · rw [g, up_nk (b3 g), k3 3 (by omega)]
        · rw [up_ne g, k3 b b117]
    · rintro t q ρ L I ⟨hM, hW⟩
      obtain ⟨hT, hL, -⟩ := Ms_0 (x := nI 0) hM
      have e10 := hT.1
      rw [← hTe] at e10
      have bg := m_begin (q := q) (ρ := ρ) (L := L) (m := 80) e10
      obtain ⟨J, p, w, a1, a2, a3, a4⟩ := mrd t q ρ L I hM (fun (h7 : jH) =>
        j_b2 (f_X11_wasRight 5000 129 h7) (fun v9 h8 =>
        if v9 = nI 0 then
          (jg_I 11 18 h8 129).bind (fun v10 =>
          some ((-nI 1 - v10), h8))
        else
          (jp_I 11 49 h8 129 (nI 0)).bind (fun h11 =>
          (f_X11_goSaid 5000 129 (nI 0) (nI 0) h11).bind (fun h12 =>
          (jp_I 11 12 h12 129 (nI 0)).bind (fun h13 =>
          f_X11_said_L70 5000 129 (fun (h19 : jH) =>
            (jg_I 11 49 h19 129).bind (fun v20 =>
            some (v20, h19))) 5000 (nI 0) h13)))))
      obtain ⟨rfl, rfl, a5⟩ := a2 he5
      have h15 : J 129 15 = nI T := by rw [a4 129 (by omega)]; exact bgn_15
      have rt := m_right (q := q) (ρ := rr ρ (some 135)) (L := L) (p := 5) h15 h80 (by omega)
      rw [if_pos (by omega)] at rt
      obtain ⟨I1, hI1⟩ : ∃ I1, I1 = mp J 5 (-nI 1) := ⟨_, rfl⟩
      have f1 : Fr tN (j_up I 129 10 (nI 0)) I1 := by rw [hI1]; exact mfr I J 5 (-nI 1) a4
      rw [← hI1] at rt
      have hM1 := Ms_fr (G := sTx G oTx) (ρ' := ρ) f1 rfl (Ms_tx (f := fun _ => 0) hM)
      have hL1 : ML (gLx G) I1 := hM1.2.1
      obtain ⟨I2, c1, c2, c3, c4, c5⟩ := m_go (q := q) (ρ := rr ρ (some 135)) (L := L) (d := d) w2 hd9 4 0 [] (0, []) (j_up I1 129 49 (nI 0)) 5 rfl (Nat.zero_le _) (fun x hx => by cases hx) (ML_k (by rw [up_nk (by omega)]) (by rw [up_ne (by omega)]) (by rw [up_ne (by omega)]) (by rw [up_ne (by omega)]) hL1) (fun v hv => by
        have := hf v hv
        rw [up_ne (by omega), hI1, mp_ne (by omega), a5 v hv, this.1, hde]
        show _ = nI (f v - 48) - nI 0
        rw [nn_su (Nat.zero_le _), Nat.sub_zero]) (fun i hi => absurd hi (Nat.not_lt_zero i)) ⟨up_eq, fun h => absurd h (Nat.lt_irrefl 0)⟩ (by simp only []; omega)
      rw [← hB_] at c4
      have gs : f_X11_goSaid 5000 129 (nI 0) (nI 0) (hp q (rr ρ (some 135)) L (j_up I1 129 49 (nI 0))) = some (hp q (rr ρ (some 135)) L I2) := c1
      have fr2 : Fr tN (j_up I 129 10 (nI 0)) I2 := Fr.tr (Fr.up f1 rfl) (tSd_N c5)
      have c49 := c4.1
      have fin : ∃ L', f_X11_said_L70 5000 129 (fun (h19 : jH) =>
            (jg_I 11 49 h19 129).bind (fun v20 =>
            some (v20, h19))) 5000 (nI 0) (hp q (rr ρ (some 135)) L (j_up I2 129 12 (nI 0))) = some (nI S.1, hp q (rr ρ (some 135)) L' (j_up I2 129 12 (nI S.2.length))) ∧ (∀ k, k < S.2.length → L' 136 k = (nI (S.2.getD k 0)).toInt64) ∧ ∀ b, b ≠ 136 → L' b = L b := by
        by_cases h0 : S.1 = 0
        · have s2 := q3 h0
          rw [s2, h0, List.length_nil]
          refine ⟨L, ?_, fun k hk => absurd hk (Nat.not_lt_zero k), fun b _ => rfl⟩
          rw [← q1, h0] at c49
          rw [f_X11_said_L70]
          simp (disch := first | omega | assumption) only [↓bM, ↓ob_, lt0, up_nk, c49, nn_le, Nat.le_refl, if_true, ite_self]
        · have s2 := q2 (by omega)
          obtain ⟨d1, d2, d3, d4⟩ := c4.2 (by omega)
          rw [← s2] at d1 d4
          rw [← q1] at c49
          obtain ⟨L', l1, l2, l3⟩ := m_sdT (q := q) (ρ := rr ρ (some 135)) (I := I2) (c := S.2) (W := S.1) (by omega) d1 c49 ⟨by omega, by omega⟩ d4 (kk := fun (h19 : jH) =>
            (jg_I 11 49 h19 129).bind (fun v20 =>
            some (v20, h19))) S.2.length 0 5000 L (by omega) (by omega) (fun k hk => absurd hk (Nat.not_lt_zero k))
          refine ⟨L', l1.trans ?_, l2, l3⟩
          simp (disch := first | omega | assumption) only [↓bM, up_nk, c49]
      obtain ⟨L', l1, l2, l3⟩ := fin
      refine ⟨rr ρ (some 135), L', j_up I2 129 12 (nI S.2.length), ?_, Fr.up fr2 rfl, ⟨rfl, rfl, rfl⟩, l3 4 (by omega), up_eq, l2⟩
      simp (disch := first | omega | assumption) only [f_X11_said, ↓bM, ↓ob_, lt0, ↓oe bg]
      refine a1.trans ?_
      rw [← hI1]
      simp (disch := first | omega | assumption) only [↓b2e rt, nn_eq, if_neg, if_false, ↓bM, ↓ob_, ↓oe gs]
      exact l1
