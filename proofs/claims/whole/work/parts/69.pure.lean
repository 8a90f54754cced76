/-! TRAVELLERS: the call -/
def trC (C : gC) (f : Nat → Nat) (n S P : Nat) : gC := ((scH C, scD C), (fun t => if t < P then scP C t else trP f n (lnP (trd f n S) (t - P))), (fun t => if t < P then scU C t else trU f n (lnP (trd f n S) (t - P))), (fun t => if t < P then scS C t else nI 0), scB C)
theorem x_trS {C : gC} {I J : pI} {f : Nat → Nat} {n T S P k p : Nat} {x : Int32} (hS : XS 19 C P I) (h : trX (j_up I 1 3 x) f n T S P k J) : (∀ b, b ≠ 1 → b ≠ 20 → b ≠ 21 → b ≠ 22 → j_up (ap J p) 1 1 (nI 0) b = I b) ∧ XS 19 (trC C f n S P) (P + k) (j_up (ap J p) 1 1 (nI 0)) ∧ XS 19 C P (j_up (ap J p) 1 1 (nI 0)) := by
  obtain ⟨h1, h2, h3, h4, h5⟩ := h
  obtain ⟨s1, s2, s3⟩ := hS
  have z : ∀ b, b ≠ 1 → j_up (ap J p) 1 1 (nI 0) b = J b := fun b hb => by rw [up_ne hb, ap_ne hb]
  have e5 : ∀ b, b ≠ 1 → b ≠ 20 → b ≠ 21 → b ≠ 22 → j_up (ap J p) 1 1 (nI 0) b = I b := fun b b1 b2 b3 b4 => by rw [z b b1, h5 b b2 b3 b4, up_ne b1]
  have old : ∀ t, t < P → j_up (ap J p) 1 1 (nI 0) 20 t = nI (scP C t) ∧ j_up (ap J p) 1 1 (nI 0) 21 t = nI (scU C t) ∧ j_up (ap J p) 1 1 (nI 0) 22 t = scS C t := fun t ht => by
    rw [z 20 (by omega), z 21 (by omega), z 22 (by omega)]
    obtain ⟨a1, a2, a3⟩ := h4 t ht
    rw [a1, a2, a3, up_ne (by omega), up_ne (by omega), up_ne (by omega)]
    exact s2 t ht
  refine ⟨e5, ⟨by rw [e5 19 (by omega) (by omega) (by omega) (by omega)]; exact s1, fun t ht => ?_, by rw [e5 23 (by omega) (by omega) (by omega) (by omega)]; exact s3⟩, ⟨by rw [e5 19 (by omega) (by omega) (by omega) (by omega)]; exact s1, old, by rw [e5 23 (by omega) (by omega) (by omega) (by omega)]; exact s3⟩⟩
  show _ = nI (if t < P then scP C t else trP f n (lnP (trd f n S) (t - P))) ∧ _ = nI (if t < P then scU C t else trU f n (lnP (trd f n S) (t - P))) ∧ _ = (if t < P then scS C t else nI 0)
  by_cases e : t < P
  · rw [if_pos e, if_pos e, if_pos e]
    exact old t e
  · rw [if_neg e, if_neg e, if_neg e]
    have := h3 (t - P) (by omega)
    rw [show P + (t - P) = t by omega] at this
    rw [show 19 + 1 = 20 from rfl, show 19 + 2 = 21 from rfl, show 19 + 3 = 22 from rfl, z 20 (by omega), z 21 (by omega), z 22 (by omega)]
    exact this
theorem Fr_bg {I : pI} {T m p : Nat} {x w : Int32} : Fr tN (j_up I 129 10 (nI 0)) (mp (bgn (j_up I 129 13 x) T m) p w) := by
  unfold bgn mp
  rw [up_co (a := 129) (k := 16) (by omega), up_co (a := 129) (k := 15) (by omega), up_co (a := 129) (k := 13) (by omega)]
  exact Fr.up (Fr.up (Fr.up (Fr.up (Fr.up Fr.rf rfl) rfl) rfl) rfl) rfl
theorem k_travellers : ∀ G, Wr G → ∃ v G', Wr G' ∧ XH (f_X10_travellers 5000 0) G v G' ∧ MH (f_X11_travellers 5000 129) G v G' := by
  intro G hG
  have hG' := hG
  obtain ⟨w1, w2, w3, w4, w5, w6, w7, w8, w9⟩ := hG
  have h80 := w1.1
  have hP4 := w4.1
  have hGt : Wr (sTx G oTx) := ⟨WT_0, w2, w3, w4, w5, w6, w7, w8, w9⟩
  obtain ⟨T, hTe⟩ : ∃ T, T = (gTx G).1 := ⟨_, rfl⟩
  obtain ⟨f, hfe⟩ : ∃ f, f = (gTx G).2 := ⟨_, rfl⟩
  obtain ⟨P, hPe⟩ : ∃ P, P = gP G := ⟨_, rfl⟩
  obtain ⟨S, hSe⟩ : ∃ S, S = gS G := ⟨_, rfl⟩
  obtain ⟨n, hne⟩ : ∃ n, n = min T 40 := ⟨_, rfl⟩
  obtain ⟨cap, hcap⟩ : ∃ cap, P + cap = 4 := ⟨4 - P, by omega⟩
  by_cases hT0 : T = 0
  · refine ⟨nI 0, sRw (sTx G oTx) (gRw G), hGt, XH_x _ ?_, MH_x _ ?_⟩
    · rintro q ρ L I ⟨⟨hT, hL, hD, hP, hS, hU, hK, hR, hρ⟩, hW⟩
      have e11 := hT.1
      have e18 := hP.1
      rw [← hTe, hT0] at e11
      rw [← hPe] at e18
      refine ⟨ρ, L, j_up (ap (j_up I 1 3 (nI (min 0 40))) 0) 1 1 (nI 0), ?_, x_op, ⟨rfl, rfl, hρ⟩, rfl, ?_⟩
      · have e := x_rl0 (q := q) (ρ := ρ) (L := L) (kd := 1) (m := 40) (c0 := P) (C := 4) e11 (by omega)
        simp (disch := first | omega | assumption) only [f_X10_travellers, ↓bX, ↓bXA, ↓jn_, ↓ob_, ↓b2_, ↓reduceIte, nn_lt, nn_le, nn_eq, nI_add, pk_mul, nn_su, gn_lt, gn_le, ng_lt, ng_le, ng_eq, gn_eq, gg_eq, n_m1, n_cl, if_true, if_false, if_pos, if_neg, lt0, e18, ↓b2e e]
      · unfold XW at hW ⊢
        rw [up_ne (by omega), ap_ne (by omega), up_ne (by omega)]
        exact hW
    · rintro t q ρ L I ⟨hM, hW⟩
      obtain ⟨hT, hL, hD, hP, hS, hU, hK, hR⟩ := Ms_0 (x := nI 0) hM
      have e10 := hT.1
      rw [← hTe, hT0] at e10
      refine ⟨rr ρ (some 135), L, _, ?_, Fr_bg (T := 0) (m := 40) (p := 0) (w := -nI 1) (x := nI 0), ⟨rfl, rfl, rfl⟩, rfl, ?_⟩
      · have e := m_begin (q := q) (ρ := ρ) (L := L) (m := 40) e10
        simp (disch := first | omega | assumption) only [f_X11_travellers, ↓bM, ↓bMA, ↓jn_, ↓ob_, ↓b2_, ↓reduceIte, nn_lt, nn_le, nn_eq, nI_add, pk_mul, nn_su, gn_lt, gn_le, ng_lt, ng_le, ng_eq, gn_eq, gg_eq, n_m1, n_cl, if_true, if_false, if_pos, if_neg, lt0, ↓oe e, mp_nk, bgn_15]
      · unfold MW at hW ⊢
        rw [mp_nk (by omega) (by omega), bgn_k (by omega) (by omega) (by omega), up_nk (by omega)]
        exact hW
  have hrd : ∀ p, p ≤ n → (trd f n S p).2 ≤ n := fun p hpn => trd_le (by omega) hpn
  obtain ⟨R, hRe⟩ : ∃ R, R = lns f n T (trd f n S) cap 0 0 := ⟨_, rfl⟩
  have lin := lns_in (f := f) (T := T) hrd cap 0 (Nat.zero_le n) (fun j hj => absurd hj (Nat.not_lt_zero j))
  rw [lnP, ← hRe] at lin
  obtain ⟨lin1, lin2, lin3, lin4⟩ := lin
  have hx : ∀ q ρ L I, Xr G ρ L I → ∃ J, f_X10_readLines 5000 0 (nI 1) (nI 40) (nI P) (nI 4) (hp q ρ L I) = some (if R.1 = true then nI R.2.1 else -nI (1 + R.2.2), hp q ρ L (j_up (ap J R.2.2) 1 1 (nI 0))) ∧ trX (j_up I 1 3 (nI n)) f n T S P R.2.1 J := by
    rintro q ρ L I ⟨⟨hT, hL, hD, hP, hS, hU, hK, hR, hρ⟩, hW⟩
    have e11 := hT.1
    rw [← hTe] at e11
    have h17 : j_up I 1 3 (nI n) 0 17 = nI S := by rw [up_ne (by omega), hSe]; exact hP.2
    have rd0 := Rd_of (m := 40) hT w1 (by omega)
    rw [← hTe, ← hfe, ← hne] at rd0
    have := x_rl1 (q := q) (ρ := ρ) (L := L) (m := 40) (kd := 1) (c0 := P) (cap := cap) (rd := trd f n S) (Inv := trX (j_up I 1 3 (nI n)) f n T S P) e11 (by omega) (by omega) (by omega) (by omega) hrd (fun k J h => ⟨h.1, h.2.1⟩) (fun k J hk h hn => x_trL h17 (by omega) (by omega) h hn) (by
      rw [← hne]
      exact ⟨rd0, by rw [up_nk (by omega)]; exact e11, fun j hj => absurd hj (Nat.not_lt_zero j), fun i _ => ⟨rfl, rfl, rfl⟩, fun b _ _ _ => rfl⟩)
    rw [← hRe, hcap] at this
    exact this
  have hm : ∀ t q ρ L I ks, Ms t G ρ I → (R.1 = true → ∃ J, f_X11_travellers_L24 5000 129 (mKK ks) 5000 (nI 0) (nI 1) (hp q (rr ρ (some 135)) L (mp (bgn (j_up I 129 13 (nI 0)) T 40) 0 (-nI 1))) = ks (nI R.2.1) (hp q (rr ρ (some 135)) L (mp J T (-nI 1))) ∧ trM (bgn (j_up I 129 13 (nI 0)) T 40) (rr ρ (some 135)) f n T S R.2.1 J) ∧ (R.1 = false → ∃ J p w k, f_X11_travellers_L24 5000 129 (mKK ks) 5000 (nI 0) (nI 1) (hp q (rr ρ (some 135)) L (mp (bgn (j_up I 129 13 (nI 0)) T 40) 0 (-nI 1))) = some (-nI (1 + R.2.2), hp q (rr ρ (some 135)) L (mp J p w)) ∧ trM (bgn (j_up I 129 13 (nI 0)) T 40) (rr ρ (some 135)) f n T S k J) := by
    intro t q ρ L I ks hM
    obtain ⟨hT, hL, hD, hP, hS, hU, hK, hR⟩ := Ms_0 (x := nI 0) hM
    have rd0 := RdM_of (ρ := ρ) (m := 40) hT w1 (by omega)
    rw [← hTe, ← hfe, ← hne] at rd0
    have h1 : bgn (j_up I 129 13 (nI 0)) T 40 129 1 = nI S := by rw [bgn_k (by omega) (by omega) (by omega), hSe]; exact hP.2
    have h6 : bgn (j_up I 129 13 (nI 0)) T 40 129 6 = nI P := by rw [bgn_k (by omega) (by omega) (by omega), hPe]; exact hP.1
    have := m_lns (q := q) (ρ := rr ρ (some 135)) (L := L) (f := f) (n := n) (T := T) (cap := cap) (rd := trd f n S) (Inv := trM (bgn (j_up I 129 13 (nI 0)) T 40) (rr ρ (some 135)) f n T S) (lp := f_X11_travellers_L24 5000 129 (mKK ks)) (body := tvB) (ks := ks) (by omega) (by omega) hrd tvB_lp (fun k J h => ⟨h.1, h.2.1⟩) (fun k J hk h hn => m_trB h1 h6 (by omega) (by omega) h hn (by omega)) (fun J kk h hn => m_trC h6 hcap h hn (by omega) kk) cap 0 5000 (bgn (j_up I 129 13 (nI 0)) T 40) (by omega) (by omega) ⟨rd0, bgn_15, fun j hj => absurd hj (Nat.not_lt_zero j), fun b _ => rfl⟩ (Nat.zero_le n)
    rw [lnP, ← hRe] at this
    exact this
  cases hok : R.1 with
  | false =>
    refine ⟨-nI (1 + R.2.2), sTx G oTx, hGt, ?_, ?_⟩
    · intro q ρ L I hq hX
      obtain ⟨J, j1, j2⟩ := hx q ρ L I hX
      rw [hok] at j1
      obtain ⟨⟨hT, hL, hD, hP, hS, hU, hK, hR, hρ⟩, hW⟩ := hX
      rw [hPe] at j2
      obtain ⟨e5, e6, e7⟩ := x_trS (p := R.2.2) hS j2
      have e18 := hP.1
      rw [← hPe] at e18
      refine ⟨q, ρ, L, _, ?_, ⟨⟨⟨up_eq, fun k hk => absurd hk (Nat.not_lt_zero k)⟩, XL_k (fun b _ _ => e5 b (by omega) (by omega) (by omega) (by omega)) hL, XD_k (fun b _ _ => e5 b (by omega) (by omega) (by omega) (by omega)) hD, by rw [e5 0 (by omega) (by omega) (by omega) (by omega)]; exact hP, e7, XU_k (fun b _ _ => e5 b (by omega) (by omega) (by omega) (by omega)) hU, XK_k (fun b _ _ => e5 b (by omega) (by omega) (by omega) (by omega)) hK, XR_k (fun b _ _ => e5 b (by omega) (by omega) (by omega) (by omega)) hR, hρ⟩, ?_⟩, ⟨rfl, rfl, fun b _ _ => e5 b (by omega) (by omega) (by omega) (by omega)⟩, Nat.le_refl _, Nat.le_succ _, Nat.le_add_right _ _⟩
      · rw [if_neg (by decide)] at j1
        simp (disch := first | omega | assumption) only [f_X10_travellers, ↓bX, ↓bXA, ↓jn_, ↓ob_, ↓b2_, ↓reduceIte, nn_lt, nn_le, nn_eq, nI_add, pk_mul, nn_su, gn_lt, gn_le, ng_lt, ng_le, ng_eq, gn_eq, gg_eq, n_m1, n_cl, if_true, if_false, if_pos, if_neg, lt0, e18, ↓b2e j1]
      · unfold XW at hW ⊢
        rw [e5 3 (by omega) (by omega) (by omega) (by omega)]
        exact hW
    · rintro t q ρ L I ht ⟨hM, hW⟩
      obtain ⟨J, p, w, k, j1, j2⟩ := (hm t q ρ L I (fun (y22 : Int32) (h24 : jH) =>
          f_X11_travellers_L124 5000 129 y22 (fun (h42 : jH) =>
            (jp_I 11 29 h42 129 (nI 0)).bind (fun h43 =>
            (jg_I 11 52 h43 129).bind (fun v44 =>
            (jp_I 11 52 h43 129 (v44 + nI 1)).bind (fun h45 =>
            some (y22, h45))))) 5000 (nI 0) h24) hM).2 hok
      obtain ⟨hT, hL, hD, hP, hS, hU, hK, hR⟩ := Ms_0 (x := nI 0) hM
      have e10 := hT.1
      rw [← hTe] at e10
      have z := j2.2.2.2
      have e5 : ∀ b, b ≠ 129 → b ≠ 139 → mp J p w b = j_up I 129 13 (nI 0) b := fun b b1 b2 => by rw [mp_ne b1, z b b2, bgn_ne b1]
      have e6 : ∀ k, k ≠ 10 → (k < 15 ∨ 18 < k) → mp J p w 129 k = j_up I 129 13 (nI 0) 129 k := fun k k1 k2 => by rw [mp_nk (by omega) (by omega), z 129 (by omega), bgn_k (by omega) (by omega) (by omega)]
      have e10' : mp J p w 129 10 = nI 0 := by rw [mp_nk (by omega) (by omega), z 129 (by omega), bgn_10]
      refine ⟨rr ρ (some 135), L, mp J p w, ?_, ⟨⟨⟨e10', fun k hk => absurd hk (Nat.not_lt_zero k)⟩, ML_k (e6 _ (by omega) (by omega)) (e5 131 (by omega) (by omega)) (e5 132 (by omega) (by omega)) (e5 133 (by omega) (by omega)) hL, MD_k (e6 _ (by omega) (by omega)) (e5 134 (by omega) (by omega)) hD, by rw [e6 _ (by omega) (by omega), e6 _ (by omega) (by omega)]; exact hP, MS_k (e5 130 (by omega) (by omega)) hS, MU_k (e6 _ (by omega) (by omega)) (e5 144 (by omega) (by omega)) hU, MK_k (Nat.le_succ t) (e6 _ (by omega) (by omega)) (e5 158 (by omega) (by omega)) (e5 159 (by omega) (by omega)) (e5 160 (by omega) (by omega)) hK, MR_k (e6 _ (by omega) (by omega)) (e5 140 (by omega) (by omega)) hR⟩, ?_⟩, ⟨rfl, rfl⟩, rfl, fun b hb => by rw [e5 b (by omega) (by omega), up_ne (by omega)]⟩
      · have e := m_begin (q := q) (ρ := ρ) (L := L) (m := 40) e10
        simp (disch := first | omega | assumption) only [f_X11_travellers, ↓bM, ↓ob_, lt0, ↓oe e, mp_nk, bgn_15, nn_eq, if_neg, if_false]
        exact j1
      · unfold MW at hW ⊢
        rw [e6 _ (by omega) (by omega), up_nk (by omega)]
        exact hW
  | true =>
    obtain ⟨K, hKe⟩ : ∃ K, K = R.2.1 := ⟨_, rfl⟩
    have ⟨k1, k2⟩ := lin4 hok
    rw [← hKe] at k1 lin1 lin2
    have cont : ∀ t, P ≤ t → t < P + K → trP f n (lnP (trd f n S) (t - P)) < S ∧ trU f n (lnP (trd f n S) (t - P)) < 1000 := fun t h1 h2 => trd_t (lin1 (t - P) (by omega)).1
    refine ⟨nI K, (oTx, gLx G, gDu G, (P + K, gS G, trC (gN G) f n S P), (0, (gUn G).2), (fun _ => none), gRw G, gRu G), ⟨WT_0, w2, ⟨w3.1, fun e he => ⟨?_, (w3.2 e he).2⟩⟩, ⟨by show P + K ≤ 4; omega, w4.2⟩, fun t ht => ?_, WU_0, WK_none, w8, w9⟩, ?_, ?_⟩
    · have := (w3.2 e he).1
      show duW (gDu G) e < P + K
      omega
    · have ht' : t < P + K := ht
      show (if t < P then scP (gN G) t else trP f n (lnP (trd f n S) (t - P))) < gS G ∧ (if t < P then scU (gN G) t else trU f n (lnP (trd f n S) (t - P))) ≤ 9999
      by_cases e : t < P
      · rw [if_pos e, if_pos e]
        exact w5 t (by omega)
      · rw [if_neg e, if_neg e]
        have := cont t (by omega) ht'
        omega
    · intro q ρ L I hq hX
      obtain ⟨J, j1, j2⟩ := hx q ρ L I hX
      rw [hok, if_pos rfl, ← hKe] at j1
      rw [← hKe] at j2
      obtain ⟨⟨hT, hL, hD, hP, hS, hU, hK, hR, hρ⟩, hW⟩ := hX
      rw [← hPe] at hS
      obtain ⟨e5, e6, e7⟩ := x_trS (p := R.2.2) hS j2
      have e18 := hP.1
      rw [← hPe] at e18
      obtain ⟨Z, hZ⟩ : ∃ Z, Z = j_up (ap J R.2.2) 1 1 (nI 0) := ⟨_, rfl⟩
      have z11 : Z 1 1 = nI 0 := by rw [hZ, up_eq]
      rw [← hZ] at e5 e6 j1
      have z18 : Z 0 18 = nI P := by rw [e5 0 (by omega) (by omega) (by omega) (by omega)]; exact e18
      have e8 : ∀ b, b ≠ 0 → b ≠ 24 → b ≠ 102 → j_up (j_up (j_up (j_up Z 0 18 (nI (P + K))) 24 2 (nI 0)) 102 0 (nI 0)) 102 1 (nI 0) b = Z b := fun b b1 b2 b3 => by rw [up_ne b3, up_ne b3, up_ne b2, up_ne b1]
      have e9 : ∀ b, b ≠ 0 → b ≠ 24 → b ≠ 102 → b ≠ 1 → b ≠ 20 → b ≠ 21 → b ≠ 22 → j_up (j_up (j_up (j_up Z 0 18 (nI (P + K))) 24 2 (nI 0)) 102 0 (nI 0)) 102 1 (nI 0) b = I b := fun b b1 b2 b3 b4 b5 b6 b7 => by rw [e8 b b1 b2 b3]; exact e5 b b4 b5 b6 b7
      refine ⟨q, ρ, L, j_up (j_up (j_up (j_up Z 0 18 (nI (P + K))) 24 2 (nI 0)) 102 0 (nI 0)) 102 1 (nI 0), ?_, ⟨⟨⟨by rw [e8 1 (by omega) (by omega) (by omega)]; exact z11, fun k hk => absurd hk (Nat.not_lt_zero k)⟩, XL_k (fun b _ _ => e9 b (by omega) (by omega) (by omega) (by omega) (by omega) (by omega) (by omega)) hL, XD_k (fun b _ _ => e9 b (by omega) (by omega) (by omega) (by omega) (by omega) (by omega) (by omega)) hD, ⟨?_, ?_⟩, XS_k (fun i _ => e8 _ (by omega) (by omega) (by omega)) e6, XU_0 hU ?_ ?_, XK_none ?_ ?_, XR_k (fun b _ _ => e9 b (by omega) (by omega) (by omega) (by omega) (by omega) (by omega) (by omega)) hR, hρ⟩, ?_⟩, ⟨rfl, rfl, fun b _ _ => e9 b (by omega) (by omega) (by omega) (by omega) (by omega) (by omega) (by omega)⟩, Nat.le_refl _, Nat.le_succ _, Nat.le_add_right _ _⟩
      · simp (disch := first | omega | assumption) only [f_X10_travellers, ↓bX, ↓bXA, ↓jn_, ↓ob_, ↓b2_, ↓reduceIte, nn_lt, nn_le, nn_eq, nI_add, pk_mul, nn_su, gn_lt, gn_le, ng_lt, ng_le, ng_eq, gn_eq, gg_eq, n_m1, n_cl, if_true, if_false, if_pos, if_neg, lt0, e18, ↓b2e j1, z18, ↓oe (x_forget (q := q) (ρ := ρ) (L := L) (I := j_up Z 0 18 (nI (P + K))))]
      · rw [up_ne (by omega), up_ne (by omega), up_ne (by omega), up_eq]
      · rw [up_ne (by omega), up_ne (by omega), up_ne (by omega), up_nk (by omega), e5 0 (by omega) (by omega) (by omega) (by omega)]
        exact hP.2
      · rw [up_ne (by omega), up_ne (by omega), up_nk (by omega), up_ne (by omega), e5 24 (by omega) (by omega) (by omega) (by omega)]
      · rw [up_ne (by omega), up_ne (by omega), up_eq]
      · rw [up_nk (by omega), up_eq]
      · rw [up_eq]
      · unfold XW at hW ⊢
        rw [e9 3 (by omega) (by omega) (by omega) (by omega) (by omega) (by omega) (by omega)]
        exact hW
    · rintro t q ρ L I ht ⟨hM, hW⟩
      obtain ⟨J, j1, j2⟩ := (hm t q ρ L I (fun (y22 : Int32) (h24 : jH) =>
          f_X11_travellers_L124 5000 129 y22 (fun (h42 : jH) =>
            (jp_I 11 29 h42 129 (nI 0)).bind (fun h43 =>
            (jg_I 11 52 h43 129).bind (fun v44 =>
            (jp_I 11 52 h43 129 (v44 + nI 1)).bind (fun h45 =>
            some (y22, h45))))) 5000 (nI 0) h24) hM).1 hok
      rw [← hKe] at j1 j2
      obtain ⟨hT, hL, hD, hP, hS, hU, hK, hR⟩ := Ms_0 (x := nI 0) hM
      have e10 := hT.1
      rw [← hTe] at e10
      have z := j2.2.2.2
      have e5 : ∀ b, b ≠ 129 → b ≠ 139 → mp J T (-nI 1) b = j_up I 129 13 (nI 0) b := fun b b1 b2 => by rw [mp_ne b1, z b b2, bgn_ne b1]
      have e6 : ∀ k, k ≠ 10 → (k < 15 ∨ 18 < k) → mp J T (-nI 1) 129 k = j_up I 129 13 (nI 0) 129 k := fun k k1 k2 => by rw [mp_nk (by omega) (by omega), z 129 (by omega), bgn_k (by omega) (by omega) (by omega)]
      have e10' : mp J T (-nI 1) 129 10 = nI 0 := by rw [mp_nk (by omega) (by omega), z 129 (by omega), bgn_10]
      obtain ⟨Z, z1, z2, z3, z4, z5, z6⟩ := m_trZ (q := q) (ρ := rr ρ (some 135)) (L := L) (I := mp J T (-nI 1)) (f := fun j => trP f n (lnP (trd f n S) j)) (g := fun j => trU f n (lnP (trd f n S) j)) (P := P) (K := K) (by omega) (by rw [e6 _ (by omega) (by omega), hPe]; exact hP.1) (fun j hj => by rw [mp_ne (by omega)]; exact j2.2.2.1 j hj) (kk := fun (h42 : jH) =>
            (jp_I 11 29 h42 129 (nI 0)).bind (fun h43 =>
            (jg_I 11 52 h43 129).bind (fun v44 =>
            (jp_I 11 52 h43 129 (v44 + nI 1)).bind (fun h45 =>
            some (nI K, h45)))))
      rw [z1] at j1
      have f5 : ∀ b, b ≠ 129 → b ≠ 130 → b ≠ 139 → j_up (j_up Z 129 29 (nI 0)) 129 52 (Z 129 52 + nI 1) b = j_up I 129 13 (nI 0) b := fun b b1 b2 b3 => by rw [up_ne b1, up_ne b1, z6 b b1 b2, e5 b b1 b3]
      have f6 : ∀ k, k ≠ 10 → (k < 15 ∨ 18 < k) → k ≠ 6 → k ≠ 29 → k ≠ 52 → j_up (j_up Z 129 29 (nI 0)) 129 52 (Z 129 52 + nI 1) 129 k = j_up I 129 13 (nI 0) 129 k := fun k k1 k2 k3 k4 k5 => by rw [up_nk k5, up_nk k4, z5 k k3, e6 k k1 k2]
      have f130 : j_up (j_up Z 129 29 (nI 0)) 129 52 (Z 129 52 + nI 1) 130 = Z 130 := by rw [up_ne (by omega), up_ne (by omega)]
      have old : ∀ c, (∀ t, t < K → c ≠ P + t ∧ c ≠ 4 + (P + t) ∧ c ≠ 8 + (P + t)) → Z 130 c = j_up I 129 13 (nI 0) 130 c := fun c hc => by rw [z4 c hc, e5 130 (by omega) (by omega)]
      refine ⟨rr ρ (some 135), L, j_up (j_up Z 129 29 (nI 0)) 129 52 (Z 129 52 + nI 1), ?_, ⟨⟨⟨?_, fun k hk => absurd hk (Nat.not_lt_zero k)⟩, ML_k (f6 _ (by omega) (by omega) (by omega) (by omega) (by omega)) (f5 131 (by omega) (by omega) (by omega)) (f5 132 (by omega) (by omega) (by omega)) (f5 133 (by omega) (by omega) (by omega)) hL, MD_k (f6 _ (by omega) (by omega) (by omega) (by omega) (by omega)) (f5 134 (by omega) (by omega) (by omega)) hD, ⟨?_, ?_⟩, ?_, MU_0 ?_, MK_f hK ?_ (f5 159 (by omega) (by omega) (by omega)) (f5 160 (by omega) (by omega) (by omega)), MR_k (f6 _ (by omega) (by omega) (by omega) (by omega) (by omega)) (f5 140 (by omega) (by omega) (by omega)) hR⟩, ?_⟩, ⟨rfl, rfl⟩, rfl, fun b hb => by rw [f5 b (by omega) (by omega) (by omega), up_ne (by omega)]⟩
      · have e := m_begin (q := q) (ρ := ρ) (L := L) (m := 40) e10
        simp (disch := first | omega | assumption) only [f_X11_travellers, ↓bM, ↓ob_, lt0, ↓oe e, mp_nk, bgn_15, nn_eq, if_neg, if_false]
        refine j1.trans ?_
        simp (disch := first | omega | assumption) only [↓bM, ↓ob_, up_nk]
      · rw [up_nk (by omega), up_nk (by omega), z5 10 (by omega)]
        exact e10'
      · rw [up_nk (by omega), up_nk (by omega)]
        exact z2
      · rw [f6 _ (by omega) (by omega) (by omega) (by omega) (by omega)]
        exact hP.2
      · rw [← hPe] at hS
        obtain ⟨⟨s1, s2⟩, s3, s4⟩ := hS
        unfold MS
        rw [f130]
        refine ⟨⟨?_, ?_⟩, fun t ht => ?_, fun k hk => ?_⟩
        · rw [old _ (fun t ht => by omega)]
          exact s1
        · rw [old _ (fun t ht => by omega)]
          exact s2
        · have ht' : t < P + K := ht
          show _ = nI (if t < P then scP (gN G) t else trP f n (lnP (trd f n S) (t - P))) ∧ _ = nI (if t < P then scU (gN G) t else trU f n (lnP (trd f n S) (t - P))) ∧ _ = (if t < P then scS (gN G) t else nI 0)
          by_cases e : t < P
          · rw [if_pos e, if_pos e, if_pos e, old _ (fun t ht => by omega), old _ (fun t ht => by omega), old _ (fun t ht => by omega)]
            exact s3 t e
          · rw [if_neg e, if_neg e, if_neg e]
            have := z3 (t - P) (by omega)
            rw [show P + (t - P) = t by omega] at this
            rw [Nat.zero_add, Nat.zero_add, Nat.zero_add]
            exact this
        · rw [old _ (fun t ht => by omega)]
          exact s4 k hk
      · rw [up_nk (by omega), up_eq]
      · rw [up_eq, z5 52 (by omega), e6 _ (by omega) (by omega)]
      · unfold MW at hW ⊢
        rw [f6 _ (by omega) (by omega) (by omega) (by omega) (by omega), up_nk (by omega)]
        exact hW
