/-! ERRANDS: the call -/
def erG (g : gD) (f : Nat → Nat) (n P S K : Nat) : gD := (duE g + K, (fun e => if e < duE g then duW g e else erW f n (lnP (erd f n P S) (e - duE g))), (fun e => if e < duE g then duM g e else erM f n (lnP (erd f n P S) (e - duE g))), (fun e => if e < duE g then duP g e else erP f n (lnP (erd f n P S) (e - duE g))), (fun e => if e < duE g then duV g e else erV f n (lnP (erd f n P S) (e - duE g))))
theorem x_erS {g : gD} {I J : pI} {f : Nat → Nat} {n T P S k p : Nat} {x : Int32} (hD : XD g I) (h : erX (j_up I 1 3 x) f n T P S (duE g) k J) : (∀ b, b ≠ 1 → (b < 14 ∨ 17 < b) → j_up (ap J p) 1 1 (nI 0) b = I b) ∧ (∀ e, e < duE g + k → j_up (ap J p) 1 1 (nI 0) 14 e = nI (duW (erG g f n P S k) e) ∧ j_up (ap J p) 1 1 (nI 0) 15 e = nI (duM (erG g f n P S k) e) ∧ j_up (ap J p) 1 1 (nI 0) 16 e = nI (duP (erG g f n P S k) e) ∧ j_up (ap J p) 1 1 (nI 0) 17 e = nI (duV (erG g f n P S k) e)) ∧ XD g (j_up (ap J p) 1 1 (nI 0)) := by
  obtain ⟨h1, h2, h3, h4, h5⟩ := h
  obtain ⟨s1, s2⟩ := hD
  have z : ∀ b, b ≠ 1 → j_up (ap J p) 1 1 (nI 0) b = J b := fun b hb => by rw [up_ne hb, ap_ne hb]
  have e5 : ∀ b, b ≠ 1 → (b < 14 ∨ 17 < b) → j_up (ap J p) 1 1 (nI 0) b = I b := fun b b1 b2 => by rw [z b b1, h5 b b2, up_ne b1]
  have old : ∀ e, e < duE g → j_up (ap J p) 1 1 (nI 0) 14 e = nI (duW g e) ∧ j_up (ap J p) 1 1 (nI 0) 15 e = nI (duM g e) ∧ j_up (ap J p) 1 1 (nI 0) 16 e = nI (duP g e) ∧ j_up (ap J p) 1 1 (nI 0) 17 e = nI (duV g e) := fun e he => by
    rw [z 14 (by omega), z 15 (by omega), z 16 (by omega), z 17 (by omega)]
    obtain ⟨a1, a2, a3, a4⟩ := h4 e he
    rw [a1, a2, a3, a4, up_ne (by omega), up_ne (by omega), up_ne (by omega), up_ne (by omega)]
    exact s2 e he
  refine ⟨e5, fun e he => ?_, ⟨by rw [e5 13 (by omega) (by omega)]; exact s1, old⟩⟩
  show _ = nI (if e < duE g then duW g e else erW f n (lnP (erd f n P S) (e - duE g))) ∧ _ = nI (if e < duE g then duM g e else erM f n (lnP (erd f n P S) (e - duE g))) ∧ _ = nI (if e < duE g then duP g e else erP f n (lnP (erd f n P S) (e - duE g))) ∧ _ = nI (if e < duE g then duV g e else erV f n (lnP (erd f n P S) (e - duE g)))
  by_cases h : e < duE g
  · rw [if_pos h, if_pos h, if_pos h, if_pos h]
    exact old e h
  · rw [if_neg h, if_neg h, if_neg h, if_neg h]
    have := h3 (e - duE g) (by omega)
    rw [show duE g + (e - duE g) = e by omega] at this
    rw [z 14 (by omega), z 15 (by omega), z 16 (by omega), z 17 (by omega)]
    exact this
theorem k_errands : ∀ G, Wr G → ∃ v G', Wr G' ∧ XH (f_X10_errands 5000 0) G v G' ∧ MH (f_X11_errands 5000 129) G v G' := by
  intro G hG
  have hG' := hG
  obtain ⟨w1, w2, w3, w4, w5, w6, w7, w8, w9⟩ := hG
  have h80 := w1.1
  have hP4 := w4.1
  have hGt : Wr (sTx G oTx) := ⟨WT_0, w2, w3, w4, w5, w6, w7, w8, w9⟩
  obtain ⟨T, hTe⟩ : ∃ T, T = (gTx G).1 := ⟨_, rfl⟩
  obtain ⟨f, hfe⟩ : ∃ f, f = (gTx G).2 := ⟨_, rfl⟩
  obtain ⟨P, hPe⟩ : ∃ P, P = gP G := ⟨_, rfl⟩
  obtain ⟨S, hSe⟩ : ∃ S, S = gS G := ⟨_, rfl⟩
  obtain ⟨n, hne⟩ : ∃ n, n = min T 76 := ⟨_, rfl⟩
  obtain ⟨E, hEe⟩ : ∃ E, E = duE (gDu G) := ⟨_, rfl⟩
  have hE8 := w3.1
  obtain ⟨cap, hcap⟩ : ∃ cap, E + cap = 8 := ⟨8 - E, by omega⟩
  by_cases hT0 : T = 0
  · refine ⟨nI 0, sRw (sTx G oTx) (gRw G), hGt, XH_x _ ?_, MH_x _ ?_⟩
    · rintro q ρ L I ⟨⟨hT, hL, hD, hP, hS, hU, hK, hR, hρ⟩, hW⟩
      have e11 := hT.1
      have e18 := hD.1
      rw [← hTe, hT0] at e11
      rw [← hEe] at e18
      refine ⟨ρ, L, j_up (ap (j_up I 1 3 (nI (min 0 76))) 0) 1 1 (nI 0), ?_, x_op, ⟨rfl, rfl, hρ⟩, rfl, ?_⟩
      · have e := x_rl0 (q := q) (ρ := ρ) (L := L) (kd := 2) (m := 76) (c0 := E) (C := 8) e11 (by omega)
        simp (disch := first | omega | assumption) only [f_X10_errands, ↓bX, ↓bXA, ↓jn_, ↓ob_, ↓b2_, ↓reduceIte, nn_lt, nn_le, nn_eq, nI_add, pk_mul, nn_su, gn_lt, gn_le, ng_lt, ng_le, ng_eq, gn_eq, gg_eq, n_m1, n_cl, if_true, if_false, if_pos, if_neg, lt0, e18, ↓b2e e]
      · unfold XW at hW ⊢
        rw [up_ne (by omega), ap_ne (by omega), up_ne (by omega)]
        exact hW
    · rintro t q ρ L I ⟨hM, hW⟩
      obtain ⟨hT, hL, hD, hP, hS, hU, hK, hR⟩ := Ms_0 (x := nI 0) hM
      have e10 := hT.1
      rw [← hTe, hT0] at e10
      refine ⟨rr ρ (some 135), L, _, ?_, Fr_bg (T := 0) (m := 76) (p := 0) (w := -nI 1) (x := nI 0), ⟨rfl, rfl, rfl⟩, rfl, ?_⟩
      · have e := m_begin (q := q) (ρ := ρ) (L := L) (m := 76) e10
        simp (disch := first | omega | assumption) only [f_X11_errands, ↓bM, ↓bMA, ↓jn_, ↓ob_, ↓b2_, ↓reduceIte, nn_lt, nn_le, nn_eq, nI_add, pk_mul, nn_su, gn_lt, gn_le, ng_lt, ng_le, ng_eq, gn_eq, gg_eq, n_m1, n_cl, if_true, if_false, if_pos, if_neg, lt0, ↓oe e, mp_nk, bgn_15]
      · unfold MW at hW ⊢
        rw [mp_nk (by omega) (by omega), bgn_k (by omega) (by omega) (by omega), up_nk (by omega)]
        exact hW
  have hrd : ∀ p, p ≤ n → (erd f n P S p).2 ≤ n := fun p hpn => erd_le (by omega) (by omega) hpn
  obtain ⟨R, hRe⟩ : ∃ R, R = lns f n T (erd f n P S) cap 0 0 := ⟨_, rfl⟩
  have lin := lns_in (f := f) (T := T) hrd cap 0 (Nat.zero_le n) (fun j hj => absurd hj (Nat.not_lt_zero j))
  rw [lnP, ← hRe] at lin
  obtain ⟨lin1, lin2, lin3, lin4⟩ := lin
  have hx : ∀ q ρ L I, Xr G ρ L I → ∃ J, f_X10_readLines 5000 0 (nI 2) (nI 76) (nI E) (nI 8) (hp q ρ L I) = some (if R.1 = true then nI R.2.1 else -nI (1 + R.2.2), hp q ρ L (j_up (ap J R.2.2) 1 1 (nI 0))) ∧ erX (j_up I 1 3 (nI n)) f n T P S E R.2.1 J := by
    rintro q ρ L I ⟨⟨hT, hL, hD, hP, hS, hU, hK, hR, hρ⟩, hW⟩
    have e11 := hT.1
    rw [← hTe] at e11
    have h17 : j_up I 1 3 (nI n) 0 17 = nI S := by rw [up_ne (by omega), hSe]; exact hP.2
    have h18 : j_up I 1 3 (nI n) 0 18 = nI P := by rw [up_ne (by omega), hPe]; exact hP.1
    have rd0 := Rd_of (m := 76) hT w1 (by omega)
    rw [← hTe, ← hfe, ← hne] at rd0
    have := x_rl1 (q := q) (ρ := ρ) (L := L) (m := 76) (kd := 2) (c0 := E) (cap := cap) (rd := erd f n P S) (Inv := erX (j_up I 1 3 (nI n)) f n T P S E) e11 (by omega) (by omega) (by omega) (by omega) hrd (fun k J h => ⟨h.1, h.2.1⟩) (fun k J hk h hn => x_erL h17 h18 (by omega) (by omega) (by omega) h hn) (by
      rw [← hne]
      exact ⟨rd0, by rw [up_nk (by omega)]; exact e11, fun j hj => absurd hj (Nat.not_lt_zero j), fun i _ => ⟨rfl, rfl, rfl, rfl⟩, fun b _ => rfl⟩)
    rw [← hRe, hcap] at this
    exact this
  have hm : ∀ t q ρ L I ks, Ms t G ρ I → (R.1 = true → ∃ J, f_X11_errands_L24 5000 129 (mKK ks) 5000 (nI 0) (nI 1) (hp q (rr ρ (some 135)) L (mp (bgn (j_up I 129 13 (nI 0)) T 76) 0 (-nI 1))) = ks (nI R.2.1) (hp q (rr ρ (some 135)) L (mp J T (-nI 1))) ∧ erN (bgn (j_up I 129 13 (nI 0)) T 76) (rr ρ (some 135)) f n T P S R.2.1 J) ∧ (R.1 = false → ∃ J p w k, f_X11_errands_L24 5000 129 (mKK ks) 5000 (nI 0) (nI 1) (hp q (rr ρ (some 135)) L (mp (bgn (j_up I 129 13 (nI 0)) T 76) 0 (-nI 1))) = some (-nI (1 + R.2.2), hp q (rr ρ (some 135)) L (mp J p w)) ∧ erN (bgn (j_up I 129 13 (nI 0)) T 76) (rr ρ (some 135)) f n T P S k J) := by
    intro t q ρ L I ks hM
    obtain ⟨hT, hL, hD, hP, hS, hU, hK, hR⟩ := Ms_0 (x := nI 0) hM
    have rd0 := RdM_of (ρ := ρ) (m := 76) hT w1 (by omega)
    rw [← hTe, ← hfe, ← hne] at rd0
    have h1 : bgn (j_up I 129 13 (nI 0)) T 76 129 1 = nI S := by rw [bgn_k (by omega) (by omega) (by omega), hSe]; exact hP.2
    have h6 : bgn (j_up I 129 13 (nI 0)) T 76 129 6 = nI P := by rw [bgn_k (by omega) (by omega) (by omega), hPe]; exact hP.1
    have h7 : bgn (j_up I 129 13 (nI 0)) T 76 129 7 = nI E := by rw [bgn_k (by omega) (by omega) (by omega), hEe]; exact hD.1
    have := m_lns (q := q) (ρ := rr ρ (some 135)) (L := L) (f := f) (n := n) (T := T) (cap := cap) (rd := erd f n P S) (Inv := erN (bgn (j_up I 129 13 (nI 0)) T 76) (rr ρ (some 135)) f n T P S) (lp := f_X11_errands_L24 5000 129 (mKK ks)) (body := evB) (ks := ks) (by omega) (by omega) hrd evB_lp (fun k J h => ⟨h.1, h.2.1⟩) (fun k J hk h hn => m_erB h1 h6 h7 (by omega) (by omega) (by omega) h hn (by omega)) (fun J kk h hn => m_erC h7 hcap h hn (by omega) kk) cap 0 5000 (bgn (j_up I 129 13 (nI 0)) T 76) (by omega) (by omega) ⟨rd0, bgn_15, fun j hj => absurd hj (Nat.not_lt_zero j), fun b _ => rfl⟩ (Nat.zero_le n)
    rw [lnP, ← hRe] at this
    exact this
  cases hok : R.1 with
  | false =>
    refine ⟨-nI (1 + R.2.2), sTx G oTx, hGt, ?_, ?_⟩
    · intro q ρ L I hq hX
      obtain ⟨J, j1, j2⟩ := hx q ρ L I hX
      rw [hok] at j1
      obtain ⟨⟨hT, hL, hD, hP, hS, hU, hK, hR, hρ⟩, hW⟩ := hX
      rw [hEe] at j2
      obtain ⟨e5, e6, e7⟩ := x_erS (p := R.2.2) hD j2
      have e18 := hD.1
      rw [← hEe] at e18
      refine ⟨q, ρ, L, _, ?_, ⟨⟨⟨up_eq, fun k hk => absurd hk (Nat.not_lt_zero k)⟩, XL_k (fun b _ _ => e5 b (by omega) (by omega)) hL, e7, by rw [e5 0 (by omega) (by omega)]; exact hP, XS_k (fun i _ => e5 _ (by omega) (by omega)) hS, XU_k (fun b _ _ => e5 b (by omega) (by omega)) hU, XK_k (fun b _ _ => e5 b (by omega) (by omega)) hK, XR_k (fun b _ _ => e5 b (by omega) (by omega)) hR, hρ⟩, ?_⟩, ⟨rfl, rfl, fun b _ _ => e5 b (by omega) (by omega)⟩, Nat.le_refl _, Nat.le_succ _, Nat.le_add_right _ _⟩
      · rw [if_neg (by decide)] at j1
        simp (disch := first | omega | assumption) only [f_X10_errands, ↓bX, ↓bXA, ↓jn_, ↓ob_, ↓b2_, ↓reduceIte, nn_lt, nn_le, nn_eq, nI_add, pk_mul, nn_su, gn_lt, gn_le, ng_lt, ng_le, ng_eq, gn_eq, gg_eq, n_m1, n_cl, if_true, if_false, if_pos, if_neg, lt0, e18, ↓b2e j1]
      · unfold XW at hW ⊢
        rw [e5 3 (by omega) (by omega)]
        exact hW
    · rintro t q ρ L I ht ⟨hM, hW⟩
      obtain ⟨J, p, w, k, j1, j2⟩ := (hm t q ρ L I (fun (y22 : Int32) (h24 : jH) =>
          f_X11_errands_L163 5000 129 y22 (fun (h41 : jH) =>
            (jg_I 11 7 h41 129).bind (fun v42 =>
            (jp_I 11 7 h41 129 (v42 + y22)).bind (fun h42 =>
            (jp_I 11 29 h42 129 (nI 0)).bind (fun h43 =>
            (jg_I 11 52 h43 129).bind (fun v44 =>
            (jp_I 11 52 h43 129 (v44 + nI 1)).bind (fun h45 =>
            some (y22, h45))))))) 5000 (nI 0) h24) hM).2 hok
      obtain ⟨hT, hL, hD, hP, hS, hU, hK, hR⟩ := Ms_0 (x := nI 0) hM
      have e10 := hT.1
      rw [← hTe] at e10
      have z := j2.2.2.2
      have e5 : ∀ b, b ≠ 129 → b ≠ 139 → mp J p w b = j_up I 129 13 (nI 0) b := fun b b1 b2 => by rw [mp_ne b1, z b b2, bgn_ne b1]
      have e6 : ∀ k, k ≠ 10 → (k < 15 ∨ 18 < k) → mp J p w 129 k = j_up I 129 13 (nI 0) 129 k := fun k k1 k2 => by rw [mp_nk (by omega) (by omega), z 129 (by omega), bgn_k (by omega) (by omega) (by omega)]
      have e10' : mp J p w 129 10 = nI 0 := by rw [mp_nk (by omega) (by omega), z 129 (by omega), bgn_10]
      refine ⟨rr ρ (some 135), L, mp J p w, ?_, ⟨⟨⟨e10', fun k hk => absurd hk (Nat.not_lt_zero k)⟩, ML_k (e6 _ (by omega) (by omega)) (e5 131 (by omega) (by omega)) (e5 132 (by omega) (by omega)) (e5 133 (by omega) (by omega)) hL, MD_k (e6 _ (by omega) (by omega)) (e5 134 (by omega) (by omega)) hD, by rw [e6 _ (by omega) (by omega), e6 _ (by omega) (by omega)]; exact hP, MS_k (e5 130 (by omega) (by omega)) hS, MU_k (e6 _ (by omega) (by omega)) (e5 144 (by omega) (by omega)) hU, MK_k (Nat.le_succ t) (e6 _ (by omega) (by omega)) (e5 158 (by omega) (by omega)) (e5 159 (by omega) (by omega)) (e5 160 (by omega) (by omega)) hK, MR_k (e6 _ (by omega) (by omega)) (e5 140 (by omega) (by omega)) hR⟩, ?_⟩, ⟨rfl, rfl⟩, rfl, fun b hb => by rw [e5 b (by omega) (by omega), up_ne (by omega)]⟩
      · have e := m_begin (q := q) (ρ := ρ) (L := L) (m := 76) e10
        simp (disch := first | omega | assumption) only [f_X11_errands, ↓bM, ↓ob_, lt0, ↓oe e, mp_nk, bgn_15, nn_eq, if_neg, if_false]
        exact j1
      · unfold MW at hW ⊢
        rw [e6 _ (by omega) (by omega), up_nk (by omega)]
        exact hW
  | true =>
    obtain ⟨K, hKe⟩ : ∃ K, K = R.2.1 := ⟨_, rfl⟩
    have ⟨k1, k2⟩ := lin4 hok
    rw [← hKe] at k1 lin1 lin2
    have cont : ∀ e, E ≤ e → e < E + K → erW f n (lnP (erd f n P S) (e - E)) < P ∧ erM f n (lnP (erd f n P S) (e - E)) ≤ 9 ∧ erP f n (lnP (erd f n P S) (e - E)) < S ∧ erV f n (lnP (erd f n P S) (e - E)) ≤ 99 := fun e h1 h2 => erd_t (by omega) (by omega) (lin1 (e - E) (by omega)).2 (lin1 (e - E) (by omega)).1
    refine ⟨nI K, (oTx, gLx G, erG (gDu G) f n P S K, (gP G, gS G, gN G), (0, (gUn G).2), (fun _ => none), gRw G, gRu G), ⟨WT_0, w2, ⟨by show duE (gDu G) + K ≤ 8; omega, fun e he => ?_⟩, w4, w5, WU_0, WK_none, w8, w9⟩, ?_, ?_⟩
    · have he' : e < duE (gDu G) + K := he
      show (if e < duE (gDu G) then duW (gDu G) e else erW f n (lnP (erd f n P S) (e - duE (gDu G)))) < gP G ∧ (if e < duE (gDu G) then duM (gDu G) e else erM f n (lnP (erd f n P S) (e - duE (gDu G)))) ≤ 9 ∧ (if e < duE (gDu G) then duP (gDu G) e else erP f n (lnP (erd f n P S) (e - duE (gDu G)))) < gS G ∧ (if e < duE (gDu G) then duV (gDu G) e else erV f n (lnP (erd f n P S) (e - duE (gDu G)))) ≤ 99
      rw [← hEe] at he' ⊢
      by_cases h : e < E
      · rw [if_pos h, if_pos h, if_pos h, if_pos h]
        exact w3.2 e (by omega)
      · rw [if_neg h, if_neg h, if_neg h, if_neg h, ← hPe, ← hSe]
        exact cont e (by omega) he'
    · intro q ρ L I hq hX
      obtain ⟨J, j1, j2⟩ := hx q ρ L I hX
      rw [hok, if_pos rfl, ← hKe] at j1
      rw [← hKe, hEe] at j2
      obtain ⟨⟨hT, hL, hD, hP, hS, hU, hK, hR, hρ⟩, hW⟩ := hX
      obtain ⟨e5, e6, e7⟩ := x_erS (p := R.2.2) hD j2
      have e18 := hD.1
      rw [← hEe] at e18
      obtain ⟨Z, hZ⟩ : ∃ Z, Z = j_up (ap J R.2.2) 1 1 (nI 0) := ⟨_, rfl⟩
      have z11 : Z 1 1 = nI 0 := by rw [hZ, up_eq]
      rw [← hZ] at e5 e6 j1
      have z18 : Z 13 0 = nI E := by rw [e5 13 (by omega) (by omega)]; exact e18
      have e8 : ∀ b, b ≠ 13 → b ≠ 24 → b ≠ 102 → j_up (j_up (j_up (j_up Z 13 0 (nI (E + K))) 24 2 (nI 0)) 102 0 (nI 0)) 102 1 (nI 0) b = Z b := fun b b1 b2 b3 => by rw [up_ne b3, up_ne b3, up_ne b2, up_ne b1]
      have e9 : ∀ b, b ≠ 24 → b ≠ 102 → b ≠ 1 → (b < 13 ∨ 17 < b) → j_up (j_up (j_up (j_up Z 13 0 (nI (E + K))) 24 2 (nI 0)) 102 0 (nI 0)) 102 1 (nI 0) b = I b := fun b b2 b3 b4 b5 => by rw [e8 b (by omega) b2 b3]; exact e5 b b4 (by omega)
      refine ⟨q, ρ, L, j_up (j_up (j_up (j_up Z 13 0 (nI (E + K))) 24 2 (nI 0)) 102 0 (nI 0)) 102 1 (nI 0), ?_, ⟨⟨⟨by rw [e8 1 (by omega) (by omega) (by omega)]; exact z11, fun k hk => absurd hk (Nat.not_lt_zero k)⟩, XL_k (fun b _ _ => e9 b (by omega) (by omega) (by omega) (by omega)) hL, ⟨?_, fun e he => ?_⟩, by rw [e9 0 (by omega) (by omega) (by omega) (by omega)]; exact hP, XS_k (fun i _ => e9 _ (by omega) (by omega) (by omega) (by omega)) hS, XU_0 hU ?_ ?_, XK_none ?_ ?_, XR_k (fun b _ _ => e9 b (by omega) (by omega) (by omega) (by omega)) hR, hρ⟩, ?_⟩, ⟨rfl, rfl, fun b _ _ => e9 b (by omega) (by omega) (by omega) (by omega)⟩, Nat.le_refl _, Nat.le_succ _, Nat.le_add_right _ _⟩
      · simp (disch := first | omega | assumption) only [f_X10_errands, ↓bX, ↓bXA, ↓jn_, ↓ob_, ↓b2_, ↓reduceIte, nn_lt, nn_le, nn_eq, nI_add, pk_mul, nn_su, gn_lt, gn_le, ng_lt, ng_le, ng_eq, gn_eq, gg_eq, n_m1, n_cl, if_true, if_false, if_pos, if_neg, lt0, e18, ↓b2e j1, z18, ↓oe (x_forget (q := q) (ρ := ρ) (L := L) (I := j_up Z 13 0 (nI (E + K))))]
      · rw [up_ne (by omega), up_ne (by omega), up_ne (by omega), up_eq, hEe]
        rfl
      · rw [e8 14 (by omega) (by omega) (by omega), e8 15 (by omega) (by omega) (by omega), e8 16 (by omega) (by omega) (by omega), e8 17 (by omega) (by omega) (by omega)]
        exact e6 e he
      · rw [up_ne (by omega), up_ne (by omega), up_nk (by omega), up_ne (by omega), e5 24 (by omega) (by omega)]
      · rw [up_ne (by omega), up_ne (by omega), up_eq]
      · rw [up_nk (by omega), up_eq]
      · rw [up_eq]
      · unfold XW at hW ⊢
        rw [e9 3 (by omega) (by omega) (by omega) (by omega)]
        exact hW
    · rintro t q ρ L I ht ⟨hM, hW⟩
      obtain ⟨J, j1, j2⟩ := (hm t q ρ L I (fun (y22 : Int32) (h24 : jH) =>
          f_X11_errands_L163 5000 129 y22 (fun (h41 : jH) =>
            (jg_I 11 7 h41 129).bind (fun v42 =>
            (jp_I 11 7 h41 129 (v42 + y22)).bind (fun h42 =>
            (jp_I 11 29 h42 129 (nI 0)).bind (fun h43 =>
            (jg_I 11 52 h43 129).bind (fun v44 =>
            (jp_I 11 52 h43 129 (v44 + nI 1)).bind (fun h45 =>
            some (y22, h45))))))) 5000 (nI 0) h24) hM).1 hok
      rw [← hKe] at j1 j2
      obtain ⟨hT, hL, hD, hP, hS, hU, hK, hR⟩ := Ms_0 (x := nI 0) hM
      have e10 := hT.1
      rw [← hTe] at e10
      have z := j2.2.2.2
      have e5 : ∀ b, b ≠ 129 → b ≠ 139 → mp J T (-nI 1) b = j_up I 129 13 (nI 0) b := fun b b1 b2 => by rw [mp_ne b1, z b b2, bgn_ne b1]
      have e6 : ∀ k, k ≠ 10 → (k < 15 ∨ 18 < k) → mp J T (-nI 1) 129 k = j_up I 129 13 (nI 0) 129 k := fun k k1 k2 => by rw [mp_nk (by omega) (by omega), z 129 (by omega), bgn_k (by omega) (by omega) (by omega)]
      have e10' : mp J T (-nI 1) 129 10 = nI 0 := by rw [mp_nk (by omega) (by omega), z 129 (by omega), bgn_10]
      obtain ⟨Z, z1, z2, z3, z6⟩ := m_erZ (q := q) (ρ := rr ρ (some 135)) (L := L) (I := mp J T (-nI 1)) (E := E) (K := K) (by omega) (by rw [e6 _ (by omega) (by omega), hEe]; exact hD.1) (kk := fun (h41 : jH) =>
            (jg_I 11 7 h41 129).bind (fun v42 =>
            (jp_I 11 7 h41 129 (v42 + nI K)).bind (fun h42 =>
            (jp_I 11 29 h42 129 (nI 0)).bind (fun h43 =>
            (jg_I 11 52 h43 129).bind (fun v44 =>
            (jp_I 11 52 h43 129 (v44 + nI 1)).bind (fun h45 =>
            some (nI K, h45)))))))
      rw [z1] at j1
      have zz7 : Z 129 7 = nI E := by rw [z6 129 (by omega), e6 _ (by omega) (by omega), hEe]; exact hD.1
      have f5 : ∀ b, b ≠ 129 → b ≠ 134 → b ≠ 139 → j_up (j_up (j_up Z 129 7 (nI (E + K))) 129 29 (nI 0)) 129 52 (Z 129 52 + nI 1) b = j_up I 129 13 (nI 0) b := fun b b1 b2 b3 => by rw [up_ne b1, up_ne b1, up_ne b1, z6 b b2, e5 b b1 b3]
      have f6 : ∀ k, k ≠ 10 → (k < 15 ∨ 18 < k) → k ≠ 7 → k ≠ 29 → k ≠ 52 → j_up (j_up (j_up Z 129 7 (nI (E + K))) 129 29 (nI 0)) 129 52 (Z 129 52 + nI 1) 129 k = j_up I 129 13 (nI 0) 129 k := fun k k1 k2 k3 k4 k5 => by rw [up_nk k5, up_nk k4, up_nk k3, z6 129 (by omega), e6 k k1 k2]
      have f134 : j_up (j_up (j_up Z 129 7 (nI (E + K))) 129 29 (nI 0)) 129 52 (Z 129 52 + nI 1) 134 = Z 134 := by rw [up_ne (by omega), up_ne (by omega), up_ne (by omega)]
      refine ⟨rr ρ (some 135), L, j_up (j_up (j_up Z 129 7 (nI (E + K))) 129 29 (nI 0)) 129 52 (Z 129 52 + nI 1), ?_, ⟨⟨⟨?_, fun k hk => absurd hk (Nat.not_lt_zero k)⟩, ML_k (f6 _ (by omega) (by omega) (by omega) (by omega) (by omega)) (f5 131 (by omega) (by omega) (by omega)) (f5 132 (by omega) (by omega) (by omega)) (f5 133 (by omega) (by omega) (by omega)) hL, ⟨?_, fun e he => ?_⟩, by rw [f6 _ (by omega) (by omega) (by omega) (by omega) (by omega), f6 _ (by omega) (by omega) (by omega) (by omega) (by omega)]; exact hP, MS_k (f5 130 (by omega) (by omega) (by omega)) hS, MU_0 ?_, MK_f hK ?_ (f5 159 (by omega) (by omega) (by omega)) (f5 160 (by omega) (by omega) (by omega)), MR_k (f6 _ (by omega) (by omega) (by omega) (by omega) (by omega)) (f5 140 (by omega) (by omega) (by omega)) hR⟩, ?_⟩, ⟨rfl, rfl⟩, rfl, fun b hb => by rw [f5 b (by omega) (by omega) (by omega), up_ne (by omega)]⟩
      · have e := m_begin (q := q) (ρ := ρ) (L := L) (m := 76) e10
        simp (disch := first | omega | assumption) only [f_X11_errands, ↓bM, ↓ob_, lt0, ↓oe e, mp_nk, bgn_15, nn_eq, if_neg, if_false]
        refine j1.trans ?_
        simp (disch := first | omega | assumption) only [↓bM, ↓ob_, up_nk, zz7, nI_add]
      · rw [up_nk (by omega), up_nk (by omega), up_nk (by omega), z6 129 (by omega)]
        exact e10'
      · rw [up_nk (by omega), up_nk (by omega), up_eq, hEe]
        rfl
      · have he' : e < duE (gDu G) + K := he
        rw [f134]
        show _ = nI (if e < duE (gDu G) then duW (gDu G) e else erW f n (lnP (erd f n P S) (e - duE (gDu G)))) ∧ _ = nI (if e < duE (gDu G) then duM (gDu G) e else erM f n (lnP (erd f n P S) (e - duE (gDu G)))) ∧ _ = nI (if e < duE (gDu G) then duP (gDu G) e else erP f n (lnP (erd f n P S) (e - duE (gDu G)))) ∧ _ = nI (if e < duE (gDu G) then duV (gDu G) e else erV f n (lnP (erd f n P S) (e - duE (gDu G))))
        rw [← hEe] at he' ⊢
        by_cases h : e < E
        · rw [if_pos h, if_pos h, if_pos h, if_pos h, z3 _ (by omega), z3 _ (by omega), z3 _ (by omega), z3 _ (by omega), e5 134 (by omega) (by omega)]
          exact hD.2 e (by omega)
        · rw [if_neg h, if_neg h, if_neg h, if_neg h]
          have h0 := z2 (4 * (e - E)) (by omega)
          have h1 := z2 (4 * (e - E) + 1) (by omega)
          have h2 := z2 (4 * (e - E) + 2) (by omega)
          have h3 := z2 (4 * (e - E) + 3) (by omega)
          rw [mp_ne (by omega)] at h0 h1 h2 h3
          rw [show 4 * E + 4 * (e - E) = 4 * e by omega] at h0
          rw [show 4 * E + (4 * (e - E) + 1) = 4 * e + 1 by omega] at h1
          rw [show 4 * E + (4 * (e - E) + 2) = 4 * e + 2 by omega] at h2
          rw [show 4 * E + (4 * (e - E) + 3) = 4 * e + 3 by omega] at h3
          rw [h0, h1, h2, h3]
          exact j2.2.2.1 (e - E) (by omega)
      · rw [up_nk (by omega), up_eq]
      · rw [up_eq, z6 129 (by omega), e6 _ (by omega) (by omega)]
      · unfold MW at hW ⊢
        rw [f6 _ (by omega) (by omega) (by omega) (by omega) (by omega), up_nk (by omega)]
        exact hW
