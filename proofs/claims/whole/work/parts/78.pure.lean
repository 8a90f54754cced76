/-! WORDS: the call -/
def wdG (g : gL) (f : Nat → Nat) (n K : Nat) : gL := (lxW g + K, (fun w => if w < lxW g then lxN g w else wdN f n (lnP (wrd f n) (w - lxW g))), (fun w => if w < lxW g then lxL g w else wdL f n (lnP (wrd f n) (w - lxW g))), (fun w => if w < lxW g then lxA g w else wdA f n (lnP (wrd f n) (w - lxW g))), (fun w => if w < lxW g then lxB g w else wdB f n (lnP (wrd f n) (w - lxW g))))
theorem wdG_o {g : gL} {f : Nat → Nat} {n K w : Nat} (h : w < lxW g) : lxN (wdG g f n K) w = lxN g w ∧ lxL (wdG g f n K) w = lxL g w ∧ lxA (wdG g f n K) w = lxA g w ∧ lxB (wdG g f n K) w = lxB g w := ⟨if_pos h, if_pos h, if_pos h, if_pos h⟩
theorem wdG_n {g : gL} {f : Nat → Nat} {n K w : Nat} (h : ¬ w < lxW g) : lxN (wdG g f n K) w = wdN f n (lnP (wrd f n) (w - lxW g)) ∧ lxL (wdG g f n K) w = wdL f n (lnP (wrd f n) (w - lxW g)) ∧ lxA (wdG g f n K) w = wdA f n (lnP (wrd f n) (w - lxW g)) ∧ lxB (wdG g f n K) w = wdB f n (lnP (wrd f n) (w - lxW g)) := ⟨if_neg h, if_neg h, if_neg h, if_neg h⟩
def xC (N A : Nat) (l : Nat → Nat) (B : Int32) (w : Nat) (J : pI) : Prop := (J 6 w = nI N ∧ J 7 w = nI A ∧ J 8 w = B ∧ J 11 w = nI (vws l N)) ∧ (∀ k, k < N → J 9 (w * 6 + k) = nI (97 + l k)) ∧ (∀ v, v < 5 → J 10 (w * 5 + v) = nI (oft l N v))
theorem x_wdS {g : gL} {I J : pI} {f : Nat → Nat} {n T k p : Nat} {x : Int32} (hL : XL g I) (hg : WL g) (h : wdX (j_up I 1 3 x) f n T (lxW g) k J) : (∀ b, b ≠ 1 → (b < 6 ∨ 11 < b) → j_up (ap J p) 1 1 (nI 0) b = I b) ∧ (∀ w, w < lxW g + k → xC (lxN (wdG g f n k) w) (lxA (wdG g f n k) w) (lxL (wdG g f n k) w) (lxB (wdG g f n k) w) w (j_up (ap J p) 1 1 (nI 0))) ∧ XL g (j_up (ap J p) 1 1 (nI 0)) := by
  obtain ⟨h1, h2, h3, h4⟩ := h
  obtain ⟨s1, s2⟩ := hL
  have z : ∀ b, b ≠ 1 → j_up (ap J p) 1 1 (nI 0) b = J b := fun b hb => by rw [up_ne hb, ap_ne hb]
  have e5 : ∀ b, b ≠ 1 → (b < 6 ∨ 11 < b) → j_up (ap J p) 1 1 (nI 0) b = I b := fun b b1 b2 => by rw [z b b1, h4.row b b2, up_ne b1]
  have old : ∀ w, w < lxW g → xC (lxN g w) (lxA g w) (lxL g w) (lxB g w) w (j_up (ap J p) 1 1 (nI 0)) := fun w hw => by
    have n6 := (hg.2 w hw).1.2
    obtain ⟨⟨a1, a2, a3, a4⟩, a5, a6⟩ := s2 w hw
    refine ⟨⟨?_, ?_, ?_, ?_⟩, fun k hk => ?_, fun v hv => ?_⟩
    · rw [z 6 (by omega), h4 6 w (by omega), up_ne (by omega)]; exact a1
    · rw [z 7 (by omega), h4 7 w (by omega), up_ne (by omega)]; exact a2
    · rw [z 8 (by omega), h4 8 w (by omega), up_ne (by omega)]; exact a3
    · rw [z 11 (by omega), h4 11 w (by omega), up_ne (by omega)]; exact a4
    · rw [z 9 (by omega), h4 9 _ (by omega), up_ne (by omega)]; exact a5 k hk
    · rw [z 10 (by omega), h4 10 _ (by omega), up_ne (by omega)]; exact a6 v hv
  refine ⟨e5, fun w hw => ?_, ⟨by rw [e5 5 (by omega) (by omega)]; exact s1, old⟩⟩
  by_cases h : w < lxW g
  · obtain ⟨g1, g2, g3, g4⟩ := wdG_o (f := f) (n := n) (K := k) h
    rw [g1, g2, g3, g4]
    exact old w h
  · obtain ⟨g1, g2, g3, g4⟩ := wdG_n (f := f) (n := n) (K := k) h
    rw [g1, g2, g3, g4]
    have := h3 (w - lxW g) (by omega)
    rw [show lxW g + (w - lxW g) = w by omega] at this
    unfold wC at this
    unfold xC
    rw [z 6 (by omega), z 7 (by omega), z 8 (by omega), z 9 (by omega), z 10 (by omega), z 11 (by omega)]
    exact this
theorem k_words : ∀ G, Wr G → ∃ v G', Wr G' ∧ XH (f_X10_words 5000 0) G v G' ∧ MH (f_X11_words 5000 129) G v G' := by
  intro G hG
  have hG' := hG
  obtain ⟨w1, w2, w3, w4, w5, w6, w7, w8, w9⟩ := hG
  have h80 := w1.1
  have hP4 := w4.1
  have hGt : Wr (sTx G oTx) := ⟨WT_0, w2, w3, w4, w5, w6, w7, w8, w9⟩
  obtain ⟨T, hTe⟩ : ∃ T, T = (gTx G).1 := ⟨_, rfl⟩
  obtain ⟨f, hfe⟩ : ∃ f, f = (gTx G).2 := ⟨_, rfl⟩
  obtain ⟨P, hPe⟩ : ∃ P, P = gP G := ⟨_, rfl⟩
  obtain ⟨S, hSe⟩ : ∃ S, S = gS G := ⟨_, rfl⟩
  obtain ⟨n, hne⟩ : ∃ n, n = min T 76 := ⟨_, rfl⟩
  obtain ⟨E, hEe⟩ : ∃ E, E = lxW (gLx G) := ⟨_, rfl⟩
  have hE8 := w2.1
  obtain ⟨cap, hcap⟩ : ∃ cap, E + cap = 10 := ⟨10 - E, by omega⟩
  by_cases hT0 : T = 0
  · refine ⟨nI 0, sRw (sTx G oTx) (gRw G), hGt, XH_x _ ?_, MH_x _ ?_⟩
    · rintro q ρ L I ⟨⟨hT, hL, hD, hP, hS, hU, hK, hR, hρ⟩, hW⟩
      have e11 := hT.1
      have e18 := hL.1
      rw [← hTe, hT0] at e11
      rw [← hEe] at e18
      refine ⟨ρ, L, j_up (ap (j_up I 1 3 (nI (min 0 76))) 0) 1 1 (nI 0), ?_, x_op, ⟨rfl, rfl, hρ⟩, rfl, ?_⟩
      · have e := x_rl0 (q := q) (ρ := ρ) (L := L) (kd := 0) (m := 76) (c0 := E) (C := 10) e11 (by omega)
        simp (disch := first | omega | assumption) only [f_X10_words, ↓bX, ↓bXA, ↓jn_, ↓ob_, ↓b2_, ↓reduceIte, nn_lt, nn_le, nn_eq, nI_add, pk_mul, nn_su, gn_lt, gn_le, ng_lt, ng_le, ng_eq, gn_eq, gg_eq, n_m1, n_cl, if_true, if_false, if_pos, if_neg, lt0, e18, ↓b2e e]
      · unfold XW at hW ⊢
        rw [up_ne (by omega), ap_ne (by omega), up_ne (by omega)]
        exact hW
    · rintro t q ρ L I ⟨hM, hW⟩
      obtain ⟨hT, hL, hD, hP, hS, hU, hK, hR⟩ := Ms_0 (x := nI 0) hM
      have e10 := hT.1
      rw [← hTe, hT0] at e10
      refine ⟨rr ρ (some 135), L, _, ?_, Fr_bg (T := 0) (m := 76) (p := 0) (w := -nI 1) (x := nI 0), ⟨rfl, rfl, rfl⟩, rfl, ?_⟩
      · have e := m_begin (q := q) (ρ := ρ) (L := L) (m := 76) e10
        simp (disch := first | omega | assumption) only [f_X11_words, ↓bM, ↓bMA, ↓jn_, ↓ob_, ↓b2_, ↓reduceIte, nn_lt, nn_le, nn_eq, nI_add, pk_mul, nn_su, gn_lt, gn_le, ng_lt, ng_le, ng_eq, gn_eq, gg_eq, n_m1, n_cl, if_true, if_false, if_pos, if_neg, lt0, ↓oe e, mp_nk, bgn_15]
      · unfold MW at hW ⊢
        rw [mp_nk (by omega) (by omega), bgn_k (by omega) (by omega) (by omega), up_nk (by omega)]
        exact hW
  have hrd : ∀ p, p ≤ n → (wrd f n p).2 ≤ n := fun p hpn => wrd_le hpn
  obtain ⟨R, hRe⟩ : ∃ R, R = lns f n T (wrd f n) cap 0 0 := ⟨_, rfl⟩
  have lin := lns_in (f := f) (T := T) hrd cap 0 (Nat.zero_le n) (fun j hj => absurd hj (Nat.not_lt_zero j))
  rw [lnP, ← hRe] at lin
  obtain ⟨lin1, lin2, lin3, lin4⟩ := lin
  have hx : ∀ q ρ L I, Xr G ρ L I → ∃ J, f_X10_readLines 5000 0 (nI 0) (nI 76) (nI E) (nI 10) (hp q ρ L I) = some (if R.1 = true then nI R.2.1 else -nI (1 + R.2.2), hp q ρ L (j_up (ap J R.2.2) 1 1 (nI 0))) ∧ wdX (j_up I 1 3 (nI n)) f n T E R.2.1 J := by
    rintro q ρ L I ⟨⟨hT, hL, hD, hP, hS, hU, hK, hR, hρ⟩, hW⟩
    have e11 := hT.1
    rw [← hTe] at e11
    have h17 : j_up I 1 3 (nI n) 0 17 = nI S := by rw [up_ne (by omega), hSe]; exact hP.2
    have h18 : j_up I 1 3 (nI n) 0 18 = nI P := by rw [up_ne (by omega), hPe]; exact hP.1
    have rd0 := Rd_of (m := 76) hT w1 (by omega)
    rw [← hTe, ← hfe, ← hne] at rd0
    have := x_rl2 (q := q) (ρ := ρ) (L := L) (m := 76) (kd := 0) (c0 := E) (cap := cap) (rd := wrd f n) (Inv := wdX (j_up I 1 3 (nI n)) f n T E) e11 (by omega) (by omega) (by omega) (by omega) hrd (fun k J h => ⟨h.1, h.2.1⟩) (fun k J hk h hn => x_wdL (by omega) (by omega) h hn) (by
      rw [← hne]
      exact ⟨rd0, by rw [up_nk (by omega)]; exact e11, fun j hj => absurd hj (Nat.not_lt_zero j), fun b c _ => rfl⟩)
    rw [← hRe, hcap] at this
    exact this
  have hm : ∀ t q ρ L I ks, Ms t G ρ I → (R.1 = true → ∃ J, f_X11_words_L24 5000 129 (mKK ks) 5000 (nI 0) (nI 1) (hp q (rr ρ (some 135)) L (mp (bgn (j_up I 129 13 (nI 0)) T 76) 0 (-nI 1))) = ks (nI R.2.1) (hp q (rr ρ (some 135)) L (mp J T (-nI 1))) ∧ wdM (bgn (j_up I 129 13 (nI 0)) T 76) (rr ρ (some 135)) f n T R.2.1 J) ∧ (R.1 = false → ∃ J p w k, f_X11_words_L24 5000 129 (mKK ks) 5000 (nI 0) (nI 1) (hp q (rr ρ (some 135)) L (mp (bgn (j_up I 129 13 (nI 0)) T 76) 0 (-nI 1))) = some (-nI (1 + R.2.2), hp q (rr ρ (some 135)) L (mp J p w)) ∧ wdM (bgn (j_up I 129 13 (nI 0)) T 76) (rr ρ (some 135)) f n T k J) := by
    intro t q ρ L I ks hM
    obtain ⟨hT, hL, hD, hP, hS, hU, hK, hR⟩ := Ms_0 (x := nI 0) hM
    have rd0 := RdM_of (ρ := ρ) (m := 76) hT w1 (by omega)
    rw [← hTe, ← hfe, ← hne] at rd0
    have h1 : bgn (j_up I 129 13 (nI 0)) T 76 129 1 = nI S := by rw [bgn_k (by omega) (by omega) (by omega), hSe]; exact hP.2
    have h6 : bgn (j_up I 129 13 (nI 0)) T 76 129 6 = nI P := by rw [bgn_k (by omega) (by omega) (by omega), hPe]; exact hP.1
    have h7 : bgn (j_up I 129 13 (nI 0)) T 76 129 2 = nI E := by rw [bgn_k (by omega) (by omega) (by omega), hEe]; exact hL.1
    have := m_lns (q := q) (ρ := rr ρ (some 135)) (L := L) (f := f) (n := n) (T := T) (cap := cap) (rd := wrd f n) (Inv := wdM (bgn (j_up I 129 13 (nI 0)) T 76) (rr ρ (some 135)) f n T) (lp := f_X11_words_L24 5000 129 (mKK ks)) (body := wvB) (ks := ks) (by omega) (by omega) hrd wvB_lp (fun k J h => ⟨h.1, h.2.1⟩) (fun k J hk h hn => m_wdB h7 (by omega) h hn (by omega)) (fun J kk h hn => m_wdC h7 hcap h hn (by omega) kk) cap 0 5000 (bgn (j_up I 129 13 (nI 0)) T 76) (by omega) (by omega) ⟨rd0, bgn_15, fun j hj => absurd hj (Nat.not_lt_zero j), fun b _ _ _ => rfl⟩ (Nat.zero_le n)
    rw [lnP, ← hRe] at this
    exact this
  cases hok : R.1 with
  | false =>
    refine ⟨-nI (1 + R.2.2), sTx G oTx, hGt, ?_, ?_⟩
    · intro q ρ L I hq hX
      obtain ⟨J, j1, j2⟩ := hx q ρ L I hX
      rw [hok] at j1
      obtain ⟨⟨hT, hL, hD, hP, hS, hU, hK, hR, hρ⟩, hW⟩ := hX
      rw [hEe] at j2
      obtain ⟨e5, e6, e7⟩ := x_wdS (p := R.2.2) hL w2 j2
      have e18 := hL.1
      rw [← hEe] at e18
      refine ⟨q, ρ, L, _, ?_, ⟨⟨⟨up_eq, fun k hk => absurd hk (Nat.not_lt_zero k)⟩, e7, XD_k (fun b _ _ => e5 b (by omega) (by omega)) hD, by rw [e5 0 (by omega) (by omega)]; exact hP, XS_k (fun i _ => e5 _ (by omega) (by omega)) hS, XU_k (fun b _ _ => e5 b (by omega) (by omega)) hU, XK_k (fun b _ _ => e5 b (by omega) (by omega)) hK, XR_k (fun b _ _ => e5 b (by omega) (by omega)) hR, hρ⟩, ?_⟩, ⟨rfl, rfl, fun b _ _ => e5 b (by omega) (by omega)⟩, Nat.le_refl _, Nat.le_succ _, Nat.le_add_right _ _⟩
      · rw [if_neg (by decide)] at j1
        simp (disch := first | omega | assumption) only [f_X10_words, ↓bX, ↓bXA, ↓jn_, ↓ob_, ↓b2_, ↓reduceIte, nn_lt, nn_le, nn_eq, nI_add, pk_mul, nn_su, gn_lt, gn_le, ng_lt, ng_le, ng_eq, gn_eq, gg_eq, n_m1, n_cl, if_true, if_false, if_pos, if_neg, lt0, e18, ↓b2e j1]
      · unfold XW at hW ⊢
        rw [e5 3 (by omega) (by omega)]
        exact hW
    · rintro t q ρ L I ht ⟨hM, hW⟩
      obtain ⟨J, p, w, k, j1, j2⟩ := (hm t q ρ L I (fun (y22 : Int32) (h24 : jH) =>
          f_X11_words_L91 5000 129 y22 (fun (h42 : jH) =>
            (jp_I 11 29 h42 129 (nI 0)).bind (fun h43 =>
            (jg_I 11 52 h43 129).bind (fun v44 =>
            (jp_I 11 52 h43 129 (v44 + nI 1)).bind (fun h45 =>
            some (y22, h45))))) 5000 (nI 0) h24) hM).2 hok
      obtain ⟨hT, hL, hD, hP, hS, hU, hK, hR⟩ := Ms_0 (x := nI 0) hM
      have e10 := hT.1
      rw [← hTe] at e10
      have z := j2.2.2.2
      have e5 : ∀ b, b ≠ 129 → (b < 137 ∨ 139 < b) → mp J p w b = j_up I 129 13 (nI 0) b := fun b b1 b2 => by rw [mp_ne b1, z b (by omega) (by omega) (by omega), bgn_ne b1]
      have e6 : ∀ k, k ≠ 10 → (k < 15 ∨ 18 < k) → mp J p w 129 k = j_up I 129 13 (nI 0) 129 k := fun k k1 k2 => by rw [mp_nk (by omega) (by omega), z 129 (by omega) (by omega) (by omega), bgn_k (by omega) (by omega) (by omega)]
      have e10' : mp J p w 129 10 = nI 0 := by rw [mp_nk (by omega) (by omega), z 129 (by omega) (by omega) (by omega), bgn_10]
      refine ⟨rr ρ (some 135), L, mp J p w, ?_, ⟨⟨⟨e10', fun k hk => absurd hk (Nat.not_lt_zero k)⟩, ML_k (e6 _ (by omega) (by omega)) (e5 131 (by omega) (by omega)) (e5 132 (by omega) (by omega)) (e5 133 (by omega) (by omega)) hL, MD_k (e6 _ (by omega) (by omega)) (e5 134 (by omega) (by omega)) hD, by rw [e6 _ (by omega) (by omega), e6 _ (by omega) (by omega)]; exact hP, MS_k (e5 130 (by omega) (by omega)) hS, MU_k (e6 _ (by omega) (by omega)) (e5 144 (by omega) (by omega)) hU, MK_k (Nat.le_succ t) (e6 _ (by omega) (by omega)) (e5 158 (by omega) (by omega)) (e5 159 (by omega) (by omega)) (e5 160 (by omega) (by omega)) hK, MR_k (e6 _ (by omega) (by omega)) (e5 140 (by omega) (by omega)) hR⟩, ?_⟩, ⟨rfl, rfl⟩, rfl, fun b hb => by rw [e5 b (by omega) (by omega), up_ne (by omega)]⟩
      · have e := m_begin (q := q) (ρ := ρ) (L := L) (m := 76) e10
        simp (disch := first | omega | assumption) only [f_X11_words, ↓bM, ↓ob_, lt0, ↓oe e, mp_nk, bgn_15, nn_eq, if_neg, if_false]
        exact j1
      · unfold MW at hW ⊢
        rw [e6 _ (by omega) (by omega), up_nk (by omega)]
        exact hW
  | true =>
    obtain ⟨K, hKe⟩ : ∃ K, K = R.2.1 := ⟨_, rfl⟩
    have ⟨k1, k2⟩ := lin4 hok
    rw [← hKe] at k1 lin1 lin2
    refine ⟨nI K, (oTx, wdG (gLx G) f n K, gDu G, (gP G, gS G, gN G), (0, (gUn G).2), (fun _ => none), gRw G, gRu G), ⟨WT_0, ⟨by show lxW (gLx G) + K ≤ 10; omega, fun w hw => ?_⟩, w3, w4, w5, WU_0, WK_none, w8, w9⟩, ?_, ?_⟩
    · have hw' : w < lxW (gLx G) + K := hw
      by_cases h : w < lxW (gLx G)
      · obtain ⟨g1, g2, g3, g4⟩ := wdG_o (f := f) (n := n) (K := K) h
        show (1 ≤ lxN (wdG (gLx G) f n K) w ∧ lxN (wdG (gLx G) f n K) w ≤ 6) ∧ (∀ k, k < lxN (wdG (gLx G) f n K) w → lxL (wdG (gLx G) f n K) w k < 26) ∧ lxA (wdG (gLx G) f n K) w ≤ 9 ∧ (lxB (wdG (gLx G) f n K) w = -nI 1 ∨ ∃ m, m ≤ 9 ∧ lxB (wdG (gLx G) f n K) w = nI m)
        rw [g1, g2, g3, g4]
        exact w2.2 w h
      · obtain ⟨g1, g2, g3, g4⟩ := wdG_n (f := f) (n := n) (K := K) h
        show (1 ≤ lxN (wdG (gLx G) f n K) w ∧ lxN (wdG (gLx G) f n K) w ≤ 6) ∧ (∀ k, k < lxN (wdG (gLx G) f n K) w → lxL (wdG (gLx G) f n K) w k < 26) ∧ lxA (wdG (gLx G) f n K) w ≤ 9 ∧ (lxB (wdG (gLx G) f n K) w = -nI 1 ∨ ∃ m, m ≤ 9 ∧ lxB (wdG (gLx G) f n K) w = nI m)
        rw [g1, g2, g3, g4]
        exact wrd_t (lin1 (w - lxW (gLx G)) (by omega)).1
    · intro q ρ L I hq hX
      obtain ⟨J, j1, j2⟩ := hx q ρ L I hX
      rw [hok, if_pos rfl, ← hKe] at j1
      rw [← hKe, hEe] at j2
      obtain ⟨⟨hT, hL, hD, hP, hS, hU, hK, hR, hρ⟩, hW⟩ := hX
      obtain ⟨e5, e6, e7⟩ := x_wdS (p := R.2.2) hL w2 j2
      have e18 := hL.1
      rw [← hEe] at e18
      obtain ⟨Z, hZ⟩ : ∃ Z, Z = j_up (ap J R.2.2) 1 1 (nI 0) := ⟨_, rfl⟩
      have z11 : Z 1 1 = nI 0 := by rw [hZ, up_eq]
      rw [← hZ] at e5 e6 j1
      have z18 : Z 5 0 = nI E := by rw [e5 5 (by omega) (by omega)]; exact e18
      have e8 : ∀ b, b ≠ 5 → b ≠ 24 → b ≠ 102 → j_up (j_up (j_up (j_up Z 5 0 (nI (E + K))) 24 2 (nI 0)) 102 0 (nI 0)) 102 1 (nI 0) b = Z b := fun b b1 b2 b3 => by rw [up_ne b3, up_ne b3, up_ne b2, up_ne b1]
      have e9 : ∀ b, b ≠ 24 → b ≠ 102 → b ≠ 1 → (b < 5 ∨ 11 < b) → j_up (j_up (j_up (j_up Z 5 0 (nI (E + K))) 24 2 (nI 0)) 102 0 (nI 0)) 102 1 (nI 0) b = I b := fun b b2 b3 b4 b5 => by rw [e8 b (by omega) b2 b3]; exact e5 b b4 (by omega)
      refine ⟨q, ρ, L, j_up (j_up (j_up (j_up Z 5 0 (nI (E + K))) 24 2 (nI 0)) 102 0 (nI 0)) 102 1 (nI 0), ?_, ⟨⟨⟨by rw [e8 1 (by omega) (by omega) (by omega)]; exact z11, fun k hk => absurd hk (Nat.not_lt_zero k)⟩, ⟨?_, fun w hw => ?_⟩, XD_k (fun b _ _ => e9 b (by omega) (by omega) (by omega) (by omega)) hD, by rw [e9 0 (by omega) (by omega) (by omega) (by omega)]; exact hP, XS_k (fun i _ => e9 _ (by omega) (by omega) (by omega) (by omega)) hS, XU_0 hU ?_ ?_, XK_none ?_ ?_, XR_k (fun b _ _ => e9 b (by omega) (by omega) (by omega) (by omega)) hR, hρ⟩, ?_⟩, ⟨rfl, rfl, fun b _ _ => e9 b (by omega) (by omega) (by omega) (by omega)⟩, Nat.le_refl _, Nat.le_succ _, Nat.le_add_right _ _⟩
      · simp (disch := first | omega | assumption) only [f_X10_words, ↓bX, ↓bXA, ↓jn_, ↓ob_, ↓b2_, ↓reduceIte, nn_lt, nn_le, nn_eq, nI_add, pk_mul, nn_su, gn_lt, gn_le, ng_lt, ng_le, ng_eq, gn_eq, gg_eq, n_m1, n_cl, if_true, if_false, if_pos, if_neg, lt0, e18, ↓b2e j1, z18, ↓oe (x_forget (q := q) (ρ := ρ) (L := L) (I := j_up Z 5 0 (nI (E + K))))]
      · rw [up_ne (by omega), up_ne (by omega), up_ne (by omega), up_eq, hEe]
        rfl
      · rw [e8 6 (by omega) (by omega) (by omega), e8 7 (by omega) (by omega) (by omega), e8 8 (by omega) (by omega) (by omega), e8 9 (by omega) (by omega) (by omega), e8 10 (by omega) (by omega) (by omega), e8 11 (by omega) (by omega) (by omega)]
        exact e6 w hw
      · rw [up_ne (by omega), up_ne (by omega), up_nk (by omega), up_ne (by omega), e5 24 (by omega) (by omega)]
      · rw [up_ne (by omega), up_ne (by omega), up_eq]
      · rw [up_nk (by omega), up_eq]
      · rw [up_eq]
      · unfold XW at hW ⊢
        rw [e9 3 (by omega) (by omega) (by omega) (by omega)]
        exact hW
    · rintro t q ρ L I ht ⟨hM, hW⟩
      obtain ⟨J, j1, j2⟩ := (hm t q ρ L I (fun (y22 : Int32) (h24 : jH) =>
          f_X11_words_L91 5000 129 y22 (fun (h42 : jH) =>
            (jp_I 11 29 h42 129 (nI 0)).bind (fun h43 =>
            (jg_I 11 52 h43 129).bind (fun v44 =>
            (jp_I 11 52 h43 129 (v44 + nI 1)).bind (fun h45 =>
            some (y22, h45))))) 5000 (nI 0) h24) hM).1 hok
      rw [← hKe] at j1 j2
      obtain ⟨hT, hL, hD, hP, hS, hU, hK, hR⟩ := Ms_0 (x := nI 0) hM
      have e10 := hT.1
      rw [← hTe] at e10
      have z := j2.2.2.2
      have e5 : ∀ b, b ≠ 129 → (b < 137 ∨ 139 < b) → mp J T (-nI 1) b = j_up I 129 13 (nI 0) b := fun b b1 b2 => by rw [mp_ne b1, z b (by omega) (by omega) (by omega), bgn_ne b1]
      have e6 : ∀ k, k ≠ 10 → (k < 15 ∨ 18 < k) → mp J T (-nI 1) 129 k = j_up I 129 13 (nI 0) 129 k := fun k k1 k2 => by rw [mp_nk (by omega) (by omega), z 129 (by omega) (by omega) (by omega), bgn_k (by omega) (by omega) (by omega)]
      have e10' : mp J T (-nI 1) 129 10 = nI 0 := by rw [mp_nk (by omega) (by omega), z 129 (by omega) (by omega) (by omega), bgn_10]
      obtain ⟨Z, z1, z2, z3, ⟨z4, z5, z6⟩, z7, z8⟩ := m_wZ (q := q) (ρ := rr ρ (some 135)) (L := L) (I := mp J T (-nI 1)) (W := E) (K := K) (by omega) (by rw [e6 _ (by omega) (by omega), hEe]; exact hL.1) (kk := fun (h42 : jH) =>
            (jp_I 11 29 h42 129 (nI 0)).bind (fun h43 =>
            (jg_I 11 52 h43 129).bind (fun v44 =>
            (jp_I 11 52 h43 129 (v44 + nI 1)).bind (fun h45 =>
            some (nI K, h45)))))
      rw [z1] at j1
      have f5 : ∀ b, b ≠ 129 → (b < 131 ∨ 133 < b) → (b < 137 ∨ 139 < b) → j_up (j_up Z 129 29 (nI 0)) 129 52 (Z 129 52 + nI 1) b = j_up I 129 13 (nI 0) b := fun b b1 b2 b3 => by rw [up_ne b1, up_ne b1, z8 b b1 (by omega) (by omega) (by omega), e5 b b1 b3]
      have f6 : ∀ k, k ≠ 10 → (k < 15 ∨ 18 < k) → k ≠ 2 → k ≠ 29 → k ≠ 52 → j_up (j_up Z 129 29 (nI 0)) 129 52 (Z 129 52 + nI 1) 129 k = j_up I 129 13 (nI 0) 129 k := fun k k1 k2 k3 k4 k5 => by rw [up_nk k5, up_nk k4, z7 k k3, e6 k k1 k2]
      have fz : ∀ b, b ≠ 129 → j_up (j_up Z 129 29 (nI 0)) 129 52 (Z 129 52 + nI 1) b = Z b := fun b hb => by rw [up_ne hb, up_ne hb]
      refine ⟨rr ρ (some 135), L, j_up (j_up Z 129 29 (nI 0)) 129 52 (Z 129 52 + nI 1), ?_, ⟨⟨⟨?_, fun k hk => absurd hk (Nat.not_lt_zero k)⟩, ⟨?_, fun w hw => ?_⟩, MD_k (f6 _ (by omega) (by omega) (by omega) (by omega) (by omega)) (f5 134 (by omega) (by omega) (by omega)) hD, by rw [f6 _ (by omega) (by omega) (by omega) (by omega) (by omega), f6 _ (by omega) (by omega) (by omega) (by omega) (by omega)]; exact hP, MS_k (f5 130 (by omega) (by omega) (by omega)) hS, MU_0 ?_, MK_f hK ?_ (f5 159 (by omega) (by omega) (by omega)) (f5 160 (by omega) (by omega) (by omega)), MR_k (f6 _ (by omega) (by omega) (by omega) (by omega) (by omega)) (f5 140 (by omega) (by omega) (by omega)) hR⟩, ?_⟩, ⟨rfl, rfl⟩, rfl, fun b hb => by rw [f5 b (by omega) (by omega) (by omega), up_ne (by omega)]⟩
      · have e := m_begin (q := q) (ρ := ρ) (L := L) (m := 76) e10
        simp (disch := first | omega | assumption) only [f_X11_words, ↓bM, ↓ob_, lt0, ↓oe e, mp_nk, bgn_15, nn_eq, if_neg, if_false]
        refine j1.trans ?_
        simp (disch := first | omega | assumption) only [↓bM, ↓ob_, up_nk]
      · rw [up_nk (by omega), up_nk (by omega), z7 10 (by omega)]
        exact e10'
      · rw [up_nk (by omega), up_nk (by omega), z2, hEe]
        rfl
      · have hw' : w < lxW (gLx G) + K := hw
        rw [fz 131 (by omega), fz 132 (by omega), fz 133 (by omega)]
        show (Z 132 w = nI (lxN (wdG (gLx G) f n K) w) ∧ Z 133 (2 * w) = nI (lxA (wdG (gLx G) f n K) w) ∧ Z 133 (2 * w + 1) = lxB (wdG (gLx G) f n K) w) ∧ ∀ k, k < lxN (wdG (gLx G) f n K) w → Z 131 (6 * w + k) = nI (lxL (wdG (gLx G) f n K) w k)
        by_cases h : w < lxW (gLx G)
        · obtain ⟨g1, g2, g3, g4⟩ := wdG_o (f := f) (n := n) (K := K) h
          have n6 := (w2.2 w h).1.2
          rw [g1, g2, g3, g4, z4 w (by omega), z5 _ (by omega), z5 _ (by omega), e5 132 (by omega) (by omega), e5 133 (by omega) (by omega)]
          refine ⟨(hL.2 w h).1, fun k hk => ?_⟩
          rw [z6 _ (by omega), e5 131 (by omega) (by omega)]
          exact (hL.2 w h).2 k hk
        · obtain ⟨g1, g2, g3, g4⟩ := wdG_n (f := f) (n := n) (K := K) h
          rw [g1, g2, g3, g4, ← hEe]
          obtain ⟨r1, r2, r3, r4⟩ := z3 (w - E) (by omega)
          rw [show E + (w - E) = w by omega] at r1 r2 r3 r4
          rw [mp_ne (by omega)] at r1 r2 r3
          obtain ⟨c1, c2, c3, c4⟩ := j2.2.2.1 (w - E) (by omega)
          have s2 := wdN_le (f := f) (n := n) (p := lnP (wrd f n) (w - E))
          have wt := wrd_t (lin1 (w - E) (by omega)).1
          refine ⟨⟨by rw [r1]; exact c3, by rw [r2]; exact c1, by rw [r3]; exact c2⟩, fun k hk => ?_⟩
          rw [r4 k (by omega), mp_ne (by omega), c4 k hk]
          exact t8_s (by have := wt.2.1 k hk; omega)
      · rw [up_nk (by omega), up_eq]
      · rw [up_eq, z7 52 (by omega), e6 _ (by omega) (by omega)]
      · unfold MW at hW ⊢
        rw [f6 _ (by omega) (by omega) (by omega) (by omega) (by omega), up_nk (by omega)]
        exact hW
