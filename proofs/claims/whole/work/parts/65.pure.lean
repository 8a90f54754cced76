/-! SENTENCE -/
theorem m_seT {q : pQ} {ρ : pP} {L : pL} {I : pI} {r : gT} {g : gL} {dd : gD} {PP S s T : Nat} {hr : Int32} {d : Nat → Nat} {P : Nat → Nat} (hQ : MQ_ r g dd PP S ρ I) (hwr : WR r) (hg : WL g) (h12 : I 130 12 = hr) (hd : ∀ k, k < T → I 135 k = nI (48 + d k) ∧ d k ≤ 9) (hT : T ≤ 12) (hP : P = fun w => tol (cmp r) g w s hr) {kk : jH → Option (Int32 × jH)} : ∀ k i rr_ N L J z0, T ≤ i + k → rr_ ≤ i → i ≤ T → k < N → (seC P (tls g T d) (lxW g) T i).isSome = true → Fr tN I J → J 129 12 = nI rr_ → (∀ j, j ≤ T → J 147 j = nI (om (seC P (tls g T d) (lxW g) T j) 100000000)) → ∃ L' J' z, f_X11_sentence_L191 5000 129 (nI s) (nI T) kk N (nI i) (hp q (rr ρ z0) L J) = kk (hp q (rr ρ z) L' J') ∧ Fr tN I J' ∧ J' 129 12 = nI (rr_ + (sePt P (tls g T d) (lxW g) T k i).length) ∧ (∀ j, j ≤ T → J' 147 j = nI (om (seC P (tls g T d) (lxW g) T j) 100000000)) ∧ (∀ n, n < rr_ → L' 136 n = L 136 n) ∧ (∀ n, n < (sePt P (tls g T d) (lxW g) T k i).length → L' 136 (rr_ + n) = (nI ((sePt P (tls g T d) (lxW g) T k i).getD n 0)).toInt64) ∧ ∀ b, b ≠ 136 → L' b = L b
  | _, _, _, 0, _, _, _, _, _, _, h, _, _, _, _ => absurd h (Nat.not_lt_zero _)
  | 0, i, rr_, N + 1, L, J, z0, h1, h2, h3, h4, h5, h6, h7, h8 => by
    refine ⟨L, J, z0, ?_, h6, h7, h8, fun n _ => rfl, fun n hn => absurd hn (Nat.not_lt_zero n), fun b _ => rfl⟩
    rw [f_X11_sentence_L191]
    simp (disch := first | omega | assumption) only [↓bM, ↓bMA, ↓jn_, ↓ob_, ↓b2_, ↓reduceIte, nn_lt, nn_le, nn_eq, nI_add, pk_mul, nn_su, gn_lt, gn_le, ng_lt, ng_le, ng_eq, gn_eq, gg_eq, n_m1, n_cl, if_true, if_false, if_pos, if_neg, lt0]
  | k + 1, i, rr_, N + 1, L, J, z0, h1, h2, h3, h4, h5, h6, h7, h8 => by
    by_cases hi : i < T
    · obtain ⟨w, hw⟩ := seC_w hi h5
      obtain ⟨w1, w2, w3⟩ := seW_in (P := P) (tl := tls g T d) (W := lxW g) (fun w i hi => tls_le hi) hi hw
      have ⟨t1, t2⟩ := tls_le (g := g) (w := w) (d := d) hi
      have ep : sePt P (tls g T d) (lxW g) T (k + 1) i = w :: sePt P (tls g T d) (lxW g) T k (i + tls g T d w i) := by
        rw [sePt, if_pos hi, hw]
      obtain ⟨K, z1, k1, k2⟩ := m_seF (q := q) (L := L) (x3 := fun _ => none) hQ hwr hg h12 hd hi hT hP hw (kk := fun (y47 : Int32) (h48 : jH) =>
        (f_X11_tell 5000 129 (y47.toInt64) h48).bind (fun h49 =>
        j_b2 (f_X11_tells 5000 129 y47 (nI i) (nI T) h49) (fun v51 h50 =>
        f_X11_sentence_L191 5000 129 (nI s) (nI T) kk N (nI i + v51) h50))) w 0 5000 J z0 (by omega) (by have := hg.1; omega) h6 h8
      have k12 : K = j_up K 129 12 (nI rr_) := up_self (by rw [k2 129 12 rfl]; exact h7)
      have f3 : Fr tN I (j_up K 129 12 (nI (rr_ + 1))) := Fr.up (Fr.tr h6 (tTo_N k2)) rfl
      have hQ2 := MQ_N (z := z1) f3 hQ
      have td2 := m_tells (q := q) (ρ := rr ρ z1) (L := j_up L 136 rr_ (nI w).toInt64) (I := j_up K 129 12 (nI (rr_ + 1))) (d := d) hQ2.2.1 hg w1 (by rw [f3.row 135 (fun k => rfl)]; exact hd) hi hT
      obtain ⟨L', J', z', e1, e2, e3, e4, e5, e6, e7⟩ := m_seT (q := q) (L := L) hQ hwr hg h12 hd hT hP (kk := kk) k (i + tls g T d w i) (rr_ + 1) N (j_up L 136 rr_ (nI w).toInt64) (j_up K 129 12 (nI (rr_ + 1))) z1 (by omega) (by omega) t2 (by omega) w3 f3 up_eq (by
        rw [up_ne (by omega), k2.row 147 (fun k => rfl)]
        exact h8)
      rw [ep]
      refine ⟨L', J', z', ?_, e2, by rw [e3, List.length_cons]; congr 1; omega, e4, fun n hn => by rw [e5 n (by omega), up_nk (by omega)], fun n hn => ?_, fun b hb => by rw [e7 b hb, up_ne hb]⟩
      · rw [f_X11_sentence_L191]
        simp (disch := first | omega | assumption) only [lt0, nn_le, if_neg]
        rw [k1, k12, m_tell (by omega), ob, td2, b2, nI_add]
        exact e1
      · cases n with
        | zero =>
          rw [Nat.add_zero, e5 rr_ (by omega), up_eq]
          rfl
        | succ n =>
          have := e6 n (by rw [List.length_cons] at hn; omega)
          rw [show rr_ + (n + 1) = rr_ + 1 + n by omega, this]
          rfl
    · have ep : sePt P (tls g T d) (lxW g) T (k + 1) i = [] := by rw [sePt, if_neg hi]
      rw [ep]
      refine ⟨L, J, z0, ?_, h6, h7, h8, fun n _ => rfl, fun n hn => absurd hn (Nat.not_lt_zero n), fun b _ => rfl⟩
      rw [f_X11_sentence_L191]
      simp (disch := first | omega | assumption) only [↓bM, ↓bMA, ↓jn_, ↓ob_, ↓b2_, ↓reduceIte, nn_lt, nn_le, nn_eq, nI_add, pk_mul, nn_su, gn_lt, gn_le, ng_lt, ng_le, ng_eq, gn_eq, gg_eq, n_m1, n_cl, if_true, if_false, if_pos, if_neg, lt0]
theorem by8_dg : ∀ b, b < 256 → ¬ (48 ≤ b ∧ b < 58) → (by8 b < nI 48 ∨ nI 57 < by8 b) := by decide +kernel
theorem m_in8 {b : Nat} (hb : b < 256) (H : jH) : f_X11_in 5000 (by8 b) (nI 48) (nI 57) H = some (if 48 ≤ b ∧ b < 58 then nI 1 else nI 0, H) := by
  by_cases h : 48 ≤ b ∧ b < 58
  · rw [by8_s b (by omega), m_in _ _ _ _ (by omega) (by omega) (by omega), if_pos (by omega), if_pos h]
  · rw [if_neg h]
    rcases by8_dg b hb h with g | g
    · simp only [f_X11_in, lt0, if_pos g]
    · simp only [f_X11_in, lt0, if_pos g, ite_self]
theorem m_dgL {q : pQ} {ρ : pP} {L : pL} {I : pI} {g : gT} {x1 : Int32} (hT : ∀ k, k < g.1 → I 135 k = by8 (g.2 k)) (w : WT g) {kf : Int32 → jH → Option (Int32 × jH)} {ks : jH → Option (Int32 × jH)} : ∀ k p N, p + k = 12 → k < N → p ≤ g.1 → f_X11_sentence_L28 5000 129 x1 (nI g.1) kf ks N (nI p) (hp q ρ L I) = if dgr g.2 g.1 k p = g.1 then ks (hp q ρ L I) else kf (nI (dgr g.2 g.1 k p)) (hp q ρ L I)
  | _, _, 0, _, h, _ => absurd h (Nat.not_lt_zero _)
  | 0, p, N + 1, h1, h2, h3 => by
    have h80 := w.1
    rw [f_X11_sentence_L28, dgr]
    by_cases e : p = g.1
    · rw [if_pos e]
      simp (disch := first | omega | assumption) only [↓bM, ↓bMA, ↓jn_, ↓ob_, ↓b2_, ↓reduceIte, nn_lt, nn_le, nn_eq, nI_add, pk_mul, nn_su, gn_lt, gn_le, ng_lt, ng_le, ng_eq, gn_eq, gg_eq, n_m1, n_cl, if_true, if_false, if_pos, if_neg, lt0]
    · rw [if_neg e]
      have : p = 12 := by omega
      simp (disch := first | omega | assumption) only [↓bM, ↓bMA, ↓jn_, ↓ob_, ↓b2_, ↓reduceIte, nn_lt, nn_le, nn_eq, nI_add, pk_mul, nn_su, gn_lt, gn_le, ng_lt, ng_le, ng_eq, gn_eq, gg_eq, n_m1, n_cl, if_true, if_false, if_pos, if_neg, lt0, this]
  | k + 1, p, N + 1, h1, h2, h3 => by
    have h80 := w.1
    by_cases e : p = g.1
    · have es : sg g.2 g.1 p = 999 := if_neg (by omega)
      have ed : dgr g.2 g.1 (k + 1) p = p := by rw [dgr, es, if_neg (by omega)]
      rw [f_X11_sentence_L28, ed, if_pos e]
      simp (disch := first | omega | assumption) only [↓bM, ↓bMA, ↓jn_, ↓ob_, ↓b2_, ↓reduceIte, nn_lt, nn_le, nn_eq, nI_add, pk_mul, nn_su, gn_lt, gn_le, ng_lt, ng_le, ng_eq, gn_eq, gg_eq, n_m1, n_cl, if_true, if_false, if_pos, if_neg, lt0]
    · rw [f_X11_sentence_L28, dgr]
      have es : sg g.2 g.1 p = g.2 p := if_pos (by omega)
      have t := hT p (by omega)
      have i8 := m_in8 (w.2 p (by omega)) (hp q ρ L I)
      rw [es]
      by_cases h : 48 ≤ g.2 p ∧ g.2 p < 58
      · rw [if_pos h] at i8 ⊢
        simp (disch := first | omega | assumption) only [↓bM, ↓bMA, ↓jn_, ↓ob_, ↓b2_, ↓reduceIte, nn_lt, nn_le, nn_eq, nI_add, pk_mul, nn_su, gn_lt, gn_le, ng_lt, ng_le, ng_eq, gn_eq, gg_eq, n_m1, n_cl, if_true, if_false, if_pos, if_neg, lt0, t, ↓b2e i8]
        exact m_dgL hT w k (p + 1) N (by omega) (by omega) (by omega)
      · rw [if_neg h] at i8 ⊢
        rw [if_neg e]
        simp (disch := first | omega | assumption) only [↓bM, ↓bMA, ↓jn_, ↓ob_, ↓b2_, ↓reduceIte, nn_lt, nn_le, nn_eq, nI_add, pk_mul, nn_su, gn_lt, gn_le, ng_lt, ng_le, ng_eq, gn_eq, gg_eq, n_m1, n_cl, if_true, if_false, if_pos, if_neg, lt0, t, ↓b2e i8]
theorem x_op {A : Nat} {I : pI} {x : Int32} {p : Nat} : Fr (tY A) (j_up I 1 1 (nI 0)) (j_up (ap (j_up I 1 3 x) p) 1 1 (nI 0)) := by
  unfold ap
  rw [up_co (a := 1) (k := 2) (by omega), up_co (a := 1) (k := 3) (by omega)]
  exact Fr.up (Fr.up Fr.rf rfl) rfl
theorem k_sentence (a : Int32) : ∀ G, Wr G → ∃ v G', Wr G' ∧ XH (f_X10_sentence 5000 0 a) G v G' ∧ MH (f_X11_sentence 5000 129 a) G v G' := by
  intro G hG
  have hG' := hG
  obtain ⟨w1, w2, w3, w4, w5, w6, w7, w8, w9⟩ := hG
  have hW10 := w2.1
  have h80 := w1.1
  have hGt : Wr (sTx G oTx) := ⟨WT_0, w2, w3, w4, w5, w6, w7, w8, w9⟩
  have xt : ∀ ρ L I, Xr G ρ L I → ∀ p x, Xr (sTx G oTx) ρ L (j_up (ap (j_up I 1 3 x) p) 1 1 (nI 0)) := fun ρ L I hX p x => by
    refine ⟨Xs_fr (G := sTx G oTx) x_op rfl hX.1.2.2.2.2.2.2.2.2 (Xs_tx hX.1), ?_⟩
    have hW := hX.2
    unfold XW at hW ⊢
    rw [up_ne (by omega), ap_ne (by omega), up_ne (by omega)]
    exact hW
  rcases ixo a (gS G) (by omega) with h | ⟨s, hs, rfl⟩
  · refine ⟨-nI 100, sRw (sTx G oTx) (gRw G), hGt, XH_x _ ?_, MH_x _ ?_⟩
    · intro q ρ L I hX
      have hX' := xt ρ L I hX 0 (nI (min (gTx G).1 12))
      obtain ⟨⟨hT, hL, hD, hP, hS, hU, hK, hR, hρ⟩, hW⟩ := hX
      refine ⟨ρ, L, j_up (ap (j_up I 1 3 (nI (min (gTx G).1 12))) 0) 1 1 (nI 0), ?_, x_op, ⟨rfl, rfl, hρ⟩, rfl, hX'.2⟩
      have hP2 : ap (j_up I 1 3 (nI (min (gTx G).1 12))) 0 0 17 = nI (gS G) := by rw [ap_ne (by omega), up_ne (by omega)]; exact hP.2
      simp (disch := first | omega | assumption) only [f_X10_sentence, ↓bX, ↓bXA, ↓jn_, ↓ob_, ↓b2_, ↓reduceIte, nn_lt, nn_le, nn_eq, nI_add, pk_mul, nn_su, gn_lt, gn_le, ng_lt, ng_le, ng_eq, gn_eq, gg_eq, n_m1, n_cl, if_true, if_false, if_pos, if_neg, lt0, ↓oe (x_open (q := q) (ρ := ρ) (L := L) (m := 12) hT.1 h80 (by omega)), ↓b2e (x_isS0 (q := q) (ρ := ρ) (L := L) hP2 h)]
    · rintro t q ρ L I ⟨hM, hW⟩
      refine ⟨ρ, L, j_up (j_up I 129 13 (nI 0)) 129 10 (nI 0), ?_, by rw [up_co (by omega)]; exact Fr.up Fr.rf rfl, ⟨rfl, rfl, rfl⟩, rfl, ?_⟩
      · obtain ⟨hT, hL, hD, hP, hS, hU, hK, hR⟩ := Ms_0 (x := nI 0) hM
        have hP2 : j_up (j_up I 129 13 (nI 0)) 129 10 (nI 0) 129 1 = nI (gS G) := by rw [up_nk (by omega)]; exact hP.2
        simp (disch := first | omega | assumption) only [f_X11_sentence, ↓bM, ↓bMA, ↓jn_, ↓ob_, ↓b2_, ↓reduceIte, nn_lt, nn_le, nn_eq, nI_add, pk_mul, nn_su, gn_lt, gn_le, ng_lt, ng_le, ng_eq, gn_eq, gg_eq, n_m1, n_cl, if_true, if_false, if_pos, if_neg, lt0, ↓b2e (m_isS0 (q := q) (ρ := ρ) (L := L) hP2 (by omega) h)]
      · unfold MW at hW ⊢
        rw [up_nk (by omega), up_nk (by omega)]
        exact hW
  obtain ⟨T, hTe⟩ : ∃ T, T = (gTx G).1 := ⟨_, rfl⟩
  obtain ⟨f, hfe⟩ : ∃ f, f = (gTx G).2 := ⟨_, rfl⟩
  obtain ⟨e, he⟩ : ∃ e, e = dgr f T 12 0 := ⟨_, rfl⟩
  have el := (dgr_le (f := f) (n := T) 12 0).2
  have eT := dgr_n (f := f) (n := T) 12 0 (Nat.zero_le T)
  have ed := fun j => dgr_in (f := f) (n := T) 12 0 j (Nat.zero_le j)
  rw [← he] at el eT ed
  rw [← hTe] at h80
  have xrd : ∀ q ρ L I, Xr G ρ L I → f_X10_readDigits 5000 0 (nI 1) (nI 12) (hp q ρ L (ap (j_up I 1 3 (nI (min T 12))) 0)) = some (if 1 ≤ e ∧ e = T then nI 0 else -nI (1 + e), hp q ρ L (ap (j_up I 1 3 (nI (min T 12))) e)) := by
    intro q ρ L I hX
    have hT := hX.1.1
    have hR := Rd_of (m := 12) hT w1 (by omega)
    rw [← hTe, ← hfe] at hR
    have := x_digits (q := q) (ρ := ρ) (L := L) (a := 1) (m := 12) (T := T) hR (by rw [up_nk (by omega), hTe]; exact hT.1) h80 (by omega) (by omega)
    rw [dgr_min 12 0 (by omega), ← he] at this
    exact this
  by_cases hg : 1 ≤ e ∧ e = T
  case neg =>
    refine ⟨-nI (1 + e), sRw (sTx G oTx) (gRw G), hGt, XH_x _ ?_, MH_x _ ?_⟩
    · intro q ρ L I hX
      have hX' := xt ρ L I hX e (nI (min T 12))
      have rd := xrd q ρ L I hX
      rw [if_neg hg] at rd
      obtain ⟨⟨hT, hL, hD, hP, hS, hU, hK, hR, hρ⟩, hW⟩ := hX
      refine ⟨ρ, L, j_up (ap (j_up I 1 3 (nI (min T 12))) e) 1 1 (nI 0), ?_, x_op, ⟨rfl, rfl, hρ⟩, rfl, hX'.2⟩
      have hP2 : ap (j_up I 1 3 (nI (min T 12))) 0 0 17 = nI (gS G) := by rw [ap_ne (by omega), up_ne (by omega)]; exact hP.2
      have op := x_open (q := q) (ρ := ρ) (L := L) (m := 12) hT.1 (by omega) (by omega)
      rw [← hTe] at op
      simp (disch := first | omega | assumption) only [f_X10_sentence, ↓bX, ↓bXA, ↓jn_, ↓ob_, ↓b2_, ↓reduceIte, nn_lt, nn_le, nn_eq, nI_add, pk_mul, nn_su, gn_lt, gn_le, ng_lt, ng_le, ng_eq, gn_eq, gg_eq, n_m1, n_cl, if_true, if_false, if_pos, if_neg, lt0, ↓oe op, ↓b2e (x_isS1 (q := q) (ρ := ρ) (L := L) hP2 (by omega) hs), ↓b2e rd]
    · rintro t q ρ L I ⟨hM, hW⟩
      refine ⟨ρ, L, j_up (j_up I 129 13 (nI 0)) 129 10 (nI 0), ?_, by rw [up_co (by omega)]; exact Fr.up Fr.rf rfl, ⟨rfl, rfl, rfl⟩, rfl, ?_⟩
      · obtain ⟨hT, hL, hD, hP, hS, hU, hK, hR⟩ := Ms_0 (x := nI 0) hM
        have hP2 : j_up (j_up I 129 13 (nI 0)) 129 10 (nI 0) 129 1 = nI (gS G) := by rw [up_nk (by omega)]; exact hP.2
        have h10 := hT.1
        rw [← hTe] at h10
        rw [f_X11_sentence]
        simp (disch := first | omega | assumption) only [↓bM, ↓ob_, lt0, h10, ↓b2e (m_isS1 (q := q) (ρ := ρ) (L := L) hP2 (by omega) hs), nn_eq, if_neg, if_false]
        have t1 : ∀ k, k < (gTx G).1 → j_up (j_up I 129 13 (nI 0)) 129 10 (nI 0) 135 k = by8 ((gTx G).2 k) := fun k hk => by rw [up_ne (by omega)]; exact hT.2 k hk
        have dg := fun kf ks => m_dgL (q := q) (ρ := ρ) (L := L) (x1 := nI s) (kf := kf) (ks := ks) t1 w1 12 0 5000 (by omega) (by omega) (by omega)
        rw [← hTe, ← hfe, ← he] at dg
        rw [dg]
        by_cases h2 : e = T
        · have : T = 0 := by omega
          have : e = 0 := by omega
          simp (disch := first | omega | assumption) only [if_pos, nn_eq, if_true, this]
        · rw [if_neg h2, gs_]
      · unfold MW at hW ⊢
        rw [up_nk (by omega), up_nk (by omega)]
        exact hW
  case pos =>
    obtain ⟨e1, e2⟩ := hg
    subst e2
    obtain ⟨d, hde⟩ : ∃ d : Nat → Nat, d = fun k => f k - 48 := ⟨_, rfl⟩
    have hd : ∀ k, k < e → f k = 48 + d k ∧ d k ≤ 9 := fun k hk => by
      have := ed k hk
      rw [show sg f e k = f k from if_pos hk] at this
      rw [hde]
      simp only []
      omega
    obtain ⟨P, hP_⟩ : ∃ P : Nat → Nat, P = fun w => tol (cmp (gRu G)) (gLx G) w s (scH (gN G)) := ⟨_, rfl⟩
    have hPe : ∀ w, tol (cmp (gRu G)) (gLx G) w s (scH (gN G)) = P w := fun w => by rw [hP_]
    have hPb : ∀ w, w < lxW (gLx G) → P w ≤ 594 := fun w hw => by rw [← hPe]; exact tol_le w2 hw
    have cb := seC_le (P := P) (tl := tls (gLx G) e d) (W := lxW (gLx G)) (T := e) (i := 0) hPb (by omega)
    have xs : ∀ q ρ L I, Xr G ρ L I → ∃ J, f_X10_priceAll 5000 0 ρ.1.1 (nI s) 115 (hp q ρ L (j_up (ap (j_up I 1 3 (nI (min e 12))) e) 1 1 (nI 0))) = some (hp q ρ L J) ∧ (∃ K, f_X5_sentencePrice 5000 108 5 115 2 (nI e) (hp q ρ L J) = some ((match seC P (tls (gLx G) e d) (lxW (gLx G)) e 0 with | none => -nI 1 | some c => nI c), hp q ρ L K) ∧ (∀ j w, j < e → seW P (tls (gLx G) e d) (lxW (gLx G)) e j = some w → K 109 j = nI w ∧ K 110 j = nI (tls (gLx G) e d w j)) ∧ Fr (tY ρ.1.1) (j_up I 1 1 (nI 0)) K ∧ K 3 = I 3) ∧ (ρ.1.1 = 119 ∨ ρ.1.1 = 124) := by
      intro q ρ L I hX
      have hX' := xt ρ L I hX e (nI (min e 12))
      obtain ⟨J, j1, j2, j3, j4, j5, j6⟩ := x_pr hGt s q ρ L _ hX'
      have tx : ∀ k, k < e → J 2 k = nI (48 + d k) ∧ d k ≤ 9 := fun k hk => by
        rw [j6 2 (by omega), up_ne (by omega), ap_ne (by omega), up_ne (by omega), hX.1.1.2 k (by omega), ← hfe, (hd k hk).1]
        exact ⟨rfl, (hd k hk).2⟩
      obtain ⟨K, k1, k2, k3⟩ := x_seP (q := q) (ρ := ρ) (L := L) (I := J) (P := P) (T := e) (d := d) j4 w2 tx e1 (by omega) (fun w hw => ⟨by rw [← hPe]; exact j2 w hw, hPb w hw⟩)
      refine ⟨J, j1, ⟨K, k1, k3, Fr.tr (Fr.tr x_op j3) (fun b k hb => ?_), ?_⟩, j5⟩
      · by_cases h1 : b = 109
        · subst h1; cases hb
        · by_cases h2 : b = 110
          · subst h2; cases hb
          · by_cases h3 : b = 111
            · subst h3; cases hb
            · rw [k2 b h1 h2 h3]
      · rw [k2 3 (by omega) (by omega) (by omega), j6 3 (by omega), up_ne (by omega), ap_ne (by omega), up_ne (by omega)]
    have ms : ∀ t q ρ L I, Ms t G ρ I → ∀ kk : jH → Option (Int32 × jH), ∃ J z, f_X11_sentence_L82 5000 129 (nI s) (nI e) kk 5000 (dwn e) (hp q ρ L (j_up (j_up (j_up I 129 13 (nI 0)) 129 10 (nI 0)) 147 e (nI 0))) = kk (hp q (rr ρ z) L J) ∧ Fr tSn (j_up (j_up I 129 13 (nI 0)) 129 10 (nI 0)) J ∧ ∀ j, j ≤ e → J 147 j = nI (om (seC P (tls (gLx G) e d) (lxW (gLx G)) e j) 100000000) := by
      intro t q ρ L I hM kk
      have hM2 := Ms_tx (f := fun _ => 0) (Ms_0 (x := nI 0) hM)
      have hQ := MQ_of hM2
      have h12 := hM2.2.2.2.2.1.1.1
      rw [Nat.zero_add] at h12
      have tx : ∀ k, k < e → j_up (j_up I 129 13 (nI 0)) 129 10 (nI 0) 135 k = nI (48 + d k) ∧ d k ≤ 9 := fun k hk => by
        have h1 := hd k hk
        rw [up_ne (by omega), up_ne (by omega), hM.1.2 k (by omega), ← hfe, h1.1, by8_s _ (by omega)]
        exact ⟨rfl, h1.2⟩
      obtain ⟨J, z, j1, j2, j3⟩ := m_seD (q := q) (L := L) (s := s) hQ w9 w2 h12 tx (by omega) hP_ (kk := kk) e 5000 (j_up (j_up (j_up I 129 13 (nI 0)) 129 10 (nI 0)) 147 e (nI 0)) ρ.2.2.1 (Nat.le_refl e) (by omega) (Fr.up Fr.rf rfl) (fun j j1 j2 => by
        have : j = e := by omega
        subst this
        rw [seC_T]
        exact up_eq)
      exact ⟨J, z, j1, j2, j3⟩
    have opn : ∀ q ρ L I, Xr G ρ L I → f_X9_open 5000 1 (nI 12) (hp q ρ L I) = some (hp q ρ L (ap (j_up I 1 3 (nI (min e 12))) 0)) := fun q ρ L I hX => by
      have op := x_open (q := q) (ρ := ρ) (L := L) (m := 12) hX.1.1.1 (by omega) (by omega)
      rw [← hTe] at op
      exact op
    obtain ⟨k', hk'⟩ : ∃ k', e = k' + 1 := ⟨e - 1, by omega⟩
    cases hC : seC P (tls (gLx G) e d) (lxW (gLx G)) e 0 with
    | none =>
      refine ⟨-nI 200, sRw (sTx G oTx) (gRw G), hGt, XH_x _ ?_, MH_x _ ?_⟩
      · intro q ρ L I hX
        have rd := xrd q ρ L I hX
        rw [if_pos ⟨e1, rfl⟩] at rd
        obtain ⟨J, j1, ⟨K, k1, k2, k3, k4⟩, hA⟩ := xs q ρ L I hX
        rw [hC] at k1
        have op := opn q ρ L I hX
        obtain ⟨⟨hT, hL, hD, hP, hS, hU, hK, hR, hρ⟩, hW⟩ := hX
        refine ⟨ρ, L, K, ?_, k3, ⟨rfl, rfl, hρ⟩, rfl, by unfold XW at hW ⊢; rw [k4]; exact hW⟩
        have hP2 : ap (j_up I 1 3 (nI (min e 12))) 0 0 17 = nI (gS G) := by rw [ap_ne (by omega), up_ne (by omega)]; exact hP.2
        have h11 : ap (j_up I 1 3 (nI (min e 12))) e 1 1 = nI e := by rw [ap_nk (by omega), up_nk (by omega), hTe]; exact hT.1
        simp (disch := first | omega | assumption) only [f_X10_sentence, ↓bX, ↓bXA, ↓jn_, ↓ob_, ↓b2_, ↓reduceIte, nn_lt, nn_le, nn_eq, nI_add, pk_mul, nn_su, gn_lt, gn_le, ng_lt, ng_le, ng_eq, gn_eq, gg_eq, n_m1, n_cl, if_true, if_false, if_pos, if_neg, lt0, ↓oe op, ↓b2e (x_isS1 (q := q) (ρ := ρ) (L := L) hP2 (by omega) hs), ↓b2e rd, h11, ↓oe j1, ↓b2e k1]
      · rintro t q ρ L I ⟨hM, hW⟩
        obtain ⟨J, z, j1, j2, j3⟩ := ms t q ρ L I hM (fun (h32 : jH) =>
            (jg_R 11 34 h32 129).bind (fun v33 =>
            (ja_I 100 h32 v33 (nI 0)).bind (fun v34 =>
            if v34 < nI 100000000 then
              (jp_I 11 12 h32 129 (nI 0)).bind (fun h35 =>
              f_X11_sentence_L191 5000 129 (nI s) (nI e) (fun (h52 : jH) =>
                (jg_R 11 34 h52 129).bind (fun v53 =>
                (ja_I 100 h52 v53 (nI 0)).bind (fun v54 =>
                some (v54, h52)))) 5000 (nI 0) h35)
            else
              some (-nI 200, h32))))
        have j0 := j3 0 (by omega)
        rw [hC, om_n] at j0
        refine ⟨rr ρ z, L, J, ?_, Fr.tr (by rw [up_co (by omega)]; exact Fr.up Fr.rf rfl) (tSn_N j2), ⟨rfl, rfl, rfl⟩, rfl, ?_⟩
        · obtain ⟨hT, hL, hD, hP, hS, hU, hK, hR⟩ := Ms_0 (x := nI 0) hM
          have hP2 : j_up (j_up I 129 13 (nI 0)) 129 10 (nI 0) 129 1 = nI (gS G) := by rw [up_nk (by omega)]; exact hP.2
          have h10 := hT.1
          rw [← hTe] at h10
          rw [f_X11_sentence]
          simp (disch := first | omega | assumption) only [↓bM, ↓ob_, lt0, h10, ↓b2e (m_isS1 (q := q) (ρ := ρ) (L := L) hP2 (by omega) hs), nn_eq, if_neg, if_false]
          have t1 : ∀ k, k < (gTx G).1 → j_up (j_up I 129 13 (nI 0)) 129 10 (nI 0) 135 k = by8 ((gTx G).2 k) := fun k hk => by rw [up_ne (by omega)]; exact hT.2 k hk
          have dg := fun kf ks => m_dgL (q := q) (ρ := ρ) (L := L) (x1 := nI s) (kf := kf) (ks := ks) t1 w1 12 0 5000 (by omega) (by omega) (by omega)
          rw [← hTe, ← hfe, ← he] at dg
          rw [dg, if_pos rfl]
          simp (disch := first | omega | assumption) only [↓bM, ↓bMA, ↓ob_, lt0, if_neg, nn_su]
          have hdw : dwn e = nI (e - 1) := by rw [hk', dwn, Nat.add_sub_cancel]
          rw [hdw] at j1
          rw [j1]
          simp (disch := first | omega | assumption) only [↓bM, ↓bMA, ↓jn_, ↓ob_, ↓b2_, ↓reduceIte, nn_lt, nn_le, nn_eq, nI_add, pk_mul, nn_su, gn_lt, gn_le, ng_lt, ng_le, ng_eq, gn_eq, gg_eq, n_m1, n_cl, if_true, if_false, if_pos, if_neg, lt0, j0]
        · unfold MW at hW ⊢
          rw [j2 129 12 rfl, up_nk (by omega), up_nk (by omega)]
          exact hW
    | some c =>
      rw [hC] at cb
      have hc : c ≤ 7128 := cb
      obtain ⟨l, hl⟩ : ∃ l, l = sePt P (tls (gLx G) e d) (lxW (gLx G)) e e 0 := ⟨_, rfl⟩
      have hll : l.length ≤ e := by rw [hl]; exact sePt_le e 0
      refine ⟨nI c, sRw (sTx G oTx) (l.length, fun n => (nI (l.getD n 0)).toInt64), ⟨WT_0, w2, w3, w4, w5, w6, w7, by simp only []; omega, w9⟩, XH_x _ ?_, MH_x _ ?_⟩
      · intro q ρ L I hX
        have rd := xrd q ρ L I hX
        rw [if_pos ⟨e1, rfl⟩] at rd
        obtain ⟨J, j1, ⟨K, k1, k2, k3, k4⟩, hA⟩ := xs q ρ L I hX
        rw [hC] at k1
        have op := opn q ρ L I hX
        obtain ⟨⟨hT, hL, hD, hP, hS, hU, hK, hR, hρ⟩, hW⟩ := hX
        obtain ⟨L', l1, l2, l3, l4⟩ := x_seT (q := q) (ρ := ρ) (L := L) (J := K) (P := P) (tl := tls (gLx G) e d) (W := lxW (gLx G)) (T := e) (fun w i hi => tls_le hi) (by omega) hW10 k2 e 0 0 5000 L (by omega) (by omega) (by omega) (by omega) (by rw [hC]; rfl)
        rw [← hl, Nat.zero_add] at l1
        rw [← hl] at l3
        refine ⟨ρ, L', j_up K 3 1 (nI l.length), ?_, Fr.up k3 (by rcases hA with e | e <;> rw [e] <;> rfl), ⟨rfl, rfl, hρ⟩, l4 136 (by omega), up_eq, fun n hn => ?_⟩
        · have hP2 : ap (j_up I 1 3 (nI (min e 12))) 0 0 17 = nI (gS G) := by rw [ap_ne (by omega), up_ne (by omega)]; exact hP.2
          have h11 : ap (j_up I 1 3 (nI (min e 12))) e 1 1 = nI e := by rw [ap_nk (by omega), up_nk (by omega), hTe]; exact hT.1
          have ts : f_X10_tellSentence 5000 0 (nI e) (hp q ρ L K) = some (hp q ρ L' (j_up K 3 1 (nI l.length))) := by
            simp (disch := first | omega | assumption) only [f_X10_tellSentence, ↓bX, ↓ob_, lt0, ↓oe (x_clear (q := q) (ρ := ρ) (L := L) (I := K))]
            exact l1
          simp (disch := first | omega | assumption) only [f_X10_sentence, ↓bX, ↓bXA, ↓jn_, ↓ob_, ↓b2_, ↓reduceIte, nn_lt, nn_le, nn_eq, nI_add, pk_mul, nn_su, gn_lt, gn_le, ng_lt, ng_le, ng_eq, gn_eq, gg_eq, n_m1, n_cl, if_true, if_false, if_pos, if_neg, lt0, ↓oe op, ↓b2e (x_isS1 (q := q) (ρ := ρ) (L := L) hP2 (by omega) hs), ↓b2e rd, h11, ↓oe j1, ↓b2e k1, ↓oe ts]
        · have := l3 n hn
          rw [Nat.zero_add] at this
          exact this
      · rintro t q ρ L I ⟨hM, hW⟩
        obtain ⟨J, z, j1, j2, j3⟩ := ms t q ρ L I hM (fun (h32 : jH) =>
            (jg_R 11 34 h32 129).bind (fun v33 =>
            (ja_I 100 h32 v33 (nI 0)).bind (fun v34 =>
            if v34 < nI 100000000 then
              (jp_I 11 12 h32 129 (nI 0)).bind (fun h35 =>
              f_X11_sentence_L191 5000 129 (nI s) (nI e) (fun (h52 : jH) =>
                (jg_R 11 34 h52 129).bind (fun v53 =>
                (ja_I 100 h52 v53 (nI 0)).bind (fun v54 =>
                some (v54, h52)))) 5000 (nI 0) h35)
            else
              some (-nI 200, h32))))
        have j0 := j3 0 (by omega)
        rw [hC, om_s] at j0
        have hM2 := Ms_tx (f := fun _ => 0) (Ms_0 (x := nI 0) hM)
        have hQ := MQ_of hM2
        have h12 := hM2.2.2.2.2.1.1.1
        rw [Nat.zero_add] at h12
        have tx : ∀ k, k < e → j_up (j_up I 129 13 (nI 0)) 129 10 (nI 0) 135 k = nI (48 + d k) ∧ d k ≤ 9 := fun k hk => by
          have h1 := hd k hk
          rw [up_ne (by omega), up_ne (by omega), hM.1.2 k (by omega), ← hfe, h1.1, by8_s _ (by omega)]
          exact ⟨rfl, h1.2⟩
        obtain ⟨L', J', z', l1, l2, l3, l4, l5, l6, l7⟩ := m_seT (q := q) (L := L) (s := s) hQ w9 w2 h12 tx (by omega) hP_ (kk := fun (h52 : jH) =>
                (jg_R 11 34 h52 129).bind (fun v53 =>
                (ja_I 100 h52 v53 (nI 0)).bind (fun v54 =>
                some (v54, h52)))) e 0 0 5000 L (j_up J 129 12 (nI 0)) z (by omega) (by omega) (by omega) (by omega) (by rw [hC]; rfl) (Fr.up (tSn_N j2) rfl) up_eq (by rw [up_ne (by omega)]; exact j3)
        rw [← hl, Nat.zero_add] at l3
        rw [← hl] at l6
        have l40 := l4 0 (by omega)
        rw [hC, om_s] at l40
        refine ⟨rr ρ z', L', J', ?_, Fr.tr (by rw [up_co (by omega)]; exact Fr.up Fr.rf rfl) l2, ⟨rfl, rfl, rfl⟩, l7 4 (by omega), l3, fun n hn => ?_⟩
        · obtain ⟨hT, hL, hD, hP, hS, hU, hK, hR⟩ := Ms_0 (x := nI 0) hM
          have hP2 : j_up (j_up I 129 13 (nI 0)) 129 10 (nI 0) 129 1 = nI (gS G) := by rw [up_nk (by omega)]; exact hP.2
          have h10 := hT.1
          rw [← hTe] at h10
          rw [f_X11_sentence]
          simp (disch := first | omega | assumption) only [↓bM, ↓ob_, lt0, h10, ↓b2e (m_isS1 (q := q) (ρ := ρ) (L := L) hP2 (by omega) hs), nn_eq, if_neg, if_false]
          have t1 : ∀ k, k < (gTx G).1 → j_up (j_up I 129 13 (nI 0)) 129 10 (nI 0) 135 k = by8 ((gTx G).2 k) := fun k hk => by rw [up_ne (by omega)]; exact hT.2 k hk
          have dg := fun kf ks => m_dgL (q := q) (ρ := ρ) (L := L) (x1 := nI s) (kf := kf) (ks := ks) t1 w1 12 0 5000 (by omega) (by omega) (by omega)
          rw [← hTe, ← hfe, ← he] at dg
          rw [dg, if_pos rfl]
          simp (disch := first | omega | assumption) only [↓bM, ↓bMA, ↓ob_, lt0, if_neg, nn_su]
          have hdw : dwn e = nI (e - 1) := by rw [hk', dwn, Nat.add_sub_cancel]
          rw [hdw] at j1
          rw [j1]
          simp (disch := first | omega | assumption) only [↓bM, ↓bMA, ↓ob_, lt0, j0, nn_lt, if_pos]
          rw [l1]
          simp (disch := first | omega | assumption) only [↓bM, ↓bMA, ↓jn_, ↓ob_, ↓b2_, ↓reduceIte, nn_lt, nn_le, nn_eq, nI_add, pk_mul, nn_su, gn_lt, gn_le, ng_lt, ng_le, ng_eq, gn_eq, gg_eq, n_m1, n_cl, if_true, if_false, if_pos, if_neg, lt0, l40]
        · have := l6 n hn
          rw [Nat.zero_add] at this
          exact this
