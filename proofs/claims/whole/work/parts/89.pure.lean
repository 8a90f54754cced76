/-! SAID: the reference goes over all rows -/
theorem m_goH {q : pQ} {ρ : pP} {L : pL} {I : pI} {g : gL} {d : Nat → Nat} {pre : List Nat} {B : Nat × List Nat} {a1 : Int32} {rec : Nat → Int32 → Int32 → jH → Option jH} (hg : WL g) (hd : ∀ v, v < 5 → d v ≤ 9) (hin : ∀ x, x ∈ pre → x < lxW g) (hl : pre.length ≤ 4) (hLf : Lft g d pre I) (hWy : Wy pre I) (hB : BS B I) (hBb : B.1 < 1000000) : ∃ J, b_X11_goSaid 5000 rec 129 a1 (nI pre.length) (hp q ρ L I) = f_X11_goSaid_L61 5000 rec 129 (nI pre.length) 5000 a1 (hp q ρ L J) ∧ BS (sM (okv g d) B pre) J ∧ (∀ b, b ≠ 129 → b ≠ 156 → J b = I b) ∧ ∀ k, k ≠ 48 → k ≠ 49 → J 129 k = I 129 k := by
  have hW := hg.1
  by_cases h0 : pre = []
  · have es : sM (okv g d) B pre = B := if_neg (fun h => h.1 h0)
    rw [es]
    refine ⟨I, ?_, hB, fun b _ _ => rfl, fun k _ _ => rfl⟩
    rw [h0, List.length_nil]
    simp (disch := first | omega | assumption) only [b_X11_goSaid, ↓bM, jn_, lt0, nn_le, Nat.le_refl, if_true]
  · have h1 : pre.length ≠ 0 := fun h => h0 (List.length_eq_zero_iff.mp h)
    have dg : ∀ x, x ∈ pre → x < 10 := fun x hx => by have := hin x hx; omega
    have ia := m_isAll (q := q) (ρ := ρ) (L := L) hg hl hin hd hLf
    by_cases ho : okv g d pre = true
    · have es : sM (okv g d) B pre = (B.1 + 1, if B.1 = 0 ∨ enc pre < enc B.2 then pre else B.2) := if_pos ⟨h0, ho⟩
      rw [if_pos ho] at ia
      have fi := m_isF (q := q) (ρ := ρ) (L := L) hB hBb hl dg hWy
      by_cases hf : B.1 = 0 ∨ enc pre < enc B.2
      · rw [if_pos hf] at fi
        rw [es, if_pos hf]
        obtain ⟨J, j1, j2, j3⟩ := m_cpL (q := q) (ρ := ρ) (L := L) (c := pre) (a1 := a1) (rec := rec) hl (kk := fun (h12 : jH) =>
            (jg_I 11 49 h12 129).bind (fun v13 =>
            (jp_I 11 49 h12 129 (v13 + nI 1)).bind (fun h14 =>
            f_X11_goSaid_L61 5000 rec 129 (nI pre.length) 5000 a1 h14))) pre.length 0 5000 (j_up I 129 48 (nI pre.length)) (by omega) (by omega) (fun i hi => by rw [up_ne (by omega)]; exact hWy i hi) (fun i hi => absurd hi (Nat.not_lt_zero i))
        have j49 : J 129 49 = nI B.1 := by rw [j3 129 (by omega), up_nk (by omega)]; exact hB.1
        refine ⟨j_up J 129 49 (nI (B.1 + 1)), ?_, ⟨up_eq, fun _ => ⟨by rw [up_nk (by omega), j3 129 (by omega), up_eq], hl, dg, fun i hi => by rw [up_ne (by omega)]; exact j2 i hi⟩⟩, fun b b1 b2 => by rw [up_ne b1, j3 b b2, up_ne b1], fun k k1 k2 => by rw [up_nk k2, j3 129 (by omega), up_nk k1]⟩
        simp (disch := first | omega | assumption) only [b_X11_goSaid, ↓bM, jn_, lt0, nn_le, nn_eq, if_neg, if_false, ↓b2e ia, ↓b2e fi]
        refine j1.trans ?_
        simp (disch := first | omega | assumption) only [↓bM, j49, nI_add]
      · rw [if_neg hf] at fi
        rw [es, if_neg hf]
        have hp0 : 0 < B.1 := by
          by_cases e : B.1 = 0
          · exact absurd (.inl e) hf
          · omega
        obtain ⟨b1, b2, b3, b4⟩ := hB.2 hp0
        have h49 := hB.1
        refine ⟨j_up I 129 49 (nI (B.1 + 1)), ?_, ⟨up_eq, fun _ => ⟨by rw [up_nk (by omega)]; exact b1, b2, b3, fun i hi => by rw [up_ne (by omega)]; exact b4 i hi⟩⟩, fun b b1 b2 => by rw [up_ne b1], fun k k1 k2 => by rw [up_nk k2]⟩
        simp (disch := first | omega | assumption) only [b_X11_goSaid, ↓bM, jn_, lt0, nn_le, nn_eq, if_neg, if_false, ↓b2e ia, ↓b2e fi, if_true, h49, nI_add]
    · have es : sM (okv g d) B pre = B := if_neg (fun h => ho h.2)
      rw [if_neg ho] at ia
      rw [es]
      refine ⟨I, ?_, hB, fun b _ _ => rfl, fun k _ _ => rfl⟩
      simp (disch := first | omega | assumption) only [b_X11_goSaid, ↓bM, jn_, lt0, nn_le, nn_eq, if_neg, if_false, ↓b2e ia, if_true]
theorem fM_le {ok : List Nat → Bool} (l : List (List Nat)) (s : Nat × List Nat) : (l.foldl (sM ok) s).1 ≤ s.1 + l.length := by
  rw [(fM_eq (ok := ok) l s).1]
  have := List.countP_le_length (p := fun c => decide (c ≠ []) && ok c) (l := l)
  omega
theorem Wy_sn {pre : List Nat} {x : Nat} {I : pI} (h : Wy pre I) : Wy (pre ++ [x]) (j_up I 155 pre.length (nI x)) := by
  intro i hi
  rw [getD_sn hi]
  rw [List.length_append, List.length_singleton] at hi
  by_cases e : i < pre.length
  · rw [if_pos e, up_nk (by omega)]
    exact h i e
  · have : i = pre.length := by omega
    rw [if_neg e, this, up_eq]
theorem Wy_un {pre : List Nat} {x : Nat} {I : pI} (h : Wy (pre ++ [x]) I) : Wy pre I := by
  intro i hi
  have hl : (pre ++ [x]).length = pre.length + 1 := by rw [List.length_append, List.length_singleton]
  have := h i (by omega)
  rw [getD_sn (by omega), if_pos hi] at this
  exact this
theorem ML_sd {g : gL} {I J : pI} (h : Fr tSd I J) (hL : ML g I) : ML g J := ML_k (h 129 2 rfl) (h.row 131 (fun k => rfl)) (h.row 132 (fun k => rfl)) (h.row 133 (fun k => rfl)) hL
theorem BS_k {B : Nat × List Nat} {I J : pI} (e1 : J 129 49 = I 129 49) (e2 : J 129 48 = I 129 48) (e3 : J 156 = I 156) (h : BS B I) : BS B J := by
  unfold BS at h ⊢
  rw [e1, e2, e3]
  exact h
theorem m_go {q : pQ} {ρ : pP} {L : pL} {g : gL} {d : Nat → Nat} (hg : WL g) (hd : ∀ v, v < 5 → d v ≤ 9) : ∀ r w pre (B : Nat × List Nat) (I : pI) N, pre.length + r = 4 → w ≤ lxW g → (∀ x, x ∈ pre → x < lxW g) → ML g I → Lft g d pre I → Wy pre I → BS B I → B.1 + (lM (lxW g) r w pre).length < 1000000 → ∃ J, f_gS 5000 (N + r + 1) 129 (nI w) (nI pre.length) (hp q ρ L I) = some (hp q ρ L J) ∧ Lft g d pre J ∧ Wy pre J ∧ BS ((lM (lxW g) r w pre).foldl (sM (okv g d)) B) J ∧ Fr tSd I J
  | 0, w, pre, B, I, N, h1, h2, h3, hM, hLf, hWy, hB, hb => by
    have hW := hg.1
    obtain ⟨J, e1, e2, e3, e4⟩ := m_goH (q := q) (ρ := ρ) (L := L) (a1 := nI w) (rec := f_gS 5000 N) hg hd h3 (by omega) hLf hWy hB (by omega)
    have fr : Fr tSd I J := fun b k e => by
      by_cases b1 : b = 129
      · subst b1
        refine e4 k (fun h => ?_) (fun h => ?_)
        · rw [h] at e; cases e
        · rw [h] at e; cases e
      · rw [e3 b b1 (fun h => by rw [h] at e; cases e)]
    refine ⟨J, ?_, fun v hv => by rw [e3 154 (by omega) (by omega)]; exact hLf v hv, fun i hi => by rw [e3 155 (by omega) (by omega)]; exact hWy i hi, e2, fr⟩
    refine Eq.trans e1 ?_
    have h2' : J 129 2 = nI (lxW g) := (ML_sd fr hM).1
    have hl : pre.length = 4 := by omega
    rw [hl, f_X11_goSaid_L61]
    simp (disch := first | omega | assumption) only [↓bM, lt0, h2', nn_le, Nat.le_refl, if_true, ite_self]
  | r + 1, w, pre, B, I, N, h1, h2, h3, hM, hLf, hWy, hB, hb => by
    have hW := hg.1
    obtain ⟨J, e1, e2, e3, e4⟩ := m_goH (q := q) (ρ := ρ) (L := L) (a1 := nI w) (rec := f_gS 5000 (N + r + 1)) hg hd h3 (by omega) hLf hWy hB (by omega)
    have fr : Fr tSd I J := fun b k e => by
      by_cases b1 : b = 129
      · subst b1
        refine e4 k (fun h => ?_) (fun h => ?_)
        · rw [h] at e; cases e
        · rw [h] at e; cases e
      · rw [e3 b b1 (fun h => by rw [h] at e; cases e)]
    have inner : ∀ m w (B : Nat × List Nat) (I : pI) M, w + m = lxW g → m < M → ML g I → Lft g d pre I → Wy pre I → BS B I → B.1 + (lst (fun x => lM (lxW g) r x (pre ++ [x])) w m).length < 1000000 → ∃ J, f_X11_goSaid_L61 5000 (f_gS 5000 (N + r + 1)) 129 (nI pre.length) M (nI w) (hp q ρ L I) = some (hp q ρ L J) ∧ Lft g d pre J ∧ Wy pre J ∧ BS ((lst (fun x => lM (lxW g) r x (pre ++ [x])) w m).foldl (sM (okv g d)) B) J ∧ Fr tSd I J := by
      intro m
      induction m with
      | zero =>
        intro w B I M g1 g2 g3 g4 g5 g6 g7
        obtain ⟨M, rfl⟩ : ∃ M', M = M' + 1 := ⟨M - 1, by omega⟩
        refine ⟨I, ?_, g4, g5, g6, Fr.rf⟩
        have h2' : I 129 2 = nI (lxW g) := g3.1
        rw [f_X11_goSaid_L61]
        simp (disch := first | omega | assumption) only [↓bM, lt0, h2', nn_le, if_pos]
      | succ m ih =>
        intro w B I M g1 g2 g3 g4 g5 g6 g7
        obtain ⟨M, rfl⟩ : ∃ M', M = M' + 1 := ⟨M - 1, by omega⟩
        have hw : w < lxW g := by omega
        have h2' : I 129 2 = nI (lxW g) := g3.1
        have le : lst (fun x => lM (lxW g) r x (pre ++ [x])) w (m + 1) = lM (lxW g) r w (pre ++ [w]) ++ lst (fun x => lM (lxW g) r x (pre ++ [x])) (w + 1) m := rfl
        rw [le, List.length_append] at g7
        rw [le, List.foldl_append]
        have m1 : ML g (j_up I 155 pre.length (nI w)) := ML_k (by rw [up_ne (by omega)]) (by rw [up_ne (by omega)]) (by rw [up_ne (by omega)]) (by rw [up_ne (by omega)]) g3
        obtain ⟨I2, a1, a2, a3⟩ := m_take1 (q := q) (ρ := ρ) (L := L) (d := d) (x := w) (pre := pre) hg hw m1 (fun v hv => by rw [up_ne (by omega)]; exact g4 v hv)
        have m2 : ML g I2 := ML_k (by rw [a3 129 (by omega)]) (a3 131 (by omega)) (a3 132 (by omega)) (a3 133 (by omega)) m1
        obtain ⟨I3, b1, b2, b3, b4, b5⟩ := m_go (q := q) (ρ := ρ) (L := L) hg hd r w (pre ++ [w]) B I2 N (by rw [List.length_append, List.length_singleton]; omega) (by omega) (fun y hy => (List.mem_append.mp hy).elim (h3 y) (fun h => by rw [List.mem_singleton.mp h]; omega)) m2 a2 (fun i hi => by rw [a3 155 (by omega)]; exact Wy_sn g5 i hi) (BS_k (by rw [a3 129 (by omega), up_ne (by omega)]) (by rw [a3 129 (by omega), up_ne (by omega)]) (by rw [a3 156 (by omega), up_ne (by omega)]) g6) (by omega)
        rw [List.length_append, List.length_singleton] at b1
        have m3 := ML_sd b5 m2
        obtain ⟨I4, c1, c2, c3⟩ := m_take0 (q := q) (ρ := ρ) (L := L) (d := d) (x := w) (pre := pre) hg hw m3 b2
        have m4 : ML g I4 := ML_k (by rw [c3 129 (by omega)]) (c3 131 (by omega)) (c3 132 (by omega)) (c3 133 (by omega)) m3
        have fl := fM_le (ok := okv g d) (lM (lxW g) r w (pre ++ [w])) B
        obtain ⟨J, d1, d2, d3, d4, d5⟩ := ih (w + 1) _ I4 M (by omega) (by omega) m4 c2 (fun i hi => by rw [c3 155 (by omega)]; exact Wy_un b3 i hi) (BS_k (by rw [c3 129 (by omega)]) (by rw [c3 129 (by omega)]) (c3 156 (by omega)) b4) (by omega)
        refine ⟨J, ?_, d2, d3, d4, ?_⟩
        · rw [f_X11_goSaid_L61]
          simp (disch := first | omega | assumption) only [↓bM, ↓bMA, ↓ob_, lt0, h2', nn_le, if_neg, if_false, nI_add, ↓oe a1, ↓oe b1, ↓oe c1]
          exact d1
        · have f1 : Fr tSd I (j_up I 155 pre.length (nI w)) := Fr.up Fr.rf rfl
          have f2 : Fr tSd (j_up I 155 pre.length (nI w)) I2 := fun b k e => by rw [a3 b (fun h => by rw [h] at e; cases e)]
          have f3 : Fr tSd I3 I4 := fun b k e => by rw [c3 b (fun h => by rw [h] at e; cases e)]
          exact Fr.tr (Fr.tr (Fr.tr (Fr.tr f1 f2) b5) f3) d5
    have le : lM (lxW g) (r + 1) w pre = pre :: lst (fun x => lM (lxW g) r x (pre ++ [x])) w (lxW g - w) := rfl
    rw [le, List.length_cons] at hb
    rw [le, List.foldl_cons]
    have fl : (sM (okv g d) B pre).1 ≤ B.1 + 1 := fM_le (ok := okv g d) [pre] B
    obtain ⟨K, k1, k2, k3, k4, k5⟩ := inner (lxW g - w) w (sM (okv g d) B pre) J 5000 (by omega) (by omega) (ML_sd fr hM) (fun v hv => by rw [e3 154 (by omega) (by omega)]; exact hLf v hv) (fun i hi => by rw [e3 155 (by omega) (by omega)]; exact hWy i hi) e2 (by omega)
    exact ⟨K, Eq.trans e1 k1, k2, k3, k4, Fr.tr fr k5⟩
theorem m_sdD {q : pQ} {ρ : pP} {L : pL} {p x : Nat} (hx : x ≤ 1000) {kk : jH → Option (Int32 × jH)} : ∀ m j N (I : pI), j + m = 5 → m < N → ∃ J, f_X11_said_L13 5000 129 kk N (nI j) (hp q ρ L (mp I p (nI x))) = kk (hp q ρ L (mp J p (nI x))) ∧ ∀ b, b ≠ 154 → J b = I b
  | _, _, 0, _, _, h => absurd h (Nat.not_lt_zero _)
  | 0, j, N + 1, I, h1, h2 => by
    refine ⟨I, ?_, fun b _ => rfl⟩
    rw [f_X11_said_L13]
    simp (disch := first | omega | assumption) only [↓bM, ↓bMA, ↓jn_, ↓ob_, ↓b2_, ↓reduceIte, nn_lt, nn_le, nn_eq, nI_add, pk_mul, nn_su, gn_lt, gn_le, ng_lt, ng_le, ng_eq, gn_eq, gg_eq, n_m1, n_cl, if_true, if_false, if_pos, if_neg, lt0]
  | m + 1, j, N + 1, I, h1, h2 => by
    obtain ⟨J, e1, e2⟩ := m_sdD (q := q) (ρ := ρ) (L := L) (p := p) hx (kk := kk) m (j + 1) N (j_up I 154 j (nI 0)) (by omega) (by omega)
    refine ⟨J, ?_, fun b hb => by rw [e2 b hb, up_ne hb]⟩
    rw [f_X11_said_L13]
    simp (disch := first | omega | assumption) only [↓bM, ↓bMA, ↓jn_, ↓ob_, ↓b2_, ↓reduceIte, nn_lt, nn_le, nn_eq, nI_add, pk_mul, nn_su, gn_lt, gn_le, ng_lt, ng_le, ng_eq, gn_eq, gg_eq, n_m1, n_cl, if_true, if_false, if_pos, if_neg, lt0, ↓b2e (m_oneOfD (q := q) (ρ := ρ) (L := L) (I := I) (p := p) (x := x) (a := nI 48) (m := nI 10) hx), mp_co]
    exact e1
theorem m_sdL {q : pQ} {ρ : pP} {L : pL} {f : Nat → Nat} {T : Nat} {kk : jH → Option (Int32 × jH)} : ∀ m j N (I : pI), j + m = 5 → m < N → RdM ρ I f T → (∀ v, v < j → I 154 v = nI (sg f T v - 48)) → ∃ J p w, f_X11_said_L13 5000 129 kk N (nI j) (hp q ρ L (mp I j (-nI 1))) = kk (hp q ρ L (mp J p w)) ∧ (dgr f T m j = 5 → p = 5 ∧ w = -nI 1 ∧ ∀ v, v < 5 → J 154 v = nI (sg f T v - 48)) ∧ (dgr f T m j ≠ 5 → w = nI (dgr f T m j) ∧ p ≤ 5) ∧ ∀ b, b ≠ 154 → J b = I b
  | _, _, 0, _, _, h, _, _ => absurd h (Nat.not_lt_zero _)
  | 0, j, N + 1, I, h1, h2, h3, h4 => by
    have : j = 5 := by omega
    subst this
    refine ⟨I, 5, -nI 1, ?_, fun _ => ⟨rfl, rfl, h4⟩, fun h => absurd rfl h, fun b _ => rfl⟩
    rw [f_X11_said_L13]
    simp (disch := first | omega | assumption) only [↓bM, ↓bMA, ↓jn_, ↓ob_, ↓b2_, ↓reduceIte, nn_lt, nn_le, nn_eq, nI_add, pk_mul, nn_su, gn_lt, gn_le, ng_lt, ng_le, ng_eq, gn_eq, gg_eq, n_m1, n_cl, if_true, if_false, if_pos, if_neg, lt0]
  | m + 1, j, N + 1, I, h1, h2, h3, h4 => by
    have o := m_oneOf (q := q) (ρ := ρ) (L := L) (p := j) (a := 48) (m := 10) h3 (by omega) (by omega) (by omega)
    rw [dgr]
    by_cases hs : 48 ≤ sg f T j ∧ sg f T j < 58
    · rw [if_pos hs] at o ⊢
      obtain ⟨J, p, w, e1, e2, e3, e4⟩ := m_sdL (q := q) (ρ := ρ) (L := L) (f := f) (T := T) (kk := kk) m (j + 1) N (j_up I 154 j (nI (sg f T j - 48))) (by omega) (by omega) (RdM_k h3 (by rw [up_ne (by omega)]) (by rw [up_ne (by omega)]) (fun b hb => up_ne (by omega))) (fun v hv => by
        by_cases e : v = j
        · rw [e, up_eq]
        · rw [up_nk e]
          exact h4 v (by omega))
      refine ⟨J, p, w, ?_, e2, e3, fun b hb => by rw [e4 b hb, up_ne hb]⟩
      rw [f_X11_said_L13]
      simp (disch := first | omega | assumption) only [↓bM, ↓bMA, ↓jn_, ↓ob_, ↓b2_, ↓reduceIte, nn_lt, nn_le, nn_eq, nI_add, pk_mul, nn_su, gn_lt, gn_le, ng_lt, ng_le, ng_eq, gn_eq, gg_eq, n_m1, n_cl, if_true, if_false, if_pos, if_neg, lt0, ↓b2e o, mp_co]
      exact e1
    · rw [if_neg hs] at o ⊢
      obtain ⟨J, e1, e2⟩ := m_sdD (q := q) (ρ := ρ) (L := L) (p := j) (x := j) (by omega) (kk := kk) m (j + 1) N (j_up I 154 j (nI 0)) (by omega) (by omega)
      refine ⟨J, j, nI j, ?_, fun h => absurd h (by omega), fun _ => ⟨rfl, by omega⟩, fun b hb => by rw [e2 b hb, up_ne hb]⟩
      rw [f_X11_said_L13]
      simp (disch := first | omega | assumption) only [↓bM, ↓bMA, ↓jn_, ↓ob_, ↓b2_, ↓reduceIte, nn_lt, nn_le, nn_eq, nI_add, pk_mul, nn_su, gn_lt, gn_le, ng_lt, ng_le, ng_eq, gn_eq, gg_eq, n_m1, n_cl, if_true, if_false, if_pos, if_neg, lt0, ↓b2e o, mp_co]
      exact e1
theorem m_sdT {q : pQ} {ρ : pP} {I : pI} {c : List Nat} {W : Nat} (hc : c.length ≤ 4) (h48 : I 129 48 = nI c.length) (h49 : I 129 49 = nI W) (hW : 1 ≤ W ∧ W < 1000000) (h6 : ∀ i, i < c.length → I 156 i = nI (c.getD i 0)) {kk : jH → Option (Int32 × jH)} : ∀ m j N (L : pL), j + m = c.length → m < N → (∀ k, k < j → L 136 k = (nI (c.getD k 0)).toInt64) → ∃ L', f_X11_said_L70 5000 129 kk N (nI j) (hp q ρ L (j_up I 129 12 (nI j))) = kk (hp q ρ L' (j_up I 129 12 (nI c.length))) ∧ (∀ k, k < c.length → L' 136 k = (nI (c.getD k 0)).toInt64) ∧ ∀ b, b ≠ 136 → L' b = L b
  | _, _, 0, _, _, h, _ => absurd h (Nat.not_lt_zero _)
  | 0, j, N + 1, L, h1, h2, h3 => by
    have : j = c.length := by omega
    subst this
    refine ⟨L, ?_, h3, fun b _ => rfl⟩
    rw [f_X11_said_L70]
    simp (disch := first | omega | assumption) only [↓bM, up_nk, h48, nn_le, Nat.le_refl, if_true]
  | m + 1, j, N + 1, L, h1, h2, h3 => by
    obtain ⟨L', e1, e2, e3⟩ := m_sdT (q := q) (ρ := ρ) hc h48 h49 hW h6 (kk := kk) m (j + 1) N (j_up L 136 j (nI (c.getD j 0)).toInt64) (by omega) (by omega) (fun k hk => by
      by_cases e : k = j
      · rw [e, up_eq]
      · rw [up_nk e]
        exact h3 k (by omega))
    refine ⟨L', ?_, e2, fun b hb => by rw [e3 b hb, up_ne hb]⟩
    rw [f_X11_said_L70]
    simp (disch := first | omega | assumption) only [↓bM, ↓bMA, ↓ob_, lt0, up_nk, up_ne, h48, h49, nn_le, if_neg, if_false, h6, ↓oe (m_tell (q := q) (ρ := ρ) (L := L) (I := I) (r := j) (v := (nI (c.getD j 0)).toInt64) (by omega)), nI_add]
    exact e1
