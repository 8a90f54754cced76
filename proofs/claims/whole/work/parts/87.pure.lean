/-! SAID: the class goes over all rows -/
theorem x_tpL {q : pQ} {ρ : pP} {c : List Nat} (hc : c.length ≤ 4) {I : pI} (hP : ∀ i, i < c.length → I 118 i = nI (c.getD i 0)) : ∀ m j N (L : pL), j + m = c.length → m < N → (∀ k, k < j → L 4 k = (nI (c.getD k 0)).toInt64) → ∃ L', f_X10_tellPicked_L2 5000 0 (nI c.length) N (nI j) (hp q ρ L (j_up I 3 1 (nI j))) = some (hp q ρ L' (j_up I 3 1 (nI c.length))) ∧ (∀ k, k < c.length → L' 4 k = (nI (c.getD k 0)).toInt64) ∧ ∀ b, b ≠ 4 → L' b = L b
  | _, _, 0, _, _, h, _ => absurd h (Nat.not_lt_zero _)
  | 0, j, N + 1, L, h1, h2, h3 => by
    have : j = c.length := by omega
    subst this
    refine ⟨L, ?_, h3, fun b _ => rfl⟩
    rw [f_X10_tellPicked_L2, if_pos (by rw [nn_le (by omega) (by omega)]; omega)]
  | m + 1, j, N + 1, L, h1, h2, h3 => by
    obtain ⟨L', e1, e2, e3⟩ := x_tpL (q := q) (ρ := ρ) hc hP m (j + 1) N (j_up L 4 j (nI (c.getD j 0)).toInt64) (by omega) (by omega) (fun k hk => by
      by_cases e : k = j
      · rw [e, up_eq]
      · rw [up_nk e]
        exact h3 k (by omega))
    refine ⟨L', ?_, e2, fun b hb => by rw [e3 b hb, up_ne hb]⟩
    rw [f_X10_tellPicked_L2]
    simp (disch := first | omega | assumption) only [↓bX, ↓bXA, ↓ob_, lt0, nn_le, if_neg, if_false, up_ne, hP, ↓oe (x_add (q := q) (ρ := ρ) (L := L) (I := I) (r := j) (v := (nI (c.getD j 0)).toInt64) (by omega)), nI_add]
    exact e1
/-- what has been told so far, and what else is as it was -/
def sdS (I0 : pI) (L0 : pL) (g : gL) (s : Nat × List Nat) (L : pL) (J : pI) : Prop := (J 3 1 = nI s.2.length ∧ ∀ k, k < s.2.length → L 4 k = (nI (s.2.getD k 0)).toInt64) ∧ s.2.length ≤ 4 ∧ (∀ b, b ≠ 4 → L b = L0 b) ∧ ∀ b k, b ≠ 118 → (b = 3 → k ≠ 1) → J b k = I0 b k
theorem sdS_k {I0 : pI} {L0 : pL} {g : gL} {s : Nat × List Nat} {L : pL} {J K : pI} (h : sdS I0 L0 g s L J) (e : ∀ b, b ≠ 118 → K b = J b) : sdS I0 L0 g s L K := by
  obtain ⟨⟨h1, h2⟩, h3, h4, h5⟩ := h
  exact ⟨⟨by rw [e 3 (by omega)]; exact h1, h2⟩, h3, h4, fun b k b1 b2 => by rw [e b b1]; exact h5 b k b1 b2⟩
theorem sdS_b {I0 : pI} {L0 : pL} {g : gL} {s : Nat × List Nat} {L : pL} {J : pI} (h : sdS I0 L0 g s L J) {b : Nat} (h1 : b ≠ 118) (h2 : b ≠ 3) : J b = I0 b := funext (fun k => h.2.2.2 b k h1 (fun e => absurd e h2))
theorem getD_out {l : List Nat} {i : Nat} (h : l.length ≤ i) : l.getD i 0 = 0 := by
  simp [List.getD_eq_getElem?_getD, List.getElem?_eq_none h]
/-- one row is looked at -/
theorem x_see {q : pQ} {ρ : pP} {g : gL} {d : Nat → Nat} {c : List Nat} {I0 : pI} {L0 : pL} {s : Nat × List Nat} {L : pL} {J : pI} (hL : XL g I0) (hg : WL g) (h1 : 1 ≤ c.length) (hc : c.length ≤ 4) (hin : ∀ x, x ∈ c → x < lxW g) (hd : ∀ v, v < 5 → I0 117 v = nI (d v) ∧ d v ≤ 9) (hP : ∀ i, i < c.length → J 118 i = nI (c.getD i 0)) (hS : sdS I0 L0 g s L J) (M i : Nat) (hi : i < 1000) : ∃ L' J', f_X10_waysToSay_L27 5000 0 (nI c.length) (M + 1) (nI s.1) (nI 1) (nI i) (hp q ρ L J) = j_b2 (f_X10_pickNext 5000 0 (nI c.length) (hp q ρ L' J')) (fun v9 h8 => f_X10_waysToSay_L27 5000 0 (nI c.length) M (nI (sX (okv g d) s c).1) v9 (nI (i + 1)) h8) ∧ sdS I0 L0 g (sX (okv g d) s c) L' J' ∧ J' 118 = J 118 := by
  have hL' : XL g J := XL_k (fun b b1 b2 => sdS_b hS (by omega) (by omega)) hL
  have lv : f_X10_leavesNone 5000 0 (nI c.length) (hp q ρ L J) = some (if okv g d c = true then nI 1 else nI 0, hp q ρ L J) := by
    simp (disch := first | omega | assumption) only [f_X10_leavesNone, ↓bX, lt0]
    exact x_leaves hL' hg hc hin hP (fun v hv => by rw [sdS_b hS (by omega) (by omega)]; exact hd v hv) 5 0 5000 (by omega) (by omega) (fun v hv => absurd hv (Nat.not_lt_zero v))
  by_cases ho : okv g d c = true
  · have es : sX (okv g d) s c = (s.1 + 1, if s.2 = [] then c else s.2) := if_pos ho
    rw [if_pos ho] at lv
    rw [es]
    obtain ⟨⟨s1, s2⟩, s3, s4, s5⟩ := hS
    by_cases h0 : s.2 = []
    · have s1' : J 3 1 = nI 0 := by rw [s1, h0]; rfl
      obtain ⟨L', e1, e2, e3⟩ := x_tpL (q := q) (ρ := ρ) hc hP c.length 0 5000 L (by omega) (by omega) (fun k hk => absurd hk (Nat.not_lt_zero k))
      rw [← up_self s1'] at e1
      have tp : f_X10_tellPicked 5000 0 (nI c.length) (hp q ρ L J) = some (hp q ρ L' (j_up J 3 1 (nI c.length))) := by
        simp (disch := first | omega | assumption) only [f_X10_tellPicked, ↓bX, lt0]
        exact e1
      refine ⟨L', j_up J 3 1 (nI c.length), ?_, ?_, up_ne (by omega)⟩
      · rw [f_X10_waysToSay_L27]
        simp (disch := first | omega | assumption) only [↓bX, ↓ob_, jn_, lt0, nn_le, nn_eq, if_neg, if_false, ↓b2e lv, s1', if_true, ↓oe tp, nI_add]
      · rw [if_pos h0]
        exact ⟨⟨up_eq, e2⟩, hc, fun b hb => by rw [e3 b hb]; exact s4 b hb, fun b k b1 b2 => by
          by_cases e : b = 3
          · subst e
            rw [up_nk (b2 rfl)]
            exact s5 3 k b1 b2
          · rw [up_ne e]
            exact s5 b k b1 b2⟩
    · have hl : s.2.length ≠ 0 := fun h => h0 (List.length_eq_zero_iff.mp h)
      refine ⟨L, J, ?_, ?_, rfl⟩
      · rw [f_X10_waysToSay_L27]
        simp (disch := first | omega | assumption) only [↓bX, ↓ob_, jn_, lt0, nn_le, nn_eq, if_neg, if_false, ↓b2e lv, s1, nI_add]
      · rw [if_neg h0]
        exact ⟨⟨s1, s2⟩, s3, s4, s5⟩
  · have es : sX (okv g d) s c = s := if_neg ho
    rw [if_neg ho] at lv
    rw [es]
    refine ⟨L, J, ?_, hS, rfl⟩
    rw [f_X10_waysToSay_L27]
    simp (disch := first | omega | assumption) only [↓bX, ↓ob_, jn_, lt0, nn_le, nn_eq, if_neg, if_false, ↓b2e lv, if_true, nI_add]
/-- all rows that begin with pre are looked at -/
def sdV (q : pQ) (ρ : pP) (I0 : pI) (L0 : pL) (g : gL) (d : Nat → Nat) (mn : Nat) (l : List (List Nat)) (A B : pI → Prop) : Prop := ∀ M i s L J, A J → sdS I0 L0 g s L J → i + l.length ≤ 1000 → ∃ L' J', f_X10_waysToSay_L27 5000 0 (nI mn) (M + l.length) (nI s.1) (nI 1) (nI i) (hp q ρ L J) = j_b2 (f_X10_pickNext 5000 0 (nI mn) (hp q ρ L' J')) (fun v9 h8 => f_X10_waysToSay_L27 5000 0 (nI mn) M (nI (l.foldl (sX (okv g d)) s).1) v9 (nI (i + l.length)) h8) ∧ sdS I0 L0 g (l.foldl (sX (okv g d)) s) L' J' ∧ B J'
theorem x_all {q : pQ} {ρ : pP} {g : gL} {d : Nat → Nat} {I0 : pI} {L0 : pL} {mn : Nat} (hL : XL g I0) (hg : WL g) (hm1 : 1 ≤ mn) (hm : mn ≤ 4) (hd : ∀ v, v < 5 → I0 117 v = nI (d v) ∧ d v ≤ 9) : ∀ n w pre, pre.length + n = mn → w < lxW g → (∀ x, x ∈ pre → x < lxW g) → sdV q ρ I0 L0 g d mn (lX (lxW g) n w pre) (PkW pre n w) (PkW pre n (lxW g - 1))
  | 0, w, pre, h1, h2, h3 => by
    intro M i s L J hA hS hi
    have e : pre.length = mn := by omega
    obtain ⟨L', J', a1, a2, a3⟩ := x_see (q := q) (ρ := ρ) (c := pre) hL hg (by omega) (by omega) h3 hd hA.1 hS M i (by have : (lX (lxW g) 0 w pre).length = 1 := rfl; omega)
    rw [e] at a1
    exact ⟨L', J', a1, a2, ⟨fun i hi => by rw [a3]; exact hA.1 i hi, fun i p1 p2 => absurd p1 (by omega)⟩⟩
  | n + 1, w, pre, h1, h2, h3 => by
    have hW := hg.1
    have inner : ∀ m x, x + (m + 1) = lxW g → sdV q ρ I0 L0 g d mn (lst (fun x => lX (lxW g) n x (pre ++ [x])) x (m + 1)) (PkW pre (n + 1) x) (PkW pre (n + 1) (lxW g - 1)) := by
      intro m
      induction m with
      | zero =>
        intro x hx M i s L J hA hS hi
        have e : lst (fun x => lX (lxW g) n x (pre ++ [x])) x (0 + 1) = lX (lxW g) n x (pre ++ [x]) := by
          show lX (lxW g) n x (pre ++ [x]) ++ [] = _
          rw [List.append_nil]
        rw [e] at hi ⊢
        obtain ⟨L', J', a1, a2, a3⟩ := x_all (q := q) (ρ := ρ) (I0 := I0) (L0 := L0) hL hg hm1 hm hd n x (pre ++ [x]) (by rw [List.length_append, List.length_singleton]; omega) (by omega) (fun y hy => (List.mem_append.mp hy).elim (h3 y) (fun h => by rw [List.mem_singleton.mp h]; omega)) M i s L J (PkW_in hA) hS hi
        refine ⟨L', J', a1, a2, ?_⟩
        obtain ⟨p1, p2, p3⟩ := PkW_out a3
        refine ⟨p1, fun i b1 b2 => ?_⟩
        by_cases e : i = pre.length
        · rw [e, p2, show x = lxW g - 1 by omega]
        · exact p3 i (by omega) (by omega)
      | succ m ih =>
        intro x hx M i s L J hA hS hi
        have e : lst (fun x => lX (lxW g) n x (pre ++ [x])) x (m + 1 + 1) = lX (lxW g) n x (pre ++ [x]) ++ lst (fun x => lX (lxW g) n x (pre ++ [x])) (x + 1) (m + 1) := rfl
        rw [e] at hi ⊢
        rw [List.length_append] at hi ⊢
        rw [List.foldl_append]
        obtain ⟨L', J', a1, a2, a3⟩ := x_all (q := q) (ρ := ρ) (I0 := I0) (L0 := L0) hL hg hm1 hm hd n x (pre ++ [x]) (by rw [List.length_append, List.length_singleton]; omega) (by omega) (fun y hy => (List.mem_append.mp hy).elim (h3 y) (fun h => by rw [List.mem_singleton.mp h]; omega)) (M + (lst (fun x => lX (lxW g) n x (pre ++ [x])) (x + 1) (m + 1)).length) i s L J (PkW_in hA) hS (by omega)
        have h5 : J' 5 0 = nI (lxW g) := by rw [sdS_b a2 (by omega) (by omega)]; exact hL.1
        obtain ⟨K, k1, k2, k3⟩ := x_pn1 (q := q) (ρ := ρ) (L := L') h5 hW (show pre.length + (n + 1) ≤ 4 by omega) (show x + 1 < lxW g by omega) a3
        rw [h1] at k1
        obtain ⟨L2, J2, b1, b2, b3⟩ := ih (x + 1) (by omega) M (i + (lX (lxW g) n x (pre ++ [x])).length) _ L' K k2 (sdS_k a2 k3) (by omega)
        refine ⟨L2, J2, ?_, b2, b3⟩
        rw [show M + ((lX (lxW g) n x (pre ++ [x])).length + (lst (fun x => lX (lxW g) n x (pre ++ [x])) (x + 1) (m + 1)).length) = M + (lst (fun x => lX (lxW g) n x (pre ++ [x])) (x + 1) (m + 1)).length + (lX (lxW g) n x (pre ++ [x])).length by omega, a1, k1, b2_, b1, show i + ((lX (lxW g) n x (pre ++ [x])).length + (lst (fun x => lX (lxW g) n x (pre ++ [x])) (x + 1) (m + 1)).length) = i + (lX (lxW g) n x (pre ++ [x])).length + (lst (fun x => lX (lxW g) n x (pre ++ [x])) (x + 1) (m + 1)).length by omega]
    obtain ⟨m, hm⟩ : ∃ m, lxW g - w = m + 1 := ⟨lxW g - w - 1, by omega⟩
    show sdV q ρ I0 L0 g d mn (lst (fun x => lX (lxW g) n x (pre ++ [x])) w (lxW g - w)) _ _
    rw [hm]
    exact inner m w (by omega)
/-- how many there are -/
def cnS (f : Nat → Nat) : Nat → Nat
  | 0 => 0
  | m + 1 => f (m + 1) + cnS f m
def cn : Nat → Nat → Nat
  | 0 => fun _ => 1
  | n + 1 => cnS (cn n)
theorem lX_len {W : Nat} : ∀ n w pre, (lX W n w pre).length = cn n (W - w)
  | 0, w, pre => by simp [lX, cn]
  | n + 1, w, pre => by
    have key : ∀ m w, w + m ≤ W → W - w = m → (lst (fun x => lX W n x (pre ++ [x])) w m).length = cn (n + 1) m := by
      intro m
      induction m with
      | zero => intro w _ _; rfl
      | succ m ih =>
        intro w h1 h2
        show (lX W n w (pre ++ [w]) ++ lst (fun x => lX W n x (pre ++ [x])) (w + 1) m).length = cn n (m + 1) + cn (n + 1) m
        rw [List.length_append, lX_len n w (pre ++ [w]), h2, ih (w + 1) (by omega) (by omega)]
    by_cases h : w ≤ W
    · exact key (W - w) w (by omega) rfl
    · have : W - w = 0 := by omega
      show (lst (fun x => lX W n x (pre ++ [x])) w (W - w)).length = _
      rw [this]
      rfl
theorem cn_le : ∀ m, m < 11 → ∀ n, n < 5 → cn n m ≤ 715 := by decide
theorem x_ws0 {q : pQ} {ρ : pP} {L : pL} {n : Nat} (hn : n ≤ 4) {kk : jH → Option (Int32 × jH)} : ∀ m j N (I : pI), j + m = n → m < N → (∀ i, i < j → I 118 i = nI 0) → ∃ J, f_X10_waysToSay_L2 5000 0 (nI n) kk N (nI j) (hp q ρ L I) = kk (hp q ρ L J) ∧ (∀ i, i < n → J 118 i = nI 0) ∧ ∀ b, b ≠ 118 → J b = I b
  | _, _, 0, _, _, h, _ => absurd h (Nat.not_lt_zero _)
  | 0, j, N + 1, I, h1, h2, h3 => by
    refine ⟨I, ?_, fun i hi => h3 i (by omega), fun b _ => rfl⟩
    rw [f_X10_waysToSay_L2]
    simp (disch := first | omega | assumption) only [↓bX, ↓bXA, ↓jn_, ↓ob_, ↓b2_, ↓reduceIte, nn_lt, nn_le, nn_eq, nI_add, pk_mul, nn_su, gn_lt, gn_le, ng_lt, ng_le, ng_eq, gn_eq, gg_eq, n_m1, n_cl, if_true, if_false, if_pos, if_neg, lt0]
  | m + 1, j, N + 1, I, h1, h2, h3 => by
    obtain ⟨J, e1, e2, e3⟩ := x_ws0 (q := q) (ρ := ρ) (L := L) hn (kk := kk) m (j + 1) N (j_up I 118 j (nI 0)) (by omega) (by omega) (fun i hi => by
      by_cases e : i = j
      · rw [e, up_eq]
      · rw [up_nk e]
        exact h3 i (by omega))
    refine ⟨J, ?_, e2, fun b hb => by rw [e3 b hb, up_ne hb]⟩
    rw [f_X10_waysToSay_L2]
    simp (disch := first | omega | assumption) only [↓bX, ↓bXA, ↓jn_, ↓ob_, ↓b2_, ↓reduceIte, nn_lt, nn_le, nn_eq, nI_add, pk_mul, nn_su, gn_lt, gn_le, ng_lt, ng_le, ng_eq, gn_eq, gg_eq, n_m1, n_cl, if_true, if_false, if_pos, if_neg, lt0]
    exact e1
theorem x_ways {q : pQ} {ρ : pP} {g : gL} {d : Nat → Nat} {I0 : pI} {L0 L : pL} {n : Nat} {t : List Nat} {J : pI} (hL : XL g I0) (hg : WL g) (hW1 : 1 ≤ lxW g) (hn : n < 4) (hd : ∀ v, v < 5 → I0 117 v = nI (d v) ∧ d v ≤ 9) (hS : sdS I0 L0 g (0, t) L J) : ∃ L' J', f_X10_waysToSay 5000 0 (nI (n + 1)) (hp q ρ L J) = some (nI ((lX (lxW g) (n + 1) 0 []).foldl (sX (okv g d)) (0, t)).1, hp q ρ L' J') ∧ sdS I0 L0 g ((lX (lxW g) (n + 1) 0 []).foldl (sX (okv g d)) (0, t)) L' J' := by
  have hW := hg.1
  obtain ⟨K, k1, k2, k3⟩ := x_ws0 (q := q) (ρ := ρ) (L := L) (n := n + 1) (by omega) (kk := fun (h3 : jH) => f_X10_waysToSay_L27 5000 0 (nI (n + 1)) 5000 (nI 0) (nI 1) (nI 0) h3) (n + 1) 0 5000 J (by omega) (by omega) (fun i hi => absurd hi (Nat.not_lt_zero i))
  have hlen : (lX (lxW g) (n + 1) 0 []).length ≤ 715 := by
    rw [lX_len]
    exact cn_le _ (by omega) _ (by omega)
  obtain ⟨ln, hln⟩ : ∃ ln, ln = (lX (lxW g) (n + 1) 0 []).length := ⟨_, rfl⟩
  rw [← hln] at hlen
  obtain ⟨L', J', a1, a2, a3⟩ := x_all (q := q) (ρ := ρ) (I0 := I0) (L0 := L0) (d := d) (mn := n + 1) hL hg (by omega) (by omega) hd (n + 1) 0 [] (by rw [List.length_nil]; omega) (by omega) (fun x hx => by cases hx) (5000 - ln) 0 (0, t) L K ⟨fun i hi => absurd hi (Nat.not_lt_zero i), fun i _ hi => k2 i (by rw [List.length_nil] at hi; omega)⟩ (sdS_k hS k3) (by omega)
  have h5 : J' 5 0 = nI (lxW g) := by rw [sdS_b a2 (by omega) (by omega)]; exact hL.1
  have pn := x_pn0 (q := q) (ρ := ρ) (L := L') h5 hW hW1 hn a3
  refine ⟨L', J', ?_, a2⟩
  simp (disch := first | omega | assumption) only [f_X10_waysToSay, ↓bX, lt0]
  rw [k1]
  rw [← hln, show 5000 - ln + ln = 5000 by omega, pn, b2_] at a1
  simp only [] at a1
  rw [a1]
  obtain ⟨M, hM⟩ : ∃ M, 5000 - ln = M + 1 := ⟨5000 - ln - 1, by omega⟩
  rw [hM, f_X10_waysToSay_L27]
  simp (disch := first | omega | assumption) only [lt0, nn_le, if_neg, if_true]
theorem fX_add {ok : List Nat → Bool} (l : List (List Nat)) (a : Nat) (t : List Nat) (h : ∀ c, c ∈ l → c ≠ []) : l.foldl (sX ok) (a, t) = (a + (l.foldl (sX ok) (0, t)).1, (l.foldl (sX ok) (0, t)).2) := by
  obtain ⟨x1, x2⟩ := fX_eq (ok := ok) l (a, t) h
  obtain ⟨y1, y2⟩ := fX_eq (ok := ok) l (0, t) h
  refine Prod.ext ?_ ?_
  · simp only [] at x1 y1 ⊢
    omega
  · simp only [] at x2 y2 ⊢
    rw [x2, y2]
theorem x_said {q : pQ} {ρ : pP} {g : gL} {d : Nat → Nat} {I0 : pI} {L : pL} (hL : XL g I0) (hg : WL g) (hd : ∀ v, v < 5 → I0 117 v = nI (d v) ∧ d v ≤ 9) (h3 : I0 3 1 = nI 0) : ∃ L' J', f_X10_said_L71 5000 0 5000 (nI 0) (nI 1) (hp q ρ L I0) = some (nI ((lAll (lxW g)).foldl (sX (okv g d)) (0, [])).1, hp q ρ L' J') ∧ sdS I0 L g ((lAll (lxW g)).foldl (sX (okv g d)) (0, [])) L' J' := by
  have hW := hg.1
  have hS0 : sdS I0 L g (0, []) L I0 := ⟨⟨h3, fun k hk => absurd hk (Nat.not_lt_zero k)⟩, Nat.zero_le _, fun b _ => rfl, fun b k _ _ => rfl⟩
  by_cases h0 : lxW g = 0
  · refine ⟨L, I0, ?_, ?_⟩
    · have : lAll (lxW g) = [] := by rw [h0]; rfl
      rw [this]
      have h5 := hL.1
      rw [h0] at h5
      rw [f_X10_said_L71]
      simp (disch := first | omega | assumption) only [↓bX, ↓bXA, ↓jn_, ↓ob_, ↓b2_, ↓reduceIte, nn_lt, nn_le, nn_eq, nI_add, pk_mul, nn_su, gn_lt, gn_le, ng_lt, ng_le, ng_eq, gn_eq, gg_eq, n_m1, n_cl, if_true, if_false, if_pos, if_neg, lt0, h5, List.foldl_nil, Nat.le_refl]
    · have : lAll (lxW g) = [] := by rw [h0]; rfl
      rw [this]
      exact hS0
  · have ne : ∀ n, 1 ≤ n → ∀ c, c ∈ lX (lxW g) n 0 [] → c ≠ [] := fun n hn c hc h => by
      have := (lX_enc hW n 0 [] c hc).2.2.1
      rw [h] at this
      simp only [List.length_nil] at this
      omega
    have step : ∀ n a t L1 J1 N, n < 4 → a < 5000 → sdS I0 L g (0, t) L1 J1 → ∃ L2 J2, f_X10_said_L71 5000 0 (N + 1) (nI a) (nI (n + 1)) (hp q ρ L1 J1) = f_X10_said_L71 5000 0 N (nI ((lX (lxW g) (n + 1) 0 []).foldl (sX (okv g d)) (a, t)).1) (nI (n + 2)) (hp q ρ L2 J2) ∧ sdS I0 L g (0, ((lX (lxW g) (n + 1) 0 []).foldl (sX (okv g d)) (a, t)).2) L2 J2 := by
      intro n a t L1 J1 N hn ha hS
      obtain ⟨L2, J2, e1, e2⟩ := x_ways (q := q) (ρ := ρ) hL hg (by omega) hn hd hS
      have h5 : J1 5 0 = nI (lxW g) := by rw [sdS_b hS (by omega) (by omega)]; exact hL.1
      rw [fX_add _ a t (ne (n + 1) (by omega))]
      refine ⟨L2, J2, ?_, e2⟩
      rw [f_X10_said_L71]
      simp (disch := first | omega | assumption) only [↓bX, ↓ob_, lt0, h5, nn_lt, nn_le, if_neg, if_false, ↓b2e e1, nI_add]
    have bd : ∀ n a t, 1 ≤ n → n ≤ 4 → ((lX (lxW g) n 0 []).foldl (sX (okv g d)) (a, t)).1 ≤ a + 715 := fun n a t h1 h2 => by
      rw [(fX_eq (ok := okv g d) (lX (lxW g) n 0 []) (a, t) (ne n h1)).1]
      have := List.length_filter_le (okv g d) (lX (lxW g) n 0 [])
      rw [lX_len] at this
      have := cn_le (lxW g - 0) (by omega) n (by omega)
      simp only []
      omega
    obtain ⟨s1, hs1⟩ : ∃ s, s = (lX (lxW g) 1 0 []).foldl (sX (okv g d)) (0, []) := ⟨_, rfl⟩
    obtain ⟨s2, hs2⟩ : ∃ s, s = (lX (lxW g) 2 0 []).foldl (sX (okv g d)) (s1.1, s1.2) := ⟨_, rfl⟩
    obtain ⟨s3, hs3⟩ : ∃ s, s = (lX (lxW g) 3 0 []).foldl (sX (okv g d)) (s2.1, s2.2) := ⟨_, rfl⟩
    obtain ⟨s4, hs4⟩ : ∃ s, s = (lX (lxW g) 4 0 []).foldl (sX (okv g d)) (s3.1, s3.2) := ⟨_, rfl⟩
    have b1 := bd 1 0 [] (by omega) (by omega)
    have b2 := bd 2 s1.1 s1.2 (by omega) (by omega)
    have b3 := bd 3 s2.1 s2.2 (by omega) (by omega)
    rw [← hs1] at b1
    rw [← hs2] at b2
    rw [← hs3] at b3
    obtain ⟨L1, J1, e1, f1⟩ := step 0 0 [] L I0 4999 (by omega) (by omega) hS0
    rw [← hs1] at e1 f1
    obtain ⟨L2, J2, e2, f2⟩ := step 1 s1.1 s1.2 L1 J1 4998 (by omega) (by omega) f1
    rw [← hs2] at e2 f2
    obtain ⟨L3, J3, e3, f3⟩ := step 2 s2.1 s2.2 L2 J2 4997 (by omega) (by omega) f2
    rw [← hs3] at e3 f3
    obtain ⟨L4, J4, e4, f4⟩ := step 3 s3.1 s3.2 L3 J3 4996 (by omega) (by omega) f3
    rw [← hs4] at e4 f4
    have hall : (lAll (lxW g)).foldl (sX (okv g d)) (0, []) = s4 := by
      unfold lAll
      rw [List.foldl_append, List.foldl_append, List.foldl_append, ← hs1, hs4, hs3, hs2]
    rw [hall]
    refine ⟨L4, J4, ?_, f4⟩
    rw [e1, e2, e3, e4, f_X10_said_L71]
    simp (disch := first | omega | assumption) only [lt0, nn_lt, if_pos]
