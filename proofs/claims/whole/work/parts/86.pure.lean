/-! SAID: the class -/
def os (g : gL) (v : Nat) (c : List Nat) : Nat := c.foldl (fun a x => a + oft (lxL g x) (lxN g x) v) 0
theorem os_snoc {g : gL} {v x : Nat} {c : List Nat} : os g v (c ++ [x]) = os g v c + oft (lxL g x) (lxN g x) v := by
  simp [os, List.foldl_append]
def okv (g : gL) (d : Nat → Nat) (c : List Nat) : Bool := decide (os g 0 c = d 0) && decide (os g 1 c = d 1) && decide (os g 2 c = d 2) && decide (os g 3 c = d 3) && decide (os g 4 c = d 4)
theorem okv_iff {g : gL} {d : Nat → Nat} {c : List Nat} : okv g d c = true ↔ ∀ v, v < 5 → os g v c = d v := by
  unfold okv
  rw [Bool.and_eq_true, Bool.and_eq_true, Bool.and_eq_true, Bool.and_eq_true, decide_eq_true_iff, decide_eq_true_iff, decide_eq_true_iff, decide_eq_true_iff, decide_eq_true_iff]
  refine ⟨fun h v hv => ?_, fun h => ⟨⟨⟨⟨h 0 (by omega), h 1 (by omega)⟩, h 2 (by omega)⟩, h 3 (by omega)⟩, h 4 (by omega)⟩⟩
  rcases (show v = 0 ∨ v = 1 ∨ v = 2 ∨ v = 3 ∨ v = 4 by omega) with rfl | rfl | rfl | rfl | rfl
  · exact h.1.1.1.1
  · exact h.1.1.1.2
  · exact h.1.1.2
  · exact h.1.2
  · exact h.2
theorem oft_le' (l : Nat → Nat) (v : Nat) : ∀ n, oft l n v ≤ n
  | 0 => Nat.le_refl 0
  | n + 1 => by
    have ih := oft_le' l v n
    unfold oft at ih ⊢
    rw [fo_last]
    split <;> omega
theorem os_le {g : gL} {v : Nat} (hg : WL g) : ∀ c : List Nat, (∀ x, x ∈ c → x < lxW g) → os g v c ≤ 6 * c.length := by
  have key : ∀ (c : List Nat) (a : Nat), (∀ x, x ∈ c → x < lxW g) → c.foldl (fun a x => a + oft (lxL g x) (lxN g x) v) a ≤ a + 6 * c.length := by
    intro c
    induction c with
    | nil => intro a _; simp
    | cons x c ih =>
      intro a h
      have h1 := ih (a + oft (lxL g x) (lxN g x) v) (fun y hy => h y (List.mem_cons_of_mem _ hy))
      have h2 := oft_le' (lxL g x) v (lxN g x)
      have h3 := ((hg.2 x (h x List.mem_cons_self)).1).2
      simp only [List.foldl_cons, List.length_cons]
      omega
  intro c h
  have := key c 0 h
  unfold os
  omega
theorem ss_ {a b c : Nat} : nI a - nI b - nI c = nI a - nI (b + c) := by
  rw [← nI_add]
  apply Int32.toBitVec_inj.1
  show (nI a).toBitVec - (nI b).toBitVec - (nI c).toBitVec = (nI a).toBitVec - ((nI b).toBitVec + (nI c).toBitVec)
  bv_omega
theorem sb_eq {a b : Nat} (ha : a < 100000) (hb : b < 100000) : (nI a - nI b = nI 0) = (b = a) := propext (by
  rw [← Int32.toInt_inj, pk_sub_toInt (by omega) (by omega), n_ti (by omega)]
  omega)
/-- the row at hand: pre, then w so many times -/
def PkW (pre : List Nat) (n w : Nat) (J : pI) : Prop := (∀ i, i < pre.length → J 118 i = nI (pre.getD i 0)) ∧ ∀ i, pre.length ≤ i → i < pre.length + n → J 118 i = nI w
theorem getD_sn {pre : List Nat} {x i : Nat} (h : i < (pre ++ [x]).length) : (pre ++ [x]).getD i 0 = if i < pre.length then pre.getD i 0 else x := by
  rw [List.length_append, List.length_singleton] at h
  by_cases e : i < pre.length
  · rw [if_pos e]
    simp [List.getD_eq_getElem?_getD, List.getElem?_append_left e]
  · rw [if_neg e]
    have : i = pre.length := by omega
    subst this
    simp [List.getD_eq_getElem?_getD]
theorem PkW_in {pre : List Nat} {n w : Nat} {J : pI} (h : PkW pre (n + 1) w J) : PkW (pre ++ [w]) n w J := by
  refine ⟨fun i hi => ?_, fun i h1 h2 => ?_⟩
  · rw [getD_sn hi]
    rw [List.length_append, List.length_singleton] at hi
    by_cases e : i < pre.length
    · rw [if_pos e]
      exact h.1 i e
    · rw [if_neg e]
      exact h.2 i (by omega) (by omega)
  · rw [List.length_append, List.length_singleton] at h1 h2
    exact h.2 i (by omega) (by omega)
theorem PkW_out {pre : List Nat} {n x w : Nat} {J : pI} (h : PkW (pre ++ [x]) n w J) : (∀ i, i < pre.length → J 118 i = nI (pre.getD i 0)) ∧ J 118 pre.length = nI x ∧ ∀ i, pre.length < i → i < pre.length + (n + 1) → J 118 i = nI w := by
  have hl : (pre ++ [x]).length = pre.length + 1 := by rw [List.length_append, List.length_singleton]
  refine ⟨fun i hi => ?_, ?_, fun i h1 h2 => h.2 i (by omega) (by omega)⟩
  · have := h.1 i (by omega)
    rw [getD_sn (by omega), if_pos hi] at this
    exact this
  · have := h.1 pre.length (by omega)
    rw [getD_sn (by omega), if_neg (by omega)] at this
    exact this
theorem x_lvL {q : pQ} {ρ : pP} {L : pL} {I : pI} {g : gL} {d v : Nat} {c : List Nat} (hL : XL g I) (hg : WL g) (hv : v < 5) (hc : c.length ≤ 4) (hin : ∀ x, x ∈ c → x < lxW g) (hP : ∀ i, i < c.length → I 118 i = nI (c.getD i 0)) {kk : Int32 → jH → Option (Int32 × jH)} : ∀ b a N, b.length < N → c = a ++ b → f_X10_leavesNone_L17 5000 0 (nI c.length) (nI v) kk N (nI d - nI (os g v a)) (nI a.length) (hp q ρ L I) = kk (nI d - nI (os g v c)) (hp q ρ L I)
  | _, _, 0, h, _ => absurd h (Nat.not_lt_zero _)
  | [], a, N + 1, h, e => by
    rw [List.append_nil] at e
    have hc' : a.length ≤ 4 := by rw [← e]; exact hc
    rw [f_X10_leavesNone_L17, e, if_pos (by rw [nn_le (by omega) (by omega)]; omega)]
  | x :: b, a, N + 1, h, e => by
    have hl : c.length = a.length + (b.length + 1) := by rw [e, List.length_append, List.length_cons]
    have hx : I 118 a.length = nI x := by
      rw [hP a.length (by omega), e]
      simp [List.getD_eq_getElem?_getD]
    have hxW : x < lxW g := hin x (by rw [e]; simp)
    have ih := x_lvL hL hg hv hc hin hP (kk := kk) (q := q) (ρ := ρ) (L := L) (d := d) b (a ++ [x]) N (by rw [List.length_cons] at h; omega) (by rw [e]; simp)
    rw [os_snoc, List.length_append, List.length_singleton] at ih
    rw [f_X10_leavesNone_L17]
    simp (disch := first | omega | assumption) only [↓bX, ↓bXA, ↓ob_, lt0, nn_le, if_neg, if_false, hx, ↓b2e (x_heardIn (q := q) (ρ := ρ) (L := L) hL hg hxW hv), ss_, nI_add]
    exact ih
theorem x_leaves {q : pQ} {ρ : pP} {L : pL} {I : pI} {g : gL} {d : Nat → Nat} {c : List Nat} (hL : XL g I) (hg : WL g) (hc : c.length ≤ 4) (hin : ∀ x, x ∈ c → x < lxW g) (hP : ∀ i, i < c.length → I 118 i = nI (c.getD i 0)) (hd : ∀ v, v < 5 → I 117 v = nI (d v) ∧ d v ≤ 9) : ∀ m j N, j + m = 5 → m < N → (∀ v, v < j → os g v c = d v) → f_X10_leavesNone_L2 5000 0 (nI c.length) N (nI j) (hp q ρ L I) = some (if okv g d c = true then nI 1 else nI 0, hp q ρ L I)
  | _, _, 0, _, h, _ => absurd h (Nat.not_lt_zero _)
  | 0, j, N + 1, h1, h2, h3 => by
    have : okv g d c = true := okv_iff.mpr (fun v hv => h3 v (by omega))
    rw [if_pos this, f_X10_leavesNone_L2]
    simp (disch := first | omega | assumption) only [↓jn_, ↓ob_, ↓b2_, ↓reduceIte, nn_lt, nn_le, nn_eq, nI_add, pk_mul, nn_su, gn_lt, gn_le, ng_lt, ng_le, ng_eq, gn_eq, gg_eq, n_m1, n_cl, if_true, if_false, if_pos, if_neg, lt0]
  | m + 1, j, N + 1, h1, h2, h3 => by
    obtain ⟨e1, e2⟩ := hd j (by omega)
    have ob := os_le (v := j) hg c hin
    have lp := x_lvL (q := q) (ρ := ρ) (L := L) (d := d j) hL hg (show j < 5 by omega) hc hin hP (kk := fun (y8 : Int32) (h9 : jH) =>
        if y8 = nI 0 then
          f_X10_leavesNone_L2 5000 0 (nI c.length) N (nI (j + 1)) h9
        else
          some (nI 0, h9)) c [] 5000 (by omega) rfl
    rw [show os g j [] = 0 from rfl, nn_su (Nat.zero_le _), Nat.sub_zero, List.length_nil] at lp
    rw [f_X10_leavesNone_L2]
    simp (disch := first | omega | assumption) only [↓bX, ↓bXA, ↓ob_, lt0, nn_le, if_neg, if_false, e1, nI_add]
    rw [lp]
    by_cases h : os g j c = d j
    · rw [if_pos (by rw [sb_eq (by omega) (by omega)]; exact h)]
      exact x_leaves hL hg hc hin hP hd m (j + 1) N (by omega) (by omega) (fun v hv => by
        by_cases e : v = j
        · rw [e]; exact h
        · exact h3 v (by omega))
    · have : ¬ okv g d c = true := fun hh => h (okv_iff.mp hh j (by omega))
      rw [if_neg (by rw [sb_eq (by omega) (by omega)]; exact h), if_neg this]
/-- the next row -/
theorem x_pnD {q : pQ} {ρ : pP} {L : pL} {I : pI} {W p n : Nat} {x1 : Int32} (h5 : I 5 0 = nI W) (hW : W ≤ 10) (hp4 : p + n < 4) (hb : ∀ i, p < i → i < p + (n + 1) → I 118 i = nI (W - 1)) (ha : ∃ x, I 118 p = nI x ∧ x + 1 < W) {kk : Int32 → jH → Option (Int32 × jH)} : ∀ m N, m ≤ n → m < N → f_X10_pickNext_L4 5000 0 x1 kk N (nI (p + m)) (hp q ρ L I) = kk (nI p) (hp q ρ L I)
  | _, 0, _, h => absurd h (Nat.not_lt_zero _)
  | 0, N + 1, h1, h2 => by
    obtain ⟨x, e1, e2⟩ := ha
    rw [f_X10_pickNext_L4, Nat.add_zero]
    simp (disch := first | omega | assumption) only [↓bX, ↓bXA, ↓jn_, ↓ob_, ↓b2_, ↓reduceIte, nn_lt, nn_le, nn_eq, nI_add, pk_mul, nn_su, gn_lt, gn_le, ng_lt, ng_le, ng_eq, gn_eq, gg_eq, n_m1, n_cl, if_true, if_false, if_pos, if_neg, lt0, e1, h5]
  | m + 1, N + 1, h1, h2 => by
    obtain ⟨x, e1, e2⟩ := ha
    have e := hb (p + (m + 1)) (by omega) (by omega)
    have ih := x_pnD (q := q) (ρ := ρ) (L := L) (x1 := x1) h5 hW hp4 hb ⟨x, e1, e2⟩ (kk := kk) m N (by omega) (by omega)
    rw [f_X10_pickNext_L4]
    simp (disch := first | omega | assumption) only [↓bX, ↓bXA, ↓jn_, ↓ob_, ↓b2_, ↓reduceIte, nn_lt, nn_le, nn_eq, nI_add, pk_mul, nn_su, gn_lt, gn_le, ng_lt, ng_le, ng_eq, gn_eq, gg_eq, n_m1, n_cl, if_true, if_false, if_pos, if_neg, lt0, e, h5]
    rw [show p + (m + 1) - 1 = p + m by omega]
    exact ih
theorem x_pnF {q : pQ} {ρ : pP} {L : pL} {p e w : Nat} (he : e ≤ 4) (hw : w < 100) : ∀ m j N (I : pI), j + m = e → m < N → p ≤ j → (∀ i, p ≤ i → i < j → I 118 i = nI w) → ∃ J, f_X10_pickNext_L50 5000 0 (nI e) (nI w) N (nI j) (hp q ρ L I) = some (nI 1, hp q ρ L J) ∧ (∀ i, p ≤ i → i < e → J 118 i = nI w) ∧ (∀ i, i < p → J 118 i = I 118 i) ∧ ∀ b, b ≠ 118 → J b = I b
  | _, _, 0, _, _, h, _, _ => absurd h (Nat.not_lt_zero _)
  | 0, j, N + 1, I, h1, h2, h3, h4 => by
    refine ⟨I, ?_, fun i a b => h4 i a (by omega), fun i _ => rfl, fun b _ => rfl⟩
    rw [f_X10_pickNext_L50]
    simp (disch := first | omega | assumption) only [↓bX, ↓bXA, ↓jn_, ↓ob_, ↓b2_, ↓reduceIte, nn_lt, nn_le, nn_eq, nI_add, pk_mul, nn_su, gn_lt, gn_le, ng_lt, ng_le, ng_eq, gn_eq, gg_eq, n_m1, n_cl, if_true, if_false, if_pos, if_neg, lt0]
  | m + 1, j, N + 1, I, h1, h2, h3, h4 => by
    obtain ⟨J, e1, e2, e3, e4⟩ := x_pnF (q := q) (ρ := ρ) (L := L) (p := p) he hw m (j + 1) N (j_up I 118 j (nI w)) (by omega) (by omega) (by omega) (fun i a b => by
      by_cases e : i = j
      · rw [e, up_eq]
      · rw [up_nk e]
        exact h4 i a (by omega))
    refine ⟨J, ?_, e2, fun i hi => by rw [e3 i hi, up_nk (by omega)], fun b hb => by rw [e4 b hb, up_ne hb]⟩
    rw [f_X10_pickNext_L50]
    simp (disch := first | omega | assumption) only [↓bX, ↓bXA, ↓jn_, ↓ob_, ↓b2_, ↓reduceIte, nn_lt, nn_le, nn_eq, nI_add, pk_mul, nn_su, gn_lt, gn_le, ng_lt, ng_le, ng_eq, gn_eq, gg_eq, n_m1, n_cl, if_true, if_false, if_pos, if_neg, lt0]
    exact e1
theorem x_pn1 {q : pQ} {ρ : pP} {L : pL} {I : pI} {W n x : Nat} {pre : List Nat} (h5 : I 5 0 = nI W) (hW : W ≤ 10) (hl : pre.length + (n + 1) ≤ 4) (hx : x + 1 < W) (hP : PkW (pre ++ [x]) n (W - 1) I) : ∃ J, f_X10_pickNext 5000 0 (nI (pre.length + (n + 1))) (hp q ρ L I) = some (nI 1, hp q ρ L J) ∧ PkW pre (n + 1) (x + 1) J ∧ ∀ b, b ≠ 118 → J b = I b := by
  obtain ⟨p1, p2, p3⟩ := PkW_out hP
  obtain ⟨J, e1, e2, e3, e4⟩ := x_pnF (q := q) (ρ := ρ) (L := L) (p := pre.length) (e := pre.length + (n + 1)) (w := x + 1) hl (by omega) (n + 1) pre.length 5000 I (by omega) (by omega) (Nat.le_refl _) (fun i a b => absurd a (by omega))
  refine ⟨J, ?_, ⟨fun i hi => by rw [e3 i hi]; exact p1 i hi, e2⟩, e4⟩
  have dn_ := x_pnD (q := q) (ρ := ρ) (L := L) (x1 := nI (pre.length + (n + 1))) h5 hW (show pre.length + n < 4 by omega) p3 ⟨x, p2, hx⟩ (kk := fun (y5 : Int32) (h6 : jH) =>
      if nI 0 ≤ y5 then
        (jg_R 10 14 h6 0).bind (fun v7 =>
        (ja_I 100 h6 v7 y5).bind (fun v8 =>
        f_X10_pickNext_L50 5000 0 (nI (pre.length + (n + 1))) (v8 + nI 1) 5000 y5 h6))
      else
        some (nI 0, h6)) n 5000 (Nat.le_refl n) (by omega)
  simp (disch := first | omega | assumption) only [f_X10_pickNext, ↓bX, lt0, nn_su]
  rw [show pre.length + (n + 1) - 1 = pre.length + n by omega]
  refine dn_.trans ?_
  simp (disch := first | omega | assumption) only [↓bX, ↓bXA, ↓jn_, ↓ob_, ↓b2_, ↓reduceIte, nn_lt, nn_le, nn_eq, nI_add, pk_mul, nn_su, gn_lt, gn_le, ng_lt, ng_le, ng_eq, gn_eq, gg_eq, n_m1, n_cl, if_true, if_false, if_pos, if_neg, lt0, p2]
  exact e1
theorem x_pn0L {q : pQ} {ρ : pP} {L : pL} {I : pI} {W : Nat} {x1 : Int32} (h5 : I 5 0 = nI W) (hW : W ≤ 10) (hW1 : 1 ≤ W) {kk : Int32 → jH → Option (Int32 × jH)} : ∀ m N, m < 4 → m + 1 < N → (∀ i, i ≤ m → I 118 i = nI (W - 1)) → f_X10_pickNext_L4 5000 0 x1 kk N (nI m) (hp q ρ L I) = kk (-nI 1) (hp q ρ L I)
  | _, 0, _, h, _ => absurd h (Nat.not_lt_zero _)
  | _, 1, _, h, _ => absurd h (by omega)
  | 0, N + 2, h1, h2, h3 => by
    have e := h3 0 (Nat.le_refl 0)
    have m1 : nI 0 + -nI 1 = -nI 1 := by decide
    rw [f_X10_pickNext_L4]
    simp (disch := first | omega | assumption) only [↓bX, ↓bXA, ↓ob_, lt0, nn_lt, nn_su, if_neg, if_false, e, h5, m1, Nat.lt_irrefl]
    rw [f_X10_pickNext_L4, if_pos (by rw [show (0 : Int32) = nI 0 from rfl, gn_lt (by omega) (by omega) (by omega)]; trivial)]
  | m + 1, N + 2, h1, h2, h3 => by
    have e := h3 (m + 1) (Nat.le_refl _)
    have ih := x_pn0L (q := q) (ρ := ρ) (L := L) (x1 := x1) h5 hW hW1 (kk := kk) m (N + 1) (by omega) (by omega) (fun i hi => h3 i (by omega))
    rw [f_X10_pickNext_L4]
    simp (disch := first | omega | assumption) only [↓bX, ↓bXA, ↓ob_, lt0, nn_lt, nn_su, if_neg, if_false, e, h5, n_m1, Nat.lt_irrefl]
    rw [show m + 1 - 1 = m by omega]
    exact ih
theorem x_pn0 {q : pQ} {ρ : pP} {L : pL} {I : pI} {W n : Nat} (h5 : I 5 0 = nI W) (hW : W ≤ 10) (hW1 : 1 ≤ W) (hn : n < 4) (hP : PkW [] (n + 1) (W - 1) I) : f_X10_pickNext 5000 0 (nI (n + 1)) (hp q ρ L I) = some (nI 0, hp q ρ L I) := by
  have dn_ := x_pn0L (q := q) (ρ := ρ) (L := L) (x1 := nI (n + 1)) h5 hW hW1 (kk := fun (y5 : Int32) (h6 : jH) =>
      if nI 0 ≤ y5 then
        (jg_R 10 14 h6 0).bind (fun v7 =>
        (ja_I 100 h6 v7 y5).bind (fun v8 =>
        f_X10_pickNext_L50 5000 0 (nI (n + 1)) (v8 + nI 1) 5000 y5 h6))
      else
        some (nI 0, h6)) n 5000 hn (by omega) (fun i hi => hP.2 i (Nat.zero_le i) (by rw [List.length_nil]; omega))
  simp (disch := first | omega | assumption) only [f_X10_pickNext, ↓bX, lt0, nn_su]
  rw [show n + 1 - 1 = n by omega]
  refine dn_.trans ?_
  simp (disch := first | omega | assumption) only [ng_le, if_false]
