/-! SAID: the reference -/
def tSd (b k : Nat) : Bool := Nat.beq b 154 || Nat.beq b 155 || Nat.beq b 156 || (Nat.beq b 129 && (Nat.beq k 48 || Nat.beq k 49))
theorem tSd_N {I J : pI} (h : Fr tSd I J) : Fr tN I J := fun b k e => by
  refine h b k ?_
  cases e2 : tSd b k with
  | false => rfl
  | true =>
    exfalso
    unfold tSd at e2
    rw [Bool.or_eq_true, Bool.or_eq_true, Bool.or_eq_true, Bool.and_eq_true, Bool.or_eq_true] at e2
    rcases e2 with ((e2 | e2) | e2) | ⟨e2, e3⟩
    · rw [Nat.eq_of_beq_eq_true e2] at e; cases e
    · rw [Nat.eq_of_beq_eq_true e2] at e; cases e
    · rw [Nat.eq_of_beq_eq_true e2] at e; cases e
    · rw [Nat.eq_of_beq_eq_true e2] at e
      rcases e3 with e3 | e3
      · rw [Nat.eq_of_beq_eq_true e3] at e; cases e
      · rw [Nat.eq_of_beq_eq_true e3] at e; cases e
def Lft (g : gL) (d : Nat → Nat) (pre : List Nat) (J : pI) : Prop := ∀ v, v < 5 → J 154 v = nI (d v) - nI (os g v pre)
def Wy (pre : List Nat) (J : pI) : Prop := ∀ i, i < pre.length → J 155 i = nI (pre.getD i 0)
def BS (B : Nat × List Nat) (J : pI) : Prop := J 129 49 = nI B.1 ∧ (0 < B.1 → J 129 48 = nI B.2.length ∧ B.2.length ≤ 4 ∧ (∀ x, x ∈ B.2 → x < 10) ∧ ∀ i, i < B.2.length → J 156 i = nI (B.2.getD i 0))
theorem m_takeL {q : pQ} {ρ : pP} {L : pL} {g : gL} {x : Nat} {y : Int32} {a : Nat → Int32} (hg : WL g) (hx : x < lxW g) : ∀ m j N (I : pI), j + m = 5 → m < N → ML g I → (∀ v, v < j → I 154 v = a v - y * nI (oft (lxL g x) (lxN g x) v)) → (∀ v, j ≤ v → v < 5 → I 154 v = a v) → ∃ J, f_X11_take_L2 5000 129 (nI x) y N (nI j) (hp q ρ L I) = some (hp q ρ L J) ∧ (∀ v, v < 5 → J 154 v = a v - y * nI (oft (lxL g x) (lxN g x) v)) ∧ ∀ b, b ≠ 154 → J b = I b
  | _, _, 0, _, _, h, _, _, _ => absurd h (Nat.not_lt_zero _)
  | 0, j, N + 1, I, h1, h2, hM, h3, h4 => by
    refine ⟨I, ?_, fun v hv => h3 v (by omega), fun b _ => rfl⟩
    rw [f_X11_take_L2]
    simp (disch := first | omega | assumption) only [↓bM, ↓bMA, ↓jn_, ↓ob_, ↓b2_, ↓reduceIte, nn_lt, nn_le, nn_eq, nI_add, pk_mul, nn_su, gn_lt, gn_le, ng_lt, ng_le, ng_eq, gn_eq, gg_eq, n_m1, n_cl, if_true, if_false, if_pos, if_neg, lt0]
  | m + 1, j, N + 1, I, h1, h2, hM, h3, h4 => by
    have e := h4 j (Nat.le_refl j) (by omega)
    obtain ⟨J, e1, e2, e3⟩ := m_takeL (q := q) (ρ := ρ) (L := L) (y := y) (a := a) hg hx m (j + 1) N (j_up I 154 j (a j - y * nI (oft (lxL g x) (lxN g x) j))) (by omega) (by omega) (ML_k (by rw [up_ne (by omega)]) (by rw [up_ne (by omega)]) (by rw [up_ne (by omega)]) (by rw [up_ne (by omega)]) hM) (fun v hv => by
      by_cases e : v = j
      · rw [e, up_eq]
      · rw [up_nk e]
        exact h3 v (by omega)) (fun v v1 v2 => by
      rw [up_nk (by omega)]
      exact h4 v (by omega) v2)
    refine ⟨J, ?_, e2, fun b hb => by rw [e3 b hb, up_ne hb]⟩
    rw [f_X11_take_L2]
    simp (disch := first | omega | assumption) only [↓bM, ↓bMA, ↓ob_, lt0, nn_le, if_neg, if_false, e, ↓b2e (m_often (q := q) (ρ := ρ) (L := L) hM hg hx (show j < 5 by omega)), nI_add]
    exact e1
theorem m_take1 {q : pQ} {ρ : pP} {L : pL} {I : pI} {g : gL} {d : Nat → Nat} {x : Nat} {pre : List Nat} (hg : WL g) (hx : x < lxW g) (hM : ML g I) (h : Lft g d pre I) : ∃ J, f_X11_take 5000 129 (nI x) (nI 1) (hp q ρ L I) = some (hp q ρ L J) ∧ Lft g d (pre ++ [x]) J ∧ ∀ b, b ≠ 154 → J b = I b := by
  obtain ⟨J, e1, e2, e3⟩ := m_takeL (q := q) (ρ := ρ) (L := L) (y := nI 1) (a := fun v => nI (d v) - nI (os g v pre)) hg hx 5 0 5000 I (by omega) (by omega) hM (fun v hv => absurd hv (Nat.not_lt_zero v)) (fun v _ hv => h v hv)
  refine ⟨J, ?_, fun v hv => ?_, e3⟩
  · simp (disch := first | omega | assumption) only [f_X11_take, ↓bM, lt0]
    exact e1
  · rw [e2 v hv, pk_mul, Nat.one_mul, ss_, os_snoc]
theorem sa_ {a b c : Nat} : nI a - nI (b + c) - -nI 1 * nI c = nI a - nI b := by
  rw [Int32.neg_mul, pk_mul, Nat.one_mul, ← nI_add]
  apply Int32.toBitVec_inj.1
  show (nI a).toBitVec - ((nI b).toBitVec + (nI c).toBitVec) - -(nI c).toBitVec = (nI a).toBitVec - (nI b).toBitVec
  bv_omega
theorem m_take0 {q : pQ} {ρ : pP} {L : pL} {I : pI} {g : gL} {d : Nat → Nat} {x : Nat} {pre : List Nat} (hg : WL g) (hx : x < lxW g) (hM : ML g I) (h : Lft g d (pre ++ [x]) I) : ∃ J, f_X11_take 5000 129 (nI x) (-nI 1) (hp q ρ L I) = some (hp q ρ L J) ∧ Lft g d pre J ∧ ∀ b, b ≠ 154 → J b = I b := by
  obtain ⟨J, e1, e2, e3⟩ := m_takeL (q := q) (ρ := ρ) (L := L) (y := -nI 1) (a := fun v => nI (d v) - nI (os g v (pre ++ [x]))) hg hx 5 0 5000 I (by omega) (by omega) hM (fun v hv => absurd hv (Nat.not_lt_zero v)) (fun v _ hv => h v hv)
  refine ⟨J, ?_, fun v hv => ?_, e3⟩
  · simp (disch := first | omega | assumption) only [f_X11_take, ↓bM, lt0]
    exact e1
  · rw [e2 v hv, os_snoc, sa_]
theorem m_isAllL {q : pQ} {ρ : pP} {L : pL} {I : pI} {g : gL} {d : Nat → Nat} {c : List Nat} (hg : WL g) (hc : c.length ≤ 4) (hin : ∀ x, x ∈ c → x < lxW g) (hd : ∀ v, v < 5 → d v ≤ 9) (h : Lft g d c I) : ∀ m j N, j + m = 5 → m < N → (∀ v, v < j → os g v c = d v) → f_X11_isAll_L10 5000 154 (nI 5) N (nI j) (hp q ρ L I) = some (if okv g d c = true then nI 1 else nI 0, hp q ρ L I)
  | _, _, 0, _, h, _ => absurd h (Nat.not_lt_zero _)
  | 0, j, N + 1, h1, h2, h3 => by
    rw [if_pos (okv_iff.mpr (fun v hv => h3 v (by omega))), f_X11_isAll_L10]
    simp (disch := first | omega | assumption) only [↓bM, ↓bMA, ↓jn_, ↓ob_, ↓b2_, ↓reduceIte, nn_lt, nn_le, nn_eq, nI_add, pk_mul, nn_su, gn_lt, gn_le, ng_lt, ng_le, ng_eq, gn_eq, gg_eq, n_m1, n_cl, if_true, if_false, if_pos, if_neg, lt0]
  | m + 1, j, N + 1, h1, h2, h3 => by
    have e := h j (by omega)
    have ob := os_le (v := j) hg c hin
    have db := hd j (by omega)
    rw [f_X11_isAll_L10]
    simp (disch := first | omega | assumption) only [↓bMA, lt0, nn_le, if_neg, if_false, e, nI_add]
    by_cases h : os g j c = d j
    · rw [if_pos (by rw [sb_eq (by omega) (by omega)]; exact h)]
      exact m_isAllL hg hc hin hd ‹_› m (j + 1) N (by omega) (by omega) (fun v hv => by
        by_cases e : v = j
        · rw [e]; exact h
        · exact h3 v (by omega))
    · have : ¬ okv g d c = true := fun hh => h (okv_iff.mp hh j (by omega))
      rw [if_neg (by rw [sb_eq (by omega) (by omega)]; exact h), if_neg this]
theorem m_isAll {q : pQ} {ρ : pP} {L : pL} {I : pI} {g : gL} {d : Nat → Nat} {c : List Nat} (hg : WL g) (hc : c.length ≤ 4) (hin : ∀ x, x ∈ c → x < lxW g) (hd : ∀ v, v < 5 → d v ≤ 9) (h : Lft g d c I) : f_X11_isAll 5000 129 (hp q ρ L I) = some (if okv g d c = true then nI 1 else nI 0, hp q ρ L I) := by
  simp (disch := first | omega | assumption) only [f_X11_isAll, ↓bM, ↓bMA, lt0]
  exact m_isAllL hg hc hin hd h 5 0 5000 (by omega) (by omega) (fun v hv => absurd hv (Nat.not_lt_zero v))
/-! the order of rows, as the reference compares -/
theorem encF {l : List Nat} : ∀ e, (∀ x, x ∈ l → x < 10) → e * 10 ^ l.length ≤ l.foldl (fun a x => a * 10 + x) e ∧ l.foldl (fun a x => a * 10 + x) e < (e + 1) * 10 ^ l.length := by
  induction l with
  | nil => intro e _; simp
  | cons x l ih =>
    intro e h
    obtain ⟨a, b⟩ := ih (e * 10 + x) (fun y hy => h y (List.mem_cons_of_mem _ hy))
    have hx := h x List.mem_cons_self
    obtain ⟨t, ht⟩ : ∃ t, t = 10 ^ l.length := ⟨_, rfl⟩
    rw [← ht] at a b
    simp only [List.foldl_cons, List.length_cons]
    rw [Nat.pow_succ, ← ht]
    have e1 : (e * 10 + x) * t = e * (t * 10) + x * t := by rw [Nat.add_mul, Nat.mul_assoc, Nat.mul_comm 10 t]
    have e2 : (e * 10 + x + 1) * t = e * (t * 10) + (x + 1) * t := by rw [Nat.add_assoc, Nat.add_mul, Nat.mul_assoc, Nat.mul_comm 10 t]
    have e3 : (x + 1) * t ≤ 10 * t := Nat.mul_le_mul_right t (by omega)
    have e4 : (e + 1) * (t * 10) = e * (t * 10) + t * 10 := by rw [Nat.add_mul, Nat.one_mul]
    exact ⟨by omega, by omega⟩
theorem enc_len {c b : List Nat} (hc : ∀ x, x ∈ c → x < 10) (hb : ∀ x, x ∈ b → x < 10) (h : c.length < b.length) : enc c < enc b := by
  have a1 := (encF (l := c) 1 hc).2
  have a2 := (encF (l := b) 1 hb).1
  have a3 : 10 ^ (c.length + 1) ≤ 10 ^ b.length := Nat.pow_le_pow_right (by omega) h
  rw [Nat.pow_succ] at a3
  unfold enc
  omega
theorem enc_lx {a x y : List Nat} {u w : Nat} (hl : x.length = y.length) (hx : ∀ z, z ∈ x → z < 10) (hy : ∀ z, z ∈ y → z < 10) (h : u < w) : enc (a ++ u :: x) < enc (a ++ w :: y) := by
  unfold enc
  rw [List.foldl_append, List.foldl_append, List.foldl_cons, List.foldl_cons]
  obtain ⟨E, hE⟩ : ∃ E, E = a.foldl (fun a x => a * 10 + x) 1 := ⟨_, rfl⟩
  rw [← hE]
  have a1 := (encF (l := x) (E * 10 + u) hx).2
  have a2 := (encF (l := y) (E * 10 + w) hy).1
  rw [hl] at a1
  have a3 : (E * 10 + u + 1) * 10 ^ y.length ≤ (E * 10 + w) * 10 ^ y.length := Nat.mul_le_mul_right _ (by omega)
  omega
theorem getD_mid {a x : List Nat} {u : Nat} : (a ++ u :: x).getD a.length 0 = u := by
  simp [List.getD_eq_getElem?_getD]
theorem m_isFL {q : pQ} {ρ : pP} {L : pL} {I : pI} {c b : List Nat} (hc : c.length ≤ 4) (hl : c.length = b.length) (hcd : ∀ x, x ∈ c → x < 10) (hbd : ∀ x, x ∈ b → x < 10) (h5 : ∀ i, i < c.length → I 155 i = nI (c.getD i 0)) (h6 : ∀ i, i < b.length → I 156 i = nI (b.getD i 0)) : ∀ x y a N, x.length < N → c = a ++ x → b = a ++ y → f_X11_isFirst_L38 5000 129 (nI c.length) (fun (y11 : Int32) (h12 : jH) =>
            (jg_R 11 46 h12 129).bind (fun v13 =>
            (ja_I 100 h12 v13 y11).bind (fun v14 =>
            (jg_R 11 47 h12 129).bind (fun v15 =>
            (ja_I 100 h12 v15 y11).bind (fun v16 =>
            if v16 ≤ v14 then
              some (nI 0, h12)
            else
              some (nI 1, h12)))))) N (nI a.length) (hp q ρ L I) = some (if enc c < enc b then nI 1 else nI 0, hp q ρ L I)
  | _, _, _, 0, h, _, _ => absurd h (Nat.not_lt_zero _)
  | [], y, a, N + 1, h, ec, eb => by
    have : y = [] := by
      rw [ec, eb, List.length_append, List.length_append, List.length_nil] at hl
      exact List.length_eq_zero_iff.mp (by omega)
    subst this
    rw [List.append_nil] at ec eb
    subst ec
    subst eb
    rw [f_X11_isFirst_L38, if_pos (by rw [nn_le (by omega) (by omega)]; omega), if_neg (Nat.lt_irrefl _)]
    rfl
  | u :: x, [], a, N + 1, h, ec, eb => by
    rw [ec, eb, List.length_append, List.length_append, List.length_nil, List.length_cons] at hl
    omega
  | u :: x, w :: y, a, N + 1, h, ec, eb => by
    have lc : c.length = a.length + (x.length + 1) := by rw [ec, List.length_append, List.length_cons]
    have lb : b.length = a.length + (y.length + 1) := by rw [eb, List.length_append, List.length_cons]
    have e5 : I 155 a.length = nI u := by rw [h5 a.length (by omega), ec, getD_mid]
    have e6 : I 156 a.length = nI w := by rw [h6 a.length (by omega), eb, getD_mid]
    have bu := hcd u (by rw [ec]; simp)
    have bw := hbd w (by rw [eb]; simp)
    rw [f_X11_isFirst_L38]
    by_cases huw : u = w
    · subst huw
      have ih := m_isFL (q := q) (ρ := ρ) (L := L) hc hl hcd hbd h5 h6 x y (a ++ [u]) N (by rw [List.length_cons] at h; omega) (by rw [ec]; simp) (by rw [eb]; simp)
      rw [List.length_append, List.length_singleton] at ih
      simp (disch := first | omega | assumption) only [↓bM, ↓bMA, lt0, nn_le, if_neg, if_false, e5, e6, if_true, nI_add]
      exact ih
    · have xd : ∀ z, z ∈ x → z < 10 := fun z hz => hcd z (by rw [ec]; simp [hz])
      have yd : ∀ z, z ∈ y → z < 10 := fun z hz => hbd z (by rw [eb]; simp [hz])
      by_cases hlt : u < w
      · have en : enc c < enc b := by rw [ec, eb]; exact enc_lx (by omega) xd yd hlt
        rw [if_pos en]
        simp (disch := first | omega | assumption) only [↓bM, ↓bMA, lt0, nn_le, nn_eq, if_neg, if_false, e5, e6]
      · have en : ¬ enc c < enc b := by
          have : enc b < enc c := by rw [ec, eb]; exact enc_lx (by omega) yd xd (by omega)
          omega
        rw [if_neg en]
        simp (disch := first | omega | assumption) only [↓bM, ↓bMA, lt0, nn_le, nn_eq, if_neg, if_false, e5, e6, if_pos, if_true]
theorem m_isF {q : pQ} {ρ : pP} {L : pL} {I : pI} {B : Nat × List Nat} {c : List Nat} (hB : BS B I) (hBb : B.1 < 1000000) (hc : c.length ≤ 4) (hcd : ∀ x, x ∈ c → x < 10) (h5 : Wy c I) : f_X11_isFirst 5000 129 (nI c.length) (hp q ρ L I) = some (if B.1 = 0 ∨ enc c < enc B.2 then nI 1 else nI 0, hp q ρ L I) := by
  obtain ⟨b1, b2⟩ := hB
  by_cases h0 : B.1 = 0
  · rw [h0] at b1
    rw [if_pos (.inl h0)]
    simp (disch := first | omega | assumption) only [f_X11_isFirst, ↓bM, jn_, lt0, b1, if_true]
  · obtain ⟨b3, b4, b5, b6⟩ := b2 (by omega)
    by_cases hl : c.length = B.2.length
    · have lp := m_isFL (q := q) (ρ := ρ) (L := L) hc hl hcd b5 h5 b6 c B.2 [] 5000 (by omega) rfl rfl
      have ei : (if B.1 = 0 ∨ enc c < enc B.2 then nI 1 else nI 0) = if enc c < enc B.2 then nI 1 else nI 0 := by
        by_cases e : enc c < enc B.2
        · rw [if_pos e, if_pos (.inr e)]
        · rw [if_neg e, if_neg (fun h => h.elim h0 e)]
      rw [ei, ← lp]
      simp (disch := first | omega | assumption) only [f_X11_isFirst, ↓bM, jn_, lt0, b1, b3, nn_eq, if_neg, if_false, hl, if_true, List.length_nil]
    · by_cases hlt : c.length < B.2.length
      · rw [if_pos (.inr (enc_len hcd b5 hlt))]
        simp (disch := first | omega | assumption) only [f_X11_isFirst, ↓bM, jn_, lt0, b1, b3, nn_eq, nn_le, if_neg, if_false]
      · have := enc_len b5 hcd (by omega)
        rw [if_neg (by omega)]
        simp (disch := first | omega | assumption) only [f_X11_isFirst, ↓bM, jn_, lt0, b1, b3, nn_eq, nn_le, if_neg, if_false, if_pos, if_true]
theorem m_cpL {q : pQ} {ρ : pP} {L : pL} {c : List Nat} {a1 : Int32} {rec : Nat → Int32 → Int32 → jH → Option jH} (hc : c.length ≤ 4) {kk : jH → Option jH} : ∀ m j N (I : pI), j + m = c.length → m < N → Wy c I → (∀ i, i < j → I 156 i = nI (c.getD i 0)) → ∃ J, f_X11_goSaid_L26 5000 rec 129 a1 (nI c.length) kk N (nI j) (hp q ρ L I) = kk (hp q ρ L J) ∧ (∀ i, i < c.length → J 156 i = nI (c.getD i 0)) ∧ ∀ b, b ≠ 156 → J b = I b
  | _, _, 0, _, _, h, _, _ => absurd h (Nat.not_lt_zero _)
  | 0, j, N + 1, I, h1, h2, h3, h4 => by
    refine ⟨I, ?_, fun i hi => h4 i (by omega), fun b _ => rfl⟩
    rw [f_X11_goSaid_L26, if_pos (by rw [nn_le (by omega) (by omega)]; omega)]
  | m + 1, j, N + 1, I, h1, h2, h3, h4 => by
    have e := h3 j (by omega)
    obtain ⟨J, e1, e2, e3⟩ := m_cpL (q := q) (ρ := ρ) (L := L) (a1 := a1) (rec := rec) hc (kk := kk) m (j + 1) N (j_up I 156 j (nI (c.getD j 0))) (by omega) (by omega) (fun i hi => by rw [up_ne (by omega)]; exact h3 i hi) (fun i hi => by
      by_cases e : i = j
      · rw [e, up_eq]
      · rw [up_nk e]
        exact h4 i (by omega))
    refine ⟨J, ?_, e2, fun b hb => by rw [e3 b hb, up_ne hb]⟩
    rw [f_X11_goSaid_L26]
    simp (disch := first | omega | assumption) only [↓bM, ↓bMA, ↓ob_, lt0, nn_le, if_neg, if_false, e, nI_add]
    exact e1
