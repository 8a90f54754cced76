/-! ASK -/
def al (g : gL) (v n w : Nat) : Nat := cnt (fun w => Nat.beq (oft (lxL g w) (lxN g w) v) n) w
def mxk (f : Nat → Nat) (k : Nat) : Nat := fo (fun n a => max a (f n)) 0 k 0
theorem mxk_s {f : Nat → Nat} {k : Nat} : mxk f (k + 1) = max (mxk f k) (f k) := by
  unfold mxk
  rw [fo_last, Nat.zero_add]
def mx7 (f : Nat → Nat) : Nat := mxk f 7
theorem mxk_ne {f f' : Nat → Nat} {m : Nat} (h : ∀ n, n ≠ m → f' n = f n) : ∀ k, k ≤ m → mxk f' k = mxk f k
  | 0, _ => rfl
  | k + 1, hk => by rw [mxk_s, mxk_s, mxk_ne h k (by omega), h k (by omega)]
theorem mxk_st {f f' : Nat → Nat} {m : Nat} (h : ∀ n, n ≠ m → f' n = f n) (hle : f m ≤ f' m) : ∀ k, m < k → mxk f' k = max (mxk f k) (f' m)
  | 0, hm => absurd hm (Nat.not_lt_zero m)
  | k + 1, hm => by
    rw [mxk_s, mxk_s]
    by_cases e : m = k
    · subst e
      rw [mxk_ne h m (Nat.le_refl m)]
      omega
    · rw [mxk_st h hle k (by omega), h k (by omega)]
      omega
theorem mx7_st {f f' : Nat → Nat} {m : Nat} (hm : m < 7) (h : ∀ n, n ≠ m → f' n = f n) (hle : f m ≤ f' m) : mx7 f' = max (mx7 f) (f' m) := mxk_st h hle 7 hm
theorem mxk_le {f : Nat → Nat} {b : Nat} (h : ∀ n, f n ≤ b) : ∀ k, mxk f k ≤ b
  | 0 => Nat.zero_le b
  | k + 1 => by
    have h1 := mxk_le h k
    have h2 := h k
    rw [mxk_s]
    omega
theorem mx7_le {f : Nat → Nat} {b : Nat} (h : ∀ n, f n ≤ b) : mx7 f ≤ b := mxk_le h 7
theorem al_s {g : gL} {v n w : Nat} : al g v n (w + 1) = if oft (lxL g w) (lxN g w) v = n then al g v n w + 1 else al g v n w := by
  unfold al
  rw [cnt_s]
  by_cases h : oft (lxL g w) (lxN g w) v = n
  · rw [if_pos h, show Nat.beq (oft (lxL g w) (lxN g w) v) n = true from by rw [h]; exact Nat.beq_refl n]
    rfl
  · rw [if_neg h]
    cases e : Nat.beq (oft (lxL g w) (lxN g w) v) n with
    | true => exact absurd (Nat.eq_of_beq_eq_true e) h
    | false => rfl
def alM (g : gL) (v w : Nat) : Nat := mx7 (fun n => al g v n w)
theorem alM_le {g : gL} {v w : Nat} : alM g v w ≤ w := mx7_le (fun n => cnt_le w)
theorem x_fill12 {q : pQ} {ρ : pP} {L : pL} {I : pI} : ∃ J, f_J7_fill_53178 5000 12 (nI 0) (hp q ρ L I) = some (hp q ρ L J) ∧ (∀ n, n < 7 → J 12 n = nI 0) ∧ ∀ b, b ≠ 12 → J b = I b := by
  simp (disch := first | omega | assumption) only [f_J7_fill_53178, ↓bX, ↓bXA, ↓jn_, ↓ob_, ↓b2_, ↓reduceIte, nn_lt, nn_le, nn_eq, nI_add, pk_mul, nn_su, gn_lt, gn_le, ng_lt, ng_le, ng_eq, gn_eq, gg_eq, n_m1, n_cl, if_true, if_false, if_pos, if_neg, lt0]
  obtain ⟨J, e1, e2, e3⟩ := loE (fun m (z : pI) j => f_J7_fill_53178_L5 5000 12 (nI 0) (nI 7) m (nI j) (hp q ρ L z)) (fun z => some (hp q ρ L z)) 7 (fun j z => (∀ n, n < j → z 12 n = nI 0) ∧ ∀ b, b ≠ 12 → z b = I b) (by
    intro n z p
    rw [f_J7_fill_53178_L5]
    simp (disch := first | omega | assumption) only [↓bX, ↓bXA, ↓jn_, ↓ob_, ↓b2_, ↓reduceIte, nn_lt, nn_le, nn_eq, nI_add, pk_mul, nn_su, gn_lt, gn_le, ng_lt, ng_le, ng_eq, gn_eq, gg_eq, n_m1, n_cl, if_true, if_false, if_pos, if_neg, lt0]) (by
    rintro n z j hj ⟨p1, p2⟩
    refine ⟨j_up z 12 j (nI 0), ?_, fun n hn => ?_, fun b hb => (up_ne hb).trans (p2 b hb)⟩
    · rw [f_J7_fill_53178_L5]
      simp (disch := first | omega | assumption) only [↓bX, ↓bXA, ↓jn_, ↓ob_, ↓b2_, ↓reduceIte, nn_lt, nn_le, nn_eq, nI_add, pk_mul, nn_su, gn_lt, gn_le, ng_lt, ng_le, ng_eq, gn_eq, gg_eq, n_m1, n_cl, if_true, if_false, if_pos, if_neg, lt0]
    · by_cases e : n = j
      · rw [e, up_eq]
      · rw [up_nk e]
        exact p1 n (by omega)) 7 5000 I 0 (by omega) (by omega) ⟨fun n hn => absurd hn (Nat.not_lt_zero n), fun b hb => rfl⟩
  exact ⟨J, e1, e2, e3⟩
theorem x_alike {q : pQ} {ρ : pP} {L : pL} {I : pI} {g : gL} {v : Nat} (hL : XL g I) (hg : WL g) (hv : v < 5) : ∃ J, f_X3_mostAlike 5000 5 (nI v) (hp q ρ L I) = some (nI (alM g v (lxW g)), hp q ρ L J) ∧ ∀ b, b ≠ 12 → J b = I b := by
  have hW := hg.1
  obtain ⟨K, k1, k2, k3⟩ := x_fill12 (q := q) (ρ := ρ) (L := L) (I := I)
  simp (disch := first | omega | assumption) only [f_X3_mostAlike, ↓bX, ↓bXA, ↓jn_, ↓ob_, ↓b2_, ↓reduceIte, nn_lt, nn_le, nn_eq, nI_add, pk_mul, nn_su, gn_lt, gn_le, ng_lt, ng_le, ng_eq, gn_eq, gg_eq, n_m1, n_cl, if_true, if_false, if_pos, if_neg, lt0, ↓oe k1]
  obtain ⟨s, e1, e2, e3, e4⟩ := loE (fun m (s : Nat × pI) j => f_X3_mostAlike_L12 5000 5 (nI v) m (nI s.1) (nI j) (hp q ρ L s.2)) (fun s => some (nI s.1, hp q ρ L s.2)) (lxW g) (fun j s => s.1 = alM g v j ∧ (∀ n, n < 7 → s.2 12 n = nI (al g v n j)) ∧ ∀ b, b ≠ 12 → s.2 b = I b) (by
    rintro n ⟨a, z⟩ ⟨p1, p2, p3⟩
    have hL' : XL g z := XL_k (fun b h1 h2 => p3 b (by omega)) hL
    rw [f_X3_mostAlike_L12]
    simp (disch := first | omega | assumption) only [↓bX, ↓bXA, ↓jn_, ↓ob_, ↓b2_, ↓reduceIte, nn_lt, nn_le, nn_eq, nI_add, pk_mul, nn_su, gn_lt, gn_le, ng_lt, ng_le, ng_eq, gn_eq, gg_eq, n_m1, n_cl, if_true, if_false, if_pos, if_neg, lt0, hL'.1]) (by
    rintro n ⟨a, z⟩ j hj ⟨p1, p2, p3⟩
    simp only [] at p1 p2 p3
    have hL' : XL g z := XL_k (fun b h1 h2 => p3 b (by omega)) hL
    have l1 := (hg.2 j hj).1
    have o1 := oft_le (l := lxL g j) (v := v) (lxN g j)
    have hi := x_heardIn (q := q) (ρ := ρ) (L := L) hL' hg hj hv
    obtain ⟨o, ho⟩ : ∃ o, o = oft (lxL g j) (lxN g j) v := ⟨_, rfl⟩
    rw [← ho] at hi o1
    have ho7 : o < 7 := by omega
    have r1 := p2 o ho7
    have c1 : al g v o j ≤ j := cnt_le j
    have c2 := alM_le (g := g) (v := v) (w := j)
    have as : ∀ n, al g v n (j + 1) = if n = o then al g v n j + 1 else al g v n j := fun n => by
      rw [al_s, ← ho]
      by_cases e : o = n
      · rw [if_pos e, if_pos e.symm]
      · rw [if_neg e, if_neg (fun h => e h.symm)]
    have aso : al g v o (j + 1) = al g v o j + 1 := by rw [as, if_pos rfl]
    have hst : alM g v (j + 1) = max (alM g v j) (al g v o j + 1) := by
      rw [← aso]
      exact mx7_st (f := fun n => al g v n j) (f' := fun n => al g v n (j + 1)) ho7 (fun n hn => by rw [as, if_neg hn]) (by omega)
    refine ⟨(max (alM g v j) (al g v o j + 1), j_up z 12 o (nI (al g v o j + 1))), ?_, hst.symm, fun n hn => ?_, fun b hb => (up_ne hb).trans (p3 b hb)⟩
    · rw [f_X3_mostAlike_L12]
      simp (disch := first | omega | assumption) only [↓bX, ↓bXA, ↓jn_, ↓ob_, ↓b2_, ↓reduceIte, nn_lt, nn_le, nn_eq, nI_add, pk_mul, nn_su, gn_lt, gn_le, ng_lt, ng_le, ng_eq, gn_eq, gg_eq, n_m1, n_cl, if_true, if_false, if_pos, if_neg, lt0, hL'.1, ↓b2e hi, r1, up_eq, p1, jmax_nn]
    · show j_up z 12 o (nI (al g v o j + 1)) 12 n = _
      by_cases e : n = o
      · rw [e, aso]
        exact up_eq
      · rw [as, if_neg e]
        exact (up_nk e).trans (p2 n hn)) (lxW g) 5000 (0, K) 0 (by omega) (by omega) ⟨rfl, k2, k3⟩
  refine ⟨s.2, ?_, e4⟩
  rw [← e2]
  exact e1
theorem m_asW {q : pQ} {ρ : pP} {L : pL} {I : pI} {g : gL} {v n : Nat} {x1 x2 x4 : Int32} (hL : ML g I) (hg : WL g) (hv : v < 5) (hn : n < 7) {kk : Int32 → jH → Option (Int32 × jH)} : f_X11_ask_L47 5000 129 x1 x2 (nI v) x4 (nI n) kk 5000 (nI 0) (nI 0) (hp q ρ L I) = kk (nI (al g v n (lxW g))) (hp q ρ L I) := by
  have hW := hg.1
  obtain ⟨a, e1, e2⟩ := loE (fun m (a : Nat) j => f_X11_ask_L47 5000 129 x1 x2 (nI v) x4 (nI n) kk m (nI a) (nI j) (hp q ρ L I)) (fun a => kk (nI a) (hp q ρ L I)) (lxW g) (fun j a => a = al g v n j) (by
    intro m a p
    rw [f_X11_ask_L47]
    simp (disch := first | omega | assumption) only [↓bM, ↓bMA, ↓jn_, ↓ob_, ↓b2_, ↓reduceIte, nn_lt, nn_le, nn_eq, nI_add, pk_mul, nn_su, gn_lt, gn_le, ng_lt, ng_le, ng_eq, gn_eq, gg_eq, n_m1, n_cl, if_true, if_false, if_pos, if_neg, lt0, hL.1]) (by
    intro m a j hj p
    have l1 := (hg.2 j hj).1
    have o1 := oft_le (l := lxL g j) (v := v) (lxN g j)
    have c1 : al g v n j ≤ j := cnt_le j
    have ho := m_often (q := q) (ρ := ρ) (L := L) hL hg hj hv
    refine ⟨_, ?_, rfl⟩
    rw [f_X11_ask_L47, al_s, ← p]
    by_cases e : oft (lxL g j) (lxN g j) v = n
    · simp (disch := first | omega | assumption) only [↓bM, ↓bMA, ↓jn_, ↓ob_, ↓b2_, ↓reduceIte, nn_lt, nn_le, nn_eq, nI_add, pk_mul, nn_su, gn_lt, gn_le, ng_lt, ng_le, ng_eq, gn_eq, gg_eq, n_m1, n_cl, if_true, if_false, if_pos, if_neg, lt0, hL.1, ↓b2e ho, e]
    · simp (disch := first | omega | assumption) only [↓bM, ↓bMA, ↓jn_, ↓ob_, ↓b2_, ↓reduceIte, nn_lt, nn_le, nn_eq, nI_add, pk_mul, nn_su, gn_lt, gn_le, ng_lt, ng_le, ng_eq, gn_eq, gg_eq, n_m1, n_cl, if_true, if_false, if_pos, if_neg, lt0, hL.1, ↓b2e ho, e, Nat.add_zero]) (lxW g) 5000 0 0 (by omega) (by omega) rfl
  rw [← e2]
  exact e1
theorem m_asN {q : pQ} {ρ : pP} {L : pL} {I : pI} {g : gL} {v : Nat} {x1 x2 : Int32} (hL : ML g I) (hg : WL g) (hv : v < 5) {kk : Int32 → jH → Option (Int32 × jH)} : f_X11_ask_L34 5000 129 x1 x2 (nI v) kk 5000 (nI 0) (nI 0) (hp q ρ L I) = kk (nI (alM g v (lxW g))) (hp q ρ L I) := by
  have hW := hg.1
  obtain ⟨a, e1, e2, e3⟩ := loE (fun m (a : Nat) j => f_X11_ask_L34 5000 129 x1 x2 (nI v) kk m (nI a) (nI j) (hp q ρ L I)) (fun a => kk (nI a) (hp q ρ L I)) 7 (fun j a => a = fo (fun n a => max a (al g v n (lxW g))) 0 j 0 ∧ a ≤ 10) (by
    intro m a p
    rw [f_X11_ask_L34]
    simp (disch := first | omega | assumption) only [↓bM, ↓bMA, ↓jn_, ↓ob_, ↓b2_, ↓reduceIte, nn_lt, nn_le, nn_eq, nI_add, pk_mul, nn_su, gn_lt, gn_le, ng_lt, ng_le, ng_eq, gn_eq, gg_eq, n_m1, n_cl, if_true, if_false, if_pos, if_neg, lt0]) (by
    intro m a j hj p
    have c1 : al g v j (lxW g) ≤ lxW g := cnt_le _
    refine ⟨max a (al g v j (lxW g)), ?_, by rw [fo_last, Nat.zero_add, ← p.1], by omega⟩
    rw [f_X11_ask_L34]
    simp (disch := first | omega | assumption) only [lt0, nn_lt, if_neg]
    rw [m_asW hL hg hv (by omega)]
    simp (disch := first | omega | assumption) only [nI_add, jmax_nn]) 7 5000 0 0 (by omega) (by omega) ⟨rfl, by omega⟩
  rw [show alM g v (lxW g) = a from e2.symm]
  exact e1
def asB (f : Nat → Nat) (k : Nat) : Nat × Nat := fo (fun v a => if f v < a.2 then (v, f v) else a) 1 k (0, f 0)
theorem asB_s {f : Nat → Nat} {k : Nat} : asB f (k + 1) = if f (k + 1) < (asB f k).2 then (k + 1, f (k + 1)) else asB f k := by
  unfold asB
  rw [fo_last, Nat.add_comm 1 k]
theorem asB_le {f : Nat → Nat} {b : Nat} (h : ∀ n, f n ≤ b) : ∀ k, (asB f k).1 ≤ k ∧ (asB f k).2 ≤ b
  | 0 => ⟨Nat.le_refl 0, h 0⟩
  | k + 1 => by
    have := asB_le h k
    have h2 := h (k + 1)
    rw [asB_s]
    split
    · exact ⟨Nat.le_refl _, h2⟩
    · exact ⟨by omega, this.2⟩
theorem k_ask : ∀ G, Wr G → ∃ v G', Wr G' ∧ XH (f_X10_ask 5000 0) G v G' ∧ MH (f_X11_ask 5000 129) G v G' := by
  intro G hG
  have hG' := hG
  obtain ⟨w1, w2, w3, w4, w5, w6, w7, w8, w9⟩ := hG
  have hW10 := w2.1
  have fin : ∀ v, (∀ q ρ L I, Xr G ρ L I → f_X10_ask 5000 0 (hp q ρ L I) = some (v, hp q ρ L I)) → (∀ t q ρ L I, Mr t G ρ L I → Ms t G ρ (j_up I 129 13 (nI 0)) → f_X11_ask 5000 129 (hp q ρ L I) = some (v, hp q ρ L (j_up I 129 13 (nI 0)))) → ∃ v G', Wr G' ∧ XH (f_X10_ask 5000 0) G v G' ∧ MH (f_X11_ask 5000 129) G v G' :=
    fun v hx hm => ⟨v, G, hG', XH_0 hx, MH_0 (fun t q ρ L I h => hm t q ρ L I h (Ms_0 h.1))⟩
  by_cases hW0 : lxW (gLx G) = 0
  · refine fin (-nI 2) ?_ ?_
    · rintro q ρ L I ⟨⟨hT, hL, hD, hP, hS, hU, hK, hR, hρ⟩, hW⟩
      have e := hL.1
      rw [hW0] at e
      simp (disch := first | omega | assumption) only [f_X10_ask, ↓bX, ↓bXA, ↓jn_, ↓ob_, ↓b2_, ↓reduceIte, nn_lt, nn_le, nn_eq, nI_add, pk_mul, nn_su, gn_lt, gn_le, ng_lt, ng_le, ng_eq, gn_eq, gg_eq, n_m1, n_cl, if_true, if_false, if_pos, if_neg, lt0, e]
    · rintro t q ρ L I - ⟨hT, hL, hD, hP, hS, hU, hK, hR⟩
      have e := hL.1
      rw [hW0] at e
      simp (disch := first | omega | assumption) only [f_X11_ask, ↓bM, ↓bMA, ↓jn_, ↓ob_, ↓b2_, ↓reduceIte, nn_lt, nn_le, nn_eq, nI_add, pk_mul, nn_su, gn_lt, gn_le, ng_lt, ng_le, ng_eq, gn_eq, gg_eq, n_m1, n_cl, if_true, if_false, if_pos, if_neg, lt0, e]
  obtain ⟨f, hf⟩ : ∃ f : Nat → Nat, f = fun v => alM (gLx G) v (lxW (gLx G)) := ⟨_, rfl⟩
  have hfe : ∀ v, alM (gLx G) v (lxW (gLx G)) = f v := fun v => by rw [hf]
  have hf10 : ∀ v, f v ≤ 10 := fun v => by
    rw [← hfe]
    exact Nat.le_trans alM_le hW10
  have hab := fun k => asB_le hf10 k
  refine ⟨nI (asB f 4).1, sRw G (1, fun _ => (nI (asB f 4).2).toInt64), ⟨w1, w2, w3, w4, w5, w6, w7, by simp only []; omega, w9⟩, XH_q _ ?_, MH_q _ ?_⟩
  · rintro q ρ L I ⟨⟨hT, hL, hD, hP, hS, hU, hK, hR, hρ⟩, hW⟩
    obtain ⟨hA, hTf⟩ := XR_Tf hR
    obtain ⟨K, k1, k2⟩ := x_alike (q := q) (ρ := ρ) (L := L) (v := 0) hL w2 (by omega)
    rw [hfe] at k1
    obtain ⟨s, e1, e2, e3⟩ := loE (fun m (s : (Nat × Nat) × pI) j => f_X10_ask_L26 5000 0 (fun (y12 : Int32) (y13 : Int32) (h14 : jH) =>
        (jg_R 10 1 h14 0).bind (fun v15 =>
        (f_X6_tell 5000 v15 (y13.toInt64) h14).bind (fun h16 =>
        some (y12, h16)))) m (nI s.1.1) (nI s.1.2) (nI (j + 1)) (hp q ρ L s.2)) (fun s => some (nI s.1.1, hp q ρ (j_up L 4 0 (nI s.1.2).toInt64) (j_up s.2 3 1 (nI 1)))) 4 (fun j s => s.1 = asB f j ∧ ∀ b, b ≠ 12 → s.2 b = I b) (by
      rintro m ⟨a, z⟩ p
      rw [f_X10_ask_L26]
      simp (disch := first | omega | assumption) only [↓bX, ↓bXA, ↓jn_, ↓ob_, ↓b2_, ↓reduceIte, nn_lt, nn_le, nn_eq, nI_add, pk_mul, nn_su, gn_lt, gn_le, ng_lt, ng_le, ng_eq, gn_eq, gg_eq, n_m1, n_cl, if_true, if_false, if_pos, if_neg, lt0, ↓oe (x_tell1 (q := q) (ρ := ρ) (L := L) (I := z))]) (by
      rintro m ⟨a, z⟩ j hj ⟨p1, p2⟩
      simp only [] at p1 p2
      have hL' : XL (gLx G) z := XL_k (fun b h1 h2 => p2 b (by omega)) hL
      obtain ⟨J, j1, j2⟩ := x_alike (q := q) (ρ := ρ) (L := L) (v := j + 1) hL' w2 (by omega)
      rw [hfe] at j1
      have b1 := hf10 (j + 1)
      have b2 := hab j
      rw [← p1] at b2
      refine ⟨(asB f (j + 1), J), ?_, rfl, fun b hb => (j2 b hb).trans (p2 b hb)⟩
      rw [f_X10_ask_L26]
      simp only []
      rw [asB_s, ← p1]
      by_cases e : f (j + 1) < a.2
      · rw [if_pos e]
        simp (disch := first | omega | assumption) only [↓bX, ↓bXA, ↓jn_, ↓ob_, ↓b2_, ↓reduceIte, nn_lt, nn_le, nn_eq, nI_add, pk_mul, nn_su, gn_lt, gn_le, ng_lt, ng_le, ng_eq, gn_eq, gg_eq, n_m1, n_cl, if_true, if_false, if_pos, if_neg, lt0, ↓b2e j1]
      · rw [if_neg e]
        simp (disch := first | omega | assumption) only [↓bX, ↓bXA, ↓jn_, ↓ob_, ↓b2_, ↓reduceIte, nn_lt, nn_le, nn_eq, nI_add, pk_mul, nn_su, gn_lt, gn_le, ng_lt, ng_le, ng_eq, gn_eq, gg_eq, n_m1, n_cl, if_true, if_false, if_pos, if_neg, lt0, ↓b2e j1]) 4 5000 ((0, f 0), K) 0 (by omega) (by omega) ⟨rfl, k2⟩
    refine ⟨ρ, j_up L 4 0 (nI s.1.2).toInt64, j_up s.2 3 1 (nI 1), ?_, Fr.up (fun b k hb => ?_) (by rcases hA with e | e <;> rw [e] <;> rfl), ⟨rfl, rfl, hρ⟩, by rw [up_ne (by omega)], by rw [← e2]; exact XW_1⟩
    · rw [f_X10_ask]
      have hL1 := hL.1
      simp (disch := first | omega | assumption) only [↓bX, ↓ob_, lt0, nn_eq, if_neg, if_false, hL1, ↓b2e k1]
      rw [← e2]
      exact e1
    · by_cases h : b = 12
      · subst h
        rcases hA with e | e <;> rw [e] at hb <;> cases hb
      · rw [e3 b h]
  · rintro t q ρ L I ⟨hM, hW⟩
    obtain ⟨hT, hL, hD, hP, hS, hU, hK, hR⟩ := Ms_0 (x := nI 0) hM
    have hL1 := hL.1
    obtain ⟨J0, hJ0⟩ : ∃ J0, J0 = j_up I 129 13 (nI 0) := ⟨_, rfl⟩
    rw [← hJ0] at hL hL1
    refine ⟨ρ, j_up L 136 0 (nI (asB f 4).2).toInt64, j_up J0 129 12 (nI 1), ?_, Fr.up (by rw [hJ0]; exact Fr.up Fr.rf rfl) rfl, ⟨rfl, rfl, rfl⟩, by rw [up_ne (by omega)], MW_1⟩
    obtain ⟨s, e1, e2⟩ := loE (fun m (s : Int32 × Nat) j => f_X11_ask_L23 5000 129 (fun (y16 : Int32) (y17 : Int32) (h18 : jH) =>
        (jp_I 11 12 h18 129 (nI 0)).bind (fun h19 =>
        (f_X11_tell 5000 129 (y17.toInt64) h19).bind (fun h20 =>
        some (y16, h20)))) m s.1 (nI s.2) (nI j) (hp q ρ L J0)) (fun s => some (s.1, hp q ρ (j_up L 136 0 (nI s.2).toInt64) (j_up J0 129 12 (nI 1)))) 5 (fun j s => (j = 0 ∧ s = (-nI 1, 100000000)) ∨ (∃ k, j = k + 1 ∧ s = (nI (asB f k).1, (asB f k).2))) (by
      rintro m s p
      rw [f_X11_ask_L23]
      simp (disch := first | omega | assumption) only [↓bM, ↓bMA, ↓jn_, ↓ob_, ↓b2_, ↓reduceIte, nn_lt, nn_le, nn_eq, nI_add, pk_mul, nn_su, gn_lt, gn_le, ng_lt, ng_le, ng_eq, gn_eq, gg_eq, n_m1, n_cl, if_true, if_false, if_pos, if_neg, lt0, m_tell]) (by
      rintro m s j hj p
      rcases p with ⟨rfl, rfl⟩ | ⟨k, rfl, rfl⟩
      · refine ⟨(nI 0, f 0), ?_, Or.inr ⟨0, rfl, rfl⟩⟩
        have b0 := hf10 0
        rw [f_X11_ask_L23]
        simp (disch := first | omega | assumption) only [lt0, nn_le, if_neg]
        rw [m_asN hL w2 (by omega), hfe]
        simp (disch := first | omega | assumption) only [jn_, nn_lt, nI_add, if_pos]
      · have b1 := hf10 (k + 1)
        have b2 := hab k
        refine ⟨(nI (asB f (k + 1)).1, (asB f (k + 1)).2), ?_, Or.inr ⟨k + 1, rfl, rfl⟩⟩
        rw [f_X11_ask_L23, asB_s]
        simp (disch := first | omega | assumption) only [lt0, nn_le, if_neg]
        rw [m_asN hL w2 (by omega), hfe]
        by_cases e : f (k + 1) < (asB f k).2
        · rw [if_pos e]
          simp (disch := first | omega | assumption) only [jn_, nn_lt, nI_add, if_pos]
        · rw [if_neg e]
          simp (disch := first | omega | assumption) only [jn_, nn_lt, nI_add, if_neg]) 5 5000 (-nI 1, 100000000) 0 (by omega) (by omega) (Or.inl ⟨rfl, rfl⟩)
    rcases e2 with ⟨h, -⟩ | ⟨k, h1, h2⟩
    · omega
    · have : k = 4 := by omega
      subst this
      rw [h2] at e1
      rw [f_X11_ask]
      simp (disch := first | omega | assumption) only [↓bM, ↓ob_, lt0, ← hJ0, hL1, nn_eq, if_neg, if_false]
      exact e1
