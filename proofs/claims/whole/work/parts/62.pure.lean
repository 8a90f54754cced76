/-! SENTENCE: what a word tells from i on -/
def tls (g : gL) (T : Nat) (d : Nat → Nat) (w i : Nat) : Nat := if lxA g w = d i then (if lxB g w = -nI 1 then 1 else if T ≤ i + 1 then 0 else if lxB g w = nI (d (i + 1)) then 2 else 0) else 0
theorem tls_le {g : gL} {T w i : Nat} {d : Nat → Nat} (h : i < T) : tls g T d w i ≤ 2 ∧ i + tls g T d w i ≤ T := by
  unfold tls
  split
  · split
    · omega
    · split
      · omega
      · split <;> omega
  · omega
theorem x_told {q : pQ} {ρ : pP} {L : pL} {I : pI} {g : gL} {T w i : Nat} {d : Nat → Nat} (hL : XL g I) (hg : WL g) (hw : w < lxW g) (hd : ∀ k, k < T → I 2 k = nI (48 + d k) ∧ d k ≤ 9) (hi : i < T) (hT : T ≤ 12) : f_X5_toldBy 5000 5 (nI w) 2 (nI i) (nI T) (hp q ρ L I) = some (nI (tls g T d w i), hp q ρ L I) := by
  obtain ⟨⟨h6, h7, h8, h11⟩, h9, h10⟩ := hL.2 w hw
  have hma := (hg.2 w hw).2.2.1
  have hmb := (hg.2 w hw).2.2.2
  have hW := hg.1
  have ⟨t1, d1⟩ := hd i hi
  unfold tls
  by_cases a1 : lxA g w = d i
  · rw [if_pos a1]
    by_cases a2 : lxB g w = -nI 1
    · rw [if_pos a2]
      simp (disch := first | omega | assumption) only [f_X5_toldBy, f_X3_isCompound, ↓bX, ↓bXA, ↓jn_, ↓ob_, ↓b2_, ↓reduceIte, nn_lt, nn_le, nn_eq, nI_add, pk_mul, nn_su, gn_lt, gn_le, ng_lt, ng_le, ng_eq, gn_eq, gg_eq, n_m1, n_cl, if_true, if_false, if_pos, if_neg, lt0, h7, h8, t1, a1, a2, Nat.add_sub_cancel_left]
    · rw [if_neg a2]
      by_cases a3 : T ≤ i + 1
      · rw [if_pos a3]
        simp (disch := first | omega | assumption) only [f_X5_toldBy, f_X3_isCompound, ↓bX, ↓bXA, ↓jn_, ↓ob_, ↓b2_, ↓reduceIte, nn_lt, nn_le, nn_eq, nI_add, pk_mul, nn_su, gn_lt, gn_le, ng_lt, ng_le, ng_eq, gn_eq, gg_eq, n_m1, n_cl, if_true, if_false, if_pos, if_neg, lt0, h7, h8, t1, a1, a2, Nat.add_sub_cancel_left]
      · rw [if_neg a3]
        have ⟨t2, d2⟩ := hd (i + 1) (by omega)
        by_cases a4 : lxB g w = nI (d (i + 1))
        · rw [if_pos a4]
          simp (disch := first | omega | assumption) only [f_X5_toldBy, f_X3_isCompound, ↓bX, ↓bXA, ↓jn_, ↓ob_, ↓b2_, ↓reduceIte, nn_lt, nn_le, nn_eq, nI_add, pk_mul, nn_su, gn_lt, gn_le, ng_lt, ng_le, ng_eq, gn_eq, gg_eq, n_m1, n_cl, if_true, if_false, if_pos, if_neg, lt0, h7, h8, t1, t2, a1, a4, Nat.add_sub_cancel_left]
        · rw [if_neg a4]
          simp (disch := first | omega | assumption) only [f_X5_toldBy, f_X3_isCompound, ↓bX, ↓bXA, ↓jn_, ↓ob_, ↓b2_, ↓reduceIte, nn_lt, nn_le, nn_eq, nI_add, pk_mul, nn_su, gn_lt, gn_le, ng_lt, ng_le, ng_eq, gn_eq, gg_eq, n_m1, n_cl, if_true, if_false, if_pos, if_neg, lt0, h7, h8, t1, t2, a1, a2, a4, Nat.add_sub_cancel_left]
  · rw [if_neg a1]
    simp (disch := first | omega | assumption) only [f_X5_toldBy, ↓bX, ↓bXA, ↓jn_, ↓ob_, ↓b2_, ↓reduceIte, nn_lt, nn_le, nn_eq, nI_add, pk_mul, nn_su, gn_lt, gn_le, ng_lt, ng_le, ng_eq, gn_eq, gg_eq, n_m1, n_cl, if_true, if_false, if_pos, if_neg, lt0, h7, t1, a1, Nat.add_sub_cancel_left]
theorem m_tells {q : pQ} {ρ : pP} {L : pL} {I : pI} {g : gL} {T w i : Nat} {d : Nat → Nat} (hL : ML g I) (hg : WL g) (hw : w < lxW g) (hd : ∀ k, k < T → I 135 k = nI (48 + d k) ∧ d k ≤ 9) (hi : i < T) (hT : T ≤ 12) : f_X11_tells 5000 129 (nI w) (nI i) (nI T) (hp q ρ L I) = some (nI (tls g T d w i), hp q ρ L I) := by
  obtain ⟨⟨h6, h7, h8⟩, h9⟩ := hL.2 w hw
  have hma := (hg.2 w hw).2.2.1
  have hW := hg.1
  have ⟨t1, d1⟩ := hd i hi
  unfold tls
  by_cases a1 : lxA g w = d i
  · rw [if_pos a1]
    by_cases a2 : lxB g w = -nI 1
    · rw [if_pos a2]
      simp (disch := first | omega | assumption) only [f_X11_tells, ↓bM, ↓bMA, ↓jn_, ↓ob_, ↓b2_, ↓reduceIte, nn_lt, nn_le, nn_eq, nI_add, pk_mul, nn_su, gn_lt, gn_le, ng_lt, ng_le, ng_eq, gn_eq, gg_eq, n_m1, n_cl, if_true, if_false, if_pos, if_neg, lt0, h7, h8, t1, a1, a2, Nat.add_sub_cancel_left]
    · rw [if_neg a2]
      by_cases a3 : T ≤ i + 1
      · rw [if_pos a3]
        simp (disch := first | omega | assumption) only [f_X11_tells, ↓bM, ↓bMA, ↓jn_, ↓ob_, ↓b2_, ↓reduceIte, nn_lt, nn_le, nn_eq, nI_add, pk_mul, nn_su, gn_lt, gn_le, ng_lt, ng_le, ng_eq, gn_eq, gg_eq, n_m1, n_cl, if_true, if_false, if_pos, if_neg, lt0, h7, h8, t1, a1, a2, Nat.add_sub_cancel_left]
      · rw [if_neg a3]
        have ⟨t2, d2⟩ := hd (i + 1) (by omega)
        by_cases a4 : lxB g w = nI (d (i + 1))
        · rw [if_pos a4]
          simp (disch := first | omega | assumption) only [f_X11_tells, ↓bM, ↓bMA, ↓jn_, ↓ob_, ↓b2_, ↓reduceIte, nn_lt, nn_le, nn_eq, nI_add, pk_mul, nn_su, gn_lt, gn_le, ng_lt, ng_le, ng_eq, gn_eq, gg_eq, n_m1, n_cl, if_true, if_false, if_pos, if_neg, lt0, h7, h8, t1, t2, a1, a4, Nat.add_sub_cancel_left]
        · rw [if_neg a4]
          simp (disch := first | omega | assumption) only [f_X11_tells, ↓bM, ↓bMA, ↓jn_, ↓ob_, ↓b2_, ↓reduceIte, nn_lt, nn_le, nn_eq, nI_add, pk_mul, nn_su, gn_lt, gn_le, ng_lt, ng_le, ng_eq, gn_eq, gg_eq, n_m1, n_cl, if_true, if_false, if_pos, if_neg, lt0, h7, h8, t1, t2, a1, a2, a4, Nat.add_sub_cancel_left]
  · rw [if_neg a1]
    simp (disch := first | omega | assumption) only [f_X11_tells, ↓bM, ↓bMA, ↓jn_, ↓ob_, ↓b2_, ↓reduceIte, nn_lt, nn_le, nn_eq, nI_add, pk_mul, nn_su, gn_lt, gn_le, ng_lt, ng_le, ng_eq, gn_eq, gg_eq, n_m1, n_cl, if_true, if_false, if_pos, if_neg, lt0, h7, t1, a1, Nat.add_sub_cancel_left]
def om (o : Option Nat) (D : Nat) : Nat := o.getD D
def seOk (tl : Nat → Nat) (nx : Nat → Option Nat) (w : Nat) : Bool := !(Nat.beq (tl w) 0) && (nx (tl w)).isSome
def seK (P tl : Nat → Nat) (nx : Nat → Option Nat) (w : Nat) : Nat := P w + (nx (tl w)).getD 0
def seR (P tl : Nat → Nat) (nx : Nat → Option Nat) (w v : Nat) : Bool := decide (seK P tl nx w < seK P tl nx v)
def seA (P tl : Nat → Nat) (nx : Nat → Option Nat) (W : Nat) : Option Nat := abest (seOk tl nx) (seR P tl nx) W
def seP (P : Nat → Nat) (tl : Nat → Nat → Nat) (W T : Nat) : Nat → Option Nat × Option Nat
  | 0 => (some 0, none)
  | k + 1 => ((seA P (fun w => tl w (T - (k + 1))) (fun t => if t = 1 then (seP P tl W T k).1 else (seP P tl W T k).2) W).map (seK P (fun w => tl w (T - (k + 1))) (fun t => if t = 1 then (seP P tl W T k).1 else (seP P tl W T k).2)), (seP P tl W T k).1)
def seC (P : Nat → Nat) (tl : Nat → Nat → Nat) (W T i : Nat) : Option Nat := (seP P tl W T (T - i)).1
def seX (P : Nat → Nat) (tl : Nat → Nat → Nat) (W T i : Nat) : Nat → Option Nat := fun t => if t = 1 then (seP P tl W T (T - (i + 1))).1 else (seP P tl W T (T - (i + 1))).2
def seW (P : Nat → Nat) (tl : Nat → Nat → Nat) (W T i : Nat) : Option Nat := seA P (fun w => tl w i) (seX P tl W T i) W
theorem seC_T {P : Nat → Nat} {tl : Nat → Nat → Nat} {W T : Nat} : seC P tl W T T = some 0 := by
  unfold seC
  rw [Nat.sub_self]
  rfl
theorem seC_s {P : Nat → Nat} {tl : Nat → Nat → Nat} {W T i : Nat} (h : i < T) : seC P tl W T i = (seW P tl W T i).map (seK P (fun w => tl w i) (seX P tl W T i)) := by
  obtain ⟨k, hk⟩ : ∃ k, k = T - (i + 1) := ⟨_, rfl⟩
  have e1 : T - i = k + 1 := by omega
  have e2 : T - (k + 1) = i := by omega
  unfold seW seX seC
  rw [e1, ← hk, seP, e2]
theorem seX_1 {P : Nat → Nat} {tl : Nat → Nat → Nat} {W T i : Nat} : seX P tl W T i 1 = seC P tl W T (i + 1) := rfl
theorem seX_2 {P : Nat → Nat} {tl : Nat → Nat → Nat} {W T i : Nat} (h : i + 2 ≤ T) : seX P tl W T i 2 = seC P tl W T (i + 2) := by
  obtain ⟨k, hk⟩ : ∃ k, k = T - (i + 2) := ⟨_, rfl⟩
  have e1 : T - (i + 1) = k + 1 := by omega
  unfold seX seC
  rw [if_neg (by omega), e1, ← hk, seP]
theorem seP_le {P : Nat → Nat} {tl : Nat → Nat → Nat} {W T : Nat} (hP : ∀ w, w < W → P w ≤ 594) : ∀ k, (seP P tl W T k).1.getD 0 ≤ k * 594 ∧ (seP P tl W T k).2.getD 0 ≤ k * 594
  | 0 => ⟨Nat.le_refl 0, Nat.le_refl 0⟩
  | k + 1 => by
    obtain ⟨a, b⟩ := seP_le (tl := tl) (T := T) hP k
    refine ⟨?_, by rw [seP, Nat.succ_mul]; exact Nat.le_trans a (Nat.le_add_right _ _)⟩
    rw [seP]
    obtain ⟨nx, hnx⟩ : ∃ nx : Nat → Option Nat, nx = (fun t => if t = 1 then (seP P tl W T k).1 else (seP P tl W T k).2) := ⟨_, rfl⟩
    rw [← hnx]
    have hb : ∀ t, (nx t).getD 0 ≤ k * 594 := fun t => by
      rw [hnx]
      simp only []
      split
      · exact a
      · exact b
    simp only []
    cases h : seA P (fun w => tl w (T - (k + 1))) nx W with
    | none => exact Nat.zero_le _
    | some w =>
      have hw := (abest_in h).1
      show P w + (nx (tl w (T - (k + 1)))).getD 0 ≤ _
      have h1 := hb (tl w (T - (k + 1)))
      have h2 := hP w hw
      rw [Nat.succ_mul]
      omega
theorem seX_le {P : Nat → Nat} {tl : Nat → Nat → Nat} {W T i : Nat} (hP : ∀ w, w < W → P w ≤ 594) (hT : T ≤ 12) (t : Nat) : (seX P tl W T i t).getD 0 ≤ 7128 := by
  have h := seP_le (tl := tl) (T := T) hP (T - (i + 1))
  have h2 : (T - (i + 1)) * 594 ≤ 12 * 594 := Nat.mul_le_mul_right _ (by omega)
  unfold seX
  split <;> omega
theorem seC_le {P : Nat → Nat} {tl : Nat → Nat → Nat} {W T i : Nat} (hP : ∀ w, w < W → P w ≤ 594) (hT : T ≤ 12) : (seC P tl W T i).getD 0 ≤ 7128 := by
  have h := seP_le (tl := tl) (T := T) hP (T - i)
  have h2 : (T - i) * 594 ≤ 12 * 594 := Nat.mul_le_mul_right _ (by omega)
  unfold seC
  omega
theorem om_n {D : Nat} : om none D = D := rfl
theorem om_s {c D : Nat} : om (some c) D = c := rfl
theorem om_le {o : Option Nat} {D b : Nat} (h : o.getD 0 ≤ b) (hb : b ≤ D) : om o D ≤ D := by
  cases o with
  | none => exact Nat.le_refl D
  | some c => exact Nat.le_trans h hb
def seF (i : Nat) (I J : pI) : Prop := ∀ b k, (k ≠ i ∨ (b ≠ 109 ∧ b ≠ 110 ∧ b ≠ 111)) → J b k = I b k
theorem x_seL {q : pQ} {ρ : pP} {L : pL} {I : pI} {g : gL} {P : Nat → Nat} {T i : Nat} {d : Nat → Nat} {nx : Nat → Option Nat} (hL : XL g I) (hg : WL g) (hd : ∀ k, k < T → I 2 k = nI (48 + d k) ∧ d k ≤ 9) (hi : i < T) (hT : T ≤ 12) (hP : ∀ w, w < lxW g → I 115 w = nI (P w) ∧ P w ≤ 594) (hn : ∀ t, 1 ≤ t → t ≤ 2 → i + t ≤ T → I 111 (i + t) = nI (om (nx t) 1000000)) (hnb : ∀ t, (nx t).getD 0 ≤ 7128) (h0 : I 111 i = nI 1000000) {kk : jH → Option (Int32 × jH)} : ∃ J, f_X5_sentencePrice_L31 5000 108 5 115 2 (nI T) (nI i) kk 5000 (nI 0) (hp q ρ L I) = kk (hp q ρ L J) ∧ J 111 i = nI (om ((seA P (fun w => tls g T d w i) nx (lxW g)).map (seK P (fun w => tls g T d w i) nx)) 1000000) ∧ (∀ w, seA P (fun w => tls g T d w i) nx (lxW g) = some w → J 109 i = nI w ∧ J 110 i = nI (tls g T d w i)) ∧ seF i I J := by
  have hW := hg.1
  obtain ⟨⟨b, J⟩, e1, e2, e3, e4, e5⟩ := loE (fun m (s : Option Nat × pI) j => f_X5_sentencePrice_L31 5000 108 5 115 2 (nI T) (nI i) kk m (nI j) (hp q ρ L s.2)) (fun s => kk (hp q ρ L s.2)) (lxW g) (fun j s => s.1 = seA P (fun w => tls g T d w i) nx j ∧ s.2 111 i = nI (om (s.1.map (seK P (fun w => tls g T d w i) nx)) 1000000) ∧ (∀ w, s.1 = some w → s.2 109 i = nI w ∧ s.2 110 i = nI (tls g T d w i)) ∧ seF i I s.2) (by
    rintro m ⟨b, J⟩ ⟨p1, p2, p3, p4⟩
    have e : J 5 0 = nI (lxW g) := (p4 5 0 (by omega)).trans hL.1
    rw [f_X5_sentencePrice_L31]
    simp (disch := first | omega | assumption) only [↓bX, ↓bXA, ↓jn_, ↓ob_, ↓b2_, ↓reduceIte, nn_lt, nn_le, nn_eq, nI_add, pk_mul, nn_su, gn_lt, gn_le, ng_lt, ng_le, ng_eq, gn_eq, gg_eq, n_m1, n_cl, if_true, if_false, if_pos, if_neg, lt0, e]) (by
    rintro m ⟨b, J⟩ j hj ⟨p1, p2, p3, p4⟩
    simp only [] at p1 p2 p3 p4
    have z : ∀ b, b ≠ 109 → b ≠ 110 → b ≠ 111 → J b = I b := fun b h1 h2 h3 => funext (fun k => p4 b k (.inr ⟨h1, h2, h3⟩))
    have hL' : XL g J := XL_k (fun b h1 h2 => z b (by omega) (by omega) (by omega)) hL
    have eW := hL'.1
    have td := x_told (q := q) (ρ := ρ) (L := L) (I := J) (d := d) hL' hg hj (by rw [z 2 (by omega) (by omega) (by omega)]; exact hd) hi hT
    have ⟨hpj, hpb⟩ := hP j hj
    rw [← z 115 (by omega) (by omega) (by omega)] at hpj
    have ⟨l1, l2⟩ := tls_le (g := g) (w := j) (d := d) hi
    obtain ⟨t, ht⟩ : ∃ t, t = tls g T d j i := ⟨_, rfl⟩
    rw [← ht] at td l1 l2
    by_cases t0 : t = 0
    · refine ⟨(b, J), ?_, ?_, p2, p3, p4⟩
      · rw [f_X5_sentencePrice_L31]
        simp (disch := first | omega | assumption) only [↓bX, ↓bXA, ↓jn_, ↓ob_, ↓b2_, ↓reduceIte, nn_lt, nn_le, nn_eq, nI_add, pk_mul, nn_su, gn_lt, gn_le, ng_lt, ng_le, ng_eq, gn_eq, gg_eq, n_m1, n_cl, if_true, if_false, if_pos, if_neg, lt0, eW, ↓b2e td, t0]
      · unfold seA
        rw [abest_s, bsS_f (p := seOk (fun w => tls g T d w i) nx) (by unfold seOk; simp only []; rw [← ht, t0]; rfl)]
        exact p1
    · have hit := (p4 111 (i + t) (.inl (by omega))).trans (hn t (by omega) (by omega) (by omega))
      have hb7 := hnb t
      have keyj : seK P (fun w => tls g T d w i) nx j = P j + (nx t).getD 0 := by unfold seK; simp only []; rw [← ht]
      have okj : seOk (fun w => tls g T d w i) nx j = (nx t).isSome := by
        unfold seOk
        simp only []
        rw [← ht]
        cases t with
        | zero => exact absurd rfl t0
        | succ t => rfl
      have kb : ∀ v, v < lxW g → seK P (fun w => tls g T d w i) nx v ≤ 7722 := fun v hv => by
        unfold seK
        have := hnb (tls g T d v i)
        have := (hP v hv).2
        simp only []
        omega
      have upd : ∀ c, nx t = some c → ∀ V, J 111 i = nI V → V ≤ 1000000 → P j + c < V → f_X5_sentencePrice_L31 5000 108 5 115 2 (nI T) (nI i) kk (m + 1) (nI j) (hp q ρ L J) = f_X5_sentencePrice_L31 5000 108 5 115 2 (nI T) (nI i) kk m (nI (j + 1)) (hp q ρ L (j_up (j_up (j_up J 111 i (nI (P j + c))) 109 i (nI j)) 110 i (nI t))) := by
        intro c hc V hV hVb hlt
        rw [hc, om_s] at hit
        rw [f_X5_sentencePrice_L31]
        simp (disch := first | omega | assumption) only [↓bX, ↓bXA, ↓jn_, ↓ob_, ↓b2_, ↓reduceIte, nn_lt, nn_le, nn_eq, nI_add, pk_mul, nn_su, gn_lt, gn_le, ng_lt, ng_le, ng_eq, gn_eq, gg_eq, n_m1, n_cl, if_true, if_false, if_pos, if_neg, lt0, eW, ↓b2e td, hpj, hit, hV]
      have kp : ∀ V c, J 111 i = nI V → V ≤ 1000000 → c ≤ 1000000 → J 111 (i + t) = nI c → ¬ P j + c < V → f_X5_sentencePrice_L31 5000 108 5 115 2 (nI T) (nI i) kk (m + 1) (nI j) (hp q ρ L J) = f_X5_sentencePrice_L31 5000 108 5 115 2 (nI T) (nI i) kk m (nI (j + 1)) (hp q ρ L J) := by
        intro V c hV hVb hcb hc hlt
        rw [f_X5_sentencePrice_L31]
        simp (disch := first | omega | assumption) only [↓bX, ↓bXA, ↓jn_, ↓ob_, ↓b2_, ↓reduceIte, nn_lt, nn_le, nn_eq, nI_add, pk_mul, nn_su, gn_lt, gn_le, ng_lt, ng_le, ng_eq, gn_eq, gg_eq, n_m1, n_cl, if_true, if_false, if_pos, if_neg, lt0, eW, ↓b2e td, hpj, hc, hV]
      have fr : ∀ c, seF i I (j_up (j_up (j_up J 111 i (nI (P j + c))) 109 i (nI j)) 110 i (nI t)) := fun c b k h => by
        rcases h with h | ⟨h1, h2, h3⟩
        · rw [up_nk h, up_nk h, up_nk h]
          exact p4 b k (.inl h)
        · rw [up_ne h2, up_ne h1, up_ne h3]
          exact p4 b k (.inr ⟨h1, h2, h3⟩)
      have c111 : ∀ c, j_up (j_up (j_up J 111 i (nI (P j + c))) 109 i (nI j)) 110 i (nI t) 111 i = nI (P j + c) := fun c => by rw [up_ne (by omega), up_ne (by omega), up_eq]
      have c109 : ∀ c, j_up (j_up (j_up J 111 i (nI (P j + c))) 109 i (nI j)) 110 i (nI t) 109 i = nI j := fun c => by rw [up_ne (by omega), up_eq]
      have c110 : ∀ c, j_up (j_up (j_up J 111 i (nI (P j + c))) 109 i (nI j)) 110 i (nI t) 110 i = nI t := fun c => up_eq
      cases hx : nx t with
      | none =>
        rw [hx] at okj
        refine ⟨(b, J), ?_, ?_, p2, p3, p4⟩
        · have vb : om (b.map (seK P (fun w => tls g T d w i) nx)) 1000000 ≤ 1000000 := by
            cases b with
            | none => exact Nat.le_refl _
            | some v =>
              have := kb v (by have := (abest_in p1.symm).1; omega)
              show seK P (fun w => tls g T d w i) nx v ≤ 1000000
              omega
          rw [hx, om_n] at hit
          exact kp _ _ p2 vb (Nat.le_refl _) hit (by omega)
        · unfold seA
          rw [abest_s, bsS_f (p := seOk (fun w => tls g T d w i) nx) okj]
          exact p1
      | some c =>
        rw [hx] at okj keyj hb7
        have hcb : c ≤ 7128 := hb7
        cases b with
        | none =>
          refine ⟨(some j, j_up (j_up (j_up J 111 i (nI (P j + c))) 109 i (nI j)) 110 i (nI t)), upd c hx 1000000 p2 (Nat.le_refl _) (by omega), ?_, ?_, fun w hw => ?_, fr c⟩
          · unfold seA at p1 ⊢
            rw [abest_s, ← p1]
            exact (bsS_n okj).symm
          · show _ = nI (seK P (fun w => tls g T d w i) nx j)
            rw [keyj]
            exact c111 c
          · cases hw
            rw [← ht]
            exact ⟨c109 c, c110 c⟩
        | some v =>
          have hv := kb v (by have := (abest_in p1.symm).1; omega)
          have p2' : J 111 i = nI (seK P (fun w => tls g T d w i) nx v) := p2
          by_cases hlt : P j + c < seK P (fun w => tls g T d w i) nx v
          · refine ⟨(some j, j_up (j_up (j_up J 111 i (nI (P j + c))) 109 i (nI j)) 110 i (nI t)), upd c hx _ p2' (by omega) hlt, ?_, ?_, fun w hw => ?_, fr c⟩
            · unfold seA at p1 ⊢
              rw [abest_s, ← p1]
              exact (bsS_s okj (by unfold seR; rw [keyj]; exact decide_eq_true hlt)).symm
            · show _ = nI (seK P (fun w => tls g T d w i) nx j)
              rw [keyj]
              exact c111 c
            · cases hw
              rw [← ht]
              exact ⟨c109 c, c110 c⟩
          · rw [hx, om_s] at hit
            refine ⟨(some v, J), kp _ _ p2' (by omega) (by omega) hit hlt, ?_, p2, p3, p4⟩
            unfold seA at p1 ⊢
            rw [abest_s, ← p1]
            exact (bsS_k okj (by unfold seR; rw [keyj]; exact decide_eq_false hlt)).symm) (lxW g) 5000 (none, I) 0 (by omega) (by omega) ⟨rfl, h0, fun w hw => (by cases hw), fun b k _ => rfl⟩
  simp only [] at e1 e2 e3 e4 e5
  subst e2
  exact ⟨J, e1, e3, e4, e5⟩
def dwn : Nat → Int32
  | 0 => -nI 1
  | k + 1 => nI k
theorem dwn_s {k : Nat} (hk : k < 100000) : nI k + -nI 1 = dwn k := by
  cases k with
  | zero => rfl
  | succ k =>
    rw [← Int32.sub_eq_add_neg, nn_su (by omega)]
    rfl
theorem x_seD {q : pQ} {ρ : pP} {L : pL} {I : pI} {g : gL} {P : Nat → Nat} {T : Nat} {d : Nat → Nat} (hL : XL g I) (hg : WL g) (hd : ∀ k, k < T → I 2 k = nI (48 + d k) ∧ d k ≤ 9) (hT : T ≤ 12) (hP : ∀ w, w < lxW g → I 115 w = nI (P w) ∧ P w ≤ 594) {kk : jH → Option (Int32 × jH)} : ∀ k N J, k ≤ T → k < N → (∀ b, b ≠ 109 → b ≠ 110 → b ≠ 111 → J b = I b) → (∀ j, k ≤ j → j ≤ T → J 111 j = nI (om (seC P (tls g T d) (lxW g) T j) 1000000)) → (∀ j w, k ≤ j → j < T → seW P (tls g T d) (lxW g) T j = some w → J 109 j = nI w ∧ J 110 j = nI (tls g T d w j)) → ∃ J', f_X5_sentencePrice_L14 5000 108 5 115 2 (nI T) kk N (dwn k) (hp q ρ L J) = kk (hp q ρ L J') ∧ (∀ b, b ≠ 109 → b ≠ 110 → b ≠ 111 → J' b = I b) ∧ (∀ j, j ≤ T → J' 111 j = nI (om (seC P (tls g T d) (lxW g) T j) 1000000)) ∧ (∀ j w, j < T → seW P (tls g T d) (lxW g) T j = some w → J' 109 j = nI w ∧ J' 110 j = nI (tls g T d w j))
  | _, 0, _, _, h, _, _, _ => absurd h (Nat.not_lt_zero _)
  | 0, N + 1, J, h1, h2, h3, h4, h5 => by
    refine ⟨J, ?_, h3, fun j hj => h4 j (Nat.zero_le j) hj, fun j w hj => h5 j w (Nat.zero_le j) hj⟩
    rw [f_X5_sentencePrice_L14, dwn]
    simp (disch := first | omega | assumption) only [↓bX, ↓bXA, ↓jn_, ↓ob_, ↓b2_, ↓reduceIte, nn_lt, nn_le, nn_eq, nI_add, pk_mul, nn_su, gn_lt, gn_le, ng_lt, ng_le, ng_eq, gn_eq, gg_eq, n_m1, n_cl, if_true, if_false, if_pos, if_neg, lt0]
  | k + 1, N + 1, J, h1, h2, h3, h4, h5 => by
    have z : ∀ b, b ≠ 109 → b ≠ 110 → b ≠ 111 → j_up J 111 k (nI 1000000) b = I b := fun b g1 g2 g3 => (up_ne g3).trans (h3 b g1 g2 g3)
    have hP' : ∀ w, w < lxW g → P w ≤ 594 := fun w hw => (hP w hw).2
    obtain ⟨K, k1, k2, k3, k4⟩ := x_seL (q := q) (ρ := ρ) (L := L) (I := j_up J 111 k (nI 1000000)) (P := P) (T := T) (i := k) (d := d) (nx := seX P (tls g T d) (lxW g) T k) (XL_k (fun b _ _ => z b (by omega) (by omega) (by omega)) hL) hg (by rw [z 2 (by omega) (by omega) (by omega)]; exact hd) (by omega) hT (by rw [z 115 (by omega) (by omega) (by omega)]; exact hP) (fun t t1 t2 t3 => by
      rw [up_nk (by omega)]
      rcases (show t = 1 ∨ t = 2 by omega) with rfl | rfl
      · rw [seX_1]
        exact h4 (k + 1) (by omega) (by omega)
      · rw [seX_2 t3]
        exact h4 (k + 2) (by omega) (by omega)) (fun t => seX_le hP' hT t) up_eq (kk := fun (h23 : jH) =>
        f_X5_sentencePrice_L14 5000 108 5 115 2 (nI T) kk N (dwn k) h23)
    obtain ⟨J', e1, e2, e3, e4⟩ := x_seD hL hg hd hT hP (kk := kk) k N K (by omega) (by omega) (fun b g1 g2 g3 => (funext (fun j => k4 b j (.inr ⟨g1, g2, g3⟩))).trans (z b g1 g2 g3)) (fun j j1 j2 => by
      by_cases e : j = k
      · rw [e, seC_s (by omega)]
        exact k2
      · rw [k4 111 j (.inl e), up_nk e]
        exact h4 j (by omega) j2) (fun j w j1 j2 j3 => by
      by_cases e : j = k
      · rw [e] at j3 ⊢
        exact k3 w j3
      · rw [k4 109 j (.inl e), k4 110 j (.inl e), up_nk e, up_nk e]
        exact h5 j w (by omega) j2 j3)
    refine ⟨J', ?_, e2, e3, e4⟩
    rw [f_X5_sentencePrice_L14, dwn]
    simp (disch := first | omega | assumption) only [lt0, ↓bX, ↓bXA, nn_lt, if_neg, ↓ob_, dwn_s]
    rw [k1]
    exact e1
theorem x_seP {q : pQ} {ρ : pP} {L : pL} {I : pI} {g : gL} {P : Nat → Nat} {T : Nat} {d : Nat → Nat} (hL : XL g I) (hg : WL g) (hd : ∀ k, k < T → I 2 k = nI (48 + d k) ∧ d k ≤ 9) (hT1 : 1 ≤ T) (hT : T ≤ 12) (hP : ∀ w, w < lxW g → I 115 w = nI (P w) ∧ P w ≤ 594) : ∃ J, f_X5_sentencePrice 5000 108 5 115 2 (nI T) (hp q ρ L I) = some ((match seC P (tls g T d) (lxW g) T 0 with | none => -nI 1 | some c => nI c), hp q ρ L J) ∧ (∀ b, b ≠ 109 → b ≠ 110 → b ≠ 111 → J b = I b) ∧ (∀ j w, j < T → seW P (tls g T d) (lxW g) T j = some w → J 109 j = nI w ∧ J 110 j = nI (tls g T d w j)) := by
  obtain ⟨J, e1, e2, e3, e4⟩ := x_seD (q := q) (ρ := ρ) (L := L) hL hg hd hT hP (kk := fun (h24 : jH) =>
      (jg_R 5 4 h24 108).bind (fun v25 =>
      (ja_I 100 h24 v25 (nI 0)).bind (fun v26 =>
      if nI 1000000 ≤ v26 then
        some (-nI 1, h24)
      else
        (jg_R 5 4 h24 108).bind (fun v27 =>
        (ja_I 100 h24 v27 (nI 0)).bind (fun v28 =>
        some (v28, h24)))))) T 5000 (j_up I 111 T (nI 0)) (Nat.le_refl T) (by omega) (fun b _ _ h => up_ne h) (fun j j1 j2 => by
      have : j = T := by omega
      subst this
      rw [seC_T]
      exact up_eq) (fun j w j1 j2 _ => by omega)
  have hP' : ∀ w, w < lxW g → P w ≤ 594 := fun w hw => (hP w hw).2
  have j0 := e3 0 (by omega)
  have cb := seC_le (P := P) (tl := tls g T d) (W := lxW g) (T := T) (i := 0) hP' hT
  refine ⟨J, ?_, e2, e4⟩
  rw [f_X5_sentencePrice]
  simp (disch := first | omega | assumption) only [lt0, ↓bX, ↓bXA, ↓ob_, nn_su]
  obtain ⟨k, rfl⟩ : ∃ k, T = k + 1 := ⟨T - 1, by omega⟩
  rw [dwn] at e1
  rw [Nat.add_sub_cancel, e1]
  cases h : seC P (tls g (k + 1) d) (lxW g) (k + 1) 0 with
  | none =>
    rw [h, om_n] at j0
    simp (disch := first | omega | assumption) only [↓bX, ↓bXA, ↓jn_, ↓ob_, ↓b2_, ↓reduceIte, nn_lt, nn_le, nn_eq, nI_add, pk_mul, nn_su, gn_lt, gn_le, ng_lt, ng_le, ng_eq, gn_eq, gg_eq, n_m1, n_cl, if_true, if_false, if_pos, if_neg, lt0, j0]
  | some c =>
    rw [h] at cb
    have : c ≤ 7128 := cb
    rw [h, om_s] at j0
    simp (disch := first | omega | assumption) only [↓bX, ↓bXA, ↓jn_, ↓ob_, ↓b2_, ↓reduceIte, nn_lt, nn_le, nn_eq, nI_add, pk_mul, nn_su, gn_lt, gn_le, ng_lt, ng_le, ng_eq, gn_eq, gg_eq, n_m1, n_cl, if_true, if_false, if_pos, if_neg, lt0, j0]
/-- the words told, from i on -/
def sePt (P : Nat → Nat) (tl : Nat → Nat → Nat) (W T : Nat) : Nat → Nat → List Nat
  | 0, _ => []
  | k + 1, i => if i < T then (match seW P tl W T i with
    | none => []
    | some w => w :: sePt P tl W T k (i + tl w i)) else []
theorem sePt_le {P : Nat → Nat} {tl : Nat → Nat → Nat} {W T : Nat} : ∀ k i, (sePt P tl W T k i).length ≤ k
  | 0, _ => Nat.le_refl 0
  | k + 1, i => by
    rw [sePt]
    split
    · split
      · exact Nat.zero_le _
      · exact Nat.succ_le_succ (sePt_le k _)
    · exact Nat.zero_le _
