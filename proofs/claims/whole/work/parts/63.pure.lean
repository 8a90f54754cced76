/-! SENTENCE: the way told -/
theorem seW_in {P : Nat → Nat} {tl : Nat → Nat → Nat} {W T i w : Nat} (ht : ∀ w i, i < T → tl w i ≤ 2 ∧ i + tl w i ≤ T) (hi : i < T) (h : seW P tl W T i = some w) : w < W ∧ 1 ≤ tl w i ∧ (seC P tl W T (i + tl w i)).isSome = true := by
  obtain ⟨h1, h2⟩ := abest_in h
  have ⟨t1, t2⟩ := ht w i hi
  unfold seOk at h2
  simp only [] at h2
  obtain ⟨t, hte⟩ : ∃ t, t = tl w i := ⟨_, rfl⟩
  rw [← hte] at h2 t1 t2 ⊢
  rcases (show t = 0 ∨ t = 1 ∨ t = 2 by omega) with rfl | rfl | rfl
  · cases h2
  · rw [seX_1] at h2
    exact ⟨h1, by omega, h2⟩
  · rw [seX_2 t2] at h2
    exact ⟨h1, by omega, h2⟩
theorem seC_w {P : Nat → Nat} {tl : Nat → Nat → Nat} {W T i : Nat} (hi : i < T) (h : (seC P tl W T i).isSome = true) : ∃ w, seW P tl W T i = some w := by
  rw [seC_s hi] at h
  cases e : seW P tl W T i with
  | none => rw [e] at h; cases h
  | some w => exact ⟨w, rfl⟩
theorem x_seT {q : pQ} {ρ : pP} {L : pL} {J : pI} {P : Nat → Nat} {tl : Nat → Nat → Nat} {W T : Nat} (ht : ∀ w i, i < T → tl w i ≤ 2 ∧ i + tl w i ≤ T) (hT : T ≤ 12) (hW : W ≤ 10) (hJ : ∀ j w, j < T → seW P tl W T j = some w → J 109 j = nI w ∧ J 110 j = nI (tl w j)) : ∀ k i r N L, T ≤ i + k → r ≤ i → i ≤ T → k < N → (seC P tl W T i).isSome = true → ∃ L', f_X10_tellSentence_L11 5000 0 (nI T) N (nI i) (nI r) (hp q ρ L (j_up J 3 1 (nI r))) = some (hp q ρ L' (j_up J 3 1 (nI (r + (sePt P tl W T k i).length)))) ∧ (∀ n, n < r → L' 4 n = L 4 n) ∧ (∀ n, n < (sePt P tl W T k i).length → L' 4 (r + n) = (nI ((sePt P tl W T k i).getD n 0)).toInt64) ∧ ∀ b, b ≠ 4 → L' b = L b
  | _, _, _, 0, _, _, _, _, h, _ => absurd h (Nat.not_lt_zero _)
  | 0, i, r, N + 1, L, h1, h2, h3, h4, h5 => by
    refine ⟨L, ?_, fun n _ => rfl, fun n hn => absurd hn (Nat.not_lt_zero n), fun b _ => rfl⟩
    rw [f_X10_tellSentence_L11]
    by_cases e : T ≤ r
    · simp (disch := first | omega | assumption) only [↓bX, ↓bXA, ↓jn_, ↓ob_, ↓b2_, ↓reduceIte, nn_lt, nn_le, nn_eq, nI_add, pk_mul, nn_su, gn_lt, gn_le, ng_lt, ng_le, ng_eq, gn_eq, gg_eq, n_m1, n_cl, if_true, if_false, if_pos, if_neg, lt0]
      rfl
    · simp (disch := first | omega | assumption) only [↓bX, ↓bXA, ↓jn_, ↓ob_, ↓b2_, ↓reduceIte, nn_lt, nn_le, nn_eq, nI_add, pk_mul, nn_su, gn_lt, gn_le, ng_lt, ng_le, ng_eq, gn_eq, gg_eq, n_m1, n_cl, if_true, if_false, if_pos, if_neg, lt0]
      rfl
  | k + 1, i, r, N + 1, L, h1, h2, h3, h4, h5 => by
    by_cases hi : i < T
    · obtain ⟨w, hw⟩ := seC_w hi h5
      obtain ⟨w1, w2, w3⟩ := seW_in ht hi hw
      have ⟨t1, t2⟩ := ht w i hi
      have ⟨j1, j2⟩ := hJ i w hi hw
      have ep : sePt P tl W T (k + 1) i = w :: sePt P tl W T k (i + tl w i) := by
        rw [sePt, if_pos hi, hw]
      obtain ⟨L', e1, e2, e3, e4⟩ := x_seT (q := q) (ρ := ρ) (L := L) ht hT hW hJ k (i + tl w i) (r + 1) N (j_up L 4 r (nI w).toInt64) (by omega) (by omega) t2 (by omega) w3
      rw [ep]
      refine ⟨L', ?_, fun n hn => by rw [e2 n (by omega), up_nk (by omega)], fun n hn => ?_, fun b hb => by rw [e4 b hb, up_ne hb]⟩
      · rw [f_X10_tellSentence_L11]
        simp (disch := first | omega | assumption) only [↓bX, ↓bXA, ↓ob_, lt0, nn_le, if_neg, up_ne, j1, j2, ↓oe (x_add (q := q) (ρ := ρ) (L := L) (I := J) (r := r) (v := (nI w).toInt64) (by omega)), nI_add]
        rw [e1, List.length_cons, show r + ((sePt P tl W T k (i + tl w i)).length + 1) = r + 1 + (sePt P tl W T k (i + tl w i)).length by omega]
      · cases n with
        | zero =>
          rw [Nat.add_zero, e2 r (by omega), up_eq]
          rfl
        | succ n =>
          have := e3 n (by rw [List.length_cons] at hn; omega)
          rw [show r + (n + 1) = r + 1 + n by omega, this]
          rfl
    · have ep : sePt P tl W T (k + 1) i = [] := by rw [sePt, if_neg hi]
      rw [ep]
      refine ⟨L, ?_, fun n _ => rfl, fun n hn => absurd hn (Nat.not_lt_zero n), fun b _ => rfl⟩
      rw [f_X10_tellSentence_L11]
      by_cases e : T ≤ r
      · simp (disch := first | omega | assumption) only [↓bX, ↓bXA, ↓jn_, ↓ob_, ↓b2_, ↓reduceIte, nn_lt, nn_le, nn_eq, nI_add, pk_mul, nn_su, gn_lt, gn_le, ng_lt, ng_le, ng_eq, gn_eq, gg_eq, n_m1, n_cl, if_true, if_false, if_pos, if_neg, lt0]
        rfl
      · simp (disch := first | omega | assumption) only [↓bX, ↓bXA, ↓jn_, ↓ob_, ↓b2_, ↓reduceIte, nn_lt, nn_le, nn_eq, nI_add, pk_mul, nn_su, gn_lt, gn_le, ng_lt, ng_le, ng_eq, gn_eq, gg_eq, n_m1, n_cl, if_true, if_false, if_pos, if_neg, lt0]
        rfl
/-! the reference -/
def tSn (b k : Nat) : Bool := tTo b k || Nat.beq b 147
theorem tTo_S {I J : pI} (h : Fr tTo I J) : Fr tSn I J := h.mo (fun b k e => by unfold tSn; rw [e]; rfl)
theorem tSn_N {I J : pI} (h : Fr tSn I J) : Fr tN I J := fun b k e => by
  by_cases g : b = 147
  · subst g
    cases e
  · refine h b k ?_
    unfold tSn
    cases e1 : tTo b k with
    | true =>
      have : Fr tN (fun _ _ => nI 0) (fun b' k' => if tTo b' k' = true then nI 1 else nI 0) := tTo_N (fun b k e => by rw [e]; rfl)
      have h2 := this b k e
      simp only [e1, if_true] at h2
      exact absurd h2 (by decide)
    | false =>
      cases e2 : Nat.beq b 147 with
      | true => exact absurd (Nat.eq_of_beq_eq_true e2) g
      | false => rfl
theorem m_seL {q : pQ} {ρ : pP} {L : pL} {I : pI} {r : gT} {g : gL} {dd : gD} {PP S s T i : Nat} {hr : Int32} {d : Nat → Nat} {nx : Nat → Option Nat} {J0 : pI} {z0 : Option Nat} (hQ : MQ_ r g dd PP S ρ I) (hwr : WR r) (hg : WL g) (h12 : I 130 12 = hr) (hd : ∀ k, k < T → I 135 k = nI (48 + d k) ∧ d k ≤ 9) (hi : i < T) (hT : T ≤ 12) (hF : Fr tSn I J0) (hn : ∀ t, 1 ≤ t → t ≤ 2 → i + t ≤ T → J0 147 (i + t) = nI (om (nx t) 100000000)) (hnb : ∀ t, (nx t).getD 0 ≤ 7128) (h0 : J0 147 i = nI 100000000) {kk : jH → Option (Int32 × jH)} : ∃ J z, f_X11_sentence_L98 5000 129 (nI s) (nI T) (nI i) kk 5000 (nI 0) (hp q (rr ρ z0) L J0) = kk (hp q (rr ρ z) L J) ∧ J 147 i = nI (om ((seA (fun w => tol (cmp r) g w s hr) (fun w => tls g T d w i) nx (lxW g)).map (seK (fun w => tol (cmp r) g w s hr) (fun w => tls g T d w i) nx)) 100000000) ∧ (∀ k, k ≠ i → J 147 k = J0 147 k) ∧ Fr tSn I J := by
  have hW := hg.1
  obtain ⟨P, hP⟩ : ∃ P : Nat → Nat, P = fun w => tol (cmp r) g w s hr := ⟨_, rfl⟩
  have hPe : ∀ w, tol (cmp r) g w s hr = P w := fun w => by rw [hP]
  have hPb : ∀ w, w < lxW g → P w ≤ 594 := fun w hw => by rw [← hPe]; exact tol_le hg hw
  rw [← hP]
  obtain ⟨⟨b, z, J⟩, e1, e2, e3, e4, e5⟩ := loE (fun m (y : Option Nat × Option Nat × pI) j => f_X11_sentence_L98 5000 129 (nI s) (nI T) (nI i) kk m (nI j) (hp q (rr ρ y.2.1) L y.2.2)) (fun y => kk (hp q (rr ρ y.2.1) L y.2.2)) (lxW g) (fun j y => y.1 = seA P (fun w => tls g T d w i) nx j ∧ y.2.2 147 i = nI (om (y.1.map (seK P (fun w => tls g T d w i) nx)) 100000000) ∧ (∀ k, k ≠ i → y.2.2 147 k = J0 147 k) ∧ Fr tSn I y.2.2) (by
    rintro m ⟨b, z, J⟩ ⟨p1, p2, p3, p4⟩
    simp only [] at p1 p2 p3 p4 ⊢
    have e := (MQ_N (z := z) (tSn_N p4) hQ).2.1.1
    rw [f_X11_sentence_L98]
    simp (disch := first | omega | assumption) only [↓bM, ↓bMA, ↓jn_, ↓ob_, ↓b2_, ↓reduceIte, nn_lt, nn_le, nn_eq, nI_add, pk_mul, nn_su, gn_lt, gn_le, ng_lt, ng_le, ng_eq, gn_eq, gg_eq, n_m1, n_cl, if_true, if_false, if_pos, if_neg, lt0, e]) (by
    rintro m ⟨b, z, J⟩ j hj ⟨p1, p2, p3, p4⟩
    simp only [] at p1 p2 p3 p4
    have hQ' := MQ_N (z := z) (tSn_N p4) hQ
    have eW := hQ'.2.1.1
    have td := m_tells (q := q) (ρ := rr ρ z) (L := L) (I := J) (d := d) hQ'.2.1 hg hj (by rw [(tSn_N p4).row 135 (fun k => rfl)]; exact hd) hi hT
    have ⟨l1, l2⟩ := tls_le (g := g) (w := j) (d := d) hi
    have hpb := hPb j hj
    have kb : ∀ v, v < lxW g → seK P (fun w => tls g T d w i) nx v ≤ 7722 := fun v hv => by
      unfold seK
      have := hnb (tls g T d v i)
      have := hPb v hv
      simp only []
      omega
    have vb : om (b.map (seK P (fun w => tls g T d w i) nx)) 100000000 ≤ 100000000 := by
      cases b with
      | none => exact Nat.le_refl _
      | some v =>
        have := kb v (by have := (abest_in p1.symm).1; omega)
        show seK P (fun w => tls g T d w i) nx v ≤ 100000000
        omega
    obtain ⟨V, hV⟩ : ∃ V, V = om (b.map (seK P (fun w => tls g T d w i) nx)) 100000000 := ⟨_, rfl⟩
    rw [← hV] at p2 vb
    obtain ⟨t, hte⟩ : ∃ t, t = tls g T d j i := ⟨_, rfl⟩
    by_cases t0 : t = 0
    · rw [← hte] at td
      refine ⟨(b, z, J), ?_, ?_, by rw [← hV]; exact p2, p3, p4⟩
      · simp only []
        rw [f_X11_sentence_L98]
        simp (disch := first | omega | assumption) only [↓bM, ↓bMA, ↓jn_, ↓ob_, ↓b2_, ↓reduceIte, nn_lt, nn_le, nn_eq, nI_add, pk_mul, nn_su, gn_lt, gn_le, ng_lt, ng_le, ng_eq, gn_eq, gg_eq, n_m1, n_cl, if_true, if_false, if_pos, if_neg, lt0, eW, ↓b2e td, t0]
      · unfold seA
        rw [abest_s, bsS_f (p := seOk (fun w => tls g T d w i) nx) (by unfold seOk; simp only []; rw [← hte, t0]; rfl)]
        exact p1
    · obtain ⟨K, z1, k1, k2⟩ := m_tollR (q := q) (L := L) (s := s) (z := z) hQ hwr hg h12 hj (tSn_N p4)
      have p4' : Fr tSn I K := Fr.tr p4 (tTo_S k2)
      have hQ2 := MQ_N (z := z1) (tSn_N p4') hQ
      have td2 := m_tells (q := q) (ρ := rr ρ z1) (L := L) (I := K) (d := d) hQ2.2.1 hg hj (by rw [(tSn_N p4').row 135 (fun k => rfl)]; exact hd) hi hT
      rw [← hte] at td td2 l1 l2
      rw [hPe] at k1
      have k147 : K 147 = J 147 := k2.row 147 (fun k => rfl)
      have hit : K 147 (i + t) = nI (om (nx t) 100000000) := by rw [k147, p3 _ (by omega)]; exact hn t (by omega) (by omega) (by omega)
      have xb : om (nx t) 100000000 ≤ 100000000 := om_le (hnb t) (by omega)
      have keyj : seK P (fun w => tls g T d w i) nx j = P j + (nx t).getD 0 := by unfold seK; simp only []; rw [← hte]
      have okj : seOk (fun w => tls g T d w i) nx j = (nx t).isSome := by
        unfold seOk
        simp only []
        rw [← hte]
        cases t with
        | zero => exact absurd rfl t0
        | succ t => rfl
      refine ⟨(bsS (seOk (fun w => tls g T d w i) nx) (seR P (fun w => tls g T d w i) nx) j b, z1, j_up K 147 i (nI (min V (P j + om (nx t) 100000000)))), ?_, ?_, ?_, fun k hk => ?_, Fr.up p4' rfl⟩
      · simp only []
        rw [f_X11_sentence_L98]
        simp (disch := first | omega | assumption) only [↓bM, ↓bMA, ↓jn_, ↓ob_, ↓b2_, ↓reduceIte, nn_lt, nn_le, nn_eq, nI_add, pk_mul, nn_su, gn_lt, gn_le, ng_lt, ng_le, ng_eq, gn_eq, gg_eq, n_m1, n_cl, if_true, if_false, if_pos, if_neg, lt0, eW, ↓b2e td, p2, ↓b2e k1, ↓b2e td2, hit, jmin_nn]
      · show _ = seA P (fun w => tls g T d w i) nx (j + 1)
        unfold seA at p1 ⊢
        rw [abest_s, ← p1]
      · show j_up K 147 i (nI (min V (P j + om (nx t) 100000000))) 147 i = _
        rw [up_eq]
        congr 1
        simp only []
        cases hx : nx t with
        | none =>
          rw [hx] at okj
          rw [bsS_f (p := seOk (fun w => tls g T d w i) nx) okj, ← hV, om_n]
          omega
        | some c =>
          rw [hx] at okj keyj
          have hcb : c ≤ 7128 := by
            have := hnb t
            rw [hx] at this
            exact this
          rw [om_s]
          cases b with
          | none =>
            rw [bsS_n okj]
            show _ = seK P (fun w => tls g T d w i) nx j
            rw [keyj, hV]
            show min 100000000 (P j + c) = P j + c
            omega
          | some v =>
            have hv : V = seK P (fun w => tls g T d w i) nx v := hV
            by_cases hlt : P j + c < V
            · rw [bsS_s okj (by unfold seR; rw [keyj, ← hv]; exact decide_eq_true hlt)]
              show _ = seK P (fun w => tls g T d w i) nx j
              rw [keyj]
              show _ = P j + c
              omega
            · rw [bsS_k okj (by unfold seR; rw [keyj, ← hv]; exact decide_eq_false hlt)]
              show _ = seK P (fun w => tls g T d w i) nx v
              rw [← hv]
              omega
      · show j_up K 147 i (nI (min V (P j + om (nx t) 100000000))) 147 k = _
        rw [up_nk hk, k147]
        exact p3 k hk) (lxW g) 5000 (none, z0, J0) 0 (by omega) (by omega) ⟨rfl, h0, fun k _ => rfl, hF⟩
  simp only [] at e1 e2 e3 e4 e5
  subst e2
  exact ⟨J, z, e1, e3, e4, e5⟩
