/-! SENTENCE: the reference's rows, and the call -/
theorem abest_min {p : Nat → Bool} {K : Nat → Nat} : ∀ {n w : Nat}, abest p (fun w v => decide (K w < K v)) n = some w → ∀ v, v < n → p v = true → K w ≤ K v ∧ (v < w → K w < K v)
  | 0, w, h, v, hv, _ => absurd hv (Nat.not_lt_zero v)
  | n + 1, w, h, v, hv, hp_ => by
    rw [abest_s] at h
    cases hpn : p n with
    | false =>
      rw [bsS_f hpn] at h
      by_cases e : v = n
      · rw [e, hpn] at hp_
        cases hp_
      · exact abest_min h v (by omega) hp_
    | true =>
      cases hb : abest p (fun w v => decide (K w < K v)) n with
      | none =>
        rw [hb, bsS_n hpn] at h
        cases h
        by_cases e : v = n
        · rw [e]
          exact ⟨Nat.le_refl _, fun h => absurd h (Nat.lt_irrefl _)⟩
        · exfalso
          exact abest_none hb v (by omega) hp_
      | some u =>
        have hu := (abest_in hb).1
        rw [hb] at h
        have ih := fun v hv hp_ => abest_min (K := K) hb v hv hp_
        by_cases hlt : K n < K u
        · rw [bsS_s (r := fun w v => decide (K w < K v)) hpn (decide_eq_true hlt)] at h
          cases h
          by_cases e : v = n
          · rw [e]
            exact ⟨Nat.le_refl _, fun h => absurd h (Nat.lt_irrefl _)⟩
          · have := (ih v (by omega) hp_).1
            exact ⟨by omega, fun _ => by omega⟩
        · rw [bsS_k (r := fun w v => decide (K w < K v)) hpn (decide_eq_false hlt)] at h
          cases h
          by_cases e : v = n
          · rw [e]
            exact ⟨by omega, fun h => by omega⟩
          · exact ih v (by omega) hp_
where abest_none {p : Nat → Bool} {r : Nat → Nat → Bool} : ∀ {n : Nat}, abest p r n = none → ∀ v, v < n → p v = true → False
  | 0, _, v, hv, _ => absurd hv (Nat.not_lt_zero v)
  | n + 1, h, v, hv, hp_ => by
    rw [abest_s] at h
    cases hpn : p n with
    | false =>
      rw [bsS_f hpn] at h
      by_cases e : v = n
      · rw [e, hpn] at hp_
        cases hp_
      · exact abest_none h v (by omega) hp_
    | true =>
      cases hb : abest p r n with
      | none =>
        rw [hb, bsS_n hpn] at h
        cases h
      | some u =>
        rw [hb] at h
        cases hr : r n u with
        | true => rw [bsS_s hpn hr] at h; cases h
        | false => rw [bsS_k hpn hr] at h; cases h
theorem m_seD {q : pQ} {ρ : pP} {L : pL} {I : pI} {r : gT} {g : gL} {dd : gD} {PP S s T : Nat} {hr : Int32} {d : Nat → Nat} {P : Nat → Nat} (hQ : MQ_ r g dd PP S ρ I) (hwr : WR r) (hg : WL g) (h12 : I 130 12 = hr) (hd : ∀ k, k < T → I 135 k = nI (48 + d k) ∧ d k ≤ 9) (hT : T ≤ 12) (hP : P = fun w => tol (cmp r) g w s hr) {kk : jH → Option (Int32 × jH)} : ∀ k N J z0, k ≤ T → k < N → Fr tSn I J → (∀ j, k ≤ j → j ≤ T → J 147 j = nI (om (seC P (tls g T d) (lxW g) T j) 100000000)) → ∃ J' z, f_X11_sentence_L82 5000 129 (nI s) (nI T) kk N (dwn k) (hp q (rr ρ z0) L J) = kk (hp q (rr ρ z) L J') ∧ Fr tSn I J' ∧ ∀ j, j ≤ T → J' 147 j = nI (om (seC P (tls g T d) (lxW g) T j) 100000000)
  | _, 0, _, _, _, h, _, _ => absurd h (Nat.not_lt_zero _)
  | 0, N + 1, J, z0, h1, h2, h3, h4 => by
    refine ⟨J, z0, ?_, h3, fun j hj => h4 j (Nat.zero_le j) hj⟩
    rw [f_X11_sentence_L82, dwn]
    simp (disch := first | omega | assumption) only [↓bM, ↓bMA, ↓jn_, ↓ob_, ↓b2_, ↓reduceIte, nn_lt, nn_le, nn_eq, nI_add, pk_mul, nn_su, gn_lt, gn_le, ng_lt, ng_le, ng_eq, gn_eq, gg_eq, n_m1, n_cl, if_true, if_false, if_pos, if_neg, lt0]
  | k + 1, N + 1, J, z0, h1, h2, h3, h4 => by
    have hP' : ∀ w, w < lxW g → P w ≤ 594 := fun w hw => by rw [hP]; exact tol_le hg hw
    obtain ⟨K, z, k1, k2, k3, k4⟩ := m_seL (q := q) (L := L) (I := I) (s := s) (T := T) (i := k) (d := d) (nx := seX P (tls g T d) (lxW g) T k) (J0 := j_up J 147 k (nI 100000000)) (z0 := z0) hQ hwr hg h12 hd (by omega) hT (Fr.up h3 rfl) (fun t t1 t2 t3 => by
      rw [up_nk (by omega)]
      rcases (show t = 1 ∨ t = 2 by omega) with rfl | rfl
      · rw [seX_1]
        exact h4 (k + 1) (by omega) (by omega)
      · rw [seX_2 t3]
        exact h4 (k + 2) (by omega) (by omega)) (fun t => seX_le hP' hT t) up_eq (kk := fun (h31 : jH) =>
        f_X11_sentence_L82 5000 129 (nI s) (nI T) kk N (dwn k) h31)
    rw [← hP] at k2
    obtain ⟨J', z', e1, e2, e3⟩ := m_seD (q := q) (L := L) hQ hwr hg h12 hd hT hP (kk := kk) k N K z (by omega) (by omega) k4 (fun j j1 j2 => by
      by_cases e : j = k
      · rw [e, seC_s (by omega)]
        exact k2
      · rw [k3 j e, up_nk e]
        exact h4 j (by omega) j2)
    refine ⟨J', z', ?_, e2, e3⟩
    rw [f_X11_sentence_L82, dwn]
    simp (disch := first | omega | assumption) only [lt0, ↓bM, ↓bMA, nn_lt, if_neg, ↓ob_, dwn_s]
    rw [k1]
    exact e1
theorem m_seF {q : pQ} {ρ : pP} {L : pL} {I : pI} {r : gT} {g : gL} {dd : gD} {PP S s T i w : Nat} {hr : Int32} {d : Nat → Nat} {P : Nat → Nat} {x3 : Nat → Option Nat} (hQ : MQ_ r g dd PP S ρ I) (hwr : WR r) (hg : WL g) (h12 : I 130 12 = hr) (hd : ∀ k, k < T → I 135 k = nI (48 + d k) ∧ d k ≤ 9) (hi : i < T) (hT : T ≤ 12) (hP : P = fun w => tol (cmp r) g w s hr) (hw : seW P (tls g T d) (lxW g) T i = some w) {kk : Int32 → jH → Option (Int32 × jH)} : ∀ k j N J z0, j + k = w → k < N → Fr tN I J → (∀ j, j ≤ T → J 147 j = nI (om (seC P (tls g T d) (lxW g) T j) 100000000)) → ∃ J' z, f_X11_sentence_L199 5000 129 (nI s) (nI T) (nI i) kk N (nI j) (hp q (rr ρ z0) L J) = kk (nI w) (hp q (rr ρ z) L J') ∧ Fr tTo J J'
  | _, _, 0, _, _, _, h, _, _ => absurd h (Nat.not_lt_zero _)
  | k, j, N + 1, J, z0, h1, h2, h3, h4 => by
    have hW := hg.1
    have hP' : ∀ w, w < lxW g → P w ≤ 594 := fun w hw => by rw [hP]; exact tol_le hg hw
    obtain ⟨w1, w2, w3⟩ := seW_in (P := P) (tl := tls g T d) (W := lxW g) (fun w i hi => tls_le hi) hi hw
    have hj : j < lxW g := by omega
    have hQ' := MQ_N (z := z0) h3 hQ
    have td := m_tells (q := q) (ρ := rr ρ z0) (L := L) (I := J) (d := d) hQ'.2.1 hg hj (by rw [h3.row 135 (fun k => rfl)]; exact hd) hi hT
    have ⟨l1, l2⟩ := tls_le (g := g) (w := j) (d := d) hi
    have ci : seC P (tls g T d) (lxW g) T i = some (seK P (fun w => tls g T d w i) (seX P (tls g T d) (lxW g) T i) w) := by rw [seC_s hi, hw]; rfl
    have cib : seK P (fun w => tls g T d w i) (seX P (tls g T d) (lxW g) T i) w ≤ 7128 := by
      have := seC_le (P := P) (tl := tls g T d) (W := lxW g) (T := T) (i := i) hP' hT
      rw [ci] at this
      exact this
    have j147 := h4 i (by omega)
    rw [ci, om_s] at j147
    obtain ⟨t, hte⟩ : ∃ t, t = tls g T d j i := ⟨_, rfl⟩
    have nxt : ∀ t, 1 ≤ t → t ≤ 2 → i + t ≤ T → seX P (tls g T d) (lxW g) T i t = seC P (tls g T d) (lxW g) T (i + t) := fun t t1 t2 t3 => by
      rcases (show t = 1 ∨ t = 2 by omega) with rfl | rfl
      · exact seX_1
      · exact seX_2 t3
    by_cases t0 : t = 0
    · rw [← hte] at td
      obtain ⟨k', rfl⟩ : ∃ k', k = k' + 1 := ⟨k - 1, by
        rcases Nat.eq_zero_or_pos k with rfl | h
        · exfalso
          have : j = w := by omega
          rw [this] at hte
          omega
        · omega⟩
      obtain ⟨J', z', e1, e2⟩ := m_seF (q := q) (L := L) (x3 := x3) hQ hwr hg h12 hd hi hT hP hw (kk := kk) k' (j + 1) N J z0 (by omega) (by omega) h3 h4
      refine ⟨J', z', ?_, e2⟩
      rw [f_X11_sentence_L199]
      simp (disch := first | omega | assumption) only [↓bM, ↓bMA, ↓jn_, ↓ob_, ↓b2_, ↓reduceIte, nn_lt, nn_le, nn_eq, nI_add, pk_mul, nn_su, gn_lt, gn_le, ng_lt, ng_le, ng_eq, gn_eq, gg_eq, n_m1, n_cl, if_true, if_false, if_pos, if_neg, lt0, ↓b2e td, t0]
      exact e1
    · obtain ⟨K, z1, k1, k2⟩ := m_tollR (q := q) (L := L) (s := s) (z := z0) hQ hwr hg h12 hj h3
      have h3' : Fr tN I K := Fr.tr h3 (tTo_N k2)
      have hQ2 := MQ_N (z := z1) h3' hQ
      have td2 := m_tells (q := q) (ρ := rr ρ z1) (L := L) (I := K) (d := d) hQ2.2.1 hg hj (by rw [h3'.row 135 (fun k => rfl)]; exact hd) hi hT
      rw [← hte] at td td2 l1 l2
      have k1' : tol (cmp r) g j s hr = P j := by rw [hP]
      rw [k1'] at k1
      have hpb := hP' j hj
      have k147 : K 147 = J 147 := k2.row 147 (fun k => rfl)
      have hit : K 147 (i + t) = nI (om (seC P (tls g T d) (lxW g) T (i + t)) 100000000) := by rw [k147]; exact h4 _ (by omega)
      have hi0 : K 147 i = nI (seK P (fun w => tls g T d w i) (seX P (tls g T d) (lxW g) T i) w) := by rw [k147]; exact j147
      have xb : om (seC P (tls g T d) (lxW g) T (i + t)) 100000000 ≤ 100000000 := om_le (seC_le hP' hT) (by omega)
      have keyj : seK P (fun w => tls g T d w i) (seX P (tls g T d) (lxW g) T i) j = P j + (seC P (tls g T d) (lxW g) T (i + t)).getD 0 := by
        unfold seK
        simp only []
        rw [← hte, nxt t (by omega) (by omega) (by omega)]
      have okj : seOk (fun w => tls g T d w i) (seX P (tls g T d) (lxW g) T i) j = (seC P (tls g T d) (lxW g) T (i + t)).isSome := by
        unfold seOk
        simp only []
        rw [← hte, nxt t (by omega) (by omega) (by omega)]
        cases t with
        | zero => exact absurd rfl t0
        | succ t => rfl
      by_cases hjw : j = w
      · refine ⟨K, z1, ?_, k2⟩
        have hk : seK P (fun w => tls g T d w i) (seX P (tls g T d) (lxW g) T i) w = P j + om (seC P (tls g T d) (lxW g) T (i + t)) 100000000 := by
          rw [← hjw, keyj]
          have w3' := w3
          rw [← hjw, ← hte] at w3'
          cases hx : seC P (tls g T d) (lxW g) T (i + t) with
          | none => rw [hx] at w3'; cases w3'
          | some c => rfl
        rw [hk] at hi0
        rw [f_X11_sentence_L199]
        simp (disch := first | omega | assumption) only [↓bM, ↓bMA, ↓jn_, ↓ob_, ↓b2_, ↓reduceIte, nn_lt, nn_le, nn_eq, nI_add, pk_mul, nn_su, gn_lt, gn_le, ng_lt, ng_le, ng_eq, gn_eq, gg_eq, n_m1, n_cl, if_true, if_false, if_pos, if_neg, lt0, ↓b2e td, ↓b2e k1, ↓b2e td2, hit, hi0, hjw]
      · obtain ⟨k', rfl⟩ : ∃ k', k = k' + 1 := ⟨k - 1, by omega⟩
        have hne : ¬ P j + om (seC P (tls g T d) (lxW g) T (i + t)) 100000000 = seK P (fun w => tls g T d w i) (seX P (tls g T d) (lxW g) T i) w := by
          cases hx : seC P (tls g T d) (lxW g) T (i + t) with
          | none =>
            rw [om_n]
            omega
          | some c =>
            rw [hx] at okj keyj
            have := (abest_min (K := seK P (fun w => tls g T d w i) (seX P (tls g T d) (lxW g) T i)) hw j hj okj).2 (by omega)
            rw [keyj] at this
            rw [om_s]
            have : seK P (fun w => tls g T d w i) (seX P (tls g T d) (lxW g) T i) w < P j + c := this
            omega
        obtain ⟨J', z', e1, e2⟩ := m_seF (q := q) (L := L) (x3 := x3) hQ hwr hg h12 hd hi hT hP hw (kk := kk) k' (j + 1) N K z1 (by omega) (by omega) h3' (by rw [k147]; exact h4)
        refine ⟨J', z', ?_, Fr.tr k2 e2⟩
        rw [f_X11_sentence_L199]
        simp (disch := first | omega | assumption) only [↓bM, ↓bMA, ↓jn_, ↓ob_, ↓b2_, ↓reduceIte, nn_lt, nn_le, nn_eq, nI_add, pk_mul, nn_su, gn_lt, gn_le, ng_lt, ng_le, ng_eq, gn_eq, gg_eq, n_m1, n_cl, if_true, if_false, if_pos, if_neg, lt0, ↓b2e td, ↓b2e k1, ↓b2e td2, hit, hi0]
        exact e1
