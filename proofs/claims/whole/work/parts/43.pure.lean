/-! KEEP, AGAIN -/
theorem MH_t {fM : jH → Option (Int32 × jH)} {G : gG} {v : Int32} (h : ∀ t q ρ L I, t ≤ 100000 → Mr t G ρ L I → fM (hp q ρ L I) = some (v, hp q ρ L (j_up I 129 13 (nI 0)))) : MH fM G v G := by
  intro t q ρ L I ht hM
  refine ⟨ρ, L, _, h t q ρ L I ht hM, ⟨Ms_fr (Fr.up Fr.rf rfl) rfl hM.1, ?_⟩, ⟨rfl, rfl⟩, rfl, fun b hb => up_ne (by omega)⟩
  have := hM.2
  unfold MW at this ⊢
  rw [up_nk (by omega)]
  exact this
theorem kp_ref {ρ : pP} : ∀ i, i < 2 → pR ρ 91 i = some (92 + 5 * i)
  | 0, _ => rfl
  | 1, _ => rfl
  | n + 2, h => by omega
theorem x_kept {q : pQ} {ρ : pP} {L : pL} {I : pI} {i : Nat} (hi : i < 2) : ja_R (hp q ρ L I) 91 (nI i) = some (92 + 5 * i) := by
  rw [ha_R rfl rfl rfl hi, kp_ref i hi]
theorem Sb_kp {i : Nat} (hi : i < 2) : Sb (92 + 5 * i) := by
  have : i = 0 ∨ i = 1 := by omega
  rcases this with rfl | rfl
  · exact .inr (.inl rfl)
  · exact .inr (.inr (.inl rfl))
theorem k_keep (a : Int32) : ∀ G, Wr G → ∃ v G', Wr G' ∧ XH (f_X10_keep 5000 0 a) G v G' ∧ MH (f_X11_keep 5000 129 a) G v G' := by
  intro G hG
  have hG' := hG
  obtain ⟨w1, w2, w3, w4, w5, w6, w7, w8, w9⟩ := hG
  rcases ixo a 2 (by omega) with h | ⟨i, hi, rfl⟩
  · refine ⟨nI 0, G, hG', XH_0 ?_, MH_0 ?_⟩
    · intro q ρ L I hX
      rcases h with h | ⟨h1, h2⟩
      · simp (disch := first | omega | assumption) only [f_X10_keep, ↓bX, ↓bXA, ↓jn_, ↓ob_, ↓b2_, ↓reduceIte, nn_lt, nn_le, nn_eq, nI_add, pk_mul, nn_su, gn_lt, gn_le, ng_lt, ng_le, ng_eq, gn_eq, gg_eq, n_m1, n_cl, if_true, if_false, if_pos, if_neg, lt0, h]
      · simp (disch := first | omega | assumption) only [f_X10_keep, ↓bX, ↓bXA, ↓jn_, ↓ob_, ↓b2_, ↓reduceIte, nn_lt, nn_le, nn_eq, nI_add, pk_mul, nn_su, gn_lt, gn_le, ng_lt, ng_le, ng_eq, gn_eq, gg_eq, n_m1, n_cl, if_true, if_false, if_pos, if_neg, lt0, h1, i_nlt h2]
    · intro t q ρ L I hM
      simp (disch := first | omega | assumption) only [f_X11_keep, ↓bM, ↓bMA, ↓jn_, ↓ob_, ↓b2_, ↓reduceIte, nn_lt, nn_le, nn_eq, nI_add, pk_mul, nn_su, gn_lt, gn_le, ng_lt, ng_le, ng_eq, gn_eq, gg_eq, n_m1, n_cl, if_true, if_false, if_pos, if_neg, lt0, m_inO (n := 1) (by omega) h]
  · refine ⟨nI 1, sKp G (fun j => if j = i then some (gN G) else gKp G j), ⟨w1, w2, w3, w4, w5, w6, fun j hj C hC => ?_, w8, w9⟩, ?_, ?_⟩
    · have hC' : (if j = i then some (gN G) else gKp G j) = some C := hC
      split at hC'
      · cases hC'
        exact w5
      · exact w7 j hj C hC'
    · rintro q ρ L I hq ⟨⟨hT, hL, hD, hP, hS, hU, hK, hR, hρ⟩, hW⟩
      obtain ⟨J, e1, e2, e3⟩ := x_copy (q := q) (ρ := ρ) (L := L) (I := I) (b := 92 + 5 * i) (s := 19) (Sb_kp hi) (.inl rfl) (by omega)
      have e4 : ∀ a, a < 92 ∨ 101 < a → J a = I a := fun a ha => e3 a (by omega)
      have e5 : ∀ a, a < 92 ∨ 102 < a → j_up J 102 i (nI 1) a = I a := fun a ha => by rw [up_ne (by omega), e4 a (by omega)]
      refine ⟨q, ρ, L, j_up J 102 i (nI 1), ?_, ⟨⟨XT_k (by rw [e5 1 (by omega)]) (e5 2 (by omega)) hT, XL_k (fun b _ _ => e5 b (by omega)) hL, XD_k (fun b _ _ => e5 b (by omega)) hD, by rw [e5 0 (by omega)]; exact hP, XS_k (fun i _ => e5 _ (by omega)) hS, XU_k (fun b _ _ => e5 b (by omega)) hU, fun j hj => ?_, XR_k (fun b _ _ => e5 b (by omega)) hR, hρ⟩, ?_⟩, ⟨rfl, rfl, fun b _ _ => e5 b (by omega)⟩, Nat.le_refl _, Nat.le_succ _, Nat.le_add_right _ _⟩
      · simp (disch := first | omega | assumption) only [f_X10_keep, ↓bX, ↓bXA, ↓jn_, ↓ob_, ↓b2_, ↓reduceIte, nn_lt, nn_le, nn_eq, nI_add, pk_mul, nn_su, gn_lt, gn_le, ng_lt, ng_le, ng_eq, gn_eq, gg_eq, n_m1, n_cl, if_true, if_false, if_pos, if_neg, lt0, ↓oe (x_kept (q := q) (ρ := ρ) (L := L) (I := I) hi), ↓oe e1]
      · by_cases hji : j = i
        · subst hji
          refine ⟨fun h => ?_, fun C hC => ⟨up_eq, ?_⟩⟩
          · have h' : (if j = j then some (gN G) else gKp G j) = none := h
            rw [if_pos rfl] at h'
            cases h'
          · have hC' : (if j = j then some (gN G) else gKp G j) = some C := hC
            rw [if_pos rfl] at hC'
            cases hC'
            exact XS_k (fun k hk => up_ne (by omega)) (e2 _ _ w4.1 hS)
        · have hk := hK j hj
          have e6 : J 102 = I 102 := e4 102 (by omega)
          have e7 : gKp (sKp G (fun j => if j = i then some (gN G) else gKp G j)) j = gKp G j := if_neg hji
          rw [up_nk hji, e6, e7]
          exact ⟨hk.1, fun C hC => ⟨(hk.2 C hC).1, XS_k (fun k hk' => by rw [up_ne (by omega), e3 _ (by omega)]) (hk.2 C hC).2⟩⟩
      · unfold XW at hW ⊢
        rw [e5 3 (by omega)]
        exact hW
    · rintro t q ρ L I ht ⟨hM, hW⟩
      obtain ⟨hT, hL, hD, hP, hS, hU, ⟨cm, c1, c2, c3⟩, hR⟩ := Ms_0 (x := nI 0) hM
      obtain ⟨J, e1, e2, e3, e4⟩ := m_lay (q := q) (ρ := ρ) (L := L) (I := j_up (j_up (j_up I 129 13 (nI 0)) 159 i (nI 1)) 160 i (nI cm)) (a := 130) (b := 158) (o := 44 * i) (n := 88) rfl rfl rfl rfl (by omega) (by omega) (by omega)
      have e5 : ∀ c, c ≠ 158 → c ≠ 159 → c ≠ 160 → J c = j_up I 129 13 (nI 0) c := fun c h1 h2 h3 => by rw [e4 c h1, up_ne h3, up_ne h2]
      refine ⟨ρ, L, J, ?_, ⟨⟨MT_k (by rw [e5 129 (by omega) (by omega) (by omega)]) (e5 135 (by omega) (by omega) (by omega)) hT, ML_k (by rw [e5 129 (by omega) (by omega) (by omega)]) (e5 131 (by omega) (by omega) (by omega)) (e5 132 (by omega) (by omega) (by omega)) (e5 133 (by omega) (by omega) (by omega)) hL, MD_k (by rw [e5 129 (by omega) (by omega) (by omega)]) (e5 134 (by omega) (by omega) (by omega)) hD, by rw [e5 129 (by omega) (by omega) (by omega)]; exact hP, MS_k (e5 130 (by omega) (by omega) (by omega)) hS, MU_k (by rw [e5 129 (by omega) (by omega) (by omega)]) (e5 144 (by omega) (by omega) (by omega)) hU, ⟨cm, by omega, by rw [e5 129 (by omega) (by omega) (by omega)]; exact c2, fun j hj => ?_⟩, MR_k (by rw [e5 129 (by omega) (by omega) (by omega)]) (e5 140 (by omega) (by omega) (by omega)) hR⟩, ?_⟩, ⟨rfl, rfl⟩, rfl, fun b hb => by rw [e5 b (by omega) (by omega) (by omega), up_ne (by omega)]⟩
      · have c2' : I 129 52 = nI cm := by rw [up_nk (by omega)] at c2; exact c2
        simp (disch := first | omega | assumption) only [f_X11_keep, ↓bM, ↓bMA, ↓jn_, ↓ob_, ↓b2_, ↓reduceIte, nn_lt, nn_le, nn_eq, nI_add, pk_mul, nn_su, gn_lt, gn_le, ng_lt, ng_le, ng_eq, gn_eq, gg_eq, n_m1, n_cl, if_true, if_false, if_pos, if_neg, lt0, m_in, up_ne, up_nk, c2', ↓oe e1]
      · by_cases hji : j = i
        · subst hji
          refine ⟨cm, Nat.le_refl cm, by rw [e4 160 (by omega)]; exact up_eq, .inr (by rw [e4 159 (by omega), up_ne (by omega)]; exact up_eq), fun h => ?_, fun C hC => ⟨by rw [e4 159 (by omega), up_ne (by omega)]; exact up_eq, rfl, ?_⟩⟩
          · have h' : (if j = j then some (gN G) else gKp G j) = none := h
            rw [if_pos rfl] at h'
            cases h'
          · have hC' : (if j = j then some (gN G) else gKp G j) = some C := hC
            rw [if_pos rfl] at hC'
            cases hC'
            exact MS_lay (I := j_up I 129 13 (nI 0)) (o' := 0) w4.1 (fun k hk => by rw [e2 k hk, up_ne (by omega), up_ne (by omega), Nat.zero_add]) hS
        · obtain ⟨kc, d1, d2, d3, d4, d5⟩ := c3 j hj
          have e7 : gKp (sKp G (fun j => if j = i then some (gN G) else gKp G j)) j = gKp G j := if_neg hji
          rw [e7]
          have a1 : J 160 j = j_up I 129 13 (nI 0) 160 j := by rw [e4 160 (by omega), up_nk hji, up_ne (by omega)]
          have a2 : J 159 j = j_up I 129 13 (nI 0) 159 j := by rw [e4 159 (by omega), up_ne (by omega), up_nk hji]
          rw [a1, a2]
          exact ⟨kc, d1, d2, d3, d4, fun C hC => ⟨(d5 C hC).1, (d5 C hC).2.1, MS_lay (I := j_up I 129 13 (nI 0)) (o' := 44 * j) w4.1 (fun k hk => by rw [e3 _ (by omega), up_ne (by omega), up_ne (by omega)]) (d5 C hC).2.2⟩⟩
      · unfold MW at hW ⊢
        rw [e5 129 (by omega) (by omega) (by omega), up_nk (by omega)]
        exact hW
theorem m_againL {q : pQ} {ρ : pP} {L : pL} {I : pI} {i : Nat} (hi : i < 2) {kk : jH → Option (Int32 × jH)} : ∃ J, f_X11_again_L40 5000 129 (nI i) kk 5000 (nI 0) (hp q ρ L I) = kk (hp q ρ L J) ∧ (∀ k, k < 44 → J 130 k = I 158 (44 * i + k)) ∧ ∀ c, c ≠ 130 → J c = I c := by
  obtain ⟨J, e1, e2, e3⟩ := loE (fun n (s : pI) j => f_X11_again_L40 5000 129 (nI i) kk n (nI j) (hp q ρ L s)) (fun s => kk (hp q ρ L s)) 44 (fun j s => (∀ k, k < j → s 130 k = I 158 (44 * i + k)) ∧ ∀ c, c ≠ 130 → s c = I c) (by
    intro n s p
    rw [f_X11_again_L40]
    simp (disch := first | omega | assumption) only [↓bM, ↓bMA, ↓jn_, ↓ob_, ↓b2_, ↓reduceIte, nn_lt, nn_le, nn_eq, nI_add, pk_mul, nn_su, gn_lt, gn_le, ng_lt, ng_le, ng_eq, gn_eq, gg_eq, n_m1, n_cl, if_true, if_false, if_pos, if_neg, lt0, Nat.le_refl]) (by
    intro m s j hj p
    obtain ⟨p1, p3⟩ := p
    refine ⟨j_up s 130 j (s 158 (44 * i + j)), ?_, fun k hk => ?_, fun c hc => ?_⟩
    · rw [f_X11_again_L40]
      simp (disch := first | omega | assumption) only [↓bM, ↓bMA, ↓jn_, ↓ob_, ↓b2_, ↓reduceIte, nn_lt, nn_le, nn_eq, nI_add, pk_mul, nn_su, gn_lt, gn_le, ng_lt, ng_le, ng_eq, gn_eq, gg_eq, n_m1, n_cl, if_true, if_false, if_pos, if_neg, lt0]
    · by_cases h : k = j
      · subst h
        rw [up_eq, p3 _ (by omega)]
      · rw [up_nk (by omega)]
        exact p1 k (by omega)
    · rw [up_ne hc]
      exact p3 c hc) 44 5000 I 0 (by omega) (by omega) ⟨fun k hk => absurd hk (Nat.not_lt_zero k), fun c _ => rfl⟩
  exact ⟨J, e1, e2, e3⟩
theorem k_again (a : Int32) : ∀ G, Wr G → ∃ v G', Wr G' ∧ XH (f_X10_again 5000 0 a) G v G' ∧ MH (f_X11_again 5000 129 a) G v G' := by
  intro G hG
  have hG' := hG
  obtain ⟨w1, w2, w3, w4, w5, w6, w7, w8, w9⟩ := hG
  rcases ixo a 2 (by omega) with h | ⟨i, hi, rfl⟩
  · refine ⟨nI 0, G, hG', XH_0 ?_, MH_0 ?_⟩
    · intro q ρ L I hX
      rcases h with h | ⟨h1, h2⟩
      · simp (disch := first | omega | assumption) only [f_X10_again, ↓bX, ↓bXA, ↓jn_, ↓ob_, ↓b2_, ↓reduceIte, nn_lt, nn_le, nn_eq, nI_add, pk_mul, nn_su, gn_lt, gn_le, ng_lt, ng_le, ng_eq, gn_eq, gg_eq, n_m1, n_cl, if_true, if_false, if_pos, if_neg, lt0, h]
      · simp (disch := first | omega | assumption) only [f_X10_again, ↓bX, ↓bXA, ↓jn_, ↓ob_, ↓b2_, ↓reduceIte, nn_lt, nn_le, nn_eq, nI_add, pk_mul, nn_su, gn_lt, gn_le, ng_lt, ng_le, ng_eq, gn_eq, gg_eq, n_m1, n_cl, if_true, if_false, if_pos, if_neg, lt0, h1, h2]
    · intro t q ρ L I hM
      simp (disch := first | omega | assumption) only [f_X11_again, ↓bM, ↓bMA, ↓jn_, ↓ob_, ↓b2_, ↓reduceIte, nn_lt, nn_le, nn_eq, nI_add, pk_mul, nn_su, gn_lt, gn_le, ng_lt, ng_le, ng_eq, gn_eq, gg_eq, n_m1, n_cl, if_true, if_false, if_pos, if_neg, lt0, m_inO (n := 1) (by omega) h]
  · cases hk : gKp G i with
    | none =>
      refine ⟨nI 0, G, hG', XH_0 ?_, MH_t ?_⟩
      · rintro q ρ L I ⟨⟨hT, hL, hD, hP, hS, hU, hK, hR, hρ⟩, hW⟩
        have e := (hK i hi).1 hk
        simp (disch := first | omega | assumption) only [f_X10_again, ↓bX, ↓bXA, ↓jn_, ↓ob_, ↓b2_, ↓reduceIte, nn_lt, nn_le, nn_eq, nI_add, pk_mul, nn_su, gn_lt, gn_le, ng_lt, ng_le, ng_eq, gn_eq, gg_eq, n_m1, n_cl, if_true, if_false, if_pos, if_neg, lt0, e]
      · rintro t q ρ L I ht ⟨⟨hT, hL, hD, hP, hS, hU, ⟨cm, c1, c2, c3⟩, hR⟩, hW⟩
        obtain ⟨kc, d1, d2, d3, d4, d5⟩ := c3 i hi
        rcases d3 with d3 | d3
        · simp (disch := first | omega | assumption) only [f_X11_again, ↓bM, ↓bMA, ↓jn_, ↓ob_, ↓b2_, ↓reduceIte, nn_lt, nn_le, nn_eq, nI_add, pk_mul, nn_su, gn_lt, gn_le, ng_lt, ng_le, ng_eq, gn_eq, gg_eq, n_m1, n_cl, if_true, if_false, if_pos, if_neg, lt0, m_in, up_ne, d3]
        · rcases d4 hk with d4 | d4
          · simp (disch := first | omega | assumption) only [f_X11_again, ↓bM, ↓bMA, ↓jn_, ↓ob_, ↓b2_, ↓reduceIte, nn_lt, nn_le, nn_eq, nI_add, pk_mul, nn_su, gn_lt, gn_le, ng_lt, ng_le, ng_eq, gn_eq, gg_eq, n_m1, n_cl, if_true, if_false, if_pos, if_neg, lt0, m_in, up_ne, d4]
          · have hne : ¬ I 160 i = I 129 52 := by
              rw [d2, c2, nn_eq (by omega) (by omega)]
              omega
            simp (disch := first | omega | assumption) only [f_X11_again, ↓bM, ↓bMA, ↓jn_, ↓ob_, ↓b2_, ↓reduceIte, nn_lt, nn_le, nn_eq, nI_add, pk_mul, nn_su, gn_lt, gn_le, ng_lt, ng_le, ng_eq, gn_eq, gg_eq, n_m1, n_cl, if_true, if_false, if_pos, if_neg, lt0, m_in, up_ne, up_nk, d3, hne]
    | some C =>
      refine ⟨nI 1, sRw (sUn (sN G C) (0, (gUn G).2)) (gRw G), ⟨w1, w2, w3, w4, w7 i hi C hk, ⟨Nat.zero_le _, fun j hj => absurd hj (Nat.not_lt_zero j)⟩, w7, w8, w9⟩, XH_s _ _ _ ?_, MH_s _ _ _ ?_⟩
      · rintro q ρ L I ⟨⟨hT, hL, hD, hP, hS, ⟨o, ho, h1, h2, h3⟩, hK, hR, hρ⟩, hW⟩
        obtain ⟨e, hC⟩ := (hK i hi).2 C hk
        obtain ⟨J, e1, e2, e3⟩ := x_copy (q := q) (ρ := ρ) (L := L) (I := I) (b := 19) (s := 92 + 5 * i) (.inl rfl) (Sb_kp hi) (by omega)
        refine ⟨L, j_up J 24 2 (nI 0), ?_, Fr_26 (fun a ha => by rw [up_ne (by omega), e3 a (by omega)]), rfl, ?_, XS_k (fun j hj => up_ne (by omega)) (e2 _ _ w4.1 hC), ⟨o, ho, by rw [up_nk (by omega), e3 24 (by omega)]; exact h1, up_eq, fun j hj => absurd hj (Nat.not_lt_zero j)⟩⟩
        · simp (disch := first | omega | assumption) only [f_X10_again, ↓bX, ↓bXA, ↓jn_, ↓ob_, ↓b2_, ↓reduceIte, nn_lt, nn_le, nn_eq, nI_add, pk_mul, nn_su, gn_lt, gn_le, ng_lt, ng_le, ng_eq, gn_eq, gg_eq, n_m1, n_cl, if_true, if_false, if_pos, if_neg, lt0, e, ↓oe (x_kept (q := q) (ρ := ρ) (L := L) (I := I) hi), ↓oe e1]
        · unfold XW at hW ⊢
          rw [up_ne (by omega), e3 3 (by omega)]
          exact hW
      · rintro t q ρ L I ⟨hM, hW⟩
        obtain ⟨hT, hL, hD, hP, hS, hU, ⟨cm, c1, c2, c3⟩, hR⟩ := Ms_0 (x := nI 0) hM
        obtain ⟨kc, d1, d2, d3, d4, d5⟩ := c3 i hi
        obtain ⟨f1, f2, f3⟩ := d5 C hk
        subst f2
        obtain ⟨J, e1, e2, e3⟩ := m_againL (q := q) (ρ := ρ) (L := L) (I := j_up I 129 13 (nI 0)) hi (kk := fun (h13 : jH) => (jp_I 11 29 h13 129 (nI 0)).bind (fun h14 => some (nI 1, h14)))
        refine ⟨ρ, L, j_up J 129 29 (nI 0), ?_, Fr.up (fun b k e => ?_) rfl, ⟨rfl, rfl, rfl⟩, rfl, ?_, MS_lay (I := j_up I 129 13 (nI 0)) (o' := 44 * i) w4.1 (fun k hk => by rw [up_ne (by omega), Nat.zero_add, e2 k hk]) f3, ⟨up_eq, fun j hj => absurd hj (Nat.not_lt_zero j)⟩⟩
        · rw [f_X11_again]
          simp (disch := first | omega | assumption) only [↓bM, ↓bMA, ↓jn_, ↓ob_, ↓b2_, ↓reduceIte, nn_lt, nn_le, nn_eq, nI_add, pk_mul, nn_su, gn_lt, gn_le, ng_lt, ng_le, ng_eq, gn_eq, gg_eq, n_m1, n_cl, if_true, if_false, if_pos, if_neg, lt0, m_in, f1, d2, c2]
          rw [e1]
          simp (disch := first | omega | assumption) only [↓bM, ↓bMA, ↓jn_, ↓ob_, ↓b2_, ↓reduceIte, nn_lt, nn_le, nn_eq, nI_add, pk_mul, nn_su, gn_lt, gn_le, ng_lt, ng_le, ng_eq, gn_eq, gg_eq, n_m1, n_cl, if_true, if_false, if_pos, if_neg, lt0]
        · by_cases h0 : b = 130
          · subst h0; cases e
          · rw [e3 b h0]
            exact (Fr.up Fr.rf rfl : Fr tO I _) b k e
        · unfold MW at hW ⊢
          rw [up_nk (by omega), e3 129 (by omega), up_nk (by omega)]
          exact hW
