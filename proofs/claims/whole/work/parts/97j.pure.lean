/-! THE LAW -/
def C0 : gC := ((nI 0, nI 0), (fun _ => 0), (fun _ => 0), (fun _ => nI 0), fun _ => nI 0)
def G0 : gG := (oTx, (0, (fun _ => 0), (fun _ _ => 0), (fun _ => 0), fun _ => nI 0), (0, (fun _ => 0), (fun _ => 0), (fun _ => 0), fun _ => 0), (0, 1, C0), (0, fun _ => C0), (fun _ => none), (0, fun _ => 0), oTx)
theorem i_0 : iG gF 1 1 = nI 0 ∧ iG gF 5 0 = nI 0 ∧ iG gF 13 0 = nI 0 ∧ iG gF 0 18 = nI 0 ∧ iG gF 0 17 = nI 1 ∧ iG gF 19 0 = nI 0 ∧ iG gF 19 1 = nI 0 ∧ (∀ k, k < 30 → iG gF 23 k = nI 0) ∧ iG gF 24 1 = nI 0 ∧ iG gF 24 2 = nI 0 ∧ (∀ k, k < 2 → iG gF 102 k = nI 0) ∧ iG gF 119 4 = nI 3 ∧ iG gF 121 0 = nI 1000 ∧ iG gF 121 1 = nI 1 ∧ iG gF 121 2 = nI 2043 ∧ iG gF 3 1 = nI 0 := by decide +kernel
theorem i_1 : iG gF 129 10 = nI 0 ∧ iG gF 129 2 = nI 0 ∧ iG gF 129 7 = nI 0 ∧ iG gF 129 6 = nI 0 ∧ iG gF 129 1 = nI 1 ∧ iG gF 130 12 = nI 0 ∧ iG gF 130 13 = nI 0 ∧ (∀ k, k < 30 → iG gF 130 (0 + (14 + k)) = nI 0) ∧ iG gF 129 29 = nI 0 ∧ iG gF 129 52 = nI 0 ∧ (∀ k, k < 2 → iG gF 160 k = nI 0 ∧ iG gF 159 k = nI 0) ∧ iG gF 129 24 = nI 0 ∧ iG gF 129 12 = nI 0 := by decide +kernel
theorem Inv_0 : Inv 0 q0 ρ0 (fun _ _ => 0) (iG gF) := by
  obtain ⟨a1, a2, a3, a4, a5, a6, a7, a8, a9, a10, a11, a12, a13, a14, a15, a16⟩ := i_0
  obtain ⟨b1, b2, b3, b4, b5, b6, b7, b8, b9, b10, b11, b12, b13⟩ := i_1
  refine ⟨Nat.le_refl _, G0, ⟨WT_0, ⟨Nat.zero_le _, fun w hw => absurd hw (Nat.not_lt_zero w)⟩, ⟨Nat.zero_le _, fun e he => absurd he (Nat.not_lt_zero e)⟩, ⟨Nat.zero_le _, Nat.le_refl _, by decide⟩, fun t ht => absurd ht (Nat.not_lt_zero t), WU_0, WK_none, Nat.zero_le _, ⟨Nat.zero_le _, fun k hk => absurd hk (Nat.not_lt_zero k), .inl rfl⟩⟩, ⟨⟨⟨a1, fun k hk => absurd hk (Nat.not_lt_zero k)⟩, ⟨a2, fun w hw => absurd hw (Nat.not_lt_zero w)⟩, ⟨a3, fun e he => absurd he (Nat.not_lt_zero e)⟩, ⟨a4, a5⟩, ⟨⟨a6, a7⟩, fun t ht => absurd ht (Nat.not_lt_zero t), a8⟩, ⟨0, by omega, a9, a10, fun i hi => absurd hi (Nat.not_lt_zero i)⟩, fun i hi => ⟨fun _ => a11 i hi, fun C hC => by cases hC⟩, ⟨.inl rfl, a12, fun i hi => ?_⟩, .inl rfl⟩, ⟨a16, fun i hi => absurd hi (Nat.not_lt_zero i)⟩⟩, ⟨⟨⟨b1, fun k hk => absurd hk (Nat.not_lt_zero k)⟩, ⟨b2, fun w hw => absurd hw (Nat.not_lt_zero w)⟩, ⟨b3, fun e he => absurd he (Nat.not_lt_zero e)⟩, ⟨b4, b5⟩, ⟨⟨b6, b7⟩, fun t ht => absurd ht (Nat.not_lt_zero t), b8⟩, ⟨b9, fun i hi => absurd hi (Nat.not_lt_zero i)⟩, ⟨0, Nat.le_refl _, b10, fun i hi => ⟨0, Nat.le_refl _, (b11 i hi).1, .inl (b11 i hi).2, fun _ => .inl (b11 i hi).2, fun C hC => by cases hC⟩⟩, ⟨rfl, b12, fun k hk => absurd hk (Nat.not_lt_zero k)⟩⟩, ⟨b13, fun i hi => absurd hi (Nat.not_lt_zero i)⟩⟩⟩
  have ec : cmp (gRu G0) = [nI 1000, nI 1, nI 2043] := if_pos rfl
  rw [ec] at hi ⊢
  rcases (show i = 0 ∨ i = 1 ∨ i = 2 by simp only [List.length_cons, List.length_nil] at hi; omega) with rfl | rfl | rfl
  · exact a13
  · exact a14
  · exact a15
theorem Mr_0 {t : Nat} {G : gG} {ρ : pP} {L : pL} {I : pI} {x : Int32} (h : Mr t G ρ L I) : Mr t G ρ L (j_up I 129 13 x) := ⟨Ms_0 h.1, by
  have hW := h.2
  unfold MW at hW ⊢
  rw [up_nk (by omega)]
  exact hW⟩
theorem Xr_0 {G : gG} {ρ : pP} {L : pL} {I : pI} {x : Int32} (h : Xr G ρ L I) : Xr G ρ L (j_up I 129 13 x) := Xr_same ⟨⟨rfl, rfl⟩, rfl, fun b hb => up_ne (by omega)⟩ h
theorem m_thr {q : pQ} {ρ : pP} {L : pL} {I : pI} {x : Int32} : f_X11_thrown 5000 129 (hp q ρ L (j_up I 129 13 x)) = some (x, hp q ρ L (j_up I 129 13 x)) := by
  simp (disch := first | omega | assumption) only [f_X11_thrown, ↓bM, up_eq]
/-- a call that may throw: both sides -/
theorem T_of {α : Type} {z : α} {fX : jH → Option (Option α × jH)} {fM : jH → Option (α × jH)} {t : Nat} {q : pQ} {ρ : pP} {L : pL} {I : pI} (c : α → Int64) (h : ∀ G, Wr G → TOk z fX fM G) (hI : Inv t q ρ L I) : (∃ v, fX (hp q ρ L I) = some (some v, hp q ρ L I) ∧ fM (hp q ρ (j_up L 161 0 (c v)) I) = some (v, hp q ρ (j_up L 161 0 (c v)) (j_up I 129 13 (nI 0))) ∧ Inv t q ρ (j_up L 161 0 (c v)) (j_up I 129 13 (nI 0))) ∨ ∃ q' L' I', fX (hp q ρ L I) = some (none, hp q' ρ L' I') ∧ fM (hp q' ρ L' I') = some (z, hp q' ρ L' (j_up I' 129 13 (nI 1))) ∧ Inv t q' ρ L' (j_up I' 129 13 (nI 1)) ∧ q'.1.1 ≤ q.1.1 + 1 ∧ q'.1.2 ≤ q.1.2 + 6 := by
  obtain ⟨hq, G, hW, hX, hM⟩ := hI
  rcases h G hW with ⟨v, h1, h2⟩ | ⟨h1, h2⟩
  · have x1 : Xr G ρ (j_up L 161 0 (c v)) I := Xr_same ⟨⟨rfl, rfl⟩, up_ne (by omega), fun b hb => rfl⟩ hX
    have m1 : Mr t G ρ (j_up L 161 0 (c v)) I := Mr_same ⟨rfl, up_ne (by omega), fun b _ _ => rfl⟩ hM
    exact .inl ⟨v, h1 q ρ L I hX, h2 t q ρ _ I m1, hq, G, hW, Xr_0 x1, Mr_0 m1⟩
  · have rL : ∀ b, b < 162 → j_row L q.1.1 (fun _ => 0) b = L b := fun b hb => if_neg (by omega)
    have rI : ∀ b, b < 162 → j_row I q.1.1 (fun _ => 0) b = I b := fun b hb => if_neg (by omega)
    have x1 : Xr G ρ (j_row L q.1.1 (fun _ => 0)) (j_row I q.1.1 (fun _ => 0)) := Xr_same ⟨⟨rfl, rfl⟩, rL 4 (by omega), fun b hb => rI b (by omega)⟩ hX
    have m1 : Mr t G ρ (j_row L q.1.1 (fun _ => 0)) (j_row I q.1.1 (fun _ => 0)) := Mr_same ⟨rfl, rL 136 (by omega), fun b _ hb => rI b (by omega)⟩ hM
    refine .inr ⟨qN q 999 6, j_row L q.1.1 (fun _ => 0), j_row I q.1.1 (fun _ => 0), ?_, h2 t _ ρ _ _ m1, ⟨by show 162 ≤ q.1.1 + 1; omega, G, hW, Xr_0 x1, Mr_0 m1⟩, Nat.le_refl _, Nat.le_refl _⟩
    rw [h1 q ρ L I hX, js_hp hq]
theorem scr_at {Ls : Nat} {xs : Nat → Int32} {i : Nat} (h : i < Ls) (hL : Ls ≤ 2560) : j_scr Ls xs (nI i) = some (xs i) := by
  unfold j_scr
  rw [if_pos (jx_nI h (by omega)), n_cl (by omega)]
theorem b3_s {α β : Type} {o : Option (Option α × jH)} {v : α} {h : jH} {k : α → jH → Option β} {kx : jH → Option β} (e : o = some (some v, h)) : j_b3 o k kx = k v h := by rw [e]; rfl
theorem b3_n {α β : Type} {o : Option (Option α × jH)} {h : jH} {k : α → jH → Option β} {kx : jH → Option β} (e : o = some (none, h)) : j_b3 o k kx = kx h := by rw [e]; rfl
def Lo (Ls : Nat) (xs : Nat → Int32) (N : Nat) (x : Int32) (h : jH) : Option (Int32 × jH) := f_L_law_L23 5000 Ls xs 0 129 161 N x h
def Goal_ (a b : Nat) (o : Option (Int32 × jH)) : Prop := ∃ hf, o = some (nI 1, hf) ∧ jh_n hf ≤ a ∧ jh_s hf ≤ b
theorem c_1 {t : Nat} {q : pQ} {ρ : pP} {L : pL} {I : pI} {a b j : Nat} {lp : jH → Option (Int32 × jH)} (ht : t ≤ j) (hj : j ≤ 600) (hI : Inv t q ρ L I) (nx : ∀ t' q' ρ' L' I', t' ≤ j + 1 → Inv t' q' ρ' L' I' → q'.1.1 ≤ q.1.1 + 1 → q'.1.2 ≤ q.1.2 + 6 → Goal_ a b (lp (hp q' ρ' L' I'))) {fX fM : jH → Option (Int32 × jH)} (h : ∀ G, Wr G → ∃ v G', Wr G' ∧ XH fX G v G' ∧ MH fM G v G') : Goal_ a b (j_b2 (fX (hp q ρ L I)) (fun v13 h12 => j_b2 (fM h12) (fun v16 h15 => if v13 = v16 then lp h15 else some (nI 0, h15)))) := by
  obtain ⟨v, q', ρ', L', I', ρ'', L'', I'', x1, m1, i1, n1, n2⟩ := MOk_of h t q ρ L I (by omega) hI
  rw [x1, b2, m1, b2, if_pos rfl]
  exact nx _ _ _ _ _ (by omega) i1 n1 n2
theorem c_2 {α : Type} {z : α} {t : Nat} {q : pQ} {ρ : pP} {L : pL} {I : pI} {a b j : Nat} {lp : jH → Option (Int32 × jH)} (c : α → Int64) (ht : t ≤ j) (hI : Inv t q ρ L I) (nx : ∀ t' q' ρ' L' I', t' ≤ j + 1 → Inv t' q' ρ' L' I' → q'.1.1 ≤ q.1.1 + 1 → q'.1.2 ≤ q.1.2 + 6 → Goal_ a b (lp (hp q' ρ' L' I'))) {fX : jH → Option (Option α × jH)} {fM : jH → Option (α × jH)} (h : ∀ G, Wr G → TOk z fX fM G) : Goal_ a b (j_b2 (j_b3 (fX (hp q ρ L I)) (fun v1 h2 => (jb_L h2 161 (nI 0) (c v1)).bind (fun h4 => some (nI 0, h4))) (fun h3 => some (nI 1, h3))) (fun v48 h47 => j_b2 (fM h47) (fun v52 h51 => j_b2 (f_X11_thrown 5000 129 h51) (fun v54 h53 => if v54 = v48 then (if v48 = nI 0 then (ja_L h53 161 (nI 0)).bind (fun v56 => if lg_cmp v56 (c v52) = nI 0 then lp h53 else some (nI 0, h53)) else lp h53) else some (nI 0, h53))))) := by
  rcases T_of c h hI with ⟨v, x1, m1, i1⟩ | ⟨q', L', I', x1, m1, i1, n1, n2⟩
  · have e1 : jb_L (hp q ρ L I) 161 (nI 0) (c v) = some (hp q ρ (j_up L 161 0 (c v)) I) := hb_L (n := 1) rfl rfl rfl (by omega)
    rw [b3_s x1, e1, ob, b2, m1, b2, m_thr, b2, if_pos rfl, if_pos rfl]
    have e : ja_L (hp q ρ (j_up L 161 0 (c v)) (j_up I 129 13 (nI 0))) 161 (nI 0) = some (c v) := by
      have : ja_L (hp q ρ (j_up L 161 0 (c v)) (j_up I 129 13 (nI 0))) 161 (nI 0) = some (j_up L 161 0 (c v) 161 0) := ha_L (n := 1) rfl rfl rfl (by omega)
      rw [this, up_eq]
    rw [e, ob, if_pos (by rw [cmp_0])]
    exact nx _ _ _ _ _ (by omega) i1 (by omega) (by omega)
  · rw [b3_n x1, b2, m1, b2, m_thr, b2, if_pos rfl, if_neg (by decide)]
    exact nx _ _ _ _ _ (by omega) i1 n1 n2
set_option maxHeartbeats 8000000 in
theorem law_loop {Ls : Nat} {xs : Nat → Int32} (hL : Ls ≤ 2560) : ∀ m j N t q ρ L I, Ls < 5 * (j + m) + 5 → m < N → t ≤ j → j + m ≤ 520 → Inv t q ρ L I → Goal_ (q.1.1 + m) (q.1.2 + 6 * m) (f_L_law_L23 5000 Ls xs 0 129 161 N (nI (5 * j)) (hp q ρ L I))
  | _, _, 0, _, _, _, _, _, _, h, _, _, _ => absurd h (Nat.not_lt_zero _)
  | m, j, N + 1, t, q, ρ, L, I, h1, h2, h3, h4, hI => by
    rw [f_L_law_L23]
    have cd : ((Int32.ofNat Ls - 5) < nI (5 * j)) = (Ls < 5 * j + 5) := propext (by
      rw [show Int32.ofNat Ls - 5 = nI Ls - nI 5 from rfl, Int32.lt_iff_toInt_lt, pk_sub_toInt (by omega) (by omega), n_ti (by omega)]
      omega)
    by_cases he : Ls < 5 * j + 5
    · rw [if_pos (by rw [cd]; exact he)]
      exact ⟨_, rfl, Nat.le_add_right _ _, Nat.le_add_right _ _⟩
    · rw [if_neg (by rw [cd]; exact he)]
      obtain ⟨m, rfl⟩ : ∃ m', m = m' + 1 := ⟨m - 1, by omega⟩
      have s0 : j_scr Ls xs (nI (5 * j)) = some (xs (5 * j)) := scr_at (by omega) hL
      have s1 : j_scr Ls xs (nI (5 * j) + nI 1) = some (xs (5 * j + 1)) := by rw [nI_add]; exact scr_at (by omega) hL
      have s2 : j_scr Ls xs (nI (5 * j) + nI 2) = some (xs (5 * j + 2)) := by rw [nI_add]; exact scr_at (by omega) hL
      have s3 : j_scr Ls xs (nI (5 * j) + nI 3) = some (xs (5 * j + 3)) := by rw [nI_add]; exact scr_at (by omega) hL
      have s4 : j_scr Ls xs (nI (5 * j) + nI 4) = some (xs (5 * j + 4)) := by rw [nI_add]; exact scr_at (by omega) hL
      have nx : ∀ t' q' ρ' L' I', t' ≤ j + 1 → Inv t' q' ρ' L' I' → q'.1.1 ≤ q.1.1 + 1 → q'.1.2 ≤ q.1.2 + 6 → Goal_ (q.1.1 + (m + 1)) (q.1.2 + 6 * (m + 1)) (f_L_law_L23 5000 Ls xs 0 129 161 N (nI (5 * j) + nI 5) (hp q' ρ' L' I')) := by
        intro t' q' ρ' L' I' a1 a2 a3 a4
        obtain ⟨hf, b1, b2, b3⟩ := law_loop hL m (j + 1) N t' q' ρ' L' I' (by omega) (by omega) a1 (by omega) a2
        exact ⟨hf, by rw [nI_add, show 5 * j + 5 = 5 * (j + 1) by omega]; exact b1, by omega, by omega⟩
      rw [s0, ob]
      generalize xs (5 * j) = w
      simp only [lt0, s1, s2, s3, s4, ob_, jn_, f_L_word, f_L_traveller, f_L_errand, f_L_book, f_L_row]
      by_cases h100 : w &&& nI 63 = nI 0
      · rw [if_pos h100]
        exact c_1 h3 (by omega) hI nx (k_sign _)
      rw [if_neg h100]
      by_cases h101 : w &&& nI 63 = nI 1
      · rw [if_pos h101]
        exact c_1 h3 (by omega) hI nx (k_end _)
      rw [if_neg h101]
      by_cases h102 : w &&& nI 63 = nI 2
      · rw [if_pos h102]
        exact c_1 h3 (by omega) hI nx (k_road _)
      rw [if_neg h102]
      by_cases h103 : w &&& nI 63 = nI 3
      · rw [if_pos h103]
        exact c_1 h3 (by omega) hI nx (k_words)
      rw [if_neg h103]
      by_cases h104 : w &&& nI 63 = nI 4
      · rw [if_pos h104]
        exact c_1 h3 (by omega) hI nx (k_travellers)
      rw [if_neg h104]
      by_cases h105 : w &&& nI 63 = nI 5
      · rw [if_pos h105]
        exact c_1 h3 (by omega) hI nx (k_errands)
      rw [if_neg h105]
      by_cases h106 : w &&& nI 63 = nI 6
      · rw [if_pos h106]
        exact c_1 h3 (by omega) hI nx (k_rule)
      rw [if_neg h106]
      by_cases h107 : w &&& nI 63 = nI 7
      · rw [if_pos h107]
        exact c_2 (fun v => v.toInt64) h3 hI nx (k_word _ _)
      rw [if_neg h107]
      by_cases h108 : w &&& nI 63 = nI 8
      · rw [if_pos h108]
        exact c_2 (fun v => v.toInt64) h3 hI nx (k_traveller _ _)
      rw [if_neg h108]
      by_cases h109 : w &&& nI 63 = nI 9
      · rw [if_pos h109]
        exact c_2 (fun v => v.toInt64) h3 hI nx (k_errand _ _)
      rw [if_neg h109]
      by_cases h110 : w &&& nI 63 = nI 10
      · rw [if_pos h110]
        exact c_2 (fun v => v.toInt64) h3 hI nx (k_book _ _)
      rw [if_neg h110]
      by_cases h111 : w &&& nI 63 = nI 11
      · rw [if_pos h111]
        exact c_1 h3 (by omega) hI nx (k_sheet _ _ _ _)
      rw [if_neg h111]
      by_cases h112 : w &&& nI 63 = nI 12
      · rw [if_pos h112]
        exact c_1 h3 (by omega) hI nx (k_toll _ _)
      rw [if_neg h112]
      by_cases h113 : w &&& nI 63 = nI 13
      · rw [if_pos h113]
        exact c_1 h3 (by omega) hI nx (k_walk _ _)
      rw [if_neg h113]
      by_cases h114 : w &&& nI 63 = nI 14
      · rw [if_pos h114]
        exact c_1 h3 (by omega) hI nx (k_pause _)
      rw [if_neg h114]
      by_cases h115 : w &&& nI 63 = nI 15
      · rw [if_pos h115]
        exact c_1 h3 (by omega) hI nx (k_say _ _)
      rw [if_neg h115]
      by_cases h116 : w &&& nI 63 = nI 16
      · rw [if_pos h116]
        exact c_1 h3 (by omega) hI nx (k_alms _ _ _)
      rw [if_neg h116]
      by_cases h117 : w &&& nI 63 = nI 17
      · rw [if_pos h117]
        exact c_1 h3 (by omega) hI nx (k_journey)
      rw [if_neg h117]
      by_cases h118 : w &&& nI 63 = nI 18
      · rw [if_pos h118]
        exact c_1 h3 (by omega) hI nx (k_undo)
      rw [if_neg h118]
      by_cases h119 : w &&& nI 63 = nI 19
      · rw [if_pos h119]
        exact c_1 h3 (by omega) hI nx (k_cheapest _ _)
      rw [if_neg h119]
      by_cases h120 : w &&& nI 63 = nI 20
      · rw [if_pos h120]
        exact c_1 h3 (by omega) hI nx (k_sentence _)
      rw [if_neg h120]
      by_cases h121 : w &&& nI 63 = nI 21
      · rw [if_pos h121]
        exact c_1 h3 (by omega) hI nx (k_when _ _)
      rw [if_neg h121]
      by_cases h122 : w &&& nI 63 = nI 22
      · rw [if_pos h122]
        exact c_1 h3 (by omega) hI nx (k_shortest _ _ _)
      rw [if_neg h122]
      by_cases h123 : w &&& nI 63 = nI 23
      · rw [if_pos h123]
        exact c_1 h3 (by omega) hI nx (k_differ _ _)
      rw [if_neg h123]
      by_cases h124 : w &&& nI 63 = nI 24
      · rw [if_pos h124]
        exact c_1 h3 (by omega) hI nx (k_near _)
      rw [if_neg h124]
      by_cases h125 : w &&& nI 63 = nI 25
      · rw [if_pos h125]
        exact c_1 h3 (by omega) hI nx (k_heard _ _ _)
      rw [if_neg h125]
      by_cases h126 : w &&& nI 63 = nI 26
      · rw [if_pos h126]
        exact c_1 h3 (by omega) hI nx (k_code _)
      rw [if_neg h126]
      by_cases h127 : w &&& nI 63 = nI 27
      · rw [if_pos h127]
        exact c_1 h3 (by omega) hI nx (k_trip _ _)
      rw [if_neg h127]
      by_cases h128 : w &&& nI 63 = nI 28
      · rw [if_pos h128]
        exact c_1 h3 (by omega) hI nx (k_haste _)
      rw [if_neg h128]
      by_cases h129 : w &&& nI 63 = nI 29
      · rw [if_pos h129]
        exact c_1 h3 (by omega) hI nx (k_best _)
      rw [if_neg h129]
      by_cases h130 : w &&& nI 63 = nI 30
      · rw [if_pos h130]
        exact c_1 h3 (by omega) hI nx (k_takes _ _)
      rw [if_neg h130]
      by_cases h131 : w &&& nI 63 = nI 31
      · rw [if_pos h131]
        exact c_1 h3 (by omega) hI nx (k_greed _)
      rw [if_neg h131]
      by_cases h132 : w &&& nI 63 = nI 32
      · rw [if_pos h132]
        exact c_1 h3 (by omega) hI nx (k_law _)
      rw [if_neg h132]
      by_cases h133 : w &&& nI 63 = nI 33
      · rw [if_pos h133]
        exact c_1 h3 (by omega) hI nx (k_said)
      rw [if_neg h133]
      by_cases h134 : w &&& nI 63 = nI 34
      · rw [if_pos h134]
        exact c_1 h3 (by omega) hI nx (k_ask)
      rw [if_neg h134]
      by_cases h135 : w &&& nI 63 = nI 35
      · rw [if_pos h135]
        exact c_1 h3 (by omega) hI nx (k_years _ _)
      rw [if_neg h135]
      by_cases h136 : w &&& nI 63 = nI 36
      · rw [if_pos h136]
        exact c_1 h3 (by omega) hI nx (k_keep _)
      rw [if_neg h136]
      by_cases h137 : w &&& nI 63 = nI 37
      · rw [if_pos h137]
        exact c_1 h3 (by omega) hI nx (k_again _)
      rw [if_neg h137]
      by_cases h138 : w &&& nI 63 = nI 38
      · rw [if_pos h138]
        exact c_1 h3 (by omega) hI nx (k_count _)
      rw [if_neg h138]
      by_cases h139 : w &&& nI 63 = nI 39
      · rw [if_pos h139]
        exact c_2 (fun v => v) h3 hI nx (k_row _)
      rw [if_neg h139]
      exact nx t q ρ L I (by omega) hI (by omega) (by omega)
/-- turns enough for every loop -/
def jFU : Nat := 5000
theorem law_true (L : Nat) (xs : Nat → Int32) (hL : L ≤ 2560) : ∃ hf, f_L_law jFU L xs jh0 = some (1, hf) ∧ jh_n hf ≤ 601024 ∧ jh_s hf ≤ 7293034 := by
  have h := law_loop (xs := xs) hL 512 0 5000 0 q0 ρ0 (fun _ _ => 0) (iG gF) (by omega) (by omega) (by omega) (by omega) Inv_0
  obtain ⟨hf, a1, a2, a3⟩ := h
  have b2 : jh_n hf ≤ 162 + 512 := a2
  have b3 : jh_s hf ≤ mF + 6 * 512 := a3
  have hm : mF = 9154 := rfl
  refine ⟨hf, ?_, by omega, by omega⟩
  show f_L_law 5000 L xs jh0 = _
  rw [law_in, hs_hp]
  exact a1
