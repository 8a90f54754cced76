/-! THE TOLL by the reference -/
theorem rr_rr (ρ : pP) (z : Option Nat) (r : Nat) : ((rr ρ z).1, (rr ρ z).2.1, some r, (rr ρ z).2.2.2) = rr ρ (some r) := rfl
theorem rr_0 (ρ : pP) (r : Nat) : (ρ.1, ρ.2.1, some r, ρ.2.2.2) = rr ρ (some r) := rfl
theorem rr_u (ρ : pP) (z : Option Nat) : (rr ρ z).2.2.2 = ρ.2.2.2 ∧ (rr ρ z).1 = ρ.1 ∧ (rr ρ z).2.1 = ρ.2.1 ∧ (rr ρ z).2.2.1 = z := ⟨rfl, rfl, rfl, rfl⟩
theorem rr_id (ρ : pP) : rr ρ ρ.2.2.1 = ρ := rfl
theorem mp_fold {I : pI} {p : Nat} {w : Int32} : j_up (j_up I 129 17 (nI p)) 129 18 w = mp I p w := rfl
def tTo (b k : Nat) : Bool := (Nat.beq b 129 && ((Nat.ble 15 k && Nat.ble k 18) || Nat.beq k 25)) || Nat.beq b 142 || Nat.beq b 143
theorem Fr.row {T : Nat → Nat → Bool} {I J : pI} (h : Fr T I J) (b : Nat) (g : ∀ k, T b k = false) : J b = I b := funext (fun k => h b k (g k))
theorem Fr.mp_ {T : Nat → Nat → Bool} {I J : pI} {p : Nat} {w : Int32} (h : Fr T I J) (h1 : T 129 17 = true) (h2 : T 129 18 = true) : Fr T I (mp J p w) := Fr.up (Fr.up h h1) h2
/-- the rule as the reference holds it, in row U -/
def Ru (ρ : pP) (U : Nat) (g : gT) (I : pI) : Prop := ρ.2.2.2.1 = U ∧ (U = 140 ∨ U = 141) ∧ I 129 24 = nI g.1 ∧ ∀ k, k < g.1 → I U k = by8 (g.2 k)
theorem m_tollZ {q : pQ} {ρ : pP} {L : pL} {x1 x2 x3 x4 x5 : Int32} {k29 : jH → Option (Int32 × jH)} : ∀ m n j (I : pI), j + m = 5 → m < n → (∀ v, v < j → I 143 v = nI 0) → ∃ J, f_X11_tollOf_L9 5000 129 x1 x2 x3 x4 x5 k29 n (nI j) (hp q ρ L I) = k29 (hp q ρ L J) ∧ (∀ v, v < 5 → J 143 v = nI 0) ∧ ∀ b, b ≠ 143 → J b = I b
  | _, 0, _, _, _, h, _ => absurd h (Nat.not_lt_zero _)
  | 0, n + 1, j, I, h1, h2, h3 => by
    have : j = 5 := by omega
    subst this
    refine ⟨I, ?_, h3, fun _ _ => rfl⟩
    simp (disch := first | omega | assumption) only [f_X11_tollOf_L9, ob_, b2_, jn_, nn_lt, nn_le, nn_eq, nI_add, pk_mul, nn_su, gn_lt, gn_le, ng_lt, ng_le, ng_eq, gn_eq, gg_eq, n_m1, n_cl, if_true, if_false, if_pos, if_neg, ite_self, lt0]
  | m + 1, n + 1, j, I, h1, h2, h3 => by
    obtain ⟨J, e1, e2, e3⟩ := m_tollZ (q := q) (ρ := ρ) (L := L) (x1 := x1) (x2 := x2) (x3 := x3) (x4 := x4) (x5 := x5) (k29 := k29) m n (j + 1) (j_up I 143 j (nI 0)) (by omega) (by omega) (fun v hv => by
      by_cases h : v = j
      · exact up_one h
      · rw [up_nk h]
        exact h3 v (by omega))
    refine ⟨J, ?_, e2, fun b hb => (e3 b hb).trans (up_ne hb)⟩
    rw [← e1]
    simp (disch := first | omega | assumption) only [f_X11_tollOf_L9, kM, kMA, ob_, b2_, jn_, nn_lt, nn_le, nn_eq, nI_add, pk_mul, nn_su, gn_lt, gn_le, ng_lt, ng_le, ng_eq, gn_eq, gg_eq, n_m1, n_cl, if_true, if_false, if_pos, if_neg, ite_self, lt0]
theorem m_vowelOf (c : Nat) (hc : c < 26) (h : jH) : f_X11_vowelOf 5000 (nI c) h = some (if vo c < 5 then nI (vo c) else -nI 1, h) := by
  simp (disch := first | omega | assumption) only [f_X11_vowelOf, ob_, b2_, jn_, nn_lt, nn_le, nn_eq, nI_add, pk_mul, nn_su, gn_lt, gn_le, ng_lt, ng_le, ng_eq, gn_eq, gg_eq, n_m1, n_cl, if_true, if_false, if_pos, if_neg, ite_self, lt0, vo]
  by_cases h1 : c = 0
  · subst h1; simp (disch := first | omega | assumption) only [ob_, b2_, jn_, nn_lt, nn_le, nn_eq, nI_add, pk_mul, nn_su, gn_lt, gn_le, ng_lt, ng_le, ng_eq, gn_eq, gg_eq, n_m1, n_cl, if_true, if_false, if_pos, if_neg, ite_self, lt0]
  by_cases h2 : c = 4
  · subst h2; simp (disch := first | omega | assumption) only [ob_, b2_, jn_, nn_lt, nn_le, nn_eq, nI_add, pk_mul, nn_su, gn_lt, gn_le, ng_lt, ng_le, ng_eq, gn_eq, gg_eq, n_m1, n_cl, if_true, if_false, if_pos, if_neg, ite_self, lt0]
  by_cases h3 : c = 8
  · subst h3; simp (disch := first | omega | assumption) only [ob_, b2_, jn_, nn_lt, nn_le, nn_eq, nI_add, pk_mul, nn_su, gn_lt, gn_le, ng_lt, ng_le, ng_eq, gn_eq, gg_eq, n_m1, n_cl, if_true, if_false, if_pos, if_neg, ite_self, lt0]
  by_cases h4 : c = 14
  · subst h4; simp (disch := first | omega | assumption) only [ob_, b2_, jn_, nn_lt, nn_le, nn_eq, nI_add, pk_mul, nn_su, gn_lt, gn_le, ng_lt, ng_le, ng_eq, gn_eq, gg_eq, n_m1, n_cl, if_true, if_false, if_pos, if_neg, ite_self, lt0]
  by_cases h5 : c = 20
  · subst h5; simp (disch := first | omega | assumption) only [ob_, b2_, jn_, nn_lt, nn_le, nn_eq, nI_add, pk_mul, nn_su, gn_lt, gn_le, ng_lt, ng_le, ng_eq, gn_eq, gg_eq, n_m1, n_cl, if_true, if_false, if_pos, if_neg, ite_self, lt0]
  simp (disch := first | omega | assumption) only [ob_, b2_, jn_, nn_lt, nn_le, nn_eq, nI_add, pk_mul, nn_su, gn_lt, gn_le, ng_lt, ng_le, ng_eq, gn_eq, gg_eq, n_m1, n_cl, if_true, if_false, if_pos, if_neg, ite_self, lt0]
theorem m_clamp (x : Int32) : j_max (nI 0) (j_min (nI 99) x) = nI (cl99 x) := by
  by_cases h0 : x < nI 0
  · have hx : x.toNatClampNeg = 0 := by
      rw [Int32.lt_iff_toInt_lt, n_ti (by omega)] at h0
      show x.toInt.toNat = 0
      omega
    have h1 : x < nI 99 := by
      rw [Int32.lt_iff_toInt_lt, n_ti (by omega)] at h0 ⊢
      omega
    have h2 : ¬ nI 0 < x := by
      rw [Int32.lt_iff_toInt_lt, n_ti (by omega)] at h0 ⊢
      omega
    simp only [j_min, j_max, if_pos h1, if_neg h2, cl99, hx]
    rfl
  · obtain ⟨j, hj, rfl⟩ := c_lt0 h0
    by_cases h1 : j < 99
    · by_cases h2 : 0 < j
      · simp (disch := first | omega | assumption) only [ob_, b2_, jn_, nn_lt, nn_le, nn_eq, nI_add, pk_mul, nn_su, gn_lt, gn_le, ng_lt, ng_le, ng_eq, gn_eq, gg_eq, n_m1, n_cl, if_true, if_false, if_pos, if_neg, ite_self, lt0, j_min, j_max, cl99, Nat.min_eq_right]
      · have : j = 0 := by omega
        subst this
        rfl
    · simp (disch := first | omega | assumption) only [ob_, b2_, jn_, nn_lt, nn_le, nn_eq, nI_add, pk_mul, nn_su, gn_lt, gn_le, ng_lt, ng_le, ng_eq, gn_eq, gg_eq, n_m1, n_cl, if_true, if_false, if_pos, if_neg, ite_self, lt0, j_min, j_max, cl99, Nat.min_eq_left]
theorem m_held {q : pQ} {ρ : pP} {L : pL} {I : pI} {U : Nat} {g : gT} {fx : Nat → Int32} (hρ : ρ.2.2.1 = some U) (hU : U = 140 ∨ U = 141) (hg : WR g) (h0 : g.1 ≠ 0) (h15 : I 129 15 = nI g.1) (h16 : I 129 16 = nI 40) (h25 : I 129 25 = nI 1) (hk : ∀ k, k < g.1 → I U k = by8 (g.2 k)) (hfx : ∀ k, k < 7 → I 142 k = fx k) : f_X11_held 5000 129 (nI 0) (hp q ρ L (mp I 0 (-nI 1))) = some (vO fx (cmp g), hp q ρ L (mp I g.1 (-nI 1))) := by
  obtain ⟨w1, w2, w3⟩ := hg
  have hR : RdM ρ I g.2 g.1 := ⟨U, g.1, 40, hρ, .inr ⟨hU, w1⟩, h15, h16, by omega, by omega, by omega, fun k h => ⟨hk k h, w2 k h⟩⟩
  obtain ⟨v, e1, e2⟩ := h_exp (q := q) (L := L) hR w1 (fx := fx) (.inr ⟨h25, hfx⟩) 4 0 400 (by omega) (by omega) 0 (by omega)
  rcases w3 with w3 | ⟨w3, w4⟩
  · exact absurd w3 h0
  · rw [Nat.min_eq_left w1] at w3 w4
    have ec : cmp g = (pExp g.2 g.1 4 0).2.2 := if_neg h0
    show f_gH 5000 400 0 129 (nI 0) _ = _
    rw [e1, e2 w3, ec, w4]
    unfold mW
    rw [if_pos w3]
theorem m_tollL {q : pQ} {ρ : pP} {L : pL} {I : pI} {U w len s : Nat} {g : gT} {l : Nat → Nat} {hr : Int32} (hU : Ru ρ U g I) (hg : WR g) (hw : w < 10) (hlen : len ≤ 6) (h6 : I 132 w = nI len) (h9 : ∀ k, k < len → I 131 (6 * w + k) = nI (l k)) (hl : ∀ k, k < len → l k < 26) (I0 : pI) (z0 : Option Nat)
    (hF : Fr tTo I I0) (gp : ∀ v, v < 5 → I0 143 v = nI 0) :
    ∃ J z, f_X11_tollOf_L32 5000 129 (nI w) (nI s) hr 5000 (nI 0) (nI 0) (nI 0) (hp q (rr ρ z0) L I0) = some (nI (tl_ (cmp g) l len s hr len).1, hp q (rr ρ z) L J) ∧ (∀ v, v < 5 → J 143 v = nI (tlV (cmp g) l len s hr len v)) ∧ Fr tTo I J := by
  obtain ⟨hU1, hU2, hU3, hU4⟩ := hU
  refine lq (S := Int32 × Int32 × Option Nat × pI) (fun o => ∃ J z, o = some (nI (tl_ (cmp g) l len s hr len).1, hp q (rr ρ z) L J) ∧ (∀ v, v < 5 → J 143 v = nI (tlV (cmp g) l len s hr len v)) ∧ Fr tTo I J)
    (fun n x j => f_X11_tollOf_L32 5000 129 (nI w) (nI s) hr n x.1 x.2.1 (nI j) (hp q (rr ρ x.2.2.1) L x.2.2.2))
    (fun j x => x.1 = nI (tl_ (cmp g) l len s hr j).2 ∧ x.2.1 = nI (tl_ (cmp g) l len s hr j).1 ∧ Fr tTo I x.2.2.2 ∧ ∀ v, v < 5 → x.2.2.2 143 v = nI (tlV (cmp g) l len s hr j v))
    len ?_ ?_ len 5000 (nI 0, nI 0, z0, I0) 0 (by omega) (by omega) ⟨rfl, rfl, hF, gp⟩
  · rintro n ⟨x1, x2, z, J⟩ ⟨a1, a2, a3, a4⟩
    simp only [] at a1 a2 a3 a4 ⊢
    have e6 : J 132 = I 132 := a3.row 132 (fun k => rfl)
    refine ⟨J, z, ?_, a4, a3⟩
    rw [a2]
    rw [f_X11_tollOf_L32]
    simp (disch := first | omega | assumption) only [↓bM, ↓bMA, ↓jn_, ↓ob_, ↓b2_, ↓reduceIte, nn_lt, nn_le, nn_eq, nI_add, pk_mul, nn_su, gn_lt, gn_le, ng_lt, ng_le, ng_eq, gn_eq, gg_eq, n_m1, n_cl, if_true, if_false, if_pos, if_neg, lt0, e6, h6, Nat.le_refl]
  · rintro n ⟨x1, x2, z, J⟩ j hj ⟨a1, a2, a3, a4⟩ K
    simp only [] at a1 a2 a3 a4 ⊢
    subst a1 a2
    have e6 : J 132 = I 132 := a3.row 132 (fun k => rfl)
    have e9 : J 131 = I 131 := a3.row 131 (fun k => rfl)
    have e24 : J 129 24 = nI g.1 := by rw [a3 129 24 rfl, hU3]
    have hlj := hl j hj
    have hb := tl_le (cmp g) l len s hr j
    have hb2 := tlV_le (cmp g) l len s hr (vo (l j)) j
    have hg1 := hg.1
    have ml : ∀ (k : Nat) (ρ' : pP) (J' : pI), k < 6 → f_X11_letter 5000 129 (nI w) (nI k) (hp q ρ' L J') = some (J' 131 (6 * w + k), hp q ρ' L J') := by
      intro k ρ' J' hk
      simp (disch := first | omega | assumption) only [f_X11_letter, ↓bM, ↓bMA, ↓jn_, ↓ob_, ↓b2_, ↓reduceIte, nn_lt, nn_le, nn_eq, nI_add, pk_mul, nn_su, gn_lt, gn_le, ng_lt, ng_le, ng_eq, gn_eq, gg_eq, n_m1, n_cl, if_true, if_false, if_pos, if_neg, lt0]
    rw [f_X11_tollOf_L32]
    by_cases hv : vo (l j) < 5
    · have mv : ∀ h : jH, f_X11_vowelOf 5000 (nI (l j)) h = some (nI (vo (l j)), h) := by
        intro h
        rw [m_vowelOf _ hlj, if_pos hv]
      have fin : ∀ (J' : pI) (z' : Option Nat) (x : Int32), Fr tTo I J' → J' 143 = J 143 → cl99 x = prc (cmp g) l len s hr j (tl_ (cmp g) l len s hr j).2 → ∃ JJ zz, f_X11_tollOf_L32 5000 129 (nI w) (nI s) hr n (nI ((tl_ (cmp g) l len s hr j).2 + 1)) (nI ((tl_ (cmp g) l len s hr j).1 + cl99 x)) (nI (j + 1)) (hp q (rr ρ z') L (j_up J' 143 (vo (l j)) (nI (tlV (cmp g) l len s hr j (vo (l j)) + cl99 x)))) = some (nI (tl_ (cmp g) l len s hr len).1, hp q (rr ρ zz) L JJ) ∧ (∀ v, v < 5 → JJ 143 v = nI (tlV (cmp g) l len s hr len v)) ∧ Fr tTo I JJ := by
        intro J' z' x f1 f2 f3
        refine K (nI ((tl_ (cmp g) l len s hr j).2 + 1), nI ((tl_ (cmp g) l len s hr j).1 + cl99 x), z', j_up J' 143 (vo (l j)) (nI (tlV (cmp g) l len s hr j (vo (l j)) + cl99 x))) ⟨?_, ?_, ?_, ?_⟩
        · simp only []
          rw [tl_s, tlF, if_pos hv]
        · simp only []
          rw [tl_s, tlF, if_pos hv, f3]
        · exact Fr.up f1 rfl
        · intro v hv5
          simp only []
          rw [tlV_s]
          by_cases hvv : v = vo (l j)
          · rw [up_one hvv, if_pos hvv.symm, f3, hvv]
          · rw [up_nk hvv, if_neg (fun h => hvv h.symm), f2]
            exact a4 v hv5
      by_cases hz : g.1 = 0
      · have ec : cmp g = [nI 1000] ++ [nI 1] ++ [nI (2000 + 43)] := if_pos hz
        have hx : cl99 (nI (vo (l j) + 1)) = prc (cmp g) l len s hr j (tl_ (cmp g) l len s hr j).2 := by
          show _ = cl99 (vO _ (cmp g))
          rw [ec, (Pu_bin (Pu_fact (k := 0) (by omega)).1 (Pu_num (v := 1) (by omega)).1 (by omega) (by omega)).2, (Pu_fact (k := 0) (by omega)).2, (Pu_num (v := 1) (by omega)).2]
          show _ = cl99 (nI (vo (l j)) + nI 1)
          rw [nI_add]
        simp (disch := first | omega | assumption) only [↓bM, ↓bMA, ↓jn_, ↓ob_, ↓b2_, ↓reduceIte, nn_lt, nn_le, nn_eq, nI_add, pk_mul, nn_su, gn_lt, gn_le, ng_lt, ng_le, ng_eq, gn_eq, gg_eq, n_m1, n_cl, if_true, if_false, if_pos, if_neg, lt0, e6, h6, ↓b2e (ml j _ _ (by omega)), e9, h9, ↓b2e (mv _), e24, hz, a4, m_clamp]
        exact fin J z _ a3 rfl hx
      · have main : ∀ d, d = (if 0 < j ∧ l j = l (j - 1) then nI 1 else nI 0) → f_X11_held 5000 129 (nI 0) (hp q (rr ρ (some U)) L (mp (j_up (j_up (j_up (j_up (j_up (j_up (j_up (j_up (j_up (j_up J 142 0 (nI (vo (l j)))) 142 1 (nI s)) 142 2 (hr - hr / nI 24 * nI 24)) 142 3 (nI len)) 142 4 (nI j)) 142 5 (nI (tl_ (cmp g) l len s hr j).2)) 142 6 d) 129 15 (nI g.1)) 129 16 (nI 40)) 129 25 (nI 1)) 0 (-nI 1))) = some (vO (fcts l len s hr j (tl_ (cmp g) l len s hr j).2) (cmp g), hp q (rr ρ (some U)) L (mp (j_up (j_up (j_up (j_up (j_up (j_up (j_up (j_up (j_up (j_up J 142 0 (nI (vo (l j)))) 142 1 (nI s)) 142 2 (hr - hr / nI 24 * nI 24)) 142 3 (nI len)) 142 4 (nI j)) 142 5 (nI (tl_ (cmp g) l len s hr j).2)) 142 6 d) 129 15 (nI g.1)) 129 16 (nI 40)) 129 25 (nI 1)) g.1 (-nI 1))) := by
          intro d hd
          refine m_held rfl hU2 hg hz ?_ ?_ ?_ ?_ ?_
          · rw [up_nk (by omega), up_nk (by omega), up_eq]
          · rw [up_nk (by omega), up_eq]
          · rw [up_eq]
          · intro k hk
            have e : J U = I U := by rcases hU2 with rfl | rfl <;> exact a3.row _ (fun k => rfl)
            rw [up_ne (by omega), up_ne (by omega), up_ne (by omega), up_ne (by omega), up_ne (by omega), up_ne (by omega), up_ne (by omega), up_ne (by omega), up_ne (by omega), up_ne (by omega), e]
            exact hU4 k hk
          · intro k hk
            rw [up_ne (by omega), up_ne (by omega), up_ne (by omega)]
            have : k = 0 ∨ k = 1 ∨ k = 2 ∨ k = 3 ∨ k = 4 ∨ k = 5 ∨ k = 6 := by omega
            rcases this with rfl | rfl | rfl | rfl | rfl | rfl | rfl
            · simp (disch := first | omega | assumption) only [up_nk, up_eq]; rfl
            · simp (disch := first | omega | assumption) only [up_nk, up_eq]; rfl
            · simp (disch := first | omega | assumption) only [up_nk, up_eq]; rfl
            · simp (disch := first | omega | assumption) only [up_nk, up_eq]; rfl
            · simp (disch := first | omega | assumption) only [up_nk, up_eq]; rfl
            · simp (disch := first | omega | assumption) only [up_nk, up_eq]; rfl
            · rw [up_eq, hd]; rfl
        by_cases hj0 : j = 0
        · have e1 := main (nI 0) (by rw [if_neg (by omega)])
          simp (disch := first | omega | assumption) only [↓bM, ↓bMA, ↓jn_, ↓ob_, ↓b2_, ↓reduceIte, nn_lt, nn_le, nn_eq, nI_add, pk_mul, nn_su, gn_lt, gn_le, ng_lt, ng_le, ng_eq, gn_eq, gg_eq, n_m1, n_cl, if_true, if_false, if_pos, if_neg, lt0, e6, h6, ↓b2e (ml j _ _ (by omega)), e9, h9, ↓b2e (mv _), e24, a4, m_clamp, ↓oe (rem24 hr), up_ne, f_X11_begin, ↓oe (hR14 _ _ _ _ _), rr_0, rr_u, hU1, mp_fold, mp_co, e1, mp_ne]
          rw [← mp_co (a := 143) (by omega)]
          refine fin _ _ (vO _ _) ?_ ?_ rfl
          · repeat (first | exact a3 | refine Fr.mp_ ?_ rfl rfl | refine Fr.up ?_ rfl)
          · simp (disch := first | omega | assumption) only [up_ne, mp_ne]
        · by_cases hd : l j = l (j - 1)
          · have e1 := main (nI 1) (by rw [if_pos ⟨by omega, hd⟩])
            simp (disch := first | omega | assumption) only [↓bM, ↓bMA, ↓jn_, ↓ob_, ↓b2_, ↓reduceIte, nn_lt, nn_le, nn_eq, nI_add, pk_mul, nn_su, gn_lt, gn_le, ng_lt, ng_le, ng_eq, gn_eq, gg_eq, n_m1, n_cl, if_true, if_false, if_pos, if_neg, lt0, e6, h6, ↓b2e (ml j _ _ (by omega)), ↓b2e (ml (j - 1) _ _ (by omega)), e9, h9, ↓b2e (mv _), e24, a4, m_clamp, ↓oe (rem24 hr), up_ne, f_X11_begin, ↓oe (hR14 _ _ _ _ _), rr_0, rr_u, hU1, mp_fold, mp_co, e1, mp_ne]
            rw [← mp_co (a := 143) (by omega)]
            refine fin _ _ (vO _ _) ?_ ?_ rfl
            · repeat (first | exact a3 | refine Fr.mp_ ?_ rfl rfl | refine Fr.up ?_ rfl)
            · simp (disch := first | omega | assumption) only [up_ne, mp_ne]
          · have e1 := main (nI 0) (by rw [if_neg (fun h => hd h.2)])
            have hl1 := hl (j - 1) (by omega)
            simp (disch := first | omega | assumption) only [↓bM, ↓bMA, ↓jn_, ↓ob_, ↓b2_, ↓reduceIte, nn_lt, nn_le, nn_eq, nI_add, pk_mul, nn_su, gn_lt, gn_le, ng_lt, ng_le, ng_eq, gn_eq, gg_eq, n_m1, n_cl, if_true, if_false, if_pos, if_neg, lt0, e6, h6, ↓b2e (ml j _ _ (by omega)), ↓b2e (ml (j - 1) _ _ (by omega)), e9, h9, ↓b2e (mv _), e24, a4, m_clamp, ↓oe (rem24 hr), up_ne, f_X11_begin, ↓oe (hR14 _ _ _ _ _), rr_0, rr_u, hU1, mp_fold, mp_co, e1, mp_ne]
            rw [← mp_co (a := 143) (by omega)]
            refine fin _ _ (vO _ _) ?_ ?_ rfl
            · repeat (first | exact a3 | refine Fr.mp_ ?_ rfl rfl | refine Fr.up ?_ rfl)
            · simp (disch := first | omega | assumption) only [up_ne, mp_ne]
    · have mv : ∀ h : jH, f_X11_vowelOf 5000 (nI (l j)) h = some (-nI 1, h) := by
        intro h
        rw [m_vowelOf _ hlj, if_neg hv]
      simp (disch := first | omega | assumption) only [↓bM, ↓bMA, ↓jn_, ↓ob_, ↓b2_, ↓reduceIte, nn_lt, nn_le, nn_eq, nI_add, pk_mul, nn_su, gn_lt, gn_le, ng_lt, ng_le, ng_eq, gn_eq, gg_eq, n_m1, n_cl, if_true, if_false, if_pos, if_neg, lt0, e6, h6, ↓b2e (ml j _ _ (by omega)), e9, h9, ↓b2e (mv _)]
      refine K (nI (tl_ (cmp g) l len s hr j).2, nI (tl_ (cmp g) l len s hr j).1, z, J) ⟨?_, ?_, a3, fun v hv5 => ?_⟩
      · simp only []
        rw [tl_s, tlF, if_neg hv]
      · simp only []
        rw [tl_s, tlF, if_neg hv]
      · simp only []
        rw [tlV_s, if_neg (by omega)]
        exact a4 v hv5
theorem m_toll {q : pQ} {ρ : pP} {L : pL} {I : pI} {U w s : Nat} {g : gT} {x : gL} {hr : Int32} (hU : Ru ρ U g I) (hg : WR g) (hL : ML x I) (hx : WL x) (hw : w < lxW x) :
    ∃ J z, f_X11_tollOf 5000 129 (nI w) (nI s) hr (hp q ρ L I) = some (nI (tol (cmp g) x w s hr), hp q (rr ρ z) L J) ∧ (∀ v, v < 5 → J 143 v = nI (tolV (cmp g) x w s hr v)) ∧ Fr tTo I J := by
  obtain ⟨⟨h6, h7, h8⟩, h9⟩ := hL.2 w hw
  obtain ⟨⟨n1, n6⟩, hl, hma, hmb⟩ := hx.2 w hw
  have hW := hx.1
  obtain ⟨J, e1, e2, e3⟩ := m_tollZ (q := q) (ρ := ρ) (L := L) (x1 := nI w) (x2 := nI s) (x3 := hr) (x4 := nI 0) (x5 := nI 0) (k29 := fun (h3 : jH) => f_X11_tollOf_L32 5000 129 (nI w) (nI s) hr 5000 (nI 0) (nI 0) (nI 0) h3) 5 5000 0 I (by omega) (by omega) (fun v hv => absurd hv (Nat.not_lt_zero v))
  obtain ⟨J2, z, f1, f2, f3⟩ := m_tollL (q := q) (L := L) (s := s) (hr := hr) hU hg (by omega) n6 h6 h9 hl J ρ.2.2.1 (fun b k hb => by
    rw [e3 b (fun h => by rw [h] at hb; cases hb)]) e2
  refine ⟨J2, z, ?_, f2, f3⟩
  rw [rr_id] at f1
  show _ = some (nI (tl_ (cmp g) (lxL x w) (lxN x w) s hr (lxN x w)).1, _)
  rw [← f1, ← e1]
  simp only [f_X11_tollOf, kM, lt0]
