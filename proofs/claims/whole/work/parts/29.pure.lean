/-! THE TOLL by the class -/
theorem up_one {α : Type} {f : Nat → Nat → α} {a k j : Nat} {x : α} (h : j = k) : j_up f a k x a j = x := by
  rw [h]
  exact up_eq
theorem fill_L {q : pQ} {ρ : pP} {L : pL} {A : Nat} (hA : A = 119 ∨ A = 124) : ∀ m n j (I : pI), j + m = 5 → m < n → (∀ v, v < j → I (A + 1) v = nI 0) → ∃ J, f_J7_fill_53178_L5 5000 (A + 1) (nI 0) (nI 5) n (nI j) (hp q ρ L I) = some (hp q ρ L J) ∧ (∀ v, v < 5 → J (A + 1) v = nI 0) ∧ ∀ b, b ≠ A + 1 → J b = I b
  | _, 0, _, _, _, h, _ => absurd h (Nat.not_lt_zero _)
  | 0, n + 1, j, I, h1, h2, h3 => by
    have : j = 5 := by omega
    subst this
    refine ⟨I, ?_, h3, fun _ _ => rfl⟩
    simp (disch := first | omega | assumption) only [f_J7_fill_53178_L5, ob_, b2_, jn_, nn_lt, nn_le, nn_eq, nI_add, pk_mul, nn_su, gn_lt, gn_le, ng_lt, ng_le, ng_eq, gn_eq, gg_eq, n_m1, n_cl, if_true, if_false, if_pos, if_neg, ite_self, lt0]
  | m + 1, n + 1, j, I, h1, h2, h3 => by
    obtain ⟨J, e1, e2, e3⟩ := fill_L (q := q) (ρ := ρ) (L := L) hA m n (j + 1) (j_up I (A + 1) j (nI 0)) (by omega) (by omega) (fun v hv => by
      by_cases h : v = j
      · exact up_one h
      · rw [up_nk h]
        exact h3 v (by omega))
    refine ⟨J, ?_, e2, fun b hb => (e3 b hb).trans (up_ne hb)⟩
    rw [← e1]
    simp (disch := first | omega | assumption) only [f_J7_fill_53178_L5, kT hA, ob_, b2_, jn_, nn_lt, nn_le, nn_eq, nI_add, pk_mul, nn_su, gn_lt, gn_le, ng_lt, ng_le, ng_eq, gn_eq, gg_eq, n_m1, n_cl, if_true, if_false, if_pos, if_neg, ite_self, lt0]
theorem rem24 (x : Int32) : j_rem x (nI 24) = some (x - x / nI 24 * nI 24) := by
  unfold j_rem
  rw [if_neg (show ¬ nI 24 = 0 by decide)]
theorem tl_s {c : List Int32} {l : Nat → Nat} {len s : Nat} {hr : Int32} {i : Nat} : tl_ c l len s hr (i + 1) = tlF c l len s hr i (tl_ c l len s hr i) := by
  unfold tl_
  rw [fo_last, Nat.zero_add]
theorem tlV_s {c : List Int32} {l : Nat → Nat} {len s : Nat} {hr : Int32} {i v : Nat} : tlV c l len s hr (i + 1) v = if vo (l i) = v then tlV c l len s hr i v + prc c l len s hr i (tl_ c l len s hr i).2 else tlV c l len s hr i v := by
  unfold tlV
  rw [fo_last, Nat.zero_add]
theorem cl99_le (x : Int32) : cl99 x ≤ 99 := Nat.min_le_left _ _
theorem tl_le (c : List Int32) (l : Nat → Nat) (len s : Nat) (hr : Int32) : ∀ i, (tl_ c l len s hr i).1 ≤ 99 * i ∧ (tl_ c l len s hr i).2 ≤ i
  | 0 => ⟨Nat.le_refl 0, Nat.le_refl 0⟩
  | i + 1 => by
    have ih := tl_le c l len s hr i
    rw [tl_s, tlF]
    split
    · have := cl99_le ((rn (fcts l len s hr i (tl_ c l len s hr i).2) c []).getD 0 0)
      simp only [prc]
      omega
    · omega
theorem tlV_le (c : List Int32) (l : Nat → Nat) (len s : Nat) (hr : Int32) (v : Nat) : ∀ i, tlV c l len s hr i v ≤ 99 * i
  | 0 => Nat.le_refl 0
  | i + 1 => by
    have ih := tlV_le c l len s hr v i
    rw [tlV_s]
    split
    · have := cl99_le ((rn (fcts l len s hr i (tl_ c l len s hr i).2) c []).getD 0 0)
      simp only [prc]
      omega
    · omega
/-- the rows of a tariff that a charge uses up -/
def tT (A b : Nat) : Prop := b ≠ A + 1 ∧ b ≠ A + 3 ∧ b ≠ A + 4
theorem x_chargeL {q : pQ} {ρ : pP} {L : pL} {I : pI} {A w len s : Nat} {c : List Int32} {l : Nat → Nat} {hr : Int32} (hA : A = 119 ∨ A = 124) (hT : Tf A c I) (hc : Cok c) (hw : w < 10) (hlen : len ≤ 6) (h6 : I 6 w = nI len) (h9 : ∀ k, k < len → I 9 (w * 6 + k) = nI (97 + l k)) (hl : ∀ k, k < len → l k < 26) (I0 : pI)
    (h0 : ∀ b, tT A b → I0 b = I b) (g1 : I0 (A + 4) 1 = nI s) (g2 : I0 (A + 4) 2 = hr - hr / nI 24 * nI 24) (g3 : I0 (A + 4) 3 = nI len) (g5 : I0 (A + 4) 5 = nI 0) (gp : ∀ v, v < 5 → I0 (A + 1) v = nI 0) :
    ∃ J, f_X8_charge_L54 5000 A 5 (nI w) 5000 (nI 0) (-nI 1) (nI 0) (hp q ρ L I0) = some (nI (tl_ c l len s hr len).1, hp q ρ L J) ∧ (∀ v, v < 5 → J (A + 1) v = nI (tlV c l len s hr len v)) ∧ ∀ b, tT A b → J b = I b := by
  refine lq (S := Int32 × Int32 × pI) (fun o => ∃ J, o = some (nI (tl_ c l len s hr len).1, hp q ρ L J) ∧ (∀ v, v < 5 → J (A + 1) v = nI (tlV c l len s hr len v)) ∧ ∀ b, tT A b → J b = I b)
    (fun n s j => f_X8_charge_L54 5000 A 5 (nI w) n s.1 s.2.1 (nI j) (hp q ρ L s.2.2))
    (fun j z => z.1 = nI (tl_ c l len s hr j).1 ∧ z.2.1 = (if j = 0 then -nI 1 else nI (97 + l (j - 1))) ∧ (∀ b, tT A b → z.2.2 b = I b) ∧ z.2.2 (A + 4) 1 = nI s ∧ z.2.2 (A + 4) 2 = hr - hr / nI 24 * nI 24 ∧ z.2.2 (A + 4) 3 = nI len ∧ z.2.2 (A + 4) 5 = nI (tl_ c l len s hr j).2 ∧ ∀ v, v < 5 → z.2.2 (A + 1) v = nI (tlV c l len s hr j v))
    len ?_ ?_ len 5000 (nI 0, -nI 1, I0) 0 (by omega) (by omega) ⟨rfl, rfl, h0, g1, g2, g3, g5, gp⟩
  · rintro n ⟨z1, z2, J⟩ ⟨a1, a2, a3, a4, a5, a6, a7, a8⟩
    simp only [] at a1 a2 a3 a4 a5 a6 a7 a8 ⊢
    have e6 : J 6 = I 6 := a3 6 ⟨by omega, by omega, by omega⟩
    refine ⟨J, ?_, a8, a3⟩
    rw [a1]
    simp (disch := first | omega | assumption) only [f_X8_charge_L54, kX, kXA, ob_, b2_, jn_, nn_lt, nn_le, nn_eq, nI_add, pk_mul, nn_su, gn_lt, gn_le, ng_lt, ng_le, ng_eq, gn_eq, gg_eq, n_m1, n_cl, if_true, if_false, if_pos, if_neg, ite_self, lt0, e6, h6, Nat.le_refl]
  · rintro n ⟨z1, z2, J⟩ j hj ⟨a1, a2, a3, a4, a5, a6, a7, a8⟩ K
    simp only [] at a1 a2 a3 a4 a5 a6 a7 a8 ⊢
    have e6 : J 6 = I 6 := a3 6 ⟨by omega, by omega, by omega⟩
    have e9 : J 9 = I 9 := a3 9 ⟨by omega, by omega, by omega⟩
    have hlj := hl j hj
    have hb := tl_le c l len s hr j
    have hb2 := tlV_le c l len s hr (vo (l j)) j
    rw [f_X8_charge_L54]
    simp (disch := first | omega | assumption) only [f_X3_letter, kX, kXA, ob_, b2_, jn_, nn_lt, nn_le, nn_eq, nI_add, pk_mul, nn_su, gn_lt, gn_le, ng_lt, ng_le, ng_eq, gn_eq, gg_eq, n_m1, n_cl, if_true, if_false, if_pos, if_neg, ite_self, lt0, e6, e9, h6, h9, x_vowelOf]
    by_cases hv : vo (l j) < 5
    · have hlast : (nI (97 + l j) = z2) = (0 < j ∧ l j = l (j - 1)) := by
        rw [a2]
        by_cases hj0 : j = 0
        · subst hj0
          rw [if_pos rfl, ng_eq (by omega) (by omega) (by omega)]
          simp
        · have := hl (j - 1) (by omega)
          rw [if_neg hj0, nn_eq (by omega) (by omega)]
          exact propext ⟨fun h => ⟨by omega, by omega⟩, fun h => by omega⟩
      have key : ∀ d : Int32, d = (if 0 < j ∧ l j = l (j - 1) then nI 1 else nI 0) → ∃ J', f_X8_value 5000 A (hp q ρ L (j_up (j_up (j_up J (A + 4) 0 (nI (vo (l j)))) (A + 4) 4 (nI j)) (A + 4) 6 d)) = some (vO (fcts l len s hr j (tl_ c l len s hr j).2) c, hp q ρ L J') ∧ ∀ b, b ≠ A + 3 → J' b = j_up (j_up (j_up J (A + 4) 0 (nI (vo (l j)))) (A + 4) 4 (nI j)) (A + 4) 6 d b := by
        intro d hd
        refine x_value hA (Tf_k hT ?_ ?_) hc ?_
        · rw [up_ne (by omega), up_ne (by omega), up_ne (by omega), a3 A ⟨by omega, by omega, by omega⟩]
        · rw [up_ne (by omega), up_ne (by omega), up_ne (by omega), a3 (A + 2) ⟨by omega, by omega, by omega⟩]
        · intro k hk
          have : k = 0 ∨ k = 1 ∨ k = 2 ∨ k = 3 ∨ k = 4 ∨ k = 5 ∨ k = 6 := by omega
          rcases this with rfl | rfl | rfl | rfl | rfl | rfl | rfl
          · rw [up_nk (by omega), up_nk (by omega), up_eq]; rfl
          · rw [up_nk (by omega), up_nk (by omega), up_nk (by omega), a4]; rfl
          · rw [up_nk (by omega), up_nk (by omega), up_nk (by omega), a5]; rfl
          · rw [up_nk (by omega), up_nk (by omega), up_nk (by omega), a6]; rfl
          · rw [up_nk (by omega), up_eq]; rfl
          · rw [up_nk (by omega), up_nk (by omega), up_nk (by omega), a7]; rfl
          · rw [up_eq, hd]; rfl
      have key2 : ∀ d : Int32, d = (if 0 < j ∧ l j = l (j - 1) then nI 1 else nI 0) → ∃ JJ, j_b2 (f_X8_value 5000 A (hp q ρ L (j_up (j_up (j_up J (A + 4) 0 (nI (vo (l j)))) (A + 4) 4 (nI j)) (A + 4) 6 d))) (fun v33 h32 =>
            j_b2 (f_X10_between 5000 v33 (nI 99) h32) (fun v35 h34 =>
            (jg_R 8 0 h34 A).bind (fun v36 =>
            (ja_I 100 h34 v36 (nI (vo (l j)))).bind (fun v37 =>
            (jb_I 100 h34 v36 (nI (vo (l j))) (v37 + v35)).bind (fun h38 =>
            (jg_R 8 3 h38 A).bind (fun v39 =>
            (ja_I 100 h38 v39 (nI 5)).bind (fun v40 =>
            (jb_I 100 h38 v39 (nI 5) (v40 + nI 1)).bind (fun h41 =>
            f_X8_charge_L54 5000 A 5 (nI w) n (z1 + v35) (nI (97 + l j)) (nI (j + 1)) h41)))))))) = some (nI (tl_ c l len s hr len).1, hp q ρ L JJ) ∧ (∀ v, v < 5 → JJ (A + 1) v = nI (tlV c l len s hr len v)) ∧ ∀ b, tT A b → JJ b = I b := by
        intro d hd
        obtain ⟨J', e1, e2⟩ := key d hd
        have r1 : J' (A + 1) = J (A + 1) := by rw [e2 _ (by omega), up_ne (by omega), up_ne (by omega), up_ne (by omega)]
        have r5 : J' (A + 4) 5 = nI (tl_ c l len s hr j).2 := by rw [e2 _ (by omega), up_nk (by omega), up_nk (by omega), up_nk (by omega), a7]
        have hpr : prc c l len s hr j (tl_ c l len s hr j).2 = cl99 (vO (fcts l len s hr j (tl_ c l len s hr j).2) c) := rfl
        have := K (z1 + nI (cl99 (vO (fcts l len s hr j (tl_ c l len s hr j).2) c)), nI (97 + l j), j_up (j_up J' (A + 1) (vo (l j)) (nI (tlV c l len s hr j (vo (l j))) + nI (cl99 (vO (fcts l len s hr j (tl_ c l len s hr j).2) c)))) (A + 4) 5 (nI ((tl_ c l len s hr j).2 + 1))) ⟨?_, ?_, ?_, ?_, ?_, ?_, ?_, ?_⟩
        · simp only [] at this
          obtain ⟨J2, f1, f2, f3⟩ := this
          refine ⟨J2, ?_, f2, f3⟩
          rw [← f1, e1]
          simp (disch := first | omega | assumption) only [x_between, kT hA, ob_, b2_, jn_, nn_lt, nn_le, nn_eq, nI_add, pk_mul, nn_su, gn_lt, gn_le, ng_lt, ng_le, ng_eq, gn_eq, gg_eq, n_m1, n_cl, if_true, if_false, if_pos, if_neg, ite_self, lt0, r1, a8, up_ne, r5]
        · simp only []
          rw [tl_s, tlF, if_pos hv, a1, nI_add, hpr]
        · simp only []
          rw [if_neg (by omega), Nat.add_sub_cancel]
        · intro b hb
          simp only []
          rw [up_ne hb.2.2, up_ne hb.1, e2 b hb.2.1, up_ne hb.2.2, up_ne hb.2.2, up_ne hb.2.2, a3 b hb]
        · simp only []
          rw [up_nk (by omega), up_ne (by omega), e2 _ (by omega), up_nk (by omega), up_nk (by omega), up_nk (by omega), a4]
        · simp only []
          rw [up_nk (by omega), up_ne (by omega), e2 _ (by omega), up_nk (by omega), up_nk (by omega), up_nk (by omega), a5]
        · simp only []
          rw [up_nk (by omega), up_ne (by omega), e2 _ (by omega), up_nk (by omega), up_nk (by omega), up_nk (by omega), a6]
        · simp only []
          rw [up_eq, tl_s, tlF, if_pos hv]
        · intro v hv5
          simp only []
          rw [up_ne (by omega), tlV_s]
          by_cases hvv : v = vo (l j)
          · rw [up_one hvv, if_pos hvv.symm, nI_add, hpr, hvv]
          · rw [up_nk hvv, if_neg (fun h => hvv h.symm), r1]
            exact a8 v hv5
      by_cases hd : 0 < j ∧ l j = l (j - 1)
      · simp (disch := first | omega | assumption) only [if_pos hv, ob_, b2_, jn_, nn_lt, nn_le, nn_eq, nI_add, pk_mul, nn_su, gn_lt, gn_le, ng_lt, ng_le, ng_eq, gn_eq, gg_eq, n_m1, n_cl, if_true, if_false, if_pos, if_neg, ite_self, lt0, kT hA, hlast, if_pos hd]
        exact key2 (nI 1) (by rw [if_pos hd])
      · simp (disch := first | omega | assumption) only [if_pos hv, ob_, b2_, jn_, nn_lt, nn_le, nn_eq, nI_add, pk_mul, nn_su, gn_lt, gn_le, ng_lt, ng_le, ng_eq, gn_eq, gg_eq, n_m1, n_cl, if_true, if_false, if_pos, if_neg, ite_self, lt0, kT hA, hlast, if_neg hd]
        exact key2 (nI 0) (by rw [if_neg hd])
    · simp (disch := first | omega | assumption) only [if_neg hv, ob_, b2_, jn_, nn_lt, nn_le, nn_eq, nI_add, pk_mul, nn_su, gn_lt, gn_le, ng_lt, ng_le, ng_eq, gn_eq, gg_eq, n_m1, n_cl, if_true, if_false, if_pos, if_neg, ite_self, lt0]
      refine K (z1, nI (97 + l j), J) ⟨?_, ?_, a3, a4, a5, a6, ?_, fun v hv5 => ?_⟩
      · simp only []
        rw [tl_s, tlF, if_neg hv, a1]
      · simp only []
        rw [if_neg (by omega), Nat.add_sub_cancel]
      · simp only []
        rw [tl_s, tlF, if_neg hv, a7]
      · simp only []
        rw [tlV_s, if_neg (by omega)]
        exact a8 v hv5
theorem x_charge {q : pQ} {ρ : pP} {L : pL} {I : pI} {A w s : Nat} {c : List Int32} {g : gL} {hr : Int32} (hA : A = 119 ∨ A = 124) (hT : Tf A c I) (hc : Cok c) (hL : XL g I) (hg : WL g) (hw : w < lxW g) :
    ∃ J, f_X8_charge 5000 A 5 (nI w) (nI s) hr (hp q ρ L I) = some (nI (tol c g w s hr), hp q ρ L J) ∧ (∀ v, v < 5 → J (A + 1) v = nI (tolV c g w s hr v)) ∧ ∀ b, tT A b → J b = I b := by
  obtain ⟨⟨h6, h7, h8, h11⟩, h9, h10⟩ := hL.2 w hw
  obtain ⟨⟨n1, n6⟩, hl, hma, hmb⟩ := hg.2 w hw
  have hW := hg.1
  obtain ⟨J, e1, e2, e3⟩ := fill_L (q := q) (ρ := ρ) (L := L) hA 5 5000 0 I (by omega) (by omega) (fun v hv => absurd hv (Nat.not_lt_zero v))
  have e6 : J 6 = I 6 := e3 6 (by omega)
  have := x_chargeL (q := q) (ρ := ρ) (L := L) (hr := hr) (s := s) hA hT hc (by omega) n6 h6 h9 hl (j_up (j_up (j_up (j_up J (A + 4) 1 (nI s)) (A + 4) 2 (hr - hr / nI 24 * nI 24)) (A + 4) 3 (nI (lxN g w))) (A + 4) 5 (nI 0)) (fun b hb => by
    rw [up_ne hb.2.2, up_ne hb.2.2, up_ne hb.2.2, up_ne hb.2.2, e3 b hb.1]) (by rw [up_nk (by omega), up_nk (by omega), up_nk (by omega), up_eq]) (by rw [up_nk (by omega), up_nk (by omega), up_eq]) (by rw [up_nk (by omega), up_eq]) (by rw [up_eq]) (fun v hv => by
    rw [up_ne (by omega), up_ne (by omega), up_ne (by omega), up_ne (by omega), e2 v hv])
  obtain ⟨J2, f1, f2, f3⟩ := this
  refine ⟨J2, ?_, f2, f3⟩
  show _ = some (nI (tl_ c (lxL g w) (lxN g w) s hr (lxN g w)).1, _)
  rw [← f1]
  simp (disch := first | omega | assumption) only [f_X8_charge, f_J7_fill_53178, kT hA, kX, kXA, ob_, b2_, jn_, nn_lt, nn_le, nn_eq, nI_add, pk_mul, nn_su, gn_lt, gn_le, ng_lt, ng_le, ng_eq, gn_eq, gg_eq, n_m1, n_cl, if_true, if_false, if_pos, if_neg, ite_self, lt0, e1, rem24, up_ne, e6, h6]
