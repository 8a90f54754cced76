/-! WORDS: the reference reads one -/
theorem m_hl {ρ : pP} {I : pI} {f : Nat → Nat} {n p a b : Nat} (hR : RdM ρ I f n) (ha : a < 900) (hb : b < 900) (H : jH) : f_X11_in 5000 (if p < n then nI (sg f n p) else -nI 1) (nI a) (nI b) H = some (if a ≤ sg f n p ∧ sg f n p ≤ b then nI 1 else nI 0, H) := by
  obtain ⟨U, T, top, h1, hU, h15, h16, hn, hT, htop, hk⟩ := hR
  by_cases h : p < n
  · have := (hk p h).2
    have es : sg f n p = f p := if_pos h
    rw [if_pos h, m_in _ _ _ _ (by omega) (by omega) (by omega)]
  · have es : sg f n p = 999 := if_neg h
    rw [if_neg h, m_inN _ _ _ (by omega), if_neg (by omega)]
theorem t8_s {c : Nat} (h : c < 128) : (nI c).toInt8.toInt32 = nI c := by8_s c h
def wN (k : Nat) (I J : pI) : Prop := (∀ b, b ≠ 137 → b ≠ 138 → J b = I b) ∧ (∀ c, c ≠ k → J 138 c = I 138 c) ∧ (∀ c, c < 6 * k → J 137 c = I 137 c)
theorem wN.rf {k : Nat} {I : pI} : wN k I I := ⟨fun _ _ _ => rfl, fun _ _ => rfl, fun _ _ => rfl⟩
theorem wN.u7 {k c : Nat} {I J : pI} {x : Int32} (h : wN k I J) (hc : 6 * k ≤ c) : wN k I (j_up J 137 c x) := ⟨fun b b1 b2 => by rw [up_ne b1]; exact h.1 b b1 b2, fun c' hc' => by rw [up_ne (by omega)]; exact h.2.1 c' hc', fun c' hc' => by rw [up_nk (by omega)]; exact h.2.2 c' hc'⟩
theorem wN.u8 {k : Nat} {I J : pI} {x : Int32} (h : wN k I J) : wN k I (j_up J 138 k x) := ⟨fun b b1 b2 => by rw [up_ne b2]; exact h.1 b b1 b2, fun c' hc' => by rw [up_nk hc']; exact h.2.1 c' hc', fun c' hc' => by rw [up_ne (by omega)]; exact h.2.2 c' hc'⟩
theorem wN.tr {k : Nat} {I J K : pI} (h : wN k I J) (g : wN k J K) : wN k I K := ⟨fun b b1 b2 => (g.1 b b1 b2).trans (h.1 b b1 b2), fun c hc => (g.2.1 c hc).trans (h.2.1 c hc), fun c hc => (g.2.2 c hc).trans (h.2.2 c hc)⟩
theorem RdM_wN {ρ : pP} {I J : pI} {f : Nat → Nat} {n k : Nat} (h : RdM ρ I f n) (g : wN k I J) : RdM ρ J f n := RdM_k h (by rw [g.1 129 (by omega) (by omega)]) (by rw [g.1 129 (by omega) (by omega)]) (fun b hb => g.1 b (by omega) (by omega))
theorem m_ltD {q : pQ} {ρ : pP} {L : pL} {I : pI} {k p x N : Nat} (hx : x ≤ 1000) : f_X11_readWord_L66 5000 129 (nI k) (N + 1) (hp q ρ L (mp I p (nI x))) = some (hp q ρ L (mp I p (nI x))) := by
  rw [f_X11_readWord_L66, m_dead hx, b2]
  simp (disch := first | omega | assumption) only [lt0, if_true]
theorem m_lt {q : pQ} {ρ : pP} {L : pL} {f : Nat → Nat} {n k s : Nat} (hk : k < 10) (hs : s ≤ 80) : ∀ r c N J, c + r = 6 → 1 ≤ c → r + 2 < N → RdM ρ J f n → J 138 k = nI c → ∃ J' p' w, f_X11_readWord_L66 5000 129 (nI k) N (hp q ρ L (mp J (s + c) (-nI 1))) = some (hp q ρ L (mp J' p' w)) ∧ wN k J J' ∧ p' ≤ 200 ∧ ((ltr f n r (s + c) = s + 6 ∧ 97 ≤ sg f n (s + 6) ∧ sg f n (s + 6) < 123) → w = nI (s + 6)) ∧ (¬ (ltr f n r (s + c) = s + 6 ∧ 97 ≤ sg f n (s + 6) ∧ sg f n (s + 6) < 123) → p' = ltr f n r (s + c) ∧ w = -nI 1 ∧ J' 138 k = nI (ltr f n r (s + c) - s) ∧ (∀ i, c ≤ i → s + i < ltr f n r (s + c) → J' 137 (6 * k + i) = nI (sg f n (s + i) - 97)) ∧ ∀ i, i < c → J' 137 (6 * k + i) = J 137 (6 * k + i))
  | _, _, 0, _, _, _, h, _, _ => absurd h (Nat.not_lt_zero _)
  | _, _, 1, _, _, _, h, _, _ => absurd h (by omega)
  | r, c, N + 2, J, h1, h2, h3, h4, h5 => by
    have he := m_here (q := q) (L := L) (p := s + c) (w := -nI 1) h4 (by omega)
    have hl := m_hl (p := s + c) (a := 97) (b := 122) h4 (by omega) (by omega) (hp q ρ L (mp J (s + c) (-nI 1)))
    have fi := m_fine (q := q) (ρ := ρ) (L := L) (I := J) (p := s + c)
    have n122 : (122 : Int32) = nI 122 := rfl
    by_cases g : 97 ≤ sg f n (s + c) ∧ sg f n (s + c) < 123
    · have i1 := sg_in (f := f) (n := n) (p := s + c) (by omega)
      rw [if_pos i1] at he hl
      rw [if_pos (by omega)] at hl
      cases r with
      | zero =>
        have : c = 6 := by omega
        subst this
        have ft := m_fault (q := q) (ρ := ρ) (L := L) (I := J) (p := s + 6) (x := s + 6)
        have dd := m_ltD (q := q) (ρ := ρ) (L := L) (I := J) (k := k) (p := s + 6) (x := s + 6) (N := N) (by omega)
        refine ⟨J, s + 6, nI (s + 6), ?_, wN.rf, by omega, fun _ => rfl, fun h => absurd ⟨rfl, g⟩ h⟩
        rw [f_X11_readWord_L66]
        simp (disch := first | omega | assumption) only [↓bM, ↓bMA, ↓jn_, ↓ob_, ↓b2_, ↓reduceIte, nn_lt, nn_le, nn_eq, nI_add, pk_mul, nn_su, gn_lt, gn_le, ng_lt, ng_le, ng_eq, gn_eq, gg_eq, n_m1, n_cl, if_true, if_false, if_pos, if_neg, lt0, ↓b2e fi, mp_ne, h5, n122, ↓b2e he, ↓b2e hl, mp_at, ↓oe ft]
        exact dd
      | succ r =>
        have oo := m_oneOf (q := q) (L := L) (a := 97) (m := 26) (p := s + c) h4 (by omega) (by omega) (by omega)
        rw [if_pos (by omega)] at oo
        have cb : sg f n (s + c) - 97 < 128 := by omega
        have w1 : wN k J (j_up (j_up J 137 (6 * k + c) (nI (sg f n (s + c) - 97))) 138 k (nI (c + 1))) := (wN.rf.u7 (by omega)).u8
        obtain ⟨J', p', w, e1, e2, e3, e4, e5⟩ := m_lt (q := q) (ρ := ρ) (L := L) hk hs r (c + 1) (N + 1) (j_up (j_up J 137 (6 * k + c) (nI (sg f n (s + c) - 97))) 138 k (nI (c + 1))) (by omega) (by omega) (by omega) (RdM_wN h4 w1) up_eq
        have el : ltr f n (r + 1) (s + c) = ltr f n r (s + (c + 1)) := by rw [ltr, if_pos g]; rfl
        rw [el]
        refine ⟨J', p', w, ?_, wN.tr w1 e2, e3, e4, fun h => ?_⟩
        · rw [f_X11_readWord_L66]
          simp (disch := first | omega | assumption) only [↓bM, ↓bMA, ↓jn_, ↓ob_, ↓b2_, ↓reduceIte, nn_lt, nn_le, nn_eq, nI_add, pk_mul, nn_su, gn_lt, gn_le, ng_lt, ng_le, ng_eq, gn_eq, gg_eq, n_m1, n_cl, if_true, if_false, if_pos, if_neg, lt0, ↓b2e fi, mp_ne, h5, n122, ↓b2e he, ↓b2e hl, ↓b2e oo, t8_s, mp_co, up_ne]
          exact e1
        · obtain ⟨a1, a2, a3, a4, a5⟩ := e5 h
          refine ⟨a1, a2, a3, fun i i1 i2 => ?_, fun i hi => ?_⟩
          · by_cases e : i = c
            · subst e
              rw [a5 i (by omega), up_ne (by omega), up_eq]
            · exact a4 i (by omega) i2
          · rw [a5 i (by omega), up_ne (by omega), up_nk (by omega)]
    · have hl' : ∀ v, (if s + c < n then nI (sg f n (s + c)) else -nI 1) = v → f_X11_in 5000 v (nI 97) (nI 122) (hp q ρ L (mp J (s + c) (-nI 1))) = some (nI 0, hp q ρ L (mp J (s + c) (-nI 1))) := fun v hv => by
        rw [← hv, hl, show (if 97 ≤ sg f n (s + c) ∧ sg f n (s + c) ≤ 122 then nI 1 else nI 0) = nI 0 from if_neg (by omega)]
      obtain ⟨v, hv⟩ : ∃ v, (if s + c < n then nI (sg f n (s + c)) else -nI 1) = v := ⟨_, rfl⟩
      have hl := hl' v hv
      rw [hv] at he
      have el : ltr f n r (s + c) = s + c := by
        cases r with
        | zero => rfl
        | succ r => rw [ltr, if_neg g]
      rw [el]
      refine ⟨J, s + c, -nI 1, ?_, wN.rf, by omega, fun h => ?_, fun _ => ⟨rfl, rfl, by rw [h5, Nat.add_sub_cancel_left], fun i i1 i2 => by omega, fun i _ => rfl⟩⟩
      · rw [f_X11_readWord_L66]
        simp (disch := first | omega | assumption) only [↓bM, ↓bMA, ↓jn_, ↓ob_, ↓b2_, ↓reduceIte, nn_lt, nn_le, nn_eq, nI_add, pk_mul, nn_su, gn_lt, gn_le, ng_lt, ng_le, ng_eq, gn_eq, gg_eq, n_m1, n_cl, if_true, if_false, if_pos, if_neg, lt0, ↓b2e fi, mp_ne, h5, n122, ↓b2e he, ↓b2e hl]
      · exfalso
        have : c = 6 := by omega
        subst this
        omega
