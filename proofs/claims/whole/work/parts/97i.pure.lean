/-! THE CONSTRUCTORS: both objects -/
def g10 : gLg := (tL 0 19 0 (tL 0 18 0 (tL 0 17 1 (sL 0 16 124 (s8 124 (aL 124 (sL 0 15 119 (s8 119 (aL 119 (sL 0 14 118 (aL 118 (sL 0 13 117 (aL 117 (sL 0 12 116 (aL 116 (sL 0 11 115 (aL 115 (sL 0 10 114 (aL 114 (sL 0 9 108 (sL 108 6 113 (aL 113 (sL 108 5 112 (aL 112 (sL 108 4 111 (aL 111 (sL 108 1 110 (aL 110 (sL 108 0 109 (aL 109 (aL 108 (sL 0 8 103 (sL 103 3 107 (aL 107 (sL 103 2 106 (aL 106 (sL 103 1 105 (aL 105 (sL 103 0 104 (aL 104 (aL 103 (sL 0 7 102 (aL 102 (sL 0 6 91 (sL 91 1 97 (s7 97 (aL 97 (sL 91 0 92 (s7 92 (aL 92 (aL 91 (sL 0 5 24 (l15 13 0 (sL 24 0 25 (aL 25 (aL 24 (sL 0 4 19 (s7 19 (aL 19 (sL 0 3 13 (sL 13 5 18 (aL 18 (sL 13 4 17 (aL 17 (sL 13 3 16 (aL 16 (sL 13 2 15 (aL 15 (sL 13 1 14 (aL 14 (aL 13 (sL 0 2 5 (sL 5 7 12 (aL 12 (sL 5 6 11 (aL 11 (sL 5 5 10 (aL 10 (sL 5 4 9 (aL 9 (sL 5 3 8 (aL 8 (sL 5 2 7 (aL 7 (sL 5 1 6 (aL 6 (aL 5 (sL 0 1 3 (sL 3 0 4 (aL 4 (aL 3 (sL 0 0 1 (sL 1 0 2 (aL 2 (aL 1 (aL 0 []))))))))))))))))))))))))))))))))))))))))))))))))))))))))))))))))))))))))))))))))))))))))))))))))
theorem in10 : f_X10_init 5000 0 (hs 1 20 (aL 0 [])) = some (hs 129 4512 g10) := by
  unfold f_X10_init
  simp only [lt0]
  rw [hs_O (c := 9) rfl, b2, in9, ob, hs_R (by omega) rfl, ob, hs_O (c := 6) rfl, b2, in6, ob, hs_R (by omega) rfl, ob, hs_O (c := 3) rfl, b2, in3, ob, hs_R (by omega) rfl, ob, hs_O (c := 2) rfl, b2, in2, ob, hs_R (by omega) rfl, ob, hs_O (c := 7) rfl, b2, in7 (a := 19) (Sb_f (.inl rfl)), ob, hs_R (by omega) rfl, ob, hs_O (c := 4) rfl, b2, in4, ob, hs_R (by omega) rfl, ob, hs_A (t := 104) (len := 2) rfl (by omega), b2, hs_O (c := 7) rfl, b2, in7 (a := 92) (Sb_f (.inr (.inl rfl))), ob, hs_bR (len := 2) (by omega) rfl (by omega) (by omega) (by omega) rfl, ob, hs_O (c := 7) rfl, b2, in7 (a := 97) (Sb_f (.inr (.inr (.inl rfl)))), ob, hs_bR (len := 2) (by omega) rfl (by omega) (by omega) (by omega) rfl, ob, hs_R (by omega) rfl, ob, hs_A (t := 102) (len := 2) rfl (by omega), b2, hs_R (by omega) rfl, ob, hs_O (c := 0) rfl, b2, in0, ob, hs_R (by omega) rfl, ob, hs_O (c := 5) rfl, b2, in5, ob, hs_R (by omega) rfl, ob, hs_A (t := 100) (len := 21) rfl (by omega), b2, hs_R (by omega) rfl, ob, hs_A (t := 100) (len := 10) rfl (by omega), b2, hs_R (by omega) rfl, ob, hs_A (t := 100) (len := 10) rfl (by omega), b2, hs_R (by omega) rfl, ob, hs_A (t := 100) (len := 5) rfl (by omega), b2, hs_R (by omega) rfl, ob, hs_A (t := 100) (len := 4) rfl (by omega), b2, hs_R (by omega) rfl, ob, hs_O (c := 8) rfl, b2, in8 (a := 119) (.inl rfl), ob, hs_R (by omega) rfl, ob, hs_O (c := 8) rfl, b2, in8 (a := 124) (.inr rfl), ob, hs_R (by omega) rfl, ob, hs_I (by omega) rfl, ob, hs_I (by omega) rfl, ob, hs_I (by omega) rfl, ob]
  rfl
def g11 : gLg := (sL 129 55 160 (aL 160 (sL 129 54 159 (aL 159 (sL 129 53 158 (aL 158 (sL 129 51 157 (aL 157 (sL 129 47 156 (aL 156 (sL 129 46 155 (aL 155 (sL 129 45 154 (aL 154 (sL 129 44 153 (aL 153 (sL 129 39 152 (aL 152 (sL 129 38 151 (aL 151 (sL 129 37 150 (aL 150 (sL 129 36 149 (aL 149 (sL 129 35 148 (aL 148 (sL 129 34 147 (aL 147 (sL 129 32 146 (aL 146 (sL 129 30 145 (aL 145 (sL 129 28 144 (aL 144 (sL 129 27 143 (aL 143 (sL 129 26 142 (aL 142 (sL 129 23 141 (aL 141 (sL 129 22 140 (aL 140 (sL 129 21 139 (aL 139 (sL 129 20 138 (aL 138 (sL 129 19 137 (aL 137 (sL 129 11 136 (aL 136 (sL 129 9 135 (aL 135 (sL 129 8 134 (aL 134 (sL 129 5 133 (aL 133 (sL 129 4 132 (aL 132 (sL 129 3 131 (aL 131 (tL 129 1 1 (sL 129 0 130 (aL 130 (aL 129 g10))))))))))))))))))))))))))))))))))))))))))))))))))))))))))))))))
theorem in11 : f_X11_init 5000 129 (hs 130 4568 (aL 129 g10)) = some (hs 161 9153 g11) := by
  unfold f_X11_init
  simp only [lt0]
  rw [hs_A (t := 100) (len := 44) rfl (by omega), b2, hs_R (by omega) rfl, ob, hs_I (by omega) rfl, ob, hs_A (t := 101) (len := 60) rfl (by omega), b2, hs_R (by omega) rfl, ob, hs_A (t := 100) (len := 10) rfl (by omega), b2, hs_R (by omega) rfl, ob, hs_A (t := 100) (len := 20) rfl (by omega), b2, hs_R (by omega) rfl, ob, hs_A (t := 100) (len := 32) rfl (by omega), b2, hs_R (by omega) rfl, ob, hs_A (t := 101) (len := 80) rfl (by omega), b2, hs_R (by omega) rfl, ob, hs_A (t := 103) (len := 20) rfl (by omega), b2, hs_R (by omega) rfl, ob, hs_A (t := 101) (len := 60) rfl (by omega), b2, hs_R (by omega) rfl, ob, hs_A (t := 100) (len := 10) rfl (by omega), b2, hs_R (by omega) rfl, ob, hs_A (t := 100) (len := 40) rfl (by omega), b2, hs_R (by omega) rfl, ob, hs_A (t := 101) (len := 40) rfl (by omega), b2, hs_R (by omega) rfl, ob, hs_A (t := 101) (len := 40) rfl (by omega), b2, hs_R (by omega) rfl, ob, hs_A (t := 100) (len := 7) rfl (by omega), b2, hs_R (by omega) rfl, ob, hs_A (t := 100) (len := 5) rfl (by omega), b2, hs_R (by omega) rfl, ob, hs_A (t := 100) (len := 528) rfl (by omega), b2, hs_R (by omega) rfl, ob, hs_A (t := 100) (len := 44) rfl (by omega), b2, hs_R (by omega) rfl, ob, hs_A (t := 100) (len := 240) rfl (by omega), b2, hs_R (by omega) rfl, ob, hs_A (t := 100) (len := 13) rfl (by omega), b2, hs_R (by omega) rfl, ob, hs_A (t := 100) (len := 6) rfl (by omega), b2, hs_R (by omega) rfl, ob, hs_A (t := 100) (len := 6) rfl (by omega), b2, hs_R (by omega) rfl, ob, hs_A (t := 100) (len := 49) rfl (by omega), b2, hs_R (by omega) rfl, ob, hs_A (t := 100) (len := 1536) rfl (by omega), b2, hs_R (by omega) rfl, ob, hs_A (t := 100) (len := 1536) rfl (by omega), b2, hs_R (by omega) rfl, ob, hs_A (t := 100) (len := 10) rfl (by omega), b2, hs_R (by omega) rfl, ob, hs_A (t := 100) (len := 5) rfl (by omega), b2, hs_R (by omega) rfl, ob, hs_A (t := 100) (len := 4) rfl (by omega), b2, hs_R (by omega) rfl, ob, hs_A (t := 100) (len := 4) rfl (by omega), b2, hs_R (by omega) rfl, ob, hs_A (t := 100) (len := 44) rfl (by omega), b2, hs_R (by omega) rfl, ob, hs_A (t := 100) (len := 88) rfl (by omega), b2, hs_R (by omega) rfl, ob, hs_A (t := 102) (len := 2) rfl (by omega), b2, hs_R (by omega) rfl, ob, hs_A (t := 100) (len := 2) rfl (by omega), b2, hs_R (by omega) rfl, ob]
  rfl
def gF : gLg := aL 161 g11
def mF : Nat := 9154
theorem law_in (L : Nat) (xs : Nat → Int32) : f_L_law 5000 L xs jh0 = f_L_law_L23 5000 L xs 0 129 161 5000 (nI 0) (hs 162 mF gF) := by
  rw [hs_0]
  unfold f_L_law
  simp only [lt0]
  rw [hs_O (c := 10) rfl, b2, in10, ob, hs_O (c := 11) rfl, b2, in11, ob, hs_A (t := 103) (len := 1) rfl (by omega), b2]
  rfl
def ρ0 : pP := ((119, 124), (112, 113), none, (140, 141))
theorem pR_60 {ρ : pP} {a k : Nat} (h : 60 ≤ k) : pR ρ a k = none := by
  unfold pR
  simp only [beq_f (show k ≠ 0 by omega), beq_f (show k ≠ 1 by omega), beq_f (show k ≠ 2 by omega), beq_f (show k ≠ 3 by omega), beq_f (show k ≠ 4 by omega), beq_f (show k ≠ 5 by omega), beq_f (show k ≠ 6 by omega), beq_f (show k ≠ 7 by omega), beq_f (show k ≠ 8 by omega), beq_f (show k ≠ 9 by omega), beq_f (show k ≠ 10 by omega), beq_f (show k ≠ 11 by omega), beq_f (show k ≠ 12 by omega), beq_f (show k ≠ 13 by omega), beq_f (show k ≠ 14 by omega), beq_f (show k ≠ 15 by omega), beq_f (show k ≠ 16 by omega), beq_f (show k ≠ 17 by omega), beq_f (show k ≠ 18 by omega), beq_f (show k ≠ 19 by omega), beq_f (show k ≠ 20 by omega), beq_f (show k ≠ 21 by omega), beq_f (show k ≠ 22 by omega), beq_f (show k ≠ 23 by omega), beq_f (show k ≠ 24 by omega), beq_f (show k ≠ 25 by omega), beq_f (show k ≠ 26 by omega), beq_f (show k ≠ 27 by omega), beq_f (show k ≠ 28 by omega), beq_f (show k ≠ 29 by omega), beq_f (show k ≠ 30 by omega), beq_f (show k ≠ 31 by omega), beq_f (show k ≠ 32 by omega), beq_f (show k ≠ 33 by omega), beq_f (show k ≠ 34 by omega), beq_f (show k ≠ 35 by omega), beq_f (show k ≠ 36 by omega), beq_f (show k ≠ 37 by omega), beq_f (show k ≠ 38 by omega), beq_f (show k ≠ 39 by omega), beq_f (show k ≠ 40 by omega), beq_f (show k ≠ 41 by omega), beq_f (show k ≠ 42 by omega), beq_f (show k ≠ 43 by omega), beq_f (show k ≠ 44 by omega), beq_f (show k ≠ 45 by omega), beq_f (show k ≠ 46 by omega), beq_f (show k ≠ 47 by omega), beq_f (show k ≠ 48 by omega), beq_f (show k ≠ 49 by omega), beq_f (show k ≠ 50 by omega), beq_f (show k ≠ 51 by omega), beq_f (show k ≠ 52 by omega), beq_f (show k ≠ 53 by omega), beq_f (show k ≠ 54 by omega), beq_f (show k ≠ 55 by omega), beq_f (show k ≠ 56 by omega), beq_f (show k ≠ 57 by omega), beq_f (show k ≠ 58 by omega), beq_f (show k ≠ 59 by omega), cond_false, Bool.cond_self]
theorem rG_ok (g : gLg) (h : g.all (fun t => !(Nat.beq t.1 1) || decide (pR ρ0 t.2.1 t.2.2.1 = some t.2.2.2)) = true) (a k : Nat) : rG g a k = none ∨ rG g a k = pR ρ0 a k := by
  induction g with
  | nil => exact .inl rfl
  | cons t g ih =>
    rw [List.all_cons, Bool.and_eq_true] at h
    have ih := ih h.2
    show (if t.1 = 0 then j_row (rG g) t.2.1 (fun _ => none) else if t.1 = 1 then j_up (rG g) t.2.1 t.2.2.1 (some t.2.2.2) else rG g) a k = none ∨ (if t.1 = 0 then j_row (rG g) t.2.1 (fun _ => none) else if t.1 = 1 then j_up (rG g) t.2.1 t.2.2.1 (some t.2.2.2) else rG g) a k = pR ρ0 a k
    by_cases h0 : t.1 = 0
    · rw [if_pos h0]
      unfold j_row
      split
      · exact .inl rfl
      · exact ih
    · rw [if_neg h0]
      by_cases h1 : t.1 = 1
      · rw [if_pos h1]
        have hb : Nat.beq t.1 1 = true := by rw [h1]; rfl
        have he := h.1
        rw [hb] at he
        have he := of_decide_eq_true he
        unfold j_up
        split
        · rename_i ea
          split
          · rename_i ek
            right
            rw [ea, ek, he]
          · exact ih
        · exact ih
      · rw [if_neg h1]
        exact ih
theorem rG_all : gF.all (fun t => !(Nat.beq t.1 1) || decide (pR ρ0 t.2.1 t.2.2.1 = some t.2.2.2)) = true := by decide +kernel
theorem rG_full : ∀ a, a < 162 → ∀ k, k < 60 → ((pR ρ0 a k).isNone || decide (rG gF a k = pR ρ0 a k)) = true := by decide +kernel
theorem rG_e : rG gF = pR ρ0 := by
  funext a k
  rcases rG_ok gF rG_all a k with h | h
  · by_cases ha : a < 162
    · by_cases hk : k < 60
      · have := rG_full a ha k hk
        rw [Bool.or_eq_true] at this
        rcases this with g | g
        · rw [h, Option.isNone_iff_eq_none.mp g]
        · exact of_decide_eq_true g
      · rw [h, pR_60 (by omega)]
    · rw [h, pR_big (by omega)]
  · exact h
abbrev q0 : pQ := ((162, mF), fun _ => (999, 0))
theorem hs_hp : hs 162 mF gF = hp q0 ρ0 (fun _ _ => 0) (iG gF) := by
  have e : shp 162 = pSx (fun _ => (999, 0)) := by
    funext b
    by_cases h : b < 162
    · rw [shp_at h, pSx_at (by rw [Nat.blt_eq]; exact h)]
    · rw [pSx_big (by omega)]
      exact if_neg h
  unfold hs hp
  rw [e, rG_e]
