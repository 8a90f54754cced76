/-! REFERENCES THAT ARE LAID -/
def rr (ρ : pP) (z : Option Nat) : pP := (ρ.1, ρ.2.1, z, ρ.2.2.2)
theorem pR_eq (ρ : pP) : ∀ a, pR ρ a = if a = 0 then (fun k => pR ρ 0 k) else if a = 108 then (fun k => pR ρ 108 k) else if a = 129 then (fun k => pR ρ 129 k) else pR ((0, 0), (0, 0), none, (0, 0)) a
  | 0 => rfl
  | 1 => rfl
  | 2 => rfl
  | 3 => rfl
  | 4 => rfl
  | 5 => rfl
  | 6 => rfl
  | 7 => rfl
  | 8 => rfl
  | 9 => rfl
  | 10 => rfl
  | 11 => rfl
  | 12 => rfl
  | 13 => rfl
  | 14 => rfl
  | 15 => rfl
  | 16 => rfl
  | 17 => rfl
  | 18 => rfl
  | 19 => rfl
  | 20 => rfl
  | 21 => rfl
  | 22 => rfl
  | 23 => rfl
  | 24 => rfl
  | 25 => rfl
  | 26 => rfl
  | 27 => rfl
  | 28 => rfl
  | 29 => rfl
  | 30 => rfl
  | 31 => rfl
  | 32 => rfl
  | 33 => rfl
  | 34 => rfl
  | 35 => rfl
  | 36 => rfl
  | 37 => rfl
  | 38 => rfl
  | 39 => rfl
  | 40 => rfl
  | 41 => rfl
  | 42 => rfl
  | 43 => rfl
  | 44 => rfl
  | 45 => rfl
  | 46 => rfl
  | 47 => rfl
  | 48 => rfl
  | 49 => rfl
  | 50 => rfl
  | 51 => rfl
  | 52 => rfl
  | 53 => rfl
  | 54 => rfl
  | 55 => rfl
  | 56 => rfl
  | 57 => rfl
  | 58 => rfl
  | 59 => rfl
  | 60 => rfl
  | 61 => rfl
  | 62 => rfl
  | 63 => rfl
  | 64 => rfl
  | 65 => rfl
  | 66 => rfl
  | 67 => rfl
  | 68 => rfl
  | 69 => rfl
  | 70 => rfl
  | 71 => rfl
  | 72 => rfl
  | 73 => rfl
  | 74 => rfl
  | 75 => rfl
  | 76 => rfl
  | 77 => rfl
  | 78 => rfl
  | 79 => rfl
  | 80 => rfl
  | 81 => rfl
  | 82 => rfl
  | 83 => rfl
  | 84 => rfl
  | 85 => rfl
  | 86 => rfl
  | 87 => rfl
  | 88 => rfl
  | 89 => rfl
  | 90 => rfl
  | 91 => rfl
  | 92 => rfl
  | 93 => rfl
  | 94 => rfl
  | 95 => rfl
  | 96 => rfl
  | 97 => rfl
  | 98 => rfl
  | 99 => rfl
  | 100 => rfl
  | 101 => rfl
  | 102 => rfl
  | 103 => rfl
  | 104 => rfl
  | 105 => rfl
  | 106 => rfl
  | 107 => rfl
  | 108 => rfl
  | 109 => rfl
  | 110 => rfl
  | 111 => rfl
  | 112 => rfl
  | 113 => rfl
  | 114 => rfl
  | 115 => rfl
  | 116 => rfl
  | 117 => rfl
  | 118 => rfl
  | 119 => rfl
  | 120 => rfl
  | 121 => rfl
  | 122 => rfl
  | 123 => rfl
  | 124 => rfl
  | 125 => rfl
  | 126 => rfl
  | 127 => rfl
  | 128 => rfl
  | 129 => rfl
  | 130 => rfl
  | 131 => rfl
  | 132 => rfl
  | 133 => rfl
  | 134 => rfl
  | 135 => rfl
  | 136 => rfl
  | 137 => rfl
  | 138 => rfl
  | 139 => rfl
  | 140 => rfl
  | 141 => rfl
  | 142 => rfl
  | 143 => rfl
  | 144 => rfl
  | 145 => rfl
  | 146 => rfl
  | 147 => rfl
  | 148 => rfl
  | 149 => rfl
  | 150 => rfl
  | 151 => rfl
  | 152 => rfl
  | 153 => rfl
  | 154 => rfl
  | 155 => rfl
  | 156 => rfl
  | 157 => rfl
  | 158 => rfl
  | 159 => rfl
  | 160 => rfl
  | 161 => rfl
  | n + 162 => by
    have h : Nat.blt (n + 162) 162 = false := by
      cases e : Nat.blt (n + 162) 162 with
      | false => rfl
      | true =>
        rw [Nat.blt_eq] at e
        omega
    have z : ∀ ρ : pP, pR ρ (n + 162) = fun _ => none := by
      intro ρ
      funext k
      unfold pR
      rw [h]
      rfl
    rw [z, z, if_neg (by omega), if_neg (by omega), if_neg (by omega)]
theorem pR_m (ρ : pP) : ∀ j, pR ρ 129 j = if j = 14 then ρ.2.2.1 else if j = 22 then some ρ.2.2.2.1 else if j = 23 then some ρ.2.2.2.2 else pR ((0, 0), (0, 0), none, (0, 0)) 129 j
  | 0 => rfl
  | 1 => rfl
  | 2 => rfl
  | 3 => rfl
  | 4 => rfl
  | 5 => rfl
  | 6 => rfl
  | 7 => rfl
  | 8 => rfl
  | 9 => rfl
  | 10 => rfl
  | 11 => rfl
  | 12 => rfl
  | 13 => rfl
  | 14 => rfl
  | 15 => rfl
  | 16 => rfl
  | 17 => rfl
  | 18 => rfl
  | 19 => rfl
  | 20 => rfl
  | 21 => rfl
  | 22 => rfl
  | 23 => rfl
  | 24 => rfl
  | 25 => rfl
  | 26 => rfl
  | 27 => rfl
  | 28 => rfl
  | 29 => rfl
  | 30 => rfl
  | 31 => rfl
  | 32 => rfl
  | 33 => rfl
  | 34 => rfl
  | 35 => rfl
  | 36 => rfl
  | 37 => rfl
  | 38 => rfl
  | 39 => rfl
  | 40 => rfl
  | 41 => rfl
  | 42 => rfl
  | 43 => rfl
  | 44 => rfl
  | 45 => rfl
  | 46 => rfl
  | 47 => rfl
  | 48 => rfl
  | 49 => rfl
  | 50 => rfl
  | 51 => rfl
  | 52 => rfl
  | 53 => rfl
  | 54 => rfl
  | 55 => rfl
  | n + 56 => by
    rw [if_neg (by omega), if_neg (by omega), if_neg (by omega)]
    rfl
theorem pR_x (ρ : pP) : ∀ j, pR ρ 0 j = if j = 15 then some ρ.1.1 else if j = 16 then some ρ.1.2 else pR ((0, 0), (0, 0), none, (0, 0)) 0 j
  | 0 => rfl
  | 1 => rfl
  | 2 => rfl
  | 3 => rfl
  | 4 => rfl
  | 5 => rfl
  | 6 => rfl
  | 7 => rfl
  | 8 => rfl
  | 9 => rfl
  | 10 => rfl
  | 11 => rfl
  | 12 => rfl
  | 13 => rfl
  | 14 => rfl
  | 15 => rfl
  | 16 => rfl
  | n + 17 => by
    rw [if_neg (by omega), if_neg (by omega)]
    rfl
theorem pR_p (ρ : pP) : ∀ j, pR ρ 108 j = if j = 5 then some ρ.2.1.1 else if j = 6 then some ρ.2.1.2 else pR ((0, 0), (0, 0), none, (0, 0)) 108 j
  | 0 => rfl
  | 1 => rfl
  | 2 => rfl
  | 3 => rfl
  | 4 => rfl
  | 5 => rfl
  | 6 => rfl
  | n + 7 => by
    rw [if_neg (by omega), if_neg (by omega)]
    rfl
theorem hR14 (q : pQ) (ρ : pP) (L : pL) (I : pI) (r : Nat) : jp_R 11 14 (hp q ρ L I) 129 r = some (hp q (ρ.1, ρ.2.1, some r, ρ.2.2.2) L I) := by
  have e : j_up (pR ρ) 129 14 (some r) = pR (ρ.1, ρ.2.1, some r, ρ.2.2.2) := by
    funext b j
    rw [pR_eq (ρ.1, ρ.2.1, some r, ρ.2.2.2) b, j_up]
    by_cases hb : b = 129
    · subst hb
      by_cases hj : j = 14
      · subst hj
        rfl
      · simp only [if_true, if_neg hj]
        show pR ρ 129 j = pR (ρ.1, ρ.2.1, some r, ρ.2.2.2) 129 j
        rw [pR_m ρ, pR_m (ρ.1, ρ.2.1, some r, ρ.2.2.2)]
        simp only [if_neg hj]
    · simp only [if_neg hb]
      rw [pR_eq ρ b]
      by_cases h0 : b = 0
      · subst h0
        first | exact absurd rfl hb | (simp only [if_true]; rw [pR_x ρ, pR_x (ρ.1, ρ.2.1, some r, ρ.2.2.2)])
      · by_cases h1 : b = 108
        · subst h1
          first | exact absurd rfl hb | (simp only [if_true]; show pR ρ 108 j = pR _ 108 j; rw [pR_p ρ, pR_p (ρ.1, ρ.2.1, some r, ρ.2.2.2)])
        · by_cases h2 : b = 129
          · subst h2
            first | exact absurd rfl hb | (show pR ρ 129 j = pR _ 129 j; rw [pR_m ρ, pR_m (ρ.1, ρ.2.1, some r, ρ.2.2.2)])
          · simp only [if_neg h0, if_neg h1, if_neg h2]
  have e2 : jp_R 11 14 (hp q ρ L I) 129 r = some (q.1, pSx q.2, I, L, j_up (pR ρ) 129 14 (some r)) := by
    show (if pSx q.2 129 = (11, 0) then some (q.1, pSx q.2, I, L, j_up (pR ρ) 129 14 (some r)) else none) = _
    exact if_pos (pSx_at (f := q.2) (a := 129) rfl)
  rw [e2, e]
  rfl
theorem hR22 (q : pQ) (ρ : pP) (L : pL) (I : pI) (r : Nat) : jp_R 11 22 (hp q ρ L I) 129 r = some (hp q (ρ.1, ρ.2.1, ρ.2.2.1, r, ρ.2.2.2.2) L I) := by
  have e : j_up (pR ρ) 129 22 (some r) = pR (ρ.1, ρ.2.1, ρ.2.2.1, r, ρ.2.2.2.2) := by
    funext b j
    rw [pR_eq (ρ.1, ρ.2.1, ρ.2.2.1, r, ρ.2.2.2.2) b, j_up]
    by_cases hb : b = 129
    · subst hb
      by_cases hj : j = 22
      · subst hj
        rfl
      · simp only [if_true, if_neg hj]
        show pR ρ 129 j = pR (ρ.1, ρ.2.1, ρ.2.2.1, r, ρ.2.2.2.2) 129 j
        rw [pR_m ρ, pR_m (ρ.1, ρ.2.1, ρ.2.2.1, r, ρ.2.2.2.2)]
        simp only [if_neg hj]
    · simp only [if_neg hb]
      rw [pR_eq ρ b]
      by_cases h0 : b = 0
      · subst h0
        first | exact absurd rfl hb | (simp only [if_true]; rw [pR_x ρ, pR_x (ρ.1, ρ.2.1, ρ.2.2.1, r, ρ.2.2.2.2)])
      · by_cases h1 : b = 108
        · subst h1
          first | exact absurd rfl hb | (simp only [if_true]; show pR ρ 108 j = pR _ 108 j; rw [pR_p ρ, pR_p (ρ.1, ρ.2.1, ρ.2.2.1, r, ρ.2.2.2.2)])
        · by_cases h2 : b = 129
          · subst h2
            first | exact absurd rfl hb | (show pR ρ 129 j = pR _ 129 j; rw [pR_m ρ, pR_m (ρ.1, ρ.2.1, ρ.2.2.1, r, ρ.2.2.2.2)])
          · simp only [if_neg h0, if_neg h1, if_neg h2]
  have e2 : jp_R 11 22 (hp q ρ L I) 129 r = some (q.1, pSx q.2, I, L, j_up (pR ρ) 129 22 (some r)) := by
    show (if pSx q.2 129 = (11, 0) then some (q.1, pSx q.2, I, L, j_up (pR ρ) 129 22 (some r)) else none) = _
    exact if_pos (pSx_at (f := q.2) (a := 129) rfl)
  rw [e2, e]
  rfl
theorem hR15 (q : pQ) (ρ : pP) (L : pL) (I : pI) (r : Nat) : jp_R 10 15 (hp q ρ L I) 0 r = some (hp q ((r, ρ.1.2), ρ.2) L I) := by
  have e : j_up (pR ρ) 0 15 (some r) = pR ((r, ρ.1.2), ρ.2) := by
    funext b j
    rw [pR_eq ((r, ρ.1.2), ρ.2) b, j_up]
    by_cases hb : b = 0
    · subst hb
      by_cases hj : j = 15
      · subst hj
        rfl
      · simp only [if_true, if_neg hj]
        show pR ρ 0 j = pR ((r, ρ.1.2), ρ.2) 0 j
        rw [pR_x ρ, pR_x ((r, ρ.1.2), ρ.2)]
        simp only [if_neg hj]
    · simp only [if_neg hb]
      rw [pR_eq ρ b]
      by_cases h0 : b = 0
      · subst h0
        first | exact absurd rfl hb | (simp only [if_true]; rw [pR_x ρ, pR_x ((r, ρ.1.2), ρ.2)])
      · by_cases h1 : b = 108
        · subst h1
          first | exact absurd rfl hb | (simp only [if_true]; show pR ρ 108 j = pR _ 108 j; rw [pR_p ρ, pR_p ((r, ρ.1.2), ρ.2)])
        · by_cases h2 : b = 129
          · subst h2
            first | exact absurd rfl hb | (show pR ρ 129 j = pR _ 129 j; rw [pR_m ρ, pR_m ((r, ρ.1.2), ρ.2)])
          · simp only [if_neg h0, if_neg h1, if_neg h2]
  have e2 : jp_R 10 15 (hp q ρ L I) 0 r = some (q.1, pSx q.2, I, L, j_up (pR ρ) 0 15 (some r)) := by
    show (if pSx q.2 0 = (10, 0) then some (q.1, pSx q.2, I, L, j_up (pR ρ) 0 15 (some r)) else none) = _
    exact if_pos (pSx_at (f := q.2) (a := 0) rfl)
  rw [e2, e]
  rfl
theorem hR16 (q : pQ) (ρ : pP) (L : pL) (I : pI) (r : Nat) : jp_R 10 16 (hp q ρ L I) 0 r = some (hp q ((ρ.1.1, r), ρ.2) L I) := by
  have e : j_up (pR ρ) 0 16 (some r) = pR ((ρ.1.1, r), ρ.2) := by
    funext b j
    rw [pR_eq ((ρ.1.1, r), ρ.2) b, j_up]
    by_cases hb : b = 0
    · subst hb
      by_cases hj : j = 16
      · subst hj
        rfl
      · simp only [if_true, if_neg hj]
        show pR ρ 0 j = pR ((ρ.1.1, r), ρ.2) 0 j
        rw [pR_x ρ, pR_x ((ρ.1.1, r), ρ.2)]
        simp only [if_neg hj]
    · simp only [if_neg hb]
      rw [pR_eq ρ b]
      by_cases h0 : b = 0
      · subst h0
        first | exact absurd rfl hb | (simp only [if_true]; rw [pR_x ρ, pR_x ((ρ.1.1, r), ρ.2)])
      · by_cases h1 : b = 108
        · subst h1
          first | exact absurd rfl hb | (simp only [if_true]; show pR ρ 108 j = pR _ 108 j; rw [pR_p ρ, pR_p ((ρ.1.1, r), ρ.2)])
        · by_cases h2 : b = 129
          · subst h2
            first | exact absurd rfl hb | (show pR ρ 129 j = pR _ 129 j; rw [pR_m ρ, pR_m ((ρ.1.1, r), ρ.2)])
          · simp only [if_neg h0, if_neg h1, if_neg h2]
  have e2 : jp_R 10 16 (hp q ρ L I) 0 r = some (q.1, pSx q.2, I, L, j_up (pR ρ) 0 16 (some r)) := by
    show (if pSx q.2 0 = (10, 0) then some (q.1, pSx q.2, I, L, j_up (pR ρ) 0 16 (some r)) else none) = _
    exact if_pos (pSx_at (f := q.2) (a := 0) rfl)
  rw [e2, e]
  rfl
theorem hR55 (q : pQ) (ρ : pP) (L : pL) (I : pI) (r : Nat) : jp_R 5 5 (hp q ρ L I) 108 r = some (hp q (ρ.1, (r, ρ.2.1.2), ρ.2.2) L I) := by
  have e : j_up (pR ρ) 108 5 (some r) = pR (ρ.1, (r, ρ.2.1.2), ρ.2.2) := by
    funext b j
    rw [pR_eq (ρ.1, (r, ρ.2.1.2), ρ.2.2) b, j_up]
    by_cases hb : b = 108
    · subst hb
      by_cases hj : j = 5
      · subst hj
        rfl
      · simp only [if_true, if_neg hj]
        show pR ρ 108 j = pR (ρ.1, (r, ρ.2.1.2), ρ.2.2) 108 j
        rw [pR_p ρ, pR_p (ρ.1, (r, ρ.2.1.2), ρ.2.2)]
        simp only [if_neg hj]
    · simp only [if_neg hb]
      rw [pR_eq ρ b]
      by_cases h0 : b = 0
      · subst h0
        first | exact absurd rfl hb | (simp only [if_true]; rw [pR_x ρ, pR_x (ρ.1, (r, ρ.2.1.2), ρ.2.2)])
      · by_cases h1 : b = 108
        · subst h1
          first | exact absurd rfl hb | (simp only [if_true]; show pR ρ 108 j = pR _ 108 j; rw [pR_p ρ, pR_p (ρ.1, (r, ρ.2.1.2), ρ.2.2)])
        · by_cases h2 : b = 129
          · subst h2
            first | exact absurd rfl hb | (show pR ρ 129 j = pR _ 129 j; rw [pR_m ρ, pR_m (ρ.1, (r, ρ.2.1.2), ρ.2.2)])
          · simp only [if_neg h0, if_neg h1, if_neg h2]
  have e2 : jp_R 5 5 (hp q ρ L I) 108 r = some (q.1, pSx q.2, I, L, j_up (pR ρ) 108 5 (some r)) := by
    show (if pSx q.2 108 = (5, 0) then some (q.1, pSx q.2, I, L, j_up (pR ρ) 108 5 (some r)) else none) = _
    exact if_pos (pSx_at (f := q.2) (a := 108) rfl)
  rw [e2, e]
  rfl
theorem hR56 (q : pQ) (ρ : pP) (L : pL) (I : pI) (r : Nat) : jp_R 5 6 (hp q ρ L I) 108 r = some (hp q (ρ.1, (ρ.2.1.1, r), ρ.2.2) L I) := by
  have e : j_up (pR ρ) 108 6 (some r) = pR (ρ.1, (ρ.2.1.1, r), ρ.2.2) := by
    funext b j
    rw [pR_eq (ρ.1, (ρ.2.1.1, r), ρ.2.2) b, j_up]
    by_cases hb : b = 108
    · subst hb
      by_cases hj : j = 6
      · subst hj
        rfl
      · simp only [if_true, if_neg hj]
        show pR ρ 108 j = pR (ρ.1, (ρ.2.1.1, r), ρ.2.2) 108 j
        rw [pR_p ρ, pR_p (ρ.1, (ρ.2.1.1, r), ρ.2.2)]
        simp only [if_neg hj]
    · simp only [if_neg hb]
      rw [pR_eq ρ b]
      by_cases h0 : b = 0
      · subst h0
        first | exact absurd rfl hb | (simp only [if_true]; rw [pR_x ρ, pR_x (ρ.1, (ρ.2.1.1, r), ρ.2.2)])
      · by_cases h1 : b = 108
        · subst h1
          first | exact absurd rfl hb | (simp only [if_true]; show pR ρ 108 j = pR _ 108 j; rw [pR_p ρ, pR_p (ρ.1, (ρ.2.1.1, r), ρ.2.2)])
        · by_cases h2 : b = 129
          · subst h2
            first | exact absurd rfl hb | (show pR ρ 129 j = pR _ 129 j; rw [pR_m ρ, pR_m (ρ.1, (ρ.2.1.1, r), ρ.2.2)])
          · simp only [if_neg h0, if_neg h1, if_neg h2]
  have e2 : jp_R 5 6 (hp q ρ L I) 108 r = some (q.1, pSx q.2, I, L, j_up (pR ρ) 108 6 (some r)) := by
    show (if pSx q.2 108 = (5, 0) then some (q.1, pSx q.2, I, L, j_up (pR ρ) 108 6 (some r)) else none) = _
    exact if_pos (pSx_at (f := q.2) (a := 108) rfl)
  rw [e2, e]
  rfl
