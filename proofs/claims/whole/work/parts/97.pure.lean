/-! TRIP, HASTE: least tolls by station and by what is done -/
abbrev gV : Type := Nat → Nat → Option Nat
def omin : Option Nat → Option Nat → Option Nat
  | none, b => b
  | some a, none => some a
  | some a, some b => some (min a b)
def oad (a : Option Nat) (p : Nat) : Option Nat := match a with
  | none => none
  | some c => some (c + p)
theorem omin_n (a : Option Nat) : omin a none = a := by cases a <;> rfl
theorem omin_s {a b : Option Nat} {c : Nat} (h : omin a b = some c) : a = some c ∨ b = some c := by
  cases a with
  | none => exact .inr h
  | some x =>
    cases b with
    | none => exact .inl h
    | some y =>
      have h' : min x y = c := Option.some.inj h
      by_cases e : x ≤ y
      · rw [Nat.min_eq_left e] at h'
        exact .inl (by rw [h'])
      · rw [Nat.min_eq_right (by omega)] at h'
        exact .inr (by rw [h'])
theorem om_om {a b : Option Nat} {D : Nat} (ha : ∀ c, a = some c → c ≤ D) (hb : ∀ c, b = some c → c ≤ D) : om (omin a b) D = min (om a D) (om b D) := by
  cases a with
  | none =>
    cases b with
    | none => exact (Nat.min_self D).symm
    | some y => exact (Nat.min_eq_right (hb y rfl)).symm
  | some x =>
    cases b with
    | none => exact (Nat.min_eq_left (ha x rfl)).symm
    | some y => rfl
theorem st_om {t c : Option Nat} {p D : Nat} (ht : ∀ x, t = some x → x ≤ D) (hc : ∀ x, c = some x → x + p < D) : om (omin t (oad c p)) D = min (om t D) (om c D + p) := by
  cases c with
  | none =>
    have e : omin t (oad none p) = t := omin_n t
    rw [e]
    have : om t D ≤ D := by
      cases t with
      | none => exact Nat.le_refl D
      | some x => exact ht x rfl
    show om t D = min (om t D) (D + p)
    omega
  | some x =>
    have h := hc x rfl
    cases t with
    | none =>
      show x + p = min D (x + p)
      omega
    | some y => rfl
def upV (v : gV) (s X : Nat) (c : Option Nat) : gV := fun a b => if a = s ∧ b = X then c else v a b
def stV (m p s X : Nat) (v : gV) : gV := upV v s (X ||| m) (omin (v s (X ||| m)) (oad (v s X) p))
def sayV (O m p s : Nat) (v : gV) : gV := fo (fun X v => stV m p s X v) 0 (O + 1) v
def GV (O S pl k : Nat) (v : gV) : Prop := ∀ s X c, v s X = some c → X ||| O = O ∧ c ≤ 594 * X ∧ s < S ∧ s ≤ pl + k ∧ pl ≤ s + k
theorem upV_self {v : gV} {s X : Nat} : upV v s X (v s X) = v := by
  funext a b
  unfold upV
  split
  · rename_i h
    rw [h.1, h.2]
  · rfl
theorem stV_n {m p s X : Nat} {v : gV} (h : v s X = none) : stV m p s X v = v := by
  unfold stV
  rw [h, show oad none p = none from rfl, omin_n]
  exact upV_self
theorem stV_0 {p s X : Nat} {v : gV} : stV 0 p s X v = v := by
  unfold stV
  rw [Nat.or_zero]
  have : omin (v s X) (oad (v s X) p) = v s X := by
    cases v s X with
    | none => rfl
    | some c =>
      show some (min c (c + p)) = some c
      rw [Nat.min_eq_left (by omega)]
  rw [this]
  exact upV_self
theorem or_sub {X m O : Nat} (h1 : X ||| O = O) (h2 : m ||| O = O) : (X ||| m) ||| O = O := by
  rw [Nat.or_assoc, h2, h1]
theorem sub_le_or {X O : Nat} (h : X ||| O = O) : X ≤ O := by
  have := Nat.left_le_or (n := X) (m := O)
  omega
theorem stV_G {O S pl k m p s X : Nat} {v : gV} (hm : m ||| O = O) (hpb : p ≤ 594) (h : GV O S pl k v) : GV O S pl k (stV m p s X v) := by
  intro a b c e
  unfold stV upV at e
  by_cases g : a = s ∧ b = X ||| m
  · rw [if_pos g] at e
    obtain ⟨rfl, rfl⟩ := g
    cases hX : v a X with
    | none =>
      rw [hX, show oad none p = none from rfl, omin_n] at e
      exact h _ _ _ e
    | some x =>
      obtain ⟨h1, h2, h3, h4, h5⟩ := h _ _ _ hX
      cases hT : v a (X ||| m) with
      | none =>
        rw [hX, hT] at e
        have ec : x + p = c := Option.some.inj e
        have hne : X ||| m ≠ X := fun h => by rw [h, hX] at hT; cases hT
        have hle := Nat.left_le_or (n := X) (m := m)
        have hb : 594 * (X + 1) ≤ 594 * (X ||| m) := Nat.mul_le_mul_left _ (by omega)
        exact ⟨or_sub h1 hm, by omega, h3, h4, h5⟩
      | some y =>
        obtain ⟨g1, g2, g3, g4, g5⟩ := h _ _ _ hT
        rw [hX, hT] at e
        have ec : min y (x + p) = c := Option.some.inj e
        exact ⟨g1, by omega, g3, g4, g5⟩
  · rw [if_neg g] at e
    exact h _ _ _ e
theorem fo_G {O S pl k : Nat} {Φ : Nat → gV → gV} (hΦ : ∀ i v, GV O S pl k v → GV O S pl k (Φ i v)) (n j : Nat) (v : gV) (h : GV O S pl k v) : GV O S pl k (fo Φ j n v) := fo_inv (fun _ v => GV O S pl k v) n j v h (fun i v _ _ h => hΦ i v h)
theorem sayV_G {O S pl k m p s : Nat} {v : gV} (hm : m ||| O = O) (hpb : p ≤ 594) (h : GV O S pl k v) : GV O S pl k (sayV O m p s v) := fo_G (fun _ _ h => stV_G hm hpb h) _ _ _ h
theorem sayV_0 {O p s : Nat} {v : gV} : sayV O 0 p s v = v := by
  have : ∀ n j v, fo (fun X v => stV 0 p s X v) j n v = v := by
    intro n
    induction n with
    | zero => intro j v; rfl
    | succ n ih =>
      intro j v
      show fo _ (j + 1) n (stV 0 p s j v) = v
      rw [stV_0]
      exact ih (j + 1) v
  exact this _ _ _
theorem sayV_n {O m p s : Nat} {v : gV} (h : ∀ X, v s X = none) : sayV O m p s v = v := by
  have : ∀ n j, fo (fun X v => stV m p s X v) j n v = v := by
    intro n
    induction n with
    | zero => intro j; rfl
    | succ n ih =>
      intro j
      show fo _ (j + 1) n (stV m p s j v) = v
      rw [stV_n (h j)]
      exact ih (j + 1)
  exact this _ _
/-- all words at a station; at all stations -/
def sayS (O : Nat) (B P : Nat → Nat → Nat) (s W : Nat) (v : gV) : gV := fo (fun w v => sayV O (B w s &&& O) (P w s) s v) 0 W v
def sayA (O : Nat) (B P : Nat → Nat → Nat) (W S : Nat) (v : gV) : gV := fo (fun s v => sayS O B P s W v) 0 S v
theorem and_sub (b O : Nat) : (b &&& O) ||| O = O := by
  refine Nat.eq_of_testBit_eq (fun i => ?_)
  rw [Nat.testBit_or, Nat.testBit_and]
  cases Nat.testBit b i <;> cases Nat.testBit O i <;> rfl
theorem sayS_s {O s W : Nat} {B P : Nat → Nat → Nat} {v : gV} : sayS O B P s (W + 1) v = sayV O (B W s &&& O) (P W s) s (sayS O B P s W v) := by
  unfold sayS
  rw [fo_last, Nat.zero_add]
theorem sayA_s {O W S : Nat} {B P : Nat → Nat → Nat} {v : gV} : sayA O B P W (S + 1) v = sayS O B P S W (sayA O B P W S v) := by
  unfold sayA
  rw [fo_last, Nat.zero_add]
theorem sayS_G {O S pl k s W : Nat} {B P : Nat → Nat → Nat} {v : gV} (hP : ∀ w, w < W → P w s ≤ 594) (h : GV O S pl k v) : GV O S pl k (sayS O B P s W v) := fo_inv (fun _ v => GV O S pl k v) W 0 v h (fun i v _ hi h => sayV_G (and_sub _ _) (hP i (by omega)) h)
theorem sayA_G {O S pl k W n : Nat} {B P : Nat → Nat → Nat} {v : gV} (hP : ∀ w s, w < W → P w s ≤ 594) (h : GV O S pl k v) : GV O S pl k (sayA O B P W n v) := fo_inv (fun _ v => GV O S pl k v) n 0 v h (fun i v _ _ h => sayS_G (fun w hw => hP w i hw) h)
theorem sayS_n {O s W : Nat} {B P : Nat → Nat → Nat} {v : gV} (h : ∀ X, v s X = none) : sayS O B P s W v = v := by
  have : ∀ n, fo (fun w v => sayV O (B w s &&& O) (P w s) s v) 0 n v = v := by
    intro n
    induction n with
    | zero => rfl
    | succ n ih => rw [fo_last, ih, sayV_n h]
  exact this W
theorem sayS_0 {O s W : Nat} {B P : Nat → Nat → Nat} {v : gV} (h : ∀ w, w < W → B w s &&& O = 0) : sayS O B P s W v = v := by
  have : ∀ n, n ≤ W → fo (fun w v => sayV O (B w s &&& O) (P w s) s v) 0 n v = v := by
    intro n
    induction n with
    | zero => intro _; rfl
    | succ n ih =>
      intro hn
      rw [fo_last, ih (by omega), Nat.zero_add, h n (by omega), sayV_0]
  exact this W (Nat.le_refl W)
/-- an hour goes by -/
def wlkV (S : Nat) (v : gV) : gV := fun s X => if s < S then omin (omin (v s X) (if 0 < s then v (s - 1) X else none)) (if s + 1 < S then v (s + 1) X else none) else none
theorem wlkV_G {O S pl k : Nat} {v : gV} (h : GV O S pl k v) : GV O S pl (k + 1) (wlkV S v) := by
  intro s X c e
  unfold wlkV at e
  by_cases hs : s < S
  · rw [if_pos hs] at e
    rcases omin_s e with e | e
    · rcases omin_s e with e | e
      · obtain ⟨a1, a2, a3, a4, a5⟩ := h _ _ _ e
        exact ⟨a1, a2, hs, by omega, by omega⟩
      · split at e
        · obtain ⟨a1, a2, a3, a4, a5⟩ := h _ _ _ e
          exact ⟨a1, a2, hs, by omega, by omega⟩
        · cases e
    · split at e
      · obtain ⟨a1, a2, a3, a4, a5⟩ := h _ _ _ e
        exact ⟨a1, a2, hs, by omega, by omega⟩
      · cases e
  · rw [if_neg hs] at e
    cases e
def stt (pl : Nat) : gV := fun s X => if s = pl ∧ X = 0 then some 0 else none
theorem stt_G {O S pl : Nat} (h : pl < S) : GV O S pl 0 (stt pl) := by
  intro s X c e
  unfold stt at e
  split at e
  · rename_i g
    obtain ⟨rfl, rfl⟩ := g
    cases e
    exact ⟨Nat.zero_or O, Nat.zero_le _, h, by omega, by omega⟩
  · cases e
/-- by the hour k: tolls P k -/
def hV (O : Nat) (B : Nat → Nat → Nat) (P : Nat → Nat → Nat → Nat) (W S pl : Nat) : Nat → gV
  | 0 => sayA O B (P 0) W S (stt pl)
  | k + 1 => sayA O B (P (k + 1)) W S (wlkV S (hV O B P W S pl k))
theorem hV_G {O W S pl : Nat} {B : Nat → Nat → Nat} {P : Nat → Nat → Nat → Nat} (hP : ∀ k w s, w < W → P k w s ≤ 594) (h : pl < S) : ∀ k, GV O S pl k (hV O B P W S pl k)
  | 0 => sayA_G (hP 0) (stt_G h)
  | k + 1 => sayA_G (hP (k + 1)) (wlkV_G (hV_G hP h k))
/-- the least of all done -/
def bsV (O S : Nat) (v : gV) : Option Nat := fo (fun s a => omin a (v s O)) 0 S none
theorem bsV_le {O S pl k : Nat} {v : gV} (h : GV O S pl k v) : ∀ n c, fo (fun s a => omin a (v s O)) 0 n none = some c → c ≤ 594 * O
  | 0, c, e => by cases e
  | n + 1, c, e => by
    rw [fo_last, Nat.zero_add] at e
    rcases omin_s e with e | e
    · exact bsV_le h n c e
    · exact (h _ _ _ e).2.1
def olt (e b : Option Nat) : Bool := match e, b with
  | none, _ => false
  | some _, none => true
  | some x, some y => decide (x < y)
/-- best so far, when, the first and what it cost -/
abbrev gH : Type := Option Nat × Option Nat × Option (Nat × Nat)
def tS (e : Option Nat) (k : Nat) (x : gH) : gH := (bif olt e x.1 then e else x.1, bif olt e x.1 then some k else x.2.1, match x.2.2 with
  | none => (match (bif olt e x.1 then e else x.1) with | none => none | some c => some (k, c))
  | some y => some y)
def tH (O : Nat) (B : Nat → Nat → Nat) (P : Nat → Nat → Nat → Nat) (W S pl n : Nat) : gH := fo (fun k x => tS (bsV O S (hV O B P W S pl k)) k x) 0 n (none, none, none)
theorem tH_s {O W S pl n : Nat} {B : Nat → Nat → Nat} {P : Nat → Nat → Nat → Nat} : tH O B P W S pl (n + 1) = tS (bsV O S (hV O B P W S pl n)) n (tH O B P W S pl n) := by
  unfold tH
  rw [fo_last, Nat.zero_add]
/-- nothing yet, or all -/
def tOk (n bd : Nat) (x : gH) : Prop := (x = (none, none, none)) ∨ ∃ b h k c, x = (some b, some h, some (k, c)) ∧ b ≤ bd ∧ c ≤ bd ∧ h < n ∧ k < n
theorem tS_ok {e : Option Nat} {n bd : Nat} {x : gH} (he : ∀ c, e = some c → c ≤ bd) (h : tOk n bd x) : tOk (n + 1) bd (tS e n x) := by
  rcases h with rfl | ⟨b, h, k, c, rfl, h1, h2, h3, h4⟩
  · cases e with
    | none => exact .inl rfl
    | some y => exact .inr ⟨y, n, n, y, rfl, he y rfl, he y rfl, by omega, by omega⟩
  · cases e with
    | none => exact .inr ⟨b, h, k, c, rfl, h1, h2, by omega, by omega⟩
    | some y =>
      by_cases g : y < b
      · exact .inr ⟨y, n, k, c, by simp only [tS, olt, decide_eq_true g, cond_true], he y rfl, h2, by omega, by omega⟩
      · exact .inr ⟨b, h, k, c, by simp only [tS, olt, decide_eq_false g, cond_false], h1, h2, by omega, by omega⟩
theorem tH_ok {O W S pl : Nat} {B : Nat → Nat → Nat} {P : Nat → Nat → Nat → Nat} (hP : ∀ k w s, w < W → P k w s ≤ 594) (h : pl < S) : ∀ n, tOk n (594 * O) (tH O B P W S pl n)
  | 0 => .inl rfl
  | n + 1 => by
    rw [tH_s]
    exact tS_ok (fun c hc => bsV_le (hV_G hP h n) S c hc) (tH_ok hP h n)
theorem om_lt {e b : Option Nat} {D : Nat} (he : ∀ c, e = some c → c < D) (hb : ∀ c, b = some c → c < D) : (om e D < om b D) = (olt e b = true) := by
  cases e with
  | none =>
    have : ¬ om none D < om b D := by
      cases b with
      | none => exact Nat.lt_irrefl D
      | some y =>
        have := hb y rfl
        show ¬ D < y
        omega
    simp only [this, olt, Bool.false_eq_true]
  | some x =>
    cases b with
    | none =>
      have := he x rfl
      have h2 : om (some x) D < om none D := this
      simp only [h2, olt]
    | some y =>
      show (x < y) = (decide (x < y) = true)
      rw [decide_eq_true_iff]
theorem omin_lt {e b : Option Nat} : omin b e = bif olt e b then e else b := by
  cases e with
  | none => exact omin_n b
  | some x =>
    cases b with
    | none => rfl
    | some y =>
      show some (min y x) = bif decide (x < y) then some x else some y
      by_cases h : x < y
      · rw [decide_eq_true h, Nat.min_eq_right (by omega)]; rfl
      · rw [decide_eq_false h, Nat.min_eq_left (by omega)]; rfl
/-! the reference's cells -/
theorem or_add {a b : Nat} (ha : a < 256) (hb : b < 256) (h : a &&& b = 0) (hs : a + b < 256) : a + b = a ||| b := by
  have e := BitVec.add_eq_or_of_and_eq_zero (BitVec.ofNat 8 a) (BitVec.ofNat 8 b) (by
    apply BitVec.eq_of_toNat_eq
    rw [BitVec.toNat_and, BitVec.toNat_ofNat, BitVec.toNat_ofNat, Nat.mod_eq_of_lt (show a < 2 ^ 8 from ha), Nat.mod_eq_of_lt (show b < 2 ^ 8 from hb), h]
    rfl)
  have e2 := congrArg BitVec.toNat e
  rw [BitVec.toNat_add, BitVec.toNat_or, BitVec.toNat_ofNat, BitVec.toNat_ofNat, Nat.mod_eq_of_lt (show a < 2 ^ 8 from ha), Nat.mod_eq_of_lt (show b < 2 ^ 8 from hb), Nat.mod_eq_of_lt (show a + b < 2 ^ 8 from hs)] at e2
  exact e2
theorem tb_U {O i : Nat} (h : O < 256) : (255 - O).testBit i = (decide (i < 8) && !O.testBit i) := by
  have := Nat.testBit_two_pow_sub_succ (n := 8) (x := O) h i
  rw [show 2 ^ 8 - (O + 1) = 255 - O by omega] at this
  exact this
theorem tb_big {b i : Nat} (h : b < 256) (hi : 8 ≤ i) : b.testBit i = false := Nat.testBit_lt_two_pow (Nat.lt_of_lt_of_le h (show 2 ^ 8 ≤ 2 ^ i from Nat.pow_le_pow_right (by omega) hi))
theorem U_and {O X : Nat} (hO : O < 256) (h : X ||| O = O) : (255 - O) &&& X = 0 := by
  refine Nat.eq_of_testBit_eq (fun i => ?_)
  have hb := congrArg (fun x => Nat.testBit x i) h
  simp only [Nat.testBit_or] at hb
  rw [Nat.testBit_and, tb_U hO, Nat.zero_testBit]
  cases h1 : Nat.testBit O i <;> cases h2 : Nat.testBit X i <;> rw [h1, h2] at hb <;> simp_all
theorem tgt {O X b : Nat} (hO : O < 256) (hb : b < 256) (h : X ||| O = O) : (255 - O + X) ||| b = 255 - O + (X ||| (b &&& O)) := by
  have hX := sub_le_or h
  have h2 : (X ||| (b &&& O)) ||| O = O := or_sub h (and_sub b O)
  have hX2 := sub_le_or h2
  rw [or_add (by omega) (by omega) (U_and hO h) (by omega), or_add (by omega) (by omega) (U_and hO h2) (by omega)]
  refine Nat.eq_of_testBit_eq (fun i => ?_)
  rw [Nat.testBit_or, Nat.testBit_or, Nat.testBit_or, Nat.testBit_or, Nat.testBit_and, tb_U hO]
  by_cases hi : i < 8
  · rw [decide_eq_true hi]
    cases Nat.testBit O i <;> cases Nat.testBit X i <;> cases Nat.testBit b i <;> rfl
  · rw [tb_big hb (by omega), decide_eq_false hi]
    cases Nat.testBit O i <;> cases Nat.testBit X i <;> rfl
