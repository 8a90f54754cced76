/-! THE CONSTRUCTORS: a log of what they do -/
/-- no cell yet -/
def jh0 : jH := ((0, 0), fun _ => (999, 0), fun _ _ => 0, fun _ _ => 0, fun _ _ => none)
abbrev gLg : Type := List (Nat × Nat × Nat × Nat)
def rG : gLg → Nat → Nat → Option Nat
  | [] => fun _ _ => none
  | t :: g => if t.1 = 0 then j_row (rG g) t.2.1 (fun _ => none) else if t.1 = 1 then j_up (rG g) t.2.1 t.2.2.1 (some t.2.2.2) else rG g
def iG : gLg → Nat → Nat → Int32
  | [] => fun _ _ => 0
  | t :: g => if t.1 = 0 then j_row (iG g) t.2.1 (fun _ => 0) else if t.1 = 1 then iG g else j_up (iG g) t.2.1 t.2.2.1 (nI t.2.2.2)
def shp (n b : Nat) : Nat × Nat := if b < n then pS b else (999, 0)
def hs (n m : Nat) (g : gLg) : jH := ((n, m), shp n, iG g, (fun _ _ => 0), rG g)
abbrev aL (n : Nat) (g : gLg) : gLg := (0, n, 0, 0) :: g
abbrev sL (a k v : Nat) (g : gLg) : gLg := (1, a, k, v) :: g
abbrev tL (a k v : Nat) (g : gLg) : gLg := (2, a, k, v) :: g
theorem hs_0 : jh0 = hs 0 0 [] := by
  have : shp 0 = fun _ => (999, 0) := by
    funext b
    exact if_neg (Nat.not_lt_zero b)
  unfold hs
  rw [this]
  rfl
theorem hs_N {n m c : Nat} {g : gLg} : js_N (hs n m g) (pS n) c = hs (n + 1) (m + c) (aL n g) := by
  have e1 : (fun b => if b = n then pS n else shp n b) = shp (n + 1) := by
    funext b
    unfold shp
    by_cases h : b = n
    · rw [if_pos h, if_pos (by omega), h]
    · rw [if_neg h]
      by_cases h2 : b < n
      · rw [if_pos h2, if_pos (by omega)]
      · rw [if_neg h2, if_neg (by omega)]
  have e2 : j_row (fun _ _ => (0 : Int64)) n (fun _ => 0) = fun _ _ => 0 := by
    funext b
    unfold j_row
    split <;> rfl
  show ((n + 1, m + c), (fun b => if b = n then pS n else shp n b), j_row (iG g) n (fun _ => 0), j_row (fun _ _ => (0 : Int64)) n (fun _ => 0), j_row (rG g) n (fun _ => none)) = _
  rw [e1, e2]
  rfl
theorem shp_at {n a : Nat} (h : a < n) : shp n a = pS a := if_pos h
theorem hs_A {n m t len : Nat} {g : gLg} (e : pS n = (t, len)) (hl : len ≤ 100000) : jn_A t (hs n m g) (nI len) = some (n, hs (n + 1) (m + len) (aL n g)) := by
  unfold jn_A
  rw [n_cl (by omega), if_pos ⟨by rw [show (0 : Int32) = nI 0 from rfl, nn_lt (by omega) (by omega)]; omega, hl⟩, ← e, hs_N]
  rfl
theorem hs_O {n m c N : Nat} {g : gLg} (e : pS n = (c, 0)) : jn_O c N (hs n m g) = some (n, hs (n + 1) (m + N) (aL n g)) := by
  unfold jn_O
  rw [← e, hs_N]
  rfl
theorem hs_R {n m c k a v : Nat} {g : gLg} (h : a < n) (e : pS a = (c, 0)) : jp_R c k (hs n m g) a v = some (hs n m (sL a k v g)) := by
  show (if shp n a = (c, 0) then _ else none) = _
  rw [shp_at h, if_pos e]
  rfl
theorem hs_I {n m c k a x : Nat} {g : gLg} (h : a < n) (e : pS a = (c, 0)) : jp_I c k (hs n m g) a (nI x) = some (hs n m (tL a k x g)) := by
  show (if shp n a = (c, 0) then _ else none) = _
  rw [shp_at h, if_pos e]
  rfl
theorem hs_gR {n m c k a v : Nat} {g : gLg} (h : a < n) (e : pS a = (c, 0)) (er : rG g a k = some v) : jg_R c k (hs n m g) a = some v := by
  show (if shp n a = (c, 0) then rG g a k else none) = _
  rw [shp_at h, if_pos e, er]
theorem hs_gd {α : Type} {n m c a : Nat} {g : gLg} {x : Option α} (h : a < n) (e : pS a = (c, 0)) : j_gd c (hs n m g) a x = x := by
  show (if shp n a = (c, 0) then x else none) = _
  rw [shp_at h, if_pos e]
theorem hs_bI {n m t len a j x : Nat} {g : gLg} (h : a < n) (e : pS a = (t, len)) (hj : j < len) (hl : len < 100000) : jb_I t (hs n m g) a (nI j) (nI x) = some (hs n m (tL a j x g)) := by
  show (if (shp n a).1 = t ∧ j_x (nI j) (shp n a).2 = true then some (js_I (hs n m g) a (nI j).toNatClampNeg (nI x)) else none) = _
  rw [shp_at h, e, if_pos ⟨rfl, jx_nI hj (by omega)⟩, n_cl (by omega)]
  rfl
theorem hs_bR {n m len a j r : Nat} {g : gLg} (h : a < n) (e : pS a = (104, len)) (hj : j < len) (hl : len < 100000) (hr : r < n) (er : pS r = (7, 0)) : jb_R (hs n m g) a (nI j) r = some (hs n m (sL a j r g)) := by
  show (if (shp n a).1 = 104 ∧ j_x (nI j) (shp n a).2 = true ∧ shp n r = (7, 0) then some (js_R (hs n m g) a (nI j).toNatClampNeg (some r)) else none) = _
  rw [shp_at h, shp_at hr, e, if_pos ⟨rfl, jx_nI hj (by omega), er⟩, n_cl (by omega)]
  rfl
/-- a scene -/
def s7 (a : Nat) (g : gLg) : gLg := sL a 5 (a + 4) (aL (a + 4) (sL a 4 (a + 3) (aL (a + 3) (sL a 3 (a + 2) (aL (a + 2) (sL a 2 (a + 1) (aL (a + 1) g)))))))
theorem in7 {a m : Nat} {g : gLg} (h : Sf a) : f_X7_init 5000 a (hs (a + 1) m g) = some (hs (a + 5) (m + 42) (s7 a g)) := by
  obtain ⟨-, ⟨p0, p1, p2, p3, p4⟩, -⟩ := h
  unfold f_X7_init s7
  simp only [lt0]
  rw [hs_A p1 (by omega), b2, hs_R (by omega) p0, ob, hs_A p2 (by omega), b2, hs_R (by omega) p0, ob, hs_A p3 (by omega), b2, hs_R (by omega) p0, ob, hs_A p4 (by omega), b2, hs_R (by omega) p0, ob]
/-- twelve scenes and one -/
def l15 : Nat → Nat → gLg → gLg
  | 0, _, g => g
  | r + 1, i, g => l15 r (i + 1) (sL 25 i (26 + 5 * i) (s7 (26 + 5 * i) (aL (26 + 5 * i) g)))
theorem rG_far {a k : Nat} {g : gLg} {b : Nat} (h : a ≠ b) : rG (aL b g) a k = rG g a k ∧ ∀ j v, rG (sL b j v g) a k = rG g a k := by
  refine ⟨?_, fun j v => ?_⟩
  · show j_row (rG g) b (fun _ => none) a k = _
    unfold j_row
    rw [if_neg h]
  · show j_up (rG g) b j (some v) a k = _
    rw [up_ne h]
theorem s7_far {a k b : Nat} {g : gLg} (h : a < b) : rG (s7 b g) a k = rG g a k := by
  unfold s7
  rw [(rG_far (by omega)).2, (rG_far (by omega)).1, (rG_far (by omega)).2, (rG_far (by omega)).1, (rG_far (by omega)).2, (rG_far (by omega)).1, (rG_far (by omega)).2, (rG_far (by omega)).1]
theorem in15 : ∀ r i N m g, i + r = 13 → r < N → rG g 24 0 = some 25 → f_X4_init_L15 5000 24 N (nI i) (hs (26 + 5 * i) m g) = some (hs 91 (m + 48 * r) (l15 r i g))
  | _, _, 0, _, _, _, h, _ => absurd h (Nat.not_lt_zero _)
  | 0, i, N + 1, m, g, h1, h2, h3 => by
    have : i = 13 := by omega
    subst this
    rw [f_X4_init_L15, if_pos (by decide)]
    rfl
  | r + 1, i, N + 1, m, g, h1, h2, h3 => by
    have sf := Sb_f (b := 26 + 5 * i) (.inr (.inr (.inr ⟨i, by omega, rfl⟩)))
    have ih := in15 r (i + 1) N (m + 6 + 42) (sL 25 i (26 + 5 * i) (s7 (26 + 5 * i) (aL (26 + 5 * i) g))) (by omega) (by omega) (by
      rw [(rG_far (by omega)).2, s7_far (by omega), (rG_far (by omega)).1]
      exact h3)
    rw [f_X4_init_L15, if_neg (by rw [show (12 : Int32) = nI 12 from rfl, nn_lt (by omega) (by omega)]; omega), hs_gR (by omega) rfl h3, ob, hs_O sf.2.1.1, b2, in7 sf, ob, hs_bR (by omega) (len := 13) rfl (by omega) (by omega) (by omega) sf.2.1.1, ob]
    simp only [lt0]
    rw [nI_add, show 26 + 5 * i + 5 = 26 + 5 * (i + 1) by omega, ih]
    congr 2
    omega
/-- a tariff -/
def s8 (a : Nat) (g : gLg) : gLg := tL a 4 3 (tL (a + 2) 2 2043 (tL (a + 2) 1 1 (tL (a + 2) 0 1000 (tL a 4 0 (sL a 3 (a + 4) (aL (a + 4) (sL a 2 (a + 3) (aL (a + 3) (sL a 1 (a + 2) (aL (a + 2) (sL a 0 (a + 1) (aL (a + 1) g))))))))))))
theorem rG_t {a k b j x : Nat} {g : gLg} : rG (tL b j x g) a k = rG g a k := rfl
theorem rG_s {a k v : Nat} {g : gLg} : rG (sL a k v g) a k = some v := by
  show j_up (rG g) a k (some v) a k = _
  exact up_eq
theorem rG_sk {a k j v : Nat} {g : gLg} (h : k ≠ j) : rG (sL a j v g) a k = rG g a k := by
  show j_up (rG g) a j (some v) a k = _
  exact up_nk h
theorem in8 {a m : Nat} {g : gLg} (hA : a = 119 ∨ a = 124) : f_X8_init 5000 a (hs (a + 1) m g) = some (hs (a + 5) (m + 92) (s8 a g)) := by
  have p : pS a = (8, 0) ∧ pS (a + 1) = (100, 5) ∧ pS (a + 2) = (100, 40) ∧ pS (a + 3) = (100, 40) ∧ pS (a + 4) = (100, 7) := by rcases hA with rfl | rfl <;> exact ⟨rfl, rfl, rfl, rfl, rfl⟩
  obtain ⟨p0, p1, p2, p3, p4⟩ := p
  have r1 : rG (tL a 4 0 (sL a 3 (a + 4) (aL (a + 4) (sL a 2 (a + 3) (aL (a + 3) (sL a 1 (a + 2) (aL (a + 2) (sL a 0 (a + 1) (aL (a + 1) g))))))))) a 1 = some (a + 2) := by
    rw [rG_t, rG_sk (by omega), (rG_far (by omega)).1, rG_sk (by omega), (rG_far (by omega)).1, rG_s]
  unfold f_X8_init f_X8_becomeNone s8
  simp only [lt0]
  rw [hs_A p1 (by omega), b2, hs_R (by omega) p0, ob, hs_A p2 (by omega), b2, hs_R (by omega) p0, ob, hs_A p3 (by omega), b2, hs_R (by omega) p0, ob, hs_A p4 (by omega), b2, hs_R (by omega) p0, ob, hs_I (by omega) p0, ob, hs_gd (by omega) p0, hs_gR (by omega) p0 r1, ob, hs_bI (by omega) p2 (by omega) (by omega), ob, hs_gR (by omega) p0 (by rw [rG_t]; exact r1), ob, hs_bI (by omega) p2 (by omega) (by omega), ob, hs_gR (by omega) p0 (by rw [rG_t, rG_t]; exact r1), ob, hs_bI (by omega) p2 (by omega) (by omega), ob, hs_I (by omega) p0, ob, ob]
/-- the others -/
theorem in9 {m : Nat} {g : gLg} : f_X9_init 5000 1 (hs 2 m g) = some (hs 3 (m + 80) (sL 1 0 2 (aL 2 g))) := by
  unfold f_X9_init
  simp only [lt0]
  rw [hs_A (t := 100) (len := 80) rfl (by omega), b2, hs_R (by omega) rfl, ob]
theorem in6 {m : Nat} {g : gLg} : f_X6_init 5000 3 (hs 4 m g) = some (hs 5 (m + 12) (sL 3 0 4 (aL 4 g))) := by
  unfold f_X6_init
  simp only [lt0]
  rw [hs_A (t := 103) (len := 12) rfl (by omega), b2, hs_R (by omega) rfl, ob]
theorem in3 {m : Nat} {g : gLg} : f_X3_init 5000 5 (hs 6 m g) = some (hs 13 (m + 157) (sL 5 7 12 (aL 12 (sL 5 6 11 (aL 11 (sL 5 5 10 (aL 10 (sL 5 4 9 (aL 9 (sL 5 3 8 (aL 8 (sL 5 2 7 (aL 7 (sL 5 1 6 (aL 6 g))))))))))))))) := by
  unfold f_X3_init
  simp only [lt0]
  rw [hs_A (t := 100) (len := 10) rfl (by omega), b2, hs_R (by omega) rfl, ob, hs_A (t := 100) (len := 10) rfl (by omega), b2, hs_R (by omega) rfl, ob, hs_A (t := 100) (len := 10) rfl (by omega), b2, hs_R (by omega) rfl, ob, hs_A (t := 100) (len := 60) rfl (by omega), b2, hs_R (by omega) rfl, ob, hs_A (t := 100) (len := 50) rfl (by omega), b2, hs_R (by omega) rfl, ob, hs_A (t := 100) (len := 10) rfl (by omega), b2, hs_R (by omega) rfl, ob, hs_A (t := 100) (len := 7) rfl (by omega), b2, hs_R (by omega) rfl, ob]
theorem in2 {m : Nat} {g : gLg} : f_X2_init 5000 13 (hs 14 m g) = some (hs 19 (m + 40) (sL 13 5 18 (aL 18 (sL 13 4 17 (aL 17 (sL 13 3 16 (aL 16 (sL 13 2 15 (aL 15 (sL 13 1 14 (aL 14 g))))))))))) := by
  unfold f_X2_init
  simp only [lt0]
  rw [hs_A (t := 100) (len := 8) rfl (by omega), b2, hs_R (by omega) rfl, ob, hs_A (t := 100) (len := 8) rfl (by omega), b2, hs_R (by omega) rfl, ob, hs_A (t := 100) (len := 8) rfl (by omega), b2, hs_R (by omega) rfl, ob, hs_A (t := 100) (len := 8) rfl (by omega), b2, hs_R (by omega) rfl, ob, hs_A (t := 100) (len := 8) rfl (by omega), b2, hs_R (by omega) rfl, ob]
theorem in4 {m : Nat} {g : gLg} : f_X4_init 5000 24 (hs 25 m g) = some (hs 91 (m + 637) (l15 13 0 (sL 24 0 25 (aL 25 g)))) := by
  unfold f_X4_init
  simp only [lt0]
  rw [hs_A (t := 104) (len := 13) rfl (by omega), b2, hs_R (by omega) rfl, ob]
  exact in15 13 0 5000 (m + 13) _ (by omega) (by omega) rG_s
theorem in0 {m : Nat} {g : gLg} : f_X0_init 5000 103 (hs 104 m g) = some (hs 108 (m + 29) (sL 103 3 107 (aL 107 (sL 103 2 106 (aL 106 (sL 103 1 105 (aL 105 (sL 103 0 104 (aL 104 g))))))))) := by
  unfold f_X0_init
  simp only [lt0]
  rw [hs_A (t := 100) (len := 6) rfl (by omega), b2, hs_R (by omega) rfl, ob, hs_A (t := 100) (len := 6) rfl (by omega), b2, hs_R (by omega) rfl, ob, hs_A (t := 100) (len := 7) rfl (by omega), b2, hs_R (by omega) rfl, ob, hs_A (t := 100) (len := 10) rfl (by omega), b2, hs_R (by omega) rfl, ob]
theorem in5 {m : Nat} {g : gLg} : f_X5_init 5000 108 (hs 109 m g) = some (hs 114 (m + 3109) (sL 108 6 113 (aL 113 (sL 108 5 112 (aL 112 (sL 108 4 111 (aL 111 (sL 108 1 110 (aL 110 (sL 108 0 109 (aL 109 g))))))))))) := by
  unfold f_X5_init
  simp only [lt0]
  rw [hs_A (t := 100) (len := 12) rfl (by omega), b2, hs_R (by omega) rfl, ob, hs_A (t := 100) (len := 12) rfl (by omega), b2, hs_R (by omega) rfl, ob, hs_A (t := 100) (len := 13) rfl (by omega), b2, hs_R (by omega) rfl, ob, hs_A (t := 100) (len := 1536) rfl (by omega), b2, hs_R (by omega) rfl, ob, hs_A (t := 100) (len := 1536) rfl (by omega), b2, hs_R (by omega) rfl, ob]
