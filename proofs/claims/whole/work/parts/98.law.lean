/-- no cell yet -/
def jh0 : jH := ((0, 0), fun _ => (999, 0), fun _ _ => 0, fun _ _ => 0, fun _ _ => none)
/-- turns enough for every loop -/
def jFU : Nat := 5000
theorem law_true (L : Nat) (xs : Nat → Int32) (hL : L ≤ 2560) : ∃ hf, f_L_law jFU L xs jh0 = some (1, hf) ∧ jh_n hf ≤ 601024 ∧ jh_s hf ≤ 7293034 := by
  sorry
