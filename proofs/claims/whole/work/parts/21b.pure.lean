theorem lt0 : ((0 : Int32) = nI 0) ∧ ((1 : Int32) = nI 1) ∧ ((2 : Int32) = nI 2) ∧ ((3 : Int32) = nI 3) ∧ ((4 : Int32) = nI 4) ∧ ((5 : Int32) = nI 5) ∧ ((6 : Int32) = nI 6) ∧ ((7 : Int32) = nI 7) ∧ ((8 : Int32) = nI 8) ∧ ((9 : Int32) = nI 9) ∧ ((10 : Int32) = nI 10) ∧ ((11 : Int32) = nI 11) ∧ ((12 : Int32) = nI 12) ∧ ((13 : Int32) = nI 13) ∧ ((14 : Int32) = nI 14) ∧ ((15 : Int32) = nI 15) ∧ ((16 : Int32) = nI 16) ∧ ((17 : Int32) = nI 17) ∧ ((18 : Int32) = nI 18) ∧ ((19 : Int32) = nI 19) ∧ ((20 : Int32) = nI 20) ∧ ((21 : Int32) = nI 21) ∧ ((22 : Int32) = nI 22) ∧ ((23 : Int32) = nI 23) ∧ ((24 : Int32) = nI 24) ∧ ((25 : Int32) = nI 25) ∧ ((26 : Int32) = nI 26) ∧ ((27 : Int32) = nI 27) ∧ ((28 : Int32) = nI 28) ∧ ((29 : Int32) = nI 29) ∧ ((30 : Int32) = nI 30) ∧ ((31 : Int32) = nI 31) ∧ ((32 : Int32) = nI 32) ∧ ((33 : Int32) = nI 33) ∧ ((34 : Int32) = nI 34) ∧ ((35 : Int32) = nI 35) ∧ ((36 : Int32) = nI 36) ∧ ((37 : Int32) = nI 37) ∧ ((38 : Int32) = nI 38) ∧ ((39 : Int32) = nI 39) ∧ ((40 : Int32) = nI 40) ∧ ((41 : Int32) = nI 41) ∧ ((42 : Int32) = nI 42) ∧ ((43 : Int32) = nI 43) ∧ ((44 : Int32) = nI 44) ∧ ((45 : Int32) = nI 45) ∧ ((46 : Int32) = nI 46) ∧ ((47 : Int32) = nI 47) ∧ ((48 : Int32) = nI 48) ∧ ((49 : Int32) = nI 49) ∧ ((50 : Int32) = nI 50) ∧ ((51 : Int32) = nI 51) ∧ ((52 : Int32) = nI 52) ∧ ((53 : Int32) = nI 53) ∧ ((54 : Int32) = nI 54) ∧ ((55 : Int32) = nI 55) ∧ ((56 : Int32) = nI 56) ∧ ((57 : Int32) = nI 57) ∧ ((58 : Int32) = nI 58) ∧ ((59 : Int32) = nI 59) ∧ ((60 : Int32) = nI 60) ∧ ((61 : Int32) = nI 61) ∧ ((62 : Int32) = nI 62) ∧ ((63 : Int32) = nI 63) ∧ ((76 : Int32) = nI 76) ∧ ((80 : Int32) = nI 80) ∧ ((88 : Int32) = nI 88) ∧ ((97 : Int32) = nI 97) ∧ ((99 : Int32) = nI 99) ∧ ((100 : Int32) = nI 100) ∧ ((101 : Int32) = nI 101) ∧ ((102 : Int32) = nI 102) ∧ ((103 : Int32) = nI 103) ∧ ((104 : Int32) = nI 104) ∧ ((105 : Int32) = nI 105) ∧ ((106 : Int32) = nI 106) ∧ ((107 : Int32) = nI 107) ∧ ((108 : Int32) = nI 108) ∧ ((109 : Int32) = nI 109) ∧ ((110 : Int32) = nI 110) ∧ ((111 : Int32) = nI 111) ∧ ((112 : Int32) = nI 112) ∧ ((113 : Int32) = nI 113) ∧ ((114 : Int32) = nI 114) ∧ ((115 : Int32) = nI 115) ∧ ((116 : Int32) = nI 116) ∧ ((117 : Int32) = nI 117) ∧ ((118 : Int32) = nI 118) ∧ ((119 : Int32) = nI 119) ∧ ((120 : Int32) = nI 120) ∧ ((200 : Int32) = nI 200) ∧ ((240 : Int32) = nI 240) ∧ ((255 : Int32) = nI 255) ∧ ((256 : Int32) = nI 256) ∧ ((484 : Int32) = nI 484) ∧ ((528 : Int32) = nI 528) ∧ ((1000 : Int32) = nI 1000) ∧ ((1536 : Int32) = nI 1536) ∧ ((2000 : Int32) = nI 2000) ∧ ((2043 : Int32) = nI 2043) ∧ ((9999 : Int32) = nI 9999) ∧ ((10000 : Int32) = nI 10000) ∧ ((12345 : Int32) = nI 12345) ∧ ((1000000 : Int32) = nI 1000000) ∧ ((100000000 : Int32) = nI 100000000) ∧ ((1103515245 : Int32) = nI 1103515245) :=
  ⟨rfl, rfl, rfl, rfl, rfl, rfl, rfl, rfl, rfl, rfl, rfl, rfl, rfl, rfl, rfl, rfl, rfl, rfl, rfl, rfl, rfl, rfl, rfl, rfl, rfl, rfl, rfl, rfl, rfl, rfl, rfl, rfl, rfl, rfl, rfl, rfl, rfl, rfl, rfl, rfl, rfl, rfl, rfl, rfl, rfl, rfl, rfl, rfl, rfl, rfl, rfl, rfl, rfl, rfl, rfl, rfl, rfl, rfl, rfl, rfl, rfl, rfl, rfl, rfl, rfl, rfl, rfl, rfl, rfl, rfl, rfl, rfl, rfl, rfl, rfl, rfl, rfl, rfl, rfl, rfl, rfl, rfl, rfl, rfl, rfl, rfl, rfl, rfl, rfl, rfl, rfl, rfl, rfl, rfl, rfl, rfl, rfl, rfl, rfl, rfl, rfl, rfl, rfl, rfl, rfl, rfl⟩

theorem ng_ti {a : Nat} (h : a < 2147483648) : (-nI a).toInt = -(a : Int) := by
  rw [Int32.toInt_neg, n_ti h]
  exact Int.bmod_eq_of_le (by omega) (by omega)
theorem gn_lt {a b : Nat} (h1 : 1 ≤ a) (ha : a < 2147483648) (hb : b < 2147483648) : (-nI a < nI b) = True := by
  have : -nI a < nI b := by
    rw [Int32.lt_iff_toInt_lt, ng_ti ha, n_ti hb]
    omega
  simp only [this]
theorem gn_le {a b : Nat} (h1 : 1 ≤ a) (ha : a < 2147483648) (hb : b < 2147483648) : (-nI a ≤ nI b) = True := by
  have : -nI a ≤ nI b := by
    rw [Int32.le_iff_toInt_le, ng_ti ha, n_ti hb]
    omega
  simp only [this]
theorem ng_lt {a b : Nat} (h1 : 1 ≤ a) (ha : a < 2147483648) (hb : b < 2147483648) : (nI b < -nI a) = False := by
  have : ¬ nI b < -nI a := by
    rw [Int32.lt_iff_toInt_lt, ng_ti ha, n_ti hb]
    omega
  simp only [this]
theorem ng_le {a b : Nat} (h1 : 1 ≤ a) (ha : a < 2147483648) (hb : b < 2147483648) : (nI b ≤ -nI a) = False := by
  have : ¬ nI b ≤ -nI a := by
    rw [Int32.le_iff_toInt_le, ng_ti ha, n_ti hb]
    omega
  simp only [this]
theorem ng_eq {a b : Nat} (h1 : 1 ≤ a) (ha : a < 2147483648) (hb : b < 2147483648) : (nI b = -nI a) = False := by
  have : ¬ nI b = -nI a := by
    rw [← Int32.toInt_inj, ng_ti ha, n_ti hb]
    omega
  simp only [this]
theorem gn_eq {a b : Nat} (h1 : 1 ≤ a) (ha : a < 2147483648) (hb : b < 2147483648) : (-nI a = nI b) = False := by
  have : ¬ -nI a = nI b := by
    rw [← Int32.toInt_inj, ng_ti ha, n_ti hb]
    omega
  simp only [this]
theorem gg_eq {a b : Nat} (ha : a < 2147483648) (hb : b < 2147483648) : (-nI a = -nI b) = (a = b) := by
  refine propext ⟨fun h => ?_, fun h => by rw [h]⟩
  rw [← Int32.toInt_inj, ng_ti ha, ng_ti hb] at h
  omega
theorem gs_ {a b : Nat} : -nI a - nI b = -nI (a + b) := by
  rw [← nI_add]
  apply Int32.toBitVec_inj.1
  show -(nI a).toBitVec - (nI b).toBitVec = -((nI a).toBitVec + (nI b).toBitVec)
  bv_omega
theorem c_lt0 {x : Int32} : ¬ x < nI 0 → ∃ j : Nat, j < 2147483648 ∧ x = nI j := nI_of
/-- where an argument lies -/
theorem ixc (x : Int32) (n : Nat) (hn : n < 2147483648) : x < nI 0 ∨ (¬ x < nI 0 ∧ nI n ≤ x) ∨ ∃ j : Nat, j < n ∧ x = nI j := by
  by_cases h : x < nI 0
  · exact .inl h
  · obtain ⟨j, hj, rfl⟩ := c_lt0 h
    by_cases h2 : j < n
    · exact .inr (.inr ⟨j, h2, rfl⟩)
    · exact .inr (.inl ⟨h, by rw [nn_le hn hj]; omega⟩)
theorem i_nlt {x y : Int32} (h : y ≤ x) : (x < y) = False := by
  have : ¬ x < y := by
    rw [Int32.lt_iff_toInt_lt]
    rw [Int32.le_iff_toInt_le] at h
    omega
  simp only [this]
theorem i_nle {x y : Int32} (h : x < y) : (y ≤ x) = False := by
  have : ¬ y ≤ x := by
    rw [Int32.le_iff_toInt_le]
    rw [Int32.lt_iff_toInt_lt] at h
    omega
  simp only [this]
theorem i_nge {x y : Int32} (h : ¬ y ≤ x) : x < y := by
  rw [Int32.lt_iff_toInt_lt]
  rw [Int32.le_iff_toInt_le] at h
  omega
theorem i_ngt {x y : Int32} (h : ¬ x < y) : y ≤ x := by
  rw [Int32.le_iff_toInt_le]
  rw [Int32.lt_iff_toInt_lt] at h
  omega
