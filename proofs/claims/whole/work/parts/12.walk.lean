set_option maxRecDepth 100000 in
set_option maxHeartbeats 4000000 in
theorem c_X4_backToMark (l : Launch) (d : Nat) (F : Nat) (a0 : Nat) (a1 : Nat) (h : jH) (hf : jH) (H : f_X4_backToMark F a0 a1 h = some hf) : jh_sh h a0 = (4, 0) ∧ jMet l (d + 2) yX4_backToMark cX4_backToMark 2 none [.ref a0, .ref a1] h none hf := by
  unfold f_X4_backToMark at H
  obtain ⟨hsh, H⟩ := j_gd_some H
  refine ⟨hsh, ?_⟩
  refine jMet.of false [some (.ref a0), some (.ref a1)] rfl (by decide) (by decide) (Nat.le_of_ble_eq_true rfl) (fun S0 q hq => by simpa [j_l, lv_args, j_v, Value.category] using hq) ?_
  refine jr_aload_n dX4_backToMark_0 rfl rfl ?_
  refine jr_aload_n dX4_backToMark_1 rfl rfl ?_
  refine jr_getR fl_RX4_11 dX4_backToMark_2 H (fun v1 H => ?_)
  refine jr_aload_n dX4_backToMark_5 rfl rfl ?_
  refine jr_aload_n dX4_backToMark_6 rfl rfl ?_
  refine jr_getI fl_RX4_20 (by decide) dX4_backToMark_7 H (fun v2 H => ?_)
  obtain ⟨v4, h3, Hc, H⟩ := j_b2_some H
  refine jr_callV (ci := 4) [.int v2] my_X4_slot mv_X4_slot ml_RX4_23 dX4_backToMark_10 rfl rfl (Nat.le_of_ble_eq_true rfl) rfl (c_X4_slot l (d + 1) F a0 v2 h v4 h3 Hc) ?_
  refine jr_aald dX4_backToMark_13 H (fun v5 H => ?_)
  obtain ⟨h6, Hc, H⟩ := Option.bind_eq_some_iff.mp H
  refine jr_callV (ci := 7) [.ref v5] my_X7_copy mv_X7_copy ml_RX4_27 dX4_backToMark_14 rfl rfl (Nat.le_of_ble_eq_true rfl) rfl (c_X7_copy l d F a1 v5 h3 h6 Hc) ?_
  exact jr_vret rfl dX4_backToMark_17 H
set_option maxRecDepth 100000 in
set_option maxHeartbeats 4000000 in
theorem c_X4_takeBack (l : Launch) (d : Nat) (F : Nat) (a0 : Nat) (a1 : Nat) (h : jH) (rR : Int32) (hf : jH) (H : f_X4_takeBack F a0 a1 h = some (rR, hf)) : jh_sh h a0 = (4, 0) ∧ jMet l (d + 3) yX4_takeBack cX4_takeBack 2 (some .boolean) [.ref a0, .ref a1] h (some (.int rR)) hf := by
  unfold f_X4_takeBack at H
  obtain ⟨hsh, H⟩ := j_gd_some H
  refine ⟨hsh, ?_⟩
  refine jMet.of false [some (.ref a0), some (.ref a1)] rfl (by decide) (by decide) (Nat.le_of_ble_eq_true rfl) (fun S0 q hq => by simpa [j_l, lv_args, j_v, Value.category] using hq) ?_
  refine jr_aload_n dX4_takeBack_0 rfl rfl ?_
  refine jr_getI fl_RX4_20 (by decide) dX4_takeBack_1 H (fun v1 H => ?_)
  refine jr_if_gt (tgt := 9) dX4_takeBack_4 (by decide) H (fun H => ?_) (fun H => ?_)
  · refine jr_aload_n dX4_takeBack_9 rfl rfl ?_
    refine jr_dup dX4_takeBack_10 rfl ?_
    refine jr_getI fl_RX4_20 (by decide) dX4_takeBack_11 H (fun v2 H => ?_)
    refine jr_iconst (v := 1) dX4_takeBack_14 (by decide) ?_
    refine jr_isub dX4_takeBack_15 ?_
    refine jr_putI fl_RX4_20 (fun z => by cases z) dX4_takeBack_16 H (fun h3 H => ?_)
    refine jr_aload_n dX4_takeBack_19 rfl rfl ?_
    refine jr_aload_n dX4_takeBack_20 rfl rfl ?_
    obtain ⟨h4, Hc, H⟩ := Option.bind_eq_some_iff.mp H
    refine jr_callV (ci := 4) [.ref a1] my_X4_backToMark mv_X4_backToMark ml_RX4_31 dX4_takeBack_21 rfl rfl (Nat.le_of_ble_eq_true rfl) rfl (c_X4_backToMark l d F a0 a1 h3 h4 Hc) ?_
    refine jr_iconst (v := 1) dX4_takeBack_24 (by decide) ?_
    exact jr_zret rfl rfl dX4_takeBack_25 H
  · refine jr_iconst (v := 0) dX4_takeBack_7 (by decide) ?_
    exact jr_zret rfl rfl dX4_takeBack_8 H
set_option maxRecDepth 100000 in
set_option maxHeartbeats 4000000 in
theorem c_X10_undo (l : Launch) (d : Nat) (F : Nat) (a0 : Nat) (h : jH) (rR : Int32) (hf : jH) (H : f_X10_undo F a0 h = some (rR, hf)) : jh_sh h a0 = (10, 0) ∧ jMet l (d + 4) yX10_undo cX10_undo 1 (some .int) [.ref a0] h (some (.int rR)) hf := by
  unfold f_X10_undo at H
  obtain ⟨hsh, H⟩ := j_gd_some H
  refine ⟨hsh, ?_⟩
  refine jMet.of false [some (.ref a0)] rfl (by decide) (by decide) (Nat.le_of_ble_eq_true rfl) (fun S0 q hq => by simpa [j_l, lv_args, j_v, Value.category] using hq) ?_
  refine jr_aload_n dX10_undo_0 rfl rfl ?_
  refine jr_getR fl_RX10_47 dX10_undo_1 H (fun v1 H => ?_)
  refine jr_aload_n dX10_undo_4 rfl rfl ?_
  refine jr_getR fl_RX10_40 dX10_undo_5 H (fun v2 H => ?_)
  obtain ⟨v4, h3, Hc, H⟩ := j_b2_some H
  refine jr_callV (ci := 4) [.ref v2] my_X4_takeBack mv_X4_takeBack ml_RX10_245 dX10_undo_8 rfl rfl (Nat.le_of_ble_eq_true rfl) rfl (c_X4_takeBack l d F v1 v2 h v4 h3 Hc) ?_
  refine jr_if_eq (tgt := 24) dX10_undo_11 (by decide) H (fun H => ?_) (fun H => ?_)
  · refine jr_iconst (v := (-1)) dX10_undo_24 (by decide) ?_
    exact jr_iret rfl dX10_undo_25 H
  · refine jr_aload_n dX10_undo_14 rfl rfl ?_
    refine jr_getR fl_RX10_47 dX10_undo_15 H (fun v5 H => ?_)
    refine jr_getI fl_RX10_249 (by decide) dX10_undo_18 H (fun v6 H => ?_)
    refine jr_goto (tgt := 25) dX10_undo_21 (by decide) ?_
    exact jr_iret rfl dX10_undo_25 H
set_option maxRecDepth 100000 in
set_option maxHeartbeats 4000000 in
theorem c_X10_isMeaning (l : Launch) (d : Nat) (F : Nat) (a0 : Int32) (h : jH) (rR : Int32) (hf : jH) (H : f_X10_isMeaning F a0 h = some (rR, hf)) : jMet l (d + 0) yX10_isMeaning cX10_isMeaning 1 (some .boolean) [.int a0] h (some (.int rR)) hf := by
  unfold f_X10_isMeaning at H
  refine jMet.of false [some (.int a0)] rfl (by decide) (by decide) (Nat.le_of_ble_eq_true rfl) (fun S0 q hq => by simpa [j_l, lv_args, j_v, Value.category] using hq) ?_
  refine jr_iload_n dX10_isMeaning_0 rfl rfl ?_
  refine jr_if_lt (tgt := 14) dX10_isMeaning_1 (by decide) H (fun H => ?_) (fun H => ?_)
  · refine jr_iconst (v := 0) dX10_isMeaning_14 (by decide) ?_
    exact jr_zret rfl rfl dX10_isMeaning_15 H
  · refine jr_iload_n dX10_isMeaning_4 rfl rfl ?_
    refine jr_bipush (v := 10) dX10_isMeaning_5 (by decide) ?_
    refine jr_icmp_ge (tgt := 14) dX10_isMeaning_7 (by decide) H (fun H => ?_) (fun H => ?_)
    · refine jr_iconst (v := 0) dX10_isMeaning_14 (by decide) ?_
      exact jr_zret rfl rfl dX10_isMeaning_15 H
    · refine jr_iconst (v := 1) dX10_isMeaning_10 (by decide) ?_
      refine jr_goto (tgt := 15) dX10_isMeaning_11 (by decide) ?_
      exact jr_zret rfl rfl dX10_isMeaning_15 H
set_option maxRecDepth 100000 in
set_option maxHeartbeats 4000000 in
theorem s_X3_meaningCount_L4 (l : Launch) (d : Nat) (F : Nat) (x0 : Nat) (x1 : Int32) {rR : Int32} {hf : jH} : ∀ (n : Nat) (x2 : Int32) (x3 : Int32) (h : jH), f_X3_meaningCount_L4 F x0 x1 n x2 x3 h = some (rR, hf) → jGo l (d + 1) none RX3 cX3_meaningCount 4 (some .int) false 4 [some (.ref x0), some (.int x1), some (.int x2), some (.int x3)] [] h (some (.int rR)) hf := by
  intro n
  induction n with
  | zero =>
    intro x2 x3 h H
    cases H
  | succ n ih =>
    intro x2 x3 h H
    unfold f_X3_meaningCount_L4 at H
    refine jr_iload_n dX3_meaningCount_4 rfl rfl ?_
    refine jr_aload_n dX3_meaningCount_5 rfl rfl ?_
    refine jr_getI fl_RX3_58 (by decide) dX3_meaningCount_6 H (fun v1 H => ?_)
    refine jr_icmp_ge (tgt := 30) dX3_meaningCount_9 (by decide) H (fun H => ?_) (fun H => ?_)
    · refine jr_iload_n dX3_meaningCount_30 rfl rfl ?_
      exact jr_iret rfl dX3_meaningCount_31 H
    · refine jr_aload_n dX3_meaningCount_12 rfl rfl ?_
      refine jr_iload_n dX3_meaningCount_13 rfl rfl ?_
      refine jr_iload_n dX3_meaningCount_14 rfl rfl ?_
      obtain ⟨v3, h2, Hc, H⟩ := j_b2_some H
      refine jr_callV (ci := 3) [.int x3, .int x1] my_X3_means mv_X3_means ml_RX3_50 dX3_meaningCount_15 rfl rfl (Nat.le_of_ble_eq_true rfl) rfl (c_X3_means l d F x0 x3 x1 h v3 h2 Hc) ?_
      refine jr_jn (fun J => ∀ (z4 : Int32) (h5 : jH), J z4 h5 = some (rR, hf) → jGo l (d + 1) none RX3 cX3_meaningCount 4 (some .int) false 24 [some (.ref x0), some (.int x1), some (.int z4), some (.int x3)] [] h5 (some (.int rR)) hf) H (fun z4 h5 H => ?_) (fun J24 hJ24 H => ?_)
      · refine jr_iinc (v := (x3 + 1)) dX3_meaningCount_24 rfl rfl (by decide) rfl (Or.inl rfl) ?_
        refine jr_goto (tgt := 4) dX3_meaningCount_27 (by decide) ?_
        exact ih _ _ _ H
      · refine jr_if_eq (tgt := 24) dX3_meaningCount_18 (by decide) H (fun H => ?_) (fun H => ?_)
        · exact hJ24 _ _ H
        · refine jr_iinc (v := (x2 + 1)) dX3_meaningCount_21 rfl rfl (by decide) rfl (Or.inl rfl) ?_
          exact hJ24 _ _ H
set_option maxRecDepth 100000 in
set_option maxHeartbeats 4000000 in
theorem c_X3_meaningCount (l : Launch) (d : Nat) (F : Nat) (a0 : Nat) (a1 : Int32) (h : jH) (rR : Int32) (hf : jH) (H : f_X3_meaningCount F a0 a1 h = some (rR, hf)) : jh_sh h a0 = (3, 0) ∧ jMet l (d + 1) yX3_meaningCount cX3_meaningCount 4 (some .int) [.ref a0, .int a1] h (some (.int rR)) hf := by
  unfold f_X3_meaningCount at H
  obtain ⟨hsh, H⟩ := j_gd_some H
  refine ⟨hsh, ?_⟩
  refine jMet.of false [some (.ref a0), some (.int a1), none, none] rfl (by decide) (by decide) (Nat.le_of_ble_eq_true rfl) (fun S0 q hq => by simpa [j_l, lv_args, j_v, Value.category] using hq) ?_
  refine jr_iconst (v := 0) dX3_meaningCount_0 (by decide) ?_
  refine jr_istore_n dX3_meaningCount_1 rfl (by decide) rfl (Or.inl rfl) ?_
  refine jr_iconst (v := 0) dX3_meaningCount_2 (by decide) ?_
  refine jr_istore_n dX3_meaningCount_3 rfl (by decide) rfl (Or.inl rfl) ?_
  exact s_X3_meaningCount_L4 l d F a0 a1 F 0 0 h H
set_option maxRecDepth 100000 in
set_option maxHeartbeats 4000000 in
theorem c_X10_cheapest (l : Launch) (d : Nat) (F : Nat) (a0 : Nat) (a1 : Int32) (a2 : Int32) (h : jH) (rR : Int32) (hf : jH) (H : f_X10_cheapest F a0 a1 a2 h = some (rR, hf)) : jh_sh h a0 = (10, 0) ∧ jMet l (d + 4) yX10_cheapest cX10_cheapest 4 (some .int) [.ref a0, .int a1, .int a2] h (some (.int rR)) hf := by
  unfold f_X10_cheapest at H
  obtain ⟨hsh, H⟩ := j_gd_some H
  refine ⟨hsh, ?_⟩
  refine jMet.of false [some (.ref a0), some (.int a1), some (.int a2), none] rfl (by decide) (by decide) (Nat.le_of_ble_eq_true rfl) (fun S0 q hq => by simpa [j_l, lv_args, j_v, Value.category] using hq) ?_
  refine jr_iload_n dX10_cheapest_0 rfl rfl ?_
  obtain ⟨v2, h1, Hc, H⟩ := j_b2_some H
  refine jr_callS [.int a1] my_X10_isMeaning ms_X10_isMeaning ml_RX10_250 dX10_cheapest_1 rfl rfl (Nat.le_of_ble_eq_true rfl) (c_X10_isMeaning l (d + 3) F a1 h v2 h1 Hc) ?_
  refine jr_if_eq (tgt := 15) dX10_cheapest_4 (by decide) H (fun H => ?_) (fun H => ?_)
  · refine jr_iconst (v := (-1)) dX10_cheapest_15 (by decide) ?_
    exact jr_iret rfl dX10_cheapest_16 H
  · refine jr_aload_n dX10_cheapest_7 rfl rfl ?_
    refine jr_iload_n dX10_cheapest_8 rfl rfl ?_
    obtain ⟨v4, h3, Hc, H⟩ := j_b2_some H
    refine jr_callV (ci := 10) [.int a2] my_X10_isStation mv_X10_isStation ml_RX10_191 dX10_cheapest_9 rfl rfl (Nat.le_of_ble_eq_true rfl) rfl (c_X10_isStation l (d + 3) F a0 a2 h1 v4 h3 Hc) ?_
    refine jr_if_ne (tgt := 17) dX10_cheapest_12 (by decide) H (fun H => ?_) (fun H => ?_)
    · refine jr_iconst (v := (-1)) dX10_cheapest_15 (by decide) ?_
      exact jr_iret rfl dX10_cheapest_16 H
    · refine jr_aload_n dX10_cheapest_17 rfl rfl ?_
      refine jr_aload_n dX10_cheapest_18 rfl rfl ?_
      refine jr_getR fl_RX10_92 dX10_cheapest_19 H (fun v5 H => ?_)
      refine jr_iload_n dX10_cheapest_22 rfl rfl ?_
      refine jr_aload_n dX10_cheapest_23 rfl rfl ?_
      refine jr_getR fl_RX10_77 dX10_cheapest_24 H (fun v6 H => ?_)
      obtain ⟨h7, Hc, H⟩ := Option.bind_eq_some_iff.mp H
      refine jr_callV (ci := 10) [.ref v5, .int a2, .ref v6] my_X10_priceAll mv_X10_priceAll ml_RX10_253 dX10_cheapest_27 rfl rfl (Nat.le_of_ble_eq_true rfl) rfl (c_X10_priceAll l d F a0 v5 a2 v6 h3 h7 Hc) ?_
      refine jr_aload_n dX10_cheapest_30 rfl rfl ?_
      refine jr_iload_n dX10_cheapest_31 rfl rfl ?_
      refine jr_iconst (v := 0) dX10_cheapest_32 (by decide) ?_
      obtain ⟨v9, h8, Hc, H⟩ := j_b2_some H
      refine jr_callV (ci := 10) [.int a1, .int 0] my_X10_cheapestFor mv_X10_cheapestFor ml_RX10_257 dX10_cheapest_33 rfl rfl (Nat.le_of_ble_eq_true rfl) rfl (c_X10_cheapestFor l (d + 2) F a0 a1 0 h7 v9 h8 Hc) ?_
      refine jr_istore_n dX10_cheapest_36 rfl (by decide) rfl (Or.inl rfl) ?_
      refine jr_iload_n dX10_cheapest_37 rfl rfl ?_
      refine jr_iconst (v := (-1)) dX10_cheapest_38 (by decide) ?_
      refine jr_icmp_ne (tgt := 45) dX10_cheapest_39 (by decide) H (fun H => ?_) (fun H => ?_)
      · refine jr_bipush (v := (-2)) dX10_cheapest_42 (by decide) ?_
        exact jr_iret rfl dX10_cheapest_44 H
      · refine jr_aload_n dX10_cheapest_45 rfl rfl ?_
        refine jr_getR fl_RX10_19 dX10_cheapest_46 H (fun v10 H => ?_)
        refine jr_aload_n dX10_cheapest_49 rfl rfl ?_
        refine jr_getR fl_RX10_77 dX10_cheapest_50 H (fun v11 H => ?_)
        refine jr_iload_n dX10_cheapest_53 rfl rfl ?_
        refine jr_iald dX10_cheapest_54 H (fun v12 H => ?_)
        refine jr_i2l dX10_cheapest_55 ?_
        refine jr_aload_n dX10_cheapest_56 rfl rfl ?_
        refine jr_getR fl_RX10_26 dX10_cheapest_57 H (fun v13 H => ?_)
        refine jr_iload_n dX10_cheapest_60 rfl rfl ?_
        obtain ⟨v15, h14, Hc, H⟩ := j_b2_some H
        refine jr_callV (ci := 3) [.int a1] my_X3_meaningCount mv_X3_meaningCount ml_RX10_260 dX10_cheapest_61 rfl rfl (Nat.le_of_ble_eq_true rfl) rfl (c_X3_meaningCount l (d + 2) F v13 a1 h8 v15 h14 Hc) ?_
        refine jr_i2l dX10_cheapest_64 ?_
        obtain ⟨h16, Hc, H⟩ := Option.bind_eq_some_iff.mp H
        refine jr_callV (ci := 6) [.long (v12.toInt64), .long (v15.toInt64)] my_X6_tell_ mv_X6_tell_ ml_RX10_242 dX10_cheapest_65 rfl rfl (Nat.le_of_ble_eq_true rfl) rfl (c_X6_tell_ l (d + 2) F v10 (v12.toInt64) (v15.toInt64) h14 h16 Hc) ?_
        refine jr_iload_n dX10_cheapest_68 rfl rfl ?_
        exact jr_iret rfl dX10_cheapest_69 H
set_option maxRecDepth 100000 in
set_option maxHeartbeats 4000000 in
theorem s_X10_readDigits_L2 (l : Launch) (d : Nat) (F : Nat) (x0 : Nat) (x1 : Int32) (x2 : Int32) (k27 : Int32 → jH → Option (Int32 × jH)) {rR : Int32} {hf : jH} (hk27 : ∀ (y3 : Int32) (h : jH), k27 y3 h = some (rR, hf) → jGo l (d + 1) none RX10 cX10_readDigits 4 (some .int) false 27 [some (.ref x0), some (.int x1), none, some (.int y3)] [] h (some (.int rR)) hf) : ∀ (n : Nat) (x3 : Int32) (h : jH), f_X10_readDigits_L2 F x0 x1 x2 k27 n x3 h = some (rR, hf) → jGo l (d + 1) none RX10 cX10_readDigits 4 (some .int) false 2 [some (.ref x0), some (.int x1), some (.int x2), some (.int x3)] [] h (some (.int rR)) hf := by
  intro n
  induction n with
  | zero =>
    intro x3 h H
    cases H
  | succ n ih =>
    intro x3 h H
    unfold f_X10_readDigits_L2 at H
    refine jr_iload_n dX10_readDigits_2 rfl rfl ?_
    refine jr_iload_n dX10_readDigits_3 rfl rfl ?_
    refine jr_icmp_ge (tgt := 27) dX10_readDigits_4 (by decide) H (fun H => ?_) (fun H => ?_)
    · refine jr_fgt 2 ?_
      exact hk27 _ _ H
    · refine jr_aload_n dX10_readDigits_7 rfl rfl ?_
      refine jr_getR fl_RX10_10 dX10_readDigits_8 H (fun v1 H => ?_)
      refine jr_bipush (v := 48) dX10_readDigits_11 (by decide) ?_
      refine jr_bipush (v := 10) dX10_readDigits_13 (by decide) ?_
      obtain ⟨v3, h2, Hc, H⟩ := j_b2_some H
      refine jr_callV (ci := 9) [.int 48, .int 10] my_X9_takeFrom mv_X9_takeFrom ml_RX10_412 dX10_readDigits_15 rfl rfl (Nat.le_of_ble_eq_true rfl) rfl (c_X9_takeFrom l d F v1 48 10 h v3 h2 Hc) ?_
      refine jr_if_lt (tgt := 27) dX10_readDigits_18 (by decide) H (fun H => ?_) (fun H => ?_)
      · refine jr_fgt 2 ?_
        exact hk27 _ _ H
      · refine jr_iinc (v := (x3 + 1)) dX10_readDigits_21 rfl rfl (by decide) rfl (Or.inl rfl) ?_
        refine jr_goto (tgt := 2) dX10_readDigits_24 (by decide) ?_
        exact ih _ _ H
set_option maxRecDepth 100000 in
set_option maxHeartbeats 4000000 in
theorem c_X10_readDigits (l : Launch) (d : Nat) (F : Nat) (a0 : Nat) (a1 : Int32) (a2 : Int32) (h : jH) (rR : Int32) (hf : jH) (H : f_X10_readDigits F a0 a1 a2 h = some (rR, hf)) : jh_sh h a0 = (10, 0) ∧ jMet l (d + 1) yX10_readDigits cX10_readDigits 4 (some .int) [.ref a0, .int a1, .int a2] h (some (.int rR)) hf := by
  unfold f_X10_readDigits at H
  obtain ⟨hsh, H⟩ := j_gd_some H
  refine ⟨hsh, ?_⟩
  refine jMet.of false [some (.ref a0), some (.int a1), some (.int a2), none] rfl (by decide) (by decide) (Nat.le_of_ble_eq_true rfl) (fun S0 q hq => by simpa [j_l, lv_args, j_v, Value.category] using hq) ?_
  refine jr_iconst (v := 0) dX10_readDigits_0 (by decide) ?_
  refine jr_istore_n dX10_readDigits_1 rfl (by decide) rfl (Or.inl rfl) ?_
  refine s_X10_readDigits_L2 l d F a0 a1 a2 _ (fun y4 h5 H => ?_) F 0 h H
  · refine jr_iload_n dX10_readDigits_27 rfl rfl ?_
    refine jr_iload_n dX10_readDigits_28 rfl rfl ?_
    refine jr_jn (fun J => ∀ (h6 : jH), J h6 = some (rR, hf) → jGo l (d + 1) none RX10 cX10_readDigits 4 (some .int) false 46 [some (.ref a0), none, none, none] [] h6 (some (.int rR)) hf) H (fun h6 H => ?_) (fun J46 hJ46 H => ?_)
    · refine jr_aload_n dX10_readDigits_46 rfl rfl ?_
      refine jr_getR fl_RX10_10 dX10_readDigits_47 H (fun v7 H => ?_)
      obtain ⟨v9, h8, Hc, H⟩ := j_b2_some H
      refine jr_callV (ci := 9) [] my_X9_fault mv_X9_fault ml_RX10_384 dX10_readDigits_50 rfl rfl (Nat.le_of_ble_eq_true rfl) rfl (c_X9_fault l d F v7 h6 v9 h8 Hc) ?_
      exact jr_iret rfl dX10_readDigits_53 H
    · refine jr_icmp_lt (tgt := 46) dX10_readDigits_29 (by decide) H (fun H => ?_) (fun H => ?_)
      · refine jr_fgt 1 ?_
        refine jr_fgt 3 ?_
        exact hJ46 _ H
      · refine jr_aload_n dX10_readDigits_32 rfl rfl ?_
        refine jr_getR fl_RX10_10 dX10_readDigits_33 H (fun v10 H => ?_)
        obtain ⟨v12, h11, Hc, H⟩ := j_b2_some H
        refine jr_callV (ci := 9) [] my_X9_isOver mv_X9_isOver ml_RX10_390 dX10_readDigits_36 rfl rfl (Nat.le_of_ble_eq_true rfl) rfl (c_X9_isOver l d F v10 h5 v12 h11 Hc) ?_
        refine jr_if_eq (tgt := 46) dX10_readDigits_39 (by decide) H (fun H => ?_) (fun H => ?_)
        · refine jr_fgt 1 ?_
          refine jr_fgt 3 ?_
          exact hJ46 _ H
        · refine jr_iconst (v := 0) dX10_readDigits_42 (by decide) ?_
          refine jr_goto (tgt := 53) dX10_readDigits_43 (by decide) ?_
          exact jr_iret rfl dX10_readDigits_53 H
set_option maxRecDepth 100000 in
set_option maxHeartbeats 4000000 in
theorem s_X10_tellSentence_L11 (l : Launch) (d : Nat) (F : Nat) (x0 : Nat) (x1 : Int32) {hf : jH} : ∀ (n : Nat) (x2 : Int32) (x3 : Int32) (h : jH), f_X10_tellSentence_L11 F x0 x1 n x2 x3 h = some hf → jGo l (d + 1) none RX10 cX10_tellSentence 4 none false 11 [some (.ref x0), some (.int x1), some (.int x2), some (.int x3)] [] h none hf := by
  intro n
  induction n with
  | zero =>
    intro x2 x3 h H
    cases H
  | succ n ih =>
    intro x2 x3 h H
    unfold f_X10_tellSentence_L11 at H
    refine jr_iload_n dX10_tellSentence_11 rfl rfl ?_
    refine jr_iload_n dX10_tellSentence_12 rfl rfl ?_
    refine jr_icmp_ge (tgt := 56) dX10_tellSentence_13 (by decide) H (fun H => ?_) (fun H => ?_)
    · exact jr_vret rfl dX10_tellSentence_56 H
    · refine jr_iload_n dX10_tellSentence_16 rfl rfl ?_
      refine jr_iload_n dX10_tellSentence_17 rfl rfl ?_
      refine jr_icmp_ge (tgt := 56) dX10_tellSentence_18 (by decide) H (fun H => ?_) (fun H => ?_)
      · exact jr_vret rfl dX10_tellSentence_56 H
      · refine jr_aload_n dX10_tellSentence_21 rfl rfl ?_
        refine jr_getR fl_RX10_19 dX10_tellSentence_22 H (fun v3 H => ?_)
        refine jr_aload_n dX10_tellSentence_25 rfl rfl ?_
        refine jr_getR fl_RX10_69 dX10_tellSentence_26 H (fun v4 H => ?_)
        refine jr_getR fl_RX10_437 dX10_tellSentence_29 H (fun v5 H => ?_)
        refine jr_iload_n dX10_tellSentence_32 rfl rfl ?_
        refine jr_iald dX10_tellSentence_33 H (fun v6 H => ?_)
        refine jr_i2l dX10_tellSentence_34 ?_
        obtain ⟨h7, Hc, H⟩ := Option.bind_eq_some_iff.mp H
        refine jr_callV (ci := 6) [.long (v6.toInt64)] my_X6_add mv_X6_add ml_RX10_219 dX10_tellSentence_35 rfl rfl (Nat.le_of_ble_eq_true rfl) rfl (c_X6_add l d F v3 (v6.toInt64) h h7 Hc) ?_
        refine jr_iload_n dX10_tellSentence_38 rfl rfl ?_
        refine jr_aload_n dX10_tellSentence_39 rfl rfl ?_
        refine jr_getR fl_RX10_69 dX10_tellSentence_40 H (fun v8 H => ?_)
        refine jr_getR fl_RX10_440 dX10_tellSentence_43 H (fun v9 H => ?_)
        refine jr_iload_n dX10_tellSentence_46 rfl rfl ?_
        refine jr_iald dX10_tellSentence_47 H (fun v10 H => ?_)
        refine jr_iadd dX10_tellSentence_48 ?_
        refine jr_istore_n dX10_tellSentence_49 rfl (by decide) rfl (Or.inl rfl) ?_
        refine jr_iinc (v := (x3 + 1)) dX10_tellSentence_50 rfl rfl (by decide) rfl (Or.inl rfl) ?_
        refine jr_goto (tgt := 11) dX10_tellSentence_53 (by decide) ?_
        exact ih _ _ _ H
set_option maxRecDepth 100000 in
set_option maxHeartbeats 4000000 in
theorem c_X10_tellSentence (l : Launch) (d : Nat) (F : Nat) (a0 : Nat) (a1 : Int32) (h : jH) (hf : jH) (H : f_X10_tellSentence F a0 a1 h = some hf) : jh_sh h a0 = (10, 0) ∧ jMet l (d + 1) yX10_tellSentence cX10_tellSentence 4 none [.ref a0, .int a1] h none hf := by
  unfold f_X10_tellSentence at H
  obtain ⟨hsh, H⟩ := j_gd_some H
  refine ⟨hsh, ?_⟩
  refine jMet.of false [some (.ref a0), some (.int a1), none, none] rfl (by decide) (by decide) (Nat.le_of_ble_eq_true rfl) (fun S0 q hq => by simpa [j_l, lv_args, j_v, Value.category] using hq) ?_
  refine jr_aload_n dX10_tellSentence_0 rfl rfl ?_
  refine jr_getR fl_RX10_19 dX10_tellSentence_1 H (fun v1 H => ?_)
  obtain ⟨h2, Hc, H⟩ := Option.bind_eq_some_iff.mp H
  refine jr_callV (ci := 6) [] my_X6_clear mv_X6_clear ml_RX10_213 dX10_tellSentence_4 rfl rfl (Nat.le_of_ble_eq_true rfl) rfl (c_X6_clear l d F v1 h h2 Hc) ?_
  refine jr_iconst (v := 0) dX10_tellSentence_7 (by decide) ?_
  refine jr_istore_n dX10_tellSentence_8 rfl (by decide) rfl (Or.inl rfl) ?_
  refine jr_iconst (v := 0) dX10_tellSentence_9 (by decide) ?_
  refine jr_istore_n dX10_tellSentence_10 rfl (by decide) rfl (Or.inl rfl) ?_
  exact s_X10_tellSentence_L11 l d F a0 a1 F 0 0 h2 H
set_option maxRecDepth 100000 in
set_option maxHeartbeats 4000000 in
theorem c_X3_isCompound (l : Launch) (d : Nat) (F : Nat) (a0 : Nat) (a1 : Int32) (h : jH) (rR : Int32) (hf : jH) (H : f_X3_isCompound F a0 a1 h = some (rR, hf)) : jh_sh h a0 = (3, 0) ∧ jMet l (d + 0) yX3_isCompound cX3_isCompound 2 (some .boolean) [.ref a0, .int a1] h (some (.int rR)) hf := by
  unfold f_X3_isCompound at H
  obtain ⟨hsh, H⟩ := j_gd_some H
  refine ⟨hsh, ?_⟩
  refine jMet.of false [some (.ref a0), some (.int a1)] rfl (by decide) (by decide) (Nat.le_of_ble_eq_true rfl) (fun S0 q hq => by simpa [j_l, lv_args, j_v, Value.category] using hq) ?_
  refine jr_aload_n dX3_isCompound_0 rfl rfl ?_
  refine jr_getR fl_RX3_18 dX3_isCompound_1 H (fun v1 H => ?_)
  refine jr_iload_n dX3_isCompound_4 rfl rfl ?_
  refine jr_iald dX3_isCompound_5 H (fun v2 H => ?_)
  refine jr_iconst (v := (-1)) dX3_isCompound_6 (by decide) ?_
  refine jr_icmp_eq (tgt := 14) dX3_isCompound_7 (by decide) H (fun H => ?_) (fun H => ?_)
  · refine jr_iconst (v := 0) dX3_isCompound_14 (by decide) ?_
    exact jr_zret rfl rfl dX3_isCompound_15 H
  · refine jr_iconst (v := 1) dX3_isCompound_10 (by decide) ?_
    refine jr_goto (tgt := 15) dX3_isCompound_11 (by decide) ?_
    exact jr_zret rfl rfl dX3_isCompound_15 H
set_option maxRecDepth 100000 in
set_option maxHeartbeats 4000000 in
theorem c_X5_toldBy (l : Launch) (d : Nat) (F : Nat) (a0 : Nat) (a1 : Int32) (a2 : Nat) (a3 : Int32) (a4 : Int32) (h : jH) (rR : Int32) (hf : jH) (H : f_X5_toldBy F a0 a1 a2 a3 a4 h = some (rR, hf)) : jMet l (d + 1) yX5_toldBy cX5_toldBy 5 (some .int) [.ref a0, .int a1, .ref a2, .int a3, .int a4] h (some (.int rR)) hf := by
  unfold f_X5_toldBy at H
  refine jMet.of false [some (.ref a0), some (.int a1), some (.ref a2), some (.int a3), some (.int a4)] rfl (by decide) (by decide) (Nat.le_of_ble_eq_true rfl) (fun S0 q hq => by simpa [j_l, lv_args, j_v, Value.category] using hq) ?_
  refine jr_aload_n dX5_toldBy_0 rfl rfl ?_
  refine jr_getR fl_RX5_38 dX5_toldBy_1 H (fun v1 H => ?_)
  refine jr_iload_n dX5_toldBy_4 rfl rfl ?_
  refine jr_iald dX5_toldBy_5 H (fun v2 H => ?_)
  refine jr_aload_n dX5_toldBy_6 rfl rfl ?_
  refine jr_iload_n dX5_toldBy_7 rfl rfl ?_
  refine jr_iald dX5_toldBy_8 H (fun v3 H => ?_)
  refine jr_bipush (v := 48) dX5_toldBy_9 (by decide) ?_
  refine jr_isub dX5_toldBy_11 ?_
  refine jr_icmp_eq (tgt := 17) dX5_toldBy_12 (by decide) H (fun H => ?_) (fun H => ?_)
  · refine jr_aload_n dX5_toldBy_17 rfl rfl ?_
    refine jr_iload_n dX5_toldBy_18 rfl rfl ?_
    obtain ⟨v5, h4, Hc, H⟩ := j_b2_some H
    refine jr_callV (ci := 3) [.int a1] my_X3_isCompound mv_X3_isCompound ml_RX5_41 dX5_toldBy_19 rfl rfl (Nat.le_of_ble_eq_true rfl) rfl (c_X3_isCompound l d F a0 a1 h v5 h4 Hc) ?_
    refine jr_if_ne (tgt := 27) dX5_toldBy_22 (by decide) H (fun H => ?_) (fun H => ?_)
    · refine jr_iconst (v := 1) dX5_toldBy_25 (by decide) ?_
      exact jr_iret rfl dX5_toldBy_26 H
    · refine jr_iload_n dX5_toldBy_27 rfl rfl ?_
      refine jr_iconst (v := 1) dX5_toldBy_28 (by decide) ?_
      refine jr_iadd dX5_toldBy_29 ?_
      refine jr_iload dX5_toldBy_30 rfl ?_
      refine jr_icmp_ge (tgt := 56) dX5_toldBy_32 (by decide) H (fun H => ?_) (fun H => ?_)
      · refine jr_iconst (v := 0) dX5_toldBy_56 (by decide) ?_
        exact jr_iret rfl dX5_toldBy_57 H
      · refine jr_aload_n dX5_toldBy_35 rfl rfl ?_
        refine jr_getR fl_RX5_45 dX5_toldBy_36 H (fun v6 H => ?_)
        refine jr_iload_n dX5_toldBy_39 rfl rfl ?_
        refine jr_iald dX5_toldBy_40 H (fun v7 H => ?_)
        refine jr_aload_n dX5_toldBy_41 rfl rfl ?_
        refine jr_iload_n dX5_toldBy_42 rfl rfl ?_
        refine jr_iconst (v := 1) dX5_toldBy_43 (by decide) ?_
        refine jr_iadd dX5_toldBy_44 ?_
        refine jr_iald dX5_toldBy_45 H (fun v8 H => ?_)
        refine jr_bipush (v := 48) dX5_toldBy_46 (by decide) ?_
        refine jr_isub dX5_toldBy_48 ?_
        refine jr_icmp_ne (tgt := 56) dX5_toldBy_49 (by decide) H (fun H => ?_) (fun H => ?_)
        · refine jr_iconst (v := 2) dX5_toldBy_52 (by decide) ?_
          refine jr_goto (tgt := 57) dX5_toldBy_53 (by decide) ?_
          exact jr_iret rfl dX5_toldBy_57 H
        · refine jr_iconst (v := 0) dX5_toldBy_56 (by decide) ?_
          exact jr_iret rfl dX5_toldBy_57 H
  · refine jr_iconst (v := 0) dX5_toldBy_15 (by decide) ?_
    exact jr_iret rfl dX5_toldBy_16 H
set_option maxRecDepth 100000 in
set_option maxHeartbeats 4000000 in
theorem s_X5_sentencePrice_L31 (l : Launch) (d : Nat) (F : Nat) (x0 : Nat) (x1 : Nat) (x2 : Nat) (x3 : Nat) (x4 : Int32) (x5 : Int32) (k129 : jH → Option (Int32 × jH)) {rR : Int32} {hf : jH} (hk129 : ∀ (h : jH), k129 h = some (rR, hf) → jGo l (d + 2) none RX5 cX5_sentencePrice 8 (some .int) false 129 [some (.ref x0), some (.ref x1), some (.ref x2), some (.ref x3), some (.int x4), some (.int x5), none, none] [] h (some (.int rR)) hf) : ∀ (n : Nat) (x6 : Int32) (h : jH), f_X5_sentencePrice_L31 F x0 x1 x2 x3 x4 x5 k129 n x6 h = some (rR, hf) → jGo l (d + 2) none RX5 cX5_sentencePrice 8 (some .int) false 31 [some (.ref x0), some (.ref x1), some (.ref x2), some (.ref x3), some (.int x4), some (.int x5), some (.int x6), none] [] h (some (.int rR)) hf := by
  intro n
  induction n with
  | zero =>
    intro x6 h H
    cases H
  | succ n ih =>
    intro x6 h H
    unfold f_X5_sentencePrice_L31 at H
    refine jr_iload dX5_sentencePrice_31 rfl ?_
    refine jr_aload_n dX5_sentencePrice_33 rfl rfl ?_
    refine jr_getI fl_RX5_28 (by decide) dX5_sentencePrice_34 H (fun v5 H => ?_)
    refine jr_icmp_ge (tgt := 129) dX5_sentencePrice_37 (by decide) H (fun H => ?_) (fun H => ?_)
    · refine jr_fgt 6 ?_
      exact hk129 _ H
    · refine jr_aload_n dX5_sentencePrice_40 rfl rfl ?_
      refine jr_iload dX5_sentencePrice_41 rfl ?_
      refine jr_aload_n dX5_sentencePrice_43 rfl rfl ?_
      refine jr_iload dX5_sentencePrice_44 rfl ?_
      refine jr_iload dX5_sentencePrice_46 rfl ?_
      obtain ⟨v7, h6, Hc, H⟩ := j_b2_some H
      refine jr_callS [.ref x1, .int x6, .ref x3, .int x5, .int x4] my_X5_toldBy ms_X5_toldBy ml_RX5_34 dX5_sentencePrice_48 rfl rfl (Nat.le_of_ble_eq_true rfl) (c_X5_toldBy l d F x1 x6 x3 x5 x4 h v7 h6 Hc) ?_
      refine jr_istore dX5_sentencePrice_51 (by decide) rfl (Or.inl rfl) ?_
      refine jr_iload dX5_sentencePrice_53 rfl ?_
      refine jr_jn (fun J => ∀ (h8 : jH), J h8 = some (rR, hf) → jGo l (d + 2) none RX5 cX5_sentencePrice 8 (some .int) false 123 [some (.ref x0), some (.ref x1), some (.ref x2), some (.ref x3), some (.int x4), some (.int x5), some (.int x6), none] [] h8 (some (.int rR)) hf) H (fun h8 H => ?_) (fun J123 hJ123 H => ?_)
      · refine jr_iinc (v := (x6 + 1)) dX5_sentencePrice_123 rfl rfl (by decide) rfl (Or.inl rfl) ?_
        refine jr_goto (tgt := 31) dX5_sentencePrice_126 (by decide) ?_
        exact ih _ _ H
      · refine jr_if_le (tgt := 123) dX5_sentencePrice_55 (by decide) H (fun H => ?_) (fun H => ?_)
        · refine jr_fgt 7 ?_
          exact hJ123 _ H
        · refine jr_aload_n dX5_sentencePrice_58 rfl rfl ?_
          refine jr_iload dX5_sentencePrice_59 rfl ?_
          refine jr_iald dX5_sentencePrice_61 H (fun v9 H => ?_)
          refine jr_aload_n dX5_sentencePrice_62 rfl rfl ?_
          refine jr_getR fl_RX5_18 dX5_sentencePrice_63 H (fun v10 H => ?_)
          refine jr_iload dX5_sentencePrice_66 rfl ?_
          refine jr_iload dX5_sentencePrice_68 rfl ?_
          refine jr_iadd dX5_sentencePrice_70 ?_
          refine jr_iald dX5_sentencePrice_71 H (fun v11 H => ?_)
          refine jr_iadd dX5_sentencePrice_72 ?_
          refine jr_aload_n dX5_sentencePrice_73 rfl rfl ?_
          refine jr_getR fl_RX5_18 dX5_sentencePrice_74 H (fun v12 H => ?_)
          refine jr_iload dX5_sentencePrice_77 rfl ?_
          refine jr_iald dX5_sentencePrice_79 H (fun v13 H => ?_)
          refine jr_icmp_ge (tgt := 123) dX5_sentencePrice_80 (by decide) H (fun H => ?_) (fun H => ?_)
          · refine jr_fgt 7 ?_
            exact hJ123 _ H
          · refine jr_aload_n dX5_sentencePrice_83 rfl rfl ?_
            refine jr_getR fl_RX5_18 dX5_sentencePrice_84 H (fun v14 H => ?_)
            refine jr_iload dX5_sentencePrice_87 rfl ?_
            refine jr_aload_n dX5_sentencePrice_89 rfl rfl ?_
            refine jr_iload dX5_sentencePrice_90 rfl ?_
            refine jr_iald dX5_sentencePrice_92 H (fun v15 H => ?_)
            refine jr_aload_n dX5_sentencePrice_93 rfl rfl ?_
            refine jr_getR fl_RX5_18 dX5_sentencePrice_94 H (fun v16 H => ?_)
            refine jr_iload dX5_sentencePrice_97 rfl ?_
            refine jr_iload dX5_sentencePrice_99 rfl ?_
            refine jr_iadd dX5_sentencePrice_101 ?_
            refine jr_iald dX5_sentencePrice_102 H (fun v17 H => ?_)
            refine jr_iadd dX5_sentencePrice_103 ?_
            refine jr_iast dX5_sentencePrice_104 H (fun h18 H => ?_)
            refine jr_aload_n dX5_sentencePrice_105 rfl rfl ?_
            refine jr_getR fl_RX5_9 dX5_sentencePrice_106 H (fun v19 H => ?_)
            refine jr_iload dX5_sentencePrice_109 rfl ?_
            refine jr_iload dX5_sentencePrice_111 rfl ?_
            refine jr_iast dX5_sentencePrice_113 H (fun h20 H => ?_)
            refine jr_aload_n dX5_sentencePrice_114 rfl rfl ?_
            refine jr_getR fl_RX5_15 dX5_sentencePrice_115 H (fun v21 H => ?_)
            refine jr_iload dX5_sentencePrice_118 rfl ?_
            refine jr_iload dX5_sentencePrice_120 rfl ?_
            refine jr_iast dX5_sentencePrice_122 H (fun h22 H => ?_)
            refine jr_fgt 7 ?_
            exact hJ123 _ H
set_option maxRecDepth 100000 in
set_option maxHeartbeats 4000000 in
theorem s_X5_sentencePrice_L14 (l : Launch) (d : Nat) (F : Nat) (x0 : Nat) (x1 : Nat) (x2 : Nat) (x3 : Nat) (x4 : Int32) (k135 : jH → Option (Int32 × jH)) {rR : Int32} {hf : jH} (hk135 : ∀ (h : jH), k135 h = some (rR, hf) → jGo l (d + 2) none RX5 cX5_sentencePrice 8 (some .int) false 135 [some (.ref x0), none, none, none, none, none, none, none] [] h (some (.int rR)) hf) : ∀ (n : Nat) (x5 : Int32) (h : jH), f_X5_sentencePrice_L14 F x0 x1 x2 x3 x4 k135 n x5 h = some (rR, hf) → jGo l (d + 2) none RX5 cX5_sentencePrice 8 (some .int) false 14 [some (.ref x0), some (.ref x1), some (.ref x2), some (.ref x3), some (.int x4), some (.int x5), none, none] [] h (some (.int rR)) hf := by
  intro n
  induction n with
  | zero =>
    intro x5 h H
    cases H
  | succ n ih =>
    intro x5 h H
    unfold f_X5_sentencePrice_L14 at H
    refine jr_iload dX5_sentencePrice_14 rfl ?_
    refine jr_if_lt (tgt := 135) dX5_sentencePrice_16 (by decide) H (fun H => ?_) (fun H => ?_)
    · refine jr_fgt 1 ?_
      refine jr_fgt 2 ?_
      refine jr_fgt 3 ?_
      refine jr_fgt 4 ?_
      refine jr_fgt 5 ?_
      exact hk135 _ H
    · refine jr_aload_n dX5_sentencePrice_19 rfl rfl ?_
      refine jr_getR fl_RX5_18 dX5_sentencePrice_20 H (fun v3 H => ?_)
      refine jr_iload dX5_sentencePrice_23 rfl ?_
      refine jr_ldc cn_RX5_27 dX5_sentencePrice_25 ?_
      refine jr_iast dX5_sentencePrice_27 H (fun h4 H => ?_)
      refine jr_iconst (v := 0) dX5_sentencePrice_28 (by decide) ?_
      refine jr_istore dX5_sentencePrice_29 (by decide) rfl (Or.inl rfl) ?_
      refine s_X5_sentencePrice_L31 l d F x0 x1 x2 x3 x4 x5 _ (fun h23 H => ?_) F 0 h4 H
      · refine jr_iinc (v := (x5 + (-1))) dX5_sentencePrice_129 rfl rfl (by decide) rfl (Or.inl rfl) ?_
        refine jr_goto (tgt := 14) dX5_sentencePrice_132 (by decide) ?_
        exact ih _ _ H
set_option maxRecDepth 100000 in
set_option maxHeartbeats 4000000 in
theorem c_X5_sentencePrice (l : Launch) (d : Nat) (F : Nat) (a0 : Nat) (a1 : Nat) (a2 : Nat) (a3 : Nat) (a4 : Int32) (h : jH) (rR : Int32) (hf : jH) (H : f_X5_sentencePrice F a0 a1 a2 a3 a4 h = some (rR, hf)) : jh_sh h a0 = (5, 0) ∧ jMet l (d + 2) yX5_sentencePrice cX5_sentencePrice 8 (some .int) [.ref a0, .ref a1, .ref a2, .ref a3, .int a4] h (some (.int rR)) hf := by
  unfold f_X5_sentencePrice at H
  obtain ⟨hsh, H⟩ := j_gd_some H
  refine ⟨hsh, ?_⟩
  refine jMet.of false [some (.ref a0), some (.ref a1), some (.ref a2), some (.ref a3), some (.int a4), none, none, none] rfl (by decide) (by decide) (Nat.le_of_ble_eq_true rfl) (fun S0 q hq => by simpa [j_l, lv_args, j_v, Value.category] using hq) ?_
  refine jr_aload_n dX5_sentencePrice_0 rfl rfl ?_
  refine jr_getR fl_RX5_18 dX5_sentencePrice_1 H (fun v1 H => ?_)
  refine jr_iload dX5_sentencePrice_4 rfl ?_
  refine jr_iconst (v := 0) dX5_sentencePrice_6 (by decide) ?_
  refine jr_iast dX5_sentencePrice_7 H (fun h2 H => ?_)
  refine jr_iload dX5_sentencePrice_8 rfl ?_
  refine jr_iconst (v := 1) dX5_sentencePrice_10 (by decide) ?_
  refine jr_isub dX5_sentencePrice_11 ?_
  refine jr_istore dX5_sentencePrice_12 (by decide) rfl (Or.inl rfl) ?_
  refine s_X5_sentencePrice_L14 l d F a0 a1 a2 a3 a4 _ (fun h24 H => ?_) F (a4 - (1 : Int32)) h2 H
  · refine jr_aload_n dX5_sentencePrice_135 rfl rfl ?_
    refine jr_getR fl_RX5_18 dX5_sentencePrice_136 H (fun v25 H => ?_)
    refine jr_iconst (v := 0) dX5_sentencePrice_139 (by decide) ?_
    refine jr_iald dX5_sentencePrice_140 H (fun v26 H => ?_)
    refine jr_ldc cn_RX5_27 dX5_sentencePrice_141 ?_
    refine jr_icmp_ge (tgt := 155) dX5_sentencePrice_143 (by decide) H (fun H => ?_) (fun H => ?_)
    · refine jr_iconst (v := (-1)) dX5_sentencePrice_155 (by decide) ?_
      exact jr_iret rfl dX5_sentencePrice_156 H
    · refine jr_aload_n dX5_sentencePrice_146 rfl rfl ?_
      refine jr_getR fl_RX5_18 dX5_sentencePrice_147 H (fun v27 H => ?_)
      refine jr_iconst (v := 0) dX5_sentencePrice_150 (by decide) ?_
      refine jr_iald dX5_sentencePrice_151 H (fun v28 H => ?_)
      refine jr_goto (tgt := 156) dX5_sentencePrice_152 (by decide) ?_
      exact jr_iret rfl dX5_sentencePrice_156 H
set_option maxRecDepth 100000 in
set_option maxHeartbeats 4000000 in
theorem c_X10_sentence (l : Launch) (d : Nat) (F : Nat) (a0 : Nat) (a1 : Int32) (h : jH) (rR : Int32) (hf : jH) (H : f_X10_sentence F a0 a1 h = some (rR, hf)) : jh_sh h a0 = (10, 0) ∧ jMet l (d + 4) yX10_sentence cX10_sentence 5 (some .int) [.ref a0, .int a1] h (some (.int rR)) hf := by
  unfold f_X10_sentence at H
  obtain ⟨hsh, H⟩ := j_gd_some H
  refine ⟨hsh, ?_⟩
  refine jMet.of false [some (.ref a0), some (.int a1), none, none, none] rfl (by decide) (by decide) (Nat.le_of_ble_eq_true rfl) (fun S0 q hq => by simpa [j_l, lv_args, j_v, Value.category] using hq) ?_
  refine jr_aload_n dX10_sentence_0 rfl rfl ?_
  refine jr_getR fl_RX10_10 dX10_sentence_1 H (fun v1 H => ?_)
  refine jr_bipush (v := 12) dX10_sentence_4 (by decide) ?_
  obtain ⟨h2, Hc, H⟩ := Option.bind_eq_some_iff.mp H
  refine jr_callV (ci := 9) [.int 12] my_X9_open mv_X9_open ml_RX10_263 dX10_sentence_6 rfl rfl (Nat.le_of_ble_eq_true rfl) rfl (c_X9_open l (d + 2) F v1 12 h h2 Hc) ?_
  refine jr_aload_n dX10_sentence_9 rfl rfl ?_
  refine jr_iload_n dX10_sentence_10 rfl rfl ?_
  obtain ⟨v4, h3, Hc, H⟩ := j_b2_some H
  refine jr_callV (ci := 10) [.int a1] my_X10_isStation mv_X10_isStation ml_RX10_191 dX10_sentence_11 rfl rfl (Nat.le_of_ble_eq_true rfl) rfl (c_X10_isStation l (d + 3) F a0 a1 h2 v4 h3 Hc) ?_
  refine jr_jn (fun J => ∀ (s5 : Int32) (h6 : jH), J s5 h6 = some (rR, hf) → jGo l (d + 4) none RX10 cX10_sentence 5 (some .int) false 29 [some (.ref a0), some (.int a1), none, none, none] [.int s5] h6 (some (.int rR)) hf) H (fun s5 h6 H => ?_) (fun J29 hJ29 H => ?_)
  · refine jr_istore_n dX10_sentence_29 rfl (by decide) rfl (Or.inl rfl) ?_
    refine jr_aload_n dX10_sentence_30 rfl rfl ?_
    refine jr_getR fl_RX10_10 dX10_sentence_31 H (fun v7 H => ?_)
    refine jr_getI fl_RX10_113 (by decide) dX10_sentence_34 H (fun v8 H => ?_)
    refine jr_istore_n dX10_sentence_37 rfl (by decide) rfl (Or.inl rfl) ?_
    refine jr_aload_n dX10_sentence_38 rfl rfl ?_
    refine jr_getR fl_RX10_10 dX10_sentence_39 H (fun v9 H => ?_)
    refine jr_iconst (v := 0) dX10_sentence_42 (by decide) ?_
    refine jr_putI fl_RX10_113 (fun z => by cases z) dX10_sentence_43 H (fun h10 H => ?_)
    refine jr_iload_n dX10_sentence_46 rfl rfl ?_
    refine jr_if_ge (tgt := 52) dX10_sentence_47 (by decide) H (fun H => ?_) (fun H => ?_)
    · refine jr_aload_n dX10_sentence_52 rfl rfl ?_
      refine jr_aload_n dX10_sentence_53 rfl rfl ?_
      refine jr_getR fl_RX10_92 dX10_sentence_54 H (fun v11 H => ?_)
      refine jr_iload_n dX10_sentence_57 rfl rfl ?_
      refine jr_aload_n dX10_sentence_58 rfl rfl ?_
      refine jr_getR fl_RX10_77 dX10_sentence_59 H (fun v12 H => ?_)
      obtain ⟨h13, Hc, H⟩ := Option.bind_eq_some_iff.mp H
      refine jr_callV (ci := 10) [.ref v11, .int a1, .ref v12] my_X10_priceAll mv_X10_priceAll ml_RX10_253 dX10_sentence_62 rfl rfl (Nat.le_of_ble_eq_true rfl) rfl (c_X10_priceAll l d F a0 v11 a1 v12 h10 h13 Hc) ?_
      refine jr_aload_n dX10_sentence_65 rfl rfl ?_
      refine jr_getR fl_RX10_69 dX10_sentence_66 H (fun v14 H => ?_)
      refine jr_aload_n dX10_sentence_69 rfl rfl ?_
      refine jr_getR fl_RX10_26 dX10_sentence_70 H (fun v15 H => ?_)
      refine jr_aload_n dX10_sentence_73 rfl rfl ?_
      refine jr_getR fl_RX10_77 dX10_sentence_74 H (fun v16 H => ?_)
      refine jr_aload_n dX10_sentence_77 rfl rfl ?_
      refine jr_getR fl_RX10_10 dX10_sentence_78 H (fun v17 H => ?_)
      refine jr_getR fl_RX10_269 dX10_sentence_81 H (fun v18 H => ?_)
      refine jr_iload_n dX10_sentence_84 rfl rfl ?_
      obtain ⟨v20, h19, Hc, H⟩ := j_b2_some H
      refine jr_callV (ci := 5) [.ref v15, .ref v16, .ref v18, .int v8] my_X5_sentencePrice mv_X5_sentencePrice ml_RX10_272 dX10_sentence_85 rfl rfl (Nat.le_of_ble_eq_true rfl) rfl (c_X5_sentencePrice l (d + 1) F v14 v15 v16 v18 v8 h13 v20 h19 Hc) ?_
      refine jr_istore dX10_sentence_88 (by decide) rfl (Or.inl rfl) ?_
      refine jr_iload dX10_sentence_90 rfl ?_
      refine jr_if_ge (tgt := 99) dX10_sentence_92 (by decide) H (fun H => ?_) (fun H => ?_)
      · refine jr_aload_n dX10_sentence_99 rfl rfl ?_
        refine jr_iload_n dX10_sentence_100 rfl rfl ?_
        obtain ⟨h21, Hc, H⟩ := Option.bind_eq_some_iff.mp H
        refine jr_callV (ci := 10) [.int v8] my_X10_tellSentence mv_X10_tellSentence ml_RX10_276 dX10_sentence_101 rfl rfl (Nat.le_of_ble_eq_true rfl) rfl (c_X10_tellSentence l (d + 2) F a0 v8 h19 h21 Hc) ?_
        refine jr_iload dX10_sentence_104 rfl ?_
        exact jr_iret rfl dX10_sentence_106 H
      · refine jr_sipush (v := (-200)) dX10_sentence_95 (by decide) ?_
        exact jr_iret rfl dX10_sentence_98 H
    · refine jr_iload_n dX10_sentence_50 rfl rfl ?_
      exact jr_iret rfl dX10_sentence_51 H
  · refine jr_if_eq (tgt := 27) dX10_sentence_14 (by decide) H (fun H => ?_) (fun H => ?_)
    · refine jr_bipush (v := (-100)) dX10_sentence_27 (by decide) ?_
      exact hJ29 _ _ H
    · refine jr_aload_n dX10_sentence_17 rfl rfl ?_
      refine jr_iconst (v := 1) dX10_sentence_18 (by decide) ?_
      refine jr_bipush (v := 12) dX10_sentence_19 (by decide) ?_
      obtain ⟨v23, h22, Hc, H⟩ := j_b2_some H
      refine jr_callV (ci := 10) [.int 1, .int 12] my_X10_readDigits mv_X10_readDigits ml_RX10_266 dX10_sentence_21 rfl rfl (Nat.le_of_ble_eq_true rfl) rfl (c_X10_readDigits l (d + 2) F a0 1 12 h3 v23 h22 Hc) ?_
      refine jr_goto (tgt := 29) dX10_sentence_24 (by decide) ?_
      exact hJ29 _ _ H
set_option maxRecDepth 100000 in
set_option maxHeartbeats 4000000 in
theorem s_X10_when_L48 (l : Launch) (d : Nat) (F : Nat) (x0 : Nat) (x1 : Int32) (x2 : Int32) (x3 : Int32) (k101 : Int32 → Int32 → jH → Option (Int32 × jH)) {rR : Int32} {hf : jH} (hk101 : ∀ (y4 : Int32) (y5 : Int32) (h : jH), k101 y4 y5 h = some (rR, hf) → jGo l (d + 3) none RX10 cX10_when 8 (some .int) false 101 [some (.ref x0), none, none, some (.int x3), some (.int y4), some (.int y5), none, none] [] h (some (.int rR)) hf) : ∀ (n : Nat) (x4 : Int32) (x5 : Int32) (x6 : Int32) (h : jH), f_X10_when_L48 F x0 x1 x2 x3 k101 n x4 x5 x6 h = some (rR, hf) → jGo l (d + 3) none RX10 cX10_when 8 (some .int) false 48 [some (.ref x0), some (.int x1), some (.int x2), some (.int x3), some (.int x4), some (.int x5), some (.int x6), none] [] h (some (.int rR)) hf := by
  intro n
  induction n with
  | zero =>
    intro x4 x5 x6 h H
    cases H
  | succ n ih =>
    intro x4 x5 x6 h H
    unfold f_X10_when_L48 at H
    refine jr_iload dX10_when_48 rfl ?_
    refine jr_bipush (v := 24) dX10_when_50 (by decide) ?_
    refine jr_icmp_ge (tgt := 101) dX10_when_52 (by decide) H (fun H => ?_) (fun H => ?_)
    · refine jr_fgt 1 ?_
      refine jr_fgt 2 ?_
      refine jr_fgt 6 ?_
      exact hk101 _ _ _ H
    · refine jr_aload_n dX10_when_55 rfl rfl ?_
      refine jr_getR fl_RX10_92 dX10_when_56 H (fun v11 H => ?_)
      refine jr_aload_n dX10_when_59 rfl rfl ?_
      refine jr_getR fl_RX10_26 dX10_when_60 H (fun v12 H => ?_)
      refine jr_iload_n dX10_when_63 rfl rfl ?_
      refine jr_iload_n dX10_when_64 rfl rfl ?_
      refine jr_aload_n dX10_when_65 rfl rfl ?_
      refine jr_getR fl_RX10_40 dX10_when_66 H (fun v13 H => ?_)
      refine jr_getI fl_RX10_206 (by decide) dX10_when_69 H (fun v14 H => ?_)
      refine jr_iload dX10_when_72 rfl ?_
      refine jr_iadd dX10_when_74 ?_
      obtain ⟨v16, h15, Hc, H⟩ := j_b2_some H
      refine jr_callV (ci := 8) [.ref v12, .int x1, .int x2, .int (v14 + x6)] my_X8_charge mv_X8_charge ml_RX10_209 dX10_when_75 rfl rfl (Nat.le_of_ble_eq_true rfl) rfl (c_X8_charge l d F v11 v12 x1 x2 (v14 + x6) h v16 h15 Hc) ?_
      refine jr_istore dX10_when_78 (by decide) rfl (Or.inl rfl) ?_
      refine jr_iload dX10_when_80 rfl ?_
      refine jr_iload dX10_when_82 rfl ?_
      refine jr_jn (fun J => ∀ (z17 : Int32) (z18 : Int32) (h19 : jH), J z17 z18 h19 = some (rR, hf) → jGo l (d + 3) none RX10 cX10_when 8 (some .int) false 95 [some (.ref x0), some (.int x1), some (.int x2), some (.int x3), some (.int z17), some (.int z18), some (.int x6), none] [] h19 (some (.int rR)) hf) H (fun z17 z18 h19 H => ?_) (fun J95 hJ95 H => ?_)
      · refine jr_iinc (v := (x6 + 1)) dX10_when_95 rfl rfl (by decide) rfl (Or.inl rfl) ?_
        refine jr_goto (tgt := 48) dX10_when_98 (by decide) ?_
        exact ih _ _ _ _ H
      · refine jr_icmp_ge (tgt := 95) dX10_when_84 (by decide) H (fun H => ?_) (fun H => ?_)
        · refine jr_fgt 7 ?_
          exact hJ95 _ _ _ H
        · refine jr_iload dX10_when_87 rfl ?_
          refine jr_istore dX10_when_89 (by decide) rfl (Or.inl rfl) ?_
          refine jr_iload dX10_when_91 rfl ?_
          refine jr_istore dX10_when_93 (by decide) rfl (Or.inl rfl) ?_
          refine jr_fgt 7 ?_
          exact hJ95 _ _ _ H
set_option maxRecDepth 100000 in
set_option maxHeartbeats 4000000 in
theorem c_X10_when (l : Launch) (d : Nat) (F : Nat) (a0 : Nat) (a1 : Int32) (a2 : Int32) (h : jH) (rR : Int32) (hf : jH) (H : f_X10_when F a0 a1 a2 h = some (rR, hf)) : jh_sh h a0 = (10, 0) ∧ jMet l (d + 3) yX10_when cX10_when 8 (some .int) [.ref a0, .int a1, .int a2] h (some (.int rR)) hf := by
  unfold f_X10_when at H
  obtain ⟨hsh, H⟩ := j_gd_some H
  refine ⟨hsh, ?_⟩
  refine jMet.of false [some (.ref a0), some (.int a1), some (.int a2), none, none, none, none, none] rfl (by decide) (by decide) (Nat.le_of_ble_eq_true rfl) (fun S0 q hq => by simpa [j_l, lv_args, j_v, Value.category] using hq) ?_
  refine jr_aload_n dX10_when_0 rfl rfl ?_
  refine jr_iload_n dX10_when_1 rfl rfl ?_
  obtain ⟨v2, h1, Hc, H⟩ := j_b2_some H
  refine jr_callV (ci := 10) [.int a1] my_X10_isWord mv_X10_isWord ml_RX10_136 dX10_when_2 rfl rfl (Nat.le_of_ble_eq_true rfl) rfl (c_X10_isWord l (d + 2) F a0 a1 h v2 h1 Hc) ?_
  refine jr_if_eq (tgt := 16) dX10_when_5 (by decide) H (fun H => ?_) (fun H => ?_)
  · refine jr_iconst (v := (-1)) dX10_when_16 (by decide) ?_
    exact jr_iret rfl dX10_when_17 H
  · refine jr_aload_n dX10_when_8 rfl rfl ?_
    refine jr_iload_n dX10_when_9 rfl rfl ?_
    obtain ⟨v4, h3, Hc, H⟩ := j_b2_some H
    refine jr_callV (ci := 10) [.int a2] my_X10_isStation mv_X10_isStation ml_RX10_191 dX10_when_10 rfl rfl (Nat.le_of_ble_eq_true rfl) rfl (c_X10_isStation l (d + 2) F a0 a2 h1 v4 h3 Hc) ?_
    refine jr_if_ne (tgt := 18) dX10_when_13 (by decide) H (fun H => ?_) (fun H => ?_)
    · refine jr_iconst (v := (-1)) dX10_when_16 (by decide) ?_
      exact jr_iret rfl dX10_when_17 H
    · refine jr_aload_n dX10_when_18 rfl rfl ?_
      refine jr_getR fl_RX10_92 dX10_when_19 H (fun v5 H => ?_)
      refine jr_aload_n dX10_when_22 rfl rfl ?_
      refine jr_getR fl_RX10_26 dX10_when_23 H (fun v6 H => ?_)
      refine jr_iload_n dX10_when_26 rfl rfl ?_
      refine jr_iload_n dX10_when_27 rfl rfl ?_
      refine jr_aload_n dX10_when_28 rfl rfl ?_
      refine jr_getR fl_RX10_40 dX10_when_29 H (fun v7 H => ?_)
      refine jr_getI fl_RX10_206 (by decide) dX10_when_32 H (fun v8 H => ?_)
      obtain ⟨v10, h9, Hc, H⟩ := j_b2_some H
      refine jr_callV (ci := 8) [.ref v6, .int a1, .int a2, .int v8] my_X8_charge mv_X8_charge ml_RX10_209 dX10_when_35 rfl rfl (Nat.le_of_ble_eq_true rfl) rfl (c_X8_charge l d F v5 v6 a1 a2 v8 h3 v10 h9 Hc) ?_
      refine jr_istore_n dX10_when_38 rfl (by decide) rfl (Or.inl rfl) ?_
      refine jr_iload_n dX10_when_39 rfl rfl ?_
      refine jr_istore dX10_when_40 (by decide) rfl (Or.inl rfl) ?_
      refine jr_iconst (v := 0) dX10_when_42 (by decide) ?_
      refine jr_istore dX10_when_43 (by decide) rfl (Or.inl rfl) ?_
      refine jr_iconst (v := 1) dX10_when_45 (by decide) ?_
      refine jr_istore dX10_when_46 (by decide) rfl (Or.inl rfl) ?_
      refine s_X10_when_L48 l d F a0 a1 a2 v10 _ (fun y20 y21 h22 H => ?_) F v10 0 1 h9 H
      · refine jr_aload_n dX10_when_101 rfl rfl ?_
        refine jr_getR fl_RX10_19 dX10_when_102 H (fun v23 H => ?_)
        refine jr_iload dX10_when_105 rfl ?_
        refine jr_i2l dX10_when_107 ?_
        refine jr_iload_n dX10_when_108 rfl rfl ?_
        refine jr_i2l dX10_when_109 ?_
        obtain ⟨h24, Hc, H⟩ := Option.bind_eq_some_iff.mp H
        refine jr_callV (ci := 6) [.long (y20.toInt64), .long (v10.toInt64)] my_X6_tell_ mv_X6_tell_ ml_RX10_242 dX10_when_110 rfl rfl (Nat.le_of_ble_eq_true rfl) rfl (c_X6_tell_ l (d + 1) F v23 (y20.toInt64) (v10.toInt64) h22 h24 Hc) ?_
        refine jr_iload dX10_when_113 rfl ?_
        exact jr_iret rfl dX10_when_115 H
set_option maxRecDepth 100000 in
set_option maxHeartbeats 4000000 in
theorem c_X10_isShorter (l : Launch) (d : Nat) (F : Nat) (a0 : Nat) (a1 : Int32) (a2 : Int32) (h : jH) (rR : Int32) (hf : jH) (H : f_X10_isShorter F a0 a1 a2 h = some (rR, hf)) : jh_sh h a0 = (10, 0) ∧ jMet l (d + 0) yX10_isShorter cX10_isShorter 4 (some .boolean) [.ref a0, .int a1, .int a2] h (some (.int rR)) hf := by
  unfold f_X10_isShorter at H
  obtain ⟨hsh, H⟩ := j_gd_some H
  refine ⟨hsh, ?_⟩
  refine jMet.of false [some (.ref a0), some (.int a1), some (.int a2), none] rfl (by decide) (by decide) (Nat.le_of_ble_eq_true rfl) (fun S0 q hq => by simpa [j_l, lv_args, j_v, Value.category] using hq) ?_
  refine jr_aload_n dX10_isShorter_0 rfl rfl ?_
  refine jr_getR fl_RX10_26 dX10_isShorter_1 H (fun v1 H => ?_)
  refine jr_getR fl_RX10_142 dX10_isShorter_4 H (fun v2 H => ?_)
  refine jr_iload_n dX10_isShorter_7 rfl rfl ?_
  refine jr_iald dX10_isShorter_8 H (fun v3 H => ?_)
  refine jr_aload_n dX10_isShorter_9 rfl rfl ?_
  refine jr_getR fl_RX10_26 dX10_isShorter_10 H (fun v4 H => ?_)
  refine jr_getR fl_RX10_142 dX10_isShorter_13 H (fun v5 H => ?_)
  refine jr_iload_n dX10_isShorter_16 rfl rfl ?_
  refine jr_iald dX10_isShorter_17 H (fun v6 H => ?_)
  refine jr_isub dX10_isShorter_18 ?_
  refine jr_istore_n dX10_isShorter_19 rfl (by decide) rfl (Or.inl rfl) ?_
  refine jr_iload_n dX10_isShorter_20 rfl rfl ?_
  refine jr_jn (fun J => ∀ (h7 : jH), J h7 = some (rR, hf) → jGo l (d + 0) none RX10 cX10_isShorter 4 (some .boolean) false 43 [none, none, none, none] [] h7 (some (.int rR)) hf) H (fun h7 H => ?_) (fun J43 hJ43 H => ?_)
  · refine jr_iconst (v := 1) dX10_isShorter_43 (by decide) ?_
    refine jr_goto (tgt := 48) dX10_isShorter_44 (by decide) ?_
    exact jr_zret rfl rfl dX10_isShorter_48 H
  · refine jr_if_lt (tgt := 43) dX10_isShorter_21 (by decide) H (fun H => ?_) (fun H => ?_)
    · refine jr_fgt 0 ?_
      refine jr_fgt 1 ?_
      refine jr_fgt 2 ?_
      refine jr_fgt 3 ?_
      exact hJ43 _ H
    · refine jr_iload_n dX10_isShorter_24 rfl rfl ?_
      refine jr_if_ne (tgt := 47) dX10_isShorter_25 (by decide) H (fun H => ?_) (fun H => ?_)
      · refine jr_aload_n dX10_isShorter_28 rfl rfl ?_
        refine jr_getR fl_RX10_77 dX10_isShorter_29 H (fun v8 H => ?_)
        refine jr_iload_n dX10_isShorter_32 rfl rfl ?_
        refine jr_iald dX10_isShorter_33 H (fun v9 H => ?_)
        refine jr_aload_n dX10_isShorter_34 rfl rfl ?_
        refine jr_getR fl_RX10_77 dX10_isShorter_35 H (fun v10 H => ?_)
        refine jr_iload_n dX10_isShorter_38 rfl rfl ?_
        refine jr_iald dX10_isShorter_39 H (fun v11 H => ?_)
        refine jr_icmp_ge (tgt := 47) dX10_isShorter_40 (by decide) H (fun H => ?_) (fun H => ?_)
        · refine jr_iconst (v := 0) dX10_isShorter_47 (by decide) ?_
          exact jr_zret rfl rfl dX10_isShorter_48 H
        · refine jr_fgt 0 ?_
          refine jr_fgt 1 ?_
          refine jr_fgt 2 ?_
          refine jr_fgt 3 ?_
          exact hJ43 _ H
      · refine jr_iconst (v := 0) dX10_isShorter_47 (by decide) ?_
        exact jr_zret rfl rfl dX10_isShorter_48 H
set_option maxRecDepth 100000 in
set_option maxHeartbeats 4000000 in
theorem s_X10_shortest_L47 (l : Launch) (d : Nat) (F : Nat) (x0 : Nat) (x1 : Int32) (x3 : Int32) (k110 : Int32 → jH → Option (Int32 × jH)) {rR : Int32} {hf : jH} (hk110 : ∀ (y4 : Int32) (h : jH), k110 y4 h = some (rR, hf) → jGo l (d + 4) none RX10 cX10_shortest 6 (some .int) false 110 [some (.ref x0), none, none, none, some (.int y4), none] [] h (some (.int rR)) hf) : ∀ (n : Nat) (x4 : Int32) (x5 : Int32) (h : jH), f_X10_shortest_L47 F x0 x1 x3 k110 n x4 x5 h = some (rR, hf) → jGo l (d + 4) none RX10 cX10_shortest 6 (some .int) false 47 [some (.ref x0), some (.int x1), none, some (.int x3), some (.int x4), some (.int x5)] [] h (some (.int rR)) hf := by
  intro n
  induction n with
  | zero =>
    intro x4 x5 h H
    cases H
  | succ n ih =>
    intro x4 x5 h H
    unfold f_X10_shortest_L47 at H
    refine jr_iload dX10_shortest_47 rfl ?_
    refine jr_aload_n dX10_shortest_49 rfl rfl ?_
    refine jr_getR fl_RX10_26 dX10_shortest_50 H (fun v8 H => ?_)
    refine jr_getI fl_RX10_127 (by decide) dX10_shortest_53 H (fun v9 H => ?_)
    refine jr_icmp_ge (tgt := 110) dX10_shortest_56 (by decide) H (fun H => ?_) (fun H => ?_)
    · refine jr_fgt 1 ?_
      refine jr_fgt 3 ?_
      refine jr_fgt 5 ?_
      exact hk110 _ _ H
    · refine jr_aload_n dX10_shortest_59 rfl rfl ?_
      refine jr_getR fl_RX10_26 dX10_shortest_60 H (fun v10 H => ?_)
      refine jr_iload dX10_shortest_63 rfl ?_
      refine jr_iload_n dX10_shortest_65 rfl rfl ?_
      obtain ⟨v12, h11, Hc, H⟩ := j_b2_some H
      refine jr_callV (ci := 3) [.int x5, .int x1] my_X3_means mv_X3_means ml_RX10_279 dX10_shortest_66 rfl rfl (Nat.le_of_ble_eq_true rfl) rfl (c_X3_means l (d + 3) F v10 x5 x1 h v12 h11 Hc) ?_
      refine jr_jn (fun J => ∀ (z13 : Int32) (h14 : jH), J z13 h14 = some (rR, hf) → jGo l (d + 4) none RX10 cX10_shortest 6 (some .int) false 104 [some (.ref x0), some (.int x1), none, some (.int x3), some (.int z13), some (.int x5)] [] h14 (some (.int rR)) hf) H (fun z13 h14 H => ?_) (fun J104 hJ104 H => ?_)
      · refine jr_iinc (v := (x5 + 1)) dX10_shortest_104 rfl rfl (by decide) rfl (Or.inl rfl) ?_
        refine jr_goto (tgt := 47) dX10_shortest_107 (by decide) ?_
        exact ih _ _ _ H
      · refine jr_if_eq (tgt := 104) dX10_shortest_69 (by decide) H (fun H => ?_) (fun H => ?_)
        · exact hJ104 _ _ H
        · refine jr_aload_n dX10_shortest_72 rfl rfl ?_
          refine jr_getR fl_RX10_77 dX10_shortest_73 H (fun v15 H => ?_)
          refine jr_iload dX10_shortest_76 rfl ?_
          refine jr_iald dX10_shortest_78 H (fun v16 H => ?_)
          refine jr_iload_n dX10_shortest_79 rfl rfl ?_
          refine jr_icmp_gt (tgt := 104) dX10_shortest_80 (by decide) H (fun H => ?_) (fun H => ?_)
          · exact hJ104 _ _ H
          · refine jr_iload dX10_shortest_83 rfl ?_
            refine jr_iconst (v := (-1)) dX10_shortest_85 (by decide) ?_
            refine jr_jn (fun J => ∀ (h17 : jH), J h17 = some (rR, hf) → jGo l (d + 4) none RX10 cX10_shortest 6 (some .int) false 100 [some (.ref x0), some (.int x1), none, some (.int x3), none, some (.int x5)] [] h17 (some (.int rR)) hf) H (fun h17 H => ?_) (fun J100 hJ100 H => ?_)
            · refine jr_iload dX10_shortest_100 rfl ?_
              refine jr_istore dX10_shortest_102 (by decide) rfl (Or.inl rfl) ?_
              exact hJ104 _ _ H
            · refine jr_icmp_eq (tgt := 100) dX10_shortest_86 (by decide) H (fun H => ?_) (fun H => ?_)
              · refine jr_fgt 4 ?_
                exact hJ100 _ H
              · refine jr_aload_n dX10_shortest_89 rfl rfl ?_
                refine jr_iload dX10_shortest_90 rfl ?_
                refine jr_iload dX10_shortest_92 rfl ?_
                obtain ⟨v19, h18, Hc, H⟩ := j_b2_some H
                refine jr_callV (ci := 10) [.int x5, .int x4] my_X10_isShorter mv_X10_isShorter ml_RX10_283 dX10_shortest_94 rfl rfl (Nat.le_of_ble_eq_true rfl) rfl (c_X10_isShorter l (d + 3) F x0 x5 x4 h11 v19 h18 Hc) ?_
                refine jr_if_eq (tgt := 104) dX10_shortest_97 (by decide) H (fun H => ?_) (fun H => ?_)
                · exact hJ104 _ _ H
                · refine jr_fgt 4 ?_
                  exact hJ100 _ H
set_option maxRecDepth 100000 in
set_option maxHeartbeats 4000000 in
theorem c_X10_shortest (l : Launch) (d : Nat) (F : Nat) (a0 : Nat) (a1 : Int32) (a2 : Int32) (a3 : Int32) (h : jH) (rR : Int32) (hf : jH) (H : f_X10_shortest F a0 a1 a2 a3 h = some (rR, hf)) : jh_sh h a0 = (10, 0) ∧ jMet l (d + 4) yX10_shortest cX10_shortest 6 (some .int) [.ref a0, .int a1, .int a2, .int a3] h (some (.int rR)) hf := by
  unfold f_X10_shortest at H
  obtain ⟨hsh, H⟩ := j_gd_some H
  refine ⟨hsh, ?_⟩
  refine jMet.of false [some (.ref a0), some (.int a1), some (.int a2), some (.int a3), none, none] rfl (by decide) (by decide) (Nat.le_of_ble_eq_true rfl) (fun S0 q hq => by simpa [j_l, lv_args, j_v, Value.category] using hq) ?_
  refine jr_iload_n dX10_shortest_0 rfl rfl ?_
  obtain ⟨v2, h1, Hc, H⟩ := j_b2_some H
  refine jr_callS [.int a1] my_X10_isMeaning ms_X10_isMeaning ml_RX10_250 dX10_shortest_1 rfl rfl (Nat.le_of_ble_eq_true rfl) (c_X10_isMeaning l (d + 3) F a1 h v2 h1 Hc) ?_
  refine jr_if_eq (tgt := 26) dX10_shortest_4 (by decide) H (fun H => ?_) (fun H => ?_)
  · refine jr_iconst (v := (-1)) dX10_shortest_26 (by decide) ?_
    exact jr_iret rfl dX10_shortest_27 H
  · refine jr_aload_n dX10_shortest_7 rfl rfl ?_
    refine jr_iload_n dX10_shortest_8 rfl rfl ?_
    obtain ⟨v4, h3, Hc, H⟩ := j_b2_some H
    refine jr_callV (ci := 10) [.int a2] my_X10_isStation mv_X10_isStation ml_RX10_191 dX10_shortest_9 rfl rfl (Nat.le_of_ble_eq_true rfl) rfl (c_X10_isStation l (d + 3) F a0 a2 h1 v4 h3 Hc) ?_
    refine jr_if_eq (tgt := 26) dX10_shortest_12 (by decide) H (fun H => ?_) (fun H => ?_)
    · refine jr_iconst (v := (-1)) dX10_shortest_26 (by decide) ?_
      exact jr_iret rfl dX10_shortest_27 H
    · refine jr_iload_n dX10_shortest_15 rfl rfl ?_
      refine jr_if_lt (tgt := 26) dX10_shortest_16 (by decide) H (fun H => ?_) (fun H => ?_)
      · refine jr_iconst (v := (-1)) dX10_shortest_26 (by decide) ?_
        exact jr_iret rfl dX10_shortest_27 H
      · refine jr_iload_n dX10_shortest_19 rfl rfl ?_
        refine jr_sipush (v := 9999) dX10_shortest_20 (by decide) ?_
        refine jr_icmp_le (tgt := 28) dX10_shortest_23 (by decide) H (fun H => ?_) (fun H => ?_)
        · refine jr_aload_n dX10_shortest_28 rfl rfl ?_
          refine jr_aload_n dX10_shortest_29 rfl rfl ?_
          refine jr_getR fl_RX10_92 dX10_shortest_30 H (fun v5 H => ?_)
          refine jr_iload_n dX10_shortest_33 rfl rfl ?_
          refine jr_aload_n dX10_shortest_34 rfl rfl ?_
          refine jr_getR fl_RX10_77 dX10_shortest_35 H (fun v6 H => ?_)
          obtain ⟨h7, Hc, H⟩ := Option.bind_eq_some_iff.mp H
          refine jr_callV (ci := 10) [.ref v5, .int a2, .ref v6] my_X10_priceAll mv_X10_priceAll ml_RX10_253 dX10_shortest_38 rfl rfl (Nat.le_of_ble_eq_true rfl) rfl (c_X10_priceAll l d F a0 v5 a2 v6 h3 h7 Hc) ?_
          refine jr_iconst (v := (-1)) dX10_shortest_41 (by decide) ?_
          refine jr_istore dX10_shortest_42 (by decide) rfl (Or.inl rfl) ?_
          refine jr_iconst (v := 0) dX10_shortest_44 (by decide) ?_
          refine jr_istore dX10_shortest_45 (by decide) rfl (Or.inl rfl) ?_
          refine jr_fgt 2 ?_
          refine s_X10_shortest_L47 l d F a0 a1 a3 _ (fun y20 h21 H => ?_) F (-1) 0 h7 H
          · refine jr_iload dX10_shortest_110 rfl ?_
            refine jr_iconst (v := (-1)) dX10_shortest_112 (by decide) ?_
            refine jr_icmp_ne (tgt := 119) dX10_shortest_113 (by decide) H (fun H => ?_) (fun H => ?_)
            · refine jr_bipush (v := (-2)) dX10_shortest_116 (by decide) ?_
              exact jr_iret rfl dX10_shortest_118 H
            · refine jr_aload_n dX10_shortest_119 rfl rfl ?_
              refine jr_getR fl_RX10_19 dX10_shortest_120 H (fun v22 H => ?_)
              refine jr_aload_n dX10_shortest_123 rfl rfl ?_
              refine jr_getR fl_RX10_26 dX10_shortest_124 H (fun v23 H => ?_)
              refine jr_getR fl_RX10_142 dX10_shortest_127 H (fun v24 H => ?_)
              refine jr_iload dX10_shortest_130 rfl ?_
              refine jr_iald dX10_shortest_132 H (fun v25 H => ?_)
              refine jr_i2l dX10_shortest_133 ?_
              refine jr_aload_n dX10_shortest_134 rfl rfl ?_
              refine jr_getR fl_RX10_77 dX10_shortest_135 H (fun v26 H => ?_)
              refine jr_iload dX10_shortest_138 rfl ?_
              refine jr_iald dX10_shortest_140 H (fun v27 H => ?_)
              refine jr_i2l dX10_shortest_141 ?_
              obtain ⟨h28, Hc, H⟩ := Option.bind_eq_some_iff.mp H
              refine jr_callV (ci := 6) [.long (v25.toInt64), .long (v27.toInt64)] my_X6_tell_ mv_X6_tell_ ml_RX10_242 dX10_shortest_142 rfl rfl (Nat.le_of_ble_eq_true rfl) rfl (c_X6_tell_ l (d + 2) F v22 (v25.toInt64) (v27.toInt64) h21 h28 Hc) ?_
              refine jr_iload dX10_shortest_145 rfl ?_
              exact jr_iret rfl dX10_shortest_147 H
        · refine jr_iconst (v := (-1)) dX10_shortest_26 (by decide) ?_
          exact jr_iret rfl dX10_shortest_27 H
set_option maxRecDepth 100000 in
set_option maxHeartbeats 4000000 in
theorem s_X0_fewest_L2 (l : Launch) (d : Nat) (F : Nat) (x0 : Nat) (x1 : Int32) (x2 : Int32) (k20 : jH → Option (Int32 × jH)) {rR : Int32} {hf : jH} (hk20 : ∀ (h : jH), k20 h = some (rR, hf) → jGo l (d + 1) none RX0 cX0_fewest 7 (some .int) false 20 [some (.ref x0), some (.int x1), some (.int x2), none, none, none, none] [] h (some (.int rR)) hf) : ∀ (n : Nat) (x3 : Int32) (h : jH), f_X0_fewest_L2 F x0 x1 x2 k20 n x3 h = some (rR, hf) → jGo l (d + 1) none RX0 cX0_fewest 7 (some .int) false 2 [some (.ref x0), some (.int x1), some (.int x2), some (.int x3), none, none, none] [] h (some (.int rR)) hf := by
  intro n
  induction n with
  | zero =>
    intro x3 h H
    cases H
  | succ n ih =>
    intro x3 h H
    unfold f_X0_fewest_L2 at H
    refine jr_iload_n dX0_fewest_2 rfl rfl ?_
    refine jr_iload_n dX0_fewest_3 rfl rfl ?_
    refine jr_icmp_gt (tgt := 20) dX0_fewest_4 (by decide) H (fun H => ?_) (fun H => ?_)
    · refine jr_fgt 3 ?_
      exact hk20 _ H
    · refine jr_aload_n dX0_fewest_7 rfl rfl ?_
      refine jr_getR fl_RX0_18 dX0_fewest_8 H (fun v1 H => ?_)
      refine jr_iload_n dX0_fewest_11 rfl rfl ?_
      refine jr_iload_n dX0_fewest_12 rfl rfl ?_
      refine jr_iast dX0_fewest_13 H (fun h2 H => ?_)
      refine jr_iinc (v := (x3 + 1)) dX0_fewest_14 rfl rfl (by decide) rfl (Or.inl rfl) ?_
      refine jr_goto (tgt := 2) dX0_fewest_17 (by decide) ?_
      exact ih _ _ H
set_option maxRecDepth 100000 in
set_option maxHeartbeats 4000000 in
theorem s_X0_fewest_L45 (l : Launch) (d : Nat) (F : Nat) (x0 : Nat) (x1 : Int32) (x2 : Int32) (x3 : Int32) (k129 : jH → Option (Int32 × jH)) {rR : Int32} {hf : jH} (hk129 : ∀ (h : jH), k129 h = some (rR, hf) → jGo l (d + 1) none RX0 cX0_fewest 7 (some .int) false 129 [some (.ref x0), some (.int x1), some (.int x2), some (.int x3), none, none, none] [] h (some (.int rR)) hf) : ∀ (n : Nat) (x4 : Int32) (x5 : Int32) (h : jH), f_X0_fewest_L45 F x0 x1 x2 x3 k129 n x4 x5 h = some (rR, hf) → jGo l (d + 1) none RX0 cX0_fewest 7 (some .int) false 45 [some (.ref x0), some (.int x1), some (.int x2), some (.int x3), some (.int x4), some (.int x5), none] [] h (some (.int rR)) hf := by
  intro n
  induction n with
  | zero =>
    intro x4 x5 h H
    cases H
  | succ n ih =>
    intro x4 x5 h H
    unfold f_X0_fewest_L45 at H
    refine jr_iload dX0_fewest_45 rfl ?_
    refine jr_iload_n dX0_fewest_47 rfl rfl ?_
    refine jr_icmp_gt (tgt := 129) dX0_fewest_48 (by decide) H (fun H => ?_) (fun H => ?_)
    · refine jr_fgt 4 ?_
      refine jr_fgt 5 ?_
      exact hk129 _ H
    · refine jr_iload dX0_fewest_51 rfl ?_
      refine jr_aload_n dX0_fewest_53 rfl rfl ?_
      refine jr_getR fl_RX0_9 dX0_fewest_54 H (fun v8 H => ?_)
      refine jr_iload_n dX0_fewest_57 rfl rfl ?_
      refine jr_iconst (v := 1) dX0_fewest_58 (by decide) ?_
      refine jr_isub dX0_fewest_59 ?_
      refine jr_iald dX0_fewest_60 H (fun v9 H => ?_)
      refine jr_aload_n dX0_fewest_61 rfl rfl ?_
      refine jr_getR fl_RX0_15 dX0_fewest_62 H (fun v10 H => ?_)
      refine jr_iload dX0_fewest_65 rfl ?_
      refine jr_iconst (v := 1) dX0_fewest_67 (by decide) ?_
      refine jr_isub dX0_fewest_68 ?_
      refine jr_iald dX0_fewest_69 H (fun v11 H => ?_)
      refine jr_jn (fun J => ∀ (s12 : Int32) (s13 : Int32) (h14 : jH), J s12 s13 h14 = some (rR, hf) → jGo l (d + 1) none RX0 cX0_fewest 7 (some .int) false 78 [some (.ref x0), some (.int x1), some (.int x2), some (.int x3), none, some (.int x5), none] [.int s12, .int s13] h14 (some (.int rR)) hf) H (fun s12 s13 h14 H => ?_) (fun J78 hJ78 H => ?_)
      · refine jr_iadd dX0_fewest_78 ?_
        refine jr_istore dX0_fewest_79 (by decide) rfl (Or.inl rfl) ?_
        refine jr_aload_n dX0_fewest_81 rfl rfl ?_
        refine jr_getR fl_RX0_18 dX0_fewest_82 H (fun v15 H => ?_)
        refine jr_iload dX0_fewest_85 rfl ?_
        refine jr_iald dX0_fewest_87 H (fun v16 H => ?_)
        refine jr_istore dX0_fewest_88 (by decide) rfl (Or.inl rfl) ?_
        refine jr_aload_n dX0_fewest_90 rfl rfl ?_
        refine jr_getR fl_RX0_18 dX0_fewest_91 H (fun v17 H => ?_)
        refine jr_iload dX0_fewest_94 rfl ?_
        refine jr_iload dX0_fewest_96 rfl ?_
        refine jr_aload_n dX0_fewest_98 rfl rfl ?_
        refine jr_getR fl_RX0_18 dX0_fewest_99 H (fun v18 H => ?_)
        refine jr_iload dX0_fewest_102 rfl ?_
        refine jr_iald dX0_fewest_104 H (fun v19 H => ?_)
        refine jr_aload_n dX0_fewest_105 rfl rfl ?_
        refine jr_getR fl_RX0_18 dX0_fewest_106 H (fun v20 H => ?_)
        refine jr_iload dX0_fewest_109 rfl ?_
        refine jr_iconst (v := 1) dX0_fewest_111 (by decide) ?_
        refine jr_isub dX0_fewest_112 ?_
        refine jr_iald dX0_fewest_113 H (fun v21 H => ?_)
        refine jr_mmin ml_RX0_44 mm_mmin_s mm_i mm_mmin_c dX0_fewest_114 (Nat.le_of_ble_eq_true rfl) ?_
        refine jr_iconst (v := 1) dX0_fewest_117 (by decide) ?_
        refine jr_iadd dX0_fewest_118 ?_
        refine jr_mmin ml_RX0_44 mm_mmin_s mm_i mm_mmin_c dX0_fewest_119 (Nat.le_of_ble_eq_true rfl) ?_
        refine jr_iast dX0_fewest_122 H (fun h22 H => ?_)
        refine jr_iinc (v := (x5 + 1)) dX0_fewest_123 rfl rfl (by decide) rfl (Or.inl rfl) ?_
        refine jr_goto (tgt := 45) dX0_fewest_126 (by decide) ?_
        refine jr_fgt 6 ?_
        exact ih _ _ _ H
      · refine jr_icmp_ne (tgt := 77) dX0_fewest_70 (by decide) H (fun H => ?_) (fun H => ?_)
        · refine jr_iconst (v := 0) dX0_fewest_73 (by decide) ?_
          refine jr_goto (tgt := 78) dX0_fewest_74 (by decide) ?_
          refine jr_fgt 4 ?_
          exact hJ78 _ _ _ H
        · refine jr_iconst (v := 1) dX0_fewest_77 (by decide) ?_
          refine jr_fgt 4 ?_
          exact hJ78 _ _ _ H
set_option maxRecDepth 100000 in
set_option maxHeartbeats 4000000 in
theorem s_X0_fewest_L22 (l : Launch) (d : Nat) (F : Nat) (x0 : Nat) (x1 : Int32) (x2 : Int32) (k135 : jH → Option (Int32 × jH)) {rR : Int32} {hf : jH} (hk135 : ∀ (h : jH), k135 h = some (rR, hf) → jGo l (d + 1) none RX0 cX0_fewest 7 (some .int) false 135 [some (.ref x0), none, some (.int x2), none, none, none, none] [] h (some (.int rR)) hf) : ∀ (n : Nat) (x3 : Int32) (h : jH), f_X0_fewest_L22 F x0 x1 x2 k135 n x3 h = some (rR, hf) → jGo l (d + 1) none RX0 cX0_fewest 7 (some .int) false 22 [some (.ref x0), some (.int x1), some (.int x2), some (.int x3), none, none, none] [] h (some (.int rR)) hf := by
  intro n
  induction n with
  | zero =>
    intro x3 h H
    cases H
  | succ n ih =>
    intro x3 h H
    unfold f_X0_fewest_L22 at H
    refine jr_iload_n dX0_fewest_22 rfl rfl ?_
    refine jr_iload_n dX0_fewest_23 rfl rfl ?_
    refine jr_icmp_gt (tgt := 135) dX0_fewest_24 (by decide) H (fun H => ?_) (fun H => ?_)
    · refine jr_fgt 1 ?_
      refine jr_fgt 3 ?_
      exact hk135 _ H
    · refine jr_aload_n dX0_fewest_27 rfl rfl ?_
      refine jr_getR fl_RX0_18 dX0_fewest_28 H (fun v4 H => ?_)
      refine jr_iconst (v := 0) dX0_fewest_31 (by decide) ?_
      refine jr_iald dX0_fewest_32 H (fun v5 H => ?_)
      refine jr_istore dX0_fewest_33 (by decide) rfl (Or.inl rfl) ?_
      refine jr_aload_n dX0_fewest_35 rfl rfl ?_
      refine jr_getR fl_RX0_18 dX0_fewest_36 H (fun v6 H => ?_)
      refine jr_iconst (v := 0) dX0_fewest_39 (by decide) ?_
      refine jr_iload_n dX0_fewest_40 rfl rfl ?_
      refine jr_iast dX0_fewest_41 H (fun h7 H => ?_)
      refine jr_iconst (v := 1) dX0_fewest_42 (by decide) ?_
      refine jr_istore dX0_fewest_43 (by decide) rfl (Or.inl rfl) ?_
      refine s_X0_fewest_L45 l d F x0 x1 x2 x3 _ (fun h23 H => ?_) F v5 1 h7 H
      · refine jr_iinc (v := (x3 + 1)) dX0_fewest_129 rfl rfl (by decide) rfl (Or.inl rfl) ?_
        refine jr_goto (tgt := 22) dX0_fewest_132 (by decide) ?_
        exact ih _ _ H
set_option maxRecDepth 100000 in
set_option maxHeartbeats 4000000 in
theorem c_X0_fewest (l : Launch) (d : Nat) (F : Nat) (a0 : Nat) (a1 : Int32) (a2 : Int32) (h : jH) (rR : Int32) (hf : jH) (H : f_X0_fewest F a0 a1 a2 h = some (rR, hf)) : jh_sh h a0 = (0, 0) ∧ jMet l (d + 1) yX0_fewest cX0_fewest 7 (some .int) [.ref a0, .int a1, .int a2] h (some (.int rR)) hf := by
  unfold f_X0_fewest at H
  obtain ⟨hsh, H⟩ := j_gd_some H
  refine ⟨hsh, ?_⟩
  refine jMet.of false [some (.ref a0), some (.int a1), some (.int a2), none, none, none, none] rfl (by decide) (by decide) (Nat.le_of_ble_eq_true rfl) (fun S0 q hq => by simpa [j_l, lv_args, j_v, Value.category] using hq) ?_
  refine jr_iconst (v := 0) dX0_fewest_0 (by decide) ?_
  refine jr_istore_n dX0_fewest_1 rfl (by decide) rfl (Or.inl rfl) ?_
  refine s_X0_fewest_L2 l d F a0 a1 a2 _ (fun h3 H => ?_) F 0 h H
  · refine jr_iconst (v := 1) dX0_fewest_20 (by decide) ?_
    refine jr_istore_n dX0_fewest_21 rfl (by decide) rfl (Or.inl rfl) ?_
    refine s_X0_fewest_L22 l d F a0 a1 a2 _ (fun h24 H => ?_) F 1 h3 H
    · refine jr_aload_n dX0_fewest_135 rfl rfl ?_
      refine jr_getR fl_RX0_18 dX0_fewest_136 H (fun v25 H => ?_)
      refine jr_iload_n dX0_fewest_139 rfl rfl ?_
      refine jr_iald dX0_fewest_140 H (fun v26 H => ?_)
      exact jr_iret rfl dX0_fewest_141 H
set_option maxRecDepth 100000 in
set_option maxHeartbeats 4000000 in
theorem s_X0_spell_L6 (l : Launch) (d : Nat) (F : Nat) (x0 : Nat) (x1 : Int32) (x2 : Nat) (x3 : Int32) {rR : Int32} {hf : jH} : ∀ (n : Nat) (x4 : Int32) (x5 : Int32) (h : jH), f_X0_spell_L6 F x0 x1 x2 x3 n x4 x5 h = some (rR, hf) → jGo l (d + 1) none RX0 cX0_spell 7 (some .int) false 6 [some (.ref x0), some (.int x1), some (.ref x2), some (.int x3), some (.int x4), some (.int x5), none] [] h (some (.int rR)) hf := by
  intro n
  induction n with
  | zero =>
    intro x4 x5 h H
    cases H
  | succ n ih =>
    intro x4 x5 h H
    unfold f_X0_spell_L6 at H
    refine jr_iload dX0_spell_6 rfl ?_
    refine jr_aload_n dX0_spell_8 rfl rfl ?_
    refine jr_getR fl_RX0_32 dX0_spell_9 H (fun v1 H => ?_)
    refine jr_iload_n dX0_spell_12 rfl rfl ?_
    refine jr_iald dX0_spell_13 H (fun v2 H => ?_)
    refine jr_icmp_ge (tgt := 53) dX0_spell_14 (by decide) H (fun H => ?_) (fun H => ?_)
    · refine jr_iload dX0_spell_53 rfl ?_
      exact jr_iret rfl dX0_spell_55 H
    · refine jr_aload_n dX0_spell_17 rfl rfl ?_
      refine jr_iload_n dX0_spell_18 rfl rfl ?_
      refine jr_iload dX0_spell_19 rfl ?_
      obtain ⟨v4, h3, Hc, H⟩ := j_b2_some H
      refine jr_callV (ci := 3) [.int x1, .int x5] my_X3_letter mv_X3_letter ml_RX0_37 dX0_spell_21 rfl rfl (Nat.le_of_ble_eq_true rfl) rfl (c_X3_letter l d F x0 x1 x5 h v4 h3 Hc) ?_
      refine jr_istore dX0_spell_24 (by decide) rfl (Or.inl rfl) ?_
      refine jr_iload_n dX0_spell_26 rfl rfl ?_
      refine jr_jn (fun J => ∀ (z5 : Int32) (h6 : jH), J z5 h6 = some (rR, hf) → jGo l (d + 1) none RX0 cX0_spell 7 (some .int) false 47 [some (.ref x0), some (.int x1), some (.ref x2), some (.int x3), some (.int z5), some (.int x5), none] [] h6 (some (.int rR)) hf) H (fun z5 h6 H => ?_) (fun J47 hJ47 H => ?_)
      · refine jr_iinc (v := (x5 + 1)) dX0_spell_47 rfl rfl (by decide) rfl (Or.inl rfl) ?_
        refine jr_goto (tgt := 6) dX0_spell_50 (by decide) ?_
        exact ih _ _ _ H
      · refine jr_jn (fun J => ∀ (h7 : jH), J h7 = some (rR, hf) → jGo l (d + 1) none RX0 cX0_spell 7 (some .int) false 38 [some (.ref x0), some (.int x1), some (.ref x2), some (.int x3), some (.int x4), some (.int x5), some (.int v4)] [] h7 (some (.int rR)) hf) H (fun h7 H => ?_) (fun J38 hJ38 H => ?_)
        · refine jr_aload_n dX0_spell_38 rfl rfl ?_
          refine jr_iload dX0_spell_39 rfl ?_
          refine jr_iload dX0_spell_41 rfl ?_
          refine jr_iast dX0_spell_43 H (fun h8 H => ?_)
          refine jr_iinc (v := (x4 + 1)) dX0_spell_44 rfl rfl (by decide) rfl (Or.inl rfl) ?_
          refine jr_fgt 6 ?_
          exact hJ47 _ _ H
        · refine jr_if_eq (tgt := 38) dX0_spell_27 (by decide) H (fun H => ?_) (fun H => ?_)
          · exact hJ38 _ H
          · refine jr_iload dX0_spell_30 rfl ?_
            obtain ⟨v10, h9, Hc, H⟩ := j_b2_some H
            refine jr_callS [.int v4] my_X3_vowelOf ms_X3_vowelOf ml_RX0_40 dX0_spell_32 rfl rfl (Nat.le_of_ble_eq_true rfl) (c_X3_vowelOf l d F v4 h3 v10 h9 Hc) ?_
            refine jr_if_lt (tgt := 47) dX0_spell_35 (by decide) H (fun H => ?_) (fun H => ?_)
            · refine jr_fgt 6 ?_
              exact hJ47 _ _ H
            · exact hJ38 _ H
set_option maxRecDepth 100000 in
set_option maxHeartbeats 4000000 in
theorem c_X0_spell (l : Launch) (d : Nat) (F : Nat) (a0 : Nat) (a1 : Int32) (a2 : Nat) (a3 : Int32) (h : jH) (rR : Int32) (hf : jH) (H : f_X0_spell F a0 a1 a2 a3 h = some (rR, hf)) : jMet l (d + 1) yX0_spell cX0_spell 7 (some .int) [.ref a0, .int a1, .ref a2, .int a3] h (some (.int rR)) hf := by
  unfold f_X0_spell at H
  refine jMet.of false [some (.ref a0), some (.int a1), some (.ref a2), some (.int a3), none, none, none] rfl (by decide) (by decide) (Nat.le_of_ble_eq_true rfl) (fun S0 q hq => by simpa [j_l, lv_args, j_v, Value.category] using hq) ?_
  refine jr_iconst (v := 0) dX0_spell_0 (by decide) ?_
  refine jr_istore dX0_spell_1 (by decide) rfl (Or.inl rfl) ?_
  refine jr_iconst (v := 0) dX0_spell_3 (by decide) ?_
  refine jr_istore dX0_spell_4 (by decide) rfl (Or.inl rfl) ?_
  exact s_X0_spell_L6 l d F a0 a1 a2 a3 F 0 0 h H
set_option maxRecDepth 100000 in
set_option maxHeartbeats 4000000 in
theorem c_X0_ofLetters (l : Launch) (d : Nat) (F : Nat) (a0 : Nat) (a1 : Nat) (a2 : Int32) (a3 : Int32) (h : jH) (rR : Int32) (hf : jH) (H : f_X0_ofLetters F a0 a1 a2 a3 h = some (rR, hf)) : jh_sh h a0 = (0, 0) ∧ jMet l (d + 2) yX0_ofLetters cX0_ofLetters 4 (some .int) [.ref a0, .ref a1, .int a2, .int a3] h (some (.int rR)) hf := by
  unfold f_X0_ofLetters at H
  obtain ⟨hsh, H⟩ := j_gd_some H
  refine ⟨hsh, ?_⟩
  refine jMet.of false [some (.ref a0), some (.ref a1), some (.int a2), some (.int a3)] rfl (by decide) (by decide) (Nat.le_of_ble_eq_true rfl) (fun S0 q hq => by simpa [j_l, lv_args, j_v, Value.category] using hq) ?_
  refine jr_aload_n dX0_ofLetters_0 rfl rfl ?_
  refine jr_aload_n dX0_ofLetters_1 rfl rfl ?_
  refine jr_iload_n dX0_ofLetters_2 rfl rfl ?_
  refine jr_aload_n dX0_ofLetters_3 rfl rfl ?_
  refine jr_getR fl_RX0_9 dX0_ofLetters_4 H (fun v1 H => ?_)
  refine jr_iconst (v := 0) dX0_ofLetters_7 (by decide) ?_
  obtain ⟨v3, h2, Hc, H⟩ := j_b2_some H
  refine jr_callS [.ref a1, .int a2, .ref v1, .int 0] my_X0_spell ms_X0_spell ml_RX0_24 dX0_ofLetters_8 rfl rfl (Nat.le_of_ble_eq_true rfl) (c_X0_spell l d F a1 a2 v1 0 h v3 h2 Hc) ?_
  refine jr_aload_n dX0_ofLetters_11 rfl rfl ?_
  refine jr_iload_n dX0_ofLetters_12 rfl rfl ?_
  refine jr_aload_n dX0_ofLetters_13 rfl rfl ?_
  refine jr_getR fl_RX0_15 dX0_ofLetters_14 H (fun v4 H => ?_)
  refine jr_iconst (v := 0) dX0_ofLetters_17 (by decide) ?_
  obtain ⟨v6, h5, Hc, H⟩ := j_b2_some H
  refine jr_callS [.ref a1, .int a3, .ref v4, .int 0] my_X0_spell ms_X0_spell ml_RX0_24 dX0_ofLetters_18 rfl rfl (Nat.le_of_ble_eq_true rfl) (c_X0_spell l d F a1 a3 v4 0 h2 v6 h5 Hc) ?_
  obtain ⟨v8, h7, Hc, H⟩ := j_b2_some H
  refine jr_callV (ci := 0) [.int v3, .int v6] my_X0_fewest mv_X0_fewest ml_RX0_28 dX0_ofLetters_21 rfl rfl (Nat.le_of_ble_eq_true rfl) rfl (c_X0_fewest l d F a0 v3 v6 h5 v8 h7 Hc) ?_
  exact jr_iret rfl dX0_ofLetters_24 H
set_option maxRecDepth 100000 in
set_option maxHeartbeats 4000000 in
theorem c_X0_ofVowels (l : Launch) (d : Nat) (F : Nat) (a0 : Nat) (a1 : Nat) (a2 : Int32) (a3 : Int32) (h : jH) (rR : Int32) (hf : jH) (H : f_X0_ofVowels F a0 a1 a2 a3 h = some (rR, hf)) : jh_sh h a0 = (0, 0) ∧ jMet l (d + 2) yX0_ofVowels cX0_ofVowels 4 (some .int) [.ref a0, .ref a1, .int a2, .int a3] h (some (.int rR)) hf := by
  unfold f_X0_ofVowels at H
  obtain ⟨hsh, H⟩ := j_gd_some H
  refine ⟨hsh, ?_⟩
  refine jMet.of false [some (.ref a0), some (.ref a1), some (.int a2), some (.int a3)] rfl (by decide) (by decide) (Nat.le_of_ble_eq_true rfl) (fun S0 q hq => by simpa [j_l, lv_args, j_v, Value.category] using hq) ?_
  refine jr_aload_n dX0_ofVowels_0 rfl rfl ?_
  refine jr_aload_n dX0_ofVowels_1 rfl rfl ?_
  refine jr_iload_n dX0_ofVowels_2 rfl rfl ?_
  refine jr_aload_n dX0_ofVowels_3 rfl rfl ?_
  refine jr_getR fl_RX0_9 dX0_ofVowels_4 H (fun v1 H => ?_)
  refine jr_iconst (v := 1) dX0_ofVowels_7 (by decide) ?_
  obtain ⟨v3, h2, Hc, H⟩ := j_b2_some H
  refine jr_callS [.ref a1, .int a2, .ref v1, .int 1] my_X0_spell ms_X0_spell ml_RX0_24 dX0_ofVowels_8 rfl rfl (Nat.le_of_ble_eq_true rfl) (c_X0_spell l d F a1 a2 v1 1 h v3 h2 Hc) ?_
  refine jr_aload_n dX0_ofVowels_11 rfl rfl ?_
  refine jr_iload_n dX0_ofVowels_12 rfl rfl ?_
  refine jr_aload_n dX0_ofVowels_13 rfl rfl ?_
  refine jr_getR fl_RX0_15 dX0_ofVowels_14 H (fun v4 H => ?_)
  refine jr_iconst (v := 1) dX0_ofVowels_17 (by decide) ?_
  obtain ⟨v6, h5, Hc, H⟩ := j_b2_some H
  refine jr_callS [.ref a1, .int a3, .ref v4, .int 1] my_X0_spell ms_X0_spell ml_RX0_24 dX0_ofVowels_18 rfl rfl (Nat.le_of_ble_eq_true rfl) (c_X0_spell l d F a1 a3 v4 1 h2 v6 h5 Hc) ?_
  obtain ⟨v8, h7, Hc, H⟩ := j_b2_some H
  refine jr_callV (ci := 0) [.int v3, .int v6] my_X0_fewest mv_X0_fewest ml_RX0_28 dX0_ofVowels_21 rfl rfl (Nat.le_of_ble_eq_true rfl) rfl (c_X0_fewest l d F a0 v3 v6 h5 v8 h7 Hc) ?_
  exact jr_iret rfl dX0_ofVowels_24 H
set_option maxRecDepth 100000 in
set_option maxHeartbeats 4000000 in
theorem c_X10_differ (l : Launch) (d : Nat) (F : Nat) (a0 : Nat) (a1 : Int32) (a2 : Int32) (h : jH) (rR : Int32) (hf : jH) (H : f_X10_differ F a0 a1 a2 h = some (rR, hf)) : jh_sh h a0 = (10, 0) ∧ jMet l (d + 3) yX10_differ cX10_differ 3 (some .int) [.ref a0, .int a1, .int a2] h (some (.int rR)) hf := by
  unfold f_X10_differ at H
  obtain ⟨hsh, H⟩ := j_gd_some H
  refine ⟨hsh, ?_⟩
  refine jMet.of false [some (.ref a0), some (.int a1), some (.int a2)] rfl (by decide) (by decide) (Nat.le_of_ble_eq_true rfl) (fun S0 q hq => by simpa [j_l, lv_args, j_v, Value.category] using hq) ?_
  refine jr_aload_n dX10_differ_0 rfl rfl ?_
  refine jr_iload_n dX10_differ_1 rfl rfl ?_
  obtain ⟨v2, h1, Hc, H⟩ := j_b2_some H
  refine jr_callV (ci := 10) [.int a1] my_X10_isWord mv_X10_isWord ml_RX10_136 dX10_differ_2 rfl rfl (Nat.le_of_ble_eq_true rfl) rfl (c_X10_isWord l (d + 2) F a0 a1 h v2 h1 Hc) ?_
  refine jr_if_eq (tgt := 16) dX10_differ_5 (by decide) H (fun H => ?_) (fun H => ?_)
  · refine jr_iconst (v := (-1)) dX10_differ_16 (by decide) ?_
    exact jr_iret rfl dX10_differ_17 H
  · refine jr_aload_n dX10_differ_8 rfl rfl ?_
    refine jr_iload_n dX10_differ_9 rfl rfl ?_
    obtain ⟨v4, h3, Hc, H⟩ := j_b2_some H
    refine jr_callV (ci := 10) [.int a2] my_X10_isWord mv_X10_isWord ml_RX10_136 dX10_differ_10 rfl rfl (Nat.le_of_ble_eq_true rfl) rfl (c_X10_isWord l (d + 2) F a0 a2 h1 v4 h3 Hc) ?_
    refine jr_if_ne (tgt := 18) dX10_differ_13 (by decide) H (fun H => ?_) (fun H => ?_)
    · refine jr_iconst (v := (-1)) dX10_differ_16 (by decide) ?_
      exact jr_iret rfl dX10_differ_17 H
    · refine jr_aload_n dX10_differ_18 rfl rfl ?_
      refine jr_getR fl_RX10_19 dX10_differ_19 H (fun v5 H => ?_)
      refine jr_aload_n dX10_differ_22 rfl rfl ?_
      refine jr_getR fl_RX10_62 dX10_differ_23 H (fun v6 H => ?_)
      refine jr_aload_n dX10_differ_26 rfl rfl ?_
      refine jr_getR fl_RX10_26 dX10_differ_27 H (fun v7 H => ?_)
      refine jr_iload_n dX10_differ_30 rfl rfl ?_
      refine jr_iload_n dX10_differ_31 rfl rfl ?_
      obtain ⟨v9, h8, Hc, H⟩ := j_b2_some H
      refine jr_callV (ci := 0) [.ref v7, .int a1, .int a2] my_X0_ofVowels mv_X0_ofVowels ml_RX10_286 dX10_differ_32 rfl rfl (Nat.le_of_ble_eq_true rfl) rfl (c_X0_ofVowels l d F v6 v7 a1 a2 h3 v9 h8 Hc) ?_
      refine jr_i2l dX10_differ_35 ?_
      obtain ⟨h10, Hc, H⟩ := Option.bind_eq_some_iff.mp H
      refine jr_callV (ci := 6) [.long (v9.toInt64)] my_X6_tell mv_X6_tell ml_RX10_236 dX10_differ_36 rfl rfl (Nat.le_of_ble_eq_true rfl) rfl (c_X6_tell l (d + 1) F v5 (v9.toInt64) h8 h10 Hc) ?_
      refine jr_aload_n dX10_differ_39 rfl rfl ?_
      refine jr_getR fl_RX10_62 dX10_differ_40 H (fun v11 H => ?_)
      refine jr_aload_n dX10_differ_43 rfl rfl ?_
      refine jr_getR fl_RX10_26 dX10_differ_44 H (fun v12 H => ?_)
      refine jr_iload_n dX10_differ_47 rfl rfl ?_
      refine jr_iload_n dX10_differ_48 rfl rfl ?_
      obtain ⟨v14, h13, Hc, H⟩ := j_b2_some H
      refine jr_callV (ci := 0) [.ref v12, .int a1, .int a2] my_X0_ofLetters mv_X0_ofLetters ml_RX10_290 dX10_differ_49 rfl rfl (Nat.le_of_ble_eq_true rfl) rfl (c_X0_ofLetters l d F v11 v12 a1 a2 h10 v14 h13 Hc) ?_
      exact jr_iret rfl dX10_differ_52 H
set_option maxRecDepth 100000 in
set_option maxHeartbeats 4000000 in
theorem c_X3_shareMeaning (l : Launch) (d : Nat) (F : Nat) (a0 : Nat) (a1 : Int32) (a2 : Int32) (h : jH) (rR : Int32) (hf : jH) (H : f_X3_shareMeaning F a0 a1 a2 h = some (rR, hf)) : jh_sh h a0 = (3, 0) ∧ jMet l (d + 1) yX3_shareMeaning cX3_shareMeaning 3 (some .boolean) [.ref a0, .int a1, .int a2] h (some (.int rR)) hf := by
  unfold f_X3_shareMeaning at H
  obtain ⟨hsh, H⟩ := j_gd_some H
  refine ⟨hsh, ?_⟩
  refine jMet.of false [some (.ref a0), some (.int a1), some (.int a2)] rfl (by decide) (by decide) (Nat.le_of_ble_eq_true rfl) (fun S0 q hq => by simpa [j_l, lv_args, j_v, Value.category] using hq) ?_
  refine jr_aload_n dX3_shareMeaning_0 rfl rfl ?_
  refine jr_iload_n dX3_shareMeaning_1 rfl rfl ?_
  refine jr_aload_n dX3_shareMeaning_2 rfl rfl ?_
  refine jr_getR fl_RX3_15 dX3_shareMeaning_3 H (fun v1 H => ?_)
  refine jr_iload_n dX3_shareMeaning_6 rfl rfl ?_
  refine jr_iald dX3_shareMeaning_7 H (fun v2 H => ?_)
  obtain ⟨v4, h3, Hc, H⟩ := j_b2_some H
  refine jr_callV (ci := 3) [.int a1, .int v2] my_X3_means mv_X3_means ml_RX3_50 dX3_shareMeaning_8 rfl rfl (Nat.le_of_ble_eq_true rfl) rfl (c_X3_means l d F a0 a1 v2 h v4 h3 Hc) ?_
  refine jr_jn (fun J => ∀ (h5 : jH), J h5 = some (rR, hf) → jGo l (d + 1) none RX3 cX3_shareMeaning 3 (some .boolean) false 36 [none, none, none] [] h5 (some (.int rR)) hf) H (fun h5 H => ?_) (fun J36 hJ36 H => ?_)
  · refine jr_iconst (v := 1) dX3_shareMeaning_36 (by decide) ?_
    refine jr_goto (tgt := 41) dX3_shareMeaning_37 (by decide) ?_
    exact jr_zret rfl rfl dX3_shareMeaning_41 H
  · refine jr_if_ne (tgt := 36) dX3_shareMeaning_11 (by decide) H (fun H => ?_) (fun H => ?_)
    · refine jr_aload_n dX3_shareMeaning_14 rfl rfl ?_
      refine jr_iload_n dX3_shareMeaning_15 rfl rfl ?_
      obtain ⟨v7, h6, Hc, H⟩ := j_b2_some H
      refine jr_callV (ci := 3) [.int a2] my_X3_isCompound mv_X3_isCompound ml_RX3_54 dX3_shareMeaning_16 rfl rfl (Nat.le_of_ble_eq_true rfl) rfl (c_X3_isCompound l d F a0 a2 h3 v7 h6 Hc) ?_
      refine jr_if_eq (tgt := 40) dX3_shareMeaning_19 (by decide) H (fun H => ?_) (fun H => ?_)
      · refine jr_iconst (v := 0) dX3_shareMeaning_40 (by decide) ?_
        exact jr_zret rfl rfl dX3_shareMeaning_41 H
      · refine jr_aload_n dX3_shareMeaning_22 rfl rfl ?_
        refine jr_iload_n dX3_shareMeaning_23 rfl rfl ?_
        refine jr_aload_n dX3_shareMeaning_24 rfl rfl ?_
        refine jr_getR fl_RX3_18 dX3_shareMeaning_25 H (fun v8 H => ?_)
        refine jr_iload_n dX3_shareMeaning_28 rfl rfl ?_
        refine jr_iald dX3_shareMeaning_29 H (fun v9 H => ?_)
        obtain ⟨v11, h10, Hc, H⟩ := j_b2_some H
        refine jr_callV (ci := 3) [.int a1, .int v9] my_X3_means mv_X3_means ml_RX3_50 dX3_shareMeaning_30 rfl rfl (Nat.le_of_ble_eq_true rfl) rfl (c_X3_means l d F a0 a1 v9 h6 v11 h10 Hc) ?_
        refine jr_if_eq (tgt := 40) dX3_shareMeaning_33 (by decide) H (fun H => ?_) (fun H => ?_)
        · refine jr_iconst (v := 0) dX3_shareMeaning_40 (by decide) ?_
          exact jr_zret rfl rfl dX3_shareMeaning_41 H
        · refine jr_fgt 0 ?_
          refine jr_fgt 1 ?_
          refine jr_fgt 2 ?_
          exact hJ36 _ H
    · refine jr_fgt 0 ?_
      refine jr_fgt 1 ?_
      refine jr_fgt 2 ?_
      exact hJ36 _ H
set_option maxRecDepth 100000 in
set_option maxHeartbeats 4000000 in
theorem s_X10_near_L17 (l : Launch) (d : Nat) (F : Nat) (x0 : Nat) (x1 : Int32) (k84 : Int32 → Int32 → jH → Option (Int32 × jH)) {rR : Int32} {hf : jH} (hk84 : ∀ (y2 : Int32) (y3 : Int32) (h : jH), k84 y2 y3 h = some (rR, hf) → jGo l (d + 3) none RX10 cX10_near 6 (some .int) false 84 [some (.ref x0), some (.int x1), some (.int y2), some (.int y3), none, none] [] h (some (.int rR)) hf) : ∀ (n : Nat) (x2 : Int32) (x3 : Int32) (x4 : Int32) (h : jH), f_X10_near_L17 F x0 x1 k84 n x2 x3 x4 h = some (rR, hf) → jGo l (d + 3) none RX10 cX10_near 6 (some .int) false 17 [some (.ref x0), some (.int x1), some (.int x2), some (.int x3), some (.int x4), none] [] h (some (.int rR)) hf := by
  intro n
  induction n with
  | zero =>
    intro x2 x3 x4 h H
    cases H
  | succ n ih =>
    intro x2 x3 x4 h H
    unfold f_X10_near_L17 at H
    refine jr_iload dX10_near_17 rfl ?_
    refine jr_aload_n dX10_near_19 rfl rfl ?_
    refine jr_getR fl_RX10_26 dX10_near_20 H (fun v3 H => ?_)
    refine jr_getI fl_RX10_127 (by decide) dX10_near_23 H (fun v4 H => ?_)
    refine jr_icmp_ge (tgt := 84) dX10_near_26 (by decide) H (fun H => ?_) (fun H => ?_)
    · refine jr_fgt 4 ?_
      exact hk84 _ _ _ H
    · refine jr_iload dX10_near_29 rfl ?_
      refine jr_iload_n dX10_near_31 rfl rfl ?_
      refine jr_jn (fun J => ∀ (s5 : Int32) (h6 : jH), J s5 h6 = some (rR, hf) → jGo l (d + 3) none RX10 cX10_near 6 (some .int) false 53 [some (.ref x0), some (.int x1), some (.int x2), some (.int x3), some (.int x4), none] [.int s5] h6 (some (.int rR)) hf) H (fun s5 h6 H => ?_) (fun J53 hJ53 H => ?_)
      · refine jr_istore dX10_near_53 (by decide) rfl (Or.inl rfl) ?_
        refine jr_iload dX10_near_55 rfl ?_
        refine jr_iload_n dX10_near_57 rfl rfl ?_
        refine jr_jn (fun J => ∀ (z7 : Int32) (z8 : Int32) (h9 : jH), J z7 z8 h9 = some (rR, hf) → jGo l (d + 3) none RX10 cX10_near 6 (some .int) false 78 [some (.ref x0), some (.int x1), some (.int z7), some (.int z8), some (.int x4), none] [] h9 (some (.int rR)) hf) H (fun z7 z8 h9 H => ?_) (fun J78 hJ78 H => ?_)
        · refine jr_iinc (v := (x4 + 1)) dX10_near_78 rfl rfl (by decide) rfl (Or.inl rfl) ?_
          refine jr_goto (tgt := 17) dX10_near_81 (by decide) ?_
          exact ih _ _ _ _ H
        · refine jr_icmp_eq (tgt := 78) dX10_near_58 (by decide) H (fun H => ?_) (fun H => ?_)
          · refine jr_fgt 5 ?_
            exact hJ78 _ _ _ H
          · refine jr_iload_n dX10_near_61 rfl rfl ?_
            refine jr_iconst (v := (-1)) dX10_near_62 (by decide) ?_
            refine jr_jn (fun J => ∀ (h10 : jH), J h10 = some (rR, hf) → jGo l (d + 3) none RX10 cX10_near 6 (some .int) false 72 [some (.ref x0), some (.int x1), none, none, some (.int x4), some (.int s5)] [] h10 (some (.int rR)) hf) H (fun h10 H => ?_) (fun J72 hJ72 H => ?_)
            · refine jr_iload dX10_near_72 rfl ?_
              refine jr_istore_n dX10_near_74 rfl (by decide) rfl (Or.inl rfl) ?_
              refine jr_iload dX10_near_75 rfl ?_
              refine jr_istore_n dX10_near_77 rfl (by decide) rfl (Or.inl rfl) ?_
              refine jr_fgt 5 ?_
              exact hJ78 _ _ _ H
            · refine jr_icmp_eq (tgt := 72) dX10_near_63 (by decide) H (fun H => ?_) (fun H => ?_)
              · refine jr_fgt 2 ?_
                refine jr_fgt 3 ?_
                exact hJ72 _ H
              · refine jr_iload dX10_near_66 rfl ?_
                refine jr_iload_n dX10_near_68 rfl rfl ?_
                refine jr_icmp_ge (tgt := 78) dX10_near_69 (by decide) H (fun H => ?_) (fun H => ?_)
                · refine jr_fgt 5 ?_
                  exact hJ78 _ _ _ H
                · refine jr_fgt 2 ?_
                  refine jr_fgt 3 ?_
                  exact hJ72 _ H
      · refine jr_icmp_ne (tgt := 39) dX10_near_32 (by decide) H (fun H => ?_) (fun H => ?_)
        · refine jr_iconst (v := 0) dX10_near_35 (by decide) ?_
          refine jr_goto (tgt := 53) dX10_near_36 (by decide) ?_
          exact hJ53 _ _ H
        · refine jr_aload_n dX10_near_39 rfl rfl ?_
          refine jr_getR fl_RX10_62 dX10_near_40 H (fun v11 H => ?_)
          refine jr_aload_n dX10_near_43 rfl rfl ?_
          refine jr_getR fl_RX10_26 dX10_near_44 H (fun v12 H => ?_)
          refine jr_iload_n dX10_near_47 rfl rfl ?_
          refine jr_iload dX10_near_48 rfl ?_
          obtain ⟨v14, h13, Hc, H⟩ := j_b2_some H
          refine jr_callV (ci := 0) [.ref v12, .int x1, .int x4] my_X0_ofLetters mv_X0_ofLetters ml_RX10_290 dX10_near_50 rfl rfl (Nat.le_of_ble_eq_true rfl) rfl (c_X0_ofLetters l d F v11 v12 x1 x4 h v14 h13 Hc) ?_
          exact hJ53 _ _ H
set_option maxRecDepth 100000 in
set_option maxHeartbeats 4000000 in
theorem c_X10_near (l : Launch) (d : Nat) (F : Nat) (a0 : Nat) (a1 : Int32) (h : jH) (rR : Int32) (hf : jH) (H : f_X10_near F a0 a1 h = some (rR, hf)) : jh_sh h a0 = (10, 0) ∧ jMet l (d + 3) yX10_near cX10_near 6 (some .int) [.ref a0, .int a1] h (some (.int rR)) hf := by
  unfold f_X10_near at H
  obtain ⟨hsh, H⟩ := j_gd_some H
  refine ⟨hsh, ?_⟩
  refine jMet.of false [some (.ref a0), some (.int a1), none, none, none, none] rfl (by decide) (by decide) (Nat.le_of_ble_eq_true rfl) (fun S0 q hq => by simpa [j_l, lv_args, j_v, Value.category] using hq) ?_
  refine jr_aload_n dX10_near_0 rfl rfl ?_
  refine jr_iload_n dX10_near_1 rfl rfl ?_
  obtain ⟨v2, h1, Hc, H⟩ := j_b2_some H
  refine jr_callV (ci := 10) [.int a1] my_X10_isWord mv_X10_isWord ml_RX10_136 dX10_near_2 rfl rfl (Nat.le_of_ble_eq_true rfl) rfl (c_X10_isWord l (d + 2) F a0 a1 h v2 h1 Hc) ?_
  refine jr_if_ne (tgt := 10) dX10_near_5 (by decide) H (fun H => ?_) (fun H => ?_)
  · refine jr_iconst (v := (-1)) dX10_near_8 (by decide) ?_
    exact jr_iret rfl dX10_near_9 H
  · refine jr_iconst (v := (-1)) dX10_near_10 (by decide) ?_
    refine jr_istore_n dX10_near_11 rfl (by decide) rfl (Or.inl rfl) ?_
    refine jr_iconst (v := 0) dX10_near_12 (by decide) ?_
    refine jr_istore_n dX10_near_13 rfl (by decide) rfl (Or.inl rfl) ?_
    refine jr_iconst (v := 0) dX10_near_14 (by decide) ?_
    refine jr_istore dX10_near_15 (by decide) rfl (Or.inl rfl) ?_
    refine s_X10_near_L17 l d F a0 a1 _ (fun y15 y16 h17 H => ?_) F (-1) 0 0 h1 H
    · refine jr_iload_n dX10_near_84 rfl rfl ?_
      refine jr_iconst (v := (-1)) dX10_near_85 (by decide) ?_
      refine jr_icmp_ne (tgt := 92) dX10_near_86 (by decide) H (fun H => ?_) (fun H => ?_)
      · refine jr_bipush (v := (-2)) dX10_near_89 (by decide) ?_
        exact jr_iret rfl dX10_near_91 H
      · refine jr_aload_n dX10_near_92 rfl rfl ?_
        refine jr_getR fl_RX10_19 dX10_near_93 H (fun v18 H => ?_)
        refine jr_iload_n dX10_near_96 rfl rfl ?_
        refine jr_i2l dX10_near_97 ?_
        refine jr_aload_n dX10_near_98 rfl rfl ?_
        refine jr_getR fl_RX10_26 dX10_near_99 H (fun v19 H => ?_)
        refine jr_iload_n dX10_near_102 rfl rfl ?_
        refine jr_iload_n dX10_near_103 rfl rfl ?_
        obtain ⟨v21, h20, Hc, H⟩ := j_b2_some H
        refine jr_callV (ci := 3) [.int a1, .int y15] my_X3_shareMeaning mv_X3_shareMeaning ml_RX10_293 dX10_near_104 rfl rfl (Nat.le_of_ble_eq_true rfl) rfl (c_X3_shareMeaning l (d + 1) F v19 a1 y15 h17 v21 h20 Hc) ?_
        refine jr_jn (fun J => ∀ (s22 : Int64) (s23 : Int64) (s24 : Nat) (h25 : jH), J s22 s23 s24 h25 = some (rR, hf) → jGo l (d + 3) none RX10 cX10_near 6 (some .int) false 115 [none, none, some (.int y15), none, none, none] [.long s22, .long s23, .ref s24] h25 (some (.int rR)) hf) H (fun s22 s23 s24 h25 H => ?_) (fun J115 hJ115 H => ?_)
        · obtain ⟨h26, Hc, H⟩ := Option.bind_eq_some_iff.mp H
          refine jr_callV (ci := 6) [.long s23, .long s22] my_X6_tell_ mv_X6_tell_ ml_RX10_242 dX10_near_115 rfl rfl (Nat.le_of_ble_eq_true rfl) rfl (c_X6_tell_ l (d + 1) F s24 s23 s22 h25 h26 Hc) ?_
          refine jr_iload_n dX10_near_118 rfl rfl ?_
          exact jr_iret rfl dX10_near_119 H
        · refine jr_if_eq (tgt := 114) dX10_near_107 (by decide) H (fun H => ?_) (fun H => ?_)
          · refine jr_lconst (v := 0) dX10_near_114 (by decide) ?_
            refine jr_fgt 0 ?_
            refine jr_fgt 1 ?_
            refine jr_fgt 3 ?_
            exact hJ115 _ _ _ _ H
          · refine jr_lconst (v := 1) dX10_near_110 (by decide) ?_
            refine jr_goto (tgt := 115) dX10_near_111 (by decide) ?_
            refine jr_fgt 0 ?_
            refine jr_fgt 1 ?_
            refine jr_fgt 3 ?_
            exact hJ115 _ _ _ _ H
set_option maxRecDepth 100000 in
set_option maxHeartbeats 4000000 in
theorem s_X10_commonDivisor_L9 (l : Launch) (d : Nat) (F : Nat) (k44 : Int64 → jH → Option (Int64 × jH)) {rR : Int64} {hf : jH} (hk44 : ∀ (y4 : Int64) (h : jH), k44 y4 h = some (rR, hf) → jGo l (d + 1) none RX10 cX10_commonDivisor 11 (some .long) false 44 [none, none, none, none, some (.long y4), none, none, none, none, none, none] [] h (some (.long rR)) hf) : ∀ (n : Nat) (x4 : Int64) (x6 : Int64) (x8 : Int32) (h : jH), f_X10_commonDivisor_L9 F k44 n x4 x6 x8 h = some (rR, hf) → jGo l (d + 1) none RX10 cX10_commonDivisor 11 (some .long) false 9 [none, none, none, none, some (.long x4), none, some (.long x6), none, some (.int x8), none, none] [] h (some (.long rR)) hf := by
  intro n
  induction n with
  | zero =>
    intro x4 x6 x8 h H
    cases H
  | succ n ih =>
    intro x4 x6 x8 h H
    unfold f_X10_commonDivisor_L9 at H
    refine jr_iload dX10_commonDivisor_9 rfl ?_
    refine jr_bipush (v := 100) dX10_commonDivisor_11 (by decide) ?_
    refine jr_icmp_ge (tgt := 44) dX10_commonDivisor_13 (by decide) H (fun H => ?_) (fun H => ?_)
    · refine jr_fgt 6 ?_
      refine jr_fgt 8 ?_
      exact hk44 _ _ H
    · refine jr_lload dX10_commonDivisor_16 rfl ?_
      refine jr_lconst (v := 0) dX10_commonDivisor_18 (by decide) ?_
      refine jr_lcmp dX10_commonDivisor_19 ?_
      refine jr_if_eq (tgt := 44) dX10_commonDivisor_20 (by decide) H (fun H => ?_) (fun H => ?_)
      · refine jr_fgt 6 ?_
        refine jr_fgt 8 ?_
        exact hk44 _ _ H
      · refine jr_lload dX10_commonDivisor_23 rfl ?_
        refine jr_lload dX10_commonDivisor_25 rfl ?_
        refine jr_lrem dX10_commonDivisor_27 H (fun v1 H => ?_)
        refine jr_lstore dX10_commonDivisor_28 (by decide) rfl (Or.inl rfl) ?_
        refine jr_lload dX10_commonDivisor_30 rfl ?_
        refine jr_lstore dX10_commonDivisor_32 (by decide) rfl (Or.inl rfl) ?_
        refine jr_lload dX10_commonDivisor_34 rfl ?_
        refine jr_lstore dX10_commonDivisor_36 (by decide) rfl (Or.inl rfl) ?_
        refine jr_iinc (v := (x8 + 1)) dX10_commonDivisor_38 rfl rfl (by decide) rfl (Or.inl rfl) ?_
        refine jr_goto (tgt := 9) dX10_commonDivisor_41 (by decide) ?_
        refine jr_fgt 9 ?_
        exact ih _ _ _ _ H
set_option maxRecDepth 100000 in
set_option maxHeartbeats 4000000 in
theorem c_X10_commonDivisor (l : Launch) (d : Nat) (F : Nat) (a0 : Int64) (a1 : Int64) (h : jH) (rR : Int64) (hf : jH) (H : f_X10_commonDivisor F a0 a1 h = some (rR, hf)) : jMet l (d + 1) yX10_commonDivisor cX10_commonDivisor 11 (some .long) [.long a0, .long a1] h (some (.long rR)) hf := by
  unfold f_X10_commonDivisor at H
  refine jMet.of false [some (.long a0), none, some (.long a1), none, none, none, none, none, none, none, none] rfl (by decide) (by decide) (Nat.le_of_ble_eq_true rfl) (fun S0 q hq => by simpa [j_l, lv_args, j_v, Value.category] using hq) ?_
  refine jr_lload_n dX10_commonDivisor_0 rfl rfl ?_
  refine jr_lstore dX10_commonDivisor_1 (by decide) rfl (Or.inl rfl) ?_
  refine jr_lload_n dX10_commonDivisor_3 rfl rfl ?_
  refine jr_lstore dX10_commonDivisor_4 (by decide) rfl (Or.inl rfl) ?_
  refine jr_iconst (v := 0) dX10_commonDivisor_6 (by decide) ?_
  refine jr_istore dX10_commonDivisor_7 (by decide) rfl (Or.inl rfl) ?_
  refine jr_fgt 0 ?_
  refine jr_fgt 2 ?_
  refine s_X10_commonDivisor_L9 l d F _ (fun y2 h3 H => ?_) F a0 a1 0 h H
  · refine jr_lload dX10_commonDivisor_44 rfl ?_
    refine jr_lconst (v := 1) dX10_commonDivisor_46 (by decide) ?_
    refine jr_mmaxl ml_RX10_468 mm_mmaxl_s mm_i mm_mmaxl_c dX10_commonDivisor_47 (Nat.le_of_ble_eq_true rfl) ?_
    exact jr_lret rfl dX10_commonDivisor_50 H
set_option maxRecDepth 100000 in
set_option maxHeartbeats 4000000 in
theorem s_X10_power_L5 (l : Launch) (d : Nat) (F : Nat) (x0 : Int32) (x1 : Int32) {rR : Int64} {hf : jH} : ∀ (n : Nat) (x2 : Int64) (x4 : Int32) (h : jH), f_X10_power_L5 F x0 x1 n x2 x4 h = some (rR, hf) → jGo l (d + 0) none RX10 cX10_power 5 (some .long) false 5 [some (.int x0), some (.int x1), some (.long x2), none, some (.int x4)] [] h (some (.long rR)) hf := by
  intro n
  induction n with
  | zero =>
    intro x2 x4 h H
    cases H
  | succ n ih =>
    intro x2 x4 h H
    unfold f_X10_power_L5 at H
    refine jr_iload dX10_power_5 rfl ?_
    refine jr_iload_n dX10_power_7 rfl rfl ?_
    refine jr_icmp_ge (tgt := 22) dX10_power_8 (by decide) H (fun H => ?_) (fun H => ?_)
    · refine jr_lload_n dX10_power_22 rfl rfl ?_
      exact jr_lret rfl dX10_power_23 H
    · refine jr_lload_n dX10_power_11 rfl rfl ?_
      refine jr_iload_n dX10_power_12 rfl rfl ?_
      refine jr_i2l dX10_power_13 ?_
      refine jr_lmul dX10_power_14 ?_
      refine jr_lstore_n dX10_power_15 rfl (by decide) rfl (Or.inl rfl) ?_
      refine jr_iinc (v := (x4 + 1)) dX10_power_16 rfl rfl (by decide) rfl (Or.inl rfl) ?_
      refine jr_goto (tgt := 5) dX10_power_19 (by decide) ?_
      exact ih _ _ _ H
set_option maxRecDepth 100000 in
set_option maxHeartbeats 4000000 in
theorem c_X10_power (l : Launch) (d : Nat) (F : Nat) (a0 : Int32) (a1 : Int32) (h : jH) (rR : Int64) (hf : jH) (H : f_X10_power F a0 a1 h = some (rR, hf)) : jMet l (d + 0) yX10_power cX10_power 5 (some .long) [.int a0, .int a1] h (some (.long rR)) hf := by
  unfold f_X10_power at H
  refine jMet.of false [some (.int a0), some (.int a1), none, none, none] rfl (by decide) (by decide) (Nat.le_of_ble_eq_true rfl) (fun S0 q hq => by simpa [j_l, lv_args, j_v, Value.category] using hq) ?_
  refine jr_lconst (v := 1) dX10_power_0 (by decide) ?_
  refine jr_lstore_n dX10_power_1 rfl (by decide) rfl (Or.inl rfl) ?_
  refine jr_iconst (v := 0) dX10_power_2 (by decide) ?_
  refine jr_istore dX10_power_3 (by decide) rfl (Or.inl rfl) ?_
  exact s_X10_power_L5 l d F a0 a1 F 1 0 h H
set_option maxRecDepth 100000 in
set_option maxHeartbeats 4000000 in
theorem s_X10_heard_L49 (l : Launch) (d : Nat) (F : Nat) (x0 : Nat) (x2 : Int32) (x3 : Int32) (x4 : Int32) (k112 : Int64 → jH → Option (Int32 × jH)) {rR : Int32} {hf : jH} (hk112 : ∀ (y5 : Int64) (h : jH), k112 y5 h = some (rR, hf) → jGo l (d + 2) none RX10 cX10_heard 13 (some .int) false 112 [some (.ref x0), none, none, none, some (.int x4), some (.long y5), none, none, none, none, none, none, none] [] h (some (.int rR)) hf) : ∀ (n : Nat) (x5 : Int64) (x7 : Int64) (x9 : Int32) (h : jH), f_X10_heard_L49 F x0 x2 x3 x4 k112 n x5 x7 x9 h = some (rR, hf) → jGo l (d + 2) none RX10 cX10_heard 13 (some .int) false 49 [some (.ref x0), none, some (.int x2), some (.int x3), some (.int x4), some (.long x5), none, some (.long x7), none, some (.int x9), none, none, none] [] h (some (.int rR)) hf := by
  intro n
  induction n with
  | zero =>
    intro x5 x7 x9 h H
    cases H
  | succ n ih =>
    intro x5 x7 x9 h H
    unfold f_X10_heard_L49 at H
    refine jr_iload dX10_heard_49 rfl ?_
    refine jr_iload_n dX10_heard_51 rfl rfl ?_
    refine jr_icmp_gt (tgt := 112) dX10_heard_52 (by decide) H (fun H => ?_) (fun H => ?_)
    · refine jr_fgt 2 ?_
      refine jr_fgt 3 ?_
      refine jr_fgt 7 ?_
      refine jr_fgt 9 ?_
      exact hk112 _ _ H
    · refine jr_iload dX10_heard_55 rfl ?_
      refine jr_iload dX10_heard_57 rfl ?_
      refine jr_icmp_gt (tgt := 112) dX10_heard_59 (by decide) H (fun H => ?_) (fun H => ?_)
      · refine jr_fgt 2 ?_
        refine jr_fgt 3 ?_
        refine jr_fgt 7 ?_
        refine jr_fgt 9 ?_
        exact hk112 _ _ H
      · refine jr_lload dX10_heard_62 rfl ?_
        refine jr_lload dX10_heard_64 rfl ?_
        refine jr_iload_n dX10_heard_66 rfl rfl ?_
        refine jr_iload dX10_heard_67 rfl ?_
        refine jr_iload dX10_heard_69 rfl ?_
        refine jr_isub dX10_heard_71 ?_
        obtain ⟨v7, h6, Hc, H⟩ := j_b2_some H
        refine jr_callS [.int x2, .int (x4 - x9)] my_X10_power ms_X10_power ml_RX10_296 dX10_heard_72 rfl rfl (Nat.le_of_ble_eq_true rfl) (c_X10_power l (d + 1) F x2 (x4 - x9) h v7 h6 Hc) ?_
        refine jr_lmul dX10_heard_75 ?_
        refine jr_bipush (v := 10) dX10_heard_76 (by decide) ?_
        refine jr_iload_n dX10_heard_78 rfl rfl ?_
        refine jr_isub dX10_heard_79 ?_
        refine jr_iload dX10_heard_80 rfl ?_
        obtain ⟨v9, h8, Hc, H⟩ := j_b2_some H
        refine jr_callS [.int ((10 : Int32) - x2), .int x9] my_X10_power ms_X10_power ml_RX10_296 dX10_heard_82 rfl rfl (Nat.le_of_ble_eq_true rfl) (c_X10_power l (d + 1) F ((10 : Int32) - x2) x9 h6 v9 h8 Hc) ?_
        refine jr_lmul dX10_heard_85 ?_
        refine jr_ladd dX10_heard_86 ?_
        refine jr_lstore dX10_heard_87 (by decide) rfl (Or.inl rfl) ?_
        refine jr_lload dX10_heard_89 rfl ?_
        refine jr_iload dX10_heard_91 rfl ?_
        refine jr_iload dX10_heard_93 rfl ?_
        refine jr_isub dX10_heard_95 ?_
        refine jr_i2l dX10_heard_96 ?_
        refine jr_lmul dX10_heard_97 ?_
        refine jr_iload dX10_heard_98 rfl ?_
        refine jr_iconst (v := 1) dX10_heard_100 (by decide) ?_
        refine jr_iadd dX10_heard_101 ?_
        refine jr_i2l dX10_heard_102 ?_
        refine jr_ldiv dX10_heard_103 H (fun v10 H => ?_)
        refine jr_lstore dX10_heard_104 (by decide) rfl (Or.inl rfl) ?_
        refine jr_iinc (v := (x9 + 1)) dX10_heard_106 rfl rfl (by decide) rfl (Or.inl rfl) ?_
        refine jr_goto (tgt := 49) dX10_heard_109 (by decide) ?_
        exact ih _ _ _ _ H
set_option maxRecDepth 100000 in
set_option maxHeartbeats 4000000 in
theorem c_X10_heard (l : Launch) (d : Nat) (F : Nat) (a0 : Nat) (a1 : Int32) (a2 : Int32) (a3 : Int32) (h : jH) (rR : Int32) (hf : jH) (H : f_X10_heard F a0 a1 a2 a3 h = some (rR, hf)) : jh_sh h a0 = (10, 0) ∧ jMet l (d + 2) yX10_heard cX10_heard 13 (some .int) [.ref a0, .int a1, .int a2, .int a3] h (some (.int rR)) hf := by
  unfold f_X10_heard at H
  obtain ⟨hsh, H⟩ := j_gd_some H
  refine ⟨hsh, ?_⟩
  refine jMet.of false [some (.ref a0), some (.int a1), some (.int a2), some (.int a3), none, none, none, none, none, none, none, none, none] rfl (by decide) (by decide) (Nat.le_of_ble_eq_true rfl) (fun S0 q hq => by simpa [j_l, lv_args, j_v, Value.category] using hq) ?_
  refine jr_aload_n dX10_heard_0 rfl rfl ?_
  refine jr_iload_n dX10_heard_1 rfl rfl ?_
  obtain ⟨v2, h1, Hc, H⟩ := j_b2_some H
  refine jr_callV (ci := 10) [.int a1] my_X10_isWord mv_X10_isWord ml_RX10_136 dX10_heard_2 rfl rfl (Nat.le_of_ble_eq_true rfl) rfl (c_X10_isWord l (d + 1) F a0 a1 h v2 h1 Hc) ?_
  refine jr_if_eq (tgt := 27) dX10_heard_5 (by decide) H (fun H => ?_) (fun H => ?_)
  · refine jr_iconst (v := (-1)) dX10_heard_27 (by decide) ?_
    exact jr_iret rfl dX10_heard_28 H
  · refine jr_iload_n dX10_heard_8 rfl rfl ?_
    refine jr_if_lt (tgt := 27) dX10_heard_9 (by decide) H (fun H => ?_) (fun H => ?_)
    · refine jr_iconst (v := (-1)) dX10_heard_27 (by decide) ?_
      exact jr_iret rfl dX10_heard_28 H
    · refine jr_iload_n dX10_heard_12 rfl rfl ?_
      refine jr_bipush (v := 10) dX10_heard_13 (by decide) ?_
      refine jr_icmp_gt (tgt := 27) dX10_heard_15 (by decide) H (fun H => ?_) (fun H => ?_)
      · refine jr_iconst (v := (-1)) dX10_heard_27 (by decide) ?_
        exact jr_iret rfl dX10_heard_28 H
      · refine jr_iload_n dX10_heard_18 rfl rfl ?_
        refine jr_if_lt (tgt := 27) dX10_heard_19 (by decide) H (fun H => ?_) (fun H => ?_)
        · refine jr_iconst (v := (-1)) dX10_heard_27 (by decide) ?_
          exact jr_iret rfl dX10_heard_28 H
        · refine jr_iload_n dX10_heard_22 rfl rfl ?_
          refine jr_iconst (v := 2) dX10_heard_23 (by decide) ?_
          refine jr_icmp_le (tgt := 29) dX10_heard_24 (by decide) H (fun H => ?_) (fun H => ?_)
          · refine jr_aload_n dX10_heard_29 rfl rfl ?_
            refine jr_getR fl_RX10_26 dX10_heard_30 H (fun v3 H => ?_)
            refine jr_getR fl_RX10_142 dX10_heard_33 H (fun v4 H => ?_)
            refine jr_iload_n dX10_heard_36 rfl rfl ?_
            refine jr_iald dX10_heard_37 H (fun v5 H => ?_)
            refine jr_istore dX10_heard_38 (by decide) rfl (Or.inl rfl) ?_
            refine jr_lconst (v := 0) dX10_heard_40 (by decide) ?_
            refine jr_lstore dX10_heard_41 (by decide) rfl (Or.inl rfl) ?_
            refine jr_lconst (v := 1) dX10_heard_43 (by decide) ?_
            refine jr_lstore dX10_heard_44 (by decide) rfl (Or.inl rfl) ?_
            refine jr_iconst (v := 0) dX10_heard_46 (by decide) ?_
            refine jr_istore dX10_heard_47 (by decide) rfl (Or.inl rfl) ?_
            refine jr_fgt 1 ?_
            refine s_X10_heard_L49 l d F a0 a2 a3 v5 _ (fun y11 h12 H => ?_) F 0 1 0 h1 H
            · refine jr_bipush (v := 10) dX10_heard_112 (by decide) ?_
              refine jr_iload dX10_heard_114 rfl ?_
              obtain ⟨v14, h13, Hc, H⟩ := j_b2_some H
              refine jr_callS [.int 10, .int v5] my_X10_power ms_X10_power ml_RX10_296 dX10_heard_116 rfl rfl (Nat.le_of_ble_eq_true rfl) (c_X10_power l (d + 1) F 10 v5 h12 v14 h13 Hc) ?_
              refine jr_lstore dX10_heard_119 (by decide) rfl (Or.inl rfl) ?_
              refine jr_lload dX10_heard_121 rfl ?_
              refine jr_lload dX10_heard_123 rfl ?_
              obtain ⟨v16, h15, Hc, H⟩ := j_b2_some H
              refine jr_callS [.long y11, .long v14] my_X10_commonDivisor ms_X10_commonDivisor ml_RX10_300 dX10_heard_125 rfl rfl (Nat.le_of_ble_eq_true rfl) (c_X10_commonDivisor l d F y11 v14 h13 v16 h15 Hc) ?_
              refine jr_lstore dX10_heard_128 (by decide) rfl (Or.inl rfl) ?_
              refine jr_aload_n dX10_heard_130 rfl rfl ?_
              refine jr_getR fl_RX10_19 dX10_heard_131 H (fun v17 H => ?_)
              refine jr_lload dX10_heard_134 rfl ?_
              refine jr_lload dX10_heard_136 rfl ?_
              refine jr_ldiv dX10_heard_138 H (fun v18 H => ?_)
              refine jr_lload dX10_heard_139 rfl ?_
              refine jr_lload dX10_heard_141 rfl ?_
              refine jr_ldiv dX10_heard_143 H (fun v19 H => ?_)
              obtain ⟨h20, Hc, H⟩ := Option.bind_eq_some_iff.mp H
              refine jr_callV (ci := 6) [.long v18, .long v19] my_X6_tell_ mv_X6_tell_ ml_RX10_242 dX10_heard_144 rfl rfl (Nat.le_of_ble_eq_true rfl) rfl (c_X6_tell_ l d F v17 v18 v19 h15 h20 Hc) ?_
              refine jr_iconst (v := 0) dX10_heard_147 (by decide) ?_
              exact jr_iret rfl dX10_heard_148 H
          · refine jr_iconst (v := (-1)) dX10_heard_27 (by decide) ?_
            exact jr_iret rfl dX10_heard_28 H
set_option maxRecDepth 100000 in
set_option maxHeartbeats 4000000 in
theorem c_J6_bitCount_0f7a4 (l : Launch) (d : Nat) (F : Nat) (a0 : Int32) (h : jH) (rR : Int32) (hf : jH) (H : f_J6_bitCount_0f7a4 F a0 h = some (rR, hf)) : jMet l (d + 0) yJ6_bitCount_0f7a4 cJ6_bitCount_0f7a4 1 (some .int) [.int a0] h (some (.int rR)) hf := by
  unfold f_J6_bitCount_0f7a4 at H
  refine jMet.of false [some (.int a0)] rfl (by decide) (by decide) (Nat.le_of_ble_eq_true rfl) (fun S0 q hq => by simpa [j_l, lv_args, j_v, Value.category] using hq) ?_
  refine jr_iload_n dJ6_bitCount_0f7a4_0 rfl rfl ?_
  refine jr_iload_n dJ6_bitCount_0f7a4_1 rfl rfl ?_
  refine jr_iconst (v := 1) dJ6_bitCount_0f7a4_2 (by decide) ?_
  refine jr_iushr dJ6_bitCount_0f7a4_3 ?_
  refine jr_ldcw cn_RJ6_265 dJ6_bitCount_0f7a4_4 ?_
  refine jr_iand dJ6_bitCount_0f7a4_7 ?_
  refine jr_isub dJ6_bitCount_0f7a4_8 ?_
  refine jr_istore_n dJ6_bitCount_0f7a4_9 rfl (by decide) rfl (Or.inl rfl) ?_
  refine jr_iload_n dJ6_bitCount_0f7a4_10 rfl rfl ?_
  refine jr_ldcw cn_RJ6_266 dJ6_bitCount_0f7a4_11 ?_
  refine jr_iand dJ6_bitCount_0f7a4_14 ?_
  refine jr_iload_n dJ6_bitCount_0f7a4_15 rfl rfl ?_
  refine jr_iconst (v := 2) dJ6_bitCount_0f7a4_16 (by decide) ?_
  refine jr_iushr dJ6_bitCount_0f7a4_17 ?_
  refine jr_ldcw cn_RJ6_266 dJ6_bitCount_0f7a4_18 ?_
  refine jr_iand dJ6_bitCount_0f7a4_21 ?_
  refine jr_iadd dJ6_bitCount_0f7a4_22 ?_
  refine jr_istore_n dJ6_bitCount_0f7a4_23 rfl (by decide) rfl (Or.inl rfl) ?_
  refine jr_iload_n dJ6_bitCount_0f7a4_24 rfl rfl ?_
  refine jr_iload_n dJ6_bitCount_0f7a4_25 rfl rfl ?_
  refine jr_iconst (v := 4) dJ6_bitCount_0f7a4_26 (by decide) ?_
  refine jr_iushr dJ6_bitCount_0f7a4_27 ?_
  refine jr_iadd dJ6_bitCount_0f7a4_28 ?_
  refine jr_ldcw cn_RJ6_267 dJ6_bitCount_0f7a4_29 ?_
  refine jr_iand dJ6_bitCount_0f7a4_32 ?_
  refine jr_istore_n dJ6_bitCount_0f7a4_33 rfl (by decide) rfl (Or.inl rfl) ?_
  refine jr_iload_n dJ6_bitCount_0f7a4_34 rfl rfl ?_
  refine jr_iload_n dJ6_bitCount_0f7a4_35 rfl rfl ?_
  refine jr_bipush (v := 8) dJ6_bitCount_0f7a4_36 (by decide) ?_
  refine jr_iushr dJ6_bitCount_0f7a4_38 ?_
  refine jr_iadd dJ6_bitCount_0f7a4_39 ?_
  refine jr_istore_n dJ6_bitCount_0f7a4_40 rfl (by decide) rfl (Or.inl rfl) ?_
  refine jr_iload_n dJ6_bitCount_0f7a4_41 rfl rfl ?_
  refine jr_iload_n dJ6_bitCount_0f7a4_42 rfl rfl ?_
  refine jr_bipush (v := 16) dJ6_bitCount_0f7a4_43 (by decide) ?_
  refine jr_iushr dJ6_bitCount_0f7a4_45 ?_
  refine jr_iadd dJ6_bitCount_0f7a4_46 ?_
  refine jr_istore_n dJ6_bitCount_0f7a4_47 rfl (by decide) rfl (Or.inl rfl) ?_
  refine jr_iload_n dJ6_bitCount_0f7a4_48 rfl rfl ?_
  refine jr_bipush (v := 63) dJ6_bitCount_0f7a4_49 (by decide) ?_
  refine jr_iand dJ6_bitCount_0f7a4_51 ?_
  exact jr_iret rfl dJ6_bitCount_0f7a4_52 H
set_option maxRecDepth 100000 in
set_option maxHeartbeats 4000000 in
theorem s_X0_areFar_L2 (l : Launch) (d : Nat) (F : Nat) (x0 : Nat) (x1 : Int32) (x2 : Int32) {rR : Int32} {hf : jH} : ∀ (n : Nat) (x3 : Int32) (h : jH), f_X0_areFar_L2 F x0 x1 x2 n x3 h = some (rR, hf) → jGo l (d + 0) none RX0 cX0_areFar 4 (some .boolean) false 2 [some (.ref x0), some (.int x1), some (.int x2), some (.int x3)] [] h (some (.int rR)) hf := by
  intro n
  induction n with
  | zero =>
    intro x3 h H
    cases H
  | succ n ih =>
    intro x3 h H
    unfold f_X0_areFar_L2 at H
    refine jr_iload_n dX0_areFar_2 rfl rfl ?_
    refine jr_iload_n dX0_areFar_3 rfl rfl ?_
    refine jr_icmp_ge (tgt := 37) dX0_areFar_4 (by decide) H (fun H => ?_) (fun H => ?_)
    · refine jr_iconst (v := 1) dX0_areFar_37 (by decide) ?_
      exact jr_zret rfl rfl dX0_areFar_38 H
    · refine jr_iload_n dX0_areFar_7 rfl rfl ?_
      refine jr_iload_n dX0_areFar_8 rfl rfl ?_
      refine jr_ishr dX0_areFar_9 ?_
      refine jr_iconst (v := 1) dX0_areFar_10 (by decide) ?_
      refine jr_iand dX0_areFar_11 ?_
      refine jr_iconst (v := 1) dX0_areFar_12 (by decide) ?_
      refine jr_jn (fun J => ∀ (h1 : jH), J h1 = some (rR, hf) → jGo l (d + 0) none RX0 cX0_areFar 4 (some .boolean) false 31 [some (.ref x0), some (.int x1), some (.int x2), some (.int x3)] [] h1 (some (.int rR)) hf) H (fun h1 H => ?_) (fun J31 hJ31 H => ?_)
      · refine jr_iinc (v := (x3 + 1)) dX0_areFar_31 rfl rfl (by decide) rfl (Or.inl rfl) ?_
        refine jr_goto (tgt := 2) dX0_areFar_34 (by decide) ?_
        exact ih _ _ H
      · refine jr_icmp_ne (tgt := 31) dX0_areFar_13 (by decide) H (fun H => ?_) (fun H => ?_)
        · refine jr_iload_n dX0_areFar_16 rfl rfl ?_
          refine jr_aload_n dX0_areFar_17 rfl rfl ?_
          refine jr_getR fl_RX0_21 dX0_areFar_18 H (fun v2 H => ?_)
          refine jr_iload_n dX0_areFar_21 rfl rfl ?_
          refine jr_iald dX0_areFar_22 H (fun v3 H => ?_)
          refine jr_iconst (v := (-1)) dX0_areFar_23 (by decide) ?_
          refine jr_ixor dX0_areFar_24 ?_
          refine jr_iand dX0_areFar_25 ?_
          refine jr_if_eq (tgt := 31) dX0_areFar_26 (by decide) H (fun H => ?_) (fun H => ?_)
          · exact hJ31 _ H
          · refine jr_iconst (v := 0) dX0_areFar_29 (by decide) ?_
            exact jr_zret rfl rfl dX0_areFar_30 H
        · exact hJ31 _ H
set_option maxRecDepth 100000 in
set_option maxHeartbeats 4000000 in
theorem c_X0_areFar (l : Launch) (d : Nat) (F : Nat) (a0 : Nat) (a1 : Int32) (a2 : Int32) (h : jH) (rR : Int32) (hf : jH) (H : f_X0_areFar F a0 a1 a2 h = some (rR, hf)) : jh_sh h a0 = (0, 0) ∧ jMet l (d + 0) yX0_areFar cX0_areFar 4 (some .boolean) [.ref a0, .int a1, .int a2] h (some (.int rR)) hf := by
  unfold f_X0_areFar at H
  obtain ⟨hsh, H⟩ := j_gd_some H
  refine ⟨hsh, ?_⟩
  refine jMet.of false [some (.ref a0), some (.int a1), some (.int a2), none] rfl (by decide) (by decide) (Nat.le_of_ble_eq_true rfl) (fun S0 q hq => by simpa [j_l, lv_args, j_v, Value.category] using hq) ?_
  refine jr_iconst (v := 0) dX0_areFar_0 (by decide) ?_
  refine jr_istore_n dX0_areFar_1 rfl (by decide) rfl (Or.inl rfl) ?_
  exact s_X0_areFar_L2 l d F a0 a1 a2 F 0 h H
set_option maxRecDepth 100000 in
set_option maxHeartbeats 4000000 in
theorem s_X0_markFar_L22 (l : Launch) (d : Nat) (F : Nat) (x0 : Nat) (x1 : Nat) (x2 : Int32) (x3 : Int32) (k72 : jH → Option jH) {hf : jH} (hk72 : ∀ (h : jH), k72 h = some hf → jGo l (d + 3) none RX0 cX0_markFar 5 none false 72 [some (.ref x0), some (.ref x1), some (.int x2), some (.int x3), none] [] h none hf) : ∀ (n : Nat) (x4 : Int32) (h : jH), f_X0_markFar_L22 F x0 x1 x2 x3 k72 n x4 h = some hf → jGo l (d + 3) none RX0 cX0_markFar 5 none false 22 [some (.ref x0), some (.ref x1), some (.int x2), some (.int x3), some (.int x4)] [] h none hf := by
  intro n
  induction n with
  | zero =>
    intro x4 h H
    cases H
  | succ n ih =>
    intro x4 h H
    unfold f_X0_markFar_L22 at H
    refine jr_iload dX0_markFar_22 rfl ?_
    refine jr_iload_n dX0_markFar_24 rfl rfl ?_
    refine jr_icmp_ge (tgt := 72) dX0_markFar_25 (by decide) H (fun H => ?_) (fun H => ?_)
    · refine jr_fgt 4 ?_
      exact hk72 _ H
    · refine jr_aload_n dX0_markFar_28 rfl rfl ?_
      refine jr_aload_n dX0_markFar_29 rfl rfl ?_
      refine jr_iload_n dX0_markFar_30 rfl rfl ?_
      refine jr_iload dX0_markFar_31 rfl ?_
      obtain ⟨v5, h4, Hc, H⟩ := j_b2_some H
      refine jr_callV (ci := 0) [.ref x1, .int x3, .int x4] my_X0_ofLetters mv_X0_ofLetters ml_RX0_53 dX0_markFar_33 rfl rfl (Nat.le_of_ble_eq_true rfl) rfl (c_X0_ofLetters l d F x0 x1 x3 x4 h v5 h4 Hc) ?_
      refine jr_iload_n dX0_markFar_36 rfl rfl ?_
      refine jr_jn (fun J => ∀ (h6 : jH), J h6 = some hf → jGo l (d + 3) none RX0 cX0_markFar 5 none false 66 [some (.ref x0), some (.ref x1), some (.int x2), some (.int x3), some (.int x4)] [] h6 none hf) H (fun h6 H => ?_) (fun J66 hJ66 H => ?_)
      · refine jr_iinc (v := (x4 + 1)) dX0_markFar_66 rfl rfl (by decide) rfl (Or.inl rfl) ?_
        refine jr_goto (tgt := 22) dX0_markFar_69 (by decide) ?_
        exact ih _ _ H
      · refine jr_icmp_lt (tgt := 66) dX0_markFar_37 (by decide) H (fun H => ?_) (fun H => ?_)
        · exact hJ66 _ H
        · refine jr_aload_n dX0_markFar_40 rfl rfl ?_
          refine jr_getR fl_RX0_21 dX0_markFar_41 H (fun v7 H => ?_)
          refine jr_iload_n dX0_markFar_44 rfl rfl ?_
          refine jr_dup2 dX0_markFar_45 rfl rfl ?_
          refine jr_iald dX0_markFar_46 H (fun v8 H => ?_)
          refine jr_iconst (v := 1) dX0_markFar_47 (by decide) ?_
          refine jr_iload dX0_markFar_48 rfl ?_
          refine jr_ishl dX0_markFar_50 ?_
          refine jr_ior dX0_markFar_51 ?_
          refine jr_iast dX0_markFar_52 H (fun h9 H => ?_)
          refine jr_aload_n dX0_markFar_53 rfl rfl ?_
          refine jr_getR fl_RX0_21 dX0_markFar_54 H (fun v10 H => ?_)
          refine jr_iload dX0_markFar_57 rfl ?_
          refine jr_dup2 dX0_markFar_59 rfl rfl ?_
          refine jr_iald dX0_markFar_60 H (fun v11 H => ?_)
          refine jr_iconst (v := 1) dX0_markFar_61 (by decide) ?_
          refine jr_iload_n dX0_markFar_62 rfl rfl ?_
          refine jr_ishl dX0_markFar_63 ?_
          refine jr_ior dX0_markFar_64 ?_
          refine jr_iast dX0_markFar_65 H (fun h12 H => ?_)
          exact hJ66 _ H
set_option maxRecDepth 100000 in
set_option maxHeartbeats 4000000 in
theorem s_X0_markFar_L2 (l : Launch) (d : Nat) (F : Nat) (x0 : Nat) (x1 : Nat) (x2 : Int32) {hf : jH} : ∀ (n : Nat) (x3 : Int32) (h : jH), f_X0_markFar_L2 F x0 x1 x2 n x3 h = some hf → jGo l (d + 3) none RX0 cX0_markFar 5 none false 2 [some (.ref x0), some (.ref x1), some (.int x2), some (.int x3), none] [] h none hf := by
  intro n
  induction n with
  | zero =>
    intro x3 h H
    cases H
  | succ n ih =>
    intro x3 h H
    unfold f_X0_markFar_L2 at H
    refine jr_iload_n dX0_markFar_2 rfl rfl ?_
    refine jr_aload_n dX0_markFar_3 rfl rfl ?_
    refine jr_getI fl_RX0_49 (by decide) dX0_markFar_4 H (fun v1 H => ?_)
    refine jr_icmp_ge (tgt := 78) dX0_markFar_7 (by decide) H (fun H => ?_) (fun H => ?_)
    · exact jr_vret rfl dX0_markFar_78 H
    · refine jr_aload_n dX0_markFar_10 rfl rfl ?_
      refine jr_getR fl_RX0_21 dX0_markFar_11 H (fun v2 H => ?_)
      refine jr_iload_n dX0_markFar_14 rfl rfl ?_
      refine jr_iconst (v := 1) dX0_markFar_15 (by decide) ?_
      refine jr_iload_n dX0_markFar_16 rfl rfl ?_
      refine jr_ishl dX0_markFar_17 ?_
      refine jr_iast dX0_markFar_18 H (fun h3 H => ?_)
      refine jr_iconst (v := 0) dX0_markFar_19 (by decide) ?_
      refine jr_istore dX0_markFar_20 (by decide) rfl (Or.inl rfl) ?_
      refine s_X0_markFar_L22 l d F x0 x1 x2 x3 _ (fun h13 H => ?_) F 0 h3 H
      · refine jr_iinc (v := (x3 + 1)) dX0_markFar_72 rfl rfl (by decide) rfl (Or.inl rfl) ?_
        refine jr_goto (tgt := 2) dX0_markFar_75 (by decide) ?_
        exact ih _ _ H
set_option maxRecDepth 100000 in
set_option maxHeartbeats 4000000 in
theorem c_X0_markFar (l : Launch) (d : Nat) (F : Nat) (a0 : Nat) (a1 : Nat) (a2 : Int32) (h : jH) (hf : jH) (H : f_X0_markFar F a0 a1 a2 h = some hf) : jh_sh h a0 = (0, 0) ∧ jMet l (d + 3) yX0_markFar cX0_markFar 5 none [.ref a0, .ref a1, .int a2] h none hf := by
  unfold f_X0_markFar at H
  obtain ⟨hsh, H⟩ := j_gd_some H
  refine ⟨hsh, ?_⟩
  refine jMet.of false [some (.ref a0), some (.ref a1), some (.int a2), none, none] rfl (by decide) (by decide) (Nat.le_of_ble_eq_true rfl) (fun S0 q hq => by simpa [j_l, lv_args, j_v, Value.category] using hq) ?_
  refine jr_iconst (v := 0) dX0_markFar_0 (by decide) ?_
  refine jr_istore_n dX0_markFar_1 rfl (by decide) rfl (Or.inl rfl) ?_
  exact s_X0_markFar_L2 l d F a0 a1 a2 F 0 h H
set_option maxRecDepth 100000 in
set_option maxHeartbeats 4000000 in
theorem s_X10_priceOf_L4 (l : Launch) (d : Nat) (F : Nat) (x0 : Nat) (x1 : Int32) {rR : Int32} {hf : jH} : ∀ (n : Nat) (x2 : Int32) (x3 : Int32) (h : jH), f_X10_priceOf_L4 F x0 x1 n x2 x3 h = some (rR, hf) → jGo l (d + 0) none RX10 cX10_priceOf 4 (some .int) false 4 [some (.ref x0), some (.int x1), some (.int x2), some (.int x3)] [] h (some (.int rR)) hf := by
  intro n
  induction n with
  | zero =>
    intro x2 x3 h H
    cases H
  | succ n ih =>
    intro x2 x3 h H
    unfold f_X10_priceOf_L4 at H
    refine jr_iload_n dX10_priceOf_4 rfl rfl ?_
    refine jr_aload_n dX10_priceOf_5 rfl rfl ?_
    refine jr_getR fl_RX10_26 dX10_priceOf_6 H (fun v1 H => ?_)
    refine jr_getI fl_RX10_127 (by decide) dX10_priceOf_9 H (fun v2 H => ?_)
    refine jr_icmp_ge (tgt := 36) dX10_priceOf_12 (by decide) H (fun H => ?_) (fun H => ?_)
    · refine jr_iload_n dX10_priceOf_36 rfl rfl ?_
      exact jr_iret rfl dX10_priceOf_37 H
    · refine jr_iload_n dX10_priceOf_15 rfl rfl ?_
      refine jr_iload_n dX10_priceOf_16 rfl rfl ?_
      refine jr_iload_n dX10_priceOf_17 rfl rfl ?_
      refine jr_ishr dX10_priceOf_18 ?_
      refine jr_iconst (v := 1) dX10_priceOf_19 (by decide) ?_
      refine jr_iand dX10_priceOf_20 ?_
      refine jr_aload_n dX10_priceOf_21 rfl rfl ?_
      refine jr_getR fl_RX10_77 dX10_priceOf_22 H (fun v3 H => ?_)
      refine jr_iload_n dX10_priceOf_25 rfl rfl ?_
      refine jr_iald dX10_priceOf_26 H (fun v4 H => ?_)
      refine jr_imul dX10_priceOf_27 ?_
      refine jr_iadd dX10_priceOf_28 ?_
      refine jr_istore_n dX10_priceOf_29 rfl (by decide) rfl (Or.inl rfl) ?_
      refine jr_iinc (v := (x3 + 1)) dX10_priceOf_30 rfl rfl (by decide) rfl (Or.inl rfl) ?_
      refine jr_goto (tgt := 4) dX10_priceOf_33 (by decide) ?_
      exact ih _ _ _ H
set_option maxRecDepth 100000 in
set_option maxHeartbeats 4000000 in
theorem c_X10_priceOf (l : Launch) (d : Nat) (F : Nat) (a0 : Nat) (a1 : Int32) (h : jH) (rR : Int32) (hf : jH) (H : f_X10_priceOf F a0 a1 h = some (rR, hf)) : jh_sh h a0 = (10, 0) ∧ jMet l (d + 0) yX10_priceOf cX10_priceOf 4 (some .int) [.ref a0, .int a1] h (some (.int rR)) hf := by
  unfold f_X10_priceOf at H
  obtain ⟨hsh, H⟩ := j_gd_some H
  refine ⟨hsh, ?_⟩
  refine jMet.of false [some (.ref a0), some (.int a1), none, none] rfl (by decide) (by decide) (Nat.le_of_ble_eq_true rfl) (fun S0 q hq => by simpa [j_l, lv_args, j_v, Value.category] using hq) ?_
  refine jr_iconst (v := 0) dX10_priceOf_0 (by decide) ?_
  refine jr_istore_n dX10_priceOf_1 rfl (by decide) rfl (Or.inl rfl) ?_
  refine jr_iconst (v := 0) dX10_priceOf_2 (by decide) ?_
  refine jr_istore_n dX10_priceOf_3 rfl (by decide) rfl (Or.inl rfl) ?_
  exact s_X10_priceOf_L4 l d F a0 a1 F 0 0 h H
set_option maxRecDepth 100000 in
set_option maxHeartbeats 4000000 in
theorem s_X10_code_L41 (l : Launch) (d : Nat) (F : Nat) (x0 : Nat) (k114 : Int32 → jH → Option (Int32 × jH)) {rR : Int32} {hf : jH} (hk114 : ∀ (y2 : Int32) (h : jH), k114 y2 h = some (rR, hf) → jGo l (d + 4) none RX10 cX10_code 5 (some .int) false 114 [some (.ref x0), none, some (.int y2), none, none] [] h (some (.int rR)) hf) : ∀ (n : Nat) (x2 : Int32) (x3 : Int32) (h : jH), f_X10_code_L41 F x0 k114 n x2 x3 h = some (rR, hf) → jGo l (d + 4) none RX10 cX10_code 5 (some .int) false 41 [some (.ref x0), none, some (.int x2), some (.int x3), none] [] h (some (.int rR)) hf := by
  intro n
  induction n with
  | zero =>
    intro x2 x3 h H
    cases H
  | succ n ih =>
    intro x2 x3 h H
    unfold f_X10_code_L41 at H
    refine jr_iload_n dX10_code_41 rfl rfl ?_
    refine jr_iconst (v := 1) dX10_code_42 (by decide) ?_
    refine jr_aload_n dX10_code_43 rfl rfl ?_
    refine jr_getR fl_RX10_26 dX10_code_44 H (fun v7 H => ?_)
    refine jr_getI fl_RX10_127 (by decide) dX10_code_47 H (fun v8 H => ?_)
    refine jr_ishl dX10_code_50 ?_
    refine jr_icmp_ge (tgt := 114) dX10_code_51 (by decide) H (fun H => ?_) (fun H => ?_)
    · refine jr_fgt 3 ?_
      exact hk114 _ _ H
    · refine jr_iload_n dX10_code_54 rfl rfl ?_
      obtain ⟨v10, h9, Hc, H⟩ := j_b2_some H
      refine jr_callS [.int x3] my_J6_bitCount_0f7a4 ms_J6_bitCount_0f7a4 ml_RX10_308 dX10_code_55 rfl rfl (Nat.le_of_ble_eq_true rfl) (c_J6_bitCount_0f7a4 l (d + 3) F x3 h v10 h9 Hc) ?_
      refine jr_iload_n dX10_code_58 rfl rfl ?_
      obtain ⟨v12, h11, Hc, H⟩ := j_b2_some H
      refine jr_callS [.int x2] my_J6_bitCount_0f7a4 ms_J6_bitCount_0f7a4 ml_RX10_308 dX10_code_59 rfl rfl (Nat.le_of_ble_eq_true rfl) (c_J6_bitCount_0f7a4 l (d + 3) F x2 h9 v12 h11 Hc) ?_
      refine jr_isub dX10_code_62 ?_
      refine jr_istore dX10_code_63 (by decide) rfl (Or.inl rfl) ?_
      refine jr_iload dX10_code_65 rfl ?_
      refine jr_jn (fun J => ∀ (z13 : Int32) (h14 : jH), J z13 h14 = some (rR, hf) → jGo l (d + 4) none RX10 cX10_code 5 (some .int) false 108 [some (.ref x0), none, some (.int z13), some (.int x3), none] [] h14 (some (.int rR)) hf) H (fun z13 h14 H => ?_) (fun J108 hJ108 H => ?_)
      · refine jr_iinc (v := (x3 + 1)) dX10_code_108 rfl rfl (by decide) rfl (Or.inl rfl) ?_
        refine jr_goto (tgt := 41) dX10_code_111 (by decide) ?_
        exact ih _ _ _ H
      · refine jr_if_lt (tgt := 108) dX10_code_67 (by decide) H (fun H => ?_) (fun H => ?_)
        · refine jr_fgt 4 ?_
          exact hJ108 _ _ H
        · refine jr_aload_n dX10_code_70 rfl rfl ?_
          refine jr_getR fl_RX10_62 dX10_code_71 H (fun v15 H => ?_)
          refine jr_iload_n dX10_code_74 rfl rfl ?_
          refine jr_aload_n dX10_code_75 rfl rfl ?_
          refine jr_getR fl_RX10_26 dX10_code_76 H (fun v16 H => ?_)
          refine jr_getI fl_RX10_127 (by decide) dX10_code_79 H (fun v17 H => ?_)
          obtain ⟨v19, h18, Hc, H⟩ := j_b2_some H
          refine jr_callV (ci := 0) [.int x3, .int v17] my_X0_areFar mv_X0_areFar ml_RX10_313 dX10_code_82 rfl rfl (Nat.le_of_ble_eq_true rfl) rfl (c_X0_areFar l (d + 3) F v15 x3 v17 h11 v19 h18 Hc) ?_
          refine jr_if_eq (tgt := 108) dX10_code_85 (by decide) H (fun H => ?_) (fun H => ?_)
          · refine jr_fgt 4 ?_
            exact hJ108 _ _ H
          · refine jr_iload dX10_code_88 rfl ?_
            refine jr_jn (fun J => ∀ (h20 : jH), J h20 = some (rR, hf) → jGo l (d + 4) none RX10 cX10_code 5 (some .int) false 106 [some (.ref x0), none, none, some (.int x3), none] [] h20 (some (.int rR)) hf) H (fun h20 H => ?_) (fun J106 hJ106 H => ?_)
            · refine jr_iload_n dX10_code_106 rfl rfl ?_
              refine jr_istore_n dX10_code_107 rfl (by decide) rfl (Or.inl rfl) ?_
              exact hJ108 _ _ H
            · refine jr_if_gt (tgt := 106) dX10_code_90 (by decide) H (fun H => ?_) (fun H => ?_)
              · refine jr_fgt 2 ?_
                refine jr_fgt 4 ?_
                exact hJ106 _ H
              · refine jr_aload_n dX10_code_93 rfl rfl ?_
                refine jr_iload_n dX10_code_94 rfl rfl ?_
                obtain ⟨v22, h21, Hc, H⟩ := j_b2_some H
                refine jr_callV (ci := 10) [.int x3] my_X10_priceOf mv_X10_priceOf ml_RX10_316 dX10_code_95 rfl rfl (Nat.le_of_ble_eq_true rfl) rfl (c_X10_priceOf l (d + 3) F x0 x3 h18 v22 h21 Hc) ?_
                refine jr_aload_n dX10_code_98 rfl rfl ?_
                refine jr_iload_n dX10_code_99 rfl rfl ?_
                obtain ⟨v24, h23, Hc, H⟩ := j_b2_some H
                refine jr_callV (ci := 10) [.int x2] my_X10_priceOf mv_X10_priceOf ml_RX10_316 dX10_code_100 rfl rfl (Nat.le_of_ble_eq_true rfl) rfl (c_X10_priceOf l (d + 3) F x0 x2 h21 v24 h23 Hc) ?_
                refine jr_icmp_ge (tgt := 108) dX10_code_103 (by decide) H (fun H => ?_) (fun H => ?_)
                · refine jr_fgt 4 ?_
                  exact hJ108 _ _ H
                · refine jr_fgt 2 ?_
                  refine jr_fgt 4 ?_
                  exact hJ106 _ H
set_option maxRecDepth 100000 in
set_option maxHeartbeats 4000000 in
theorem c_X10_code (l : Launch) (d : Nat) (F : Nat) (a0 : Nat) (a1 : Int32) (h : jH) (rR : Int32) (hf : jH) (H : f_X10_code F a0 a1 h = some (rR, hf)) : jh_sh h a0 = (10, 0) ∧ jMet l (d + 4) yX10_code cX10_code 5 (some .int) [.ref a0, .int a1] h (some (.int rR)) hf := by
  unfold f_X10_code at H
  obtain ⟨hsh, H⟩ := j_gd_some H
  refine ⟨hsh, ?_⟩
  refine jMet.of false [some (.ref a0), some (.int a1), none, none, none] rfl (by decide) (by decide) (Nat.le_of_ble_eq_true rfl) (fun S0 q hq => by simpa [j_l, lv_args, j_v, Value.category] using hq) ?_
  refine jr_iload_n dX10_code_0 rfl rfl ?_
  refine jr_if_lt (tgt := 10) dX10_code_1 (by decide) H (fun H => ?_) (fun H => ?_)
  · refine jr_iconst (v := (-1)) dX10_code_10 (by decide) ?_
    exact jr_iret rfl dX10_code_11 H
  · refine jr_iload_n dX10_code_4 rfl rfl ?_
    refine jr_bipush (v := 6) dX10_code_5 (by decide) ?_
    refine jr_icmp_le (tgt := 12) dX10_code_7 (by decide) H (fun H => ?_) (fun H => ?_)
    · refine jr_aload_n dX10_code_12 rfl rfl ?_
      refine jr_aload_n dX10_code_13 rfl rfl ?_
      refine jr_getR fl_RX10_92 dX10_code_14 H (fun v1 H => ?_)
      refine jr_iconst (v := 0) dX10_code_17 (by decide) ?_
      refine jr_aload_n dX10_code_18 rfl rfl ?_
      refine jr_getR fl_RX10_77 dX10_code_19 H (fun v2 H => ?_)
      obtain ⟨h3, Hc, H⟩ := Option.bind_eq_some_iff.mp H
      refine jr_callV (ci := 10) [.ref v1, .int 0, .ref v2] my_X10_priceAll mv_X10_priceAll ml_RX10_253 dX10_code_22 rfl rfl (Nat.le_of_ble_eq_true rfl) rfl (c_X10_priceAll l d F a0 v1 0 v2 h h3 Hc) ?_
      refine jr_aload_n dX10_code_25 rfl rfl ?_
      refine jr_getR fl_RX10_62 dX10_code_26 H (fun v4 H => ?_)
      refine jr_aload_n dX10_code_29 rfl rfl ?_
      refine jr_getR fl_RX10_26 dX10_code_30 H (fun v5 H => ?_)
      refine jr_iload_n dX10_code_33 rfl rfl ?_
      obtain ⟨h6, Hc, H⟩ := Option.bind_eq_some_iff.mp H
      refine jr_callV (ci := 0) [.ref v5, .int a1] my_X0_markFar mv_X0_markFar ml_RX10_304 dX10_code_34 rfl rfl (Nat.le_of_ble_eq_true rfl) rfl (c_X0_markFar l d F v4 v5 a1 h3 h6 Hc) ?_
      refine jr_iconst (v := 0) dX10_code_37 (by decide) ?_
      refine jr_istore_n dX10_code_38 rfl (by decide) rfl (Or.inl rfl) ?_
      refine jr_iconst (v := 1) dX10_code_39 (by decide) ?_
      refine jr_istore_n dX10_code_40 rfl (by decide) rfl (Or.inl rfl) ?_
      refine jr_fgt 1 ?_
      refine s_X10_code_L41 l d F a0 _ (fun y25 h26 H => ?_) F 0 1 h6 H
      · refine jr_aload_n dX10_code_114 rfl rfl ?_
        refine jr_getR fl_RX10_19 dX10_code_115 H (fun v27 H => ?_)
        refine jr_iload_n dX10_code_118 rfl rfl ?_
        refine jr_i2l dX10_code_119 ?_
        obtain ⟨h28, Hc, H⟩ := Option.bind_eq_some_iff.mp H
        refine jr_callV (ci := 6) [.long (y25.toInt64)] my_X6_tell mv_X6_tell ml_RX10_236 dX10_code_120 rfl rfl (Nat.le_of_ble_eq_true rfl) rfl (c_X6_tell l (d + 2) F v27 (y25.toInt64) h26 h28 Hc) ?_
        refine jr_iload_n dX10_code_123 rfl rfl ?_
        obtain ⟨v30, h29, Hc, H⟩ := j_b2_some H
        refine jr_callS [.int y25] my_J6_bitCount_0f7a4 ms_J6_bitCount_0f7a4 ml_RX10_308 dX10_code_124 rfl rfl (Nat.le_of_ble_eq_true rfl) (c_J6_bitCount_0f7a4 l (d + 3) F y25 h28 v30 h29 Hc) ?_
        exact jr_iret rfl dX10_code_127 H
    · refine jr_iconst (v := (-1)) dX10_code_10 (by decide) ?_
      exact jr_iret rfl dX10_code_11 H
set_option maxRecDepth 100000 in
set_option maxHeartbeats 4000000 in
theorem s_X5_sayAt_L10 (l : Launch) (d : Nat) (F : Nat) (x0 : Nat) (x2 : Int32) (x3 : Int32) (x4 : Int32) {hf : jH} : ∀ (n : Nat) (x5 : Int32) (h : jH), f_X5_sayAt_L10 F x0 x2 x3 x4 n x5 h = some hf → jGo l (d + 0) none RX5 cX5_sayAt 7 none false 10 [some (.ref x0), none, some (.int x2), some (.int x3), some (.int x4), some (.int x5), none] [] h none hf := by
  intro n
  induction n with
  | zero =>
    intro x5 h H
    cases H
  | succ n ih =>
    intro x5 h H
    unfold f_X5_sayAt_L10 at H
    refine jr_iload dX5_sayAt_10 rfl ?_
    refine jr_aload_n dX5_sayAt_12 rfl rfl ?_
    refine jr_getI fl_RX5_48 (by decide) dX5_sayAt_13 H (fun v1 H => ?_)
    refine jr_icmp_gt (tgt := 70) dX5_sayAt_16 (by decide) H (fun H => ?_) (fun H => ?_)
    · exact jr_vret rfl dX5_sayAt_70 H
    · refine jr_aload_n dX5_sayAt_19 rfl rfl ?_
      refine jr_getR fl_RX5_21 dX5_sayAt_20 H (fun v2 H => ?_)
      refine jr_iload dX5_sayAt_23 rfl ?_
      refine jr_iload dX5_sayAt_25 rfl ?_
      refine jr_iadd dX5_sayAt_27 ?_
      refine jr_iald dX5_sayAt_28 H (fun v3 H => ?_)
      refine jr_iload_n dX5_sayAt_29 rfl rfl ?_
      refine jr_iadd dX5_sayAt_30 ?_
      refine jr_istore dX5_sayAt_31 (by decide) rfl (Or.inl rfl) ?_
      refine jr_iload dX5_sayAt_33 rfl ?_
      refine jr_aload_n dX5_sayAt_35 rfl rfl ?_
      refine jr_getR fl_RX5_21 dX5_sayAt_36 H (fun v4 H => ?_)
      refine jr_iload dX5_sayAt_39 rfl ?_
      refine jr_iload dX5_sayAt_41 rfl ?_
      refine jr_iload_n dX5_sayAt_43 rfl rfl ?_
      refine jr_ior dX5_sayAt_44 ?_
      refine jr_iadd dX5_sayAt_45 ?_
      refine jr_iald dX5_sayAt_46 H (fun v5 H => ?_)
      refine jr_jn (fun J => ∀ (h6 : jH), J h6 = some hf → jGo l (d + 0) none RX5 cX5_sayAt 7 none false 64 [some (.ref x0), none, some (.int x2), some (.int x3), some (.int x4), some (.int x5), none] [] h6 none hf) H (fun h6 H => ?_) (fun J64 hJ64 H => ?_)
      · refine jr_iinc (v := (x5 + 1)) dX5_sayAt_64 rfl rfl (by decide) rfl (Or.inl rfl) ?_
        refine jr_goto (tgt := 10) dX5_sayAt_67 (by decide) ?_
        exact ih _ _ H
      · refine jr_icmp_ge (tgt := 64) dX5_sayAt_47 (by decide) H (fun H => ?_) (fun H => ?_)
        · refine jr_fgt 6 ?_
          exact hJ64 _ H
        · refine jr_aload_n dX5_sayAt_50 rfl rfl ?_
          refine jr_getR fl_RX5_21 dX5_sayAt_51 H (fun v7 H => ?_)
          refine jr_iload dX5_sayAt_54 rfl ?_
          refine jr_iload dX5_sayAt_56 rfl ?_
          refine jr_iload_n dX5_sayAt_58 rfl rfl ?_
          refine jr_ior dX5_sayAt_59 ?_
          refine jr_iadd dX5_sayAt_60 ?_
          refine jr_iload dX5_sayAt_61 rfl ?_
          refine jr_iast dX5_sayAt_63 H (fun h8 H => ?_)
          refine jr_fgt 6 ?_
          exact hJ64 _ H
set_option maxRecDepth 100000 in
set_option maxHeartbeats 4000000 in
theorem c_X5_sayAt (l : Launch) (d : Nat) (F : Nat) (a0 : Nat) (a1 : Int32) (a2 : Int32) (a3 : Int32) (h : jH) (hf : jH) (H : f_X5_sayAt F a0 a1 a2 a3 h = some hf) : jh_sh h a0 = (5, 0) ∧ jMet l (d + 0) yX5_sayAt cX5_sayAt 7 none [.ref a0, .int a1, .int a2, .int a3] h none hf := by
  unfold f_X5_sayAt at H
  obtain ⟨hsh, H⟩ := j_gd_some H
  refine ⟨hsh, ?_⟩
  refine jMet.of false [some (.ref a0), some (.int a1), some (.int a2), some (.int a3), none, none, none] rfl (by decide) (by decide) (Nat.le_of_ble_eq_true rfl) (fun S0 q hq => by simpa [j_l, lv_args, j_v, Value.category] using hq) ?_
  refine jr_iload_n dX5_sayAt_0 rfl rfl ?_
  refine jr_sipush (v := 256) dX5_sayAt_1 (by decide) ?_
  refine jr_imul dX5_sayAt_4 ?_
  refine jr_istore dX5_sayAt_5 (by decide) rfl (Or.inl rfl) ?_
  refine jr_iconst (v := 0) dX5_sayAt_7 (by decide) ?_
  refine jr_istore dX5_sayAt_8 (by decide) rfl (Or.inl rfl) ?_
  refine jr_fgt 1 ?_
  exact s_X5_sayAt_L10 l d F a0 a2 a3 (a1 * (256 : Int32)) F 0 h H
set_option maxRecDepth 100000 in
set_option maxHeartbeats 4000000 in
theorem s_X10_sayThere_L3 (l : Launch) (d : Nat) (F : Nat) (x0 : Nat) (x1 : Int32) (x2 : Int32) (x3 : Int32) {hf : jH} : ∀ (n : Nat) (x4 : Int32) (h : jH), f_X10_sayThere_L3 F x0 x1 x2 x3 n x4 h = some hf → jGo l (d + 3) none RX10 cX10_sayThere 6 none false 3 [some (.ref x0), some (.int x1), some (.int x2), some (.int x3), some (.int x4), none] [] h none hf := by
  intro n
  induction n with
  | zero =>
    intro x4 h H
    cases H
  | succ n ih =>
    intro x4 h H
    unfold f_X10_sayThere_L3 at H
    refine jr_iload dX10_sayThere_3 rfl ?_
    refine jr_aload_n dX10_sayThere_5 rfl rfl ?_
    refine jr_getR fl_RX10_26 dX10_sayThere_6 H (fun v1 H => ?_)
    refine jr_getI fl_RX10_127 (by decide) dX10_sayThere_9 H (fun v2 H => ?_)
    refine jr_icmp_ge (tgt := 81) dX10_sayThere_12 (by decide) H (fun H => ?_) (fun H => ?_)
    · exact jr_vret rfl dX10_sayThere_81 H
    · refine jr_iload_n dX10_sayThere_15 rfl rfl ?_
      refine jr_if_eq (tgt := 81) dX10_sayThere_16 (by decide) H (fun H => ?_) (fun H => ?_)
      · exact jr_vret rfl dX10_sayThere_81 H
      · refine jr_iload_n dX10_sayThere_19 rfl rfl ?_
        refine jr_aload_n dX10_sayThere_20 rfl rfl ?_
        refine jr_getR fl_RX10_33 dX10_sayThere_21 H (fun v3 H => ?_)
        refine jr_aload_n dX10_sayThere_24 rfl rfl ?_
        refine jr_getR fl_RX10_26 dX10_sayThere_25 H (fun v4 H => ?_)
        refine jr_iload dX10_sayThere_28 rfl ?_
        refine jr_iload_n dX10_sayThere_30 rfl rfl ?_
        obtain ⟨v6, h5, Hc, H⟩ := j_b2_some H
        refine jr_callV (ci := 2) [.ref v4, .int x4, .int x2] my_X2_metBy mv_X2_metBy ml_RX10_422 dX10_sayThere_31 rfl rfl (Nat.le_of_ble_eq_true rfl) rfl (c_X2_metBy l (d + 1) F v3 v4 x4 x2 h v6 h5 Hc) ?_
        refine jr_iand dX10_sayThere_34 ?_
        refine jr_istore dX10_sayThere_35 (by decide) rfl (Or.inl rfl) ?_
        refine jr_iload dX10_sayThere_37 rfl ?_
        refine jr_jn (fun J => ∀ (h7 : jH), J h7 = some hf → jGo l (d + 3) none RX10 cX10_sayThere 6 none false 75 [some (.ref x0), some (.int x1), some (.int x2), some (.int x3), some (.int x4), none] [] h7 none hf) H (fun h7 H => ?_) (fun J75 hJ75 H => ?_)
        · refine jr_iinc (v := (x4 + 1)) dX10_sayThere_75 rfl rfl (by decide) rfl (Or.inl rfl) ?_
          refine jr_goto (tgt := 3) dX10_sayThere_78 (by decide) ?_
          exact ih _ _ H
        · refine jr_if_eq (tgt := 75) dX10_sayThere_39 (by decide) H (fun H => ?_) (fun H => ?_)
          · refine jr_fgt 5 ?_
            exact hJ75 _ H
          · refine jr_aload_n dX10_sayThere_42 rfl rfl ?_
            refine jr_getR fl_RX10_69 dX10_sayThere_43 H (fun v8 H => ?_)
            refine jr_iload_n dX10_sayThere_46 rfl rfl ?_
            refine jr_iload dX10_sayThere_47 rfl ?_
            refine jr_aload_n dX10_sayThere_49 rfl rfl ?_
            refine jr_getR fl_RX10_92 dX10_sayThere_50 H (fun v9 H => ?_)
            refine jr_aload_n dX10_sayThere_53 rfl rfl ?_
            refine jr_getR fl_RX10_26 dX10_sayThere_54 H (fun v10 H => ?_)
            refine jr_iload dX10_sayThere_57 rfl ?_
            refine jr_iload_n dX10_sayThere_59 rfl rfl ?_
            refine jr_aload_n dX10_sayThere_60 rfl rfl ?_
            refine jr_getR fl_RX10_40 dX10_sayThere_61 H (fun v11 H => ?_)
            refine jr_getI fl_RX10_206 (by decide) dX10_sayThere_64 H (fun v12 H => ?_)
            refine jr_iload_n dX10_sayThere_67 rfl rfl ?_
            refine jr_iadd dX10_sayThere_68 ?_
            obtain ⟨v14, h13, Hc, H⟩ := j_b2_some H
            refine jr_callV (ci := 8) [.ref v10, .int x4, .int x2, .int (v12 + x3)] my_X8_charge mv_X8_charge ml_RX10_209 dX10_sayThere_69 rfl rfl (Nat.le_of_ble_eq_true rfl) rfl (c_X8_charge l d F v9 v10 x4 x2 (v12 + x3) h5 v14 h13 Hc) ?_
            obtain ⟨h15, Hc, H⟩ := Option.bind_eq_some_iff.mp H
            refine jr_callV (ci := 5) [.int x2, .int (x1 &&& v6), .int v14] my_X5_sayAt mv_X5_sayAt ml_RX10_456 dX10_sayThere_72 rfl rfl (Nat.le_of_ble_eq_true rfl) rfl (c_X5_sayAt l (d + 2) F v8 x2 (x1 &&& v6) v14 h13 h15 Hc) ?_
            refine jr_fgt 5 ?_
            exact hJ75 _ H
set_option maxRecDepth 100000 in
set_option maxHeartbeats 4000000 in
theorem c_X10_sayThere (l : Launch) (d : Nat) (F : Nat) (a0 : Nat) (a1 : Int32) (a2 : Int32) (a3 : Int32) (h : jH) (hf : jH) (H : f_X10_sayThere F a0 a1 a2 a3 h = some hf) : jh_sh h a0 = (10, 0) ∧ jMet l (d + 3) yX10_sayThere cX10_sayThere 6 none [.ref a0, .int a1, .int a2, .int a3] h none hf := by
  unfold f_X10_sayThere at H
  obtain ⟨hsh, H⟩ := j_gd_some H
  refine ⟨hsh, ?_⟩
  refine jMet.of false [some (.ref a0), some (.int a1), some (.int a2), some (.int a3), none, none] rfl (by decide) (by decide) (Nat.le_of_ble_eq_true rfl) (fun S0 q hq => by simpa [j_l, lv_args, j_v, Value.category] using hq) ?_
  refine jr_iconst (v := 0) dX10_sayThere_0 (by decide) ?_
  refine jr_istore dX10_sayThere_1 (by decide) rfl (Or.inl rfl) ?_
  exact s_X10_sayThere_L3 l d F a0 a1 a2 a3 F 0 h H
set_option maxRecDepth 100000 in
set_option maxHeartbeats 4000000 in
theorem c_X5_begin (l : Launch) (d : Nat) (F : Nat) (a0 : Nat) (a1 : Int32) (a2 : Int32) (a3 : Int32) (h : jH) (hf : jH) (H : f_X5_begin F a0 a1 a2 a3 h = some hf) : jh_sh h a0 = (5, 0) ∧ jMet l (d + 1) yX5_begin cX5_begin 4 none [.ref a0, .int a1, .int a2, .int a3] h none hf := by
  unfold f_X5_begin at H
  obtain ⟨hsh, H⟩ := j_gd_some H
  refine ⟨hsh, ?_⟩
  refine jMet.of false [some (.ref a0), some (.int a1), some (.int a2), some (.int a3)] rfl (by decide) (by decide) (Nat.le_of_ble_eq_true rfl) (fun S0 q hq => by simpa [j_l, lv_args, j_v, Value.category] using hq) ?_
  refine jr_aload_n dX5_begin_0 rfl rfl ?_
  refine jr_iload_n dX5_begin_1 rfl rfl ?_
  refine jr_putI fl_RX5_48 (fun z => by cases z) dX5_begin_2 H (fun h1 H => ?_)
  refine jr_aload_n dX5_begin_5 rfl rfl ?_
  refine jr_iload_n dX5_begin_6 rfl rfl ?_
  obtain ⟨v3, h2, Hc, H⟩ := j_b2_some H
  refine jr_callS [.int a1] my_J6_bitCount_0f7a4 ms_J6_bitCount_0f7a4 ml_RX5_51 dX5_begin_7 rfl rfl (Nat.le_of_ble_eq_true rfl) (c_J6_bitCount_0f7a4 l d F a1 h1 v3 h2 Hc) ?_
  refine jr_putI fl_RX5_57 (fun z => by cases z) dX5_begin_10 H (fun h4 H => ?_)
  refine jr_aload_n dX5_begin_13 rfl rfl ?_
  refine jr_iload_n dX5_begin_14 rfl rfl ?_
  refine jr_putI fl_RX5_60 (fun z => by cases z) dX5_begin_15 H (fun h5 H => ?_)
  refine jr_aload_n dX5_begin_18 rfl rfl ?_
  refine jr_ldc cn_RX5_27 dX5_begin_19 ?_
  refine jr_putI fl_RX5_63 (fun z => by cases z) dX5_begin_21 H (fun h6 H => ?_)
  refine jr_aload_n dX5_begin_24 rfl rfl ?_
  refine jr_getR fl_RX5_21 dX5_begin_25 H (fun v7 H => ?_)
  refine jr_ldc cn_RX5_27 dX5_begin_28 ?_
  obtain ⟨h8, Hc, H⟩ := Option.bind_eq_some_iff.mp H
  refine jr_callS [.ref v7, .int 1000000] my_J7_fill_53178 ms_J7_fill_53178 ml_RX5_66 dX5_begin_30 rfl rfl (Nat.le_of_ble_eq_true rfl) (c_J7_fill_53178 l d F v7 1000000 h6 h8 Hc) ?_
  refine jr_aload_n dX5_begin_33 rfl rfl ?_
  refine jr_getR fl_RX5_21 dX5_begin_34 H (fun v9 H => ?_)
  refine jr_iload_n dX5_begin_37 rfl rfl ?_
  refine jr_sipush (v := 256) dX5_begin_38 (by decide) ?_
  refine jr_imul dX5_begin_41 ?_
  refine jr_iconst (v := 0) dX5_begin_42 (by decide) ?_
  refine jr_iast dX5_begin_43 H (fun h10 H => ?_)
  exact jr_vret rfl dX5_begin_44 H
set_option maxRecDepth 100000 in
set_option maxHeartbeats 4000000 in
theorem s_X5_isCheaperNow_L5 (l : Launch) (d : Nat) (F : Nat) (x0 : Nat) (k39 : Int32 → jH → Option (Int32 × jH)) {rR : Int32} {hf : jH} (hk39 : ∀ (y1 : Int32) (h : jH), k39 y1 h = some (rR, hf) → jGo l (d + 1) none RX5 cX5_isCheaperNow 3 (some .boolean) false 39 [some (.ref x0), some (.int y1), none] [] h (some (.int rR)) hf) : ∀ (n : Nat) (x1 : Int32) (x2 : Int32) (h : jH), f_X5_isCheaperNow_L5 F x0 k39 n x1 x2 h = some (rR, hf) → jGo l (d + 1) none RX5 cX5_isCheaperNow 3 (some .boolean) false 5 [some (.ref x0), some (.int x1), some (.int x2)] [] h (some (.int rR)) hf := by
  intro n
  induction n with
  | zero =>
    intro x1 x2 h H
    cases H
  | succ n ih =>
    intro x1 x2 h H
    unfold f_X5_isCheaperNow_L5 at H
    refine jr_iload_n dX5_isCheaperNow_5 rfl rfl ?_
    refine jr_aload_n dX5_isCheaperNow_6 rfl rfl ?_
    refine jr_getI fl_RX5_60 (by decide) dX5_isCheaperNow_7 H (fun v1 H => ?_)
    refine jr_icmp_ge (tgt := 39) dX5_isCheaperNow_10 (by decide) H (fun H => ?_) (fun H => ?_)
    · refine jr_fgt 2 ?_
      exact hk39 _ _ H
    · refine jr_iload_n dX5_isCheaperNow_13 rfl rfl ?_
      refine jr_aload_n dX5_isCheaperNow_14 rfl rfl ?_
      refine jr_getR fl_RX5_21 dX5_isCheaperNow_15 H (fun v2 H => ?_)
      refine jr_iload_n dX5_isCheaperNow_18 rfl rfl ?_
      refine jr_sipush (v := 256) dX5_isCheaperNow_19 (by decide) ?_
      refine jr_imul dX5_isCheaperNow_22 ?_
      refine jr_aload_n dX5_isCheaperNow_23 rfl rfl ?_
      refine jr_getI fl_RX5_48 (by decide) dX5_isCheaperNow_24 H (fun v3 H => ?_)
      refine jr_iadd dX5_isCheaperNow_27 ?_
      refine jr_iald dX5_isCheaperNow_28 H (fun v4 H => ?_)
      refine jr_mmin ml_RX5_72 mm_mmin_s mm_i mm_mmin_c dX5_isCheaperNow_29 (Nat.le_of_ble_eq_true rfl) ?_
      refine jr_istore_n dX5_isCheaperNow_32 rfl (by decide) rfl (Or.inl rfl) ?_
      refine jr_iinc (v := (x2 + 1)) dX5_isCheaperNow_33 rfl rfl (by decide) rfl (Or.inl rfl) ?_
      refine jr_goto (tgt := 5) dX5_isCheaperNow_36 (by decide) ?_
      exact ih _ _ _ H
set_option maxRecDepth 100000 in
set_option maxHeartbeats 4000000 in
theorem c_X5_isCheaperNow (l : Launch) (d : Nat) (F : Nat) (a0 : Nat) (h : jH) (rR : Int32) (hf : jH) (H : f_X5_isCheaperNow F a0 h = some (rR, hf)) : jh_sh h a0 = (5, 0) ∧ jMet l (d + 1) yX5_isCheaperNow cX5_isCheaperNow 3 (some .boolean) [.ref a0] h (some (.int rR)) hf := by
  unfold f_X5_isCheaperNow at H
  obtain ⟨hsh, H⟩ := j_gd_some H
  refine ⟨hsh, ?_⟩
  refine jMet.of false [some (.ref a0), none, none] rfl (by decide) (by decide) (Nat.le_of_ble_eq_true rfl) (fun S0 q hq => by simpa [j_l, lv_args, j_v, Value.category] using hq) ?_
  refine jr_ldc cn_RX5_27 dX5_isCheaperNow_0 ?_
  refine jr_istore_n dX5_isCheaperNow_2 rfl (by decide) rfl (Or.inl rfl) ?_
  refine jr_iconst (v := 0) dX5_isCheaperNow_3 (by decide) ?_
  refine jr_istore_n dX5_isCheaperNow_4 rfl (by decide) rfl (Or.inl rfl) ?_
  refine s_X5_isCheaperNow_L5 l d F a0 _ (fun y5 h6 H => ?_) F 1000000 0 h H
  · refine jr_iload_n dX5_isCheaperNow_39 rfl rfl ?_
    refine jr_aload_n dX5_isCheaperNow_40 rfl rfl ?_
    refine jr_getI fl_RX5_63 (by decide) dX5_isCheaperNow_41 H (fun v7 H => ?_)
    refine jr_icmp_lt (tgt := 49) dX5_isCheaperNow_44 (by decide) H (fun H => ?_) (fun H => ?_)
    · refine jr_aload_n dX5_isCheaperNow_49 rfl rfl ?_
      refine jr_iload_n dX5_isCheaperNow_50 rfl rfl ?_
      refine jr_putI fl_RX5_63 (fun z => by cases z) dX5_isCheaperNow_51 H (fun h8 H => ?_)
      refine jr_iconst (v := 1) dX5_isCheaperNow_54 (by decide) ?_
      exact jr_zret rfl rfl dX5_isCheaperNow_55 H
    · refine jr_iconst (v := 0) dX5_isCheaperNow_47 (by decide) ?_
      exact jr_zret rfl rfl dX5_isCheaperNow_48 H
set_option maxRecDepth 100000 in
set_option maxHeartbeats 4000000 in
theorem s_X5_walkOn_L12 (l : Launch) (d : Nat) (F : Nat) (x0 : Nat) (x1 : Int32) (k104 : jH → Option jH) {hf : jH} (hk104 : ∀ (h : jH), k104 h = some hf → jGo l (d + 1) none RX5 cX5_walkOn 4 none false 104 [some (.ref x0), some (.int x1), none, none] [] h none hf) : ∀ (n : Nat) (x2 : Int32) (h : jH), f_X5_walkOn_L12 F x0 x1 k104 n x2 h = some hf → jGo l (d + 1) none RX5 cX5_walkOn 4 none false 12 [some (.ref x0), some (.int x1), some (.int x2), none] [] h none hf := by
  intro n
  induction n with
  | zero =>
    intro x2 h H
    cases H
  | succ n ih =>
    intro x2 h H
    unfold f_X5_walkOn_L12 at H
    refine jr_iload_n dX5_walkOn_12 rfl rfl ?_
    refine jr_aload_n dX5_walkOn_13 rfl rfl ?_
    refine jr_getI fl_RX5_48 (by decide) dX5_walkOn_14 H (fun v2 H => ?_)
    refine jr_icmp_gt (tgt := 104) dX5_walkOn_17 (by decide) H (fun H => ?_) (fun H => ?_)
    · refine jr_fgt 2 ?_
      exact hk104 _ H
    · refine jr_aload_n dX5_walkOn_20 rfl rfl ?_
      refine jr_getR fl_RX5_21 dX5_walkOn_21 H (fun v3 H => ?_)
      refine jr_iload_n dX5_walkOn_24 rfl rfl ?_
      refine jr_sipush (v := 256) dX5_walkOn_25 (by decide) ?_
      refine jr_imul dX5_walkOn_28 ?_
      refine jr_iload_n dX5_walkOn_29 rfl rfl ?_
      refine jr_iadd dX5_walkOn_30 ?_
      refine jr_iald dX5_walkOn_31 H (fun v4 H => ?_)
      refine jr_istore_n dX5_walkOn_32 rfl (by decide) rfl (Or.inl rfl) ?_
      refine jr_iload_n dX5_walkOn_33 rfl rfl ?_
      refine jr_jn (fun J => ∀ (z5 : Int32) (h6 : jH), J z5 h6 = some hf → jGo l (d + 1) none RX5 cX5_walkOn 4 none false 56 [some (.ref x0), some (.int x1), some (.int x2), some (.int z5)] [] h6 none hf) H (fun z5 h6 H => ?_) (fun J56 hJ56 H => ?_)
      · refine jr_iload_n dX5_walkOn_56 rfl rfl ?_
        refine jr_iconst (v := 1) dX5_walkOn_57 (by decide) ?_
        refine jr_iadd dX5_walkOn_58 ?_
        refine jr_aload_n dX5_walkOn_59 rfl rfl ?_
        refine jr_getI fl_RX5_60 (by decide) dX5_walkOn_60 H (fun v7 H => ?_)
        refine jr_jn (fun J => ∀ (z8 : Int32) (h9 : jH), J z8 h9 = some hf → jGo l (d + 1) none RX5 cX5_walkOn 4 none false 85 [some (.ref x0), some (.int x1), some (.int x2), some (.int z8)] [] h9 none hf) H (fun z8 h9 H => ?_) (fun J85 hJ85 H => ?_)
        · refine jr_aload_n dX5_walkOn_85 rfl rfl ?_
          refine jr_getR fl_RX5_24 dX5_walkOn_86 H (fun v10 H => ?_)
          refine jr_iload_n dX5_walkOn_89 rfl rfl ?_
          refine jr_sipush (v := 256) dX5_walkOn_90 (by decide) ?_
          refine jr_imul dX5_walkOn_93 ?_
          refine jr_iload_n dX5_walkOn_94 rfl rfl ?_
          refine jr_iadd dX5_walkOn_95 ?_
          refine jr_iload_n dX5_walkOn_96 rfl rfl ?_
          refine jr_iast dX5_walkOn_97 H (fun h11 H => ?_)
          refine jr_iinc (v := (x2 + 1)) dX5_walkOn_98 rfl rfl (by decide) rfl (Or.inl rfl) ?_
          refine jr_goto (tgt := 12) dX5_walkOn_101 (by decide) ?_
          refine jr_fgt 3 ?_
          exact ih _ _ H
        · refine jr_icmp_ge (tgt := 85) dX5_walkOn_63 (by decide) H (fun H => ?_) (fun H => ?_)
          · exact hJ85 _ _ H
          · refine jr_iload_n dX5_walkOn_66 rfl rfl ?_
            refine jr_aload_n dX5_walkOn_67 rfl rfl ?_
            refine jr_getR fl_RX5_21 dX5_walkOn_68 H (fun v12 H => ?_)
            refine jr_iload_n dX5_walkOn_71 rfl rfl ?_
            refine jr_iconst (v := 1) dX5_walkOn_72 (by decide) ?_
            refine jr_iadd dX5_walkOn_73 ?_
            refine jr_sipush (v := 256) dX5_walkOn_74 (by decide) ?_
            refine jr_imul dX5_walkOn_77 ?_
            refine jr_iload_n dX5_walkOn_78 rfl rfl ?_
            refine jr_iadd dX5_walkOn_79 ?_
            refine jr_iald dX5_walkOn_80 H (fun v13 H => ?_)
            refine jr_mmin ml_RX5_72 mm_mmin_s mm_i mm_mmin_c dX5_walkOn_81 (Nat.le_of_ble_eq_true rfl) ?_
            refine jr_istore_n dX5_walkOn_84 rfl (by decide) rfl (Or.inl rfl) ?_
            exact hJ85 _ _ H
      · refine jr_if_le (tgt := 56) dX5_walkOn_34 (by decide) H (fun H => ?_) (fun H => ?_)
        · exact hJ56 _ _ H
        · refine jr_iload_n dX5_walkOn_37 rfl rfl ?_
          refine jr_aload_n dX5_walkOn_38 rfl rfl ?_
          refine jr_getR fl_RX5_21 dX5_walkOn_39 H (fun v14 H => ?_)
          refine jr_iload_n dX5_walkOn_42 rfl rfl ?_
          refine jr_iconst (v := 1) dX5_walkOn_43 (by decide) ?_
          refine jr_isub dX5_walkOn_44 ?_
          refine jr_sipush (v := 256) dX5_walkOn_45 (by decide) ?_
          refine jr_imul dX5_walkOn_48 ?_
          refine jr_iload_n dX5_walkOn_49 rfl rfl ?_
          refine jr_iadd dX5_walkOn_50 ?_
          refine jr_iald dX5_walkOn_51 H (fun v15 H => ?_)
          refine jr_mmin ml_RX5_72 mm_mmin_s mm_i mm_mmin_c dX5_walkOn_52 (Nat.le_of_ble_eq_true rfl) ?_
          refine jr_istore_n dX5_walkOn_55 rfl (by decide) rfl (Or.inl rfl) ?_
          exact hJ56 _ _ H
set_option maxRecDepth 100000 in
set_option maxHeartbeats 4000000 in
theorem s_X5_walkOn_L2 (l : Launch) (d : Nat) (F : Nat) (x0 : Nat) (k110 : jH → Option jH) {hf : jH} (hk110 : ∀ (h : jH), k110 h = some hf → jGo l (d + 1) none RX5 cX5_walkOn 4 none false 110 [some (.ref x0), none, none, none] [] h none hf) : ∀ (n : Nat) (x1 : Int32) (h : jH), f_X5_walkOn_L2 F x0 k110 n x1 h = some hf → jGo l (d + 1) none RX5 cX5_walkOn 4 none false 2 [some (.ref x0), some (.int x1), none, none] [] h none hf := by
  intro n
  induction n with
  | zero =>
    intro x1 h H
    cases H
  | succ n ih =>
    intro x1 h H
    unfold f_X5_walkOn_L2 at H
    refine jr_iload_n dX5_walkOn_2 rfl rfl ?_
    refine jr_aload_n dX5_walkOn_3 rfl rfl ?_
    refine jr_getI fl_RX5_60 (by decide) dX5_walkOn_4 H (fun v1 H => ?_)
    refine jr_icmp_ge (tgt := 110) dX5_walkOn_7 (by decide) H (fun H => ?_) (fun H => ?_)
    · refine jr_fgt 1 ?_
      exact hk110 _ H
    · refine jr_iconst (v := 0) dX5_walkOn_10 (by decide) ?_
      refine jr_istore_n dX5_walkOn_11 rfl (by decide) rfl (Or.inl rfl) ?_
      refine s_X5_walkOn_L12 l d F x0 x1 _ (fun h16 H => ?_) F 0 h H
      · refine jr_iinc (v := (x1 + 1)) dX5_walkOn_104 rfl rfl (by decide) rfl (Or.inl rfl) ?_
        refine jr_goto (tgt := 2) dX5_walkOn_107 (by decide) ?_
        exact ih _ _ H
set_option maxRecDepth 100000 in
set_option maxHeartbeats 4000000 in
theorem c_X5_walkOn (l : Launch) (d : Nat) (F : Nat) (a0 : Nat) (h : jH) (hf : jH) (H : f_X5_walkOn F a0 h = some hf) : jh_sh h a0 = (5, 0) ∧ jMet l (d + 1) yX5_walkOn cX5_walkOn 4 none [.ref a0] h none hf := by
  unfold f_X5_walkOn at H
  obtain ⟨hsh, H⟩ := j_gd_some H
  refine ⟨hsh, ?_⟩
  refine jMet.of false [some (.ref a0), none, none, none] rfl (by decide) (by decide) (Nat.le_of_ble_eq_true rfl) (fun S0 q hq => by simpa [j_l, lv_args, j_v, Value.category] using hq) ?_
  refine jr_iconst (v := 0) dX5_walkOn_0 (by decide) ?_
  refine jr_istore_n dX5_walkOn_1 rfl (by decide) rfl (Or.inl rfl) ?_
  refine s_X5_walkOn_L2 l d F a0 _ (fun h17 H => ?_) F 0 h H
  · refine jr_aload_n dX5_walkOn_110 rfl rfl ?_
    refine jr_getR fl_RX5_21 dX5_walkOn_111 H (fun v18 H => ?_)
    refine jr_astore_n dX5_walkOn_114 rfl (by decide) rfl (Or.inl rfl) ?_
    refine jr_aload_n dX5_walkOn_115 rfl rfl ?_
    refine jr_aload_n dX5_walkOn_116 rfl rfl ?_
    refine jr_getR fl_RX5_24 dX5_walkOn_117 H (fun v19 H => ?_)
    refine jr_putR fl_RX5_21 (fun z => by cases z) dX5_walkOn_120 H (fun h20 H => ?_)
    refine jr_aload_n dX5_walkOn_123 rfl rfl ?_
    refine jr_aload_n dX5_walkOn_124 rfl rfl ?_
    refine jr_putR fl_RX5_24 (fun z => by cases z) dX5_walkOn_125 H (fun h21 H => ?_)
    exact jr_vret rfl dX5_walkOn_128 H
set_option maxRecDepth 100000 in
set_option maxHeartbeats 4000000 in
theorem s_X10_soonest_L91 (l : Launch) (d : Nat) (F : Nat) (x0 : Nat) (x2 : Int32) (x3 : Int32) (x4 : Int32) (x5 : Int32) (x6 : Int32) (x7 : Int32) (k136 : jH → Option (Int32 × jH)) {rR : Int32} {hf : jH} (hk136 : ∀ (h : jH), k136 h = some (rR, hf) → jGo l (d + 4) none RX10 cX10_soonest 9 (some .int) false 136 [some (.ref x0), none, some (.int x2), some (.int x3), some (.int x4), some (.int x5), some (.int x6), some (.int x7), none] [] h (some (.int rR)) hf) : ∀ (n : Nat) (x8 : Int32) (h : jH), f_X10_soonest_L91 F x0 x2 x3 x4 x5 x6 x7 k136 n x8 h = some (rR, hf) → jGo l (d + 4) none RX10 cX10_soonest 9 (some .int) false 91 [some (.ref x0), none, some (.int x2), some (.int x3), some (.int x4), some (.int x5), some (.int x6), some (.int x7), some (.int x8)] [] h (some (.int rR)) hf := by
  intro n
  induction n with
  | zero =>
    intro x8 h H
    cases H
  | succ n ih =>
    intro x8 h H
    unfold f_X10_soonest_L91 at H
    refine jr_iload dX10_soonest_91 rfl ?_
    refine jr_aload_n dX10_soonest_93 rfl rfl ?_
    refine jr_getI fl_RX10_99 (by decide) dX10_soonest_94 H (fun v14 H => ?_)
    refine jr_icmp_ge (tgt := 136) dX10_soonest_97 (by decide) H (fun H => ?_) (fun H => ?_)
    · refine jr_fgt 8 ?_
      exact hk136 _ H
    · refine jr_iload dX10_soonest_100 rfl ?_
      refine jr_iload dX10_soonest_102 rfl ?_
      refine jr_iload dX10_soonest_104 rfl ?_
      refine jr_iadd dX10_soonest_106 ?_
      refine jr_icmp_gt (tgt := 136) dX10_soonest_107 (by decide) H (fun H => ?_) (fun H => ?_)
      · refine jr_fgt 8 ?_
        exact hk136 _ H
      · refine jr_aload_n dX10_soonest_110 rfl rfl ?_
        refine jr_iload dX10_soonest_111 rfl ?_
        refine jr_aload_n dX10_soonest_113 rfl rfl ?_
        refine jr_getR fl_RX10_33 dX10_soonest_114 H (fun v15 H => ?_)
        refine jr_iload dX10_soonest_117 rfl ?_
        obtain ⟨v17, h16, Hc, H⟩ := j_b2_some H
        refine jr_callV (ci := 2) [.int x8] my_X2_at mv_X2_at ml_RX10_428 dX10_soonest_119 rfl rfl (Nat.le_of_ble_eq_true rfl) rfl (c_X2_at l (d + 3) F v15 x8 h v17 h16 Hc) ?_
        refine jr_iand dX10_soonest_122 ?_
        refine jr_iload dX10_soonest_123 rfl ?_
        refine jr_iload dX10_soonest_125 rfl ?_
        obtain ⟨h18, Hc, H⟩ := Option.bind_eq_some_iff.mp H
        refine jr_callV (ci := 10) [.int (x4 &&& v17), .int x8, .int x7] my_X10_sayThere mv_X10_sayThere ml_RX10_450 dX10_soonest_127 rfl rfl (Nat.le_of_ble_eq_true rfl) rfl (c_X10_sayThere l d F x0 (x4 &&& v17) x8 x7 h16 h18 Hc) ?_
        refine jr_iinc (v := (x8 + 1)) dX10_soonest_130 rfl rfl (by decide) rfl (Or.inl rfl) ?_
        refine jr_goto (tgt := 91) dX10_soonest_133 (by decide) ?_
        exact ih _ _ H
set_option maxRecDepth 100000 in
set_option maxHeartbeats 4000000 in
theorem s_X10_soonest_L52 (l : Launch) (d : Nat) (F : Nat) (x0 : Nat) (x2 : Int32) (x3 : Int32) (x4 : Int32) (x5 : Int32) {rR : Int32} {hf : jH} : ∀ (n : Nat) (x6 : Int32) (x7 : Int32) (h : jH), f_X10_soonest_L52 F x0 x2 x3 x4 x5 n x6 x7 h = some (rR, hf) → jGo l (d + 4) none RX10 cX10_soonest 9 (some .int) false 52 [some (.ref x0), none, some (.int x2), some (.int x3), some (.int x4), some (.int x5), some (.int x6), some (.int x7), none] [] h (some (.int rR)) hf := by
  intro n
  induction n with
  | zero =>
    intro x6 x7 h H
    cases H
  | succ n ih =>
    intro x6 x7 h H
    unfold f_X10_soonest_L52 at H
    refine jr_iload dX10_soonest_52 rfl ?_
    refine jr_iload_n dX10_soonest_54 rfl rfl ?_
    refine jr_icmp_gt (tgt := 156) dX10_soonest_55 (by decide) H (fun H => ?_) (fun H => ?_)
    · refine jr_iload dX10_soonest_156 rfl ?_
      exact jr_iret rfl dX10_soonest_158 H
    · refine jr_iload_n dX10_soonest_58 rfl rfl ?_
      refine jr_jn (fun J => ∀ (h12 : jH), J h12 = some (rR, hf) → jGo l (d + 4) none RX10 cX10_soonest 9 (some .int) false 68 [some (.ref x0), none, some (.int x2), some (.int x3), some (.int x4), some (.int x5), some (.int x6), some (.int x7), none] [] h12 (some (.int rR)) hf) H (fun h12 H => ?_) (fun J68 hJ68 H => ?_)
      · refine jr_iload dX10_soonest_68 rfl ?_
        refine jr_jn (fun J => ∀ (h13 : jH), J h13 = some (rR, hf) → jGo l (d + 4) none RX10 cX10_soonest 9 (some .int) false 80 [some (.ref x0), none, some (.int x2), some (.int x3), some (.int x4), some (.int x5), some (.int x6), some (.int x7), none] [] h13 (some (.int rR)) hf) H (fun h13 H => ?_) (fun J80 hJ80 H => ?_)
        · refine jr_iconst (v := 0) dX10_soonest_80 (by decide) ?_
          refine jr_iload dX10_soonest_81 rfl ?_
          refine jr_iload dX10_soonest_83 rfl ?_
          refine jr_isub dX10_soonest_85 ?_
          refine jr_mmax ml_RX10_369 mm_mmax_s mm_i mm_mmax_c dX10_soonest_86 (Nat.le_of_ble_eq_true rfl) ?_
          refine jr_istore dX10_soonest_89 (by decide) rfl (Or.inl rfl) ?_
          refine s_X10_soonest_L91 l d F x0 x2 x3 x4 x5 x6 x7 _ (fun h19 H => ?_) F (j_max 0 (x5 - x7)) h13 H
          · refine jr_aload_n dX10_soonest_136 rfl rfl ?_
            refine jr_getR fl_RX10_69 dX10_soonest_137 H (fun v20 H => ?_)
            obtain ⟨v22, h21, Hc, H⟩ := j_b2_some H
            refine jr_callV (ci := 5) [] my_X5_isCheaperNow mv_X5_isCheaperNow ml_RX10_453 dX10_soonest_140 rfl rfl (Nat.le_of_ble_eq_true rfl) rfl (c_X5_isCheaperNow l (d + 2) F v20 h19 v22 h21 Hc) ?_
            refine jr_jn (fun J => ∀ (z23 : Int32) (h24 : jH), J z23 h24 = some (rR, hf) → jGo l (d + 4) none RX10 cX10_soonest 9 (some .int) false 150 [some (.ref x0), none, some (.int x2), some (.int x3), some (.int x4), some (.int x5), some (.int z23), some (.int x7), none] [] h24 (some (.int rR)) hf) H (fun z23 h24 H => ?_) (fun J150 hJ150 H => ?_)
            · refine jr_iinc (v := (x7 + 1)) dX10_soonest_150 rfl rfl (by decide) rfl (Or.inl rfl) ?_
              refine jr_goto (tgt := 52) dX10_soonest_153 (by decide) ?_
              exact ih _ _ _ H
            · refine jr_if_eq (tgt := 150) dX10_soonest_143 (by decide) H (fun H => ?_) (fun H => ?_)
              · exact hJ150 _ _ H
              · refine jr_iload dX10_soonest_146 rfl ?_
                refine jr_istore dX10_soonest_148 (by decide) rfl (Or.inl rfl) ?_
                exact hJ150 _ _ H
        · refine jr_if_le (tgt := 80) dX10_soonest_70 (by decide) H (fun H => ?_) (fun H => ?_)
          · exact hJ80 _ H
          · refine jr_aload_n dX10_soonest_73 rfl rfl ?_
            refine jr_getR fl_RX10_69 dX10_soonest_74 H (fun v25 H => ?_)
            obtain ⟨h26, Hc, H⟩ := Option.bind_eq_some_iff.mp H
            refine jr_callV (ci := 5) [] my_X5_walkOn mv_X5_walkOn ml_RX10_447 dX10_soonest_77 rfl rfl (Nat.le_of_ble_eq_true rfl) rfl (c_X5_walkOn l (d + 2) F v25 h12 h26 Hc) ?_
            exact hJ80 _ H
      · refine jr_if_eq (tgt := 68) dX10_soonest_59 (by decide) H (fun H => ?_) (fun H => ?_)
        · exact hJ68 _ H
        · refine jr_iload dX10_soonest_62 rfl ?_
          refine jr_iconst (v := (-1)) dX10_soonest_64 (by decide) ?_
          refine jr_icmp_ne (tgt := 156) dX10_soonest_65 (by decide) H (fun H => ?_) (fun H => ?_)
          · exact hJ68 _ H
          · refine jr_iload dX10_soonest_156 rfl ?_
            exact jr_iret rfl dX10_soonest_158 H
set_option maxRecDepth 100000 in
set_option maxHeartbeats 4000000 in
theorem c_X10_soonest (l : Launch) (d : Nat) (F : Nat) (a0 : Nat) (a1 : Int32) (a2 : Int32) (a3 : Int32) (h : jH) (rR : Int32) (hf : jH) (H : f_X10_soonest F a0 a1 a2 a3 h = some (rR, hf)) : jh_sh h a0 = (10, 0) ∧ jMet l (d + 4) yX10_soonest cX10_soonest 9 (some .int) [.ref a0, .int a1, .int a2, .int a3] h (some (.int rR)) hf := by
  unfold f_X10_soonest at H
  obtain ⟨hsh, H⟩ := j_gd_some H
  refine ⟨hsh, ?_⟩
  refine jMet.of false [some (.ref a0), some (.int a1), some (.int a2), some (.int a3), none, none, none, none, none] rfl (by decide) (by decide) (Nat.le_of_ble_eq_true rfl) (fun S0 q hq => by simpa [j_l, lv_args, j_v, Value.category] using hq) ?_
  refine jr_aload_n dX10_soonest_0 rfl rfl ?_
  refine jr_getR fl_RX10_33 dX10_soonest_1 H (fun v1 H => ?_)
  refine jr_iload_n dX10_soonest_4 rfl rfl ?_
  obtain ⟨v3, h2, Hc, H⟩ := j_b2_some H
  refine jr_callV (ci := 2) [.int a1] my_X2_of mv_X2_of ml_RX10_171 dX10_soonest_5 rfl rfl (Nat.le_of_ble_eq_true rfl) rfl (c_X2_of l (d + 3) F v1 a1 h v3 h2 Hc) ?_
  refine jr_aload_n dX10_soonest_8 rfl rfl ?_
  refine jr_getR fl_RX10_40 dX10_soonest_9 H (fun v4 H => ?_)
  refine jr_getI fl_RX10_174 (by decide) dX10_soonest_12 H (fun v5 H => ?_)
  refine jr_iconst (v := (-1)) dX10_soonest_15 (by decide) ?_
  refine jr_ixor dX10_soonest_16 ?_
  refine jr_iand dX10_soonest_17 ?_
  refine jr_istore dX10_soonest_18 (by decide) rfl (Or.inl rfl) ?_
  refine jr_aload_n dX10_soonest_20 rfl rfl ?_
  refine jr_getR fl_RX10_40 dX10_soonest_21 H (fun v6 H => ?_)
  refine jr_getR fl_RX10_162 dX10_soonest_24 H (fun v7 H => ?_)
  refine jr_iload_n dX10_soonest_27 rfl rfl ?_
  refine jr_iald dX10_soonest_28 H (fun v8 H => ?_)
  refine jr_istore dX10_soonest_29 (by decide) rfl (Or.inl rfl) ?_
  refine jr_aload_n dX10_soonest_31 rfl rfl ?_
  refine jr_getR fl_RX10_69 dX10_soonest_32 H (fun v9 H => ?_)
  refine jr_iload dX10_soonest_35 rfl ?_
  refine jr_iload dX10_soonest_37 rfl ?_
  refine jr_aload_n dX10_soonest_39 rfl rfl ?_
  refine jr_getI fl_RX10_99 (by decide) dX10_soonest_40 H (fun v10 H => ?_)
  obtain ⟨h11, Hc, H⟩ := Option.bind_eq_some_iff.mp H
  refine jr_callV (ci := 5) [.int (v3 &&& (v5 ^^^ ((-1) : Int32))), .int v8, .int v10] my_X5_begin mv_X5_begin ml_RX10_443 dX10_soonest_43 rfl rfl (Nat.le_of_ble_eq_true rfl) rfl (c_X5_begin l (d + 2) F v9 (v3 &&& (v5 ^^^ ((-1) : Int32))) v8 v10 h2 h11 Hc) ?_
  refine jr_iconst (v := (-1)) dX10_soonest_46 (by decide) ?_
  refine jr_istore dX10_soonest_47 (by decide) rfl (Or.inl rfl) ?_
  refine jr_iconst (v := 0) dX10_soonest_49 (by decide) ?_
  refine jr_istore dX10_soonest_50 (by decide) rfl (Or.inl rfl) ?_
  refine jr_fgt 1 ?_
  exact s_X10_soonest_L52 l d F a0 a2 a3 (v3 &&& (v5 ^^^ ((-1) : Int32))) v8 F (-1) 0 h11 H
set_option maxRecDepth 100000 in
set_option maxHeartbeats 4000000 in
theorem c_X10_trip (l : Launch) (d : Nat) (F : Nat) (a0 : Nat) (a1 : Int32) (a2 : Int32) (h : jH) (rR : Int32) (hf : jH) (H : f_X10_trip F a0 a1 a2 h = some (rR, hf)) : jh_sh h a0 = (10, 0) ∧ jMet l (d + 5) yX10_trip cX10_trip 4 (some .int) [.ref a0, .int a1, .int a2] h (some (.int rR)) hf := by
  unfold f_X10_trip at H
  obtain ⟨hsh, H⟩ := j_gd_some H
  refine ⟨hsh, ?_⟩
  refine jMet.of false [some (.ref a0), some (.int a1), some (.int a2), none] rfl (by decide) (by decide) (Nat.le_of_ble_eq_true rfl) (fun S0 q hq => by simpa [j_l, lv_args, j_v, Value.category] using hq) ?_
  refine jr_aload_n dX10_trip_0 rfl rfl ?_
  refine jr_iload_n dX10_trip_1 rfl rfl ?_
  obtain ⟨v2, h1, Hc, H⟩ := j_b2_some H
  refine jr_callV (ci := 10) [.int a1] my_X10_isTraveller mv_X10_isTraveller ml_RX10_159 dX10_trip_2 rfl rfl (Nat.le_of_ble_eq_true rfl) rfl (c_X10_isTraveller l (d + 4) F a0 a1 h v2 h1 Hc) ?_
  refine jr_if_eq (tgt := 18) dX10_trip_5 (by decide) H (fun H => ?_) (fun H => ?_)
  · refine jr_iconst (v := (-1)) dX10_trip_18 (by decide) ?_
    exact jr_iret rfl dX10_trip_19 H
  · refine jr_iload_n dX10_trip_8 rfl rfl ?_
    refine jr_if_lt (tgt := 18) dX10_trip_9 (by decide) H (fun H => ?_) (fun H => ?_)
    · refine jr_iconst (v := (-1)) dX10_trip_18 (by decide) ?_
      exact jr_iret rfl dX10_trip_19 H
    · refine jr_iload_n dX10_trip_12 rfl rfl ?_
      refine jr_bipush (v := 12) dX10_trip_13 (by decide) ?_
      refine jr_icmp_le (tgt := 20) dX10_trip_15 (by decide) H (fun H => ?_) (fun H => ?_)
      · refine jr_aload_n dX10_trip_20 rfl rfl ?_
        refine jr_iload_n dX10_trip_21 rfl rfl ?_
        refine jr_iload_n dX10_trip_22 rfl rfl ?_
        refine jr_iconst (v := 0) dX10_trip_23 (by decide) ?_
        obtain ⟨v4, h3, Hc, H⟩ := j_b2_some H
        refine jr_callV (ci := 10) [.int a1, .int a2, .int 0] my_X10_soonest mv_X10_soonest ml_RX10_319 dX10_trip_24 rfl rfl (Nat.le_of_ble_eq_true rfl) rfl (c_X10_soonest l d F a0 a1 a2 0 h1 v4 h3 Hc) ?_
        refine jr_istore_n dX10_trip_27 rfl (by decide) rfl (Or.inl rfl) ?_
        refine jr_iload_n dX10_trip_28 rfl rfl ?_
        refine jr_if_ge (tgt := 35) dX10_trip_29 (by decide) H (fun H => ?_) (fun H => ?_)
        · refine jr_aload_n dX10_trip_35 rfl rfl ?_
          refine jr_getR fl_RX10_19 dX10_trip_36 H (fun v5 H => ?_)
          refine jr_iload_n dX10_trip_39 rfl rfl ?_
          refine jr_i2l dX10_trip_40 ?_
          refine jr_aload_n dX10_trip_41 rfl rfl ?_
          refine jr_getR fl_RX10_69 dX10_trip_42 H (fun v6 H => ?_)
          refine jr_getI fl_RX10_323 (by decide) dX10_trip_45 H (fun v7 H => ?_)
          refine jr_i2l dX10_trip_48 ?_
          obtain ⟨h8, Hc, H⟩ := Option.bind_eq_some_iff.mp H
          refine jr_callV (ci := 6) [.long (v4.toInt64), .long (v7.toInt64)] my_X6_tell_ mv_X6_tell_ ml_RX10_242 dX10_trip_49 rfl rfl (Nat.le_of_ble_eq_true rfl) rfl (c_X6_tell_ l (d + 3) F v5 (v4.toInt64) (v7.toInt64) h3 h8 Hc) ?_
          refine jr_aload_n dX10_trip_52 rfl rfl ?_
          refine jr_getR fl_RX10_69 dX10_trip_53 H (fun v9 H => ?_)
          refine jr_getI fl_RX10_326 (by decide) dX10_trip_56 H (fun v10 H => ?_)
          exact jr_iret rfl dX10_trip_59 H
        · refine jr_bipush (v := (-2)) dX10_trip_32 (by decide) ?_
          exact jr_iret rfl dX10_trip_34 H
      · refine jr_iconst (v := (-1)) dX10_trip_18 (by decide) ?_
        exact jr_iret rfl dX10_trip_19 H
set_option maxRecDepth 100000 in
set_option maxHeartbeats 4000000 in
theorem c_X10_haste (l : Launch) (d : Nat) (F : Nat) (a0 : Nat) (a1 : Int32) (h : jH) (rR : Int32) (hf : jH) (H : f_X10_haste F a0 a1 h = some (rR, hf)) : jh_sh h a0 = (10, 0) ∧ jMet l (d + 5) yX10_haste cX10_haste 3 (some .int) [.ref a0, .int a1] h (some (.int rR)) hf := by
  unfold f_X10_haste at H
  obtain ⟨hsh, H⟩ := j_gd_some H
  refine ⟨hsh, ?_⟩
  refine jMet.of false [some (.ref a0), some (.int a1), none] rfl (by decide) (by decide) (Nat.le_of_ble_eq_true rfl) (fun S0 q hq => by simpa [j_l, lv_args, j_v, Value.category] using hq) ?_
  refine jr_aload_n dX10_haste_0 rfl rfl ?_
  refine jr_iload_n dX10_haste_1 rfl rfl ?_
  obtain ⟨v2, h1, Hc, H⟩ := j_b2_some H
  refine jr_callV (ci := 10) [.int a1] my_X10_isTraveller mv_X10_isTraveller ml_RX10_159 dX10_haste_2 rfl rfl (Nat.le_of_ble_eq_true rfl) rfl (c_X10_isTraveller l (d + 4) F a0 a1 h v2 h1 Hc) ?_
  refine jr_if_ne (tgt := 10) dX10_haste_5 (by decide) H (fun H => ?_) (fun H => ?_)
  · refine jr_iconst (v := (-1)) dX10_haste_8 (by decide) ?_
    exact jr_iret rfl dX10_haste_9 H
  · refine jr_aload_n dX10_haste_10 rfl rfl ?_
    refine jr_iload_n dX10_haste_11 rfl rfl ?_
    refine jr_bipush (v := 12) dX10_haste_12 (by decide) ?_
    refine jr_iconst (v := 1) dX10_haste_14 (by decide) ?_
    obtain ⟨v4, h3, Hc, H⟩ := j_b2_some H
    refine jr_callV (ci := 10) [.int a1, .int 12, .int 1] my_X10_soonest mv_X10_soonest ml_RX10_319 dX10_haste_15 rfl rfl (Nat.le_of_ble_eq_true rfl) rfl (c_X10_soonest l d F a0 a1 12 1 h1 v4 h3 Hc) ?_
    refine jr_istore_n dX10_haste_18 rfl (by decide) rfl (Or.inl rfl) ?_
    refine jr_iload_n dX10_haste_19 rfl rfl ?_
    refine jr_if_ge (tgt := 26) dX10_haste_20 (by decide) H (fun H => ?_) (fun H => ?_)
    · refine jr_aload_n dX10_haste_26 rfl rfl ?_
      refine jr_getR fl_RX10_19 dX10_haste_27 H (fun v5 H => ?_)
      refine jr_aload_n dX10_haste_30 rfl rfl ?_
      refine jr_getR fl_RX10_69 dX10_haste_31 H (fun v6 H => ?_)
      refine jr_getI fl_RX10_326 (by decide) dX10_haste_34 H (fun v7 H => ?_)
      refine jr_i2l dX10_haste_37 ?_
      obtain ⟨h8, Hc, H⟩ := Option.bind_eq_some_iff.mp H
      refine jr_callV (ci := 6) [.long (v7.toInt64)] my_X6_tell mv_X6_tell ml_RX10_236 dX10_haste_38 rfl rfl (Nat.le_of_ble_eq_true rfl) rfl (c_X6_tell l (d + 3) F v5 (v7.toInt64) h3 h8 Hc) ?_
      refine jr_iload_n dX10_haste_41 rfl rfl ?_
      exact jr_iret rfl dX10_haste_42 H
    · refine jr_bipush (v := (-2)) dX10_haste_23 (by decide) ?_
      exact jr_iret rfl dX10_haste_25 H
set_option maxRecDepth 100000 in
set_option maxHeartbeats 4000000 in
theorem s_X10_openFor_L54 (l : Launch) (d : Nat) (F : Nat) (x0 : Nat) {rR : Int32} {hf : jH} : ∀ (n : Nat) (x3 : Int32) (x4 : Int32) (h : jH), f_X10_openFor_L54 F x0 n x3 x4 h = some (rR, hf) → jGo l (d + 4) none RX10 cX10_openFor 6 (some .int) false 54 [some (.ref x0), none, none, some (.int x3), some (.int x4), none] [] h (some (.int rR)) hf := by
  intro n
  induction n with
  | zero =>
    intro x3 x4 h H
    cases H
  | succ n ih =>
    intro x3 x4 h H
    unfold f_X10_openFor_L54 at H
    refine jr_iload dX10_openFor_54 rfl ?_
    refine jr_aload_n dX10_openFor_56 rfl rfl ?_
    refine jr_getR fl_RX10_33 dX10_openFor_57 H (fun v15 H => ?_)
    refine jr_getI fl_RX10_132 (by decide) dX10_openFor_60 H (fun v16 H => ?_)
    refine jr_icmp_ge (tgt := 131) dX10_openFor_63 (by decide) H (fun H => ?_) (fun H => ?_)
    · refine jr_iload_n dX10_openFor_131 rfl rfl ?_
      exact jr_iret rfl dX10_openFor_132 H
    · refine jr_aload_n dX10_openFor_66 rfl rfl ?_
      refine jr_aload_n dX10_openFor_67 rfl rfl ?_
      refine jr_getR fl_RX10_33 dX10_openFor_68 H (fun v17 H => ?_)
      refine jr_getR fl_RX10_187 dX10_openFor_71 H (fun v18 H => ?_)
      refine jr_iload dX10_openFor_74 rfl ?_
      refine jr_iald dX10_openFor_76 H (fun v19 H => ?_)
      refine jr_iconst (v := 0) dX10_openFor_77 (by decide) ?_
      obtain ⟨v21, h20, Hc, H⟩ := j_b2_some H
      refine jr_callV (ci := 10) [.int v19, .int 0] my_X10_cheapestFor mv_X10_cheapestFor ml_RX10_257 dX10_openFor_78 rfl rfl (Nat.le_of_ble_eq_true rfl) rfl (c_X10_cheapestFor l (d + 2) F x0 v19 0 h v21 h20 Hc) ?_
      refine jr_istore dX10_openFor_81 (by decide) rfl (Or.inl rfl) ?_
      refine jr_aload_n dX10_openFor_83 rfl rfl ?_
      refine jr_getR fl_RX10_33 dX10_openFor_84 H (fun v22 H => ?_)
      refine jr_getR fl_RX10_332 dX10_openFor_87 H (fun v23 H => ?_)
      refine jr_iload dX10_openFor_90 rfl ?_
      refine jr_iload dX10_openFor_92 rfl ?_
      refine jr_iconst (v := (-1)) dX10_openFor_94 (by decide) ?_
      refine jr_jn (fun J => ∀ (s24 : Int32) (s25 : Int32) (s26 : Nat) (h27 : jH), J s24 s25 s26 h27 = some (rR, hf) → jGo l (d + 4) none RX10 cX10_openFor 6 (some .int) false 109 [some (.ref x0), none, none, some (.int x3), some (.int x4), some (.int v21)] [.int s24, .int s25, .ref s26] h27 (some (.int rR)) hf) H (fun s24 s25 s26 h27 H => ?_) (fun J109 hJ109 H => ?_)
      · refine jr_iast dX10_openFor_109 H (fun h28 H => ?_)
        refine jr_iload dX10_openFor_110 rfl ?_
        refine jr_iconst (v := (-1)) dX10_openFor_112 (by decide) ?_
        refine jr_jn (fun J => ∀ (z29 : Int32) (h30 : jH), J z29 h30 = some (rR, hf) → jGo l (d + 4) none RX10 cX10_openFor 6 (some .int) false 125 [some (.ref x0), none, none, some (.int z29), some (.int x4), none] [] h30 (some (.int rR)) hf) H (fun z29 h30 H => ?_) (fun J125 hJ125 H => ?_)
        · refine jr_iinc (v := (x4 + 1)) dX10_openFor_125 rfl rfl (by decide) rfl (Or.inl rfl) ?_
          refine jr_goto (tgt := 54) dX10_openFor_128 (by decide) ?_
          exact ih _ _ _ H
        · refine jr_icmp_ne (tgt := 125) dX10_openFor_113 (by decide) H (fun H => ?_) (fun H => ?_)
          · refine jr_iload_n dX10_openFor_116 rfl rfl ?_
            refine jr_iconst (v := 1) dX10_openFor_117 (by decide) ?_
            refine jr_iload dX10_openFor_118 rfl ?_
            refine jr_ishl dX10_openFor_120 ?_
            refine jr_iconst (v := (-1)) dX10_openFor_121 (by decide) ?_
            refine jr_ixor dX10_openFor_122 ?_
            refine jr_iand dX10_openFor_123 ?_
            refine jr_istore_n dX10_openFor_124 rfl (by decide) rfl (Or.inl rfl) ?_
            refine jr_fgt 5 ?_
            exact hJ125 _ _ H
          · refine jr_fgt 5 ?_
            exact hJ125 _ _ H
      · refine jr_icmp_ne (tgt := 102) dX10_openFor_95 (by decide) H (fun H => ?_) (fun H => ?_)
        · refine jr_iconst (v := 0) dX10_openFor_98 (by decide) ?_
          refine jr_goto (tgt := 109) dX10_openFor_99 (by decide) ?_
          exact hJ109 _ _ _ _ H
        · refine jr_aload_n dX10_openFor_102 rfl rfl ?_
          refine jr_getR fl_RX10_77 dX10_openFor_103 H (fun v31 H => ?_)
          refine jr_iload dX10_openFor_106 rfl ?_
          refine jr_iald dX10_openFor_108 H (fun v32 H => ?_)
          exact hJ109 _ _ _ _ H
set_option maxRecDepth 100000 in
set_option maxHeartbeats 4000000 in
theorem c_X10_openFor (l : Launch) (d : Nat) (F : Nat) (a0 : Nat) (a1 : Int32) (h : jH) (rR : Int32) (hf : jH) (H : f_X10_openFor F a0 a1 h = some (rR, hf)) : jh_sh h a0 = (10, 0) ∧ jMet l (d + 4) yX10_openFor cX10_openFor 6 (some .int) [.ref a0, .int a1] h (some (.int rR)) hf := by
  unfold f_X10_openFor at H
  obtain ⟨hsh, H⟩ := j_gd_some H
  refine ⟨hsh, ?_⟩
  refine jMet.of false [some (.ref a0), some (.int a1), none, none, none, none] rfl (by decide) (by decide) (Nat.le_of_ble_eq_true rfl) (fun S0 q hq => by simpa [j_l, lv_args, j_v, Value.category] using hq) ?_
  refine jr_aload_n dX10_openFor_0 rfl rfl ?_
  refine jr_getR fl_RX10_40 dX10_openFor_1 H (fun v1 H => ?_)
  refine jr_getR fl_RX10_162 dX10_openFor_4 H (fun v2 H => ?_)
  refine jr_iload_n dX10_openFor_7 rfl rfl ?_
  refine jr_iald dX10_openFor_8 H (fun v3 H => ?_)
  refine jr_istore_n dX10_openFor_9 rfl (by decide) rfl (Or.inl rfl) ?_
  refine jr_aload_n dX10_openFor_10 rfl rfl ?_
  refine jr_getR fl_RX10_33 dX10_openFor_11 H (fun v4 H => ?_)
  refine jr_iload_n dX10_openFor_14 rfl rfl ?_
  obtain ⟨v6, h5, Hc, H⟩ := j_b2_some H
  refine jr_callV (ci := 2) [.int a1] my_X2_of mv_X2_of ml_RX10_171 dX10_openFor_15 rfl rfl (Nat.le_of_ble_eq_true rfl) rfl (c_X2_of l (d + 3) F v4 a1 h v6 h5 Hc) ?_
  refine jr_aload_n dX10_openFor_18 rfl rfl ?_
  refine jr_getR fl_RX10_33 dX10_openFor_19 H (fun v7 H => ?_)
  refine jr_iload_n dX10_openFor_22 rfl rfl ?_
  obtain ⟨v9, h8, Hc, H⟩ := j_b2_some H
  refine jr_callV (ci := 2) [.int v3] my_X2_at mv_X2_at ml_RX10_428 dX10_openFor_23 rfl rfl (Nat.le_of_ble_eq_true rfl) rfl (c_X2_at l (d + 3) F v7 v3 h5 v9 h8 Hc) ?_
  refine jr_iand dX10_openFor_26 ?_
  refine jr_aload_n dX10_openFor_27 rfl rfl ?_
  refine jr_getR fl_RX10_40 dX10_openFor_28 H (fun v10 H => ?_)
  refine jr_getI fl_RX10_174 (by decide) dX10_openFor_31 H (fun v11 H => ?_)
  refine jr_iconst (v := (-1)) dX10_openFor_34 (by decide) ?_
  refine jr_ixor dX10_openFor_35 ?_
  refine jr_iand dX10_openFor_36 ?_
  refine jr_istore_n dX10_openFor_37 rfl (by decide) rfl (Or.inl rfl) ?_
  refine jr_aload_n dX10_openFor_38 rfl rfl ?_
  refine jr_aload_n dX10_openFor_39 rfl rfl ?_
  refine jr_getR fl_RX10_92 dX10_openFor_40 H (fun v12 H => ?_)
  refine jr_iload_n dX10_openFor_43 rfl rfl ?_
  refine jr_aload_n dX10_openFor_44 rfl rfl ?_
  refine jr_getR fl_RX10_77 dX10_openFor_45 H (fun v13 H => ?_)
  obtain ⟨h14, Hc, H⟩ := Option.bind_eq_some_iff.mp H
  refine jr_callV (ci := 10) [.ref v12, .int v3, .ref v13] my_X10_priceAll mv_X10_priceAll ml_RX10_253 dX10_openFor_48 rfl rfl (Nat.le_of_ble_eq_true rfl) rfl (c_X10_priceAll l d F a0 v12 v3 v13 h8 h14 Hc) ?_
  refine jr_iconst (v := 0) dX10_openFor_51 (by decide) ?_
  refine jr_istore dX10_openFor_52 (by decide) rfl (Or.inl rfl) ?_
  refine jr_fgt 1 ?_
  refine jr_fgt 2 ?_
  exact s_X10_openFor_L54 l d F a0 F ((v6 &&& v9) &&& (v11 ^^^ ((-1) : Int32))) 0 h14 H
set_option maxRecDepth 100000 in
set_option maxHeartbeats 4000000 in
theorem s_X10_best_L27 (l : Launch) (d : Nat) (F : Nat) (x0 : Nat) (x1 : Int32) (x2 : Int32) (k136 : Int32 → Int32 → Int32 → jH → Option (Int32 × jH)) {rR : Int32} {hf : jH} (hk136 : ∀ (y3 : Int32) (y4 : Int32) (y5 : Int32) (h : jH), k136 y3 y4 y5 h = some (rR, hf) → jGo l (d + 5) none RX10 cX10_best 9 (some .int) false 136 [some (.ref x0), none, none, some (.int y3), some (.int y4), some (.int y5), none, none, none] [] h (some (.int rR)) hf) : ∀ (n : Nat) (x3 : Int32) (x4 : Int32) (x5 : Int32) (x6 : Int32) (h : jH), f_X10_best_L27 F x0 x1 x2 k136 n x3 x4 x5 x6 h = some (rR, hf) → jGo l (d + 5) none RX10 cX10_best 9 (some .int) false 27 [some (.ref x0), some (.int x1), some (.int x2), some (.int x3), some (.int x4), some (.int x5), some (.int x6), none, none] [] h (some (.int rR)) hf := by
  intro n
  induction n with
  | zero =>
    intro x3 x4 x5 x6 h H
    cases H
  | succ n ih =>
    intro x3 x4 x5 x6 h H
    unfold f_X10_best_L27 at H
    refine jr_iload dX10_best_27 rfl ?_
    refine jr_iload_n dX10_best_29 rfl rfl ?_
    refine jr_icmp_gt (tgt := 136) dX10_best_30 (by decide) H (fun H => ?_) (fun H => ?_)
    · refine jr_fgt 1 ?_
      refine jr_fgt 2 ?_
      refine jr_fgt 6 ?_
      exact hk136 _ _ _ _ H
    · refine jr_iload dX10_best_33 rfl ?_
      refine jr_iload_n dX10_best_35 rfl rfl ?_
      refine jr_iconst (v := (-1)) dX10_best_36 (by decide) ?_
      refine jr_ixor dX10_best_37 ?_
      refine jr_iand dX10_best_38 ?_
      refine jr_jn (fun J => ∀ (s5 : Int32) (h6 : jH), J s5 h6 = some (rR, hf) → jGo l (d + 5) none RX10 cX10_best 9 (some .int) false 64 [some (.ref x0), some (.int x1), some (.int x2), some (.int x3), some (.int x4), some (.int x5), some (.int x6), none, none] [.int s5] h6 (some (.int rR)) hf) H (fun s5 h6 H => ?_) (fun J64 hJ64 H => ?_)
      · refine jr_istore dX10_best_64 (by decide) rfl (Or.inl rfl) ?_
        refine jr_iload dX10_best_66 rfl ?_
        refine jr_aload_n dX10_best_68 rfl rfl ?_
        refine jr_getR fl_RX10_40 dX10_best_69 H (fun v7 H => ?_)
        refine jr_getR fl_RX10_165 dX10_best_72 H (fun v8 H => ?_)
        refine jr_iload_n dX10_best_75 rfl rfl ?_
        refine jr_iald dX10_best_76 H (fun v9 H => ?_)
        refine jr_jn (fun J => ∀ (z10 : Int32) (z11 : Int32) (z12 : Int32) (h13 : jH), J z10 z11 z12 h13 = some (rR, hf) → jGo l (d + 5) none RX10 cX10_best 9 (some .int) false 130 [some (.ref x0), some (.int x1), some (.int x2), some (.int z10), some (.int z11), some (.int z12), some (.int x6), none, none] [] h13 (some (.int rR)) hf) H (fun z10 z11 z12 h13 H => ?_) (fun J130 hJ130 H => ?_)
        · refine jr_iinc (v := (x6 + 1)) dX10_best_130 rfl rfl (by decide) rfl (Or.inl rfl) ?_
          refine jr_goto (tgt := 27) dX10_best_133 (by decide) ?_
          exact ih _ _ _ _ _ H
        · refine jr_icmp_gt (tgt := 130) dX10_best_77 (by decide) H (fun H => ?_) (fun H => ?_)
          · refine jr_fgt 7 ?_
            exact hJ130 _ _ _ _ H
          · refine jr_aload_n dX10_best_80 rfl rfl ?_
            refine jr_getR fl_RX10_33 dX10_best_81 H (fun v14 H => ?_)
            refine jr_aload_n dX10_best_84 rfl rfl ?_
            refine jr_getR fl_RX10_33 dX10_best_85 H (fun v15 H => ?_)
            refine jr_getR fl_RX10_177 dX10_best_88 H (fun v16 H => ?_)
            refine jr_iload dX10_best_91 rfl ?_
            obtain ⟨v18, h17, Hc, H⟩ := j_b2_some H
            refine jr_callV (ci := 2) [.ref v16, .int x6] my_X2_sumOf mv_X2_sumOf ml_RX10_180 dX10_best_93 rfl rfl (Nat.le_of_ble_eq_true rfl) rfl (c_X2_sumOf l (d + 4) F v14 v16 x6 h6 v18 h17 Hc) ?_
            refine jr_istore dX10_best_96 (by decide) rfl (Or.inl rfl) ?_
            refine jr_iload dX10_best_98 rfl ?_
            refine jr_iload dX10_best_100 rfl ?_
            refine jr_jn (fun J => ∀ (h19 : jH), J h19 = some (rR, hf) → jGo l (d + 5) none RX10 cX10_best 9 (some .int) false 119 [some (.ref x0), some (.int x1), some (.int x2), none, none, none, some (.int x6), some (.int s5), some (.int v18)] [] h19 (some (.int rR)) hf) H (fun h19 H => ?_) (fun J119 hJ119 H => ?_)
            · refine jr_iload dX10_best_119 rfl ?_
              refine jr_istore_n dX10_best_121 rfl (by decide) rfl (Or.inl rfl) ?_
              refine jr_iload dX10_best_122 rfl ?_
              refine jr_istore dX10_best_124 (by decide) rfl (Or.inl rfl) ?_
              refine jr_iload dX10_best_126 rfl ?_
              refine jr_istore dX10_best_128 (by decide) rfl (Or.inl rfl) ?_
              refine jr_fgt 7 ?_
              refine jr_fgt 8 ?_
              exact hJ130 _ _ _ _ H
            · refine jr_icmp_gt (tgt := 119) dX10_best_102 (by decide) H (fun H => ?_) (fun H => ?_)
              · refine jr_fgt 3 ?_
                refine jr_fgt 4 ?_
                refine jr_fgt 5 ?_
                exact hJ119 _ H
              · refine jr_iload dX10_best_105 rfl ?_
                refine jr_iload dX10_best_107 rfl ?_
                refine jr_icmp_ne (tgt := 130) dX10_best_109 (by decide) H (fun H => ?_) (fun H => ?_)
                · refine jr_iload dX10_best_112 rfl ?_
                  refine jr_iload dX10_best_114 rfl ?_
                  refine jr_icmp_ge (tgt := 130) dX10_best_116 (by decide) H (fun H => ?_) (fun H => ?_)
                  · refine jr_fgt 7 ?_
                    refine jr_fgt 8 ?_
                    exact hJ130 _ _ _ _ H
                  · refine jr_fgt 3 ?_
                    refine jr_fgt 4 ?_
                    refine jr_fgt 5 ?_
                    exact hJ119 _ H
                · refine jr_fgt 7 ?_
                  refine jr_fgt 8 ?_
                  exact hJ130 _ _ _ _ H
      · refine jr_if_ne (tgt := 61) dX10_best_39 (by decide) H (fun H => ?_) (fun H => ?_)
        · refine jr_aload_n dX10_best_42 rfl rfl ?_
          refine jr_getR fl_RX10_33 dX10_best_43 H (fun v20 H => ?_)
          refine jr_aload_n dX10_best_46 rfl rfl ?_
          refine jr_getR fl_RX10_33 dX10_best_47 H (fun v21 H => ?_)
          refine jr_getR fl_RX10_332 dX10_best_50 H (fun v22 H => ?_)
          refine jr_iload dX10_best_53 rfl ?_
          obtain ⟨v24, h23, Hc, H⟩ := j_b2_some H
          refine jr_callV (ci := 2) [.ref v22, .int x6] my_X2_sumOf mv_X2_sumOf ml_RX10_180 dX10_best_55 rfl rfl (Nat.le_of_ble_eq_true rfl) rfl (c_X2_sumOf l (d + 4) F v20 v22 x6 h v24 h23 Hc) ?_
          refine jr_goto (tgt := 64) dX10_best_58 (by decide) ?_
          exact hJ64 _ _ H
        · refine jr_sipush (v := 10000) dX10_best_61 (by decide) ?_
          exact hJ64 _ _ H
set_option maxRecDepth 100000 in
set_option maxHeartbeats 4000000 in
theorem c_X10_best (l : Launch) (d : Nat) (F : Nat) (a0 : Nat) (a1 : Int32) (h : jH) (rR : Int32) (hf : jH) (H : f_X10_best F a0 a1 h = some (rR, hf)) : jh_sh h a0 = (10, 0) ∧ jMet l (d + 5) yX10_best cX10_best 9 (some .int) [.ref a0, .int a1] h (some (.int rR)) hf := by
  unfold f_X10_best at H
  obtain ⟨hsh, H⟩ := j_gd_some H
  refine ⟨hsh, ?_⟩
  refine jMet.of false [some (.ref a0), some (.int a1), none, none, none, none, none, none, none] rfl (by decide) (by decide) (Nat.le_of_ble_eq_true rfl) (fun S0 q hq => by simpa [j_l, lv_args, j_v, Value.category] using hq) ?_
  refine jr_aload_n dX10_best_0 rfl rfl ?_
  refine jr_iload_n dX10_best_1 rfl rfl ?_
  obtain ⟨v2, h1, Hc, H⟩ := j_b2_some H
  refine jr_callV (ci := 10) [.int a1] my_X10_isTraveller mv_X10_isTraveller ml_RX10_159 dX10_best_2 rfl rfl (Nat.le_of_ble_eq_true rfl) rfl (c_X10_isTraveller l (d + 4) F a0 a1 h v2 h1 Hc) ?_
  refine jr_if_ne (tgt := 10) dX10_best_5 (by decide) H (fun H => ?_) (fun H => ?_)
  · refine jr_iconst (v := (-1)) dX10_best_8 (by decide) ?_
    exact jr_iret rfl dX10_best_9 H
  · refine jr_aload_n dX10_best_10 rfl rfl ?_
    refine jr_iload_n dX10_best_11 rfl rfl ?_
    obtain ⟨v4, h3, Hc, H⟩ := j_b2_some H
    refine jr_callV (ci := 10) [.int a1] my_X10_openFor mv_X10_openFor ml_RX10_329 dX10_best_12 rfl rfl (Nat.le_of_ble_eq_true rfl) rfl (c_X10_openFor l d F a0 a1 h1 v4 h3 Hc) ?_
    refine jr_istore_n dX10_best_15 rfl (by decide) rfl (Or.inl rfl) ?_
    refine jr_iconst (v := 0) dX10_best_16 (by decide) ?_
    refine jr_istore_n dX10_best_17 rfl (by decide) rfl (Or.inl rfl) ?_
    refine jr_iconst (v := 0) dX10_best_18 (by decide) ?_
    refine jr_istore dX10_best_19 (by decide) rfl (Or.inl rfl) ?_
    refine jr_iconst (v := 0) dX10_best_21 (by decide) ?_
    refine jr_istore dX10_best_22 (by decide) rfl (Or.inl rfl) ?_
    refine jr_iconst (v := 1) dX10_best_24 (by decide) ?_
    refine jr_istore dX10_best_25 (by decide) rfl (Or.inl rfl) ?_
    refine s_X10_best_L27 l d F a0 a1 v4 _ (fun y25 y26 y27 h28 H => ?_) F 0 0 0 1 h3 H
    · refine jr_aload_n dX10_best_136 rfl rfl ?_
      refine jr_getR fl_RX10_19 dX10_best_137 H (fun v29 H => ?_)
      refine jr_iload_n dX10_best_140 rfl rfl ?_
      refine jr_i2l dX10_best_141 ?_
      refine jr_iload dX10_best_142 rfl ?_
      refine jr_i2l dX10_best_144 ?_
      obtain ⟨h30, Hc, H⟩ := Option.bind_eq_some_iff.mp H
      refine jr_callV (ci := 6) [.long (y25.toInt64), .long (y27.toInt64)] my_X6_tell_ mv_X6_tell_ ml_RX10_242 dX10_best_145 rfl rfl (Nat.le_of_ble_eq_true rfl) rfl (c_X6_tell_ l (d + 3) F v29 (y25.toInt64) (y27.toInt64) h28 h30 Hc) ?_
      refine jr_iload dX10_best_148 rfl ?_
      exact jr_iret rfl dX10_best_150 H
set_option maxRecDepth 100000 in
set_option maxHeartbeats 4000000 in
theorem s_X10_incomeBy_L30 (l : Launch) (d : Nat) (F : Nat) (x0 : Nat) (x2 : Int32) (x3 : Int32) {rR : Int32} {hf : jH} : ∀ (n : Nat) (x4 : Int32) (x5 : Int32) (h : jH), f_X10_incomeBy_L30 F x0 x2 x3 n x4 x5 h = some (rR, hf) → jGo l (d + 2) none RX10 cX10_incomeBy 8 (some .int) false 30 [some (.ref x0), none, some (.int x2), some (.int x3), some (.int x4), some (.int x5), none, none] [] h (some (.int rR)) hf := by
  intro n
  induction n with
  | zero =>
    intro x4 x5 h H
    cases H
  | succ n ih =>
    intro x4 x5 h H
    unfold f_X10_incomeBy_L30 at H
    refine jr_iload dX10_incomeBy_30 rfl ?_
    refine jr_aload_n dX10_incomeBy_32 rfl rfl ?_
    refine jr_getR fl_RX10_33 dX10_incomeBy_33 H (fun v7 H => ?_)
    refine jr_getI fl_RX10_132 (by decide) dX10_incomeBy_36 H (fun v8 H => ?_)
    refine jr_icmp_ge (tgt := 148) dX10_incomeBy_39 (by decide) H (fun H => ?_) (fun H => ?_)
    · refine jr_iload dX10_incomeBy_148 rfl ?_
      exact jr_iret rfl dX10_incomeBy_150 H
    · refine jr_iload_n dX10_incomeBy_42 rfl rfl ?_
      refine jr_iload dX10_incomeBy_43 rfl ?_
      refine jr_ishr dX10_incomeBy_45 ?_
      refine jr_iconst (v := 1) dX10_incomeBy_46 (by decide) ?_
      refine jr_iand dX10_incomeBy_47 ?_
      refine jr_iconst (v := 1) dX10_incomeBy_48 (by decide) ?_
      refine jr_jn (fun J => ∀ (s9 : Int32) (h10 : jH), J s9 h10 = some (rR, hf) → jGo l (d + 2) none RX10 cX10_incomeBy 8 (some .int) false 71 [some (.ref x0), none, some (.int x2), some (.int x3), some (.int x4), some (.int x5), none, none] [.int s9] h10 (some (.int rR)) hf) H (fun s9 h10 H => ?_) (fun J71 hJ71 H => ?_)
      · refine jr_istore dX10_incomeBy_71 (by decide) rfl (Or.inl rfl) ?_
        refine jr_iload dX10_incomeBy_73 rfl ?_
        refine jr_iconst (v := (-1)) dX10_incomeBy_75 (by decide) ?_
        refine jr_jn (fun J => ∀ (s11 : Int32) (h12 : jH), J s11 h12 = some (rR, hf) → jGo l (d + 2) none RX10 cX10_incomeBy 8 (some .int) false 102 [some (.ref x0), none, some (.int x2), some (.int x3), some (.int x4), some (.int x5), some (.int s9), none] [.int s11] h12 (some (.int rR)) hf) H (fun s11 h12 H => ?_) (fun J102 hJ102 H => ?_)
        · refine jr_istore dX10_incomeBy_102 (by decide) rfl (Or.inl rfl) ?_
          refine jr_iload dX10_incomeBy_104 rfl ?_
          refine jr_iconst (v := (-1)) dX10_incomeBy_106 (by decide) ?_
          refine jr_jn (fun J => ∀ (z13 : Int32) (h14 : jH), J z13 h14 = some (rR, hf) → jGo l (d + 2) none RX10 cX10_incomeBy 8 (some .int) false 142 [some (.ref x0), none, some (.int x2), some (.int x3), some (.int z13), some (.int x5), none, none] [] h14 (some (.int rR)) hf) H (fun z13 h14 H => ?_) (fun J142 hJ142 H => ?_)
          · refine jr_iinc (v := (x5 + 1)) dX10_incomeBy_142 rfl rfl (by decide) rfl (Or.inl rfl) ?_
            refine jr_goto (tgt := 30) dX10_incomeBy_145 (by decide) ?_
            exact ih _ _ _ H
          · refine jr_icmp_eq (tgt := 142) dX10_incomeBy_107 (by decide) H (fun H => ?_) (fun H => ?_)
            · refine jr_fgt 6 ?_
              refine jr_fgt 7 ?_
              exact hJ142 _ _ H
            · refine jr_iload dX10_incomeBy_110 rfl ?_
              refine jr_aload_n dX10_incomeBy_112 rfl rfl ?_
              refine jr_getR fl_RX10_33 dX10_incomeBy_113 H (fun v15 H => ?_)
              refine jr_getR fl_RX10_177 dX10_incomeBy_116 H (fun v16 H => ?_)
              refine jr_iload dX10_incomeBy_119 rfl ?_
              refine jr_iald dX10_incomeBy_121 H (fun v17 H => ?_)
              refine jr_icmp_gt (tgt := 142) dX10_incomeBy_122 (by decide) H (fun H => ?_) (fun H => ?_)
              · refine jr_fgt 6 ?_
                refine jr_fgt 7 ?_
                exact hJ142 _ _ H
              · refine jr_iload dX10_incomeBy_125 rfl ?_
                refine jr_iload dX10_incomeBy_127 rfl ?_
                refine jr_iadd dX10_incomeBy_129 ?_
                refine jr_istore dX10_incomeBy_130 (by decide) rfl (Or.inl rfl) ?_
                refine jr_aload_n dX10_incomeBy_132 rfl rfl ?_
                refine jr_dup dX10_incomeBy_133 rfl ?_
                refine jr_getI fl_RX10_106 (by decide) dX10_incomeBy_134 H (fun v18 H => ?_)
                refine jr_iconst (v := 1) dX10_incomeBy_137 (by decide) ?_
                refine jr_iadd dX10_incomeBy_138 ?_
                refine jr_putI fl_RX10_106 (fun z => by cases z) dX10_incomeBy_139 H (fun h19 H => ?_)
                refine jr_fgt 6 ?_
                refine jr_fgt 7 ?_
                exact hJ142 _ _ H
        · refine jr_icmp_ne (tgt := 83) dX10_incomeBy_76 (by decide) H (fun H => ?_) (fun H => ?_)
          · refine jr_iconst (v := 0) dX10_incomeBy_79 (by decide) ?_
            refine jr_goto (tgt := 102) dX10_incomeBy_80 (by decide) ?_
            exact hJ102 _ _ H
          · refine jr_aload_n dX10_incomeBy_83 rfl rfl ?_
            refine jr_getR fl_RX10_77 dX10_incomeBy_84 H (fun v20 H => ?_)
            refine jr_iload dX10_incomeBy_87 rfl ?_
            refine jr_iald dX10_incomeBy_89 H (fun v21 H => ?_)
            refine jr_iload_n dX10_incomeBy_90 rfl rfl ?_
            refine jr_aload_n dX10_incomeBy_91 rfl rfl ?_
            refine jr_getR fl_RX10_26 dX10_incomeBy_92 H (fun v22 H => ?_)
            refine jr_iload dX10_incomeBy_95 rfl ?_
            obtain ⟨v24, h23, Hc, H⟩ := j_b2_some H
            refine jr_callV (ci := 3) [.int s9] my_X3_vowelsOf mv_X3_vowelsOf ml_RX10_145 dX10_incomeBy_97 rfl rfl (Nat.le_of_ble_eq_true rfl) rfl (c_X3_vowelsOf l (d + 1) F v22 s9 h10 v24 h23 Hc) ?_
            refine jr_imul dX10_incomeBy_100 ?_
            refine jr_iadd dX10_incomeBy_101 ?_
            exact hJ102 _ _ H
      · refine jr_icmp_ne (tgt := 70) dX10_incomeBy_49 (by decide) H (fun H => ?_) (fun H => ?_)
        · refine jr_aload_n dX10_incomeBy_52 rfl rfl ?_
          refine jr_aload_n dX10_incomeBy_53 rfl rfl ?_
          refine jr_getR fl_RX10_33 dX10_incomeBy_54 H (fun v25 H => ?_)
          refine jr_getR fl_RX10_187 dX10_incomeBy_57 H (fun v26 H => ?_)
          refine jr_iload dX10_incomeBy_60 rfl ?_
          refine jr_iald dX10_incomeBy_62 H (fun v27 H => ?_)
          refine jr_iload_n dX10_incomeBy_63 rfl rfl ?_
          obtain ⟨v29, h28, Hc, H⟩ := j_b2_some H
          refine jr_callV (ci := 10) [.int v27, .int x2] my_X10_cheapestFor mv_X10_cheapestFor ml_RX10_257 dX10_incomeBy_64 rfl rfl (Nat.le_of_ble_eq_true rfl) rfl (c_X10_cheapestFor l d F x0 v27 x2 h v29 h28 Hc) ?_
          refine jr_goto (tgt := 71) dX10_incomeBy_67 (by decide) ?_
          exact hJ71 _ _ H
        · refine jr_iconst (v := (-1)) dX10_incomeBy_70 (by decide) ?_
          exact hJ71 _ _ H
set_option maxRecDepth 100000 in
set_option maxHeartbeats 4000000 in
theorem c_X10_incomeBy (l : Launch) (d : Nat) (F : Nat) (a0 : Nat) (a1 : Int32) (a2 : Int32) (h : jH) (rR : Int32) (hf : jH) (H : f_X10_incomeBy F a0 a1 a2 h = some (rR, hf)) : jh_sh h a0 = (10, 0) ∧ jMet l (d + 2) yX10_incomeBy cX10_incomeBy 8 (some .int) [.ref a0, .int a1, .int a2] h (some (.int rR)) hf := by
  unfold f_X10_incomeBy at H
  obtain ⟨hsh, H⟩ := j_gd_some H
  refine ⟨hsh, ?_⟩
  refine jMet.of false [some (.ref a0), some (.int a1), some (.int a2), none, none, none, none, none] rfl (by decide) (by decide) (Nat.le_of_ble_eq_true rfl) (fun S0 q hq => by simpa [j_l, lv_args, j_v, Value.category] using hq) ?_
  refine jr_aload_n dX10_incomeBy_0 rfl rfl ?_
  refine jr_getR fl_RX10_33 dX10_incomeBy_1 H (fun v1 H => ?_)
  refine jr_iload_n dX10_incomeBy_4 rfl rfl ?_
  obtain ⟨v3, h2, Hc, H⟩ := j_b2_some H
  refine jr_callV (ci := 2) [.int a1] my_X2_at mv_X2_at ml_RX10_428 dX10_incomeBy_5 rfl rfl (Nat.le_of_ble_eq_true rfl) rfl (c_X2_at l (d + 1) F v1 a1 h v3 h2 Hc) ?_
  refine jr_aload_n dX10_incomeBy_8 rfl rfl ?_
  refine jr_getR fl_RX10_40 dX10_incomeBy_9 H (fun v4 H => ?_)
  refine jr_getI fl_RX10_174 (by decide) dX10_incomeBy_12 H (fun v5 H => ?_)
  refine jr_iconst (v := (-1)) dX10_incomeBy_15 (by decide) ?_
  refine jr_ixor dX10_incomeBy_16 ?_
  refine jr_iand dX10_incomeBy_17 ?_
  refine jr_istore_n dX10_incomeBy_18 rfl (by decide) rfl (Or.inl rfl) ?_
  refine jr_iconst (v := 0) dX10_incomeBy_19 (by decide) ?_
  refine jr_istore dX10_incomeBy_20 (by decide) rfl (Or.inl rfl) ?_
  refine jr_aload_n dX10_incomeBy_22 rfl rfl ?_
  refine jr_iconst (v := 0) dX10_incomeBy_23 (by decide) ?_
  refine jr_putI fl_RX10_106 (fun z => by cases z) dX10_incomeBy_24 H (fun h6 H => ?_)
  refine jr_iconst (v := 0) dX10_incomeBy_27 (by decide) ?_
  refine jr_istore dX10_incomeBy_28 (by decide) rfl (Or.inl rfl) ?_
  refine jr_fgt 1 ?_
  exact s_X10_incomeBy_L30 l d F a0 a2 (v3 &&& (v5 ^^^ ((-1) : Int32))) F 0 0 h6 H
set_option maxRecDepth 100000 in
set_option maxHeartbeats 4000000 in
theorem c_X10_takes (l : Launch) (d : Nat) (F : Nat) (a0 : Nat) (a1 : Int32) (a2 : Int32) (h : jH) (rR : Int32) (hf : jH) (H : f_X10_takes F a0 a1 a2 h = some (rR, hf)) : jh_sh h a0 = (10, 0) ∧ jMet l (d + 4) yX10_takes cX10_takes 4 (some .int) [.ref a0, .int a1, .int a2] h (some (.int rR)) hf := by
  unfold f_X10_takes at H
  obtain ⟨hsh, H⟩ := j_gd_some H
  refine ⟨hsh, ?_⟩
  refine jMet.of false [some (.ref a0), some (.int a1), some (.int a2), none] rfl (by decide) (by decide) (Nat.le_of_ble_eq_true rfl) (fun S0 q hq => by simpa [j_l, lv_args, j_v, Value.category] using hq) ?_
  refine jr_aload_n dX10_takes_0 rfl rfl ?_
  refine jr_iload_n dX10_takes_1 rfl rfl ?_
  obtain ⟨v2, h1, Hc, H⟩ := j_b2_some H
  refine jr_callV (ci := 10) [.int a1] my_X10_isStation mv_X10_isStation ml_RX10_191 dX10_takes_2 rfl rfl (Nat.le_of_ble_eq_true rfl) rfl (c_X10_isStation l (d + 3) F a0 a1 h v2 h1 Hc) ?_
  refine jr_if_eq (tgt := 18) dX10_takes_5 (by decide) H (fun H => ?_) (fun H => ?_)
  · refine jr_iconst (v := (-1)) dX10_takes_18 (by decide) ?_
    exact jr_iret rfl dX10_takes_19 H
  · refine jr_iload_n dX10_takes_8 rfl rfl ?_
    refine jr_if_lt (tgt := 18) dX10_takes_9 (by decide) H (fun H => ?_) (fun H => ?_)
    · refine jr_iconst (v := (-1)) dX10_takes_18 (by decide) ?_
      exact jr_iret rfl dX10_takes_19 H
    · refine jr_iload_n dX10_takes_12 rfl rfl ?_
      refine jr_bipush (v := 99) dX10_takes_13 (by decide) ?_
      refine jr_icmp_le (tgt := 20) dX10_takes_15 (by decide) H (fun H => ?_) (fun H => ?_)
      · refine jr_aload_n dX10_takes_20 rfl rfl ?_
        refine jr_aload_n dX10_takes_21 rfl rfl ?_
        refine jr_getR fl_RX10_92 dX10_takes_22 H (fun v3 H => ?_)
        refine jr_iload_n dX10_takes_25 rfl rfl ?_
        refine jr_aload_n dX10_takes_26 rfl rfl ?_
        refine jr_getR fl_RX10_77 dX10_takes_27 H (fun v4 H => ?_)
        obtain ⟨h5, Hc, H⟩ := Option.bind_eq_some_iff.mp H
        refine jr_callV (ci := 10) [.ref v3, .int a1, .ref v4] my_X10_priceAll mv_X10_priceAll ml_RX10_253 dX10_takes_30 rfl rfl (Nat.le_of_ble_eq_true rfl) rfl (c_X10_priceAll l d F a0 v3 a1 v4 h1 h5 Hc) ?_
        refine jr_aload_n dX10_takes_33 rfl rfl ?_
        refine jr_iload_n dX10_takes_34 rfl rfl ?_
        refine jr_iload_n dX10_takes_35 rfl rfl ?_
        obtain ⟨v7, h6, Hc, H⟩ := j_b2_some H
        refine jr_callV (ci := 10) [.int a1, .int a2] my_X10_incomeBy mv_X10_incomeBy ml_RX10_335 dX10_takes_36 rfl rfl (Nat.le_of_ble_eq_true rfl) rfl (c_X10_incomeBy l (d + 1) F a0 a1 a2 h5 v7 h6 Hc) ?_
        refine jr_istore_n dX10_takes_39 rfl (by decide) rfl (Or.inl rfl) ?_
        refine jr_aload_n dX10_takes_40 rfl rfl ?_
        refine jr_getR fl_RX10_19 dX10_takes_41 H (fun v8 H => ?_)
        refine jr_aload_n dX10_takes_44 rfl rfl ?_
        refine jr_getI fl_RX10_106 (by decide) dX10_takes_45 H (fun v9 H => ?_)
        refine jr_i2l dX10_takes_48 ?_
        obtain ⟨h10, Hc, H⟩ := Option.bind_eq_some_iff.mp H
        refine jr_callV (ci := 6) [.long (v9.toInt64)] my_X6_tell mv_X6_tell ml_RX10_236 dX10_takes_49 rfl rfl (Nat.le_of_ble_eq_true rfl) rfl (c_X6_tell l (d + 2) F v8 (v9.toInt64) h6 h10 Hc) ?_
        refine jr_iload_n dX10_takes_52 rfl rfl ?_
        exact jr_iret rfl dX10_takes_53 H
      · refine jr_iconst (v := (-1)) dX10_takes_18 (by decide) ?_
        exact jr_iret rfl dX10_takes_19 H
set_option maxRecDepth 100000 in
set_option maxHeartbeats 4000000 in
theorem s_X10_greed_L38 (l : Launch) (d : Nat) (F : Nat) (x0 : Nat) (x1 : Int32) (x2 : Int32) (k73 : Int32 → Int32 → jH → Option (Int32 × jH)) {rR : Int32} {hf : jH} (hk73 : ∀ (y3 : Int32) (y4 : Int32) (h : jH), k73 y3 y4 h = some (rR, hf) → jGo l (d + 4) none RX10 cX10_greed 7 (some .int) false 73 [some (.ref x0), none, some (.int x2), some (.int y3), some (.int y4), none, none] [] h (some (.int rR)) hf) : ∀ (n : Nat) (x3 : Int32) (x4 : Int32) (x5 : Int32) (h : jH), f_X10_greed_L38 F x0 x1 x2 k73 n x3 x4 x5 h = some (rR, hf) → jGo l (d + 4) none RX10 cX10_greed 7 (some .int) false 38 [some (.ref x0), some (.int x1), some (.int x2), some (.int x3), some (.int x4), some (.int x5), none] [] h (some (.int rR)) hf := by
  intro n
  induction n with
  | zero =>
    intro x3 x4 x5 h H
    cases H
  | succ n ih =>
    intro x3 x4 x5 h H
    unfold f_X10_greed_L38 at H
    refine jr_iload dX10_greed_38 rfl ?_
    refine jr_bipush (v := 99) dX10_greed_40 (by decide) ?_
    refine jr_icmp_gt (tgt := 73) dX10_greed_42 (by decide) H (fun H => ?_) (fun H => ?_)
    · refine jr_fgt 1 ?_
      refine jr_fgt 5 ?_
      exact hk73 _ _ _ H
    · refine jr_aload_n dX10_greed_45 rfl rfl ?_
      refine jr_iload_n dX10_greed_46 rfl rfl ?_
      refine jr_iload dX10_greed_47 rfl ?_
      obtain ⟨v9, h8, Hc, H⟩ := j_b2_some H
      refine jr_callV (ci := 10) [.int x1, .int x5] my_X10_incomeBy mv_X10_incomeBy ml_RX10_335 dX10_greed_49 rfl rfl (Nat.le_of_ble_eq_true rfl) rfl (c_X10_incomeBy l (d + 1) F x0 x1 x5 h v9 h8 Hc) ?_
      refine jr_istore dX10_greed_52 (by decide) rfl (Or.inl rfl) ?_
      refine jr_iload dX10_greed_54 rfl ?_
      refine jr_iload_n dX10_greed_56 rfl rfl ?_
      refine jr_jn (fun J => ∀ (z10 : Int32) (z11 : Int32) (h12 : jH), J z10 z11 h12 = some (rR, hf) → jGo l (d + 4) none RX10 cX10_greed 7 (some .int) false 67 [some (.ref x0), some (.int x1), some (.int x2), some (.int z10), some (.int z11), some (.int x5), none] [] h12 (some (.int rR)) hf) H (fun z10 z11 h12 H => ?_) (fun J67 hJ67 H => ?_)
      · refine jr_iinc (v := (x5 + 1)) dX10_greed_67 rfl rfl (by decide) rfl (Or.inl rfl) ?_
        refine jr_goto (tgt := 38) dX10_greed_70 (by decide) ?_
        exact ih _ _ _ _ H
      · refine jr_icmp_le (tgt := 67) dX10_greed_57 (by decide) H (fun H => ?_) (fun H => ?_)
        · refine jr_fgt 6 ?_
          exact hJ67 _ _ _ H
        · refine jr_iload dX10_greed_60 rfl ?_
          refine jr_istore_n dX10_greed_62 rfl (by decide) rfl (Or.inl rfl) ?_
          refine jr_iload dX10_greed_63 rfl ?_
          refine jr_istore dX10_greed_65 (by decide) rfl (Or.inl rfl) ?_
          refine jr_fgt 6 ?_
          exact hJ67 _ _ _ H
set_option maxRecDepth 100000 in
set_option maxHeartbeats 4000000 in
theorem c_X10_greed (l : Launch) (d : Nat) (F : Nat) (a0 : Nat) (a1 : Int32) (h : jH) (rR : Int32) (hf : jH) (H : f_X10_greed F a0 a1 h = some (rR, hf)) : jh_sh h a0 = (10, 0) ∧ jMet l (d + 4) yX10_greed cX10_greed 7 (some .int) [.ref a0, .int a1] h (some (.int rR)) hf := by
  unfold f_X10_greed at H
  obtain ⟨hsh, H⟩ := j_gd_some H
  refine ⟨hsh, ?_⟩
  refine jMet.of false [some (.ref a0), some (.int a1), none, none, none, none, none] rfl (by decide) (by decide) (Nat.le_of_ble_eq_true rfl) (fun S0 q hq => by simpa [j_l, lv_args, j_v, Value.category] using hq) ?_
  refine jr_aload_n dX10_greed_0 rfl rfl ?_
  refine jr_iload_n dX10_greed_1 rfl rfl ?_
  obtain ⟨v2, h1, Hc, H⟩ := j_b2_some H
  refine jr_callV (ci := 10) [.int a1] my_X10_isStation mv_X10_isStation ml_RX10_191 dX10_greed_2 rfl rfl (Nat.le_of_ble_eq_true rfl) rfl (c_X10_isStation l (d + 3) F a0 a1 h v2 h1 Hc) ?_
  refine jr_if_ne (tgt := 10) dX10_greed_5 (by decide) H (fun H => ?_) (fun H => ?_)
  · refine jr_iconst (v := (-1)) dX10_greed_8 (by decide) ?_
    exact jr_iret rfl dX10_greed_9 H
  · refine jr_aload_n dX10_greed_10 rfl rfl ?_
    refine jr_aload_n dX10_greed_11 rfl rfl ?_
    refine jr_getR fl_RX10_92 dX10_greed_12 H (fun v3 H => ?_)
    refine jr_iload_n dX10_greed_15 rfl rfl ?_
    refine jr_aload_n dX10_greed_16 rfl rfl ?_
    refine jr_getR fl_RX10_77 dX10_greed_17 H (fun v4 H => ?_)
    obtain ⟨h5, Hc, H⟩ := Option.bind_eq_some_iff.mp H
    refine jr_callV (ci := 10) [.ref v3, .int a1, .ref v4] my_X10_priceAll mv_X10_priceAll ml_RX10_253 dX10_greed_20 rfl rfl (Nat.le_of_ble_eq_true rfl) rfl (c_X10_priceAll l d F a0 v3 a1 v4 h1 h5 Hc) ?_
    refine jr_aload_n dX10_greed_23 rfl rfl ?_
    refine jr_iload_n dX10_greed_24 rfl rfl ?_
    refine jr_iconst (v := 0) dX10_greed_25 (by decide) ?_
    obtain ⟨v7, h6, Hc, H⟩ := j_b2_some H
    refine jr_callV (ci := 10) [.int a1, .int 0] my_X10_incomeBy mv_X10_incomeBy ml_RX10_335 dX10_greed_26 rfl rfl (Nat.le_of_ble_eq_true rfl) rfl (c_X10_incomeBy l (d + 1) F a0 a1 0 h5 v7 h6 Hc) ?_
    refine jr_istore_n dX10_greed_29 rfl (by decide) rfl (Or.inl rfl) ?_
    refine jr_iload_n dX10_greed_30 rfl rfl ?_
    refine jr_istore_n dX10_greed_31 rfl (by decide) rfl (Or.inl rfl) ?_
    refine jr_iconst (v := 0) dX10_greed_32 (by decide) ?_
    refine jr_istore dX10_greed_33 (by decide) rfl (Or.inl rfl) ?_
    refine jr_iconst (v := 1) dX10_greed_35 (by decide) ?_
    refine jr_istore dX10_greed_36 (by decide) rfl (Or.inl rfl) ?_
    refine s_X10_greed_L38 l d F a0 a1 v7 _ (fun y13 y14 h15 H => ?_) F v7 0 1 h6 H
    · refine jr_aload_n dX10_greed_73 rfl rfl ?_
      refine jr_getR fl_RX10_19 dX10_greed_74 H (fun v16 H => ?_)
      refine jr_iload_n dX10_greed_77 rfl rfl ?_
      refine jr_i2l dX10_greed_78 ?_
      refine jr_iload_n dX10_greed_79 rfl rfl ?_
      refine jr_i2l dX10_greed_80 ?_
      obtain ⟨h17, Hc, H⟩ := Option.bind_eq_some_iff.mp H
      refine jr_callV (ci := 6) [.long (y13.toInt64), .long (v7.toInt64)] my_X6_tell_ mv_X6_tell_ ml_RX10_242 dX10_greed_81 rfl rfl (Nat.le_of_ble_eq_true rfl) rfl (c_X6_tell_ l (d + 2) F v16 (y13.toInt64) (v7.toInt64) h15 h17 Hc) ?_
      refine jr_iload dX10_greed_84 rfl ?_
      exact jr_iret rfl dX10_greed_86 H
set_option maxRecDepth 100000 in
set_option maxHeartbeats 4000000 in
theorem s_X10_law_L59 (l : Launch) (d : Nat) (F : Nat) (x0 : Nat) (k120 : Int32 → Int32 → Int32 → jH → Option (Int32 × jH)) {rR : Int32} {hf : jH} (hk120 : ∀ (y3 : Int32) (y4 : Int32) (y5 : Int32) (h : jH), k120 y3 y4 y5 h = some (rR, hf) → jGo l (d + 405) none RX10 cX10_law 8 (some .int) false 120 [some (.ref x0), none, none, some (.int y3), some (.int y4), some (.int y5), none, none] [] h (some (.int rR)) hf) : ∀ (n : Nat) (x3 : Int32) (x4 : Int32) (x5 : Int32) (x6 : Int32) (h : jH), f_X10_law_L59 F x0 k120 n x3 x4 x5 x6 h = some (rR, hf) → jGo l (d + 405) none RX10 cX10_law 8 (some .int) false 59 [some (.ref x0), none, none, some (.int x3), some (.int x4), some (.int x5), some (.int x6), none] [] h (some (.int rR)) hf := by
  intro n
  induction n with
  | zero =>
    intro x3 x4 x5 x6 h H
    cases H
  | succ n ih =>
    intro x3 x4 x5 x6 h H
    unfold f_X10_law_L59 at H
    refine jr_iload dX10_law_59 rfl ?_
    refine jr_aload_n dX10_law_61 rfl rfl ?_
    refine jr_getR fl_RX10_26 dX10_law_62 H (fun v11 H => ?_)
    refine jr_getI fl_RX10_127 (by decide) dX10_law_65 H (fun v12 H => ?_)
    refine jr_icmp_ge (tgt := 120) dX10_law_68 (by decide) H (fun H => ?_) (fun H => ?_)
    · refine jr_fgt 6 ?_
      exact hk120 _ _ _ _ H
    · refine jr_aload_n dX10_law_71 rfl rfl ?_
      refine jr_getR fl_RX10_80 dX10_law_72 H (fun v13 H => ?_)
      refine jr_iload dX10_law_75 rfl ?_
      refine jr_iald dX10_law_77 H (fun v14 H => ?_)
      refine jr_aload_n dX10_law_78 rfl rfl ?_
      refine jr_getR fl_RX10_77 dX10_law_79 H (fun v15 H => ?_)
      refine jr_iload dX10_law_82 rfl ?_
      refine jr_iald dX10_law_84 H (fun v16 H => ?_)
      refine jr_isub dX10_law_85 ?_
      refine jr_istore dX10_law_86 (by decide) rfl (Or.inl rfl) ?_
      refine jr_iload dX10_law_88 rfl ?_
      refine jr_iload dX10_law_90 rfl ?_
      refine jr_iadd dX10_law_92 ?_
      refine jr_istore dX10_law_93 (by decide) rfl (Or.inl rfl) ?_
      refine jr_iload dX10_law_95 rfl ?_
      refine jr_jn (fun J => ∀ (z17 : Int32) (z18 : Int32) (h19 : jH), J z17 z18 h19 = some (rR, hf) → jGo l (d + 405) none RX10 cX10_law 8 (some .int) false 114 [some (.ref x0), none, none, some (.int z17), some (.int z18), some (.int (x5 + (v14 - v16))), some (.int x6), none] [] h19 (some (.int rR)) hf) H (fun z17 z18 h19 H => ?_) (fun J114 hJ114 H => ?_)
      · refine jr_iinc (v := (x6 + 1)) dX10_law_114 rfl rfl (by decide) rfl (Or.inl rfl) ?_
        refine jr_goto (tgt := 59) dX10_law_117 (by decide) ?_
        exact ih _ _ _ _ _ H
      · refine jr_if_le (tgt := 106) dX10_law_97 (by decide) H (fun H => ?_) (fun H => ?_)
        · refine jr_iload dX10_law_106 rfl ?_
          refine jr_if_ge (tgt := 114) dX10_law_108 (by decide) H (fun H => ?_) (fun H => ?_)
          · refine jr_fgt 7 ?_
            exact hJ114 _ _ _ H
          · refine jr_iinc (v := (x4 + 1)) dX10_law_111 rfl rfl (by decide) rfl (Or.inl rfl) ?_
            refine jr_fgt 7 ?_
            exact hJ114 _ _ _ H
        · refine jr_iinc (v := (x3 + 1)) dX10_law_100 rfl rfl (by decide) rfl (Or.inl rfl) ?_
          refine jr_goto (tgt := 114) dX10_law_103 (by decide) ?_
          refine jr_fgt 7 ?_
          exact hJ114 _ _ _ H
set_option maxRecDepth 100000 in
set_option maxHeartbeats 4000000 in
theorem c_X10_law (l : Launch) (d : Nat) (F : Nat) (a0 : Nat) (a1 : Int32) (h : jH) (rR : Int32) (hf : jH) (H : f_X10_law F a0 a1 h = some (rR, hf)) : jh_sh h a0 = (10, 0) ∧ jMet l (d + 405) yX10_law cX10_law 8 (some .int) [.ref a0, .int a1] h (some (.int rR)) hf := by
  unfold f_X10_law at H
  obtain ⟨hsh, H⟩ := j_gd_some H
  refine ⟨hsh, ?_⟩
  refine jMet.of false [some (.ref a0), some (.int a1), none, none, none, none, none, none] rfl (by decide) (by decide) (Nat.le_of_ble_eq_true rfl) (fun S0 q hq => by simpa [j_l, lv_args, j_v, Value.category] using hq) ?_
  refine jr_aload_n dX10_law_0 rfl rfl ?_
  obtain ⟨v2, h1, Hc, H⟩ := j_b2_some H
  refine jr_callV (ci := 10) [] my_X10_readSpareTariff mv_X10_readSpareTariff ml_RX10_133 dX10_law_1 rfl rfl (Nat.le_of_ble_eq_true rfl) rfl (c_X10_readSpareTariff l d F a0 h v2 h1 Hc) ?_
  refine jr_istore_n dX10_law_4 rfl (by decide) rfl (Or.inl rfl) ?_
  refine jr_aload_n dX10_law_5 rfl rfl ?_
  refine jr_iload_n dX10_law_6 rfl rfl ?_
  obtain ⟨v4, h3, Hc, H⟩ := j_b2_some H
  refine jr_callV (ci := 10) [.int a1] my_X10_isStation mv_X10_isStation ml_RX10_191 dX10_law_7 rfl rfl (Nat.le_of_ble_eq_true rfl) rfl (c_X10_isStation l (d + 404) F a0 a1 h1 v4 h3 Hc) ?_
  refine jr_if_ne (tgt := 16) dX10_law_10 (by decide) H (fun H => ?_) (fun H => ?_)
  · refine jr_bipush (v := (-100)) dX10_law_13 (by decide) ?_
    exact jr_iret rfl dX10_law_15 H
  · refine jr_iload_n dX10_law_16 rfl rfl ?_
    refine jr_if_ge (tgt := 22) dX10_law_17 (by decide) H (fun H => ?_) (fun H => ?_)
    · refine jr_aload_n dX10_law_22 rfl rfl ?_
      refine jr_aload_n dX10_law_23 rfl rfl ?_
      refine jr_getR fl_RX10_92 dX10_law_24 H (fun v5 H => ?_)
      refine jr_iload_n dX10_law_27 rfl rfl ?_
      refine jr_aload_n dX10_law_28 rfl rfl ?_
      refine jr_getR fl_RX10_77 dX10_law_29 H (fun v6 H => ?_)
      obtain ⟨h7, Hc, H⟩ := Option.bind_eq_some_iff.mp H
      refine jr_callV (ci := 10) [.ref v5, .int a1, .ref v6] my_X10_priceAll mv_X10_priceAll ml_RX10_253 dX10_law_32 rfl rfl (Nat.le_of_ble_eq_true rfl) rfl (c_X10_priceAll l (d + 401) F a0 v5 a1 v6 h3 h7 Hc) ?_
      refine jr_aload_n dX10_law_35 rfl rfl ?_
      refine jr_aload_n dX10_law_36 rfl rfl ?_
      refine jr_getR fl_RX10_96 dX10_law_37 H (fun v8 H => ?_)
      refine jr_iload_n dX10_law_40 rfl rfl ?_
      refine jr_aload_n dX10_law_41 rfl rfl ?_
      refine jr_getR fl_RX10_80 dX10_law_42 H (fun v9 H => ?_)
      obtain ⟨h10, Hc, H⟩ := Option.bind_eq_some_iff.mp H
      refine jr_callV (ci := 10) [.ref v8, .int a1, .ref v9] my_X10_priceAll mv_X10_priceAll ml_RX10_253 dX10_law_45 rfl rfl (Nat.le_of_ble_eq_true rfl) rfl (c_X10_priceAll l (d + 401) F a0 v8 a1 v9 h7 h10 Hc) ?_
      refine jr_iconst (v := 0) dX10_law_48 (by decide) ?_
      refine jr_istore_n dX10_law_49 rfl (by decide) rfl (Or.inl rfl) ?_
      refine jr_iconst (v := 0) dX10_law_50 (by decide) ?_
      refine jr_istore dX10_law_51 (by decide) rfl (Or.inl rfl) ?_
      refine jr_iconst (v := 0) dX10_law_53 (by decide) ?_
      refine jr_istore dX10_law_54 (by decide) rfl (Or.inl rfl) ?_
      refine jr_iconst (v := 0) dX10_law_56 (by decide) ?_
      refine jr_istore dX10_law_57 (by decide) rfl (Or.inl rfl) ?_
      refine jr_fgt 1 ?_
      refine jr_fgt 2 ?_
      refine s_X10_law_L59 l d F a0 _ (fun y20 y21 y22 h23 H => ?_) F 0 0 0 0 h10 H
      · refine jr_aload_n dX10_law_120 rfl rfl ?_
        refine jr_getR fl_RX10_19 dX10_law_121 H (fun v24 H => ?_)
        refine jr_iload dX10_law_124 rfl ?_
        refine jr_i2l dX10_law_126 ?_
        refine jr_iload dX10_law_127 rfl ?_
        refine jr_i2l dX10_law_129 ?_
        obtain ⟨h25, Hc, H⟩ := Option.bind_eq_some_iff.mp H
        refine jr_callV (ci := 6) [.long (y21.toInt64), .long (y22.toInt64)] my_X6_tell_ mv_X6_tell_ ml_RX10_242 dX10_law_130 rfl rfl (Nat.le_of_ble_eq_true rfl) rfl (c_X6_tell_ l (d + 403) F v24 (y21.toInt64) (y22.toInt64) h23 h25 Hc) ?_
        refine jr_iload_n dX10_law_133 rfl rfl ?_
        exact jr_iret rfl dX10_law_134 H
    · refine jr_iload_n dX10_law_20 rfl rfl ?_
      exact jr_iret rfl dX10_law_21 H
set_option maxRecDepth 100000 in
set_option maxHeartbeats 4000000 in
theorem s_X10_leavesNone_L17 (l : Launch) (d : Nat) (F : Nat) (x0 : Nat) (x1 : Int32) (x2 : Int32) (k47 : Int32 → jH → Option (Int32 × jH)) {rR : Int32} {hf : jH} (hk47 : ∀ (y3 : Int32) (h : jH), k47 y3 h = some (rR, hf) → jGo l (d + 1) none RX10 cX10_leavesNone 5 (some .boolean) false 47 [some (.ref x0), some (.int x1), some (.int x2), some (.int y3), none] [] h (some (.int rR)) hf) : ∀ (n : Nat) (x3 : Int32) (x4 : Int32) (h : jH), f_X10_leavesNone_L17 F x0 x1 x2 k47 n x3 x4 h = some (rR, hf) → jGo l (d + 1) none RX10 cX10_leavesNone 5 (some .boolean) false 17 [some (.ref x0), some (.int x1), some (.int x2), some (.int x3), some (.int x4)] [] h (some (.int rR)) hf := by
  intro n
  induction n with
  | zero =>
    intro x3 x4 h H
    cases H
  | succ n ih =>
    intro x3 x4 h H
    unfold f_X10_leavesNone_L17 at H
    refine jr_iload dX10_leavesNone_17 rfl ?_
    refine jr_iload_n dX10_leavesNone_19 rfl rfl ?_
    refine jr_icmp_ge (tgt := 47) dX10_leavesNone_20 (by decide) H (fun H => ?_) (fun H => ?_)
    · refine jr_fgt 4 ?_
      exact hk47 _ _ H
    · refine jr_iload_n dX10_leavesNone_23 rfl rfl ?_
      refine jr_aload_n dX10_leavesNone_24 rfl rfl ?_
      refine jr_getR fl_RX10_26 dX10_leavesNone_25 H (fun v3 H => ?_)
      refine jr_aload_n dX10_leavesNone_28 rfl rfl ?_
      refine jr_getR fl_RX10_86 dX10_leavesNone_29 H (fun v4 H => ?_)
      refine jr_iload dX10_leavesNone_32 rfl ?_
      refine jr_iald dX10_leavesNone_34 H (fun v5 H => ?_)
      refine jr_iload_n dX10_leavesNone_35 rfl rfl ?_
      obtain ⟨v7, h6, Hc, H⟩ := j_b2_some H
      refine jr_callV (ci := 3) [.int v5, .int x2] my_X3_heardIn mv_X3_heardIn ml_RX10_155 dX10_leavesNone_36 rfl rfl (Nat.le_of_ble_eq_true rfl) rfl (c_X3_heardIn l d F v3 v5 x2 h v7 h6 Hc) ?_
      refine jr_isub dX10_leavesNone_39 ?_
      refine jr_istore_n dX10_leavesNone_40 rfl (by decide) rfl (Or.inl rfl) ?_
      refine jr_iinc (v := (x4 + 1)) dX10_leavesNone_41 rfl rfl (by decide) rfl (Or.inl rfl) ?_
      refine jr_goto (tgt := 17) dX10_leavesNone_44 (by decide) ?_
      exact ih _ _ _ H
set_option maxRecDepth 100000 in
set_option maxHeartbeats 4000000 in
theorem s_X10_leavesNone_L2 (l : Launch) (d : Nat) (F : Nat) (x0 : Nat) (x1 : Int32) {rR : Int32} {hf : jH} : ∀ (n : Nat) (x2 : Int32) (h : jH), f_X10_leavesNone_L2 F x0 x1 n x2 h = some (rR, hf) → jGo l (d + 1) none RX10 cX10_leavesNone 5 (some .boolean) false 2 [some (.ref x0), some (.int x1), some (.int x2), none, none] [] h (some (.int rR)) hf := by
  intro n
  induction n with
  | zero =>
    intro x2 h H
    cases H
  | succ n ih =>
    intro x2 h H
    unfold f_X10_leavesNone_L2 at H
    refine jr_iload_n dX10_leavesNone_2 rfl rfl ?_
    refine jr_iconst (v := 5) dX10_leavesNone_3 (by decide) ?_
    refine jr_icmp_ge (tgt := 59) dX10_leavesNone_4 (by decide) H (fun H => ?_) (fun H => ?_)
    · refine jr_iconst (v := 1) dX10_leavesNone_59 (by decide) ?_
      exact jr_zret rfl rfl dX10_leavesNone_60 H
    · refine jr_aload_n dX10_leavesNone_7 rfl rfl ?_
      refine jr_getR fl_RX10_83 dX10_leavesNone_8 H (fun v1 H => ?_)
      refine jr_iload_n dX10_leavesNone_11 rfl rfl ?_
      refine jr_iald dX10_leavesNone_12 H (fun v2 H => ?_)
      refine jr_istore_n dX10_leavesNone_13 rfl (by decide) rfl (Or.inl rfl) ?_
      refine jr_iconst (v := 0) dX10_leavesNone_14 (by decide) ?_
      refine jr_istore dX10_leavesNone_15 (by decide) rfl (Or.inl rfl) ?_
      refine s_X10_leavesNone_L17 l d F x0 x1 x2 _ (fun y8 h9 H => ?_) F v2 0 h H
      · refine jr_iload_n dX10_leavesNone_47 rfl rfl ?_
        refine jr_if_eq (tgt := 53) dX10_leavesNone_48 (by decide) H (fun H => ?_) (fun H => ?_)
        · refine jr_iinc (v := (x2 + 1)) dX10_leavesNone_53 rfl rfl (by decide) rfl (Or.inl rfl) ?_
          refine jr_goto (tgt := 2) dX10_leavesNone_56 (by decide) ?_
          refine jr_fgt 3 ?_
          exact ih _ _ H
        · refine jr_iconst (v := 0) dX10_leavesNone_51 (by decide) ?_
          exact jr_zret rfl rfl dX10_leavesNone_52 H
set_option maxRecDepth 100000 in
set_option maxHeartbeats 4000000 in
theorem c_X10_leavesNone (l : Launch) (d : Nat) (F : Nat) (a0 : Nat) (a1 : Int32) (h : jH) (rR : Int32) (hf : jH) (H : f_X10_leavesNone F a0 a1 h = some (rR, hf)) : jh_sh h a0 = (10, 0) ∧ jMet l (d + 1) yX10_leavesNone cX10_leavesNone 5 (some .boolean) [.ref a0, .int a1] h (some (.int rR)) hf := by
  unfold f_X10_leavesNone at H
  obtain ⟨hsh, H⟩ := j_gd_some H
  refine ⟨hsh, ?_⟩
  refine jMet.of false [some (.ref a0), some (.int a1), none, none, none] rfl (by decide) (by decide) (Nat.le_of_ble_eq_true rfl) (fun S0 q hq => by simpa [j_l, lv_args, j_v, Value.category] using hq) ?_
  refine jr_iconst (v := 0) dX10_leavesNone_0 (by decide) ?_
  refine jr_istore_n dX10_leavesNone_1 rfl (by decide) rfl (Or.inl rfl) ?_
  exact s_X10_leavesNone_L2 l d F a0 a1 F 0 h H
set_option maxRecDepth 100000 in
set_option maxHeartbeats 4000000 in
theorem s_X10_pickNext_L4 (l : Launch) (d : Nat) (F : Nat) (x0 : Nat) (x1 : Int32) (k32 : Int32 → jH → Option (Int32 × jH)) {rR : Int32} {hf : jH} (hk32 : ∀ (y2 : Int32) (h : jH), k32 y2 h = some (rR, hf) → jGo l (d + 0) none RX10 cX10_pickNext 5 (some .boolean) false 32 [some (.ref x0), some (.int x1), some (.int y2), none, none] [] h (some (.int rR)) hf) : ∀ (n : Nat) (x2 : Int32) (h : jH), f_X10_pickNext_L4 F x0 x1 k32 n x2 h = some (rR, hf) → jGo l (d + 0) none RX10 cX10_pickNext 5 (some .boolean) false 4 [some (.ref x0), some (.int x1), some (.int x2), none, none] [] h (some (.int rR)) hf := by
  intro n
  induction n with
  | zero =>
    intro x2 h H
    cases H
  | succ n ih =>
    intro x2 h H
    unfold f_X10_pickNext_L4 at H
    refine jr_iload_n dX10_pickNext_4 rfl rfl ?_
    refine jr_if_lt (tgt := 32) dX10_pickNext_5 (by decide) H (fun H => ?_) (fun H => ?_)
    · exact hk32 _ _ H
    · refine jr_aload_n dX10_pickNext_8 rfl rfl ?_
      refine jr_getR fl_RX10_86 dX10_pickNext_9 H (fun v1 H => ?_)
      refine jr_iload_n dX10_pickNext_12 rfl rfl ?_
      refine jr_iald dX10_pickNext_13 H (fun v2 H => ?_)
      refine jr_aload_n dX10_pickNext_14 rfl rfl ?_
      refine jr_getR fl_RX10_26 dX10_pickNext_15 H (fun v3 H => ?_)
      refine jr_getI fl_RX10_127 (by decide) dX10_pickNext_18 H (fun v4 H => ?_)
      refine jr_iconst (v := 1) dX10_pickNext_21 (by decide) ?_
      refine jr_isub dX10_pickNext_22 ?_
      refine jr_icmp_lt (tgt := 32) dX10_pickNext_23 (by decide) H (fun H => ?_) (fun H => ?_)
      · exact hk32 _ _ H
      · refine jr_iinc (v := (x2 + (-1))) dX10_pickNext_26 rfl rfl (by decide) rfl (Or.inl rfl) ?_
        refine jr_goto (tgt := 4) dX10_pickNext_29 (by decide) ?_
        exact ih _ _ H
set_option maxRecDepth 100000 in
set_option maxHeartbeats 4000000 in
theorem s_X10_pickNext_L50 (l : Launch) (d : Nat) (F : Nat) (x0 : Nat) (x1 : Int32) (x3 : Int32) {rR : Int32} {hf : jH} : ∀ (n : Nat) (x4 : Int32) (h : jH), f_X10_pickNext_L50 F x0 x1 x3 n x4 h = some (rR, hf) → jGo l (d + 0) none RX10 cX10_pickNext 5 (some .boolean) false 50 [some (.ref x0), some (.int x1), none, some (.int x3), some (.int x4)] [] h (some (.int rR)) hf := by
  intro n
  induction n with
  | zero =>
    intro x4 h H
    cases H
  | succ n ih =>
    intro x4 h H
    unfold f_X10_pickNext_L50 at H
    refine jr_iload dX10_pickNext_50 rfl ?_
    refine jr_iload_n dX10_pickNext_52 rfl rfl ?_
    refine jr_icmp_ge (tgt := 70) dX10_pickNext_53 (by decide) H (fun H => ?_) (fun H => ?_)
    · refine jr_iconst (v := 1) dX10_pickNext_70 (by decide) ?_
      exact jr_zret rfl rfl dX10_pickNext_71 H
    · refine jr_aload_n dX10_pickNext_56 rfl rfl ?_
      refine jr_getR fl_RX10_86 dX10_pickNext_57 H (fun v9 H => ?_)
      refine jr_iload dX10_pickNext_60 rfl ?_
      refine jr_iload_n dX10_pickNext_62 rfl rfl ?_
      refine jr_iast dX10_pickNext_63 H (fun h10 H => ?_)
      refine jr_iinc (v := (x4 + 1)) dX10_pickNext_64 rfl rfl (by decide) rfl (Or.inl rfl) ?_
      refine jr_goto (tgt := 50) dX10_pickNext_67 (by decide) ?_
      exact ih _ _ H
set_option maxRecDepth 100000 in
set_option maxHeartbeats 4000000 in
theorem c_X10_pickNext (l : Launch) (d : Nat) (F : Nat) (a0 : Nat) (a1 : Int32) (h : jH) (rR : Int32) (hf : jH) (H : f_X10_pickNext F a0 a1 h = some (rR, hf)) : jh_sh h a0 = (10, 0) ∧ jMet l (d + 0) yX10_pickNext cX10_pickNext 5 (some .boolean) [.ref a0, .int a1] h (some (.int rR)) hf := by
  unfold f_X10_pickNext at H
  obtain ⟨hsh, H⟩ := j_gd_some H
  refine ⟨hsh, ?_⟩
  refine jMet.of false [some (.ref a0), some (.int a1), none, none, none] rfl (by decide) (by decide) (Nat.le_of_ble_eq_true rfl) (fun S0 q hq => by simpa [j_l, lv_args, j_v, Value.category] using hq) ?_
  refine jr_iload_n dX10_pickNext_0 rfl rfl ?_
  refine jr_iconst (v := 1) dX10_pickNext_1 (by decide) ?_
  refine jr_isub dX10_pickNext_2 ?_
  refine jr_istore_n dX10_pickNext_3 rfl (by decide) rfl (Or.inl rfl) ?_
  refine s_X10_pickNext_L4 l d F a0 a1 _ (fun y5 h6 H => ?_) F (a1 - (1 : Int32)) h H
  · refine jr_iload_n dX10_pickNext_32 rfl rfl ?_
    refine jr_if_ge (tgt := 38) dX10_pickNext_33 (by decide) H (fun H => ?_) (fun H => ?_)
    · refine jr_aload_n dX10_pickNext_38 rfl rfl ?_
      refine jr_getR fl_RX10_86 dX10_pickNext_39 H (fun v7 H => ?_)
      refine jr_iload_n dX10_pickNext_42 rfl rfl ?_
      refine jr_iald dX10_pickNext_43 H (fun v8 H => ?_)
      refine jr_iconst (v := 1) dX10_pickNext_44 (by decide) ?_
      refine jr_iadd dX10_pickNext_45 ?_
      refine jr_istore_n dX10_pickNext_46 rfl (by decide) rfl (Or.inl rfl) ?_
      refine jr_iload_n dX10_pickNext_47 rfl rfl ?_
      refine jr_istore dX10_pickNext_48 (by decide) rfl (Or.inl rfl) ?_
      refine jr_fgt 2 ?_
      exact s_X10_pickNext_L50 l d F a0 a1 (v8 + (1 : Int32)) F y5 h6 H
    · refine jr_iconst (v := 0) dX10_pickNext_36 (by decide) ?_
      exact jr_zret rfl rfl dX10_pickNext_37 H
set_option maxRecDepth 100000 in
set_option maxHeartbeats 4000000 in
theorem s_X10_tellPicked_L2 (l : Launch) (d : Nat) (F : Nat) (x0 : Nat) (x1 : Int32) {hf : jH} : ∀ (n : Nat) (x2 : Int32) (h : jH), f_X10_tellPicked_L2 F x0 x1 n x2 h = some hf → jGo l (d + 1) none RX10 cX10_tellPicked 3 none false 2 [some (.ref x0), some (.int x1), some (.int x2)] [] h none hf := by
  intro n
  induction n with
  | zero =>
    intro x2 h H
    cases H
  | succ n ih =>
    intro x2 h H
    unfold f_X10_tellPicked_L2 at H
    refine jr_iload_n dX10_tellPicked_2 rfl rfl ?_
    refine jr_iload_n dX10_tellPicked_3 rfl rfl ?_
    refine jr_icmp_ge (tgt := 27) dX10_tellPicked_4 (by decide) H (fun H => ?_) (fun H => ?_)
    · exact jr_vret rfl dX10_tellPicked_27 H
    · refine jr_aload_n dX10_tellPicked_7 rfl rfl ?_
      refine jr_getR fl_RX10_19 dX10_tellPicked_8 H (fun v1 H => ?_)
      refine jr_aload_n dX10_tellPicked_11 rfl rfl ?_
      refine jr_getR fl_RX10_86 dX10_tellPicked_12 H (fun v2 H => ?_)
      refine jr_iload_n dX10_tellPicked_15 rfl rfl ?_
      refine jr_iald dX10_tellPicked_16 H (fun v3 H => ?_)
      refine jr_i2l dX10_tellPicked_17 ?_
      obtain ⟨h4, Hc, H⟩ := Option.bind_eq_some_iff.mp H
      refine jr_callV (ci := 6) [.long (v3.toInt64)] my_X6_add mv_X6_add ml_RX10_219 dX10_tellPicked_18 rfl rfl (Nat.le_of_ble_eq_true rfl) rfl (c_X6_add l d F v1 (v3.toInt64) h h4 Hc) ?_
      refine jr_iinc (v := (x2 + 1)) dX10_tellPicked_21 rfl rfl (by decide) rfl (Or.inl rfl) ?_
      refine jr_goto (tgt := 2) dX10_tellPicked_24 (by decide) ?_
      exact ih _ _ H
set_option maxRecDepth 100000 in
set_option maxHeartbeats 4000000 in
theorem c_X10_tellPicked (l : Launch) (d : Nat) (F : Nat) (a0 : Nat) (a1 : Int32) (h : jH) (hf : jH) (H : f_X10_tellPicked F a0 a1 h = some hf) : jh_sh h a0 = (10, 0) ∧ jMet l (d + 1) yX10_tellPicked cX10_tellPicked 3 none [.ref a0, .int a1] h none hf := by
  unfold f_X10_tellPicked at H
  obtain ⟨hsh, H⟩ := j_gd_some H
  refine ⟨hsh, ?_⟩
  refine jMet.of false [some (.ref a0), some (.int a1), none] rfl (by decide) (by decide) (Nat.le_of_ble_eq_true rfl) (fun S0 q hq => by simpa [j_l, lv_args, j_v, Value.category] using hq) ?_
  refine jr_iconst (v := 0) dX10_tellPicked_0 (by decide) ?_
  refine jr_istore_n dX10_tellPicked_1 rfl (by decide) rfl (Or.inl rfl) ?_
  exact s_X10_tellPicked_L2 l d F a0 a1 F 0 h H
set_option maxRecDepth 100000 in
set_option maxHeartbeats 4000000 in
theorem s_X10_waysToSay_L2 (l : Launch) (d : Nat) (F : Nat) (x0 : Nat) (x1 : Int32) (k20 : jH → Option (Int32 × jH)) {rR : Int32} {hf : jH} (hk20 : ∀ (h : jH), k20 h = some (rR, hf) → jGo l (d + 2) none RX10 cX10_waysToSay 5 (some .int) false 20 [some (.ref x0), some (.int x1), none, none, none] [] h (some (.int rR)) hf) : ∀ (n : Nat) (x2 : Int32) (h : jH), f_X10_waysToSay_L2 F x0 x1 k20 n x2 h = some (rR, hf) → jGo l (d + 2) none RX10 cX10_waysToSay 5 (some .int) false 2 [some (.ref x0), some (.int x1), some (.int x2), none, none] [] h (some (.int rR)) hf := by
  intro n
  induction n with
  | zero =>
    intro x2 h H
    cases H
  | succ n ih =>
    intro x2 h H
    unfold f_X10_waysToSay_L2 at H
    refine jr_iload_n dX10_waysToSay_2 rfl rfl ?_
    refine jr_iload_n dX10_waysToSay_3 rfl rfl ?_
    refine jr_icmp_ge (tgt := 20) dX10_waysToSay_4 (by decide) H (fun H => ?_) (fun H => ?_)
    · refine jr_fgt 2 ?_
      exact hk20 _ H
    · refine jr_aload_n dX10_waysToSay_7 rfl rfl ?_
      refine jr_getR fl_RX10_86 dX10_waysToSay_8 H (fun v1 H => ?_)
      refine jr_iload_n dX10_waysToSay_11 rfl rfl ?_
      refine jr_iconst (v := 0) dX10_waysToSay_12 (by decide) ?_
      refine jr_iast dX10_waysToSay_13 H (fun h2 H => ?_)
      refine jr_iinc (v := (x2 + 1)) dX10_waysToSay_14 rfl rfl (by decide) rfl (Or.inl rfl) ?_
      refine jr_goto (tgt := 2) dX10_waysToSay_17 (by decide) ?_
      exact ih _ _ H
set_option maxRecDepth 100000 in
set_option maxHeartbeats 4000000 in
theorem s_X10_waysToSay_L27 (l : Launch) (d : Nat) (F : Nat) (x0 : Nat) (x1 : Int32) {rR : Int32} {hf : jH} : ∀ (n : Nat) (x2 : Int32) (x3 : Int32) (x4 : Int32) (h : jH), f_X10_waysToSay_L27 F x0 x1 n x2 x3 x4 h = some (rR, hf) → jGo l (d + 2) none RX10 cX10_waysToSay 5 (some .int) false 27 [some (.ref x0), some (.int x1), some (.int x2), some (.int x3), some (.int x4)] [] h (some (.int rR)) hf := by
  intro n
  induction n with
  | zero =>
    intro x2 x3 x4 h H
    cases H
  | succ n ih =>
    intro x2 x3 x4 h H
    unfold f_X10_waysToSay_L27 at H
    refine jr_iload dX10_waysToSay_27 rfl ?_
    refine jr_sipush (v := 1000) dX10_waysToSay_29 (by decide) ?_
    refine jr_icmp_ge (tgt := 77) dX10_waysToSay_32 (by decide) H (fun H => ?_) (fun H => ?_)
    · refine jr_iload_n dX10_waysToSay_77 rfl rfl ?_
      exact jr_iret rfl dX10_waysToSay_78 H
    · refine jr_iload_n dX10_waysToSay_35 rfl rfl ?_
      refine jr_if_eq (tgt := 77) dX10_waysToSay_36 (by decide) H (fun H => ?_) (fun H => ?_)
      · refine jr_iload_n dX10_waysToSay_77 rfl rfl ?_
        exact jr_iret rfl dX10_waysToSay_78 H
      · refine jr_aload_n dX10_waysToSay_39 rfl rfl ?_
        refine jr_iload_n dX10_waysToSay_40 rfl rfl ?_
        obtain ⟨v5, h4, Hc, H⟩ := j_b2_some H
        refine jr_callV (ci := 10) [.int x1] my_X10_leavesNone mv_X10_leavesNone ml_RX10_459 dX10_waysToSay_41 rfl rfl (Nat.le_of_ble_eq_true rfl) rfl (c_X10_leavesNone l d F x0 x1 h v5 h4 Hc) ?_
        refine jr_jn (fun J => ∀ (z6 : Int32) (h7 : jH), J z6 h7 = some (rR, hf) → jGo l (d + 2) none RX10 cX10_waysToSay 5 (some .int) false 65 [some (.ref x0), some (.int x1), some (.int z6), none, some (.int x4)] [] h7 (some (.int rR)) hf) H (fun z6 h7 H => ?_) (fun J65 hJ65 H => ?_)
        · refine jr_aload_n dX10_waysToSay_65 rfl rfl ?_
          refine jr_iload_n dX10_waysToSay_66 rfl rfl ?_
          obtain ⟨v9, h8, Hc, H⟩ := j_b2_some H
          refine jr_callV (ci := 10) [.int x1] my_X10_pickNext mv_X10_pickNext ml_RX10_465 dX10_waysToSay_67 rfl rfl (Nat.le_of_ble_eq_true rfl) rfl (c_X10_pickNext l (d + 1) F x0 x1 h7 v9 h8 Hc) ?_
          refine jr_istore_n dX10_waysToSay_70 rfl (by decide) rfl (Or.inl rfl) ?_
          refine jr_iinc (v := (x4 + 1)) dX10_waysToSay_71 rfl rfl (by decide) rfl (Or.inl rfl) ?_
          refine jr_goto (tgt := 27) dX10_waysToSay_74 (by decide) ?_
          exact ih _ _ _ _ H
        · refine jr_if_eq (tgt := 65) dX10_waysToSay_44 (by decide) H (fun H => ?_) (fun H => ?_)
          · refine jr_fgt 3 ?_
            exact hJ65 _ _ H
          · refine jr_aload_n dX10_waysToSay_47 rfl rfl ?_
            refine jr_getR fl_RX10_19 dX10_waysToSay_48 H (fun v10 H => ?_)
            refine jr_getI fl_RX10_364 (by decide) dX10_waysToSay_51 H (fun v11 H => ?_)
            refine jr_jn (fun J => ∀ (h12 : jH), J h12 = some (rR, hf) → jGo l (d + 2) none RX10 cX10_waysToSay 5 (some .int) false 62 [some (.ref x0), some (.int x1), some (.int x2), none, some (.int x4)] [] h12 (some (.int rR)) hf) H (fun h12 H => ?_) (fun J62 hJ62 H => ?_)
            · refine jr_iinc (v := (x2 + 1)) dX10_waysToSay_62 rfl rfl (by decide) rfl (Or.inl rfl) ?_
              exact hJ65 _ _ H
            · refine jr_if_ne (tgt := 62) dX10_waysToSay_54 (by decide) H (fun H => ?_) (fun H => ?_)
              · refine jr_aload_n dX10_waysToSay_57 rfl rfl ?_
                refine jr_iload_n dX10_waysToSay_58 rfl rfl ?_
                obtain ⟨h13, Hc, H⟩ := Option.bind_eq_some_iff.mp H
                refine jr_callV (ci := 10) [.int x1] my_X10_tellPicked mv_X10_tellPicked ml_RX10_462 dX10_waysToSay_59 rfl rfl (Nat.le_of_ble_eq_true rfl) rfl (c_X10_tellPicked l d F x0 x1 h4 h13 Hc) ?_
                refine jr_fgt 3 ?_
                exact hJ62 _ H
              · refine jr_fgt 3 ?_
                exact hJ62 _ H
set_option maxRecDepth 100000 in
set_option maxHeartbeats 4000000 in
theorem c_X10_waysToSay (l : Launch) (d : Nat) (F : Nat) (a0 : Nat) (a1 : Int32) (h : jH) (rR : Int32) (hf : jH) (H : f_X10_waysToSay F a0 a1 h = some (rR, hf)) : jh_sh h a0 = (10, 0) ∧ jMet l (d + 2) yX10_waysToSay cX10_waysToSay 5 (some .int) [.ref a0, .int a1] h (some (.int rR)) hf := by
  unfold f_X10_waysToSay at H
  obtain ⟨hsh, H⟩ := j_gd_some H
  refine ⟨hsh, ?_⟩
  refine jMet.of false [some (.ref a0), some (.int a1), none, none, none] rfl (by decide) (by decide) (Nat.le_of_ble_eq_true rfl) (fun S0 q hq => by simpa [j_l, lv_args, j_v, Value.category] using hq) ?_
  refine jr_iconst (v := 0) dX10_waysToSay_0 (by decide) ?_
  refine jr_istore_n dX10_waysToSay_1 rfl (by decide) rfl (Or.inl rfl) ?_
  refine s_X10_waysToSay_L2 l d F a0 a1 _ (fun h3 H => ?_) F 0 h H
  · refine jr_iconst (v := 0) dX10_waysToSay_20 (by decide) ?_
    refine jr_istore_n dX10_waysToSay_21 rfl (by decide) rfl (Or.inl rfl) ?_
    refine jr_iconst (v := 1) dX10_waysToSay_22 (by decide) ?_
    refine jr_istore_n dX10_waysToSay_23 rfl (by decide) rfl (Or.inl rfl) ?_
    refine jr_iconst (v := 0) dX10_waysToSay_24 (by decide) ?_
    refine jr_istore dX10_waysToSay_25 (by decide) rfl (Or.inl rfl) ?_
    exact s_X10_waysToSay_L27 l d F a0 a1 F 0 1 0 h3 H
set_option maxRecDepth 100000 in
set_option maxHeartbeats 4000000 in
theorem s_X10_said_L31 (l : Launch) (d : Nat) (F : Nat) (x0 : Nat) (k60 : jH → Option (Int32 × jH)) {rR : Int32} {hf : jH} (hk60 : ∀ (h : jH), k60 h = some (rR, hf) → jGo l (d + 3) none RX10 cX10_said 4 (some .int) false 60 [some (.ref x0), none, none, none] [] h (some (.int rR)) hf) : ∀ (n : Nat) (x2 : Int32) (h : jH), f_X10_said_L31 F x0 k60 n x2 h = some (rR, hf) → jGo l (d + 3) none RX10 cX10_said 4 (some .int) false 31 [some (.ref x0), none, some (.int x2), none] [] h (some (.int rR)) hf := by
  intro n
  induction n with
  | zero =>
    intro x2 h H
    cases H
  | succ n ih =>
    intro x2 h H
    unfold f_X10_said_L31 at H
    refine jr_iload_n dX10_said_31 rfl rfl ?_
    refine jr_iconst (v := 5) dX10_said_32 (by decide) ?_
    refine jr_icmp_ge (tgt := 60) dX10_said_33 (by decide) H (fun H => ?_) (fun H => ?_)
    · refine jr_fgt 2 ?_
      exact hk60 _ H
    · refine jr_aload_n dX10_said_36 rfl rfl ?_
      refine jr_getR fl_RX10_83 dX10_said_37 H (fun v7 H => ?_)
      refine jr_iload_n dX10_said_40 rfl rfl ?_
      refine jr_aload_n dX10_said_41 rfl rfl ?_
      refine jr_getR fl_RX10_10 dX10_said_42 H (fun v8 H => ?_)
      refine jr_getR fl_RX10_269 dX10_said_45 H (fun v9 H => ?_)
      refine jr_iload_n dX10_said_48 rfl rfl ?_
      refine jr_iald dX10_said_49 H (fun v10 H => ?_)
      refine jr_bipush (v := 48) dX10_said_50 (by decide) ?_
      refine jr_isub dX10_said_52 ?_
      refine jr_iast dX10_said_53 H (fun h11 H => ?_)
      refine jr_iinc (v := (x2 + 1)) dX10_said_54 rfl rfl (by decide) rfl (Or.inl rfl) ?_
      refine jr_goto (tgt := 31) dX10_said_57 (by decide) ?_
      exact ih _ _ H
set_option maxRecDepth 100000 in
set_option maxHeartbeats 4000000 in
theorem s_X10_said_L71 (l : Launch) (d : Nat) (F : Nat) (x0 : Nat) {rR : Int32} {hf : jH} : ∀ (n : Nat) (x2 : Int32) (x3 : Int32) (h : jH), f_X10_said_L71 F x0 n x2 x3 h = some (rR, hf) → jGo l (d + 3) none RX10 cX10_said 4 (some .int) false 71 [some (.ref x0), none, some (.int x2), some (.int x3)] [] h (some (.int rR)) hf := by
  intro n
  induction n with
  | zero =>
    intro x2 x3 h H
    cases H
  | succ n ih =>
    intro x2 x3 h H
    unfold f_X10_said_L71 at H
    refine jr_iload_n dX10_said_71 rfl rfl ?_
    refine jr_iconst (v := 4) dX10_said_72 (by decide) ?_
    refine jr_icmp_gt (tgt := 100) dX10_said_73 (by decide) H (fun H => ?_) (fun H => ?_)
    · refine jr_iload_n dX10_said_100 rfl rfl ?_
      exact jr_iret rfl dX10_said_101 H
    · refine jr_aload_n dX10_said_76 rfl rfl ?_
      refine jr_getR fl_RX10_26 dX10_said_77 H (fun v15 H => ?_)
      refine jr_getI fl_RX10_127 (by decide) dX10_said_80 H (fun v16 H => ?_)
      refine jr_if_le (tgt := 100) dX10_said_83 (by decide) H (fun H => ?_) (fun H => ?_)
      · refine jr_iload_n dX10_said_100 rfl rfl ?_
        exact jr_iret rfl dX10_said_101 H
      · refine jr_iload_n dX10_said_86 rfl rfl ?_
        refine jr_aload_n dX10_said_87 rfl rfl ?_
        refine jr_iload_n dX10_said_88 rfl rfl ?_
        obtain ⟨v18, h17, Hc, H⟩ := j_b2_some H
        refine jr_callV (ci := 10) [.int x3] my_X10_waysToSay mv_X10_waysToSay ml_RX10_338 dX10_said_89 rfl rfl (Nat.le_of_ble_eq_true rfl) rfl (c_X10_waysToSay l d F x0 x3 h v18 h17 Hc) ?_
        refine jr_iadd dX10_said_92 ?_
        refine jr_istore_n dX10_said_93 rfl (by decide) rfl (Or.inl rfl) ?_
        refine jr_iinc (v := (x3 + 1)) dX10_said_94 rfl rfl (by decide) rfl (Or.inl rfl) ?_
        refine jr_goto (tgt := 71) dX10_said_97 (by decide) ?_
        exact ih _ _ _ H
set_option maxRecDepth 100000 in
set_option maxHeartbeats 4000000 in
theorem c_X10_said (l : Launch) (d : Nat) (F : Nat) (a0 : Nat) (h : jH) (rR : Int32) (hf : jH) (H : f_X10_said F a0 h = some (rR, hf)) : jh_sh h a0 = (10, 0) ∧ jMet l (d + 3) yX10_said cX10_said 4 (some .int) [.ref a0] h (some (.int rR)) hf := by
  unfold f_X10_said at H
  obtain ⟨hsh, H⟩ := j_gd_some H
  refine ⟨hsh, ?_⟩
  refine jMet.of false [some (.ref a0), none, none, none] rfl (by decide) (by decide) (Nat.le_of_ble_eq_true rfl) (fun S0 q hq => by simpa [j_l, lv_args, j_v, Value.category] using hq) ?_
  refine jr_aload_n dX10_said_0 rfl rfl ?_
  refine jr_getR fl_RX10_10 dX10_said_1 H (fun v1 H => ?_)
  refine jr_iconst (v := 5) dX10_said_4 (by decide) ?_
  obtain ⟨h2, Hc, H⟩ := Option.bind_eq_some_iff.mp H
  refine jr_callV (ci := 9) [.int 5] my_X9_open mv_X9_open ml_RX10_263 dX10_said_5 rfl rfl (Nat.le_of_ble_eq_true rfl) rfl (c_X9_open l (d + 1) F v1 5 h h2 Hc) ?_
  refine jr_aload_n dX10_said_8 rfl rfl ?_
  refine jr_iconst (v := 5) dX10_said_9 (by decide) ?_
  refine jr_iconst (v := 5) dX10_said_10 (by decide) ?_
  obtain ⟨v4, h3, Hc, H⟩ := j_b2_some H
  refine jr_callV (ci := 10) [.int 5, .int 5] my_X10_readDigits mv_X10_readDigits ml_RX10_266 dX10_said_11 rfl rfl (Nat.le_of_ble_eq_true rfl) rfl (c_X10_readDigits l (d + 1) F a0 5 5 h2 v4 h3 Hc) ?_
  refine jr_istore_n dX10_said_14 rfl (by decide) rfl (Or.inl rfl) ?_
  refine jr_aload_n dX10_said_15 rfl rfl ?_
  refine jr_getR fl_RX10_10 dX10_said_16 H (fun v5 H => ?_)
  refine jr_iconst (v := 0) dX10_said_19 (by decide) ?_
  refine jr_putI fl_RX10_113 (fun z => by cases z) dX10_said_20 H (fun h6 H => ?_)
  refine jr_iload_n dX10_said_23 rfl rfl ?_
  refine jr_if_ge (tgt := 29) dX10_said_24 (by decide) H (fun H => ?_) (fun H => ?_)
  · refine jr_iconst (v := 0) dX10_said_29 (by decide) ?_
    refine jr_istore_n dX10_said_30 rfl (by decide) rfl (Or.inl rfl) ?_
    refine jr_fgt 1 ?_
    refine s_X10_said_L31 l d F a0 _ (fun h12 H => ?_) F 0 h6 H
    · refine jr_aload_n dX10_said_60 rfl rfl ?_
      refine jr_getR fl_RX10_19 dX10_said_61 H (fun v13 H => ?_)
      obtain ⟨h14, Hc, H⟩ := Option.bind_eq_some_iff.mp H
      refine jr_callV (ci := 6) [] my_X6_clear mv_X6_clear ml_RX10_213 dX10_said_64 rfl rfl (Nat.le_of_ble_eq_true rfl) rfl (c_X6_clear l (d + 2) F v13 h12 h14 Hc) ?_
      refine jr_iconst (v := 0) dX10_said_67 (by decide) ?_
      refine jr_istore_n dX10_said_68 rfl (by decide) rfl (Or.inl rfl) ?_
      refine jr_iconst (v := 1) dX10_said_69 (by decide) ?_
      refine jr_istore_n dX10_said_70 rfl (by decide) rfl (Or.inl rfl) ?_
      exact s_X10_said_L71 l d F a0 F 0 1 h14 H
  · refine jr_iload_n dX10_said_27 rfl rfl ?_
    exact jr_iret rfl dX10_said_28 H
set_option maxRecDepth 100000 in
set_option maxHeartbeats 4000000 in
theorem s_X3_mostAlike_L12 (l : Launch) (d : Nat) (F : Nat) (x0 : Nat) (x1 : Int32) {rR : Int32} {hf : jH} : ∀ (n : Nat) (x2 : Int32) (x3 : Int32) (h : jH), f_X3_mostAlike_L12 F x0 x1 n x2 x3 h = some (rR, hf) → jGo l (d + 1) none RX3 cX3_mostAlike 5 (some .int) false 12 [some (.ref x0), some (.int x1), some (.int x2), some (.int x3), none] [] h (some (.int rR)) hf := by
  intro n
  induction n with
  | zero =>
    intro x2 x3 h H
    cases H
  | succ n ih =>
    intro x2 x3 h H
    unfold f_X3_mostAlike_L12 at H
    refine jr_iload_n dX3_mostAlike_12 rfl rfl ?_
    refine jr_aload_n dX3_mostAlike_13 rfl rfl ?_
    refine jr_getI fl_RX3_58 (by decide) dX3_mostAlike_14 H (fun v3 H => ?_)
    refine jr_icmp_ge (tgt := 57) dX3_mostAlike_17 (by decide) H (fun H => ?_) (fun H => ?_)
    · refine jr_iload_n dX3_mostAlike_57 rfl rfl ?_
      exact jr_iret rfl dX3_mostAlike_58 H
    · refine jr_aload_n dX3_mostAlike_20 rfl rfl ?_
      refine jr_iload_n dX3_mostAlike_21 rfl rfl ?_
      refine jr_iload_n dX3_mostAlike_22 rfl rfl ?_
      obtain ⟨v5, h4, Hc, H⟩ := j_b2_some H
      refine jr_callV (ci := 3) [.int x3, .int x1] my_X3_heardIn mv_X3_heardIn ml_RX3_68 dX3_mostAlike_23 rfl rfl (Nat.le_of_ble_eq_true rfl) rfl (c_X3_heardIn l d F x0 x3 x1 h v5 h4 Hc) ?_
      refine jr_istore dX3_mostAlike_26 (by decide) rfl (Or.inl rfl) ?_
      refine jr_aload_n dX3_mostAlike_28 rfl rfl ?_
      refine jr_getR fl_RX3_30 dX3_mostAlike_29 H (fun v6 H => ?_)
      refine jr_iload dX3_mostAlike_32 rfl ?_
      refine jr_dup2 dX3_mostAlike_34 rfl rfl ?_
      refine jr_iald dX3_mostAlike_35 H (fun v7 H => ?_)
      refine jr_iconst (v := 1) dX3_mostAlike_36 (by decide) ?_
      refine jr_iadd dX3_mostAlike_37 ?_
      refine jr_iast dX3_mostAlike_38 H (fun h8 H => ?_)
      refine jr_iload_n dX3_mostAlike_39 rfl rfl ?_
      refine jr_aload_n dX3_mostAlike_40 rfl rfl ?_
      refine jr_getR fl_RX3_30 dX3_mostAlike_41 H (fun v9 H => ?_)
      refine jr_iload dX3_mostAlike_44 rfl ?_
      refine jr_iald dX3_mostAlike_46 H (fun v10 H => ?_)
      refine jr_mmax ml_RX3_71 mm_mmax_s mm_i mm_mmax_c dX3_mostAlike_47 (Nat.le_of_ble_eq_true rfl) ?_
      refine jr_istore_n dX3_mostAlike_50 rfl (by decide) rfl (Or.inl rfl) ?_
      refine jr_iinc (v := (x3 + 1)) dX3_mostAlike_51 rfl rfl (by decide) rfl (Or.inl rfl) ?_
      refine jr_goto (tgt := 12) dX3_mostAlike_54 (by decide) ?_
      refine jr_fgt 4 ?_
      exact ih _ _ _ H
set_option maxRecDepth 100000 in
set_option maxHeartbeats 4000000 in
theorem c_X3_mostAlike (l : Launch) (d : Nat) (F : Nat) (a0 : Nat) (a1 : Int32) (h : jH) (rR : Int32) (hf : jH) (H : f_X3_mostAlike F a0 a1 h = some (rR, hf)) : jh_sh h a0 = (3, 0) ∧ jMet l (d + 1) yX3_mostAlike cX3_mostAlike 5 (some .int) [.ref a0, .int a1] h (some (.int rR)) hf := by
  unfold f_X3_mostAlike at H
  obtain ⟨hsh, H⟩ := j_gd_some H
  refine ⟨hsh, ?_⟩
  refine jMet.of false [some (.ref a0), some (.int a1), none, none, none] rfl (by decide) (by decide) (Nat.le_of_ble_eq_true rfl) (fun S0 q hq => by simpa [j_l, lv_args, j_v, Value.category] using hq) ?_
  refine jr_aload_n dX3_mostAlike_0 rfl rfl ?_
  refine jr_getR fl_RX3_30 dX3_mostAlike_1 H (fun v1 H => ?_)
  refine jr_iconst (v := 0) dX3_mostAlike_4 (by decide) ?_
  obtain ⟨h2, Hc, H⟩ := Option.bind_eq_some_iff.mp H
  refine jr_callS [.ref v1, .int 0] my_J7_fill_53178 ms_J7_fill_53178 ml_RX3_62 dX3_mostAlike_5 rfl rfl (Nat.le_of_ble_eq_true rfl) (c_J7_fill_53178 l d F v1 0 h h2 Hc) ?_
  refine jr_iconst (v := 0) dX3_mostAlike_8 (by decide) ?_
  refine jr_istore_n dX3_mostAlike_9 rfl (by decide) rfl (Or.inl rfl) ?_
  refine jr_iconst (v := 0) dX3_mostAlike_10 (by decide) ?_
  refine jr_istore_n dX3_mostAlike_11 rfl (by decide) rfl (Or.inl rfl) ?_
  exact s_X3_mostAlike_L12 l d F a0 a1 F 0 0 h2 H
set_option maxRecDepth 100000 in
set_option maxHeartbeats 4000000 in
theorem s_X10_ask_L26 (l : Launch) (d : Nat) (F : Nat) (x0 : Nat) (k58 : Int32 → Int32 → jH → Option (Int32 × jH)) {rR : Int32} {hf : jH} (hk58 : ∀ (y1 : Int32) (y2 : Int32) (h : jH), k58 y1 y2 h = some (rR, hf) → jGo l (d + 2) none RX10 cX10_ask 5 (some .int) false 58 [some (.ref x0), some (.int y1), some (.int y2), none, none] [] h (some (.int rR)) hf) : ∀ (n : Nat) (x1 : Int32) (x2 : Int32) (x3 : Int32) (h : jH), f_X10_ask_L26 F x0 k58 n x1 x2 x3 h = some (rR, hf) → jGo l (d + 2) none RX10 cX10_ask 5 (some .int) false 26 [some (.ref x0), some (.int x1), some (.int x2), some (.int x3), none] [] h (some (.int rR)) hf := by
  intro n
  induction n with
  | zero =>
    intro x1 x2 x3 h H
    cases H
  | succ n ih =>
    intro x1 x2 x3 h H
    unfold f_X10_ask_L26 at H
    refine jr_iload_n dX10_ask_26 rfl rfl ?_
    refine jr_iconst (v := 5) dX10_ask_27 (by decide) ?_
    refine jr_icmp_ge (tgt := 58) dX10_ask_28 (by decide) H (fun H => ?_) (fun H => ?_)
    · refine jr_fgt 3 ?_
      exact hk58 _ _ _ H
    · refine jr_aload_n dX10_ask_31 rfl rfl ?_
      refine jr_getR fl_RX10_26 dX10_ask_32 H (fun v6 H => ?_)
      refine jr_iload_n dX10_ask_35 rfl rfl ?_
      obtain ⟨v8, h7, Hc, H⟩ := j_b2_some H
      refine jr_callV (ci := 3) [.int x3] my_X3_mostAlike mv_X3_mostAlike ml_RX10_341 dX10_ask_36 rfl rfl (Nat.le_of_ble_eq_true rfl) rfl (c_X3_mostAlike l d F v6 x3 h v8 h7 Hc) ?_
      refine jr_istore dX10_ask_39 (by decide) rfl (Or.inl rfl) ?_
      refine jr_iload dX10_ask_41 rfl ?_
      refine jr_iload_n dX10_ask_43 rfl rfl ?_
      refine jr_jn (fun J => ∀ (z9 : Int32) (z10 : Int32) (h11 : jH), J z9 z10 h11 = some (rR, hf) → jGo l (d + 2) none RX10 cX10_ask 5 (some .int) false 52 [some (.ref x0), some (.int z9), some (.int z10), some (.int x3), none] [] h11 (some (.int rR)) hf) H (fun z9 z10 h11 H => ?_) (fun J52 hJ52 H => ?_)
      · refine jr_iinc (v := (x3 + 1)) dX10_ask_52 rfl rfl (by decide) rfl (Or.inl rfl) ?_
        refine jr_goto (tgt := 26) dX10_ask_55 (by decide) ?_
        exact ih _ _ _ _ H
      · refine jr_icmp_ge (tgt := 52) dX10_ask_44 (by decide) H (fun H => ?_) (fun H => ?_)
        · refine jr_fgt 4 ?_
          exact hJ52 _ _ _ H
        · refine jr_iload_n dX10_ask_47 rfl rfl ?_
          refine jr_istore_n dX10_ask_48 rfl (by decide) rfl (Or.inl rfl) ?_
          refine jr_iload dX10_ask_49 rfl ?_
          refine jr_istore_n dX10_ask_51 rfl (by decide) rfl (Or.inl rfl) ?_
          refine jr_fgt 4 ?_
          exact hJ52 _ _ _ H
set_option maxRecDepth 100000 in
set_option maxHeartbeats 4000000 in
theorem c_X10_ask (l : Launch) (d : Nat) (F : Nat) (a0 : Nat) (h : jH) (rR : Int32) (hf : jH) (H : f_X10_ask F a0 h = some (rR, hf)) : jh_sh h a0 = (10, 0) ∧ jMet l (d + 2) yX10_ask cX10_ask 5 (some .int) [.ref a0] h (some (.int rR)) hf := by
  unfold f_X10_ask at H
  obtain ⟨hsh, H⟩ := j_gd_some H
  refine ⟨hsh, ?_⟩
  refine jMet.of false [some (.ref a0), none, none, none, none] rfl (by decide) (by decide) (Nat.le_of_ble_eq_true rfl) (fun S0 q hq => by simpa [j_l, lv_args, j_v, Value.category] using hq) ?_
  refine jr_aload_n dX10_ask_0 rfl rfl ?_
  refine jr_getR fl_RX10_26 dX10_ask_1 H (fun v1 H => ?_)
  refine jr_getI fl_RX10_127 (by decide) dX10_ask_4 H (fun v2 H => ?_)
  refine jr_if_ne (tgt := 13) dX10_ask_7 (by decide) H (fun H => ?_) (fun H => ?_)
  · refine jr_bipush (v := (-2)) dX10_ask_10 (by decide) ?_
    exact jr_iret rfl dX10_ask_12 H
  · refine jr_iconst (v := 0) dX10_ask_13 (by decide) ?_
    refine jr_istore_n dX10_ask_14 rfl (by decide) rfl (Or.inl rfl) ?_
    refine jr_aload_n dX10_ask_15 rfl rfl ?_
    refine jr_getR fl_RX10_26 dX10_ask_16 H (fun v3 H => ?_)
    refine jr_iconst (v := 0) dX10_ask_19 (by decide) ?_
    obtain ⟨v5, h4, Hc, H⟩ := j_b2_some H
    refine jr_callV (ci := 3) [.int 0] my_X3_mostAlike mv_X3_mostAlike ml_RX10_341 dX10_ask_20 rfl rfl (Nat.le_of_ble_eq_true rfl) rfl (c_X3_mostAlike l d F v3 0 h v5 h4 Hc) ?_
    refine jr_istore_n dX10_ask_23 rfl (by decide) rfl (Or.inl rfl) ?_
    refine jr_iconst (v := 1) dX10_ask_24 (by decide) ?_
    refine jr_istore_n dX10_ask_25 rfl (by decide) rfl (Or.inl rfl) ?_
    refine s_X10_ask_L26 l d F a0 _ (fun y12 y13 h14 H => ?_) F 0 v5 1 h4 H
    · refine jr_aload_n dX10_ask_58 rfl rfl ?_
      refine jr_getR fl_RX10_19 dX10_ask_59 H (fun v15 H => ?_)
      refine jr_iload_n dX10_ask_62 rfl rfl ?_
      refine jr_i2l dX10_ask_63 ?_
      obtain ⟨h16, Hc, H⟩ := Option.bind_eq_some_iff.mp H
      refine jr_callV (ci := 6) [.long (y13.toInt64)] my_X6_tell mv_X6_tell ml_RX10_236 dX10_ask_64 rfl rfl (Nat.le_of_ble_eq_true rfl) rfl (c_X6_tell l d F v15 (y13.toInt64) h14 h16 Hc) ?_
      refine jr_iload_n dX10_ask_67 rfl rfl ?_
      exact jr_iret rfl dX10_ask_68 H
set_option maxRecDepth 100000 in
set_option maxHeartbeats 4000000 in
theorem c_X1_below (l : Launch) (d : Nat) (F : Nat) (a0 : Nat) (a1 : Int32) (h : jH) (rR : Int32) (hf : jH) (H : f_X1_below F a0 a1 h = some (rR, hf)) : jh_sh h a0 = (1, 0) ∧ jMet l (d + 0) yX1_below cX1_below 2 (some .int) [.ref a0, .int a1] h (some (.int rR)) hf := by
  unfold f_X1_below at H
  obtain ⟨hsh, H⟩ := j_gd_some H
  refine ⟨hsh, ?_⟩
  refine jMet.of false [some (.ref a0), some (.int a1)] rfl (by decide) (by decide) (Nat.le_of_ble_eq_true rfl) (fun S0 q hq => by simpa [j_l, lv_args, j_v, Value.category] using hq) ?_
  refine jr_aload_n dX1_below_0 rfl rfl ?_
  refine jr_aload_n dX1_below_1 rfl rfl ?_
  refine jr_getI fl_RX1_7 (by decide) dX1_below_2 H (fun v1 H => ?_)
  refine jr_ldc cn_RX1_13 dX1_below_5 ?_
  refine jr_imul dX1_below_7 ?_
  refine jr_sipush (v := 12345) dX1_below_8 (by decide) ?_
  refine jr_iadd dX1_below_11 ?_
  refine jr_putI fl_RX1_7 (fun z => by cases z) dX1_below_12 H (fun h2 H => ?_)
  refine jr_iload_n dX1_below_15 rfl rfl ?_
  refine jr_if_le (tgt := 31) dX1_below_16 (by decide) H (fun H => ?_) (fun H => ?_)
  · refine jr_iconst (v := 0) dX1_below_31 (by decide) ?_
    exact jr_iret rfl dX1_below_32 H
  · refine jr_aload_n dX1_below_19 rfl rfl ?_
    refine jr_getI fl_RX1_7 (by decide) dX1_below_20 H (fun v3 H => ?_)
    refine jr_bipush (v := 16) dX1_below_23 (by decide) ?_
    refine jr_iushr dX1_below_25 ?_
    refine jr_iload_n dX1_below_26 rfl rfl ?_
    refine jr_irem dX1_below_27 H (fun v4 H => ?_)
    refine jr_goto (tgt := 32) dX1_below_28 (by decide) ?_
    exact jr_iret rfl dX1_below_32 H
set_option maxRecDepth 100000 in
set_option maxHeartbeats 4000000 in
theorem c_X10_drawnAct (l : Launch) (d : Nat) (F : Nat) (a0 : Nat) (a1 : Nat) (h : jH) (rR : Int32) (hf : jH) (H : f_X10_drawnAct F a0 a1 h = some (rR, hf)) : jh_sh h a0 = (10, 0) ∧ jMet l (d + 4) yX10_drawnAct cX10_drawnAct 4 (some .int) [.ref a0, .ref a1] h (some (.int rR)) hf := by
  unfold f_X10_drawnAct at H
  obtain ⟨hsh, H⟩ := j_gd_some H
  refine ⟨hsh, ?_⟩
  refine jMet.of false [some (.ref a0), some (.ref a1), none, none] rfl (by decide) (by decide) (Nat.le_of_ble_eq_true rfl) (fun S0 q hq => by simpa [j_l, lv_args, j_v, Value.category] using hq) ?_
  refine jr_aload_n dX10_drawnAct_0 rfl rfl ?_
  refine jr_aload_n dX10_drawnAct_1 rfl rfl ?_
  refine jr_getI fl_RX10_103 (by decide) dX10_drawnAct_2 H (fun v1 H => ?_)
  obtain ⟨v3, h2, Hc, H⟩ := j_b2_some H
  refine jr_callV (ci := 1) [.int v1] my_X1_below mv_X1_below ml_RX10_434 dX10_drawnAct_5 rfl rfl (Nat.le_of_ble_eq_true rfl) rfl (c_X1_below l (d + 3) F a1 v1 h v3 h2 Hc) ?_
  refine jr_istore_n dX10_drawnAct_8 rfl (by decide) rfl (Or.inl rfl) ?_
  refine jr_aload_n dX10_drawnAct_9 rfl rfl ?_
  refine jr_iconst (v := 4) dX10_drawnAct_10 (by decide) ?_
  obtain ⟨v5, h4, Hc, H⟩ := j_b2_some H
  refine jr_callV (ci := 1) [.int 4] my_X1_below mv_X1_below ml_RX10_434 dX10_drawnAct_11 rfl rfl (Nat.le_of_ble_eq_true rfl) rfl (c_X1_below l (d + 3) F a1 4 h2 v5 h4 Hc) ?_
  refine jr_istore_n dX10_drawnAct_14 rfl (by decide) rfl (Or.inl rfl) ?_
  refine jr_iload_n dX10_drawnAct_15 rfl rfl ?_
  refine jr_iconst (v := 2) dX10_drawnAct_16 (by decide) ?_
  refine jr_icmp_ge (tgt := 35) dX10_drawnAct_17 (by decide) H (fun H => ?_) (fun H => ?_)
  · refine jr_aload_n dX10_drawnAct_35 rfl rfl ?_
    refine jr_iload_n dX10_drawnAct_36 rfl rfl ?_
    refine jr_aload_n dX10_drawnAct_37 rfl rfl ?_
    refine jr_aload_n dX10_drawnAct_38 rfl rfl ?_
    refine jr_getR fl_RX10_26 dX10_drawnAct_39 H (fun v6 H => ?_)
    refine jr_getI fl_RX10_127 (by decide) dX10_drawnAct_42 H (fun v7 H => ?_)
    obtain ⟨v9, h8, Hc, H⟩ := j_b2_some H
    refine jr_callV (ci := 1) [.int v7] my_X1_below mv_X1_below ml_RX10_434 dX10_drawnAct_45 rfl rfl (Nat.le_of_ble_eq_true rfl) rfl (c_X1_below l (d + 3) F a1 v7 h4 v9 h8 Hc) ?_
    obtain ⟨v11, h10, Hc, H⟩ := j_b2_some H
    refine jr_callV (ci := 10) [.int v3, .int v9] my_X10_speak mv_X10_speak ml_RX10_233 dX10_drawnAct_48 rfl rfl (Nat.le_of_ble_eq_true rfl) rfl (c_X10_speak l d F a0 v3 v9 h8 v11 h10 Hc) ?_
    exact jr_iret rfl dX10_drawnAct_51 H
  · refine jr_aload_n dX10_drawnAct_20 rfl rfl ?_
    refine jr_iload_n dX10_drawnAct_21 rfl rfl ?_
    refine jr_iconst (v := 1) dX10_drawnAct_22 (by decide) ?_
    refine jr_iload_n dX10_drawnAct_23 rfl rfl ?_
    refine jr_isub dX10_drawnAct_24 ?_
    obtain ⟨v13, h12, Hc, H⟩ := j_b2_some H
    refine jr_callV (ci := 10) [.int v3, .int ((1 : Int32) - v5)] my_X10_move mv_X10_move ml_RX10_419 dX10_drawnAct_25 rfl rfl (Nat.le_of_ble_eq_true rfl) rfl (c_X10_move l (d + 2) F a0 v3 ((1 : Int32) - v5) h4 v13 h12 Hc) ?_
    refine jr_iconst (v := 0) dX10_drawnAct_28 (by decide) ?_
    refine jr_mmin ml_RX10_374 mm_mmin_s mm_i mm_mmin_c dX10_drawnAct_29 (Nat.le_of_ble_eq_true rfl) ?_
    refine jr_goto (tgt := 51) dX10_drawnAct_32 (by decide) ?_
    exact jr_iret rfl dX10_drawnAct_51 H
set_option maxRecDepth 100000 in
set_option maxHeartbeats 4000000 in
theorem c_X1_init (l : Launch) (d : Nat) (F : Nat) (a0 : Nat) (a1 : Int32) (h : jH) (hf : jH) (H : f_X1_init F a0 a1 h = some hf) : jMet l (d + 1) yX1_init cX1_init 2 none [.ref a0, .int a1] h none hf := by
  unfold f_X1_init at H
  refine jMet.of true [some (.ref a0), some (.int a1)] rfl (by decide) (by decide) (Nat.le_of_ble_eq_true rfl) (fun S0 q hq => by simpa [j_l, lv_args, j_v, Value.category] using hq) ?_
  refine jr_aload_n dX1_init_0 rfl rfl ?_
  refine jr_objInit ml_RX1_1 oi_i oi_c dX1_init_1 (Nat.le_of_ble_eq_true rfl) ?_
  refine jr_aload_n dX1_init_4 rfl rfl ?_
  refine jr_iload_n dX1_init_5 rfl rfl ?_
  refine jr_putI fl_RX1_7 (fun z => by cases z) dX1_init_6 H (fun h1 H => ?_)
  exact jr_vret rfl dX1_init_9 H
set_option maxRecDepth 100000 in
set_option maxHeartbeats 4000000 in
theorem s_X10_years_L74 (l : Launch) (d : Nat) (F : Nat) (x0 : Nat) (x2 : Int32) (x3 : Nat) (x4 : Int32) (k124 : Int32 → Int32 → jH → Option (Int32 × jH)) {rR : Int32} {hf : jH} (hk124 : ∀ (y5 : Int32) (y6 : Int32) (h : jH), k124 y5 y6 h = some (rR, hf) → jGo l (d + 5) none RX10 cX10_years 9 (some .int) false 124 [some (.ref x0), none, none, none, some (.int x4), some (.int y5), some (.int y6), none, none] [] h (some (.int rR)) hf) : ∀ (n : Nat) (x5 : Int32) (x6 : Int32) (x7 : Int32) (h : jH), f_X10_years_L74 F x0 x2 x3 x4 k124 n x5 x6 x7 h = some (rR, hf) → jGo l (d + 5) none RX10 cX10_years 9 (some .int) false 74 [some (.ref x0), none, some (.int x2), some (.ref x3), some (.int x4), some (.int x5), some (.int x6), some (.int x7), none] [] h (some (.int rR)) hf := by
  intro n
  induction n with
  | zero =>
    intro x5 x6 x7 h H
    cases H
  | succ n ih =>
    intro x5 x6 x7 h H
    unfold f_X10_years_L74 at H
    refine jr_iload dX10_years_74 rfl ?_
    refine jr_iload_n dX10_years_76 rfl rfl ?_
    refine jr_icmp_ge (tgt := 124) dX10_years_77 (by decide) H (fun H => ?_) (fun H => ?_)
    · refine jr_fgt 2 ?_
      refine jr_fgt 3 ?_
      refine jr_fgt 7 ?_
      exact hk124 _ _ _ H
    · refine jr_aload_n dX10_years_80 rfl rfl ?_
      refine jr_aload_n dX10_years_81 rfl rfl ?_
      obtain ⟨v15, h14, Hc, H⟩ := j_b2_some H
      refine jr_callV (ci := 10) [.ref x3] my_X10_drawnAct mv_X10_drawnAct ml_RX10_348 dX10_years_82 rfl rfl (Nat.le_of_ble_eq_true rfl) rfl (c_X10_drawnAct l d F x0 x3 h v15 h14 Hc) ?_
      refine jr_istore dX10_years_85 (by decide) rfl (Or.inl rfl) ?_
      refine jr_iload dX10_years_87 rfl ?_
      refine jr_jn (fun J => ∀ (z16 : Int32) (z17 : Int32) (h18 : jH), J z16 z17 h18 = some (rR, hf) → jGo l (d + 5) none RX10 cX10_years 9 (some .int) false 105 [some (.ref x0), none, some (.int x2), some (.ref x3), some (.int x4), some (.int z16), some (.int z17), some (.int x7), none] [] h18 (some (.int rR)) hf) H (fun z16 z17 h18 H => ?_) (fun J105 hJ105 H => ?_)
      · refine jr_aload_n dX10_years_105 rfl rfl ?_
        refine jr_getR fl_RX10_40 dX10_years_106 H (fun v19 H => ?_)
        refine jr_dup dX10_years_109 rfl ?_
        refine jr_getI fl_RX10_206 (by decide) dX10_years_110 H (fun v20 H => ?_)
        refine jr_iconst (v := 1) dX10_years_113 (by decide) ?_
        refine jr_iadd dX10_years_114 ?_
        refine jr_putI fl_RX10_206 (fun z => by cases z) dX10_years_115 H (fun h21 H => ?_)
        refine jr_iinc (v := (x7 + 1)) dX10_years_118 rfl rfl (by decide) rfl (Or.inl rfl) ?_
        refine jr_goto (tgt := 74) dX10_years_121 (by decide) ?_
        exact ih _ _ _ _ H
      · refine jr_if_ge (tgt := 98) dX10_years_89 (by decide) H (fun H => ?_) (fun H => ?_)
        · refine jr_iload dX10_years_98 rfl ?_
          refine jr_iload dX10_years_100 rfl ?_
          refine jr_iadd dX10_years_102 ?_
          refine jr_istore dX10_years_103 (by decide) rfl (Or.inl rfl) ?_
          refine jr_fgt 8 ?_
          exact hJ105 _ _ _ H
        · refine jr_iinc (v := (x6 + 1)) dX10_years_92 rfl rfl (by decide) rfl (Or.inl rfl) ?_
          refine jr_goto (tgt := 105) dX10_years_95 (by decide) ?_
          refine jr_fgt 8 ?_
          exact hJ105 _ _ _ H
set_option maxRecDepth 100000 in
set_option maxHeartbeats 4000000 in
theorem c_X10_years (l : Launch) (d : Nat) (F : Nat) (a0 : Nat) (a1 : Int32) (a2 : Int32) (h : jH) (rR : Int32) (hf : jH) (H : f_X10_years F a0 a1 a2 h = some (rR, hf)) : jh_sh h a0 = (10, 0) ∧ jMet l (d + 5) yX10_years cX10_years 9 (some .int) [.ref a0, .int a1, .int a2] h (some (.int rR)) hf := by
  unfold f_X10_years at H
  obtain ⟨hsh, H⟩ := j_gd_some H
  refine ⟨hsh, ?_⟩
  refine jMet.of false [some (.ref a0), some (.int a1), some (.int a2), none, none, none, none, none, none] rfl (by decide) (by decide) (Nat.le_of_ble_eq_true rfl) (fun S0 q hq => by simpa [j_l, lv_args, j_v, Value.category] using hq) ?_
  refine jr_aload_n dX10_years_0 rfl rfl ?_
  refine jr_getI fl_RX10_103 (by decide) dX10_years_1 H (fun v1 H => ?_)
  refine jr_if_eq (tgt := 17) dX10_years_4 (by decide) H (fun H => ?_) (fun H => ?_)
  · refine jr_bipush (v := (-2)) dX10_years_17 (by decide) ?_
    exact jr_iret rfl dX10_years_19 H
  · refine jr_aload_n dX10_years_7 rfl rfl ?_
    refine jr_getR fl_RX10_26 dX10_years_8 H (fun v2 H => ?_)
    refine jr_getI fl_RX10_127 (by decide) dX10_years_11 H (fun v3 H => ?_)
    refine jr_if_ne (tgt := 20) dX10_years_14 (by decide) H (fun H => ?_) (fun H => ?_)
    · refine jr_bipush (v := (-2)) dX10_years_17 (by decide) ?_
      exact jr_iret rfl dX10_years_19 H
    · refine jr_iload_n dX10_years_20 rfl rfl ?_
      refine jr_iconst (v := 1) dX10_years_21 (by decide) ?_
      refine jr_icmp_lt (tgt := 31) dX10_years_22 (by decide) H (fun H => ?_) (fun H => ?_)
      · refine jr_iconst (v := (-1)) dX10_years_31 (by decide) ?_
        exact jr_iret rfl dX10_years_32 H
      · refine jr_iload_n dX10_years_25 rfl rfl ?_
        refine jr_bipush (v := 60) dX10_years_26 (by decide) ?_
        refine jr_icmp_le (tgt := 33) dX10_years_28 (by decide) H (fun H => ?_) (fun H => ?_)
        · refine jr_aload_n dX10_years_33 rfl rfl ?_
          refine jr_getR fl_RX10_47 dX10_years_34 H (fun v4 H => ?_)
          refine jr_aload_n dX10_years_37 rfl rfl ?_
          refine jr_getR fl_RX10_40 dX10_years_38 H (fun v5 H => ?_)
          obtain ⟨h6, Hc, H⟩ := Option.bind_eq_some_iff.mp H
          refine jr_callV (ci := 4) [.ref v5] my_X4_mark mv_X4_mark ml_RX10_223 dX10_years_41 rfl rfl (Nat.le_of_ble_eq_true rfl) rfl (c_X4_mark l (d + 2) F v4 v5 h h6 Hc) ?_
          refine jr_new nw_RX10_344 dX10_years_44 H (fun a7 h8 H => ?_)
          refine jr_dup dX10_years_47 rfl ?_
          refine jr_iload_n dX10_years_48 rfl rfl ?_
          obtain ⟨h9, Hc, H⟩ := Option.bind_eq_some_iff.mp H
          refine jr_callI [.int a1] my_X1_init mi_X1_init ml_RX10_346 dX10_years_49 rfl rfl (Nat.le_of_ble_eq_true rfl) (c_X1_init l (d + 3) F a7 a1 h8 h9 Hc) ?_
          refine jr_astore_n dX10_years_52 rfl (by decide) rfl (Or.inl rfl) ?_
          refine jr_aload_n dX10_years_53 rfl rfl ?_
          refine jr_getR fl_RX10_40 dX10_years_54 H (fun v10 H => ?_)
          refine jr_getI fl_RX10_174 (by decide) dX10_years_57 H (fun v11 H => ?_)
          obtain ⟨v13, h12, Hc, H⟩ := j_b2_some H
          refine jr_callS [.int v11] my_J6_bitCount_0f7a4 ms_J6_bitCount_0f7a4 ml_RX10_308 dX10_years_60 rfl rfl (Nat.le_of_ble_eq_true rfl) (c_J6_bitCount_0f7a4 l (d + 4) F v11 h9 v13 h12 Hc) ?_
          refine jr_istore dX10_years_63 (by decide) rfl (Or.inl rfl) ?_
          refine jr_iconst (v := 0) dX10_years_65 (by decide) ?_
          refine jr_istore dX10_years_66 (by decide) rfl (Or.inl rfl) ?_
          refine jr_iconst (v := 0) dX10_years_68 (by decide) ?_
          refine jr_istore dX10_years_69 (by decide) rfl (Or.inl rfl) ?_
          refine jr_iconst (v := 0) dX10_years_71 (by decide) ?_
          refine jr_istore dX10_years_72 (by decide) rfl (Or.inl rfl) ?_
          refine jr_fgt 1 ?_
          refine s_X10_years_L74 l d F a0 a2 a7 v13 _ (fun y22 y23 h24 H => ?_) F 0 0 0 h12 H
          · refine jr_aload_n dX10_years_124 rfl rfl ?_
            refine jr_getR fl_RX10_40 dX10_years_125 H (fun v25 H => ?_)
            refine jr_getI fl_RX10_174 (by decide) dX10_years_128 H (fun v26 H => ?_)
            obtain ⟨v28, h27, Hc, H⟩ := j_b2_some H
            refine jr_callS [.int v26] my_J6_bitCount_0f7a4 ms_J6_bitCount_0f7a4 ml_RX10_308 dX10_years_131 rfl rfl (Nat.le_of_ble_eq_true rfl) (c_J6_bitCount_0f7a4 l (d + 4) F v26 h24 v28 h27 Hc) ?_
            refine jr_iload dX10_years_134 rfl ?_
            refine jr_isub dX10_years_136 ?_
            refine jr_istore dX10_years_137 (by decide) rfl (Or.inl rfl) ?_
            refine jr_aload_n dX10_years_139 rfl rfl ?_
            refine jr_getR fl_RX10_47 dX10_years_140 H (fun v29 H => ?_)
            refine jr_aload_n dX10_years_143 rfl rfl ?_
            refine jr_getR fl_RX10_40 dX10_years_144 H (fun v30 H => ?_)
            obtain ⟨h31, Hc, H⟩ := Option.bind_eq_some_iff.mp H
            refine jr_callV (ci := 4) [.ref v30] my_X4_backToMark mv_X4_backToMark ml_RX10_352 dX10_years_147 rfl rfl (Nat.le_of_ble_eq_true rfl) rfl (c_X4_backToMark l (d + 2) F v29 v30 h27 h31 Hc) ?_
            refine jr_aload_n dX10_years_150 rfl rfl ?_
            refine jr_getR fl_RX10_19 dX10_years_151 H (fun v32 H => ?_)
            refine jr_iload dX10_years_154 rfl ?_
            refine jr_i2l dX10_years_156 ?_
            refine jr_iload dX10_years_157 rfl ?_
            refine jr_i2l dX10_years_159 ?_
            obtain ⟨h33, Hc, H⟩ := Option.bind_eq_some_iff.mp H
            refine jr_callV (ci := 6) [.long (y22.toInt64), .long (y23.toInt64)] my_X6_tell_ mv_X6_tell_ ml_RX10_242 dX10_years_160 rfl rfl (Nat.le_of_ble_eq_true rfl) rfl (c_X6_tell_ l (d + 3) F v32 (y22.toInt64) (y23.toInt64) h31 h33 Hc) ?_
            refine jr_iload dX10_years_163 rfl ?_
            exact jr_iret rfl dX10_years_165 H
        · refine jr_iconst (v := (-1)) dX10_years_31 (by decide) ?_
          exact jr_iret rfl dX10_years_32 H
set_option maxRecDepth 100000 in
set_option maxHeartbeats 4000000 in
theorem c_X10_keep (l : Launch) (d : Nat) (F : Nat) (a0 : Nat) (a1 : Int32) (h : jH) (rR : Int32) (hf : jH) (H : f_X10_keep F a0 a1 h = some (rR, hf)) : jh_sh h a0 = (10, 0) ∧ jMet l (d + 2) yX10_keep cX10_keep 2 (some .boolean) [.ref a0, .int a1] h (some (.int rR)) hf := by
  unfold f_X10_keep at H
  obtain ⟨hsh, H⟩ := j_gd_some H
  refine ⟨hsh, ?_⟩
  refine jMet.of false [some (.ref a0), some (.int a1)] rfl (by decide) (by decide) (Nat.le_of_ble_eq_true rfl) (fun S0 q hq => by simpa [j_l, lv_args, j_v, Value.category] using hq) ?_
  refine jr_iload_n dX10_keep_0 rfl rfl ?_
  refine jr_if_lt (tgt := 9) dX10_keep_1 (by decide) H (fun H => ?_) (fun H => ?_)
  · refine jr_iconst (v := 0) dX10_keep_9 (by decide) ?_
    exact jr_zret rfl rfl dX10_keep_10 H
  · refine jr_iload_n dX10_keep_4 rfl rfl ?_
    refine jr_iconst (v := 2) dX10_keep_5 (by decide) ?_
    refine jr_icmp_lt (tgt := 11) dX10_keep_6 (by decide) H (fun H => ?_) (fun H => ?_)
    · refine jr_aload_n dX10_keep_11 rfl rfl ?_
      refine jr_getR fl_RX10_51 dX10_keep_12 H (fun v1 H => ?_)
      refine jr_iload_n dX10_keep_15 rfl rfl ?_
      refine jr_aald dX10_keep_16 H (fun v2 H => ?_)
      refine jr_aload_n dX10_keep_17 rfl rfl ?_
      refine jr_getR fl_RX10_40 dX10_keep_18 H (fun v3 H => ?_)
      obtain ⟨h4, Hc, H⟩ := Option.bind_eq_some_iff.mp H
      refine jr_callV (ci := 7) [.ref v3] my_X7_copy mv_X7_copy ml_RX10_355 dX10_keep_21 rfl rfl (Nat.le_of_ble_eq_true rfl) rfl (c_X7_copy l d F v2 v3 h h4 Hc) ?_
      refine jr_aload_n dX10_keep_24 rfl rfl ?_
      refine jr_getR fl_RX10_55 dX10_keep_25 H (fun v5 H => ?_)
      refine jr_iload_n dX10_keep_28 rfl rfl ?_
      refine jr_iconst (v := 1) dX10_keep_29 (by decide) ?_
      refine jr_zast rfl dX10_keep_30 H (fun h6 H => ?_)
      refine jr_iconst (v := 1) dX10_keep_31 (by decide) ?_
      exact jr_zret rfl rfl dX10_keep_32 H
    · refine jr_iconst (v := 0) dX10_keep_9 (by decide) ?_
      exact jr_zret rfl rfl dX10_keep_10 H
set_option maxRecDepth 100000 in
set_option maxHeartbeats 4000000 in
theorem c_X10_again (l : Launch) (d : Nat) (F : Nat) (a0 : Nat) (a1 : Int32) (h : jH) (rR : Int32) (hf : jH) (H : f_X10_again F a0 a1 h = some (rR, hf)) : jh_sh h a0 = (10, 0) ∧ jMet l (d + 2) yX10_again cX10_again 2 (some .boolean) [.ref a0, .int a1] h (some (.int rR)) hf := by
  unfold f_X10_again at H
  obtain ⟨hsh, H⟩ := j_gd_some H
  refine ⟨hsh, ?_⟩
  refine jMet.of false [some (.ref a0), some (.int a1)] rfl (by decide) (by decide) (Nat.le_of_ble_eq_true rfl) (fun S0 q hq => by simpa [j_l, lv_args, j_v, Value.category] using hq) ?_
  refine jr_iload_n dX10_again_0 rfl rfl ?_
  refine jr_if_lt (tgt := 18) dX10_again_1 (by decide) H (fun H => ?_) (fun H => ?_)
  · refine jr_iconst (v := 0) dX10_again_18 (by decide) ?_
    exact jr_zret rfl rfl dX10_again_19 H
  · refine jr_iload_n dX10_again_4 rfl rfl ?_
    refine jr_iconst (v := 2) dX10_again_5 (by decide) ?_
    refine jr_icmp_ge (tgt := 18) dX10_again_6 (by decide) H (fun H => ?_) (fun H => ?_)
    · refine jr_iconst (v := 0) dX10_again_18 (by decide) ?_
      exact jr_zret rfl rfl dX10_again_19 H
    · refine jr_aload_n dX10_again_9 rfl rfl ?_
      refine jr_getR fl_RX10_55 dX10_again_10 H (fun v1 H => ?_)
      refine jr_iload_n dX10_again_13 rfl rfl ?_
      refine jr_zald dX10_again_14 H (fun v2 H => ?_)
      refine jr_if_ne (tgt := 20) dX10_again_15 (by decide) H (fun H => ?_) (fun H => ?_)
      · refine jr_iconst (v := 0) dX10_again_18 (by decide) ?_
        exact jr_zret rfl rfl dX10_again_19 H
      · refine jr_aload_n dX10_again_20 rfl rfl ?_
        refine jr_getR fl_RX10_40 dX10_again_21 H (fun v3 H => ?_)
        refine jr_aload_n dX10_again_24 rfl rfl ?_
        refine jr_getR fl_RX10_51 dX10_again_25 H (fun v4 H => ?_)
        refine jr_iload_n dX10_again_28 rfl rfl ?_
        refine jr_aald dX10_again_29 H (fun v5 H => ?_)
        obtain ⟨h6, Hc, H⟩ := Option.bind_eq_some_iff.mp H
        refine jr_callV (ci := 7) [.ref v5] my_X7_copy mv_X7_copy ml_RX10_355 dX10_again_30 rfl rfl (Nat.le_of_ble_eq_true rfl) rfl (c_X7_copy l d F v3 v5 h h6 Hc) ?_
        refine jr_aload_n dX10_again_33 rfl rfl ?_
        refine jr_getR fl_RX10_47 dX10_again_34 H (fun v7 H => ?_)
        refine jr_iconst (v := 0) dX10_again_37 (by decide) ?_
        refine jr_putI fl_RX10_249 (fun z => by cases z) dX10_again_38 H (fun h8 H => ?_)
        refine jr_iconst (v := 1) dX10_again_41 (by decide) ?_
        exact jr_zret rfl rfl dX10_again_42 H
set_option maxRecDepth 100000 in
set_option maxHeartbeats 4000000 in
theorem s_X3_compounds_L4 (l : Launch) (d : Nat) (F : Nat) (x0 : Nat) {rR : Int32} {hf : jH} : ∀ (n : Nat) (x1 : Int32) (x2 : Int32) (h : jH), f_X3_compounds_L4 F x0 n x1 x2 h = some (rR, hf) → jGo l (d + 1) none RX3 cX3_compounds 3 (some .int) false 4 [some (.ref x0), some (.int x1), some (.int x2)] [] h (some (.int rR)) hf := by
  intro n
  induction n with
  | zero =>
    intro x1 x2 h H
    cases H
  | succ n ih =>
    intro x1 x2 h H
    unfold f_X3_compounds_L4 at H
    refine jr_iload_n dX3_compounds_4 rfl rfl ?_
    refine jr_aload_n dX3_compounds_5 rfl rfl ?_
    refine jr_getI fl_RX3_58 (by decide) dX3_compounds_6 H (fun v1 H => ?_)
    refine jr_icmp_ge (tgt := 32) dX3_compounds_9 (by decide) H (fun H => ?_) (fun H => ?_)
    · refine jr_iload_n dX3_compounds_32 rfl rfl ?_
      exact jr_iret rfl dX3_compounds_33 H
    · refine jr_aload_n dX3_compounds_12 rfl rfl ?_
      refine jr_iload_n dX3_compounds_13 rfl rfl ?_
      obtain ⟨v3, h2, Hc, H⟩ := j_b2_some H
      refine jr_callV (ci := 3) [.int x2] my_X3_isCompound mv_X3_isCompound ml_RX3_54 dX3_compounds_14 rfl rfl (Nat.le_of_ble_eq_true rfl) rfl (c_X3_isCompound l d F x0 x2 h v3 h2 Hc) ?_
      refine jr_jn (fun J => ∀ (z4 : Int32) (h5 : jH), J z4 h5 = some (rR, hf) → jGo l (d + 1) none RX3 cX3_compounds 3 (some .int) false 26 [some (.ref x0), some (.int z4), some (.int x2)] [] h5 (some (.int rR)) hf) H (fun z4 h5 H => ?_) (fun J26 hJ26 H => ?_)
      · refine jr_iinc (v := (x2 + 1)) dX3_compounds_26 rfl rfl (by decide) rfl (Or.inl rfl) ?_
        refine jr_goto (tgt := 4) dX3_compounds_29 (by decide) ?_
        exact ih _ _ _ H
      · refine jr_if_eq (tgt := 26) dX3_compounds_17 (by decide) H (fun H => ?_) (fun H => ?_)
        · exact hJ26 _ _ H
        · refine jr_iload_n dX3_compounds_20 rfl rfl ?_
          refine jr_iconst (v := 1) dX3_compounds_21 (by decide) ?_
          refine jr_iload_n dX3_compounds_22 rfl rfl ?_
          refine jr_ishl dX3_compounds_23 ?_
          refine jr_ior dX3_compounds_24 ?_
          refine jr_istore_n dX3_compounds_25 rfl (by decide) rfl (Or.inl rfl) ?_
          exact hJ26 _ _ H
set_option maxRecDepth 100000 in
set_option maxHeartbeats 4000000 in
theorem c_X3_compounds (l : Launch) (d : Nat) (F : Nat) (a0 : Nat) (h : jH) (rR : Int32) (hf : jH) (H : f_X3_compounds F a0 h = some (rR, hf)) : jh_sh h a0 = (3, 0) ∧ jMet l (d + 1) yX3_compounds cX3_compounds 3 (some .int) [.ref a0] h (some (.int rR)) hf := by
  unfold f_X3_compounds at H
  obtain ⟨hsh, H⟩ := j_gd_some H
  refine ⟨hsh, ?_⟩
  refine jMet.of false [some (.ref a0), none, none] rfl (by decide) (by decide) (Nat.le_of_ble_eq_true rfl) (fun S0 q hq => by simpa [j_l, lv_args, j_v, Value.category] using hq) ?_
  refine jr_iconst (v := 0) dX3_compounds_0 (by decide) ?_
  refine jr_istore_n dX3_compounds_1 rfl (by decide) rfl (Or.inl rfl) ?_
  refine jr_iconst (v := 0) dX3_compounds_2 (by decide) ?_
  refine jr_istore_n dX3_compounds_3 rfl (by decide) rfl (Or.inl rfl) ?_
  exact s_X3_compounds_L4 l d F a0 F 0 0 h H
set_option maxRecDepth 100000 in
set_option maxHeartbeats 4000000 in
theorem s_X7_vowelsInBooks_L4 (l : Launch) (d : Nat) (F : Nat) (x0 : Nat) {rR : Int32} {hf : jH} : ∀ (n : Nat) (x1 : Int32) (x2 : Int32) (h : jH), f_X7_vowelsInBooks_L4 F x0 n x1 x2 h = some (rR, hf) → jGo l (d + 0) none RX7 cX7_vowelsInBooks 3 (some .int) false 4 [some (.ref x0), some (.int x1), some (.int x2)] [] h (some (.int rR)) hf := by
  intro n
  induction n with
  | zero =>
    intro x1 x2 h H
    cases H
  | succ n ih =>
    intro x1 x2 h H
    unfold f_X7_vowelsInBooks_L4 at H
    refine jr_iload_n dX7_vowelsInBooks_4 rfl rfl ?_
    refine jr_bipush (v := 30) dX7_vowelsInBooks_5 (by decide) ?_
    refine jr_icmp_ge (tgt := 25) dX7_vowelsInBooks_7 (by decide) H (fun H => ?_) (fun H => ?_)
    · refine jr_iload_n dX7_vowelsInBooks_25 rfl rfl ?_
      exact jr_iret rfl dX7_vowelsInBooks_26 H
    · refine jr_iload_n dX7_vowelsInBooks_10 rfl rfl ?_
      refine jr_aload_n dX7_vowelsInBooks_11 rfl rfl ?_
      refine jr_getR fl_RX7_21 dX7_vowelsInBooks_12 H (fun v1 H => ?_)
      refine jr_iload_n dX7_vowelsInBooks_15 rfl rfl ?_
      refine jr_iald dX7_vowelsInBooks_16 H (fun v2 H => ?_)
      refine jr_iadd dX7_vowelsInBooks_17 ?_
      refine jr_istore_n dX7_vowelsInBooks_18 rfl (by decide) rfl (Or.inl rfl) ?_
      refine jr_iinc (v := (x2 + 1)) dX7_vowelsInBooks_19 rfl rfl (by decide) rfl (Or.inl rfl) ?_
      refine jr_goto (tgt := 4) dX7_vowelsInBooks_22 (by decide) ?_
      exact ih _ _ _ H
set_option maxRecDepth 100000 in
set_option maxHeartbeats 4000000 in
theorem c_X7_vowelsInBooks (l : Launch) (d : Nat) (F : Nat) (a0 : Nat) (h : jH) (rR : Int32) (hf : jH) (H : f_X7_vowelsInBooks F a0 h = some (rR, hf)) : jh_sh h a0 = (7, 0) ∧ jMet l (d + 0) yX7_vowelsInBooks cX7_vowelsInBooks 3 (some .int) [.ref a0] h (some (.int rR)) hf := by
  unfold f_X7_vowelsInBooks at H
  obtain ⟨hsh, H⟩ := j_gd_some H
  refine ⟨hsh, ?_⟩
  refine jMet.of false [some (.ref a0), none, none] rfl (by decide) (by decide) (Nat.le_of_ble_eq_true rfl) (fun S0 q hq => by simpa [j_l, lv_args, j_v, Value.category] using hq) ?_
  refine jr_iconst (v := 0) dX7_vowelsInBooks_0 (by decide) ?_
  refine jr_istore_n dX7_vowelsInBooks_1 rfl (by decide) rfl (Or.inl rfl) ?_
  refine jr_iconst (v := 0) dX7_vowelsInBooks_2 (by decide) ?_
  refine jr_istore_n dX7_vowelsInBooks_3 rfl (by decide) rfl (Or.inl rfl) ?_
  exact s_X7_vowelsInBooks_L4 l d F a0 F 0 0 h H
set_option maxRecDepth 100000 in
set_option maxHeartbeats 4000000 in
theorem c_X10_count (l : Launch) (d : Nat) (F : Nat) (a0 : Nat) (a1 : Int32) (h : jH) (rR : Int32) (hf : jH) (H : f_X10_count F a0 a1 h = some (rR, hf)) : jh_sh h a0 = (10, 0) ∧ jMet l (d + 2) yX10_count cX10_count 2 (some .int) [.ref a0, .int a1] h (some (.int rR)) hf := by
  unfold f_X10_count at H
  obtain ⟨hsh, H⟩ := j_gd_some H
  refine ⟨hsh, ?_⟩
  refine jMet.of false [some (.ref a0), some (.int a1)] rfl (by decide) (by decide) (Nat.le_of_ble_eq_true rfl) (fun S0 q hq => by simpa [j_l, lv_args, j_v, Value.category] using hq) ?_
  refine jr_iload_n dX10_count_0 rfl rfl ?_
  by_cases q0 : a1 = 0
  · rw [if_pos q0] at H
    refine jr_table (tgt := 64) dX10_count_1 (63) (by rw [q0]; decide) (by decide) (by decide) (by decide) ?_
    refine jr_aload_n dX10_count_64 rfl rfl ?_
    refine jr_getI fl_RX10_99 (by decide) dX10_count_65 H (fun v1 H => ?_)
    exact jr_iret rfl dX10_count_68 H
  rw [if_neg q0] at H
  by_cases q1 : a1 = 1
  · rw [if_pos q1] at H
    refine jr_table (tgt := 69) dX10_count_1 (68) (by rw [q1]; decide) (by decide) (by decide) (by decide) ?_
    refine jr_aload_n dX10_count_69 rfl rfl ?_
    refine jr_getR fl_RX10_26 dX10_count_70 H (fun v2 H => ?_)
    refine jr_getI fl_RX10_127 (by decide) dX10_count_73 H (fun v3 H => ?_)
    exact jr_iret rfl dX10_count_76 H
  rw [if_neg q1] at H
  by_cases q2 : a1 = 2
  · rw [if_pos q2] at H
    refine jr_table (tgt := 77) dX10_count_1 (76) (by rw [q2]; decide) (by decide) (by decide) (by decide) ?_
    refine jr_aload_n dX10_count_77 rfl rfl ?_
    refine jr_getI fl_RX10_103 (by decide) dX10_count_78 H (fun v4 H => ?_)
    exact jr_iret rfl dX10_count_81 H
  rw [if_neg q2] at H
  by_cases q3 : a1 = 3
  · rw [if_pos q3] at H
    refine jr_table (tgt := 82) dX10_count_1 (81) (by rw [q3]; decide) (by decide) (by decide) (by decide) ?_
    refine jr_aload_n dX10_count_82 rfl rfl ?_
    refine jr_getR fl_RX10_33 dX10_count_83 H (fun v5 H => ?_)
    refine jr_getI fl_RX10_132 (by decide) dX10_count_86 H (fun v6 H => ?_)
    exact jr_iret rfl dX10_count_89 H
  rw [if_neg q3] at H
  by_cases q4 : a1 = 4
  · rw [if_pos q4] at H
    refine jr_table (tgt := 90) dX10_count_1 (89) (by rw [q4]; decide) (by decide) (by decide) (by decide) ?_
    refine jr_aload_n dX10_count_90 rfl rfl ?_
    refine jr_getR fl_RX10_40 dX10_count_91 H (fun v7 H => ?_)
    refine jr_getI fl_RX10_206 (by decide) dX10_count_94 H (fun v8 H => ?_)
    exact jr_iret rfl dX10_count_97 H
  rw [if_neg q4] at H
  by_cases q5 : a1 = 5
  · rw [if_pos q5] at H
    refine jr_table (tgt := 98) dX10_count_1 (97) (by rw [q5]; decide) (by decide) (by decide) (by decide) ?_
    refine jr_aload_n dX10_count_98 rfl rfl ?_
    refine jr_getR fl_RX10_40 dX10_count_99 H (fun v9 H => ?_)
    refine jr_getI fl_RX10_174 (by decide) dX10_count_102 H (fun v10 H => ?_)
    exact jr_iret rfl dX10_count_105 H
  rw [if_neg q5] at H
  by_cases q6 : a1 = 6
  · rw [if_pos q6] at H
    refine jr_table (tgt := 106) dX10_count_1 (105) (by rw [q6]; decide) (by decide) (by decide) (by decide) ?_
    refine jr_aload_n dX10_count_106 rfl rfl ?_
    refine jr_getR fl_RX10_40 dX10_count_107 H (fun v11 H => ?_)
    obtain ⟨v13, h12, Hc, H⟩ := j_b2_some H
    refine jr_callV (ci := 7) [] my_X7_vowelsInBooks mv_X7_vowelsInBooks ml_RX10_358 dX10_count_110 rfl rfl (Nat.le_of_ble_eq_true rfl) rfl (c_X7_vowelsInBooks l (d + 1) F v11 h v13 h12 Hc) ?_
    exact jr_iret rfl dX10_count_113 H
  rw [if_neg q6] at H
  by_cases q7 : a1 = 7
  · rw [if_pos q7] at H
    refine jr_table (tgt := 114) dX10_count_1 (113) (by rw [q7]; decide) (by decide) (by decide) (by decide) ?_
    refine jr_aload_n dX10_count_114 rfl rfl ?_
    obtain ⟨v15, h14, Hc, H⟩ := j_b2_some H
    refine jr_callV (ci := 10) [] my_X10_pursesInAll mv_X10_pursesInAll ml_RX10_203 dX10_count_115 rfl rfl (Nat.le_of_ble_eq_true rfl) rfl (c_X10_pursesInAll l (d + 1) F a0 h v15 h14 Hc) ?_
    exact jr_iret rfl dX10_count_118 H
  rw [if_neg q7] at H
  by_cases q8 : a1 = 8
  · rw [if_pos q8] at H
    refine jr_table (tgt := 119) dX10_count_1 (118) (by rw [q8]; decide) (by decide) (by decide) (by decide) ?_
    refine jr_aload_n dX10_count_119 rfl rfl ?_
    refine jr_getR fl_RX10_26 dX10_count_120 H (fun v16 H => ?_)
    obtain ⟨v18, h17, Hc, H⟩ := j_b2_some H
    refine jr_callV (ci := 3) [] my_X3_compounds mv_X3_compounds ml_RX10_361 dX10_count_123 rfl rfl (Nat.le_of_ble_eq_true rfl) rfl (c_X3_compounds l d F v16 h v18 h17 Hc) ?_
    exact jr_iret rfl dX10_count_126 H
  rw [if_neg q8] at H
  by_cases q9 : a1 = 9
  · rw [if_pos q9] at H
    refine jr_table (tgt := 127) dX10_count_1 (126) (by rw [q9]; decide) (by decide) (by decide) (by decide) ?_
    refine jr_aload_n dX10_count_127 rfl rfl ?_
    refine jr_getR fl_RX10_47 dX10_count_128 H (fun v19 H => ?_)
    refine jr_getI fl_RX10_249 (by decide) dX10_count_131 H (fun v20 H => ?_)
    exact jr_iret rfl dX10_count_134 H
  rw [if_neg q9] at H
  by_cases q10 : a1 = 10
  · rw [if_pos q10] at H
    refine jr_table (tgt := 135) dX10_count_1 (134) (by rw [q10]; decide) (by decide) (by decide) (by decide) ?_
    refine jr_aload_n dX10_count_135 rfl rfl ?_
    refine jr_getR fl_RX10_19 dX10_count_136 H (fun v21 H => ?_)
    refine jr_getI fl_RX10_364 (by decide) dX10_count_139 H (fun v22 H => ?_)
    exact jr_iret rfl dX10_count_142 H
  rw [if_neg q10] at H
  by_cases q11 : a1 = 11
  · rw [if_pos q11] at H
    refine jr_table (tgt := 143) dX10_count_1 (142) (by rw [q11]; decide) (by decide) (by decide) (by decide) ?_
    refine jr_aload_n dX10_count_143 rfl rfl ?_
    refine jr_getR fl_RX10_10 dX10_count_144 H (fun v23 H => ?_)
    refine jr_getI fl_RX10_113 (by decide) dX10_count_147 H (fun v24 H => ?_)
    exact jr_iret rfl dX10_count_150 H
  rw [if_neg q11] at H
  have hdef : (if a1.toInt < 0 ∨ 11 < a1.toInt then (150 : Int) else (#[63, 68, 76, 81, 89, 97, 105, 113, 118, 126, 134, 142] : Array Int).getD (a1.toInt - 0).toNat 150) = 150 := by
    have w0 := lv_neT q0 (show (0 : Int32).toInt = 0 from rfl)
    have w1 := lv_neT q1 (show (1 : Int32).toInt = 1 from rfl)
    have w2 := lv_neT q2 (show (2 : Int32).toInt = 2 from rfl)
    have w3 := lv_neT q3 (show (3 : Int32).toInt = 3 from rfl)
    have w4 := lv_neT q4 (show (4 : Int32).toInt = 4 from rfl)
    have w5 := lv_neT q5 (show (5 : Int32).toInt = 5 from rfl)
    have w6 := lv_neT q6 (show (6 : Int32).toInt = 6 from rfl)
    have w7 := lv_neT q7 (show (7 : Int32).toInt = 7 from rfl)
    have w8 := lv_neT q8 (show (8 : Int32).toInt = 8 from rfl)
    have w9 := lv_neT q9 (show (9 : Int32).toInt = 9 from rfl)
    have w10 := lv_neT q10 (show (10 : Int32).toInt = 10 from rfl)
    have w11 := lv_neT q11 (show (11 : Int32).toInt = 11 from rfl)
    by_cases hx : a1.toInt < 0 ∨ 11 < a1.toInt
    · rw [if_pos hx]
    · rw [if_neg hx]
      omega
  refine jr_table (tgt := 151) dX10_count_1 (150) hdef (by decide) (by decide) (by decide) ?_
  refine jr_iconst (v := (-1)) dX10_count_151 (by decide) ?_
  exact jr_iret rfl dX10_count_152 H
set_option maxRecDepth 100000 in
set_option maxHeartbeats 4000000 in
theorem c_X10_row (l : Launch) (d : Nat) (F : Nat) (a0 : Nat) (a1 : Int32) (h : jH) (rR : Int64) (hf : jH) (H : f_X10_row F a0 a1 h = some (some rR, hf)) : jh_sh h a0 = (10, 0) ∧ jMet l (d + 6) yX10_row cX10_row 2 (some .long) [.ref a0, .int a1] h (some (.long rR)) hf := by
  unfold f_X10_row at H
  obtain ⟨hsh, H⟩ := j_gd_some H
  refine ⟨hsh, ?_⟩
  refine jMet.of false [some (.ref a0), some (.int a1)] rfl (by decide) (by decide) (Nat.le_of_ble_eq_true rfl) (fun S0 q hq => by simpa [j_l, lv_args, j_v, Value.category] using hq) ?_
  refine jr_iload_n dX10_row_0 rfl rfl ?_
  refine jr_jn (fun J => ∀ (h1 : jH), J h1 = some (some rR, hf) → jGo l (d + 6) none RX10 cX10_row 2 (some .long) false 15 [none, none] [] h1 (some (.long rR)) hf) H (fun h1 H => ?_) (fun J15 hJ15 H => ?_)
  · cases H
  · refine jr_if_lt (tgt := 15) dX10_row_1 (by decide) H (fun H => ?_) (fun H => ?_)
    · refine jr_fgt 0 ?_
      refine jr_fgt 1 ?_
      exact hJ15 _ H
    · refine jr_iload_n dX10_row_4 rfl rfl ?_
      refine jr_aload_n dX10_row_5 rfl rfl ?_
      refine jr_getR fl_RX10_19 dX10_row_6 H (fun v2 H => ?_)
      refine jr_getI fl_RX10_364 (by decide) dX10_row_9 H (fun v3 H => ?_)
      refine jr_icmp_lt (tgt := 23) dX10_row_12 (by decide) H (fun H => ?_) (fun H => ?_)
      · refine jr_aload_n dX10_row_23 rfl rfl ?_
        refine jr_getR fl_RX10_19 dX10_row_24 H (fun v4 H => ?_)
        refine jr_getR fl_RX10_365 dX10_row_27 H (fun v5 H => ?_)
        refine jr_iload_n dX10_row_30 rfl rfl ?_
        refine jr_lald dX10_row_31 H (fun v6 H => ?_)
        exact jr_lret rfl dX10_row_32 (by cases H; rfl)
      · refine jr_fgt 0 ?_
        refine jr_fgt 1 ?_
        exact hJ15 _ H
set_option maxRecDepth 100000 in
set_option maxHeartbeats 4000000 in
theorem ct_X10_row (l : Launch) (d : Nat) (hlt : l.stackTraces = false) (F : Nat) (a0 : Nat) (a1 : Int32) (h : jH) (hf : jH) (H : f_X10_row F a0 a1 h = some ((none : Option Int64), hf)) : jh_sh h a0 = (10, 0) ∧ jMetX l (d + 6) yX10_row cX10_row 2 (some .long) [.ref a0, .int a1] h hf := by
  unfold f_X10_row at H
  obtain ⟨hsh, H⟩ := j_gd_some H
  refine ⟨hsh, ?_⟩
  refine jMetX.of [some (.ref a0), some (.int a1)] (by decide) (Nat.le_of_ble_eq_true rfl) (fun S0 q hq => by simpa [j_l, lv_args, j_v, Value.category] using hq) ?_
  refine jr_iload_n dX10_row_0 rfl rfl ?_
  refine jr_jn (fun J => ∀ (h1 : jH), J h1 = some ((none : Option Int64), hf) → jGo l (d + 6) (some (.inl [])) RX10 cX10_row 2 (some .long) false 15 [none, none] [] h1 (some (.retAddr 0)) hf) H (fun h1 H => ?_) (fun J15 hJ15 H => ?_)
  · exact jr_throw0 hlt rfl tw_k tw_i tw_a tw_g dX10_row_15 dX10_row_18 dX10_row_19 dX10_row_22 (Nat.le_of_ble_eq_true rfl) H
  · refine jr_if_lt (tgt := 15) dX10_row_1 (by decide) H (fun H => ?_) (fun H => ?_)
    · refine jr_fgt 0 ?_
      refine jr_fgt 1 ?_
      exact hJ15 _ H
    · refine jr_iload_n dX10_row_4 rfl rfl ?_
      refine jr_aload_n dX10_row_5 rfl rfl ?_
      refine jr_getR fl_RX10_19 dX10_row_6 H (fun v2 H => ?_)
      refine jr_getI fl_RX10_364 (by decide) dX10_row_9 H (fun v3 H => ?_)
      refine jr_icmp_lt (tgt := 23) dX10_row_12 (by decide) H (fun H => ?_) (fun H => ?_)
      · refine jr_aload_n dX10_row_23 rfl rfl ?_
        refine jr_getR fl_RX10_19 dX10_row_24 H (fun v4 H => ?_)
        refine jr_getR fl_RX10_365 dX10_row_27 H (fun v5 H => ?_)
        refine jr_iload_n dX10_row_30 rfl rfl ?_
        refine jr_lald dX10_row_31 H (fun v6 H => ?_)
        cases H
      · refine jr_fgt 0 ?_
        refine jr_fgt 1 ?_
        exact hJ15 _ H
set_option maxRecDepth 100000 in
set_option maxHeartbeats 4000000 in
theorem c_X11_init (l : Launch) (d : Nat) (F : Nat) (a0 : Nat) (h : jH) (hf : jH) (H : f_X11_init F a0 h = some hf) : jMet l (d + 1) yX11_init cX11_init 1 none [.ref a0] h none hf := by
  unfold f_X11_init at H
  refine jMet.of true [some (.ref a0)] rfl (by decide) (by decide) (Nat.le_of_ble_eq_true rfl) (fun S0 q hq => by simpa [j_l, lv_args, j_v, Value.category] using hq) ?_
  refine jr_aload_n dX11_init_0 rfl rfl ?_
  refine jr_objInit ml_RX11_3 oi_i oi_c dX11_init_1 (Nat.le_of_ble_eq_true rfl) ?_
  refine jr_aload_n dX11_init_4 rfl rfl ?_
  refine jr_bipush (v := 44) dX11_init_5 (by decide) ?_
  refine jr_newI aw_I dX11_init_7 H (fun a1 h2 H => ?_)
  refine jr_putR fl_RX11_9 (fun _ => ⟨rfl, rfl⟩) dX11_init_9 H (fun h3 H => ?_)
  refine jr_aload_n dX11_init_12 rfl rfl ?_
  refine jr_iconst (v := 1) dX11_init_13 (by decide) ?_
  refine jr_putI fl_RX11_13 (fun z => by cases z) dX11_init_14 H (fun h4 H => ?_)
  refine jr_aload_n dX11_init_17 rfl rfl ?_
  refine jr_bipush (v := 60) dX11_init_18 (by decide) ?_
  refine jr_newB aw_B dX11_init_20 H (fun a5 h6 H => ?_)
  refine jr_putR fl_RX11_17 (fun _ => ⟨rfl, rfl⟩) dX11_init_22 H (fun h7 H => ?_)
  refine jr_aload_n dX11_init_25 rfl rfl ?_
  refine jr_bipush (v := 10) dX11_init_26 (by decide) ?_
  refine jr_newI aw_I dX11_init_28 H (fun a8 h9 H => ?_)
  refine jr_putR fl_RX11_21 (fun _ => ⟨rfl, rfl⟩) dX11_init_30 H (fun h10 H => ?_)
  refine jr_aload_n dX11_init_33 rfl rfl ?_
  refine jr_bipush (v := 20) dX11_init_34 (by decide) ?_
  refine jr_newI aw_I dX11_init_36 H (fun a11 h12 H => ?_)
  refine jr_putR fl_RX11_24 (fun _ => ⟨rfl, rfl⟩) dX11_init_38 H (fun h13 H => ?_)
  refine jr_aload_n dX11_init_41 rfl rfl ?_
  refine jr_bipush (v := 32) dX11_init_42 (by decide) ?_
  refine jr_newI aw_I dX11_init_44 H (fun a14 h15 H => ?_)
  refine jr_putR fl_RX11_27 (fun _ => ⟨rfl, rfl⟩) dX11_init_46 H (fun h16 H => ?_)
  refine jr_aload_n dX11_init_49 rfl rfl ?_
  refine jr_bipush (v := 80) dX11_init_50 (by decide) ?_
  refine jr_newB aw_B dX11_init_52 H (fun a17 h18 H => ?_)
  refine jr_putR fl_RX11_30 (fun _ => ⟨rfl, rfl⟩) dX11_init_54 H (fun h19 H => ?_)
  refine jr_aload_n dX11_init_57 rfl rfl ?_
  refine jr_bipush (v := 20) dX11_init_58 (by decide) ?_
  refine jr_newL aw_L dX11_init_60 H (fun a20 h21 H => ?_)
  refine jr_putR fl_RX11_33 (fun _ => ⟨rfl, rfl⟩) dX11_init_62 H (fun h22 H => ?_)
  refine jr_aload_n dX11_init_65 rfl rfl ?_
  refine jr_bipush (v := 60) dX11_init_66 (by decide) ?_
  refine jr_newB aw_B dX11_init_68 H (fun a23 h24 H => ?_)
  refine jr_putR fl_RX11_37 (fun _ => ⟨rfl, rfl⟩) dX11_init_70 H (fun h25 H => ?_)
  refine jr_aload_n dX11_init_73 rfl rfl ?_
  refine jr_bipush (v := 10) dX11_init_74 (by decide) ?_
  refine jr_newI aw_I dX11_init_76 H (fun a26 h27 H => ?_)
  refine jr_putR fl_RX11_40 (fun _ => ⟨rfl, rfl⟩) dX11_init_78 H (fun h28 H => ?_)
  refine jr_aload_n dX11_init_81 rfl rfl ?_
  refine jr_bipush (v := 40) dX11_init_82 (by decide) ?_
  refine jr_newI aw_I dX11_init_84 H (fun a29 h30 H => ?_)
  refine jr_putR fl_RX11_43 (fun _ => ⟨rfl, rfl⟩) dX11_init_86 H (fun h31 H => ?_)
  refine jr_aload_n dX11_init_89 rfl rfl ?_
  refine jr_bipush (v := 40) dX11_init_90 (by decide) ?_
  refine jr_newB aw_B dX11_init_92 H (fun a32 h33 H => ?_)
  refine jr_putR fl_RX11_46 (fun z => by cases z) dX11_init_94 H (fun h34 H => ?_)
  refine jr_aload_n dX11_init_97 rfl rfl ?_
  refine jr_bipush (v := 40) dX11_init_98 (by decide) ?_
  refine jr_newB aw_B dX11_init_100 H (fun a35 h36 H => ?_)
  refine jr_putR fl_RX11_49 (fun z => by cases z) dX11_init_102 H (fun h37 H => ?_)
  refine jr_aload_n dX11_init_105 rfl rfl ?_
  refine jr_bipush (v := 7) dX11_init_106 (by decide) ?_
  refine jr_newI aw_I dX11_init_108 H (fun a38 h39 H => ?_)
  refine jr_putR fl_RX11_52 (fun _ => ⟨rfl, rfl⟩) dX11_init_110 H (fun h40 H => ?_)
  refine jr_aload_n dX11_init_113 rfl rfl ?_
  refine jr_iconst (v := 5) dX11_init_114 (by decide) ?_
  refine jr_newI aw_I dX11_init_115 H (fun a41 h42 H => ?_)
  refine jr_putR fl_RX11_55 (fun _ => ⟨rfl, rfl⟩) dX11_init_117 H (fun h43 H => ?_)
  refine jr_aload_n dX11_init_120 rfl rfl ?_
  refine jr_sipush (v := 528) dX11_init_121 (by decide) ?_
  refine jr_newI aw_I dX11_init_124 H (fun a44 h45 H => ?_)
  refine jr_putR fl_RX11_58 (fun _ => ⟨rfl, rfl⟩) dX11_init_126 H (fun h46 H => ?_)
  refine jr_aload_n dX11_init_129 rfl rfl ?_
  refine jr_bipush (v := 44) dX11_init_130 (by decide) ?_
  refine jr_newI aw_I dX11_init_132 H (fun a47 h48 H => ?_)
  refine jr_putR fl_RX11_61 (fun _ => ⟨rfl, rfl⟩) dX11_init_134 H (fun h49 H => ?_)
  refine jr_aload_n dX11_init_137 rfl rfl ?_
  refine jr_sipush (v := 240) dX11_init_138 (by decide) ?_
  refine jr_newI aw_I dX11_init_141 H (fun a50 h51 H => ?_)
  refine jr_putR fl_RX11_64 (fun _ => ⟨rfl, rfl⟩) dX11_init_143 H (fun h52 H => ?_)
  refine jr_aload_n dX11_init_146 rfl rfl ?_
  refine jr_bipush (v := 13) dX11_init_147 (by decide) ?_
  refine jr_newI aw_I dX11_init_149 H (fun a53 h54 H => ?_)
  refine jr_putR fl_RX11_67 (fun _ => ⟨rfl, rfl⟩) dX11_init_151 H (fun h55 H => ?_)
  refine jr_aload_n dX11_init_154 rfl rfl ?_
  refine jr_bipush (v := 6) dX11_init_155 (by decide) ?_
  refine jr_newI aw_I dX11_init_157 H (fun a56 h57 H => ?_)
  refine jr_putR fl_RX11_70 (fun _ => ⟨rfl, rfl⟩) dX11_init_159 H (fun h58 H => ?_)
  refine jr_aload_n dX11_init_162 rfl rfl ?_
  refine jr_bipush (v := 6) dX11_init_163 (by decide) ?_
  refine jr_newI aw_I dX11_init_165 H (fun a59 h60 H => ?_)
  refine jr_putR fl_RX11_73 (fun _ => ⟨rfl, rfl⟩) dX11_init_167 H (fun h61 H => ?_)
  refine jr_aload_n dX11_init_170 rfl rfl ?_
  refine jr_bipush (v := 49) dX11_init_171 (by decide) ?_
  refine jr_newI aw_I dX11_init_173 H (fun a62 h63 H => ?_)
  refine jr_putR fl_RX11_76 (fun _ => ⟨rfl, rfl⟩) dX11_init_175 H (fun h64 H => ?_)
  refine jr_aload_n dX11_init_178 rfl rfl ?_
  refine jr_sipush (v := 1536) dX11_init_179 (by decide) ?_
  refine jr_newI aw_I dX11_init_182 H (fun a65 h66 H => ?_)
  refine jr_putR fl_RX11_79 (fun _ => ⟨rfl, rfl⟩) dX11_init_184 H (fun h67 H => ?_)
  refine jr_aload_n dX11_init_187 rfl rfl ?_
  refine jr_sipush (v := 1536) dX11_init_188 (by decide) ?_
  refine jr_newI aw_I dX11_init_191 H (fun a68 h69 H => ?_)
  refine jr_putR fl_RX11_82 (fun _ => ⟨rfl, rfl⟩) dX11_init_193 H (fun h70 H => ?_)
  refine jr_aload_n dX11_init_196 rfl rfl ?_
  refine jr_bipush (v := 10) dX11_init_197 (by decide) ?_
  refine jr_newI aw_I dX11_init_199 H (fun a71 h72 H => ?_)
  refine jr_putR fl_RX11_85 (fun _ => ⟨rfl, rfl⟩) dX11_init_201 H (fun h73 H => ?_)
  refine jr_aload_n dX11_init_204 rfl rfl ?_
  refine jr_iconst (v := 5) dX11_init_205 (by decide) ?_
  refine jr_newI aw_I dX11_init_206 H (fun a74 h75 H => ?_)
  refine jr_putR fl_RX11_88 (fun _ => ⟨rfl, rfl⟩) dX11_init_208 H (fun h76 H => ?_)
  refine jr_aload_n dX11_init_211 rfl rfl ?_
  refine jr_iconst (v := 4) dX11_init_212 (by decide) ?_
  refine jr_newI aw_I dX11_init_213 H (fun a77 h78 H => ?_)
  refine jr_putR fl_RX11_91 (fun _ => ⟨rfl, rfl⟩) dX11_init_215 H (fun h79 H => ?_)
  refine jr_aload_n dX11_init_218 rfl rfl ?_
  refine jr_iconst (v := 4) dX11_init_219 (by decide) ?_
  refine jr_newI aw_I dX11_init_220 H (fun a80 h81 H => ?_)
  refine jr_putR fl_RX11_94 (fun _ => ⟨rfl, rfl⟩) dX11_init_222 H (fun h82 H => ?_)
  refine jr_aload_n dX11_init_225 rfl rfl ?_
  refine jr_bipush (v := 44) dX11_init_226 (by decide) ?_
  refine jr_newI aw_I dX11_init_228 H (fun a83 h84 H => ?_)
  refine jr_putR fl_RX11_97 (fun _ => ⟨rfl, rfl⟩) dX11_init_230 H (fun h85 H => ?_)
  refine jr_aload_n dX11_init_233 rfl rfl ?_
  refine jr_bipush (v := 88) dX11_init_234 (by decide) ?_
  refine jr_newI aw_I dX11_init_236 H (fun a86 h87 H => ?_)
  refine jr_putR fl_RX11_100 (fun _ => ⟨rfl, rfl⟩) dX11_init_238 H (fun h88 H => ?_)
  refine jr_aload_n dX11_init_241 rfl rfl ?_
  refine jr_iconst (v := 2) dX11_init_242 (by decide) ?_
  refine jr_newZ aw_Z dX11_init_243 H (fun a89 h90 H => ?_)
  refine jr_putR fl_RX11_103 (fun _ => ⟨rfl, rfl⟩) dX11_init_245 H (fun h91 H => ?_)
  refine jr_aload_n dX11_init_248 rfl rfl ?_
  refine jr_iconst (v := 2) dX11_init_249 (by decide) ?_
  refine jr_newI aw_I dX11_init_250 H (fun a92 h93 H => ?_)
  refine jr_putR fl_RX11_107 (fun _ => ⟨rfl, rfl⟩) dX11_init_252 H (fun h94 H => ?_)
  exact jr_vret rfl dX11_init_255 H
set_option maxRecDepth 100000 in
set_option maxHeartbeats 4000000 in
theorem c_X11_thrown (l : Launch) (d : Nat) (F : Nat) (a0 : Nat) (h : jH) (rR : Int32) (hf : jH) (H : f_X11_thrown F a0 h = some (rR, hf)) : jh_sh h a0 = (11, 0) ∧ jMet l (d + 0) yX11_thrown cX11_thrown 1 (some .int) [.ref a0] h (some (.int rR)) hf := by
  unfold f_X11_thrown at H
  obtain ⟨hsh, H⟩ := j_gd_some H
  refine ⟨hsh, ?_⟩
  refine jMet.of false [some (.ref a0)] rfl (by decide) (by decide) (Nat.le_of_ble_eq_true rfl) (fun S0 q hq => by simpa [j_l, lv_args, j_v, Value.category] using hq) ?_
  refine jr_aload_n dX11_thrown_0 rfl rfl ?_
  refine jr_getI fl_RX11_110 (by decide) dX11_thrown_1 H (fun v1 H => ?_)
  exact jr_iret rfl dX11_thrown_4 H
set_option maxRecDepth 100000 in
set_option maxHeartbeats 4000000 in
theorem c_X11_in (l : Launch) (d : Nat) (F : Nat) (a0 : Int32) (a1 : Int32) (a2 : Int32) (h : jH) (rR : Int32) (hf : jH) (H : f_X11_in F a0 a1 a2 h = some (rR, hf)) : jMet l (d + 0) yX11_in cX11_in 3 (some .boolean) [.int a0, .int a1, .int a2] h (some (.int rR)) hf := by
  unfold f_X11_in at H
  refine jMet.of false [some (.int a0), some (.int a1), some (.int a2)] rfl (by decide) (by decide) (Nat.le_of_ble_eq_true rfl) (fun S0 q hq => by simpa [j_l, lv_args, j_v, Value.category] using hq) ?_
  refine jr_iload_n dX11_in_0 rfl rfl ?_
  refine jr_iload_n dX11_in_1 rfl rfl ?_
  refine jr_icmp_lt (tgt := 14) dX11_in_2 (by decide) H (fun H => ?_) (fun H => ?_)
  · refine jr_iconst (v := 0) dX11_in_14 (by decide) ?_
    exact jr_zret rfl rfl dX11_in_15 H
  · refine jr_iload_n dX11_in_5 rfl rfl ?_
    refine jr_iload_n dX11_in_6 rfl rfl ?_
    refine jr_icmp_gt (tgt := 14) dX11_in_7 (by decide) H (fun H => ?_) (fun H => ?_)
    · refine jr_iconst (v := 0) dX11_in_14 (by decide) ?_
      exact jr_zret rfl rfl dX11_in_15 H
    · refine jr_iconst (v := 1) dX11_in_10 (by decide) ?_
      refine jr_goto (tgt := 15) dX11_in_11 (by decide) ?_
      exact jr_zret rfl rfl dX11_in_15 H
set_option maxRecDepth 100000 in
set_option maxHeartbeats 4000000 in
theorem c_X11_has (l : Launch) (d : Nat) (F : Nat) (a0 : Int32) (a1 : Int32) (h : jH) (rR : Int32) (hf : jH) (H : f_X11_has F a0 a1 h = some (rR, hf)) : jMet l (d + 0) yX11_has cX11_has 2 (some .boolean) [.int a0, .int a1] h (some (.int rR)) hf := by
  unfold f_X11_has at H
  refine jMet.of false [some (.int a0), some (.int a1)] rfl (by decide) (by decide) (Nat.le_of_ble_eq_true rfl) (fun S0 q hq => by simpa [j_l, lv_args, j_v, Value.category] using hq) ?_
  refine jr_iload_n dX11_has_0 rfl rfl ?_
  refine jr_iload_n dX11_has_1 rfl rfl ?_
  refine jr_ishr dX11_has_2 ?_
  refine jr_iconst (v := 1) dX11_has_3 (by decide) ?_
  refine jr_iand dX11_has_4 ?_
  refine jr_iconst (v := 1) dX11_has_5 (by decide) ?_
  refine jr_icmp_ne (tgt := 13) dX11_has_6 (by decide) H (fun H => ?_) (fun H => ?_)
  · refine jr_iconst (v := 1) dX11_has_9 (by decide) ?_
    refine jr_goto (tgt := 14) dX11_has_10 (by decide) ?_
    exact jr_zret rfl rfl dX11_has_14 H
  · refine jr_iconst (v := 0) dX11_has_13 (by decide) ?_
    exact jr_zret rfl rfl dX11_has_14 H
set_option maxRecDepth 100000 in
set_option maxHeartbeats 4000000 in
theorem c_X11_lost (l : Launch) (d : Nat) (F : Nat) (a0 : Nat) (h : jH) (rR : Int32) (hf : jH) (H : f_X11_lost F a0 h = some (rR, hf)) : jh_sh h a0 = (11, 0) ∧ jMet l (d + 0) yX11_lost cX11_lost 1 (some .int) [.ref a0] h (some (.int rR)) hf := by
  unfold f_X11_lost at H
  obtain ⟨hsh, H⟩ := j_gd_some H
  refine ⟨hsh, ?_⟩
  refine jMet.of false [some (.ref a0)] rfl (by decide) (by decide) (Nat.le_of_ble_eq_true rfl) (fun S0 q hq => by simpa [j_l, lv_args, j_v, Value.category] using hq) ?_
  refine jr_aload_n dX11_lost_0 rfl rfl ?_
  refine jr_iconst (v := 1) dX11_lost_1 (by decide) ?_
  refine jr_putI fl_RX11_110 (fun z => by cases z) dX11_lost_2 H (fun h1 H => ?_)
  refine jr_iconst (v := 0) dX11_lost_5 (by decide) ?_
  exact jr_iret rfl dX11_lost_6 H
set_option maxRecDepth 100000 in
set_option maxHeartbeats 4000000 in
theorem c_X11_tell (l : Launch) (d : Nat) (F : Nat) (a0 : Nat) (a1 : Int64) (h : jH) (hf : jH) (H : f_X11_tell F a0 a1 h = some hf) : jh_sh h a0 = (11, 0) ∧ jMet l (d + 0) yX11_tell cX11_tell 3 none [.ref a0, .long a1] h none hf := by
  unfold f_X11_tell at H
  obtain ⟨hsh, H⟩ := j_gd_some H
  refine ⟨hsh, ?_⟩
  refine jMet.of false [some (.ref a0), some (.long a1), none] rfl (by decide) (by decide) (Nat.le_of_ble_eq_true rfl) (fun S0 q hq => by simpa [j_l, lv_args, j_v, Value.category] using hq) ?_
  refine jr_aload_n dX11_tell_0 rfl rfl ?_
  refine jr_getR fl_RX11_33 dX11_tell_1 H (fun v1 H => ?_)
  refine jr_aload_n dX11_tell_4 rfl rfl ?_
  refine jr_getI fl_RX11_113 (by decide) dX11_tell_5 H (fun v2 H => ?_)
  refine jr_lload_n dX11_tell_8 rfl rfl ?_
  refine jr_last dX11_tell_9 H (fun h3 H => ?_)
  refine jr_aload_n dX11_tell_10 rfl rfl ?_
  refine jr_dup dX11_tell_11 rfl ?_
  refine jr_getI fl_RX11_113 (by decide) dX11_tell_12 H (fun v4 H => ?_)
  refine jr_iconst (v := 1) dX11_tell_15 (by decide) ?_
  refine jr_iadd dX11_tell_16 ?_
  refine jr_putI fl_RX11_113 (fun z => by cases z) dX11_tell_17 H (fun h5 H => ?_)
  exact jr_vret rfl dX11_tell_20 H
set_option maxRecDepth 100000 in
set_option maxHeartbeats 4000000 in
theorem c_X11_isStation (l : Launch) (d : Nat) (F : Nat) (a0 : Nat) (a1 : Int32) (h : jH) (rR : Int32) (hf : jH) (H : f_X11_isStation F a0 a1 h = some (rR, hf)) : jh_sh h a0 = (11, 0) ∧ jMet l (d + 1) yX11_isStation cX11_isStation 2 (some .boolean) [.ref a0, .int a1] h (some (.int rR)) hf := by
  unfold f_X11_isStation at H
  obtain ⟨hsh, H⟩ := j_gd_some H
  refine ⟨hsh, ?_⟩
  refine jMet.of false [some (.ref a0), some (.int a1)] rfl (by decide) (by decide) (Nat.le_of_ble_eq_true rfl) (fun S0 q hq => by simpa [j_l, lv_args, j_v, Value.category] using hq) ?_
  refine jr_iload_n dX11_isStation_0 rfl rfl ?_
  refine jr_iconst (v := 0) dX11_isStation_1 (by decide) ?_
  refine jr_aload_n dX11_isStation_2 rfl rfl ?_
  refine jr_getI fl_RX11_13 (by decide) dX11_isStation_3 H (fun v1 H => ?_)
  refine jr_iconst (v := 1) dX11_isStation_6 (by decide) ?_
  refine jr_isub dX11_isStation_7 ?_
  obtain ⟨v3, h2, Hc, H⟩ := j_b2_some H
  refine jr_callS [.int a1, .int 0, .int (v1 - (1 : Int32))] my_X11_in ms_X11_in ml_RX11_116 dX11_isStation_8 rfl rfl (Nat.le_of_ble_eq_true rfl) (c_X11_in l d F a1 0 (v1 - (1 : Int32)) h v3 h2 Hc) ?_
  exact jr_zrz rfl dX11_isStation_11 H
set_option maxRecDepth 100000 in
set_option maxHeartbeats 4000000 in
theorem c_X11_isWord (l : Launch) (d : Nat) (F : Nat) (a0 : Nat) (a1 : Int32) (h : jH) (rR : Int32) (hf : jH) (H : f_X11_isWord F a0 a1 h = some (rR, hf)) : jh_sh h a0 = (11, 0) ∧ jMet l (d + 1) yX11_isWord cX11_isWord 2 (some .boolean) [.ref a0, .int a1] h (some (.int rR)) hf := by
  unfold f_X11_isWord at H
  obtain ⟨hsh, H⟩ := j_gd_some H
  refine ⟨hsh, ?_⟩
  refine jMet.of false [some (.ref a0), some (.int a1)] rfl (by decide) (by decide) (Nat.le_of_ble_eq_true rfl) (fun S0 q hq => by simpa [j_l, lv_args, j_v, Value.category] using hq) ?_
  refine jr_iload_n dX11_isWord_0 rfl rfl ?_
  refine jr_iconst (v := 0) dX11_isWord_1 (by decide) ?_
  refine jr_aload_n dX11_isWord_2 rfl rfl ?_
  refine jr_getI fl_RX11_120 (by decide) dX11_isWord_3 H (fun v1 H => ?_)
  refine jr_iconst (v := 1) dX11_isWord_6 (by decide) ?_
  refine jr_isub dX11_isWord_7 ?_
  obtain ⟨v3, h2, Hc, H⟩ := j_b2_some H
  refine jr_callS [.int a1, .int 0, .int (v1 - (1 : Int32))] my_X11_in ms_X11_in ml_RX11_116 dX11_isWord_8 rfl rfl (Nat.le_of_ble_eq_true rfl) (c_X11_in l d F a1 0 (v1 - (1 : Int32)) h v3 h2 Hc) ?_
  exact jr_zrz rfl dX11_isWord_11 H
set_option maxRecDepth 100000 in
set_option maxHeartbeats 4000000 in
theorem c_X11_isOne (l : Launch) (d : Nat) (F : Nat) (a0 : Nat) (a1 : Int32) (h : jH) (rR : Int32) (hf : jH) (H : f_X11_isOne F a0 a1 h = some (rR, hf)) : jh_sh h a0 = (11, 0) ∧ jMet l (d + 1) yX11_isOne cX11_isOne 2 (some .boolean) [.ref a0, .int a1] h (some (.int rR)) hf := by
  unfold f_X11_isOne at H
  obtain ⟨hsh, H⟩ := j_gd_some H
  refine ⟨hsh, ?_⟩
  refine jMet.of false [some (.ref a0), some (.int a1)] rfl (by decide) (by decide) (Nat.le_of_ble_eq_true rfl) (fun S0 q hq => by simpa [j_l, lv_args, j_v, Value.category] using hq) ?_
  refine jr_iload_n dX11_isOne_0 rfl rfl ?_
  refine jr_iconst (v := 0) dX11_isOne_1 (by decide) ?_
  refine jr_aload_n dX11_isOne_2 rfl rfl ?_
  refine jr_getI fl_RX11_123 (by decide) dX11_isOne_3 H (fun v1 H => ?_)
  refine jr_iconst (v := 1) dX11_isOne_6 (by decide) ?_
  refine jr_isub dX11_isOne_7 ?_
  obtain ⟨v3, h2, Hc, H⟩ := j_b2_some H
  refine jr_callS [.int a1, .int 0, .int (v1 - (1 : Int32))] my_X11_in ms_X11_in ml_RX11_116 dX11_isOne_8 rfl rfl (Nat.le_of_ble_eq_true rfl) (c_X11_in l d F a1 0 (v1 - (1 : Int32)) h v3 h2 Hc) ?_
  exact jr_zrz rfl dX11_isOne_11 H
set_option maxRecDepth 100000 in
set_option maxHeartbeats 4000000 in
theorem c_X11_isMeaning (l : Launch) (d : Nat) (F : Nat) (a0 : Int32) (h : jH) (rR : Int32) (hf : jH) (H : f_X11_isMeaning F a0 h = some (rR, hf)) : jMet l (d + 1) yX11_isMeaning cX11_isMeaning 1 (some .boolean) [.int a0] h (some (.int rR)) hf := by
  unfold f_X11_isMeaning at H
  refine jMet.of false [some (.int a0)] rfl (by decide) (by decide) (Nat.le_of_ble_eq_true rfl) (fun S0 q hq => by simpa [j_l, lv_args, j_v, Value.category] using hq) ?_
  refine jr_iload_n dX11_isMeaning_0 rfl rfl ?_
  refine jr_iconst (v := 0) dX11_isMeaning_1 (by decide) ?_
  refine jr_bipush (v := 9) dX11_isMeaning_2 (by decide) ?_
  obtain ⟨v2, h1, Hc, H⟩ := j_b2_some H
  refine jr_callS [.int a0, .int 0, .int 9] my_X11_in ms_X11_in ml_RX11_116 dX11_isMeaning_4 rfl rfl (Nat.le_of_ble_eq_true rfl) (c_X11_in l d F a0 0 9 h v2 h1 Hc) ?_
  exact jr_zrz rfl dX11_isMeaning_7 H
set_option maxRecDepth 100000 in
set_option maxHeartbeats 4000000 in
theorem s_X11_sign_L20 (l : Launch) (d : Nat) (F : Nat) (x0 : Nat) (x1 : Int32) (k53 : jH → Option (Int32 × jH)) {rR : Int32} {hf : jH} (hk53 : ∀ (h : jH), k53 h = some (rR, hf) → jGo l (d + 0) none RX11 cX11_sign 3 (some .int) false 53 [some (.ref x0), none, none] [] h (some (.int rR)) hf) : ∀ (n : Nat) (x2 : Int32) (h : jH), f_X11_sign_L20 F x0 x1 k53 n x2 h = some (rR, hf) → jGo l (d + 0) none RX11 cX11_sign 3 (some .int) false 20 [some (.ref x0), some (.int x1), some (.int x2)] [] h (some (.int rR)) hf := by
  intro n
  induction n with
  | zero =>
    intro x2 h H
    cases H
  | succ n ih =>
    intro x2 h H
    unfold f_X11_sign_L20 at H
    refine jr_iload_n dX11_sign_20 rfl rfl ?_
    refine jr_if_lt (tgt := 53) dX11_sign_21 (by decide) H (fun H => ?_) (fun H => ?_)
    · refine jr_fgt 1 ?_
      refine jr_fgt 2 ?_
      exact hk53 _ H
    · refine jr_aload_n dX11_sign_24 rfl rfl ?_
      refine jr_getR fl_RX11_30 dX11_sign_25 H (fun v3 H => ?_)
      refine jr_aload_n dX11_sign_28 rfl rfl ?_
      refine jr_dup dX11_sign_29 rfl ?_
      refine jr_getI fl_RX11_126 (by decide) dX11_sign_30 H (fun v4 H => ?_)
      refine jr_dup_x1 dX11_sign_33 rfl rfl ?_
      refine jr_iconst (v := 1) dX11_sign_34 (by decide) ?_
      refine jr_iadd dX11_sign_35 ?_
      refine jr_putI fl_RX11_126 (fun z => by cases z) dX11_sign_36 H (fun h5 H => ?_)
      refine jr_iload_n dX11_sign_39 rfl rfl ?_
      refine jr_bipush (v := 8) dX11_sign_40 (by decide) ?_
      refine jr_iload_n dX11_sign_42 rfl rfl ?_
      refine jr_imul dX11_sign_43 ?_
      refine jr_ishr dX11_sign_44 ?_
      refine jr_i2b dX11_sign_45 ?_
      refine jr_bast dX11_sign_46 H (fun h6 H => ?_)
      refine jr_iinc (v := (x2 + (-1))) dX11_sign_47 rfl rfl (by decide) rfl (Or.inl rfl) ?_
      refine jr_goto (tgt := 20) dX11_sign_50 (by decide) ?_
      exact ih _ _ H
set_option maxRecDepth 100000 in
set_option maxHeartbeats 4000000 in
theorem c_X11_sign (l : Launch) (d : Nat) (F : Nat) (a0 : Nat) (a1 : Int32) (h : jH) (rR : Int32) (hf : jH) (H : f_X11_sign F a0 a1 h = some (rR, hf)) : jh_sh h a0 = (11, 0) ∧ jMet l (d + 0) yX11_sign cX11_sign 3 (some .int) [.ref a0, .int a1] h (some (.int rR)) hf := by
  unfold f_X11_sign at H
  obtain ⟨hsh, H⟩ := j_gd_some H
  refine ⟨hsh, ?_⟩
  refine jMet.of false [some (.ref a0), some (.int a1), none] rfl (by decide) (by decide) (Nat.le_of_ble_eq_true rfl) (fun S0 q hq => by simpa [j_l, lv_args, j_v, Value.category] using hq) ?_
  refine jr_aload_n dX11_sign_0 rfl rfl ?_
  refine jr_iconst (v := 0) dX11_sign_1 (by decide) ?_
  refine jr_putI fl_RX11_110 (fun z => by cases z) dX11_sign_2 H (fun h1 H => ?_)
  refine jr_aload_n dX11_sign_5 rfl rfl ?_
  refine jr_getI fl_RX11_126 (by decide) dX11_sign_6 H (fun v2 H => ?_)
  refine jr_iconst (v := 4) dX11_sign_9 (by decide) ?_
  refine jr_iadd dX11_sign_10 ?_
  refine jr_bipush (v := 80) dX11_sign_11 (by decide) ?_
  refine jr_icmp_le (tgt := 18) dX11_sign_13 (by decide) H (fun H => ?_) (fun H => ?_)
  · refine jr_iconst (v := 3) dX11_sign_18 (by decide) ?_
    refine jr_istore_n dX11_sign_19 rfl (by decide) rfl (Or.inl rfl) ?_
    refine s_X11_sign_L20 l d F a0 a1 _ (fun h7 H => ?_) F 3 h1 H
    · refine jr_aload_n dX11_sign_53 rfl rfl ?_
      refine jr_getI fl_RX11_126 (by decide) dX11_sign_54 H (fun v8 H => ?_)
      exact jr_iret rfl dX11_sign_57 H
  · refine jr_iconst (v := (-1)) dX11_sign_16 (by decide) ?_
    exact jr_iret rfl dX11_sign_17 H
set_option maxRecDepth 100000 in
set_option maxHeartbeats 4000000 in
theorem c_X11_end (l : Launch) (d : Nat) (F : Nat) (a0 : Nat) (a1 : Int32) (h : jH) (rR : Int32) (hf : jH) (H : f_X11_end F a0 a1 h = some (rR, hf)) : jh_sh h a0 = (11, 0) ∧ jMet l (d + 1) yX11_end cX11_end 2 (some .boolean) [.ref a0, .int a1] h (some (.int rR)) hf := by
  unfold f_X11_end at H
  obtain ⟨hsh, H⟩ := j_gd_some H
  refine ⟨hsh, ?_⟩
  refine jMet.of false [some (.ref a0), some (.int a1)] rfl (by decide) (by decide) (Nat.le_of_ble_eq_true rfl) (fun S0 q hq => by simpa [j_l, lv_args, j_v, Value.category] using hq) ?_
  refine jr_aload_n dX11_end_0 rfl rfl ?_
  refine jr_iconst (v := 0) dX11_end_1 (by decide) ?_
  refine jr_putI fl_RX11_110 (fun z => by cases z) dX11_end_2 H (fun h1 H => ?_)
  refine jr_iload_n dX11_end_5 rfl rfl ?_
  refine jr_iconst (v := 0) dX11_end_6 (by decide) ?_
  refine jr_aload_n dX11_end_7 rfl rfl ?_
  refine jr_getI fl_RX11_126 (by decide) dX11_end_8 H (fun v2 H => ?_)
  obtain ⟨v4, h3, Hc, H⟩ := j_b2_some H
  refine jr_callS [.int a1, .int 0, .int v2] my_X11_in ms_X11_in ml_RX11_116 dX11_end_11 rfl rfl (Nat.le_of_ble_eq_true rfl) (c_X11_in l d F a1 0 v2 h1 v4 h3 Hc) ?_
  refine jr_if_ne (tgt := 19) dX11_end_14 (by decide) H (fun H => ?_) (fun H => ?_)
  · refine jr_iconst (v := 0) dX11_end_17 (by decide) ?_
    exact jr_zret rfl rfl dX11_end_18 H
  · refine jr_aload_n dX11_end_19 rfl rfl ?_
    refine jr_iload_n dX11_end_20 rfl rfl ?_
    refine jr_putI fl_RX11_126 (fun z => by cases z) dX11_end_21 H (fun h5 H => ?_)
    refine jr_iconst (v := 1) dX11_end_24 (by decide) ?_
    exact jr_zret rfl rfl dX11_end_25 H
set_option maxRecDepth 100000 in
set_option maxHeartbeats 4000000 in
theorem c_X11_begin (l : Launch) (d : Nat) (F : Nat) (a0 : Nat) (a1 : Nat) (a2 : Int32) (a3 : Int32) (h : jH) (hf : jH) (H : f_X11_begin F a0 a1 a2 a3 h = some hf) : jh_sh h a0 = (11, 0) ∧ jMet l (d + 0) yX11_begin cX11_begin 4 none [.ref a0, .ref a1, .int a2, .int a3] h none hf := by
  unfold f_X11_begin at H
  obtain ⟨hsh, H⟩ := j_gd_some H
  refine ⟨hsh, ?_⟩
  refine jMet.of false [some (.ref a0), some (.ref a1), some (.int a2), some (.int a3)] rfl (by decide) (by decide) (Nat.le_of_ble_eq_true rfl) (fun S0 q hq => by simpa [j_l, lv_args, j_v, Value.category] using hq) ?_
  refine jr_aload_n dX11_begin_0 rfl rfl ?_
  refine jr_aload_n dX11_begin_1 rfl rfl ?_
  refine jr_putR fl_RX11_129 (fun z => by cases z) dX11_begin_2 H (fun h1 H => ?_)
  refine jr_aload_n dX11_begin_5 rfl rfl ?_
  refine jr_iload_n dX11_begin_6 rfl rfl ?_
  refine jr_putI fl_RX11_132 (fun z => by cases z) dX11_begin_7 H (fun h2 H => ?_)
  refine jr_aload_n dX11_begin_10 rfl rfl ?_
  refine jr_iload_n dX11_begin_11 rfl rfl ?_
  refine jr_putI fl_RX11_135 (fun z => by cases z) dX11_begin_12 H (fun h3 H => ?_)
  refine jr_aload_n dX11_begin_15 rfl rfl ?_
  refine jr_iconst (v := 0) dX11_begin_16 (by decide) ?_
  refine jr_putI fl_RX11_138 (fun z => by cases z) dX11_begin_17 H (fun h4 H => ?_)
  refine jr_aload_n dX11_begin_20 rfl rfl ?_
  refine jr_iconst (v := (-1)) dX11_begin_21 (by decide) ?_
  refine jr_putI fl_RX11_141 (fun z => by cases z) dX11_begin_22 H (fun h5 H => ?_)
  exact jr_vret rfl dX11_begin_25 H
set_option maxRecDepth 100000 in
set_option maxHeartbeats 4000000 in
theorem c_X11_beginText (l : Launch) (d : Nat) (F : Nat) (a0 : Nat) (a1 : Int32) (h : jH) (hf : jH) (H : f_X11_beginText F a0 a1 h = some hf) : jh_sh h a0 = (11, 0) ∧ jMet l (d + 1) yX11_beginText cX11_beginText 2 none [.ref a0, .int a1] h none hf := by
  unfold f_X11_beginText at H
  obtain ⟨hsh, H⟩ := j_gd_some H
  refine ⟨hsh, ?_⟩
  refine jMet.of false [some (.ref a0), some (.int a1)] rfl (by decide) (by decide) (Nat.le_of_ble_eq_true rfl) (fun S0 q hq => by simpa [j_l, lv_args, j_v, Value.category] using hq) ?_
  refine jr_aload_n dX11_beginText_0 rfl rfl ?_
  refine jr_aload_n dX11_beginText_1 rfl rfl ?_
  refine jr_getR fl_RX11_30 dX11_beginText_2 H (fun v1 H => ?_)
  refine jr_aload_n dX11_beginText_5 rfl rfl ?_
  refine jr_getI fl_RX11_126 (by decide) dX11_beginText_6 H (fun v2 H => ?_)
  refine jr_iload_n dX11_beginText_9 rfl rfl ?_
  obtain ⟨h3, Hc, H⟩ := Option.bind_eq_some_iff.mp H
  refine jr_callV (ci := 11) [.ref v1, .int v2, .int a1] my_X11_begin mv_X11_begin ml_RX11_144 dX11_beginText_10 rfl rfl (Nat.le_of_ble_eq_true rfl) rfl (c_X11_begin l d F a0 v1 v2 a1 h h3 Hc) ?_
  refine jr_aload_n dX11_beginText_13 rfl rfl ?_
  refine jr_iconst (v := 0) dX11_beginText_14 (by decide) ?_
  refine jr_putI fl_RX11_126 (fun z => by cases z) dX11_beginText_15 H (fun h4 H => ?_)
  exact jr_vret rfl dX11_beginText_18 H
set_option maxRecDepth 100000 in
set_option maxHeartbeats 4000000 in
theorem c_X11_here (l : Launch) (d : Nat) (F : Nat) (a0 : Nat) (h : jH) (rR : Int32) (hf : jH) (H : f_X11_here F a0 h = some (rR, hf)) : jh_sh h a0 = (11, 0) ∧ jMet l (d + 0) yX11_here cX11_here 1 (some .int) [.ref a0] h (some (.int rR)) hf := by
  unfold f_X11_here at H
  obtain ⟨hsh, H⟩ := j_gd_some H
  refine ⟨hsh, ?_⟩
  refine jMet.of false [some (.ref a0)] rfl (by decide) (by decide) (Nat.le_of_ble_eq_true rfl) (fun S0 q hq => by simpa [j_l, lv_args, j_v, Value.category] using hq) ?_
  refine jr_aload_n dX11_here_0 rfl rfl ?_
  refine jr_getI fl_RX11_138 (by decide) dX11_here_1 H (fun v1 H => ?_)
  refine jr_aload_n dX11_here_4 rfl rfl ?_
  refine jr_getI fl_RX11_132 (by decide) dX11_here_5 H (fun v2 H => ?_)
  refine jr_icmp_ge (tgt := 38) dX11_here_8 (by decide) H (fun H => ?_) (fun H => ?_)
  · refine jr_iconst (v := (-1)) dX11_here_38 (by decide) ?_
    exact jr_iret rfl dX11_here_39 H
  · refine jr_aload_n dX11_here_11 rfl rfl ?_
    refine jr_getI fl_RX11_138 (by decide) dX11_here_12 H (fun v3 H => ?_)
    refine jr_aload_n dX11_here_15 rfl rfl ?_
    refine jr_getI fl_RX11_135 (by decide) dX11_here_16 H (fun v4 H => ?_)
    refine jr_icmp_ge (tgt := 38) dX11_here_19 (by decide) H (fun H => ?_) (fun H => ?_)
    · refine jr_iconst (v := (-1)) dX11_here_38 (by decide) ?_
      exact jr_iret rfl dX11_here_39 H
    · refine jr_aload_n dX11_here_22 rfl rfl ?_
      refine jr_getR fl_RX11_129 dX11_here_23 H (fun v5 H => ?_)
      refine jr_aload_n dX11_here_26 rfl rfl ?_
      refine jr_getI fl_RX11_138 (by decide) dX11_here_27 H (fun v6 H => ?_)
      refine jr_bald dX11_here_30 H (fun v7 H => ?_)
      refine jr_sipush (v := 255) dX11_here_31 (by decide) ?_
      refine jr_iand dX11_here_34 ?_
      refine jr_goto (tgt := 39) dX11_here_35 (by decide) ?_
      exact jr_iret rfl dX11_here_39 H
set_option maxRecDepth 100000 in
set_option maxHeartbeats 4000000 in
theorem c_X11_fine (l : Launch) (d : Nat) (F : Nat) (a0 : Nat) (h : jH) (rR : Int32) (hf : jH) (H : f_X11_fine F a0 h = some (rR, hf)) : jh_sh h a0 = (11, 0) ∧ jMet l (d + 0) yX11_fine cX11_fine 1 (some .boolean) [.ref a0] h (some (.int rR)) hf := by
  unfold f_X11_fine at H
  obtain ⟨hsh, H⟩ := j_gd_some H
  refine ⟨hsh, ?_⟩
  refine jMet.of false [some (.ref a0)] rfl (by decide) (by decide) (Nat.le_of_ble_eq_true rfl) (fun S0 q hq => by simpa [j_l, lv_args, j_v, Value.category] using hq) ?_
  refine jr_aload_n dX11_fine_0 rfl rfl ?_
  refine jr_getI fl_RX11_141 (by decide) dX11_fine_1 H (fun v1 H => ?_)
  refine jr_iconst (v := (-1)) dX11_fine_4 (by decide) ?_
  refine jr_icmp_ne (tgt := 12) dX11_fine_5 (by decide) H (fun H => ?_) (fun H => ?_)
  · refine jr_iconst (v := 1) dX11_fine_8 (by decide) ?_
    refine jr_goto (tgt := 13) dX11_fine_9 (by decide) ?_
    exact jr_zret rfl rfl dX11_fine_13 H
  · refine jr_iconst (v := 0) dX11_fine_12 (by decide) ?_
    exact jr_zret rfl rfl dX11_fine_13 H
set_option maxRecDepth 100000 in
set_option maxHeartbeats 4000000 in
theorem c_X11_fault (l : Launch) (d : Nat) (F : Nat) (a0 : Nat) (a1 : Int32) (h : jH) (hf : jH) (H : f_X11_fault F a0 a1 h = some hf) : jh_sh h a0 = (11, 0) ∧ jMet l (d + 1) yX11_fault cX11_fault 2 none [.ref a0, .int a1] h none hf := by
  unfold f_X11_fault at H
  obtain ⟨hsh, H⟩ := j_gd_some H
  refine ⟨hsh, ?_⟩
  refine jMet.of false [some (.ref a0), some (.int a1)] rfl (by decide) (by decide) (Nat.le_of_ble_eq_true rfl) (fun S0 q hq => by simpa [j_l, lv_args, j_v, Value.category] using hq) ?_
  refine jr_aload_n dX11_fault_0 rfl rfl ?_
  obtain ⟨v2, h1, Hc, H⟩ := j_b2_some H
  refine jr_callV (ci := 11) [] my_X11_fine mv_X11_fine ml_RX11_148 dX11_fault_1 rfl rfl (Nat.le_of_ble_eq_true rfl) rfl (c_X11_fine l d F a0 h v2 h1 Hc) ?_
  refine jr_if_eq (tgt := 12) dX11_fault_4 (by decide) H (fun H => ?_) (fun H => ?_)
  · exact jr_vret rfl dX11_fault_12 H
  · refine jr_aload_n dX11_fault_7 rfl rfl ?_
    refine jr_iload_n dX11_fault_8 rfl rfl ?_
    refine jr_putI fl_RX11_141 (fun z => by cases z) dX11_fault_9 H (fun h3 H => ?_)
    exact jr_vret rfl dX11_fault_12 H
set_option maxRecDepth 100000 in
set_option maxHeartbeats 4000000 in
theorem c_X11_passes (l : Launch) (d : Nat) (F : Nat) (a0 : Nat) (a1 : Int32) (h : jH) (rR : Int32) (hf : jH) (H : f_X11_passes F a0 a1 h = some (rR, hf)) : jh_sh h a0 = (11, 0) ∧ jMet l (d + 1) yX11_passes cX11_passes 2 (some .boolean) [.ref a0, .int a1] h (some (.int rR)) hf := by
  unfold f_X11_passes at H
  obtain ⟨hsh, H⟩ := j_gd_some H
  refine ⟨hsh, ?_⟩
  refine jMet.of false [some (.ref a0), some (.int a1)] rfl (by decide) (by decide) (Nat.le_of_ble_eq_true rfl) (fun S0 q hq => by simpa [j_l, lv_args, j_v, Value.category] using hq) ?_
  refine jr_aload_n dX11_passes_0 rfl rfl ?_
  obtain ⟨v2, h1, Hc, H⟩ := j_b2_some H
  refine jr_callV (ci := 11) [] my_X11_fine mv_X11_fine ml_RX11_148 dX11_passes_1 rfl rfl (Nat.le_of_ble_eq_true rfl) rfl (c_X11_fine l d F a0 h v2 h1 Hc) ?_
  refine jr_if_eq (tgt := 15) dX11_passes_4 (by decide) H (fun H => ?_) (fun H => ?_)
  · refine jr_iconst (v := 0) dX11_passes_15 (by decide) ?_
    exact jr_zret rfl rfl dX11_passes_16 H
  · refine jr_aload_n dX11_passes_7 rfl rfl ?_
    obtain ⟨v4, h3, Hc, H⟩ := j_b2_some H
    refine jr_callV (ci := 11) [] my_X11_here mv_X11_here ml_RX11_152 dX11_passes_8 rfl rfl (Nat.le_of_ble_eq_true rfl) rfl (c_X11_here l d F a0 h1 v4 h3 Hc) ?_
    refine jr_iload_n dX11_passes_11 rfl rfl ?_
    refine jr_icmp_eq (tgt := 17) dX11_passes_12 (by decide) H (fun H => ?_) (fun H => ?_)
    · refine jr_aload_n dX11_passes_17 rfl rfl ?_
      refine jr_dup dX11_passes_18 rfl ?_
      refine jr_getI fl_RX11_138 (by decide) dX11_passes_19 H (fun v5 H => ?_)
      refine jr_iconst (v := 1) dX11_passes_22 (by decide) ?_
      refine jr_iadd dX11_passes_23 ?_
      refine jr_putI fl_RX11_138 (fun z => by cases z) dX11_passes_24 H (fun h6 H => ?_)
      refine jr_iconst (v := 1) dX11_passes_27 (by decide) ?_
      exact jr_zret rfl rfl dX11_passes_28 H
    · refine jr_iconst (v := 0) dX11_passes_15 (by decide) ?_
      exact jr_zret rfl rfl dX11_passes_16 H
set_option maxRecDepth 100000 in
set_option maxHeartbeats 4000000 in
theorem c_X11_need (l : Launch) (d : Nat) (F : Nat) (a0 : Nat) (a1 : Int32) (h : jH) (hf : jH) (H : f_X11_need F a0 a1 h = some hf) : jh_sh h a0 = (11, 0) ∧ jMet l (d + 2) yX11_need cX11_need 2 none [.ref a0, .int a1] h none hf := by
  unfold f_X11_need at H
  obtain ⟨hsh, H⟩ := j_gd_some H
  refine ⟨hsh, ?_⟩
  refine jMet.of false [some (.ref a0), some (.int a1)] rfl (by decide) (by decide) (Nat.le_of_ble_eq_true rfl) (fun S0 q hq => by simpa [j_l, lv_args, j_v, Value.category] using hq) ?_
  refine jr_aload_n dX11_need_0 rfl rfl ?_
  refine jr_iload_n dX11_need_1 rfl rfl ?_
  obtain ⟨v2, h1, Hc, H⟩ := j_b2_some H
  refine jr_callV (ci := 11) [.int a1] my_X11_passes mv_X11_passes ml_RX11_156 dX11_need_2 rfl rfl (Nat.le_of_ble_eq_true rfl) rfl (c_X11_passes l d F a0 a1 h v2 h1 Hc) ?_
  refine jr_if_ne (tgt := 16) dX11_need_5 (by decide) H (fun H => ?_) (fun H => ?_)
  · refine jr_aload_n dX11_need_8 rfl rfl ?_
    refine jr_aload_n dX11_need_9 rfl rfl ?_
    refine jr_getI fl_RX11_138 (by decide) dX11_need_10 H (fun v3 H => ?_)
    obtain ⟨h4, Hc, H⟩ := Option.bind_eq_some_iff.mp H
    refine jr_callV (ci := 11) [.int v3] my_X11_fault mv_X11_fault ml_RX11_160 dX11_need_13 rfl rfl (Nat.le_of_ble_eq_true rfl) rfl (c_X11_fault l d F a0 v3 h1 h4 Hc) ?_
    exact jr_vret rfl dX11_need_16 H
  · exact jr_vret rfl dX11_need_16 H
set_option maxRecDepth 100000 in
set_option maxHeartbeats 4000000 in
theorem c_X11_oneOf (l : Launch) (d : Nat) (F : Nat) (a0 : Nat) (a1 : Int32) (a2 : Int32) (h : jH) (rR : Int32) (hf : jH) (H : f_X11_oneOf F a0 a1 a2 h = some (rR, hf)) : jh_sh h a0 = (11, 0) ∧ jMet l (d + 2) yX11_oneOf cX11_oneOf 3 (some .int) [.ref a0, .int a1, .int a2] h (some (.int rR)) hf := by
  unfold f_X11_oneOf at H
  obtain ⟨hsh, H⟩ := j_gd_some H
  refine ⟨hsh, ?_⟩
  refine jMet.of false [some (.ref a0), some (.int a1), some (.int a2)] rfl (by decide) (by decide) (Nat.le_of_ble_eq_true rfl) (fun S0 q hq => by simpa [j_l, lv_args, j_v, Value.category] using hq) ?_
  refine jr_aload_n dX11_oneOf_0 rfl rfl ?_
  obtain ⟨v2, h1, Hc, H⟩ := j_b2_some H
  refine jr_callV (ci := 11) [] my_X11_fine mv_X11_fine ml_RX11_148 dX11_oneOf_1 rfl rfl (Nat.le_of_ble_eq_true rfl) rfl (c_X11_fine l (d + 1) F a0 h v2 h1 Hc) ?_
  refine jr_if_ne (tgt := 9) dX11_oneOf_4 (by decide) H (fun H => ?_) (fun H => ?_)
  · refine jr_iconst (v := 0) dX11_oneOf_7 (by decide) ?_
    exact jr_iret rfl dX11_oneOf_8 H
  · refine jr_aload_n dX11_oneOf_9 rfl rfl ?_
    obtain ⟨v4, h3, Hc, H⟩ := j_b2_some H
    refine jr_callV (ci := 11) [] my_X11_here mv_X11_here ml_RX11_152 dX11_oneOf_10 rfl rfl (Nat.le_of_ble_eq_true rfl) rfl (c_X11_here l (d + 1) F a0 h1 v4 h3 Hc) ?_
    refine jr_iload_n dX11_oneOf_13 rfl rfl ?_
    refine jr_iload_n dX11_oneOf_14 rfl rfl ?_
    refine jr_iload_n dX11_oneOf_15 rfl rfl ?_
    refine jr_iadd dX11_oneOf_16 ?_
    refine jr_iconst (v := 1) dX11_oneOf_17 (by decide) ?_
    refine jr_isub dX11_oneOf_18 ?_
    obtain ⟨v6, h5, Hc, H⟩ := j_b2_some H
    refine jr_callS [.int v4, .int a1, .int ((a1 + a2) - (1 : Int32))] my_X11_in ms_X11_in ml_RX11_116 dX11_oneOf_19 rfl rfl (Nat.le_of_ble_eq_true rfl) (c_X11_in l (d + 1) F v4 a1 ((a1 + a2) - (1 : Int32)) h3 v6 h5 Hc) ?_
    refine jr_if_ne (tgt := 35) dX11_oneOf_22 (by decide) H (fun H => ?_) (fun H => ?_)
    · refine jr_aload_n dX11_oneOf_25 rfl rfl ?_
      refine jr_aload_n dX11_oneOf_26 rfl rfl ?_
      refine jr_getI fl_RX11_138 (by decide) dX11_oneOf_27 H (fun v7 H => ?_)
      obtain ⟨h8, Hc, H⟩ := Option.bind_eq_some_iff.mp H
      refine jr_callV (ci := 11) [.int v7] my_X11_fault mv_X11_fault ml_RX11_160 dX11_oneOf_30 rfl rfl (Nat.le_of_ble_eq_true rfl) rfl (c_X11_fault l d F a0 v7 h5 h8 Hc) ?_
      refine jr_iconst (v := 0) dX11_oneOf_33 (by decide) ?_
      exact jr_iret rfl dX11_oneOf_34 H
    · refine jr_aload_n dX11_oneOf_35 rfl rfl ?_
      refine jr_dup dX11_oneOf_36 rfl ?_
      refine jr_getI fl_RX11_138 (by decide) dX11_oneOf_37 H (fun v9 H => ?_)
      refine jr_iconst (v := 1) dX11_oneOf_40 (by decide) ?_
      refine jr_iadd dX11_oneOf_41 ?_
      refine jr_putI fl_RX11_138 (fun z => by cases z) dX11_oneOf_42 H (fun h10 H => ?_)
      refine jr_aload_n dX11_oneOf_45 rfl rfl ?_
      refine jr_getR fl_RX11_129 dX11_oneOf_46 H (fun v11 H => ?_)
      refine jr_aload_n dX11_oneOf_49 rfl rfl ?_
      refine jr_getI fl_RX11_138 (by decide) dX11_oneOf_50 H (fun v12 H => ?_)
      refine jr_iconst (v := 1) dX11_oneOf_53 (by decide) ?_
      refine jr_isub dX11_oneOf_54 ?_
      refine jr_bald dX11_oneOf_55 H (fun v13 H => ?_)
      refine jr_iload_n dX11_oneOf_56 rfl rfl ?_
      refine jr_isub dX11_oneOf_57 ?_
      exact jr_iret rfl dX11_oneOf_58 H
set_option maxRecDepth 100000 in
set_option maxHeartbeats 4000000 in
theorem s_X11_number_L11 (l : Launch) (d : Nat) (F : Nat) (x0 : Nat) (x1 : Int32) {rR : Int32} {hf : jH} : ∀ (n : Nat) (x2 : Int32) (x3 : Int32) (h : jH), f_X11_number_L11 F x0 x1 n x2 x3 h = some (rR, hf) → jGo l (d + 3) none RX11 cX11_number 4 (some .int) false 11 [some (.ref x0), some (.int x1), some (.int x2), some (.int x3)] [] h (some (.int rR)) hf := by
  intro n
  induction n with
  | zero =>
    intro x2 x3 h H
    cases H
  | succ n ih =>
    intro x2 x3 h H
    unfold f_X11_number_L11 at H
    refine jr_iload_n dX11_number_11 rfl rfl ?_
    refine jr_iload_n dX11_number_12 rfl rfl ?_
    refine jr_icmp_ge (tgt := 57) dX11_number_13 (by decide) H (fun H => ?_) (fun H => ?_)
    · refine jr_iload_n dX11_number_57 rfl rfl ?_
      exact jr_iret rfl dX11_number_58 H
    · refine jr_aload_n dX11_number_16 rfl rfl ?_
      obtain ⟨v4, h3, Hc, H⟩ := j_b2_some H
      refine jr_callV (ci := 11) [] my_X11_fine mv_X11_fine ml_RX11_148 dX11_number_17 rfl rfl (Nat.le_of_ble_eq_true rfl) rfl (c_X11_fine l (d + 2) F x0 h v4 h3 Hc) ?_
      refine jr_if_eq (tgt := 57) dX11_number_20 (by decide) H (fun H => ?_) (fun H => ?_)
      · refine jr_iload_n dX11_number_57 rfl rfl ?_
        exact jr_iret rfl dX11_number_58 H
      · refine jr_aload_n dX11_number_23 rfl rfl ?_
        obtain ⟨v6, h5, Hc, H⟩ := j_b2_some H
        refine jr_callV (ci := 11) [] my_X11_here mv_X11_here ml_RX11_152 dX11_number_24 rfl rfl (Nat.le_of_ble_eq_true rfl) rfl (c_X11_here l (d + 2) F x0 h3 v6 h5 Hc) ?_
        refine jr_bipush (v := 48) dX11_number_27 (by decide) ?_
        refine jr_bipush (v := 57) dX11_number_29 (by decide) ?_
        obtain ⟨v8, h7, Hc, H⟩ := j_b2_some H
        refine jr_callS [.int v6, .int 48, .int 57] my_X11_in ms_X11_in ml_RX11_116 dX11_number_31 rfl rfl (Nat.le_of_ble_eq_true rfl) (c_X11_in l (d + 2) F v6 48 57 h5 v8 h7 Hc) ?_
        refine jr_if_eq (tgt := 57) dX11_number_34 (by decide) H (fun H => ?_) (fun H => ?_)
        · refine jr_iload_n dX11_number_57 rfl rfl ?_
          exact jr_iret rfl dX11_number_58 H
        · refine jr_bipush (v := 10) dX11_number_37 (by decide) ?_
          refine jr_iload_n dX11_number_39 rfl rfl ?_
          refine jr_imul dX11_number_40 ?_
          refine jr_aload_n dX11_number_41 rfl rfl ?_
          refine jr_bipush (v := 48) dX11_number_42 (by decide) ?_
          refine jr_bipush (v := 10) dX11_number_44 (by decide) ?_
          obtain ⟨v10, h9, Hc, H⟩ := j_b2_some H
          refine jr_callV (ci := 11) [.int 48, .int 10] my_X11_oneOf mv_X11_oneOf ml_RX11_164 dX11_number_46 rfl rfl (Nat.le_of_ble_eq_true rfl) rfl (c_X11_oneOf l d F x0 48 10 h7 v10 h9 Hc) ?_
          refine jr_iadd dX11_number_49 ?_
          refine jr_istore_n dX11_number_50 rfl (by decide) rfl (Or.inl rfl) ?_
          refine jr_iinc (v := (x3 + 1)) dX11_number_51 rfl rfl (by decide) rfl (Or.inl rfl) ?_
          refine jr_goto (tgt := 11) dX11_number_54 (by decide) ?_
          exact ih _ _ _ H
set_option maxRecDepth 100000 in
set_option maxHeartbeats 4000000 in
theorem c_X11_number (l : Launch) (d : Nat) (F : Nat) (a0 : Nat) (a1 : Int32) (h : jH) (rR : Int32) (hf : jH) (H : f_X11_number F a0 a1 h = some (rR, hf)) : jh_sh h a0 = (11, 0) ∧ jMet l (d + 3) yX11_number cX11_number 4 (some .int) [.ref a0, .int a1] h (some (.int rR)) hf := by
  unfold f_X11_number at H
  obtain ⟨hsh, H⟩ := j_gd_some H
  refine ⟨hsh, ?_⟩
  refine jMet.of false [some (.ref a0), some (.int a1), none, none] rfl (by decide) (by decide) (Nat.le_of_ble_eq_true rfl) (fun S0 q hq => by simpa [j_l, lv_args, j_v, Value.category] using hq) ?_
  refine jr_aload_n dX11_number_0 rfl rfl ?_
  refine jr_bipush (v := 48) dX11_number_1 (by decide) ?_
  refine jr_bipush (v := 10) dX11_number_3 (by decide) ?_
  obtain ⟨v2, h1, Hc, H⟩ := j_b2_some H
  refine jr_callV (ci := 11) [.int 48, .int 10] my_X11_oneOf mv_X11_oneOf ml_RX11_164 dX11_number_5 rfl rfl (Nat.le_of_ble_eq_true rfl) rfl (c_X11_oneOf l d F a0 48 10 h v2 h1 Hc) ?_
  refine jr_istore_n dX11_number_8 rfl (by decide) rfl (Or.inl rfl) ?_
  refine jr_iconst (v := 1) dX11_number_9 (by decide) ?_
  refine jr_istore_n dX11_number_10 rfl (by decide) rfl (Or.inl rfl) ?_
  exact s_X11_number_L11 l d F a0 a1 F v2 1 h1 H
set_option maxRecDepth 100000 in
set_option maxHeartbeats 4000000 in
theorem c_X11_wasRight (l : Launch) (d : Nat) (F : Nat) (a0 : Nat) (h : jH) (rR : Int32) (hf : jH) (H : f_X11_wasRight F a0 h = some (rR, hf)) : jh_sh h a0 = (11, 0) ∧ jMet l (d + 2) yX11_wasRight cX11_wasRight 1 (some .boolean) [.ref a0] h (some (.int rR)) hf := by
  unfold f_X11_wasRight at H
  obtain ⟨hsh, H⟩ := j_gd_some H
  refine ⟨hsh, ?_⟩
  refine jMet.of false [some (.ref a0)] rfl (by decide) (by decide) (Nat.le_of_ble_eq_true rfl) (fun S0 q hq => by simpa [j_l, lv_args, j_v, Value.category] using hq) ?_
  refine jr_aload_n dX11_wasRight_0 rfl rfl ?_
  refine jr_getI fl_RX11_138 (by decide) dX11_wasRight_1 H (fun v1 H => ?_)
  refine jr_aload_n dX11_wasRight_4 rfl rfl ?_
  refine jr_getI fl_RX11_132 (by decide) dX11_wasRight_5 H (fun v2 H => ?_)
  refine jr_jn (fun J => ∀ (h3 : jH), J h3 = some (rR, hf) → jGo l (d + 2) none RX11 cX11_wasRight 1 (some .boolean) false 19 [some (.ref a0)] [] h3 (some (.int rR)) hf) H (fun h3 H => ?_) (fun J19 hJ19 H => ?_)
  · refine jr_aload_n dX11_wasRight_19 rfl rfl ?_
    obtain ⟨v5, h4, Hc, H⟩ := j_b2_some H
    refine jr_callV (ci := 11) [] my_X11_fine mv_X11_fine ml_RX11_148 dX11_wasRight_20 rfl rfl (Nat.le_of_ble_eq_true rfl) rfl (c_X11_fine l (d + 1) F a0 h3 v5 h4 Hc) ?_
    exact jr_zrz rfl dX11_wasRight_23 H
  · refine jr_icmp_ge (tgt := 19) dX11_wasRight_8 (by decide) H (fun H => ?_) (fun H => ?_)
    · exact hJ19 _ H
    · refine jr_aload_n dX11_wasRight_11 rfl rfl ?_
      refine jr_aload_n dX11_wasRight_12 rfl rfl ?_
      refine jr_getI fl_RX11_138 (by decide) dX11_wasRight_13 H (fun v6 H => ?_)
      obtain ⟨h7, Hc, H⟩ := Option.bind_eq_some_iff.mp H
      refine jr_callV (ci := 11) [.int v6] my_X11_fault mv_X11_fault ml_RX11_160 dX11_wasRight_16 rfl rfl (Nat.le_of_ble_eq_true rfl) rfl (c_X11_fault l d F a0 v6 h h7 Hc) ?_
      exact hJ19 _ H
set_option maxRecDepth 100000 in
set_option maxHeartbeats 4000000 in
theorem s_X11_road_L19 (l : Launch) (d : Nat) (F : Nat) (x0 : Nat) (x1 : Int32) (k45 : jH → Option (Int32 × jH)) {rR : Int32} {hf : jH} (hk45 : ∀ (h : jH), k45 h = some (rR, hf) → jGo l (d + 1) none RX11 cX11_road 4 (some .int) false 45 [some (.ref x0), some (.int x1), none, none] [] h (some (.int rR)) hf) : ∀ (n : Nat) (x2 : Int32) (h : jH), f_X11_road_L19 F x0 x1 k45 n x2 h = some (rR, hf) → jGo l (d + 1) none RX11 cX11_road 4 (some .int) false 19 [some (.ref x0), some (.int x1), some (.int x2), none] [] h (some (.int rR)) hf := by
  intro n
  induction n with
  | zero =>
    intro x2 h H
    cases H
  | succ n ih =>
    intro x2 h H
    unfold f_X11_road_L19 at H
    refine jr_iload_n dX11_road_19 rfl rfl ?_
    refine jr_aload_n dX11_road_20 rfl rfl ?_
    refine jr_getI fl_RX11_123 (by decide) dX11_road_21 H (fun v4 H => ?_)
    refine jr_icmp_ge (tgt := 45) dX11_road_24 (by decide) H (fun H => ?_) (fun H => ?_)
    · refine jr_fgt 2 ?_
      exact hk45 _ H
    · refine jr_aload_n dX11_road_27 rfl rfl ?_
      refine jr_getR fl_RX11_9 dX11_road_28 H (fun v5 H => ?_)
      refine jr_iload_n dX11_road_31 rfl rfl ?_
      refine jr_iald dX11_road_32 H (fun v6 H => ?_)
      refine jr_iload_n dX11_road_33 rfl rfl ?_
      refine jr_icmp_lt (tgt := 39) dX11_road_34 (by decide) H (fun H => ?_) (fun H => ?_)
      · refine jr_iinc (v := (x2 + 1)) dX11_road_39 rfl rfl (by decide) rfl (Or.inl rfl) ?_
        refine jr_goto (tgt := 19) dX11_road_42 (by decide) ?_
        exact ih _ _ H
      · refine jr_iconst (v := (-1)) dX11_road_37 (by decide) ?_
        exact jr_iret rfl dX11_road_38 H
set_option maxRecDepth 100000 in
set_option maxHeartbeats 4000000 in
theorem s_X11_road_L47 (l : Launch) (d : Nat) (F : Nat) (x0 : Nat) (x1 : Int32) (k77 : jH → Option (Int32 × jH)) {rR : Int32} {hf : jH} (hk77 : ∀ (h : jH), k77 h = some (rR, hf) → jGo l (d + 1) none RX11 cX11_road 4 (some .int) false 77 [some (.ref x0), some (.int x1), none, none] [] h (some (.int rR)) hf) : ∀ (n : Nat) (x2 : Int32) (h : jH), f_X11_road_L47 F x0 x1 k77 n x2 h = some (rR, hf) → jGo l (d + 1) none RX11 cX11_road 4 (some .int) false 47 [some (.ref x0), some (.int x1), some (.int x2), none] [] h (some (.int rR)) hf := by
  intro n
  induction n with
  | zero =>
    intro x2 h H
    cases H
  | succ n ih =>
    intro x2 h H
    unfold f_X11_road_L47 at H
    refine jr_iload_n dX11_road_47 rfl rfl ?_
    refine jr_aload_n dX11_road_48 rfl rfl ?_
    refine jr_getI fl_RX11_168 (by decide) dX11_road_49 H (fun v8 H => ?_)
    refine jr_icmp_ge (tgt := 77) dX11_road_52 (by decide) H (fun H => ?_) (fun H => ?_)
    · refine jr_fgt 2 ?_
      exact hk77 _ H
    · refine jr_aload_n dX11_road_55 rfl rfl ?_
      refine jr_getR fl_RX11_27 dX11_road_56 H (fun v9 H => ?_)
      refine jr_iconst (v := 4) dX11_road_59 (by decide) ?_
      refine jr_iload_n dX11_road_60 rfl rfl ?_
      refine jr_imul dX11_road_61 ?_
      refine jr_iconst (v := 2) dX11_road_62 (by decide) ?_
      refine jr_iadd dX11_road_63 ?_
      refine jr_iald dX11_road_64 H (fun v10 H => ?_)
      refine jr_iload_n dX11_road_65 rfl rfl ?_
      refine jr_icmp_lt (tgt := 71) dX11_road_66 (by decide) H (fun H => ?_) (fun H => ?_)
      · refine jr_iinc (v := (x2 + 1)) dX11_road_71 rfl rfl (by decide) rfl (Or.inl rfl) ?_
        refine jr_goto (tgt := 47) dX11_road_74 (by decide) ?_
        exact ih _ _ H
      · refine jr_iconst (v := (-1)) dX11_road_69 (by decide) ?_
        exact jr_iret rfl dX11_road_70 H
set_option maxRecDepth 100000 in
set_option maxHeartbeats 4000000 in
theorem s_X11_road_L91 (l : Launch) (d : Nat) (F : Nat) (x0 : Nat) (x2 : Int32) (k113 : jH → Option (Int32 × jH)) {rR : Int32} {hf : jH} (hk113 : ∀ (h : jH), k113 h = some (rR, hf) → jGo l (d + 1) none RX11 cX11_road 4 (some .int) false 113 [some (.ref x0), none, some (.int x2), none] [] h (some (.int rR)) hf) : ∀ (n : Nat) (x3 : Int32) (h : jH), f_X11_road_L91 F x0 x2 k113 n x3 h = some (rR, hf) → jGo l (d + 1) none RX11 cX11_road 4 (some .int) false 91 [some (.ref x0), none, some (.int x2), some (.int x3)] [] h (some (.int rR)) hf := by
  intro n
  induction n with
  | zero =>
    intro x3 h H
    cases H
  | succ n ih =>
    intro x3 h H
    unfold f_X11_road_L91 at H
    refine jr_iload_n dX11_road_91 rfl rfl ?_
    refine jr_bipush (v := 30) dX11_road_92 (by decide) ?_
    refine jr_icmp_ge (tgt := 113) dX11_road_94 (by decide) H (fun H => ?_) (fun H => ?_)
    · refine jr_fgt 3 ?_
      exact hk113 _ H
    · refine jr_aload_n dX11_road_97 rfl rfl ?_
      refine jr_getR fl_RX11_9 dX11_road_98 H (fun v14 H => ?_)
      refine jr_bipush (v := 14) dX11_road_101 (by decide) ?_
      refine jr_iload_n dX11_road_103 rfl rfl ?_
      refine jr_iadd dX11_road_104 ?_
      refine jr_iconst (v := 0) dX11_road_105 (by decide) ?_
      refine jr_iast dX11_road_106 H (fun h15 H => ?_)
      refine jr_iinc (v := (x3 + 1)) dX11_road_107 rfl rfl (by decide) rfl (Or.inl rfl) ?_
      refine jr_goto (tgt := 91) dX11_road_110 (by decide) ?_
      exact ih _ _ H
set_option maxRecDepth 100000 in
set_option maxHeartbeats 4000000 in
theorem c_X11_road (l : Launch) (d : Nat) (F : Nat) (a0 : Nat) (a1 : Int32) (h : jH) (rR : Int32) (hf : jH) (H : f_X11_road F a0 a1 h = some (rR, hf)) : jh_sh h a0 = (11, 0) ∧ jMet l (d + 1) yX11_road cX11_road 4 (some .int) [.ref a0, .int a1] h (some (.int rR)) hf := by
  unfold f_X11_road at H
  obtain ⟨hsh, H⟩ := j_gd_some H
  refine ⟨hsh, ?_⟩
  refine jMet.of false [some (.ref a0), some (.int a1), none, none] rfl (by decide) (by decide) (Nat.le_of_ble_eq_true rfl) (fun S0 q hq => by simpa [j_l, lv_args, j_v, Value.category] using hq) ?_
  refine jr_aload_n dX11_road_0 rfl rfl ?_
  refine jr_iconst (v := 0) dX11_road_1 (by decide) ?_
  refine jr_putI fl_RX11_110 (fun z => by cases z) dX11_road_2 H (fun h1 H => ?_)
  refine jr_iload_n dX11_road_5 rfl rfl ?_
  refine jr_iconst (v := 1) dX11_road_6 (by decide) ?_
  refine jr_bipush (v := 6) dX11_road_7 (by decide) ?_
  obtain ⟨v3, h2, Hc, H⟩ := j_b2_some H
  refine jr_callS [.int a1, .int 1, .int 6] my_X11_in ms_X11_in ml_RX11_116 dX11_road_9 rfl rfl (Nat.le_of_ble_eq_true rfl) (c_X11_in l d F a1 1 6 h1 v3 h2 Hc) ?_
  refine jr_if_ne (tgt := 17) dX11_road_12 (by decide) H (fun H => ?_) (fun H => ?_)
  · refine jr_iconst (v := (-1)) dX11_road_15 (by decide) ?_
    exact jr_iret rfl dX11_road_16 H
  · refine jr_iconst (v := 0) dX11_road_17 (by decide) ?_
    refine jr_istore_n dX11_road_18 rfl (by decide) rfl (Or.inl rfl) ?_
    refine s_X11_road_L19 l d F a0 a1 _ (fun h7 H => ?_) F 0 h2 H
    · refine jr_iconst (v := 0) dX11_road_45 (by decide) ?_
      refine jr_istore_n dX11_road_46 rfl (by decide) rfl (Or.inl rfl) ?_
      refine s_X11_road_L47 l d F a0 a1 _ (fun h11 H => ?_) F 0 h7 H
      · refine jr_aload_n dX11_road_77 rfl rfl ?_
        refine jr_getI fl_RX11_13 (by decide) dX11_road_78 H (fun v12 H => ?_)
        refine jr_istore_n dX11_road_81 rfl (by decide) rfl (Or.inl rfl) ?_
        refine jr_aload_n dX11_road_82 rfl rfl ?_
        refine jr_iload_n dX11_road_83 rfl rfl ?_
        refine jr_putI fl_RX11_13 (fun z => by cases z) dX11_road_84 H (fun h13 H => ?_)
        refine jr_iconst (v := 5) dX11_road_87 (by decide) ?_
        refine jr_iload_n dX11_road_88 rfl rfl ?_
        refine jr_imul dX11_road_89 ?_
        refine jr_istore_n dX11_road_90 rfl (by decide) rfl (Or.inl rfl) ?_
        refine jr_fgt 1 ?_
        refine s_X11_road_L91 l d F a0 v12 _ (fun h16 H => ?_) F ((5 : Int32) * a1) h13 H
        · refine jr_aload_n dX11_road_113 rfl rfl ?_
          refine jr_iconst (v := 0) dX11_road_114 (by decide) ?_
          refine jr_putI fl_RX11_171 (fun z => by cases z) dX11_road_115 H (fun h17 H => ?_)
          refine jr_aload_n dX11_road_118 rfl rfl ?_
          refine jr_dup dX11_road_119 rfl ?_
          refine jr_getI fl_RX11_174 (by decide) dX11_road_120 H (fun v18 H => ?_)
          refine jr_iconst (v := 1) dX11_road_123 (by decide) ?_
          refine jr_iadd dX11_road_124 ?_
          refine jr_putI fl_RX11_174 (fun z => by cases z) dX11_road_125 H (fun h19 H => ?_)
          refine jr_iload_n dX11_road_128 rfl rfl ?_
          exact jr_iret rfl dX11_road_129 H
set_option maxRecDepth 100000 in
set_option maxHeartbeats 4000000 in
theorem s_X11_readWord_L66 (l : Launch) (d : Nat) (F : Nat) (x0 : Nat) (x1 : Int32) {hf : jH} : ∀ (n : Nat) (h : jH), f_X11_readWord_L66 F x0 x1 n h = some hf → jGo l (d + 3) none RX11 cX11_readWord 2 none false 66 [some (.ref x0), some (.int x1)] [] h none hf := by
  intro n
  induction n with
  | zero =>
    intro h H
    cases H
  | succ n ih =>
    intro h H
    unfold f_X11_readWord_L66 at H
    refine jr_aload_n dX11_readWord_66 rfl rfl ?_
    obtain ⟨v16, h15, Hc, H⟩ := j_b2_some H
    refine jr_callV (ci := 11) [] my_X11_fine mv_X11_fine ml_RX11_148 dX11_readWord_67 rfl rfl (Nat.le_of_ble_eq_true rfl) rfl (c_X11_fine l (d + 2) F x0 h v16 h15 Hc) ?_
    refine jr_if_eq (tgt := 156) dX11_readWord_70 (by decide) H (fun H => ?_) (fun H => ?_)
    · exact jr_vret rfl dX11_readWord_156 H
    · refine jr_aload_n dX11_readWord_73 rfl rfl ?_
      refine jr_getR fl_RX11_40 dX11_readWord_74 H (fun v17 H => ?_)
      refine jr_iload_n dX11_readWord_77 rfl rfl ?_
      refine jr_iald dX11_readWord_78 H (fun v18 H => ?_)
      refine jr_jn (fun J => ∀ (h19 : jH), J h19 = some hf → jGo l (d + 3) none RX11 cX11_readWord 2 none false 96 [some (.ref x0), some (.int x1)] [] h19 none hf) H (fun h19 H => ?_) (fun J96 hJ96 H => ?_)
      · refine jr_aload_n dX11_readWord_96 rfl rfl ?_
        refine jr_getR fl_RX11_40 dX11_readWord_97 H (fun v20 H => ?_)
        refine jr_iload_n dX11_readWord_100 rfl rfl ?_
        refine jr_iald dX11_readWord_101 H (fun v21 H => ?_)
        refine jr_bipush (v := 6) dX11_readWord_102 (by decide) ?_
        refine jr_icmp_ne (tgt := 118) dX11_readWord_104 (by decide) H (fun H => ?_) (fun H => ?_)
        · refine jr_aload_n dX11_readWord_107 rfl rfl ?_
          refine jr_aload_n dX11_readWord_108 rfl rfl ?_
          refine jr_getI fl_RX11_138 (by decide) dX11_readWord_109 H (fun v22 H => ?_)
          obtain ⟨h23, Hc, H⟩ := Option.bind_eq_some_iff.mp H
          refine jr_callV (ci := 11) [.int v22] my_X11_fault mv_X11_fault ml_RX11_160 dX11_readWord_112 rfl rfl (Nat.le_of_ble_eq_true rfl) rfl (c_X11_fault l (d + 1) F x0 v22 h19 h23 Hc) ?_
          refine jr_goto (tgt := 66) dX11_readWord_115 (by decide) ?_
          exact ih _ H
        · refine jr_aload_n dX11_readWord_118 rfl rfl ?_
          refine jr_getR fl_RX11_37 dX11_readWord_119 H (fun v24 H => ?_)
          refine jr_bipush (v := 6) dX11_readWord_122 (by decide) ?_
          refine jr_iload_n dX11_readWord_124 rfl rfl ?_
          refine jr_imul dX11_readWord_125 ?_
          refine jr_aload_n dX11_readWord_126 rfl rfl ?_
          refine jr_getR fl_RX11_40 dX11_readWord_127 H (fun v25 H => ?_)
          refine jr_iload_n dX11_readWord_130 rfl rfl ?_
          refine jr_iald dX11_readWord_131 H (fun v26 H => ?_)
          refine jr_iadd dX11_readWord_132 ?_
          refine jr_aload_n dX11_readWord_133 rfl rfl ?_
          refine jr_bipush (v := 97) dX11_readWord_134 (by decide) ?_
          refine jr_bipush (v := 26) dX11_readWord_136 (by decide) ?_
          obtain ⟨v28, h27, Hc, H⟩ := j_b2_some H
          refine jr_callV (ci := 11) [.int 97, .int 26] my_X11_oneOf mv_X11_oneOf ml_RX11_164 dX11_readWord_138 rfl rfl (Nat.le_of_ble_eq_true rfl) rfl (c_X11_oneOf l d F x0 97 26 h19 v28 h27 Hc) ?_
          refine jr_i2b dX11_readWord_141 ?_
          refine jr_bast dX11_readWord_142 H (fun h29 H => ?_)
          refine jr_aload_n dX11_readWord_143 rfl rfl ?_
          refine jr_getR fl_RX11_40 dX11_readWord_144 H (fun v30 H => ?_)
          refine jr_iload_n dX11_readWord_147 rfl rfl ?_
          refine jr_dup2 dX11_readWord_148 rfl rfl ?_
          refine jr_iald dX11_readWord_149 H (fun v31 H => ?_)
          refine jr_iconst (v := 1) dX11_readWord_150 (by decide) ?_
          refine jr_iadd dX11_readWord_151 ?_
          refine jr_iast dX11_readWord_152 H (fun h32 H => ?_)
          refine jr_goto (tgt := 66) dX11_readWord_153 (by decide) ?_
          exact ih _ H
      · refine jr_if_eq (tgt := 96) dX11_readWord_79 (by decide) H (fun H => ?_) (fun H => ?_)
        · exact hJ96 _ H
        · refine jr_aload_n dX11_readWord_82 rfl rfl ?_
          obtain ⟨v34, h33, Hc, H⟩ := j_b2_some H
          refine jr_callV (ci := 11) [] my_X11_here mv_X11_here ml_RX11_152 dX11_readWord_83 rfl rfl (Nat.le_of_ble_eq_true rfl) rfl (c_X11_here l (d + 2) F x0 h15 v34 h33 Hc) ?_
          refine jr_bipush (v := 97) dX11_readWord_86 (by decide) ?_
          refine jr_bipush (v := 122) dX11_readWord_88 (by decide) ?_
          obtain ⟨v36, h35, Hc, H⟩ := j_b2_some H
          refine jr_callS [.int v34, .int 97, .int 122] my_X11_in ms_X11_in ml_RX11_116 dX11_readWord_90 rfl rfl (Nat.le_of_ble_eq_true rfl) (c_X11_in l (d + 2) F v34 97 122 h33 v36 h35 Hc) ?_
          refine jr_if_eq (tgt := 156) dX11_readWord_93 (by decide) H (fun H => ?_) (fun H => ?_)
          · exact jr_vret rfl dX11_readWord_156 H
          · exact hJ96 _ H
set_option maxRecDepth 100000 in
set_option maxHeartbeats 4000000 in
theorem c_X11_readWord (l : Launch) (d : Nat) (F : Nat) (a0 : Nat) (a1 : Int32) (h : jH) (hf : jH) (H : f_X11_readWord F a0 a1 h = some hf) : jh_sh h a0 = (11, 0) ∧ jMet l (d + 3) yX11_readWord cX11_readWord 2 none [.ref a0, .int a1] h none hf := by
  unfold f_X11_readWord at H
  obtain ⟨hsh, H⟩ := j_gd_some H
  refine ⟨hsh, ?_⟩
  refine jMet.of false [some (.ref a0), some (.int a1)] rfl (by decide) (by decide) (Nat.le_of_ble_eq_true rfl) (fun S0 q hq => by simpa [j_l, lv_args, j_v, Value.category] using hq) ?_
  refine jr_aload_n dX11_readWord_0 rfl rfl ?_
  refine jr_getR fl_RX11_43 dX11_readWord_1 H (fun v1 H => ?_)
  refine jr_iconst (v := 2) dX11_readWord_4 (by decide) ?_
  refine jr_iload_n dX11_readWord_5 rfl rfl ?_
  refine jr_imul dX11_readWord_6 ?_
  refine jr_aload_n dX11_readWord_7 rfl rfl ?_
  refine jr_bipush (v := 48) dX11_readWord_8 (by decide) ?_
  refine jr_bipush (v := 10) dX11_readWord_10 (by decide) ?_
  obtain ⟨v3, h2, Hc, H⟩ := j_b2_some H
  refine jr_callV (ci := 11) [.int 48, .int 10] my_X11_oneOf mv_X11_oneOf ml_RX11_164 dX11_readWord_12 rfl rfl (Nat.le_of_ble_eq_true rfl) rfl (c_X11_oneOf l d F a0 48 10 h v3 h2 Hc) ?_
  refine jr_iast dX11_readWord_15 H (fun h4 H => ?_)
  refine jr_aload_n dX11_readWord_16 rfl rfl ?_
  refine jr_getR fl_RX11_43 dX11_readWord_17 H (fun v5 H => ?_)
  refine jr_iconst (v := 2) dX11_readWord_20 (by decide) ?_
  refine jr_iload_n dX11_readWord_21 rfl rfl ?_
  refine jr_imul dX11_readWord_22 ?_
  refine jr_iconst (v := 1) dX11_readWord_23 (by decide) ?_
  refine jr_iadd dX11_readWord_24 ?_
  refine jr_aload_n dX11_readWord_25 rfl rfl ?_
  obtain ⟨v7, h6, Hc, H⟩ := j_b2_some H
  refine jr_callV (ci := 11) [] my_X11_fine mv_X11_fine ml_RX11_148 dX11_readWord_26 rfl rfl (Nat.le_of_ble_eq_true rfl) rfl (c_X11_fine l (d + 2) F a0 h4 v7 h6 Hc) ?_
  refine jr_jn (fun J => ∀ (s8 : Int32) (s9 : Int32) (s10 : Nat) (h11 : jH), J s8 s9 s10 h11 = some hf → jGo l (d + 3) none RX11 cX11_readWord 2 none false 58 [some (.ref a0), some (.int a1)] [.int s8, .int s9, .ref s10] h11 none hf) H (fun s8 s9 s10 h11 H => ?_) (fun J58 hJ58 H => ?_)
  · refine jr_iast dX11_readWord_58 H (fun h12 H => ?_)
    refine jr_aload_n dX11_readWord_59 rfl rfl ?_
    refine jr_getR fl_RX11_40 dX11_readWord_60 H (fun v13 H => ?_)
    refine jr_iload_n dX11_readWord_63 rfl rfl ?_
    refine jr_iconst (v := 0) dX11_readWord_64 (by decide) ?_
    refine jr_iast dX11_readWord_65 H (fun h14 H => ?_)
    exact s_X11_readWord_L66 l d F a0 a1 F h14 H
  · refine jr_jn (fun J => ∀ (s37 : Int32) (s38 : Nat) (h39 : jH), J s37 s38 h39 = some hf → jGo l (d + 3) none RX11 cX11_readWord 2 none false 57 [some (.ref a0), some (.int a1)] [.int s37, .ref s38] h39 none hf) H (fun s37 s38 h39 H => ?_) (fun J57 hJ57 H => ?_)
    · refine jr_iconst (v := (-1)) dX11_readWord_57 (by decide) ?_
      exact hJ58 _ _ _ _ H
    · refine jr_if_eq (tgt := 57) dX11_readWord_29 (by decide) H (fun H => ?_) (fun H => ?_)
      · exact hJ57 _ _ _ H
      · refine jr_aload_n dX11_readWord_32 rfl rfl ?_
        obtain ⟨v41, h40, Hc, H⟩ := j_b2_some H
        refine jr_callV (ci := 11) [] my_X11_here mv_X11_here ml_RX11_152 dX11_readWord_33 rfl rfl (Nat.le_of_ble_eq_true rfl) rfl (c_X11_here l (d + 2) F a0 h6 v41 h40 Hc) ?_
        refine jr_bipush (v := 48) dX11_readWord_36 (by decide) ?_
        refine jr_bipush (v := 57) dX11_readWord_38 (by decide) ?_
        obtain ⟨v43, h42, Hc, H⟩ := j_b2_some H
        refine jr_callS [.int v41, .int 48, .int 57] my_X11_in ms_X11_in ml_RX11_116 dX11_readWord_40 rfl rfl (Nat.le_of_ble_eq_true rfl) (c_X11_in l (d + 2) F v41 48 57 h40 v43 h42 Hc) ?_
        refine jr_if_eq (tgt := 57) dX11_readWord_43 (by decide) H (fun H => ?_) (fun H => ?_)
        · exact hJ57 _ _ _ H
        · refine jr_aload_n dX11_readWord_46 rfl rfl ?_
          refine jr_bipush (v := 48) dX11_readWord_47 (by decide) ?_
          refine jr_bipush (v := 10) dX11_readWord_49 (by decide) ?_
          obtain ⟨v45, h44, Hc, H⟩ := j_b2_some H
          refine jr_callV (ci := 11) [.int 48, .int 10] my_X11_oneOf mv_X11_oneOf ml_RX11_164 dX11_readWord_51 rfl rfl (Nat.le_of_ble_eq_true rfl) rfl (c_X11_oneOf l d F a0 48 10 h42 v45 h44 Hc) ?_
          refine jr_goto (tgt := 58) dX11_readWord_54 (by decide) ?_
          exact hJ58 _ _ _ _ H
