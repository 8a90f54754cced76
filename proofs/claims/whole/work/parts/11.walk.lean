set_option maxRecDepth 100000 in
set_option maxHeartbeats 4000000 in
theorem c_X0_init (l : Launch) (d : Nat) (F : Nat) (a0 : Nat) (h : jH) (hf : jH) (H : f_X0_init F a0 h = some hf) : jMet l (d + 1) yX0_init cX0_init 1 none [.ref a0] h none hf := by
  unfold f_X0_init at H
  refine jMet.of true [some (.ref a0)] rfl (by decide) (by decide) (Nat.le_of_ble_eq_true rfl) (fun S0 q hq => by simpa [j_l, lv_args, j_v, Value.category] using hq) ?_
  refine jr_aload_n dX0_init_0 rfl rfl ?_
  refine jr_objInit ml_RX0_3 oi_i oi_c dX0_init_1 (Nat.le_of_ble_eq_true rfl) ?_
  refine jr_aload_n dX0_init_4 rfl rfl ?_
  refine jr_bipush (v := 6) dX0_init_5 (by decide) ?_
  refine jr_newI aw_I dX0_init_7 H (fun a1 h2 H => ?_)
  refine jr_putR fl_RX0_9 (fun _ => ⟨rfl, rfl⟩) dX0_init_9 H (fun h3 H => ?_)
  refine jr_aload_n dX0_init_12 rfl rfl ?_
  refine jr_bipush (v := 6) dX0_init_13 (by decide) ?_
  refine jr_newI aw_I dX0_init_15 H (fun a4 h5 H => ?_)
  refine jr_putR fl_RX0_15 (fun _ => ⟨rfl, rfl⟩) dX0_init_17 H (fun h6 H => ?_)
  refine jr_aload_n dX0_init_20 rfl rfl ?_
  refine jr_bipush (v := 7) dX0_init_21 (by decide) ?_
  refine jr_newI aw_I dX0_init_23 H (fun a7 h8 H => ?_)
  refine jr_putR fl_RX0_18 (fun _ => ⟨rfl, rfl⟩) dX0_init_25 H (fun h9 H => ?_)
  refine jr_aload_n dX0_init_28 rfl rfl ?_
  refine jr_bipush (v := 10) dX0_init_29 (by decide) ?_
  refine jr_newI aw_I dX0_init_31 H (fun a10 h11 H => ?_)
  refine jr_putR fl_RX0_21 (fun _ => ⟨rfl, rfl⟩) dX0_init_33 H (fun h12 H => ?_)
  exact jr_vret rfl dX0_init_36 H
set_option maxRecDepth 100000 in
set_option maxHeartbeats 4000000 in
theorem c_X2_init (l : Launch) (d : Nat) (F : Nat) (a0 : Nat) (h : jH) (hf : jH) (H : f_X2_init F a0 h = some hf) : jMet l (d + 1) yX2_init cX2_init 1 none [.ref a0] h none hf := by
  unfold f_X2_init at H
  refine jMet.of true [some (.ref a0)] rfl (by decide) (by decide) (Nat.le_of_ble_eq_true rfl) (fun S0 q hq => by simpa [j_l, lv_args, j_v, Value.category] using hq) ?_
  refine jr_aload_n dX2_init_0 rfl rfl ?_
  refine jr_objInit ml_RX2_3 oi_i oi_c dX2_init_1 (Nat.le_of_ble_eq_true rfl) ?_
  refine jr_aload_n dX2_init_4 rfl rfl ?_
  refine jr_bipush (v := 8) dX2_init_5 (by decide) ?_
  refine jr_newI aw_I dX2_init_7 H (fun a1 h2 H => ?_)
  refine jr_putR fl_RX2_9 (fun _ => ⟨rfl, rfl⟩) dX2_init_9 H (fun h3 H => ?_)
  refine jr_aload_n dX2_init_12 rfl rfl ?_
  refine jr_bipush (v := 8) dX2_init_13 (by decide) ?_
  refine jr_newI aw_I dX2_init_15 H (fun a4 h5 H => ?_)
  refine jr_putR fl_RX2_15 (fun _ => ⟨rfl, rfl⟩) dX2_init_17 H (fun h6 H => ?_)
  refine jr_aload_n dX2_init_20 rfl rfl ?_
  refine jr_bipush (v := 8) dX2_init_21 (by decide) ?_
  refine jr_newI aw_I dX2_init_23 H (fun a7 h8 H => ?_)
  refine jr_putR fl_RX2_18 (fun _ => ⟨rfl, rfl⟩) dX2_init_25 H (fun h9 H => ?_)
  refine jr_aload_n dX2_init_28 rfl rfl ?_
  refine jr_bipush (v := 8) dX2_init_29 (by decide) ?_
  refine jr_newI aw_I dX2_init_31 H (fun a10 h11 H => ?_)
  refine jr_putR fl_RX2_21 (fun _ => ⟨rfl, rfl⟩) dX2_init_33 H (fun h12 H => ?_)
  refine jr_aload_n dX2_init_36 rfl rfl ?_
  refine jr_bipush (v := 8) dX2_init_37 (by decide) ?_
  refine jr_newI aw_I dX2_init_39 H (fun a13 h14 H => ?_)
  refine jr_putR fl_RX2_24 (fun _ => ⟨rfl, rfl⟩) dX2_init_41 H (fun h15 H => ?_)
  exact jr_vret rfl dX2_init_44 H
set_option maxRecDepth 100000 in
set_option maxHeartbeats 4000000 in
theorem c_X3_init (l : Launch) (d : Nat) (F : Nat) (a0 : Nat) (h : jH) (hf : jH) (H : f_X3_init F a0 h = some hf) : jMet l (d + 1) yX3_init cX3_init 1 none [.ref a0] h none hf := by
  unfold f_X3_init at H
  refine jMet.of true [some (.ref a0)] rfl (by decide) (by decide) (Nat.le_of_ble_eq_true rfl) (fun S0 q hq => by simpa [j_l, lv_args, j_v, Value.category] using hq) ?_
  refine jr_aload_n dX3_init_0 rfl rfl ?_
  refine jr_objInit ml_RX3_3 oi_i oi_c dX3_init_1 (Nat.le_of_ble_eq_true rfl) ?_
  refine jr_aload_n dX3_init_4 rfl rfl ?_
  refine jr_bipush (v := 10) dX3_init_5 (by decide) ?_
  refine jr_newI aw_I dX3_init_7 H (fun a1 h2 H => ?_)
  refine jr_putR fl_RX3_9 (fun _ => ⟨rfl, rfl⟩) dX3_init_9 H (fun h3 H => ?_)
  refine jr_aload_n dX3_init_12 rfl rfl ?_
  refine jr_bipush (v := 10) dX3_init_13 (by decide) ?_
  refine jr_newI aw_I dX3_init_15 H (fun a4 h5 H => ?_)
  refine jr_putR fl_RX3_15 (fun _ => ⟨rfl, rfl⟩) dX3_init_17 H (fun h6 H => ?_)
  refine jr_aload_n dX3_init_20 rfl rfl ?_
  refine jr_bipush (v := 10) dX3_init_21 (by decide) ?_
  refine jr_newI aw_I dX3_init_23 H (fun a7 h8 H => ?_)
  refine jr_putR fl_RX3_18 (fun _ => ⟨rfl, rfl⟩) dX3_init_25 H (fun h9 H => ?_)
  refine jr_aload_n dX3_init_28 rfl rfl ?_
  refine jr_bipush (v := 60) dX3_init_29 (by decide) ?_
  refine jr_newI aw_I dX3_init_31 H (fun a10 h11 H => ?_)
  refine jr_putR fl_RX3_21 (fun _ => ⟨rfl, rfl⟩) dX3_init_33 H (fun h12 H => ?_)
  refine jr_aload_n dX3_init_36 rfl rfl ?_
  refine jr_bipush (v := 50) dX3_init_37 (by decide) ?_
  refine jr_newI aw_I dX3_init_39 H (fun a13 h14 H => ?_)
  refine jr_putR fl_RX3_24 (fun _ => ⟨rfl, rfl⟩) dX3_init_41 H (fun h15 H => ?_)
  refine jr_aload_n dX3_init_44 rfl rfl ?_
  refine jr_bipush (v := 10) dX3_init_45 (by decide) ?_
  refine jr_newI aw_I dX3_init_47 H (fun a16 h17 H => ?_)
  refine jr_putR fl_RX3_27 (fun _ => ⟨rfl, rfl⟩) dX3_init_49 H (fun h18 H => ?_)
  refine jr_aload_n dX3_init_52 rfl rfl ?_
  refine jr_bipush (v := 7) dX3_init_53 (by decide) ?_
  refine jr_newI aw_I dX3_init_55 H (fun a19 h20 H => ?_)
  refine jr_putR fl_RX3_30 (fun _ => ⟨rfl, rfl⟩) dX3_init_57 H (fun h21 H => ?_)
  exact jr_vret rfl dX3_init_60 H
set_option maxRecDepth 100000 in
set_option maxHeartbeats 4000000 in
theorem c_X7_init (l : Launch) (d : Nat) (F : Nat) (a0 : Nat) (h : jH) (hf : jH) (H : f_X7_init F a0 h = some hf) : jMet l (d + 1) yX7_init cX7_init 1 none [.ref a0] h none hf := by
  unfold f_X7_init at H
  refine jMet.of true [some (.ref a0)] rfl (by decide) (by decide) (Nat.le_of_ble_eq_true rfl) (fun S0 q hq => by simpa [j_l, lv_args, j_v, Value.category] using hq) ?_
  refine jr_aload_n dX7_init_0 rfl rfl ?_
  refine jr_objInit ml_RX7_3 oi_i oi_c dX7_init_1 (Nat.le_of_ble_eq_true rfl) ?_
  refine jr_aload_n dX7_init_4 rfl rfl ?_
  refine jr_iconst (v := 4) dX7_init_5 (by decide) ?_
  refine jr_newI aw_I dX7_init_6 H (fun a1 h2 H => ?_)
  refine jr_putR fl_RX7_9 (fun _ => ⟨rfl, rfl⟩) dX7_init_8 H (fun h3 H => ?_)
  refine jr_aload_n dX7_init_11 rfl rfl ?_
  refine jr_iconst (v := 4) dX7_init_12 (by decide) ?_
  refine jr_newI aw_I dX7_init_13 H (fun a4 h5 H => ?_)
  refine jr_putR fl_RX7_15 (fun _ => ⟨rfl, rfl⟩) dX7_init_15 H (fun h6 H => ?_)
  refine jr_aload_n dX7_init_18 rfl rfl ?_
  refine jr_iconst (v := 4) dX7_init_19 (by decide) ?_
  refine jr_newI aw_I dX7_init_20 H (fun a7 h8 H => ?_)
  refine jr_putR fl_RX7_18 (fun _ => ⟨rfl, rfl⟩) dX7_init_22 H (fun h9 H => ?_)
  refine jr_aload_n dX7_init_25 rfl rfl ?_
  refine jr_bipush (v := 30) dX7_init_26 (by decide) ?_
  refine jr_newI aw_I dX7_init_28 H (fun a10 h11 H => ?_)
  refine jr_putR fl_RX7_21 (fun _ => ⟨rfl, rfl⟩) dX7_init_30 H (fun h12 H => ?_)
  exact jr_vret rfl dX7_init_33 H
set_option maxRecDepth 100000 in
set_option maxHeartbeats 4000000 in
theorem s_X4_init_L15 (l : Launch) (d : Nat) (F : Nat) (x0 : Nat) {hf : jH} : ∀ (n : Nat) (x1 : Int32) (h : jH), f_X4_init_L15 F x0 n x1 h = some hf → jGo l (d + 2) none RX4 cX4_init 2 none true 15 [some (.ref x0), some (.int x1)] [] h none hf := by
  intro n
  induction n with
  | zero =>
    intro x1 h H
    cases H
  | succ n ih =>
    intro x1 h H
    unfold f_X4_init_L15 at H
    refine jr_iload_n dX4_init_15 rfl rfl ?_
    refine jr_bipush (v := 12) dX4_init_16 (by decide) ?_
    refine jr_icmp_gt (tgt := 40) dX4_init_18 (by decide) H (fun H => ?_) (fun H => ?_)
    · exact jr_vret rfl dX4_init_40 H
    · refine jr_aload_n dX4_init_21 rfl rfl ?_
      refine jr_getR fl_RX4_11 dX4_init_22 H (fun v4 H => ?_)
      refine jr_iload_n dX4_init_25 rfl rfl ?_
      refine jr_new nw_RX4_9 dX4_init_26 H (fun a5 h6 H => ?_)
      refine jr_dup dX4_init_29 rfl ?_
      obtain ⟨h7, Hc, H⟩ := Option.bind_eq_some_iff.mp H
      refine jr_callN [] my_X7_init mi_X7_init ml_RX4_15 dX4_init_30 rfl rfl (Nat.le_of_ble_eq_true rfl) (c_X7_init l d F a5 h6 h7 Hc) ?_
      refine jr_aast dX4_init_33 H (fun h8 H => ?_)
      refine jr_iinc (v := (x1 + 1)) dX4_init_34 rfl rfl (by decide) rfl (Or.inl rfl) ?_
      refine jr_goto (tgt := 15) dX4_init_37 (by decide) ?_
      exact ih _ _ H
set_option maxRecDepth 100000 in
set_option maxHeartbeats 4000000 in
theorem c_X4_init (l : Launch) (d : Nat) (F : Nat) (a0 : Nat) (h : jH) (hf : jH) (H : f_X4_init F a0 h = some hf) : jMet l (d + 2) yX4_init cX4_init 2 none [.ref a0] h none hf := by
  unfold f_X4_init at H
  refine jMet.of true [some (.ref a0), none] rfl (by decide) (by decide) (Nat.le_of_ble_eq_true rfl) (fun S0 q hq => by simpa [j_l, lv_args, j_v, Value.category] using hq) ?_
  refine jr_aload_n dX4_init_0 rfl rfl ?_
  refine jr_objInit ml_RX4_1 oi_i oi_c dX4_init_1 (Nat.le_of_ble_eq_true rfl) ?_
  refine jr_aload_n dX4_init_4 rfl rfl ?_
  refine jr_bipush (v := 13) dX4_init_5 (by decide) ?_
  refine jr_newR aw_R cl_RX4_9 dX4_init_7 H (fun a1 h2 H => ?_)
  refine jr_putR fl_RX4_11 (fun _ => ⟨rfl, rfl⟩) dX4_init_10 H (fun h3 H => ?_)
  refine jr_iconst (v := 0) dX4_init_13 (by decide) ?_
  refine jr_istore_n dX4_init_14 rfl (by decide) rfl (Or.inl rfl) ?_
  exact s_X4_init_L15 l d F a0 F 0 h3 H
set_option maxRecDepth 100000 in
set_option maxHeartbeats 4000000 in
theorem c_X5_init (l : Launch) (d : Nat) (F : Nat) (a0 : Nat) (h : jH) (hf : jH) (H : f_X5_init F a0 h = some hf) : jMet l (d + 1) yX5_init cX5_init 1 none [.ref a0] h none hf := by
  unfold f_X5_init at H
  refine jMet.of true [some (.ref a0)] rfl (by decide) (by decide) (Nat.le_of_ble_eq_true rfl) (fun S0 q hq => by simpa [j_l, lv_args, j_v, Value.category] using hq) ?_
  refine jr_aload_n dX5_init_0 rfl rfl ?_
  refine jr_objInit ml_RX5_3 oi_i oi_c dX5_init_1 (Nat.le_of_ble_eq_true rfl) ?_
  refine jr_aload_n dX5_init_4 rfl rfl ?_
  refine jr_bipush (v := 12) dX5_init_5 (by decide) ?_
  refine jr_newI aw_I dX5_init_7 H (fun a1 h2 H => ?_)
  refine jr_putR fl_RX5_9 (fun _ => ⟨rfl, rfl⟩) dX5_init_9 H (fun h3 H => ?_)
  refine jr_aload_n dX5_init_12 rfl rfl ?_
  refine jr_bipush (v := 12) dX5_init_13 (by decide) ?_
  refine jr_newI aw_I dX5_init_15 H (fun a4 h5 H => ?_)
  refine jr_putR fl_RX5_15 (fun _ => ⟨rfl, rfl⟩) dX5_init_17 H (fun h6 H => ?_)
  refine jr_aload_n dX5_init_20 rfl rfl ?_
  refine jr_bipush (v := 13) dX5_init_21 (by decide) ?_
  refine jr_newI aw_I dX5_init_23 H (fun a7 h8 H => ?_)
  refine jr_putR fl_RX5_18 (fun _ => ⟨rfl, rfl⟩) dX5_init_25 H (fun h9 H => ?_)
  refine jr_aload_n dX5_init_28 rfl rfl ?_
  refine jr_sipush (v := 1536) dX5_init_29 (by decide) ?_
  refine jr_newI aw_I dX5_init_32 H (fun a10 h11 H => ?_)
  refine jr_putR fl_RX5_21 (fun z => by cases z) dX5_init_34 H (fun h12 H => ?_)
  refine jr_aload_n dX5_init_37 rfl rfl ?_
  refine jr_sipush (v := 1536) dX5_init_38 (by decide) ?_
  refine jr_newI aw_I dX5_init_41 H (fun a13 h14 H => ?_)
  refine jr_putR fl_RX5_24 (fun z => by cases z) dX5_init_43 H (fun h15 H => ?_)
  exact jr_vret rfl dX5_init_46 H
set_option maxRecDepth 100000 in
set_option maxHeartbeats 4000000 in
theorem c_X6_init (l : Launch) (d : Nat) (F : Nat) (a0 : Nat) (h : jH) (hf : jH) (H : f_X6_init F a0 h = some hf) : jMet l (d + 1) yX6_init cX6_init 1 none [.ref a0] h none hf := by
  unfold f_X6_init at H
  refine jMet.of true [some (.ref a0)] rfl (by decide) (by decide) (Nat.le_of_ble_eq_true rfl) (fun S0 q hq => by simpa [j_l, lv_args, j_v, Value.category] using hq) ?_
  refine jr_aload_n dX6_init_0 rfl rfl ?_
  refine jr_objInit ml_RX6_1 oi_i oi_c dX6_init_1 (Nat.le_of_ble_eq_true rfl) ?_
  refine jr_aload_n dX6_init_4 rfl rfl ?_
  refine jr_bipush (v := 12) dX6_init_5 (by decide) ?_
  refine jr_newL aw_L dX6_init_7 H (fun a1 h2 H => ?_)
  refine jr_putR fl_RX6_9 (fun _ => ⟨rfl, rfl⟩) dX6_init_9 H (fun h3 H => ?_)
  exact jr_vret rfl dX6_init_12 H
set_option maxRecDepth 100000 in
set_option maxHeartbeats 4000000 in
theorem c_X8_becomeNone (l : Launch) (d : Nat) (F : Nat) (a0 : Nat) (h : jH) (hf : jH) (H : f_X8_becomeNone F a0 h = some hf) : jh_sh h a0 = (8, 0) ∧ jMet l (d + 0) yX8_becomeNone cX8_becomeNone 1 none [.ref a0] h none hf := by
  unfold f_X8_becomeNone at H
  obtain ⟨hsh, H⟩ := j_gd_some H
  refine ⟨hsh, ?_⟩
  refine jMet.of false [some (.ref a0)] rfl (by decide) (by decide) (Nat.le_of_ble_eq_true rfl) (fun S0 q hq => by simpa [j_l, lv_args, j_v, Value.category] using hq) ?_
  refine jr_aload_n dX8_becomeNone_0 rfl rfl ?_
  refine jr_getR fl_RX8_15 dX8_becomeNone_1 H (fun v1 H => ?_)
  refine jr_iconst (v := 0) dX8_becomeNone_4 (by decide) ?_
  refine jr_sipush (v := 1000) dX8_becomeNone_5 (by decide) ?_
  refine jr_iast dX8_becomeNone_8 H (fun h2 H => ?_)
  refine jr_aload_n dX8_becomeNone_9 rfl rfl ?_
  refine jr_getR fl_RX8_15 dX8_becomeNone_10 H (fun v3 H => ?_)
  refine jr_iconst (v := 1) dX8_becomeNone_13 (by decide) ?_
  refine jr_iconst (v := 1) dX8_becomeNone_14 (by decide) ?_
  refine jr_iast dX8_becomeNone_15 H (fun h4 H => ?_)
  refine jr_aload_n dX8_becomeNone_16 rfl rfl ?_
  refine jr_getR fl_RX8_15 dX8_becomeNone_17 H (fun v5 H => ?_)
  refine jr_iconst (v := 2) dX8_becomeNone_20 (by decide) ?_
  refine jr_sipush (v := 2043) dX8_becomeNone_21 (by decide) ?_
  refine jr_iast dX8_becomeNone_24 H (fun h6 H => ?_)
  refine jr_aload_n dX8_becomeNone_25 rfl rfl ?_
  refine jr_iconst (v := 3) dX8_becomeNone_26 (by decide) ?_
  refine jr_putI fl_RX8_24 (fun z => by cases z) dX8_becomeNone_27 H (fun h7 H => ?_)
  exact jr_vret rfl dX8_becomeNone_30 H
set_option maxRecDepth 100000 in
set_option maxHeartbeats 4000000 in
theorem c_X8_init (l : Launch) (d : Nat) (F : Nat) (a0 : Nat) (h : jH) (hf : jH) (H : f_X8_init F a0 h = some hf) : jMet l (d + 1) yX8_init cX8_init 1 none [.ref a0] h none hf := by
  unfold f_X8_init at H
  refine jMet.of true [some (.ref a0)] rfl (by decide) (by decide) (Nat.le_of_ble_eq_true rfl) (fun S0 q hq => by simpa [j_l, lv_args, j_v, Value.category] using hq) ?_
  refine jr_aload_n dX8_init_0 rfl rfl ?_
  refine jr_objInit ml_RX8_5 oi_i oi_c dX8_init_1 (Nat.le_of_ble_eq_true rfl) ?_
  refine jr_aload_n dX8_init_4 rfl rfl ?_
  refine jr_iconst (v := 5) dX8_init_5 (by decide) ?_
  refine jr_newI aw_I dX8_init_6 H (fun a1 h2 H => ?_)
  refine jr_putR fl_RX8_11 (fun _ => ⟨rfl, rfl⟩) dX8_init_8 H (fun h3 H => ?_)
  refine jr_aload_n dX8_init_11 rfl rfl ?_
  refine jr_bipush (v := 40) dX8_init_12 (by decide) ?_
  refine jr_newI aw_I dX8_init_14 H (fun a4 h5 H => ?_)
  refine jr_putR fl_RX8_15 (fun _ => ⟨rfl, rfl⟩) dX8_init_16 H (fun h6 H => ?_)
  refine jr_aload_n dX8_init_19 rfl rfl ?_
  refine jr_bipush (v := 40) dX8_init_20 (by decide) ?_
  refine jr_newI aw_I dX8_init_22 H (fun a7 h8 H => ?_)
  refine jr_putR fl_RX8_18 (fun _ => ⟨rfl, rfl⟩) dX8_init_24 H (fun h9 H => ?_)
  refine jr_aload_n dX8_init_27 rfl rfl ?_
  refine jr_bipush (v := 7) dX8_init_28 (by decide) ?_
  refine jr_newI aw_I dX8_init_30 H (fun a10 h11 H => ?_)
  refine jr_putR fl_RX8_21 (fun _ => ⟨rfl, rfl⟩) dX8_init_32 H (fun h12 H => ?_)
  refine jr_aload_n dX8_init_35 rfl rfl ?_
  refine jr_iconst (v := 0) dX8_init_36 (by decide) ?_
  refine jr_putI fl_RX8_24 (fun z => by cases z) dX8_init_37 H (fun h13 H => ?_)
  refine jr_aload_n dX8_init_40 rfl rfl ?_
  obtain ⟨h14, Hc, H⟩ := Option.bind_eq_some_iff.mp H
  refine jr_callV (ci := 8) [] my_X8_becomeNone mv_X8_becomeNone ml_RX8_28 dX8_init_41 rfl rfl (Nat.le_of_ble_eq_true rfl) rfl (c_X8_becomeNone l d F a0 h13 h14 Hc) ?_
  exact jr_vret rfl dX8_init_44 H
set_option maxRecDepth 100000 in
set_option maxHeartbeats 4000000 in
theorem c_X9_init (l : Launch) (d : Nat) (F : Nat) (a0 : Nat) (h : jH) (hf : jH) (H : f_X9_init F a0 h = some hf) : jMet l (d + 1) yX9_init cX9_init 1 none [.ref a0] h none hf := by
  unfold f_X9_init at H
  refine jMet.of true [some (.ref a0)] rfl (by decide) (by decide) (Nat.le_of_ble_eq_true rfl) (fun S0 q hq => by simpa [j_l, lv_args, j_v, Value.category] using hq) ?_
  refine jr_aload_n dX9_init_0 rfl rfl ?_
  refine jr_objInit ml_RX9_3 oi_i oi_c dX9_init_1 (Nat.le_of_ble_eq_true rfl) ?_
  refine jr_aload_n dX9_init_4 rfl rfl ?_
  refine jr_bipush (v := 80) dX9_init_5 (by decide) ?_
  refine jr_newI aw_I dX9_init_7 H (fun a1 h2 H => ?_)
  refine jr_putR fl_RX9_11 (fun _ => ⟨rfl, rfl⟩) dX9_init_9 H (fun h3 H => ?_)
  exact jr_vret rfl dX9_init_12 H
set_option maxRecDepth 100000 in
set_option maxHeartbeats 4000000 in
theorem c_X10_init (l : Launch) (d : Nat) (F : Nat) (a0 : Nat) (h : jH) (hf : jH) (H : f_X10_init F a0 h = some hf) : jMet l (d + 3) yX10_init cX10_init 1 none [.ref a0] h none hf := by
  unfold f_X10_init at H
  refine jMet.of true [some (.ref a0)] rfl (by decide) (by decide) (Nat.le_of_ble_eq_true rfl) (fun S0 q hq => by simpa [j_l, lv_args, j_v, Value.category] using hq) ?_
  refine jr_aload_n dX10_init_0 rfl rfl ?_
  refine jr_objInit ml_RX10_1 oi_i oi_c dX10_init_1 (Nat.le_of_ble_eq_true rfl) ?_
  refine jr_aload_n dX10_init_4 rfl rfl ?_
  refine jr_new nw_RX10_7 dX10_init_5 H (fun a1 h2 H => ?_)
  refine jr_dup dX10_init_8 rfl ?_
  obtain ⟨h3, Hc, H⟩ := Option.bind_eq_some_iff.mp H
  refine jr_callN [] my_X9_init mi_X9_init ml_RX10_9 dX10_init_9 rfl rfl (Nat.le_of_ble_eq_true rfl) (c_X9_init l (d + 1) F a1 h2 h3 Hc) ?_
  refine jr_putR fl_RX10_10 (fun _ => ⟨rfl, rfl⟩) dX10_init_12 H (fun h4 H => ?_)
  refine jr_aload_n dX10_init_15 rfl rfl ?_
  refine jr_new nw_RX10_16 dX10_init_16 H (fun a5 h6 H => ?_)
  refine jr_dup dX10_init_19 rfl ?_
  obtain ⟨h7, Hc, H⟩ := Option.bind_eq_some_iff.mp H
  refine jr_callN [] my_X6_init mi_X6_init ml_RX10_18 dX10_init_20 rfl rfl (Nat.le_of_ble_eq_true rfl) (c_X6_init l (d + 1) F a5 h6 h7 Hc) ?_
  refine jr_putR fl_RX10_19 (fun _ => ⟨rfl, rfl⟩) dX10_init_23 H (fun h8 H => ?_)
  refine jr_aload_n dX10_init_26 rfl rfl ?_
  refine jr_new nw_RX10_23 dX10_init_27 H (fun a9 h10 H => ?_)
  refine jr_dup dX10_init_30 rfl ?_
  obtain ⟨h11, Hc, H⟩ := Option.bind_eq_some_iff.mp H
  refine jr_callN [] my_X3_init mi_X3_init ml_RX10_25 dX10_init_31 rfl rfl (Nat.le_of_ble_eq_true rfl) (c_X3_init l (d + 1) F a9 h10 h11 Hc) ?_
  refine jr_putR fl_RX10_26 (fun _ => ⟨rfl, rfl⟩) dX10_init_34 H (fun h12 H => ?_)
  refine jr_aload_n dX10_init_37 rfl rfl ?_
  refine jr_new nw_RX10_30 dX10_init_38 H (fun a13 h14 H => ?_)
  refine jr_dup dX10_init_41 rfl ?_
  obtain ⟨h15, Hc, H⟩ := Option.bind_eq_some_iff.mp H
  refine jr_callN [] my_X2_init mi_X2_init ml_RX10_32 dX10_init_42 rfl rfl (Nat.le_of_ble_eq_true rfl) (c_X2_init l (d + 1) F a13 h14 h15 Hc) ?_
  refine jr_putR fl_RX10_33 (fun _ => ⟨rfl, rfl⟩) dX10_init_45 H (fun h16 H => ?_)
  refine jr_aload_n dX10_init_48 rfl rfl ?_
  refine jr_new nw_RX10_37 dX10_init_49 H (fun a17 h18 H => ?_)
  refine jr_dup dX10_init_52 rfl ?_
  obtain ⟨h19, Hc, H⟩ := Option.bind_eq_some_iff.mp H
  refine jr_callN [] my_X7_init mi_X7_init ml_RX10_39 dX10_init_53 rfl rfl (Nat.le_of_ble_eq_true rfl) (c_X7_init l (d + 1) F a17 h18 h19 Hc) ?_
  refine jr_putR fl_RX10_40 (fun _ => ⟨rfl, rfl⟩) dX10_init_56 H (fun h20 H => ?_)
  refine jr_aload_n dX10_init_59 rfl rfl ?_
  refine jr_new nw_RX10_44 dX10_init_60 H (fun a21 h22 H => ?_)
  refine jr_dup dX10_init_63 rfl ?_
  obtain ⟨h23, Hc, H⟩ := Option.bind_eq_some_iff.mp H
  refine jr_callI [] my_X4_init mi_X4_init ml_RX10_46 dX10_init_64 rfl rfl (Nat.le_of_ble_eq_true rfl) (c_X4_init l d F a21 h22 h23 Hc) ?_
  refine jr_putR fl_RX10_47 (fun _ => ⟨rfl, rfl⟩) dX10_init_67 H (fun h24 H => ?_)
  refine jr_aload_n dX10_init_70 rfl rfl ?_
  refine jr_iconst (v := 2) dX10_init_71 (by decide) ?_
  refine jr_newR aw_R cl_RX10_37 dX10_init_72 H (fun a25 h26 H => ?_)
  refine jr_dup dX10_init_75 rfl ?_
  refine jr_iconst (v := 0) dX10_init_76 (by decide) ?_
  refine jr_new nw_RX10_37 dX10_init_77 H (fun a27 h28 H => ?_)
  refine jr_dup dX10_init_80 rfl ?_
  obtain ⟨h29, Hc, H⟩ := Option.bind_eq_some_iff.mp H
  refine jr_callN [] my_X7_init mi_X7_init ml_RX10_39 dX10_init_81 rfl rfl (Nat.le_of_ble_eq_true rfl) (c_X7_init l (d + 1) F a27 h28 h29 Hc) ?_
  refine jr_aast dX10_init_84 H (fun h30 H => ?_)
  refine jr_dup dX10_init_85 rfl ?_
  refine jr_iconst (v := 1) dX10_init_86 (by decide) ?_
  refine jr_new nw_RX10_37 dX10_init_87 H (fun a31 h32 H => ?_)
  refine jr_dup dX10_init_90 rfl ?_
  obtain ⟨h33, Hc, H⟩ := Option.bind_eq_some_iff.mp H
  refine jr_callN [] my_X7_init mi_X7_init ml_RX10_39 dX10_init_91 rfl rfl (Nat.le_of_ble_eq_true rfl) (c_X7_init l (d + 1) F a31 h32 h33 Hc) ?_
  refine jr_aast dX10_init_94 H (fun h34 H => ?_)
  refine jr_putR fl_RX10_51 (fun _ => ⟨rfl, rfl⟩) dX10_init_95 H (fun h35 H => ?_)
  refine jr_aload_n dX10_init_98 rfl rfl ?_
  refine jr_iconst (v := 2) dX10_init_99 (by decide) ?_
  refine jr_newZ aw_Z dX10_init_100 H (fun a36 h37 H => ?_)
  refine jr_putR fl_RX10_55 (fun _ => ⟨rfl, rfl⟩) dX10_init_102 H (fun h38 H => ?_)
  refine jr_aload_n dX10_init_105 rfl rfl ?_
  refine jr_new nw_RX10_59 dX10_init_106 H (fun a39 h40 H => ?_)
  refine jr_dup dX10_init_109 rfl ?_
  obtain ⟨h41, Hc, H⟩ := Option.bind_eq_some_iff.mp H
  refine jr_callN [] my_X0_init mi_X0_init ml_RX10_61 dX10_init_110 rfl rfl (Nat.le_of_ble_eq_true rfl) (c_X0_init l (d + 1) F a39 h40 h41 Hc) ?_
  refine jr_putR fl_RX10_62 (fun _ => ⟨rfl, rfl⟩) dX10_init_113 H (fun h42 H => ?_)
  refine jr_aload_n dX10_init_116 rfl rfl ?_
  refine jr_new nw_RX10_66 dX10_init_117 H (fun a43 h44 H => ?_)
  refine jr_dup dX10_init_120 rfl ?_
  obtain ⟨h45, Hc, H⟩ := Option.bind_eq_some_iff.mp H
  refine jr_callN [] my_X5_init mi_X5_init ml_RX10_68 dX10_init_121 rfl rfl (Nat.le_of_ble_eq_true rfl) (c_X5_init l (d + 1) F a43 h44 h45 Hc) ?_
  refine jr_putR fl_RX10_69 (fun _ => ⟨rfl, rfl⟩) dX10_init_124 H (fun h46 H => ?_)
  refine jr_aload_n dX10_init_127 rfl rfl ?_
  refine jr_bipush (v := 21) dX10_init_128 (by decide) ?_
  refine jr_newI aw_I dX10_init_130 H (fun a47 h48 H => ?_)
  refine jr_putR fl_RX10_73 (fun _ => ⟨rfl, rfl⟩) dX10_init_132 H (fun h49 H => ?_)
  refine jr_aload_n dX10_init_135 rfl rfl ?_
  refine jr_bipush (v := 10) dX10_init_136 (by decide) ?_
  refine jr_newI aw_I dX10_init_138 H (fun a50 h51 H => ?_)
  refine jr_putR fl_RX10_77 (fun _ => ⟨rfl, rfl⟩) dX10_init_140 H (fun h52 H => ?_)
  refine jr_aload_n dX10_init_143 rfl rfl ?_
  refine jr_bipush (v := 10) dX10_init_144 (by decide) ?_
  refine jr_newI aw_I dX10_init_146 H (fun a53 h54 H => ?_)
  refine jr_putR fl_RX10_80 (fun _ => ⟨rfl, rfl⟩) dX10_init_148 H (fun h55 H => ?_)
  refine jr_aload_n dX10_init_151 rfl rfl ?_
  refine jr_iconst (v := 5) dX10_init_152 (by decide) ?_
  refine jr_newI aw_I dX10_init_153 H (fun a56 h57 H => ?_)
  refine jr_putR fl_RX10_83 (fun _ => ⟨rfl, rfl⟩) dX10_init_155 H (fun h58 H => ?_)
  refine jr_aload_n dX10_init_158 rfl rfl ?_
  refine jr_iconst (v := 4) dX10_init_159 (by decide) ?_
  refine jr_newI aw_I dX10_init_160 H (fun a59 h60 H => ?_)
  refine jr_putR fl_RX10_86 (fun _ => ⟨rfl, rfl⟩) dX10_init_162 H (fun h61 H => ?_)
  refine jr_aload_n dX10_init_165 rfl rfl ?_
  refine jr_new nw_RX10_89 dX10_init_166 H (fun a62 h63 H => ?_)
  refine jr_dup dX10_init_169 rfl ?_
  obtain ⟨h64, Hc, H⟩ := Option.bind_eq_some_iff.mp H
  refine jr_callI [] my_X8_init mi_X8_init ml_RX10_91 dX10_init_170 rfl rfl (Nat.le_of_ble_eq_true rfl) (c_X8_init l (d + 1) F a62 h63 h64 Hc) ?_
  refine jr_putR fl_RX10_92 (fun z => by cases z) dX10_init_173 H (fun h65 H => ?_)
  refine jr_aload_n dX10_init_176 rfl rfl ?_
  refine jr_new nw_RX10_89 dX10_init_177 H (fun a66 h67 H => ?_)
  refine jr_dup dX10_init_180 rfl ?_
  obtain ⟨h68, Hc, H⟩ := Option.bind_eq_some_iff.mp H
  refine jr_callI [] my_X8_init mi_X8_init ml_RX10_91 dX10_init_181 rfl rfl (Nat.le_of_ble_eq_true rfl) (c_X8_init l (d + 1) F a66 h67 h68 Hc) ?_
  refine jr_putR fl_RX10_96 (fun z => by cases z) dX10_init_184 H (fun h69 H => ?_)
  refine jr_aload_n dX10_init_187 rfl rfl ?_
  refine jr_iconst (v := 1) dX10_init_188 (by decide) ?_
  refine jr_putI fl_RX10_99 (fun z => by cases z) dX10_init_189 H (fun h70 H => ?_)
  refine jr_aload_n dX10_init_192 rfl rfl ?_
  refine jr_iconst (v := 0) dX10_init_193 (by decide) ?_
  refine jr_putI fl_RX10_103 (fun z => by cases z) dX10_init_194 H (fun h71 H => ?_)
  refine jr_aload_n dX10_init_197 rfl rfl ?_
  refine jr_iconst (v := 0) dX10_init_198 (by decide) ?_
  refine jr_putI fl_RX10_106 (fun z => by cases z) dX10_init_199 H (fun h72 H => ?_)
  exact jr_vret rfl dX10_init_202 H
set_option maxRecDepth 100000 in
set_option maxHeartbeats 4000000 in
theorem s_X9_addFour_L20 (l : Launch) (d : Nat) (F : Nat) (x0 : Nat) (x1 : Int32) (k55 : jH → Option (Int32 × jH)) {rR : Int32} {hf : jH} (hk55 : ∀ (h : jH), k55 h = some (rR, hf) → jGo l (d + 0) none RX9 cX9_addFour 3 (some .boolean) false 55 [some (.ref x0), none, none] [] h (some (.int rR)) hf) : ∀ (n : Nat) (x2 : Int32) (h : jH), f_X9_addFour_L20 F x0 x1 k55 n x2 h = some (rR, hf) → jGo l (d + 0) none RX9 cX9_addFour 3 (some .boolean) false 20 [some (.ref x0), some (.int x1), some (.int x2)] [] h (some (.int rR)) hf := by
  intro n
  induction n with
  | zero =>
    intro x2 h H
    cases H
  | succ n ih =>
    intro x2 h H
    unfold f_X9_addFour_L20 at H
    refine jr_iload_n dX9_addFour_20 rfl rfl ?_
    refine jr_iconst (v := 4) dX9_addFour_21 (by decide) ?_
    refine jr_icmp_ge (tgt := 55) dX9_addFour_22 (by decide) H (fun H => ?_) (fun H => ?_)
    · refine jr_fgt 1 ?_
      refine jr_fgt 2 ?_
      exact hk55 _ H
    · refine jr_aload_n dX9_addFour_25 rfl rfl ?_
      refine jr_getR fl_RX9_11 dX9_addFour_26 H (fun v3 H => ?_)
      refine jr_aload_n dX9_addFour_29 rfl rfl ?_
      refine jr_getI fl_RX9_15 (by decide) dX9_addFour_30 H (fun v4 H => ?_)
      refine jr_iload_n dX9_addFour_33 rfl rfl ?_
      refine jr_iadd dX9_addFour_34 ?_
      refine jr_iload_n dX9_addFour_35 rfl rfl ?_
      refine jr_bipush (v := 24) dX9_addFour_36 (by decide) ?_
      refine jr_bipush (v := 8) dX9_addFour_38 (by decide) ?_
      refine jr_iload_n dX9_addFour_40 rfl rfl ?_
      refine jr_imul dX9_addFour_41 ?_
      refine jr_isub dX9_addFour_42 ?_
      refine jr_iushr dX9_addFour_43 ?_
      refine jr_sipush (v := 255) dX9_addFour_44 (by decide) ?_
      refine jr_iand dX9_addFour_47 ?_
      refine jr_iast dX9_addFour_48 H (fun h5 H => ?_)
      refine jr_iinc (v := (x2 + 1)) dX9_addFour_49 rfl rfl (by decide) rfl (Or.inl rfl) ?_
      refine jr_goto (tgt := 20) dX9_addFour_52 (by decide) ?_
      exact ih _ _ H
set_option maxRecDepth 100000 in
set_option maxHeartbeats 4000000 in
theorem c_X9_addFour (l : Launch) (d : Nat) (F : Nat) (a0 : Nat) (a1 : Int32) (h : jH) (rR : Int32) (hf : jH) (H : f_X9_addFour F a0 a1 h = some (rR, hf)) : jh_sh h a0 = (9, 0) ∧ jMet l (d + 0) yX9_addFour cX9_addFour 3 (some .boolean) [.ref a0, .int a1] h (some (.int rR)) hf := by
  unfold f_X9_addFour at H
  obtain ⟨hsh, H⟩ := j_gd_some H
  refine ⟨hsh, ?_⟩
  refine jMet.of false [some (.ref a0), some (.int a1), none] rfl (by decide) (by decide) (Nat.le_of_ble_eq_true rfl) (fun S0 q hq => by simpa [j_l, lv_args, j_v, Value.category] using hq) ?_
  refine jr_aload_n dX9_addFour_0 rfl rfl ?_
  refine jr_getI fl_RX9_15 (by decide) dX9_addFour_1 H (fun v1 H => ?_)
  refine jr_if_lt (tgt := 16) dX9_addFour_4 (by decide) H (fun H => ?_) (fun H => ?_)
  · refine jr_iconst (v := 0) dX9_addFour_16 (by decide) ?_
    exact jr_zret rfl rfl dX9_addFour_17 H
  · refine jr_aload_n dX9_addFour_7 rfl rfl ?_
    refine jr_getI fl_RX9_15 (by decide) dX9_addFour_8 H (fun v2 H => ?_)
    refine jr_bipush (v := 76) dX9_addFour_11 (by decide) ?_
    refine jr_icmp_le (tgt := 18) dX9_addFour_13 (by decide) H (fun H => ?_) (fun H => ?_)
    · refine jr_iconst (v := 0) dX9_addFour_18 (by decide) ?_
      refine jr_istore_n dX9_addFour_19 rfl (by decide) rfl (Or.inl rfl) ?_
      refine s_X9_addFour_L20 l d F a0 a1 _ (fun h6 H => ?_) F 0 h H
      · refine jr_aload_n dX9_addFour_55 rfl rfl ?_
        refine jr_dup dX9_addFour_56 rfl ?_
        refine jr_getI fl_RX9_15 (by decide) dX9_addFour_57 H (fun v7 H => ?_)
        refine jr_iconst (v := 4) dX9_addFour_60 (by decide) ?_
        refine jr_iadd dX9_addFour_61 ?_
        refine jr_putI fl_RX9_15 (fun z => by cases z) dX9_addFour_62 H (fun h8 H => ?_)
        refine jr_iconst (v := 1) dX9_addFour_65 (by decide) ?_
        exact jr_zret rfl rfl dX9_addFour_66 H
    · refine jr_iconst (v := 0) dX9_addFour_16 (by decide) ?_
      exact jr_zret rfl rfl dX9_addFour_17 H
set_option maxRecDepth 100000 in
set_option maxHeartbeats 4000000 in
theorem c_X10_sign (l : Launch) (d : Nat) (F : Nat) (a0 : Nat) (a1 : Int32) (h : jH) (rR : Int32) (hf : jH) (H : f_X10_sign F a0 a1 h = some (rR, hf)) : jh_sh h a0 = (10, 0) ∧ jMet l (d + 1) yX10_sign cX10_sign 2 (some .int) [.ref a0, .int a1] h (some (.int rR)) hf := by
  unfold f_X10_sign at H
  obtain ⟨hsh, H⟩ := j_gd_some H
  refine ⟨hsh, ?_⟩
  refine jMet.of false [some (.ref a0), some (.int a1)] rfl (by decide) (by decide) (Nat.le_of_ble_eq_true rfl) (fun S0 q hq => by simpa [j_l, lv_args, j_v, Value.category] using hq) ?_
  refine jr_aload_n dX10_sign_0 rfl rfl ?_
  refine jr_getR fl_RX10_10 dX10_sign_1 H (fun v1 H => ?_)
  refine jr_iload_n dX10_sign_4 rfl rfl ?_
  obtain ⟨v3, h2, Hc, H⟩ := j_b2_some H
  refine jr_callV (ci := 9) [.int a1] my_X9_addFour mv_X9_addFour ml_RX10_109 dX10_sign_5 rfl rfl (Nat.le_of_ble_eq_true rfl) rfl (c_X9_addFour l d F v1 a1 h v3 h2 Hc) ?_
  refine jr_if_eq (tgt := 21) dX10_sign_8 (by decide) H (fun H => ?_) (fun H => ?_)
  · refine jr_iconst (v := (-1)) dX10_sign_21 (by decide) ?_
    exact jr_iret rfl dX10_sign_22 H
  · refine jr_aload_n dX10_sign_11 rfl rfl ?_
    refine jr_getR fl_RX10_10 dX10_sign_12 H (fun v4 H => ?_)
    refine jr_getI fl_RX10_113 (by decide) dX10_sign_15 H (fun v5 H => ?_)
    refine jr_goto (tgt := 22) dX10_sign_18 (by decide) ?_
    exact jr_iret rfl dX10_sign_22 H
set_option maxRecDepth 100000 in
set_option maxHeartbeats 4000000 in
theorem c_X10_end (l : Launch) (d : Nat) (F : Nat) (a0 : Nat) (a1 : Int32) (h : jH) (rR : Int32) (hf : jH) (H : f_X10_end F a0 a1 h = some (rR, hf)) : jh_sh h a0 = (10, 0) ∧ jMet l (d + 0) yX10_end cX10_end 2 (some .boolean) [.ref a0, .int a1] h (some (.int rR)) hf := by
  unfold f_X10_end at H
  obtain ⟨hsh, H⟩ := j_gd_some H
  refine ⟨hsh, ?_⟩
  refine jMet.of false [some (.ref a0), some (.int a1)] rfl (by decide) (by decide) (Nat.le_of_ble_eq_true rfl) (fun S0 q hq => by simpa [j_l, lv_args, j_v, Value.category] using hq) ?_
  refine jr_iload_n dX10_end_0 rfl rfl ?_
  refine jr_if_lt (tgt := 15) dX10_end_1 (by decide) H (fun H => ?_) (fun H => ?_)
  · refine jr_iconst (v := 0) dX10_end_15 (by decide) ?_
    exact jr_zret rfl rfl dX10_end_16 H
  · refine jr_iload_n dX10_end_4 rfl rfl ?_
    refine jr_aload_n dX10_end_5 rfl rfl ?_
    refine jr_getR fl_RX10_10 dX10_end_6 H (fun v1 H => ?_)
    refine jr_getI fl_RX10_113 (by decide) dX10_end_9 H (fun v2 H => ?_)
    refine jr_icmp_le (tgt := 17) dX10_end_12 (by decide) H (fun H => ?_) (fun H => ?_)
    · refine jr_aload_n dX10_end_17 rfl rfl ?_
      refine jr_getR fl_RX10_10 dX10_end_18 H (fun v3 H => ?_)
      refine jr_iload_n dX10_end_21 rfl rfl ?_
      refine jr_putI fl_RX10_113 (fun z => by cases z) dX10_end_22 H (fun h4 H => ?_)
      refine jr_iconst (v := 1) dX10_end_25 (by decide) ?_
      exact jr_zret rfl rfl dX10_end_26 H
    · refine jr_iconst (v := 0) dX10_end_15 (by decide) ?_
      exact jr_zret rfl rfl dX10_end_16 H
set_option maxRecDepth 100000 in
set_option maxHeartbeats 4000000 in
theorem s_X10_forget_L10 (l : Launch) (d : Nat) (F : Nat) (x0 : Nat) {hf : jH} : ∀ (n : Nat) (x1 : Int32) (h : jH), f_X10_forget_L10 F x0 n x1 h = some hf → jGo l (d + 0) none RX10 cX10_forget 2 none false 10 [some (.ref x0), some (.int x1)] [] h none hf := by
  intro n
  induction n with
  | zero =>
    intro x1 h H
    cases H
  | succ n ih =>
    intro x1 h H
    unfold f_X10_forget_L10 at H
    refine jr_iload_n dX10_forget_10 rfl rfl ?_
    refine jr_iconst (v := 2) dX10_forget_11 (by decide) ?_
    refine jr_icmp_ge (tgt := 28) dX10_forget_12 (by decide) H (fun H => ?_) (fun H => ?_)
    · exact jr_vret rfl dX10_forget_28 H
    · refine jr_aload_n dX10_forget_15 rfl rfl ?_
      refine jr_getR fl_RX10_55 dX10_forget_16 H (fun v3 H => ?_)
      refine jr_iload_n dX10_forget_19 rfl rfl ?_
      refine jr_iconst (v := 0) dX10_forget_20 (by decide) ?_
      refine jr_zast rfl dX10_forget_21 H (fun h4 H => ?_)
      refine jr_iinc (v := (x1 + 1)) dX10_forget_22 rfl rfl (by decide) rfl (Or.inl rfl) ?_
      refine jr_goto (tgt := 10) dX10_forget_25 (by decide) ?_
      exact ih _ _ H
set_option maxRecDepth 100000 in
set_option maxHeartbeats 4000000 in
theorem c_X10_forget (l : Launch) (d : Nat) (F : Nat) (a0 : Nat) (h : jH) (hf : jH) (H : f_X10_forget F a0 h = some hf) : jh_sh h a0 = (10, 0) ∧ jMet l (d + 0) yX10_forget cX10_forget 2 none [.ref a0] h none hf := by
  unfold f_X10_forget at H
  obtain ⟨hsh, H⟩ := j_gd_some H
  refine ⟨hsh, ?_⟩
  refine jMet.of false [some (.ref a0), none] rfl (by decide) (by decide) (Nat.le_of_ble_eq_true rfl) (fun S0 q hq => by simpa [j_l, lv_args, j_v, Value.category] using hq) ?_
  refine jr_aload_n dX10_forget_0 rfl rfl ?_
  refine jr_getR fl_RX10_47 dX10_forget_1 H (fun v1 H => ?_)
  refine jr_iconst (v := 0) dX10_forget_4 (by decide) ?_
  refine jr_putI fl_RX10_249 (fun z => by cases z) dX10_forget_5 H (fun h2 H => ?_)
  refine jr_iconst (v := 0) dX10_forget_8 (by decide) ?_
  refine jr_istore_n dX10_forget_9 rfl (by decide) rfl (Or.inl rfl) ?_
  exact s_X10_forget_L10 l d F a0 F 0 h2 H
set_option maxRecDepth 100000 in
set_option maxHeartbeats 4000000 in
theorem s_X10_stationsNeeded_L4 (l : Launch) (d : Nat) (F : Nat) (x0 : Nat) (k34 : Int32 → jH → Option (Int32 × jH)) {rR : Int32} {hf : jH} (hk34 : ∀ (y1 : Int32) (h : jH), k34 y1 h = some (rR, hf) → jGo l (d + 1) none RX10 cX10_stationsNeeded 3 (some .int) false 34 [some (.ref x0), some (.int y1), none] [] h (some (.int rR)) hf) : ∀ (n : Nat) (x1 : Int32) (x2 : Int32) (h : jH), f_X10_stationsNeeded_L4 F x0 k34 n x1 x2 h = some (rR, hf) → jGo l (d + 1) none RX10 cX10_stationsNeeded 3 (some .int) false 4 [some (.ref x0), some (.int x1), some (.int x2)] [] h (some (.int rR)) hf := by
  intro n
  induction n with
  | zero =>
    intro x1 x2 h H
    cases H
  | succ n ih =>
    intro x1 x2 h H
    unfold f_X10_stationsNeeded_L4 at H
    refine jr_iload_n dX10_stationsNeeded_4 rfl rfl ?_
    refine jr_aload_n dX10_stationsNeeded_5 rfl rfl ?_
    refine jr_getI fl_RX10_103 (by decide) dX10_stationsNeeded_6 H (fun v1 H => ?_)
    refine jr_icmp_ge (tgt := 34) dX10_stationsNeeded_9 (by decide) H (fun H => ?_) (fun H => ?_)
    · refine jr_fgt 2 ?_
      exact hk34 _ _ H
    · refine jr_iload_n dX10_stationsNeeded_12 rfl rfl ?_
      refine jr_aload_n dX10_stationsNeeded_13 rfl rfl ?_
      refine jr_getR fl_RX10_40 dX10_stationsNeeded_14 H (fun v2 H => ?_)
      refine jr_getR fl_RX10_162 dX10_stationsNeeded_17 H (fun v3 H => ?_)
      refine jr_iload_n dX10_stationsNeeded_20 rfl rfl ?_
      refine jr_iald dX10_stationsNeeded_21 H (fun v4 H => ?_)
      refine jr_iconst (v := 1) dX10_stationsNeeded_22 (by decide) ?_
      refine jr_iadd dX10_stationsNeeded_23 ?_
      refine jr_mmax ml_RX10_369 mm_mmax_s mm_i mm_mmax_c dX10_stationsNeeded_24 (Nat.le_of_ble_eq_true rfl) ?_
      refine jr_istore_n dX10_stationsNeeded_27 rfl (by decide) rfl (Or.inl rfl) ?_
      refine jr_iinc (v := (x2 + 1)) dX10_stationsNeeded_28 rfl rfl (by decide) rfl (Or.inl rfl) ?_
      refine jr_goto (tgt := 4) dX10_stationsNeeded_31 (by decide) ?_
      exact ih _ _ _ H
set_option maxRecDepth 100000 in
set_option maxHeartbeats 4000000 in
theorem s_X10_stationsNeeded_L36 (l : Launch) (d : Nat) (F : Nat) (x0 : Nat) {rR : Int32} {hf : jH} : ∀ (n : Nat) (x1 : Int32) (x2 : Int32) (h : jH), f_X10_stationsNeeded_L36 F x0 n x1 x2 h = some (rR, hf) → jGo l (d + 1) none RX10 cX10_stationsNeeded 3 (some .int) false 36 [some (.ref x0), some (.int x1), some (.int x2)] [] h (some (.int rR)) hf := by
  intro n
  induction n with
  | zero =>
    intro x1 x2 h H
    cases H
  | succ n ih =>
    intro x1 x2 h H
    unfold f_X10_stationsNeeded_L36 at H
    refine jr_iload_n dX10_stationsNeeded_36 rfl rfl ?_
    refine jr_aload_n dX10_stationsNeeded_37 rfl rfl ?_
    refine jr_getR fl_RX10_33 dX10_stationsNeeded_38 H (fun v7 H => ?_)
    refine jr_getI fl_RX10_132 (by decide) dX10_stationsNeeded_41 H (fun v8 H => ?_)
    refine jr_icmp_ge (tgt := 69) dX10_stationsNeeded_44 (by decide) H (fun H => ?_) (fun H => ?_)
    · refine jr_iload_n dX10_stationsNeeded_69 rfl rfl ?_
      exact jr_iret rfl dX10_stationsNeeded_70 H
    · refine jr_iload_n dX10_stationsNeeded_47 rfl rfl ?_
      refine jr_aload_n dX10_stationsNeeded_48 rfl rfl ?_
      refine jr_getR fl_RX10_33 dX10_stationsNeeded_49 H (fun v9 H => ?_)
      refine jr_getR fl_RX10_190 dX10_stationsNeeded_52 H (fun v10 H => ?_)
      refine jr_iload_n dX10_stationsNeeded_55 rfl rfl ?_
      refine jr_iald dX10_stationsNeeded_56 H (fun v11 H => ?_)
      refine jr_iconst (v := 1) dX10_stationsNeeded_57 (by decide) ?_
      refine jr_iadd dX10_stationsNeeded_58 ?_
      refine jr_mmax ml_RX10_369 mm_mmax_s mm_i mm_mmax_c dX10_stationsNeeded_59 (Nat.le_of_ble_eq_true rfl) ?_
      refine jr_istore_n dX10_stationsNeeded_62 rfl (by decide) rfl (Or.inl rfl) ?_
      refine jr_iinc (v := (x2 + 1)) dX10_stationsNeeded_63 rfl rfl (by decide) rfl (Or.inl rfl) ?_
      refine jr_goto (tgt := 36) dX10_stationsNeeded_66 (by decide) ?_
      exact ih _ _ _ H
set_option maxRecDepth 100000 in
set_option maxHeartbeats 4000000 in
theorem c_X10_stationsNeeded (l : Launch) (d : Nat) (F : Nat) (a0 : Nat) (h : jH) (rR : Int32) (hf : jH) (H : f_X10_stationsNeeded F a0 h = some (rR, hf)) : jh_sh h a0 = (10, 0) ∧ jMet l (d + 1) yX10_stationsNeeded cX10_stationsNeeded 3 (some .int) [.ref a0] h (some (.int rR)) hf := by
  unfold f_X10_stationsNeeded at H
  obtain ⟨hsh, H⟩ := j_gd_some H
  refine ⟨hsh, ?_⟩
  refine jMet.of false [some (.ref a0), none, none] rfl (by decide) (by decide) (Nat.le_of_ble_eq_true rfl) (fun S0 q hq => by simpa [j_l, lv_args, j_v, Value.category] using hq) ?_
  refine jr_iconst (v := 1) dX10_stationsNeeded_0 (by decide) ?_
  refine jr_istore_n dX10_stationsNeeded_1 rfl (by decide) rfl (Or.inl rfl) ?_
  refine jr_iconst (v := 0) dX10_stationsNeeded_2 (by decide) ?_
  refine jr_istore_n dX10_stationsNeeded_3 rfl (by decide) rfl (Or.inl rfl) ?_
  refine s_X10_stationsNeeded_L4 l d F a0 _ (fun y5 h6 H => ?_) F 1 0 h H
  · refine jr_iconst (v := 0) dX10_stationsNeeded_34 (by decide) ?_
    refine jr_istore_n dX10_stationsNeeded_35 rfl (by decide) rfl (Or.inl rfl) ?_
    exact s_X10_stationsNeeded_L36 l d F a0 F y5 0 h6 H
set_option maxRecDepth 100000 in
set_option maxHeartbeats 4000000 in
theorem s_X7_closeBooks_L4 (l : Launch) (d : Nat) (F : Nat) (x0 : Nat) {hf : jH} : ∀ (n : Nat) (x2 : Int32) (h : jH), f_X7_closeBooks_L4 F x0 n x2 h = some hf → jGo l (d + 0) none RX7 cX7_closeBooks 3 none false 4 [some (.ref x0), none, some (.int x2)] [] h none hf := by
  intro n
  induction n with
  | zero =>
    intro x2 h H
    cases H
  | succ n ih =>
    intro x2 h H
    unfold f_X7_closeBooks_L4 at H
    refine jr_iload_n dX7_closeBooks_4 rfl rfl ?_
    refine jr_bipush (v := 30) dX7_closeBooks_5 (by decide) ?_
    refine jr_icmp_ge (tgt := 23) dX7_closeBooks_7 (by decide) H (fun H => ?_) (fun H => ?_)
    · exact jr_vret rfl dX7_closeBooks_23 H
    · refine jr_aload_n dX7_closeBooks_10 rfl rfl ?_
      refine jr_getR fl_RX7_21 dX7_closeBooks_11 H (fun v1 H => ?_)
      refine jr_iload_n dX7_closeBooks_14 rfl rfl ?_
      refine jr_iconst (v := 0) dX7_closeBooks_15 (by decide) ?_
      refine jr_iast dX7_closeBooks_16 H (fun h2 H => ?_)
      refine jr_iinc (v := (x2 + 1)) dX7_closeBooks_17 rfl rfl (by decide) rfl (Or.inl rfl) ?_
      refine jr_goto (tgt := 4) dX7_closeBooks_20 (by decide) ?_
      exact ih _ _ H
set_option maxRecDepth 100000 in
set_option maxHeartbeats 4000000 in
theorem c_X7_closeBooks (l : Launch) (d : Nat) (F : Nat) (a0 : Nat) (a1 : Int32) (h : jH) (hf : jH) (H : f_X7_closeBooks F a0 a1 h = some hf) : jh_sh h a0 = (7, 0) ∧ jMet l (d + 0) yX7_closeBooks cX7_closeBooks 3 none [.ref a0, .int a1] h none hf := by
  unfold f_X7_closeBooks at H
  obtain ⟨hsh, H⟩ := j_gd_some H
  refine ⟨hsh, ?_⟩
  refine jMet.of false [some (.ref a0), some (.int a1), none] rfl (by decide) (by decide) (Nat.le_of_ble_eq_true rfl) (fun S0 q hq => by simpa [j_l, lv_args, j_v, Value.category] using hq) ?_
  refine jr_iload_n dX7_closeBooks_0 rfl rfl ?_
  refine jr_iconst (v := 5) dX7_closeBooks_1 (by decide) ?_
  refine jr_imul dX7_closeBooks_2 ?_
  refine jr_istore_n dX7_closeBooks_3 rfl (by decide) rfl (Or.inl rfl) ?_
  refine jr_fgt 1 ?_
  exact s_X7_closeBooks_L4 l d F a0 F (a1 * (5 : Int32)) h H
set_option maxRecDepth 100000 in
set_option maxHeartbeats 4000000 in
theorem c_X10_road (l : Launch) (d : Nat) (F : Nat) (a0 : Nat) (a1 : Int32) (h : jH) (rR : Int32) (hf : jH) (H : f_X10_road F a0 a1 h = some (rR, hf)) : jh_sh h a0 = (10, 0) ∧ jMet l (d + 2) yX10_road cX10_road 3 (some .int) [.ref a0, .int a1] h (some (.int rR)) hf := by
  unfold f_X10_road at H
  obtain ⟨hsh, H⟩ := j_gd_some H
  refine ⟨hsh, ?_⟩
  refine jMet.of false [some (.ref a0), some (.int a1), none] rfl (by decide) (by decide) (Nat.le_of_ble_eq_true rfl) (fun S0 q hq => by simpa [j_l, lv_args, j_v, Value.category] using hq) ?_
  refine jr_iload_n dX10_road_0 rfl rfl ?_
  refine jr_aload_n dX10_road_1 rfl rfl ?_
  obtain ⟨v2, h1, Hc, H⟩ := j_b2_some H
  refine jr_callV (ci := 10) [] my_X10_stationsNeeded mv_X10_stationsNeeded ml_RX10_116 dX10_road_2 rfl rfl (Nat.le_of_ble_eq_true rfl) rfl (c_X10_stationsNeeded l d F a0 h v2 h1 Hc) ?_
  refine jr_icmp_lt (tgt := 14) dX10_road_5 (by decide) H (fun H => ?_) (fun H => ?_)
  · refine jr_iconst (v := (-1)) dX10_road_14 (by decide) ?_
    exact jr_iret rfl dX10_road_15 H
  · refine jr_iload_n dX10_road_8 rfl rfl ?_
    refine jr_bipush (v := 6) dX10_road_9 (by decide) ?_
    refine jr_icmp_le (tgt := 16) dX10_road_11 (by decide) H (fun H => ?_) (fun H => ?_)
    · refine jr_aload_n dX10_road_16 rfl rfl ?_
      refine jr_getI fl_RX10_99 (by decide) dX10_road_17 H (fun v3 H => ?_)
      refine jr_istore_n dX10_road_20 rfl (by decide) rfl (Or.inl rfl) ?_
      refine jr_aload_n dX10_road_21 rfl rfl ?_
      refine jr_getR fl_RX10_40 dX10_road_22 H (fun v4 H => ?_)
      refine jr_iload_n dX10_road_25 rfl rfl ?_
      obtain ⟨h5, Hc, H⟩ := Option.bind_eq_some_iff.mp H
      refine jr_callV (ci := 7) [.int a1] my_X7_closeBooks mv_X7_closeBooks ml_RX10_120 dX10_road_26 rfl rfl (Nat.le_of_ble_eq_true rfl) rfl (c_X7_closeBooks l (d + 1) F v4 a1 h1 h5 Hc) ?_
      refine jr_aload_n dX10_road_29 rfl rfl ?_
      refine jr_iload_n dX10_road_30 rfl rfl ?_
      refine jr_putI fl_RX10_99 (fun z => by cases z) dX10_road_31 H (fun h6 H => ?_)
      refine jr_aload_n dX10_road_34 rfl rfl ?_
      obtain ⟨h7, Hc, H⟩ := Option.bind_eq_some_iff.mp H
      refine jr_callV (ci := 10) [] my_X10_forget mv_X10_forget ml_RX10_124 dX10_road_35 rfl rfl (Nat.le_of_ble_eq_true rfl) rfl (c_X10_forget l (d + 1) F a0 h6 h7 Hc) ?_
      refine jr_iload_n dX10_road_38 rfl rfl ?_
      exact jr_iret rfl dX10_road_39 H
    · refine jr_iconst (v := (-1)) dX10_road_14 (by decide) ?_
      exact jr_iret rfl dX10_road_15 H
set_option maxRecDepth 100000 in
set_option maxHeartbeats 4000000 in
theorem c_X9_peek (l : Launch) (d : Nat) (F : Nat) (a0 : Nat) (h : jH) (rR : Int32) (hf : jH) (H : f_X9_peek F a0 h = some (rR, hf)) : jh_sh h a0 = (9, 0) ∧ jMet l (d + 0) yX9_peek cX9_peek 1 (some .int) [.ref a0] h (some (.int rR)) hf := by
  unfold f_X9_peek at H
  obtain ⟨hsh, H⟩ := j_gd_some H
  refine ⟨hsh, ?_⟩
  refine jMet.of false [some (.ref a0)] rfl (by decide) (by decide) (Nat.le_of_ble_eq_true rfl) (fun S0 q hq => by simpa [j_l, lv_args, j_v, Value.category] using hq) ?_
  refine jr_aload_n dX9_peek_0 rfl rfl ?_
  refine jr_getI fl_RX9_19 (by decide) dX9_peek_1 H (fun v1 H => ?_)
  refine jr_if_lt (tgt := 30) dX9_peek_4 (by decide) H (fun H => ?_) (fun H => ?_)
  · refine jr_iconst (v := (-1)) dX9_peek_30 (by decide) ?_
    exact jr_iret rfl dX9_peek_31 H
  · refine jr_aload_n dX9_peek_7 rfl rfl ?_
    refine jr_getI fl_RX9_19 (by decide) dX9_peek_8 H (fun v2 H => ?_)
    refine jr_aload_n dX9_peek_11 rfl rfl ?_
    refine jr_getI fl_RX9_28 (by decide) dX9_peek_12 H (fun v3 H => ?_)
    refine jr_icmp_ge (tgt := 30) dX9_peek_15 (by decide) H (fun H => ?_) (fun H => ?_)
    · refine jr_iconst (v := (-1)) dX9_peek_30 (by decide) ?_
      exact jr_iret rfl dX9_peek_31 H
    · refine jr_aload_n dX9_peek_18 rfl rfl ?_
      refine jr_getR fl_RX9_11 dX9_peek_19 H (fun v4 H => ?_)
      refine jr_aload_n dX9_peek_22 rfl rfl ?_
      refine jr_getI fl_RX9_19 (by decide) dX9_peek_23 H (fun v5 H => ?_)
      refine jr_iald dX9_peek_26 H (fun v6 H => ?_)
      refine jr_goto (tgt := 31) dX9_peek_27 (by decide) ?_
      exact jr_iret rfl dX9_peek_31 H
set_option maxRecDepth 100000 in
set_option maxHeartbeats 4000000 in
theorem c_X9_take (l : Launch) (d : Nat) (F : Nat) (a0 : Nat) (a1 : Int32) (h : jH) (rR : Int32) (hf : jH) (H : f_X9_take F a0 a1 h = some (rR, hf)) : jh_sh h a0 = (9, 0) ∧ jMet l (d + 1) yX9_take cX9_take 2 (some .boolean) [.ref a0, .int a1] h (some (.int rR)) hf := by
  unfold f_X9_take at H
  obtain ⟨hsh, H⟩ := j_gd_some H
  refine ⟨hsh, ?_⟩
  refine jMet.of false [some (.ref a0), some (.int a1)] rfl (by decide) (by decide) (Nat.le_of_ble_eq_true rfl) (fun S0 q hq => by simpa [j_l, lv_args, j_v, Value.category] using hq) ?_
  refine jr_aload_n dX9_take_0 rfl rfl ?_
  obtain ⟨v2, h1, Hc, H⟩ := j_b2_some H
  refine jr_callV (ci := 9) [] my_X9_peek mv_X9_peek ml_RX9_31 dX9_take_1 rfl rfl (Nat.le_of_ble_eq_true rfl) rfl (c_X9_peek l d F a0 h v2 h1 Hc) ?_
  refine jr_iload_n dX9_take_4 rfl rfl ?_
  refine jr_icmp_eq (tgt := 10) dX9_take_5 (by decide) H (fun H => ?_) (fun H => ?_)
  · refine jr_aload_n dX9_take_10 rfl rfl ?_
    refine jr_dup dX9_take_11 rfl ?_
    refine jr_getI fl_RX9_19 (by decide) dX9_take_12 H (fun v3 H => ?_)
    refine jr_iconst (v := 1) dX9_take_15 (by decide) ?_
    refine jr_iadd dX9_take_16 ?_
    refine jr_putI fl_RX9_19 (fun z => by cases z) dX9_take_17 H (fun h4 H => ?_)
    refine jr_iconst (v := 1) dX9_take_20 (by decide) ?_
    exact jr_zret rfl rfl dX9_take_21 H
  · refine jr_iconst (v := 0) dX9_take_8 (by decide) ?_
    exact jr_zret rfl rfl dX9_take_9 H
set_option maxRecDepth 100000 in
set_option maxHeartbeats 4000000 in
theorem c_X9_takeFrom (l : Launch) (d : Nat) (F : Nat) (a0 : Nat) (a1 : Int32) (a2 : Int32) (h : jH) (rR : Int32) (hf : jH) (H : f_X9_takeFrom F a0 a1 a2 h = some (rR, hf)) : jh_sh h a0 = (9, 0) ∧ jMet l (d + 0) yX9_takeFrom cX9_takeFrom 4 (some .int) [.ref a0, .int a1, .int a2] h (some (.int rR)) hf := by
  unfold f_X9_takeFrom at H
  obtain ⟨hsh, H⟩ := j_gd_some H
  refine ⟨hsh, ?_⟩
  refine jMet.of false [some (.ref a0), some (.int a1), some (.int a2), none] rfl (by decide) (by decide) (Nat.le_of_ble_eq_true rfl) (fun S0 q hq => by simpa [j_l, lv_args, j_v, Value.category] using hq) ?_
  refine jr_aload_n dX9_takeFrom_0 rfl rfl ?_
  refine jr_getI fl_RX9_19 (by decide) dX9_takeFrom_1 H (fun v1 H => ?_)
  refine jr_jn (fun J => ∀ (s2 : Int32) (h3 : jH), J s2 h3 = some (rR, hf) → jGo l (d + 0) none RX9 cX9_takeFrom 4 (some .int) false 33 [some (.ref a0), none, some (.int a2), none] [.int s2] h3 (some (.int rR)) hf) H (fun s2 h3 H => ?_) (fun J33 hJ33 H => ?_)
  · refine jr_istore_n dX9_takeFrom_33 rfl (by decide) rfl (Or.inl rfl) ?_
    refine jr_iload_n dX9_takeFrom_34 rfl rfl ?_
    refine jr_if_lt (tgt := 43) dX9_takeFrom_35 (by decide) H (fun H => ?_) (fun H => ?_)
    · refine jr_iconst (v := (-1)) dX9_takeFrom_43 (by decide) ?_
      exact jr_iret rfl dX9_takeFrom_44 H
    · refine jr_iload_n dX9_takeFrom_38 rfl rfl ?_
      refine jr_iload_n dX9_takeFrom_39 rfl rfl ?_
      refine jr_icmp_lt (tgt := 45) dX9_takeFrom_40 (by decide) H (fun H => ?_) (fun H => ?_)
      · refine jr_aload_n dX9_takeFrom_45 rfl rfl ?_
        refine jr_dup dX9_takeFrom_46 rfl ?_
        refine jr_getI fl_RX9_19 (by decide) dX9_takeFrom_47 H (fun v4 H => ?_)
        refine jr_iconst (v := 1) dX9_takeFrom_50 (by decide) ?_
        refine jr_iadd dX9_takeFrom_51 ?_
        refine jr_putI fl_RX9_19 (fun z => by cases z) dX9_takeFrom_52 H (fun h5 H => ?_)
        refine jr_iload_n dX9_takeFrom_55 rfl rfl ?_
        exact jr_iret rfl dX9_takeFrom_56 H
      · refine jr_iconst (v := (-1)) dX9_takeFrom_43 (by decide) ?_
        exact jr_iret rfl dX9_takeFrom_44 H
  · refine jr_jn (fun J => ∀ (h6 : jH), J h6 = some (rR, hf) → jGo l (d + 0) none RX9 cX9_takeFrom 4 (some .int) false 32 [some (.ref a0), none, some (.int a2), none] [] h6 (some (.int rR)) hf) H (fun h6 H => ?_) (fun J32 hJ32 H => ?_)
    · refine jr_iconst (v := (-1)) dX9_takeFrom_32 (by decide) ?_
      exact hJ33 _ _ H
    · refine jr_if_lt (tgt := 32) dX9_takeFrom_4 (by decide) H (fun H => ?_) (fun H => ?_)
      · refine jr_fgt 1 ?_
        exact hJ32 _ H
      · refine jr_aload_n dX9_takeFrom_7 rfl rfl ?_
        refine jr_getI fl_RX9_19 (by decide) dX9_takeFrom_8 H (fun v7 H => ?_)
        refine jr_aload_n dX9_takeFrom_11 rfl rfl ?_
        refine jr_getI fl_RX9_28 (by decide) dX9_takeFrom_12 H (fun v8 H => ?_)
        refine jr_icmp_ge (tgt := 32) dX9_takeFrom_15 (by decide) H (fun H => ?_) (fun H => ?_)
        · refine jr_fgt 1 ?_
          exact hJ32 _ H
        · refine jr_aload_n dX9_takeFrom_18 rfl rfl ?_
          refine jr_getR fl_RX9_11 dX9_takeFrom_19 H (fun v9 H => ?_)
          refine jr_aload_n dX9_takeFrom_22 rfl rfl ?_
          refine jr_getI fl_RX9_19 (by decide) dX9_takeFrom_23 H (fun v10 H => ?_)
          refine jr_iald dX9_takeFrom_26 H (fun v11 H => ?_)
          refine jr_iload_n dX9_takeFrom_27 rfl rfl ?_
          refine jr_isub dX9_takeFrom_28 ?_
          refine jr_goto (tgt := 33) dX9_takeFrom_29 (by decide) ?_
          refine jr_fgt 1 ?_
          exact hJ33 _ _ H
set_option maxRecDepth 100000 in
set_option maxHeartbeats 4000000 in
theorem s_X9_takeNumber_L11 (l : Launch) (d : Nat) (F : Nat) (x0 : Nat) (x1 : Int32) {rR : Int32} {hf : jH} : ∀ (n : Nat) (x2 : Int32) (x3 : Int32) (h : jH), f_X9_takeNumber_L11 F x0 x1 n x2 x3 h = some (rR, hf) → jGo l (d + 1) none RX9 cX9_takeNumber 5 (some .int) false 11 [some (.ref x0), some (.int x1), some (.int x2), some (.int x3), none] [] h (some (.int rR)) hf := by
  intro n
  induction n with
  | zero =>
    intro x2 x3 h H
    cases H
  | succ n ih =>
    intro x2 x3 h H
    unfold f_X9_takeNumber_L11 at H
    refine jr_iload_n dX9_takeNumber_11 rfl rfl ?_
    refine jr_iload_n dX9_takeNumber_12 rfl rfl ?_
    refine jr_icmp_ge (tgt := 51) dX9_takeNumber_13 (by decide) H (fun H => ?_) (fun H => ?_)
    · refine jr_iload_n dX9_takeNumber_51 rfl rfl ?_
      exact jr_iret rfl dX9_takeNumber_52 H
    · refine jr_iload_n dX9_takeNumber_16 rfl rfl ?_
      refine jr_if_lt (tgt := 51) dX9_takeNumber_17 (by decide) H (fun H => ?_) (fun H => ?_)
      · refine jr_iload_n dX9_takeNumber_51 rfl rfl ?_
        exact jr_iret rfl dX9_takeNumber_52 H
      · refine jr_aload_n dX9_takeNumber_20 rfl rfl ?_
        refine jr_bipush (v := 48) dX9_takeNumber_21 (by decide) ?_
        refine jr_bipush (v := 10) dX9_takeNumber_23 (by decide) ?_
        obtain ⟨v4, h3, Hc, H⟩ := j_b2_some H
        refine jr_callV (ci := 9) [.int 48, .int 10] my_X9_takeFrom mv_X9_takeFrom ml_RX9_35 dX9_takeNumber_25 rfl rfl (Nat.le_of_ble_eq_true rfl) rfl (c_X9_takeFrom l d F x0 48 10 h v4 h3 Hc) ?_
        refine jr_istore dX9_takeNumber_28 (by decide) rfl (Or.inl rfl) ?_
        refine jr_iload dX9_takeNumber_30 rfl ?_
        refine jr_if_ge (tgt := 37) dX9_takeNumber_32 (by decide) H (fun H => ?_) (fun H => ?_)
        · refine jr_iload_n dX9_takeNumber_37 rfl rfl ?_
          refine jr_bipush (v := 10) dX9_takeNumber_38 (by decide) ?_
          refine jr_imul dX9_takeNumber_40 ?_
          refine jr_iload dX9_takeNumber_41 rfl ?_
          refine jr_iadd dX9_takeNumber_43 ?_
          refine jr_istore_n dX9_takeNumber_44 rfl (by decide) rfl (Or.inl rfl) ?_
          refine jr_iinc (v := (x3 + 1)) dX9_takeNumber_45 rfl rfl (by decide) rfl (Or.inl rfl) ?_
          refine jr_goto (tgt := 11) dX9_takeNumber_48 (by decide) ?_
          refine jr_fgt 4 ?_
          exact ih _ _ _ H
        · refine jr_iload_n dX9_takeNumber_35 rfl rfl ?_
          exact jr_iret rfl dX9_takeNumber_36 H
set_option maxRecDepth 100000 in
set_option maxHeartbeats 4000000 in
theorem c_X9_takeNumber (l : Launch) (d : Nat) (F : Nat) (a0 : Nat) (a1 : Int32) (h : jH) (rR : Int32) (hf : jH) (H : f_X9_takeNumber F a0 a1 h = some (rR, hf)) : jh_sh h a0 = (9, 0) ∧ jMet l (d + 1) yX9_takeNumber cX9_takeNumber 5 (some .int) [.ref a0, .int a1] h (some (.int rR)) hf := by
  unfold f_X9_takeNumber at H
  obtain ⟨hsh, H⟩ := j_gd_some H
  refine ⟨hsh, ?_⟩
  refine jMet.of false [some (.ref a0), some (.int a1), none, none, none] rfl (by decide) (by decide) (Nat.le_of_ble_eq_true rfl) (fun S0 q hq => by simpa [j_l, lv_args, j_v, Value.category] using hq) ?_
  refine jr_aload_n dX9_takeNumber_0 rfl rfl ?_
  refine jr_bipush (v := 48) dX9_takeNumber_1 (by decide) ?_
  refine jr_bipush (v := 10) dX9_takeNumber_3 (by decide) ?_
  obtain ⟨v2, h1, Hc, H⟩ := j_b2_some H
  refine jr_callV (ci := 9) [.int 48, .int 10] my_X9_takeFrom mv_X9_takeFrom ml_RX9_35 dX9_takeNumber_5 rfl rfl (Nat.le_of_ble_eq_true rfl) rfl (c_X9_takeFrom l d F a0 48 10 h v2 h1 Hc) ?_
  refine jr_istore_n dX9_takeNumber_8 rfl (by decide) rfl (Or.inl rfl) ?_
  refine jr_iconst (v := 1) dX9_takeNumber_9 (by decide) ?_
  refine jr_istore_n dX9_takeNumber_10 rfl (by decide) rfl (Or.inl rfl) ?_
  exact s_X9_takeNumber_L11 l d F a0 a1 F v2 1 h1 H
set_option maxRecDepth 100000 in
set_option maxHeartbeats 4000000 in
theorem c_X10_readAct (l : Launch) (d : Nat) (F : Nat) (a0 : Nat) (a1 : Int32) (h : jH) (rR : Int32) (hf : jH) (H : f_X10_readAct F a0 a1 h = some (rR, hf)) : jh_sh h a0 = (10, 0) ∧ jMet l (d + 2) yX10_readAct cX10_readAct 4 (some .boolean) [.ref a0, .int a1] h (some (.int rR)) hf := by
  unfold f_X10_readAct at H
  obtain ⟨hsh, H⟩ := j_gd_some H
  refine ⟨hsh, ?_⟩
  refine jMet.of false [some (.ref a0), some (.int a1), none, none] rfl (by decide) (by decide) (Nat.le_of_ble_eq_true rfl) (fun S0 q hq => by simpa [j_l, lv_args, j_v, Value.category] using hq) ?_
  refine jr_aload_n dX10_readAct_0 rfl rfl ?_
  refine jr_getR fl_RX10_10 dX10_readAct_1 H (fun v1 H => ?_)
  refine jr_bipush (v := 119) dX10_readAct_4 (by decide) ?_
  obtain ⟨v3, h2, Hc, H⟩ := j_b2_some H
  refine jr_callV (ci := 9) [.int 119] my_X9_take mv_X9_take ml_RX10_387 dX10_readAct_6 rfl rfl (Nat.le_of_ble_eq_true rfl) rfl (c_X9_take l d F v1 119 h v3 h2 Hc) ?_
  refine jr_if_eq (tgt := 42) dX10_readAct_9 (by decide) H (fun H => ?_) (fun H => ?_)
  · refine jr_aload_n dX10_readAct_42 rfl rfl ?_
    refine jr_getR fl_RX10_10 dX10_readAct_43 H (fun v4 H => ?_)
    refine jr_bipush (v := 97) dX10_readAct_46 (by decide) ?_
    refine jr_iconst (v := 4) dX10_readAct_48 (by decide) ?_
    obtain ⟨v6, h5, Hc, H⟩ := j_b2_some H
    refine jr_callV (ci := 9) [.int 97, .int 4] my_X9_takeFrom mv_X9_takeFrom ml_RX10_412 dX10_readAct_49 rfl rfl (Nat.le_of_ble_eq_true rfl) rfl (c_X9_takeFrom l (d + 1) F v4 97 4 h2 v6 h5 Hc) ?_
    refine jr_istore_n dX10_readAct_52 rfl (by decide) rfl (Or.inl rfl) ?_
    refine jr_iload_n dX10_readAct_53 rfl rfl ?_
    refine jr_if_ge (tgt := 59) dX10_readAct_54 (by decide) H (fun H => ?_) (fun H => ?_)
    · refine jr_aload_n dX10_readAct_59 rfl rfl ?_
      refine jr_getR fl_RX10_10 dX10_readAct_60 H (fun v7 H => ?_)
      refine jr_bipush (v := 48) dX10_readAct_63 (by decide) ?_
      refine jr_bipush (v := 10) dX10_readAct_65 (by decide) ?_
      obtain ⟨v9, h8, Hc, H⟩ := j_b2_some H
      refine jr_callV (ci := 9) [.int 48, .int 10] my_X9_takeFrom mv_X9_takeFrom ml_RX10_412 dX10_readAct_67 rfl rfl (Nat.le_of_ble_eq_true rfl) rfl (c_X9_takeFrom l (d + 1) F v7 48 10 h5 v9 h8 Hc) ?_
      refine jr_istore_n dX10_readAct_70 rfl (by decide) rfl (Or.inl rfl) ?_
      refine jr_iload_n dX10_readAct_71 rfl rfl ?_
      refine jr_jn (fun J => ∀ (z10 : Int32) (h11 : jH), J z10 h11 = some (rR, hf) → jGo l (d + 2) none RX10 cX10_readAct 4 (some .boolean) false 128 [some (.ref a0), some (.int a1), some (.int v6), some (.int z10)] [] h11 (some (.int rR)) hf) H (fun z10 h11 H => ?_) (fun J128 hJ128 H => ?_)
      · refine jr_aload_n dX10_readAct_128 rfl rfl ?_
        refine jr_getR fl_RX10_73 dX10_readAct_129 H (fun v12 H => ?_)
        refine jr_iload_n dX10_readAct_132 rfl rfl ?_
        refine jr_iload_n dX10_readAct_133 rfl rfl ?_
        refine jr_bipush (v := 16) dX10_readAct_134 (by decide) ?_
        refine jr_imul dX10_readAct_136 ?_
        refine jr_iload_n dX10_readAct_137 rfl rfl ?_
        refine jr_iadd dX10_readAct_138 ?_
        refine jr_iast dX10_readAct_139 H (fun h13 H => ?_)
        refine jr_iload_n dX10_readAct_140 rfl rfl ?_
        refine jr_if_lt (tgt := 148) dX10_readAct_141 (by decide) H (fun H => ?_) (fun H => ?_)
        · refine jr_iconst (v := 0) dX10_readAct_148 (by decide) ?_
          exact jr_zret rfl rfl dX10_readAct_149 H
        · refine jr_iconst (v := 1) dX10_readAct_144 (by decide) ?_
          refine jr_goto (tgt := 149) dX10_readAct_145 (by decide) ?_
          exact jr_zret rfl rfl dX10_readAct_149 H
      · refine jr_if_ge (tgt := 128) dX10_readAct_72 (by decide) H (fun H => ?_) (fun H => ?_)
        · exact hJ128 _ _ H
        · refine jr_aload_n dX10_readAct_75 rfl rfl ?_
          refine jr_getR fl_RX10_10 dX10_readAct_76 H (fun v14 H => ?_)
          refine jr_bipush (v := 62) dX10_readAct_79 (by decide) ?_
          obtain ⟨v16, h15, Hc, H⟩ := j_b2_some H
          refine jr_callV (ci := 9) [.int 62] my_X9_take mv_X9_take ml_RX10_387 dX10_readAct_81 rfl rfl (Nat.le_of_ble_eq_true rfl) rfl (c_X9_take l d F v14 62 h8 v16 h15 Hc) ?_
          refine jr_jn (fun J => ∀ (s17 : Int32) (h18 : jH), J s17 h18 = some (rR, hf) → jGo l (d + 2) none RX10 cX10_readAct 4 (some .boolean) false 127 [some (.ref a0), some (.int a1), some (.int v6), none] [.int s17] h18 (some (.int rR)) hf) H (fun s17 h18 H => ?_) (fun J127 hJ127 H => ?_)
          · refine jr_istore_n dX10_readAct_127 rfl (by decide) rfl (Or.inl rfl) ?_
            exact hJ128 _ _ H
          · refine jr_if_eq (tgt := 92) dX10_readAct_84 (by decide) H (fun H => ?_) (fun H => ?_)
            · refine jr_aload_n dX10_readAct_92 rfl rfl ?_
              refine jr_getR fl_RX10_10 dX10_readAct_93 H (fun v19 H => ?_)
              refine jr_bipush (v := 60) dX10_readAct_96 (by decide) ?_
              obtain ⟨v21, h20, Hc, H⟩ := j_b2_some H
              refine jr_callV (ci := 9) [.int 60] my_X9_take mv_X9_take ml_RX10_387 dX10_readAct_98 rfl rfl (Nat.le_of_ble_eq_true rfl) rfl (c_X9_take l d F v19 60 h15 v21 h20 Hc) ?_
              refine jr_if_eq (tgt := 109) dX10_readAct_101 (by decide) H (fun H => ?_) (fun H => ?_)
              · refine jr_aload_n dX10_readAct_109 rfl rfl ?_
                refine jr_getR fl_RX10_10 dX10_readAct_110 H (fun v22 H => ?_)
                refine jr_bipush (v := 33) dX10_readAct_113 (by decide) ?_
                obtain ⟨v24, h23, Hc, H⟩ := j_b2_some H
                refine jr_callV (ci := 9) [.int 33] my_X9_take mv_X9_take ml_RX10_387 dX10_readAct_115 rfl rfl (Nat.le_of_ble_eq_true rfl) rfl (c_X9_take l d F v22 33 h20 v24 h23 Hc) ?_
                refine jr_if_eq (tgt := 126) dX10_readAct_118 (by decide) H (fun H => ?_) (fun H => ?_)
                · refine jr_iconst (v := (-1)) dX10_readAct_126 (by decide) ?_
                  refine jr_fgt 3 ?_
                  exact hJ127 _ _ H
                · refine jr_bipush (v := 12) dX10_readAct_121 (by decide) ?_
                  refine jr_goto (tgt := 127) dX10_readAct_123 (by decide) ?_
                  refine jr_fgt 3 ?_
                  exact hJ127 _ _ H
              · refine jr_bipush (v := 11) dX10_readAct_104 (by decide) ?_
                refine jr_goto (tgt := 127) dX10_readAct_106 (by decide) ?_
                refine jr_fgt 3 ?_
                exact hJ127 _ _ H
            · refine jr_bipush (v := 10) dX10_readAct_87 (by decide) ?_
              refine jr_goto (tgt := 127) dX10_readAct_89 (by decide) ?_
              refine jr_fgt 3 ?_
              exact hJ127 _ _ H
    · refine jr_iconst (v := 0) dX10_readAct_57 (by decide) ?_
      exact jr_zret rfl rfl dX10_readAct_58 H
  · refine jr_aload_n dX10_readAct_12 rfl rfl ?_
    refine jr_getR fl_RX10_10 dX10_readAct_13 H (fun v25 H => ?_)
    refine jr_iconst (v := 2) dX10_readAct_16 (by decide) ?_
    obtain ⟨v27, h26, Hc, H⟩ := j_b2_some H
    refine jr_callV (ci := 9) [.int 2] my_X9_takeNumber mv_X9_takeNumber ml_RX10_409 dX10_readAct_17 rfl rfl (Nat.le_of_ble_eq_true rfl) rfl (c_X9_takeNumber l d F v25 2 h2 v27 h26 Hc) ?_
    refine jr_istore_n dX10_readAct_20 rfl (by decide) rfl (Or.inl rfl) ?_
    refine jr_aload_n dX10_readAct_21 rfl rfl ?_
    refine jr_getR fl_RX10_73 dX10_readAct_22 H (fun v28 H => ?_)
    refine jr_iload_n dX10_readAct_25 rfl rfl ?_
    refine jr_sipush (v := 1000) dX10_readAct_26 (by decide) ?_
    refine jr_iload_n dX10_readAct_29 rfl rfl ?_
    refine jr_iadd dX10_readAct_30 ?_
    refine jr_iast dX10_readAct_31 H (fun h29 H => ?_)
    refine jr_iload_n dX10_readAct_32 rfl rfl ?_
    refine jr_if_lt (tgt := 40) dX10_readAct_33 (by decide) H (fun H => ?_) (fun H => ?_)
    · refine jr_iconst (v := 0) dX10_readAct_40 (by decide) ?_
      exact jr_zret rfl rfl dX10_readAct_41 H
    · refine jr_iconst (v := 1) dX10_readAct_36 (by decide) ?_
      refine jr_goto (tgt := 41) dX10_readAct_37 (by decide) ?_
      exact jr_zret rfl rfl dX10_readAct_41 H
set_option maxRecDepth 100000 in
set_option maxHeartbeats 4000000 in
theorem c_X2_readErrand (l : Launch) (d : Nat) (F : Nat) (a0 : Nat) (a1 : Nat) (a2 : Int32) (a3 : Int32) (a4 : Int32) (h : jH) (rR : Int32) (hf : jH) (H : f_X2_readErrand F a0 a1 a2 a3 a4 h = some (rR, hf)) : jh_sh h a0 = (2, 0) ∧ jMet l (d + 2) yX2_readErrand cX2_readErrand 5 (some .boolean) [.ref a0, .ref a1, .int a2, .int a3, .int a4] h (some (.int rR)) hf := by
  unfold f_X2_readErrand at H
  obtain ⟨hsh, H⟩ := j_gd_some H
  refine ⟨hsh, ?_⟩
  refine jMet.of false [some (.ref a0), some (.ref a1), some (.int a2), some (.int a3), some (.int a4)] rfl (by decide) (by decide) (Nat.le_of_ble_eq_true rfl) (fun S0 q hq => by simpa [j_l, lv_args, j_v, Value.category] using hq) ?_
  refine jr_aload_n dX2_readErrand_0 rfl rfl ?_
  refine jr_getR fl_RX2_9 dX2_readErrand_1 H (fun v1 H => ?_)
  refine jr_iload_n dX2_readErrand_4 rfl rfl ?_
  refine jr_aload_n dX2_readErrand_5 rfl rfl ?_
  refine jr_bipush (v := 97) dX2_readErrand_6 (by decide) ?_
  refine jr_iload_n dX2_readErrand_8 rfl rfl ?_
  obtain ⟨v3, h2, Hc, H⟩ := j_b2_some H
  refine jr_callV (ci := 9) [.int 97, .int a3] my_X9_takeFrom mv_X9_takeFrom ml_RX2_27 dX2_readErrand_9 rfl rfl (Nat.le_of_ble_eq_true rfl) rfl (c_X9_takeFrom l (d + 1) F a1 97 a3 h v3 h2 Hc) ?_
  refine jr_iast dX2_readErrand_12 H (fun h4 H => ?_)
  refine jr_aload_n dX2_readErrand_13 rfl rfl ?_
  refine jr_getR fl_RX2_9 dX2_readErrand_14 H (fun v5 H => ?_)
  refine jr_iload_n dX2_readErrand_17 rfl rfl ?_
  refine jr_iald dX2_readErrand_18 H (fun v6 H => ?_)
  refine jr_if_ge (tgt := 24) dX2_readErrand_19 (by decide) H (fun H => ?_) (fun H => ?_)
  · refine jr_aload_n dX2_readErrand_24 rfl rfl ?_
    refine jr_getR fl_RX2_15 dX2_readErrand_25 H (fun v7 H => ?_)
    refine jr_iload_n dX2_readErrand_28 rfl rfl ?_
    refine jr_aload_n dX2_readErrand_29 rfl rfl ?_
    refine jr_bipush (v := 48) dX2_readErrand_30 (by decide) ?_
    refine jr_bipush (v := 10) dX2_readErrand_32 (by decide) ?_
    obtain ⟨v9, h8, Hc, H⟩ := j_b2_some H
    refine jr_callV (ci := 9) [.int 48, .int 10] my_X9_takeFrom mv_X9_takeFrom ml_RX2_27 dX2_readErrand_34 rfl rfl (Nat.le_of_ble_eq_true rfl) rfl (c_X9_takeFrom l (d + 1) F a1 48 10 h4 v9 h8 Hc) ?_
    refine jr_iast dX2_readErrand_37 H (fun h10 H => ?_)
    refine jr_aload_n dX2_readErrand_38 rfl rfl ?_
    refine jr_getR fl_RX2_15 dX2_readErrand_39 H (fun v11 H => ?_)
    refine jr_iload_n dX2_readErrand_42 rfl rfl ?_
    refine jr_iald dX2_readErrand_43 H (fun v12 H => ?_)
    refine jr_if_ge (tgt := 49) dX2_readErrand_44 (by decide) H (fun H => ?_) (fun H => ?_)
    · refine jr_aload_n dX2_readErrand_49 rfl rfl ?_
      refine jr_getR fl_RX2_18 dX2_readErrand_50 H (fun v13 H => ?_)
      refine jr_iload_n dX2_readErrand_53 rfl rfl ?_
      refine jr_aload_n dX2_readErrand_54 rfl rfl ?_
      refine jr_bipush (v := 48) dX2_readErrand_55 (by decide) ?_
      refine jr_iload dX2_readErrand_57 rfl ?_
      obtain ⟨v15, h14, Hc, H⟩ := j_b2_some H
      refine jr_callV (ci := 9) [.int 48, .int a4] my_X9_takeFrom mv_X9_takeFrom ml_RX2_27 dX2_readErrand_59 rfl rfl (Nat.le_of_ble_eq_true rfl) rfl (c_X9_takeFrom l (d + 1) F a1 48 a4 h10 v15 h14 Hc) ?_
      refine jr_iast dX2_readErrand_62 H (fun h16 H => ?_)
      refine jr_aload_n dX2_readErrand_63 rfl rfl ?_
      refine jr_getR fl_RX2_18 dX2_readErrand_64 H (fun v17 H => ?_)
      refine jr_iload_n dX2_readErrand_67 rfl rfl ?_
      refine jr_iald dX2_readErrand_68 H (fun v18 H => ?_)
      refine jr_if_lt (tgt := 81) dX2_readErrand_69 (by decide) H (fun H => ?_) (fun H => ?_)
      · refine jr_iconst (v := 0) dX2_readErrand_81 (by decide) ?_
        exact jr_zret rfl rfl dX2_readErrand_82 H
      · refine jr_aload_n dX2_readErrand_72 rfl rfl ?_
        refine jr_bipush (v := 61) dX2_readErrand_73 (by decide) ?_
        obtain ⟨v20, h19, Hc, H⟩ := j_b2_some H
        refine jr_callV (ci := 9) [.int 61] my_X9_take mv_X9_take ml_RX2_33 dX2_readErrand_75 rfl rfl (Nat.le_of_ble_eq_true rfl) rfl (c_X9_take l d F a1 61 h16 v20 h19 Hc) ?_
        refine jr_if_ne (tgt := 83) dX2_readErrand_78 (by decide) H (fun H => ?_) (fun H => ?_)
        · refine jr_iconst (v := 0) dX2_readErrand_81 (by decide) ?_
          exact jr_zret rfl rfl dX2_readErrand_82 H
        · refine jr_aload_n dX2_readErrand_83 rfl rfl ?_
          refine jr_getR fl_RX2_21 dX2_readErrand_84 H (fun v21 H => ?_)
          refine jr_iload_n dX2_readErrand_87 rfl rfl ?_
          refine jr_aload_n dX2_readErrand_88 rfl rfl ?_
          refine jr_iconst (v := 2) dX2_readErrand_89 (by decide) ?_
          obtain ⟨v23, h22, Hc, H⟩ := j_b2_some H
          refine jr_callV (ci := 9) [.int 2] my_X9_takeNumber mv_X9_takeNumber ml_RX2_37 dX2_readErrand_90 rfl rfl (Nat.le_of_ble_eq_true rfl) rfl (c_X9_takeNumber l d F a1 2 h19 v23 h22 Hc) ?_
          refine jr_iast dX2_readErrand_93 H (fun h24 H => ?_)
          refine jr_aload_n dX2_readErrand_94 rfl rfl ?_
          refine jr_getR fl_RX2_21 dX2_readErrand_95 H (fun v25 H => ?_)
          refine jr_iload_n dX2_readErrand_98 rfl rfl ?_
          refine jr_iald dX2_readErrand_99 H (fun v26 H => ?_)
          refine jr_if_lt (tgt := 107) dX2_readErrand_100 (by decide) H (fun H => ?_) (fun H => ?_)
          · refine jr_iconst (v := 0) dX2_readErrand_107 (by decide) ?_
            exact jr_zret rfl rfl dX2_readErrand_108 H
          · refine jr_iconst (v := 1) dX2_readErrand_103 (by decide) ?_
            refine jr_goto (tgt := 108) dX2_readErrand_104 (by decide) ?_
            exact jr_zret rfl rfl dX2_readErrand_108 H
    · refine jr_iconst (v := 0) dX2_readErrand_47 (by decide) ?_
      exact jr_zret rfl rfl dX2_readErrand_48 H
  · refine jr_iconst (v := 0) dX2_readErrand_22 (by decide) ?_
    exact jr_zret rfl rfl dX2_readErrand_23 H
set_option maxRecDepth 100000 in
set_option maxHeartbeats 4000000 in
theorem c_X3_letter (l : Launch) (d : Nat) (F : Nat) (a0 : Nat) (a1 : Int32) (a2 : Int32) (h : jH) (rR : Int32) (hf : jH) (H : f_X3_letter F a0 a1 a2 h = some (rR, hf)) : jh_sh h a0 = (3, 0) ∧ jMet l (d + 0) yX3_letter cX3_letter 3 (some .int) [.ref a0, .int a1, .int a2] h (some (.int rR)) hf := by
  unfold f_X3_letter at H
  obtain ⟨hsh, H⟩ := j_gd_some H
  refine ⟨hsh, ?_⟩
  refine jMet.of false [some (.ref a0), some (.int a1), some (.int a2)] rfl (by decide) (by decide) (Nat.le_of_ble_eq_true rfl) (fun S0 q hq => by simpa [j_l, lv_args, j_v, Value.category] using hq) ?_
  refine jr_aload_n dX3_letter_0 rfl rfl ?_
  refine jr_getR fl_RX3_21 dX3_letter_1 H (fun v1 H => ?_)
  refine jr_iload_n dX3_letter_4 rfl rfl ?_
  refine jr_bipush (v := 6) dX3_letter_5 (by decide) ?_
  refine jr_imul dX3_letter_7 ?_
  refine jr_iload_n dX3_letter_8 rfl rfl ?_
  refine jr_iadd dX3_letter_9 ?_
  refine jr_iald dX3_letter_10 H (fun v2 H => ?_)
  exact jr_iret rfl dX3_letter_11 H
set_option maxRecDepth 100000 in
set_option maxHeartbeats 4000000 in
theorem c_X3_vowelOf (l : Launch) (d : Nat) (F : Nat) (a0 : Int32) (h : jH) (rR : Int32) (hf : jH) (H : f_X3_vowelOf F a0 h = some (rR, hf)) : jMet l (d + 0) yX3_vowelOf cX3_vowelOf 1 (some .int) [.int a0] h (some (.int rR)) hf := by
  unfold f_X3_vowelOf at H
  refine jMet.of false [some (.int a0)] rfl (by decide) (by decide) (Nat.le_of_ble_eq_true rfl) (fun S0 q hq => by simpa [j_l, lv_args, j_v, Value.category] using hq) ?_
  refine jr_iload_n dX3_vowelOf_0 rfl rfl ?_
  by_cases q0 : a0 = 97
  · rw [if_pos q0] at H
    refine jr_lookup (tgt := 52) dX3_vowelOf_1 (by decide) (51) (by rw [q0]; decide) (by decide) ?_
    refine jr_iconst (v := 0) dX3_vowelOf_52 (by decide) ?_
    exact jr_iret rfl dX3_vowelOf_53 H
  rw [if_neg q0] at H
  by_cases q1 : a0 = 101
  · rw [if_pos q1] at H
    refine jr_lookup (tgt := 54) dX3_vowelOf_1 (by decide) (53) (by rw [q1]; decide) (by decide) ?_
    refine jr_iconst (v := 1) dX3_vowelOf_54 (by decide) ?_
    exact jr_iret rfl dX3_vowelOf_55 H
  rw [if_neg q1] at H
  by_cases q2 : a0 = 105
  · rw [if_pos q2] at H
    refine jr_lookup (tgt := 56) dX3_vowelOf_1 (by decide) (55) (by rw [q2]; decide) (by decide) ?_
    refine jr_iconst (v := 2) dX3_vowelOf_56 (by decide) ?_
    exact jr_iret rfl dX3_vowelOf_57 H
  rw [if_neg q2] at H
  by_cases q3 : a0 = 111
  · rw [if_pos q3] at H
    refine jr_lookup (tgt := 58) dX3_vowelOf_1 (by decide) (57) (by rw [q3]; decide) (by decide) ?_
    refine jr_iconst (v := 3) dX3_vowelOf_58 (by decide) ?_
    exact jr_iret rfl dX3_vowelOf_59 H
  rw [if_neg q3] at H
  by_cases q4 : a0 = 117
  · rw [if_pos q4] at H
    refine jr_lookup (tgt := 60) dX3_vowelOf_1 (by decide) (59) (by rw [q4]; decide) (by decide) ?_
    refine jr_iconst (v := 4) dX3_vowelOf_60 (by decide) ?_
    exact jr_iret rfl dX3_vowelOf_61 H
  rw [if_neg q4] at H
  refine jr_lookup (tgt := 62) dX3_vowelOf_1 (by decide) (61) (by show Op.lookupswitch.offset [(97, 51), (101, 53), (105, 55), (111, 57), (117, 59)] 61 a0.toInt = 61; rw [lv_osw q0 (show (97 : Int32).toInt = 97 from rfl), lv_osw q1 (show (101 : Int32).toInt = 101 from rfl), lv_osw q2 (show (105 : Int32).toInt = 105 from rfl), lv_osw q3 (show (111 : Int32).toInt = 111 from rfl), lv_osw q4 (show (117 : Int32).toInt = 117 from rfl)]; rfl) (by decide) ?_
  refine jr_iconst (v := (-1)) dX3_vowelOf_62 (by decide) ?_
  exact jr_iret rfl dX3_vowelOf_63 H
set_option maxRecDepth 100000 in
set_option maxHeartbeats 4000000 in
theorem s_X3_countVowels_L9 (l : Launch) (d : Nat) (F : Nat) (x0 : Nat) (x1 : Int32) (k31 : jH → Option jH) {hf : jH} (hk31 : ∀ (h : jH), k31 h = some hf → jGo l (d + 1) none RX3 cX3_countVowels 4 none false 31 [some (.ref x0), some (.int x1), none, none] [] h none hf) : ∀ (n : Nat) (x2 : Int32) (h : jH), f_X3_countVowels_L9 F x0 x1 k31 n x2 h = some hf → jGo l (d + 1) none RX3 cX3_countVowels 4 none false 9 [some (.ref x0), some (.int x1), some (.int x2), none] [] h none hf := by
  intro n
  induction n with
  | zero =>
    intro x2 h H
    cases H
  | succ n ih =>
    intro x2 h H
    unfold f_X3_countVowels_L9 at H
    refine jr_iload_n dX3_countVowels_9 rfl rfl ?_
    refine jr_iconst (v := 5) dX3_countVowels_10 (by decide) ?_
    refine jr_icmp_ge (tgt := 31) dX3_countVowels_11 (by decide) H (fun H => ?_) (fun H => ?_)
    · refine jr_fgt 2 ?_
      exact hk31 _ H
    · refine jr_aload_n dX3_countVowels_14 rfl rfl ?_
      refine jr_getR fl_RX3_24 dX3_countVowels_15 H (fun v3 H => ?_)
      refine jr_iload_n dX3_countVowels_18 rfl rfl ?_
      refine jr_iconst (v := 5) dX3_countVowels_19 (by decide) ?_
      refine jr_imul dX3_countVowels_20 ?_
      refine jr_iload_n dX3_countVowels_21 rfl rfl ?_
      refine jr_iadd dX3_countVowels_22 ?_
      refine jr_iconst (v := 0) dX3_countVowels_23 (by decide) ?_
      refine jr_iast dX3_countVowels_24 H (fun h4 H => ?_)
      refine jr_iinc (v := (x2 + 1)) dX3_countVowels_25 rfl rfl (by decide) rfl (Or.inl rfl) ?_
      refine jr_goto (tgt := 9) dX3_countVowels_28 (by decide) ?_
      exact ih _ _ H
set_option maxRecDepth 100000 in
set_option maxHeartbeats 4000000 in
theorem s_X3_countVowels_L33 (l : Launch) (d : Nat) (F : Nat) (x0 : Nat) (x1 : Int32) {hf : jH} : ∀ (n : Nat) (x2 : Int32) (h : jH), f_X3_countVowels_L33 F x0 x1 n x2 h = some hf → jGo l (d + 1) none RX3 cX3_countVowels 4 none false 33 [some (.ref x0), some (.int x1), some (.int x2), none] [] h none hf := by
  intro n
  induction n with
  | zero =>
    intro x2 h H
    cases H
  | succ n ih =>
    intro x2 h H
    unfold f_X3_countVowels_L33 at H
    refine jr_iload_n dX3_countVowels_33 rfl rfl ?_
    refine jr_aload_n dX3_countVowels_34 rfl rfl ?_
    refine jr_getR fl_RX3_9 dX3_countVowels_35 H (fun v6 H => ?_)
    refine jr_iload_n dX3_countVowels_38 rfl rfl ?_
    refine jr_iald dX3_countVowels_39 H (fun v7 H => ?_)
    refine jr_icmp_ge (tgt := 87) dX3_countVowels_40 (by decide) H (fun H => ?_) (fun H => ?_)
    · exact jr_vret rfl dX3_countVowels_87 H
    · refine jr_aload_n dX3_countVowels_43 rfl rfl ?_
      refine jr_iload_n dX3_countVowels_44 rfl rfl ?_
      refine jr_iload_n dX3_countVowels_45 rfl rfl ?_
      obtain ⟨v9, h8, Hc, H⟩ := j_b2_some H
      refine jr_callV (ci := 3) [.int x1, .int x2] my_X3_letter mv_X3_letter ml_RX3_43 dX3_countVowels_46 rfl rfl (Nat.le_of_ble_eq_true rfl) rfl (c_X3_letter l d F x0 x1 x2 h v9 h8 Hc) ?_
      obtain ⟨v11, h10, Hc, H⟩ := j_b2_some H
      refine jr_callS [.int v9] my_X3_vowelOf ms_X3_vowelOf ml_RX3_46 dX3_countVowels_49 rfl rfl (Nat.le_of_ble_eq_true rfl) (c_X3_vowelOf l d F v9 h8 v11 h10 Hc) ?_
      refine jr_istore_n dX3_countVowels_52 rfl (by decide) rfl (Or.inl rfl) ?_
      refine jr_iload_n dX3_countVowels_53 rfl rfl ?_
      refine jr_jn (fun J => ∀ (h12 : jH), J h12 = some hf → jGo l (d + 1) none RX3 cX3_countVowels 4 none false 81 [some (.ref x0), some (.int x1), some (.int x2), none] [] h12 none hf) H (fun h12 H => ?_) (fun J81 hJ81 H => ?_)
      · refine jr_iinc (v := (x2 + 1)) dX3_countVowels_81 rfl rfl (by decide) rfl (Or.inl rfl) ?_
        refine jr_goto (tgt := 33) dX3_countVowels_84 (by decide) ?_
        exact ih _ _ H
      · refine jr_if_lt (tgt := 81) dX3_countVowels_54 (by decide) H (fun H => ?_) (fun H => ?_)
        · refine jr_fgt 3 ?_
          exact hJ81 _ H
        · refine jr_aload_n dX3_countVowels_57 rfl rfl ?_
          refine jr_getR fl_RX3_24 dX3_countVowels_58 H (fun v13 H => ?_)
          refine jr_iload_n dX3_countVowels_61 rfl rfl ?_
          refine jr_iconst (v := 5) dX3_countVowels_62 (by decide) ?_
          refine jr_imul dX3_countVowels_63 ?_
          refine jr_iload_n dX3_countVowels_64 rfl rfl ?_
          refine jr_iadd dX3_countVowels_65 ?_
          refine jr_dup2 dX3_countVowels_66 rfl rfl ?_
          refine jr_iald dX3_countVowels_67 H (fun v14 H => ?_)
          refine jr_iconst (v := 1) dX3_countVowels_68 (by decide) ?_
          refine jr_iadd dX3_countVowels_69 ?_
          refine jr_iast dX3_countVowels_70 H (fun h15 H => ?_)
          refine jr_aload_n dX3_countVowels_71 rfl rfl ?_
          refine jr_getR fl_RX3_27 dX3_countVowels_72 H (fun v16 H => ?_)
          refine jr_iload_n dX3_countVowels_75 rfl rfl ?_
          refine jr_dup2 dX3_countVowels_76 rfl rfl ?_
          refine jr_iald dX3_countVowels_77 H (fun v17 H => ?_)
          refine jr_iconst (v := 1) dX3_countVowels_78 (by decide) ?_
          refine jr_iadd dX3_countVowels_79 ?_
          refine jr_iast dX3_countVowels_80 H (fun h18 H => ?_)
          refine jr_fgt 3 ?_
          exact hJ81 _ H
set_option maxRecDepth 100000 in
set_option maxHeartbeats 4000000 in
theorem c_X3_countVowels (l : Launch) (d : Nat) (F : Nat) (a0 : Nat) (a1 : Int32) (h : jH) (hf : jH) (H : f_X3_countVowels F a0 a1 h = some hf) : jh_sh h a0 = (3, 0) ∧ jMet l (d + 1) yX3_countVowels cX3_countVowels 4 none [.ref a0, .int a1] h none hf := by
  unfold f_X3_countVowels at H
  obtain ⟨hsh, H⟩ := j_gd_some H
  refine ⟨hsh, ?_⟩
  refine jMet.of false [some (.ref a0), some (.int a1), none, none] rfl (by decide) (by decide) (Nat.le_of_ble_eq_true rfl) (fun S0 q hq => by simpa [j_l, lv_args, j_v, Value.category] using hq) ?_
  refine jr_aload_n dX3_countVowels_0 rfl rfl ?_
  refine jr_getR fl_RX3_27 dX3_countVowels_1 H (fun v1 H => ?_)
  refine jr_iload_n dX3_countVowels_4 rfl rfl ?_
  refine jr_iconst (v := 0) dX3_countVowels_5 (by decide) ?_
  refine jr_iast dX3_countVowels_6 H (fun h2 H => ?_)
  refine jr_iconst (v := 0) dX3_countVowels_7 (by decide) ?_
  refine jr_istore_n dX3_countVowels_8 rfl (by decide) rfl (Or.inl rfl) ?_
  refine s_X3_countVowels_L9 l d F a0 a1 _ (fun h5 H => ?_) F 0 h2 H
  · refine jr_iconst (v := 0) dX3_countVowels_31 (by decide) ?_
    refine jr_istore_n dX3_countVowels_32 rfl (by decide) rfl (Or.inl rfl) ?_
    exact s_X3_countVowels_L33 l d F a0 a1 F 0 h5 H
set_option maxRecDepth 100000 in
set_option maxHeartbeats 4000000 in
theorem s_X3_readWord_L44 (l : Launch) (d : Nat) (F : Nat) (x0 : Nat) (x1 : Nat) (x2 : Int32) (k98 : Int32 → jH → Option (Int32 × jH)) {rR : Int32} {hf : jH} (hk98 : ∀ (y3 : Int32) (h : jH), k98 y3 h = some (rR, hf) → jGo l (d + 2) none RX3 cX3_readWord 6 (some .boolean) false 98 [some (.ref x0), none, some (.int x2), some (.int y3), none, none] [] h (some (.int rR)) hf) : ∀ (n : Nat) (x3 : Int32) (x4 : Int32) (h : jH), f_X3_readWord_L44 F x0 x1 x2 k98 n x3 x4 h = some (rR, hf) → jGo l (d + 2) none RX3 cX3_readWord 6 (some .boolean) false 44 [some (.ref x0), some (.ref x1), some (.int x2), some (.int x3), some (.int x4), none] [] h (some (.int rR)) hf := by
  intro n
  induction n with
  | zero =>
    intro x3 x4 h H
    cases H
  | succ n ih =>
    intro x3 x4 h H
    unfold f_X3_readWord_L44 at H
    refine jr_iload dX3_readWord_44 rfl ?_
    refine jr_bipush (v := 6) dX3_readWord_46 (by decide) ?_
    refine jr_icmp_ge (tgt := 98) dX3_readWord_48 (by decide) H (fun H => ?_) (fun H => ?_)
    · refine jr_fgt 1 ?_
      refine jr_fgt 4 ?_
      exact hk98 _ _ H
    · refine jr_iload_n dX3_readWord_51 rfl rfl ?_
      refine jr_iload dX3_readWord_52 rfl ?_
      refine jr_icmp_ne (tgt := 98) dX3_readWord_54 (by decide) H (fun H => ?_) (fun H => ?_)
      · refine jr_aload_n dX3_readWord_57 rfl rfl ?_
        refine jr_bipush (v := 97) dX3_readWord_58 (by decide) ?_
        refine jr_bipush (v := 26) dX3_readWord_60 (by decide) ?_
        obtain ⟨v12, h11, Hc, H⟩ := j_b2_some H
        refine jr_callV (ci := 9) [.int 97, .int 26] my_X9_takeFrom mv_X9_takeFrom ml_RX3_33 dX3_readWord_62 rfl rfl (Nat.le_of_ble_eq_true rfl) rfl (c_X9_takeFrom l (d + 1) F x1 97 26 h v12 h11 Hc) ?_
        refine jr_istore dX3_readWord_65 (by decide) rfl (Or.inl rfl) ?_
        refine jr_iload dX3_readWord_67 rfl ?_
        refine jr_jn (fun J => ∀ (z13 : Int32) (h14 : jH), J z13 h14 = some (rR, hf) → jGo l (d + 2) none RX3 cX3_readWord 6 (some .boolean) false 92 [some (.ref x0), some (.ref x1), some (.int x2), some (.int z13), some (.int x4), none] [] h14 (some (.int rR)) hf) H (fun z13 h14 H => ?_) (fun J92 hJ92 H => ?_)
        · refine jr_iinc (v := (x4 + 1)) dX3_readWord_92 rfl rfl (by decide) rfl (Or.inl rfl) ?_
          refine jr_goto (tgt := 44) dX3_readWord_95 (by decide) ?_
          exact ih _ _ _ H
        · refine jr_if_lt (tgt := 92) dX3_readWord_69 (by decide) H (fun H => ?_) (fun H => ?_)
          · refine jr_fgt 5 ?_
            exact hJ92 _ _ H
          · refine jr_aload_n dX3_readWord_72 rfl rfl ?_
            refine jr_getR fl_RX3_21 dX3_readWord_73 H (fun v15 H => ?_)
            refine jr_iload_n dX3_readWord_76 rfl rfl ?_
            refine jr_bipush (v := 6) dX3_readWord_77 (by decide) ?_
            refine jr_imul dX3_readWord_79 ?_
            refine jr_iload dX3_readWord_80 rfl ?_
            refine jr_iadd dX3_readWord_82 ?_
            refine jr_bipush (v := 97) dX3_readWord_83 (by decide) ?_
            refine jr_iload dX3_readWord_85 rfl ?_
            refine jr_iadd dX3_readWord_87 ?_
            refine jr_iast dX3_readWord_88 H (fun h16 H => ?_)
            refine jr_iinc (v := (x3 + 1)) dX3_readWord_89 rfl rfl (by decide) rfl (Or.inl rfl) ?_
            refine jr_fgt 5 ?_
            exact hJ92 _ _ H
      · refine jr_fgt 1 ?_
        refine jr_fgt 4 ?_
        exact hk98 _ _ H
set_option maxRecDepth 100000 in
set_option maxHeartbeats 4000000 in
theorem c_X3_readWord (l : Launch) (d : Nat) (F : Nat) (a0 : Nat) (a1 : Nat) (a2 : Int32) (h : jH) (rR : Int32) (hf : jH) (H : f_X3_readWord F a0 a1 a2 h = some (rR, hf)) : jh_sh h a0 = (3, 0) ∧ jMet l (d + 2) yX3_readWord cX3_readWord 6 (some .boolean) [.ref a0, .ref a1, .int a2] h (some (.int rR)) hf := by
  unfold f_X3_readWord at H
  obtain ⟨hsh, H⟩ := j_gd_some H
  refine ⟨hsh, ?_⟩
  refine jMet.of false [some (.ref a0), some (.ref a1), some (.int a2), none, none, none] rfl (by decide) (by decide) (Nat.le_of_ble_eq_true rfl) (fun S0 q hq => by simpa [j_l, lv_args, j_v, Value.category] using hq) ?_
  refine jr_aload_n dX3_readWord_0 rfl rfl ?_
  refine jr_getR fl_RX3_15 dX3_readWord_1 H (fun v1 H => ?_)
  refine jr_iload_n dX3_readWord_4 rfl rfl ?_
  refine jr_aload_n dX3_readWord_5 rfl rfl ?_
  refine jr_bipush (v := 48) dX3_readWord_6 (by decide) ?_
  refine jr_bipush (v := 10) dX3_readWord_8 (by decide) ?_
  obtain ⟨v3, h2, Hc, H⟩ := j_b2_some H
  refine jr_callV (ci := 9) [.int 48, .int 10] my_X9_takeFrom mv_X9_takeFrom ml_RX3_33 dX3_readWord_10 rfl rfl (Nat.le_of_ble_eq_true rfl) rfl (c_X9_takeFrom l (d + 1) F a1 48 10 h v3 h2 Hc) ?_
  refine jr_iast dX3_readWord_13 H (fun h4 H => ?_)
  refine jr_aload_n dX3_readWord_14 rfl rfl ?_
  refine jr_getR fl_RX3_15 dX3_readWord_15 H (fun v5 H => ?_)
  refine jr_iload_n dX3_readWord_18 rfl rfl ?_
  refine jr_iald dX3_readWord_19 H (fun v6 H => ?_)
  refine jr_if_ge (tgt := 25) dX3_readWord_20 (by decide) H (fun H => ?_) (fun H => ?_)
  · refine jr_aload_n dX3_readWord_25 rfl rfl ?_
    refine jr_getR fl_RX3_18 dX3_readWord_26 H (fun v7 H => ?_)
    refine jr_iload_n dX3_readWord_29 rfl rfl ?_
    refine jr_aload_n dX3_readWord_30 rfl rfl ?_
    refine jr_bipush (v := 48) dX3_readWord_31 (by decide) ?_
    refine jr_bipush (v := 10) dX3_readWord_33 (by decide) ?_
    obtain ⟨v9, h8, Hc, H⟩ := j_b2_some H
    refine jr_callV (ci := 9) [.int 48, .int 10] my_X9_takeFrom mv_X9_takeFrom ml_RX3_33 dX3_readWord_35 rfl rfl (Nat.le_of_ble_eq_true rfl) rfl (c_X9_takeFrom l (d + 1) F a1 48 10 h4 v9 h8 Hc) ?_
    refine jr_iast dX3_readWord_38 H (fun h10 H => ?_)
    refine jr_iconst (v := 0) dX3_readWord_39 (by decide) ?_
    refine jr_istore_n dX3_readWord_40 rfl (by decide) rfl (Or.inl rfl) ?_
    refine jr_iconst (v := 0) dX3_readWord_41 (by decide) ?_
    refine jr_istore dX3_readWord_42 (by decide) rfl (Or.inl rfl) ?_
    refine s_X3_readWord_L44 l d F a0 a1 a2 _ (fun y17 h18 H => ?_) F 0 0 h10 H
    · refine jr_aload_n dX3_readWord_98 rfl rfl ?_
      refine jr_getR fl_RX3_9 dX3_readWord_99 H (fun v19 H => ?_)
      refine jr_iload_n dX3_readWord_102 rfl rfl ?_
      refine jr_iload_n dX3_readWord_103 rfl rfl ?_
      refine jr_iast dX3_readWord_104 H (fun h20 H => ?_)
      refine jr_aload_n dX3_readWord_105 rfl rfl ?_
      refine jr_iload_n dX3_readWord_106 rfl rfl ?_
      obtain ⟨h21, Hc, H⟩ := Option.bind_eq_some_iff.mp H
      refine jr_callV (ci := 3) [.int a2] my_X3_countVowels mv_X3_countVowels ml_RX3_39 dX3_readWord_107 rfl rfl (Nat.le_of_ble_eq_true rfl) rfl (c_X3_countVowels l d F a0 a2 h20 h21 Hc) ?_
      refine jr_iload_n dX3_readWord_110 rfl rfl ?_
      refine jr_if_le (tgt := 118) dX3_readWord_111 (by decide) H (fun H => ?_) (fun H => ?_)
      · refine jr_iconst (v := 0) dX3_readWord_118 (by decide) ?_
        exact jr_zret rfl rfl dX3_readWord_119 H
      · refine jr_iconst (v := 1) dX3_readWord_114 (by decide) ?_
        refine jr_goto (tgt := 119) dX3_readWord_115 (by decide) ?_
        exact jr_zret rfl rfl dX3_readWord_119 H
  · refine jr_iconst (v := 0) dX3_readWord_23 (by decide) ?_
    exact jr_zret rfl rfl dX3_readWord_24 H
set_option maxRecDepth 100000 in
set_option maxHeartbeats 4000000 in
theorem c_X7_readTraveller (l : Launch) (d : Nat) (F : Nat) (a0 : Nat) (a1 : Nat) (a2 : Int32) (a3 : Int32) (h : jH) (rR : Int32) (hf : jH) (H : f_X7_readTraveller F a0 a1 a2 a3 h = some (rR, hf)) : jh_sh h a0 = (7, 0) ∧ jMet l (d + 2) yX7_readTraveller cX7_readTraveller 4 (some .boolean) [.ref a0, .ref a1, .int a2, .int a3] h (some (.int rR)) hf := by
  unfold f_X7_readTraveller at H
  obtain ⟨hsh, H⟩ := j_gd_some H
  refine ⟨hsh, ?_⟩
  refine jMet.of false [some (.ref a0), some (.ref a1), some (.int a2), some (.int a3)] rfl (by decide) (by decide) (Nat.le_of_ble_eq_true rfl) (fun S0 q hq => by simpa [j_l, lv_args, j_v, Value.category] using hq) ?_
  refine jr_aload_n dX7_readTraveller_0 rfl rfl ?_
  refine jr_getR fl_RX7_9 dX7_readTraveller_1 H (fun v1 H => ?_)
  refine jr_iload_n dX7_readTraveller_4 rfl rfl ?_
  refine jr_aload_n dX7_readTraveller_5 rfl rfl ?_
  refine jr_bipush (v := 48) dX7_readTraveller_6 (by decide) ?_
  refine jr_iload_n dX7_readTraveller_8 rfl rfl ?_
  obtain ⟨v3, h2, Hc, H⟩ := j_b2_some H
  refine jr_callV (ci := 9) [.int 48, .int a3] my_X9_takeFrom mv_X9_takeFrom ml_RX7_37 dX7_readTraveller_9 rfl rfl (Nat.le_of_ble_eq_true rfl) rfl (c_X9_takeFrom l (d + 1) F a1 48 a3 h v3 h2 Hc) ?_
  refine jr_iast dX7_readTraveller_12 H (fun h4 H => ?_)
  refine jr_aload_n dX7_readTraveller_13 rfl rfl ?_
  refine jr_getR fl_RX7_9 dX7_readTraveller_14 H (fun v5 H => ?_)
  refine jr_iload_n dX7_readTraveller_17 rfl rfl ?_
  refine jr_iald dX7_readTraveller_18 H (fun v6 H => ?_)
  refine jr_if_lt (tgt := 31) dX7_readTraveller_19 (by decide) H (fun H => ?_) (fun H => ?_)
  · refine jr_iconst (v := 0) dX7_readTraveller_31 (by decide) ?_
    exact jr_zret rfl rfl dX7_readTraveller_32 H
  · refine jr_aload_n dX7_readTraveller_22 rfl rfl ?_
    refine jr_bipush (v := 58) dX7_readTraveller_23 (by decide) ?_
    obtain ⟨v8, h7, Hc, H⟩ := j_b2_some H
    refine jr_callV (ci := 9) [.int 58] my_X9_take mv_X9_take ml_RX7_43 dX7_readTraveller_25 rfl rfl (Nat.le_of_ble_eq_true rfl) rfl (c_X9_take l d F a1 58 h4 v8 h7 Hc) ?_
    refine jr_if_ne (tgt := 33) dX7_readTraveller_28 (by decide) H (fun H => ?_) (fun H => ?_)
    · refine jr_iconst (v := 0) dX7_readTraveller_31 (by decide) ?_
      exact jr_zret rfl rfl dX7_readTraveller_32 H
    · refine jr_aload_n dX7_readTraveller_33 rfl rfl ?_
      refine jr_getR fl_RX7_15 dX7_readTraveller_34 H (fun v9 H => ?_)
      refine jr_iload_n dX7_readTraveller_37 rfl rfl ?_
      refine jr_aload_n dX7_readTraveller_38 rfl rfl ?_
      refine jr_iconst (v := 3) dX7_readTraveller_39 (by decide) ?_
      obtain ⟨v11, h10, Hc, H⟩ := j_b2_some H
      refine jr_callV (ci := 9) [.int 3] my_X9_takeNumber mv_X9_takeNumber ml_RX7_47 dX7_readTraveller_40 rfl rfl (Nat.le_of_ble_eq_true rfl) rfl (c_X9_takeNumber l d F a1 3 h7 v11 h10 Hc) ?_
      refine jr_iast dX7_readTraveller_43 H (fun h12 H => ?_)
      refine jr_aload_n dX7_readTraveller_44 rfl rfl ?_
      refine jr_getR fl_RX7_18 dX7_readTraveller_45 H (fun v13 H => ?_)
      refine jr_iload_n dX7_readTraveller_48 rfl rfl ?_
      refine jr_iconst (v := 0) dX7_readTraveller_49 (by decide) ?_
      refine jr_iast dX7_readTraveller_50 H (fun h14 H => ?_)
      refine jr_aload_n dX7_readTraveller_51 rfl rfl ?_
      refine jr_getR fl_RX7_15 dX7_readTraveller_52 H (fun v15 H => ?_)
      refine jr_iload_n dX7_readTraveller_55 rfl rfl ?_
      refine jr_iald dX7_readTraveller_56 H (fun v16 H => ?_)
      refine jr_if_lt (tgt := 64) dX7_readTraveller_57 (by decide) H (fun H => ?_) (fun H => ?_)
      · refine jr_iconst (v := 0) dX7_readTraveller_64 (by decide) ?_
        exact jr_zret rfl rfl dX7_readTraveller_65 H
      · refine jr_iconst (v := 1) dX7_readTraveller_60 (by decide) ?_
        refine jr_goto (tgt := 65) dX7_readTraveller_61 (by decide) ?_
        exact jr_zret rfl rfl dX7_readTraveller_65 H
set_option maxRecDepth 100000 in
set_option maxHeartbeats 4000000 in
theorem c_X10_readLine (l : Launch) (d : Nat) (F : Nat) (a0 : Nat) (a1 : Int32) (a2 : Int32) (h : jH) (rR : Int32) (hf : jH) (H : f_X10_readLine F a0 a1 a2 h = some (rR, hf)) : jh_sh h a0 = (10, 0) ∧ jMet l (d + 3) yX10_readLine cX10_readLine 3 (some .boolean) [.ref a0, .int a1, .int a2] h (some (.int rR)) hf := by
  unfold f_X10_readLine at H
  obtain ⟨hsh, H⟩ := j_gd_some H
  refine ⟨hsh, ?_⟩
  refine jMet.of false [some (.ref a0), some (.int a1), some (.int a2)] rfl (by decide) (by decide) (Nat.le_of_ble_eq_true rfl) (fun S0 q hq => by simpa [j_l, lv_args, j_v, Value.category] using hq) ?_
  refine jr_iload_n dX10_readLine_0 rfl rfl ?_
  by_cases q0 : a1 = 0
  · rw [if_pos q0] at H
    refine jr_table (tgt := 28) dX10_readLine_1 (27) (by rw [q0]; decide) (by decide) (by decide) (by decide) ?_
    refine jr_aload_n dX10_readLine_28 rfl rfl ?_
    refine jr_getR fl_RX10_26 dX10_readLine_29 H (fun v1 H => ?_)
    refine jr_aload_n dX10_readLine_32 rfl rfl ?_
    refine jr_getR fl_RX10_10 dX10_readLine_33 H (fun v2 H => ?_)
    refine jr_iload_n dX10_readLine_36 rfl rfl ?_
    obtain ⟨v4, h3, Hc, H⟩ := j_b2_some H
    refine jr_callV (ci := 3) [.ref v2, .int a2] my_X3_readWord mv_X3_readWord ml_RX10_394 dX10_readLine_37 rfl rfl (Nat.le_of_ble_eq_true rfl) rfl (c_X3_readWord l d F v1 v2 a2 h v4 h3 Hc) ?_
    exact jr_zrz rfl dX10_readLine_40 H
  rw [if_neg q0] at H
  by_cases q1 : a1 = 1
  · rw [if_pos q1] at H
    refine jr_table (tgt := 41) dX10_readLine_1 (40) (by rw [q1]; decide) (by decide) (by decide) (by decide) ?_
    refine jr_aload_n dX10_readLine_41 rfl rfl ?_
    refine jr_getR fl_RX10_40 dX10_readLine_42 H (fun v5 H => ?_)
    refine jr_aload_n dX10_readLine_45 rfl rfl ?_
    refine jr_getR fl_RX10_10 dX10_readLine_46 H (fun v6 H => ?_)
    refine jr_iload_n dX10_readLine_49 rfl rfl ?_
    refine jr_aload_n dX10_readLine_50 rfl rfl ?_
    refine jr_getI fl_RX10_99 (by decide) dX10_readLine_51 H (fun v7 H => ?_)
    obtain ⟨v9, h8, Hc, H⟩ := j_b2_some H
    refine jr_callV (ci := 7) [.ref v6, .int a2, .int v7] my_X7_readTraveller mv_X7_readTraveller ml_RX10_398 dX10_readLine_54 rfl rfl (Nat.le_of_ble_eq_true rfl) rfl (c_X7_readTraveller l d F v5 v6 a2 v7 h v9 h8 Hc) ?_
    exact jr_zrz rfl dX10_readLine_57 H
  rw [if_neg q1] at H
  by_cases q2 : a1 = 2
  · rw [if_pos q2] at H
    refine jr_table (tgt := 58) dX10_readLine_1 (57) (by rw [q2]; decide) (by decide) (by decide) (by decide) ?_
    refine jr_aload_n dX10_readLine_58 rfl rfl ?_
    refine jr_getR fl_RX10_33 dX10_readLine_59 H (fun v10 H => ?_)
    refine jr_aload_n dX10_readLine_62 rfl rfl ?_
    refine jr_getR fl_RX10_10 dX10_readLine_63 H (fun v11 H => ?_)
    refine jr_iload_n dX10_readLine_66 rfl rfl ?_
    refine jr_aload_n dX10_readLine_67 rfl rfl ?_
    refine jr_getI fl_RX10_103 (by decide) dX10_readLine_68 H (fun v12 H => ?_)
    refine jr_aload_n dX10_readLine_71 rfl rfl ?_
    refine jr_getI fl_RX10_99 (by decide) dX10_readLine_72 H (fun v13 H => ?_)
    obtain ⟨v15, h14, Hc, H⟩ := j_b2_some H
    refine jr_callV (ci := 2) [.ref v11, .int a2, .int v12, .int v13] my_X2_readErrand mv_X2_readErrand ml_RX10_402 dX10_readLine_75 rfl rfl (Nat.le_of_ble_eq_true rfl) rfl (c_X2_readErrand l d F v10 v11 a2 v12 v13 h v15 h14 Hc) ?_
    exact jr_zrz rfl dX10_readLine_78 H
  rw [if_neg q2] at H
  have hdef : (if a1.toInt < 0 ∨ 2 < a1.toInt then (78 : Int) else (#[27, 40, 57] : Array Int).getD (a1.toInt - 0).toNat 78) = 78 := by
    have w0 := lv_neT q0 (show (0 : Int32).toInt = 0 from rfl)
    have w1 := lv_neT q1 (show (1 : Int32).toInt = 1 from rfl)
    have w2 := lv_neT q2 (show (2 : Int32).toInt = 2 from rfl)
    by_cases hx : a1.toInt < 0 ∨ 2 < a1.toInt
    · rw [if_pos hx]
    · rw [if_neg hx]
      omega
  refine jr_table (tgt := 79) dX10_readLine_1 (78) hdef (by decide) (by decide) (by decide) ?_
  refine jr_aload_n dX10_readLine_79 rfl rfl ?_
  refine jr_iload_n dX10_readLine_80 rfl rfl ?_
  obtain ⟨v17, h16, Hc, H⟩ := j_b2_some H
  refine jr_callV (ci := 10) [.int a2] my_X10_readAct mv_X10_readAct ml_RX10_406 dX10_readLine_81 rfl rfl (Nat.le_of_ble_eq_true rfl) rfl (c_X10_readAct l d F a0 a2 h v17 h16 Hc) ?_
  exact jr_zrz rfl dX10_readLine_84 H
set_option maxRecDepth 100000 in
set_option maxHeartbeats 4000000 in
theorem c_X9_fault (l : Launch) (d : Nat) (F : Nat) (a0 : Nat) (h : jH) (rR : Int32) (hf : jH) (H : f_X9_fault F a0 h = some (rR, hf)) : jh_sh h a0 = (9, 0) ∧ jMet l (d + 0) yX9_fault cX9_fault 1 (some .int) [.ref a0] h (some (.int rR)) hf := by
  unfold f_X9_fault at H
  obtain ⟨hsh, H⟩ := j_gd_some H
  refine ⟨hsh, ?_⟩
  refine jMet.of false [some (.ref a0)] rfl (by decide) (by decide) (Nat.le_of_ble_eq_true rfl) (fun S0 q hq => by simpa [j_l, lv_args, j_v, Value.category] using hq) ?_
  refine jr_iconst (v := (-1)) dX9_fault_0 (by decide) ?_
  refine jr_aload_n dX9_fault_1 rfl rfl ?_
  refine jr_getI fl_RX9_19 (by decide) dX9_fault_2 H (fun v1 H => ?_)
  refine jr_isub dX9_fault_5 ?_
  exact jr_iret rfl dX9_fault_6 H
set_option maxRecDepth 100000 in
set_option maxHeartbeats 4000000 in
theorem c_X9_isOver (l : Launch) (d : Nat) (F : Nat) (a0 : Nat) (h : jH) (rR : Int32) (hf : jH) (H : f_X9_isOver F a0 h = some (rR, hf)) : jh_sh h a0 = (9, 0) ∧ jMet l (d + 0) yX9_isOver cX9_isOver 1 (some .boolean) [.ref a0] h (some (.int rR)) hf := by
  unfold f_X9_isOver at H
  obtain ⟨hsh, H⟩ := j_gd_some H
  refine ⟨hsh, ?_⟩
  refine jMet.of false [some (.ref a0)] rfl (by decide) (by decide) (Nat.le_of_ble_eq_true rfl) (fun S0 q hq => by simpa [j_l, lv_args, j_v, Value.category] using hq) ?_
  refine jr_aload_n dX9_isOver_0 rfl rfl ?_
  refine jr_getI fl_RX9_19 (by decide) dX9_isOver_1 H (fun v1 H => ?_)
  refine jr_aload_n dX9_isOver_4 rfl rfl ?_
  refine jr_getI fl_RX9_15 (by decide) dX9_isOver_5 H (fun v2 H => ?_)
  refine jr_icmp_ne (tgt := 15) dX9_isOver_8 (by decide) H (fun H => ?_) (fun H => ?_)
  · refine jr_iconst (v := 1) dX9_isOver_11 (by decide) ?_
    refine jr_goto (tgt := 16) dX9_isOver_12 (by decide) ?_
    exact jr_zret rfl rfl dX9_isOver_16 H
  · refine jr_iconst (v := 0) dX9_isOver_15 (by decide) ?_
    exact jr_zret rfl rfl dX9_isOver_16 H
set_option maxRecDepth 100000 in
set_option maxHeartbeats 4000000 in
theorem s_X10_linesUpTo_L3 (l : Launch) (d : Nat) (F : Nat) (x0 : Nat) (x1 : Int32) (x2 : Int32) (x3 : Int32) (k25 : jH → Option (Int32 × jH)) (k45 : Int32 → jH → Option (Int32 × jH)) (k74 : jH → Option (Int32 × jH)) {rR : Int32} {hf : jH} (hk25 : ∀ (h : jH), k25 h = some (rR, hf) → jGo l (d + 4) none RX10 cX10_linesUpTo 5 (some .int) false 25 [some (.ref x0), none, none, none, none] [] h (some (.int rR)) hf) (hk45 : ∀ (y4 : Int32) (h : jH), k45 y4 h = some (rR, hf) → jGo l (d + 4) none RX10 cX10_linesUpTo 5 (some .int) false 45 [some (.ref x0), none, none, none, some (.int y4)] [] h (some (.int rR)) hf) (hk74 : ∀ (h : jH), k74 h = some (rR, hf) → jGo l (d + 4) none RX10 cX10_linesUpTo 5 (some .int) false 74 [some (.ref x0), none, none, none, none] [] h (some (.int rR)) hf) : ∀ (n : Nat) (x4 : Int32) (h : jH), f_X10_linesUpTo_L3 F x0 x1 x2 x3 k25 k45 k74 n x4 h = some (rR, hf) → jGo l (d + 4) none RX10 cX10_linesUpTo 5 (some .int) false 3 [some (.ref x0), some (.int x1), some (.int x2), some (.int x3), some (.int x4)] [] h (some (.int rR)) hf := by
  intro n
  induction n with
  | zero =>
    intro x4 h H
    cases H
  | succ n ih =>
    intro x4 h H
    unfold f_X10_linesUpTo_L3 at H
    refine jr_iload_n dX10_linesUpTo_3 rfl rfl ?_
    refine jr_iload dX10_linesUpTo_4 rfl ?_
    refine jr_iadd dX10_linesUpTo_6 ?_
    refine jr_iload_n dX10_linesUpTo_7 rfl rfl ?_
    refine jr_icmp_gt (tgt := 74) dX10_linesUpTo_8 (by decide) H (fun H => ?_) (fun H => ?_)
    · refine jr_fgt 1 ?_
      refine jr_fgt 2 ?_
      refine jr_fgt 3 ?_
      refine jr_fgt 4 ?_
      exact hk74 _ H
    · refine jr_aload_n dX10_linesUpTo_11 rfl rfl ?_
      refine jr_iload_n dX10_linesUpTo_12 rfl rfl ?_
      refine jr_iload_n dX10_linesUpTo_13 rfl rfl ?_
      refine jr_iload dX10_linesUpTo_14 rfl ?_
      refine jr_iadd dX10_linesUpTo_16 ?_
      refine jr_iconst (v := 1) dX10_linesUpTo_17 (by decide) ?_
      refine jr_isub dX10_linesUpTo_18 ?_
      obtain ⟨v2, h1, Hc, H⟩ := j_b2_some H
      refine jr_callV (ci := 10) [.int x1, .int ((x2 + x4) - (1 : Int32))] my_X10_readLine mv_X10_readLine ml_RX10_381 dX10_linesUpTo_19 rfl rfl (Nat.le_of_ble_eq_true rfl) rfl (c_X10_readLine l d F x0 x1 ((x2 + x4) - (1 : Int32)) h v2 h1 Hc) ?_
      refine jr_if_ne (tgt := 33) dX10_linesUpTo_22 (by decide) H (fun H => ?_) (fun H => ?_)
      · refine jr_fgt 1 ?_
        refine jr_fgt 2 ?_
        refine jr_fgt 3 ?_
        refine jr_fgt 4 ?_
        exact hk25 _ H
      · refine jr_aload_n dX10_linesUpTo_33 rfl rfl ?_
        refine jr_getR fl_RX10_10 dX10_linesUpTo_34 H (fun v3 H => ?_)
        refine jr_bipush (v := 59) dX10_linesUpTo_37 (by decide) ?_
        obtain ⟨v5, h4, Hc, H⟩ := j_b2_some H
        refine jr_callV (ci := 9) [.int 59] my_X9_take mv_X9_take ml_RX10_387 dX10_linesUpTo_39 rfl rfl (Nat.le_of_ble_eq_true rfl) rfl (c_X9_take l (d + 2) F v3 59 h1 v5 h4 Hc) ?_
        refine jr_if_ne (tgt := 68) dX10_linesUpTo_42 (by decide) H (fun H => ?_) (fun H => ?_)
        · refine jr_fgt 1 ?_
          refine jr_fgt 2 ?_
          refine jr_fgt 3 ?_
          exact hk45 _ _ H
        · refine jr_iinc (v := (x4 + 1)) dX10_linesUpTo_68 rfl rfl (by decide) rfl (Or.inl rfl) ?_
          refine jr_goto (tgt := 3) dX10_linesUpTo_71 (by decide) ?_
          exact ih _ _ H
set_option maxRecDepth 100000 in
set_option maxHeartbeats 4000000 in
theorem c_X10_linesUpTo (l : Launch) (d : Nat) (F : Nat) (a0 : Nat) (a1 : Int32) (a2 : Int32) (a3 : Int32) (h : jH) (rR : Int32) (hf : jH) (H : f_X10_linesUpTo F a0 a1 a2 a3 h = some (rR, hf)) : jh_sh h a0 = (10, 0) ∧ jMet l (d + 4) yX10_linesUpTo cX10_linesUpTo 5 (some .int) [.ref a0, .int a1, .int a2, .int a3] h (some (.int rR)) hf := by
  unfold f_X10_linesUpTo at H
  obtain ⟨hsh, H⟩ := j_gd_some H
  refine ⟨hsh, ?_⟩
  refine jMet.of false [some (.ref a0), some (.int a1), some (.int a2), some (.int a3), none] rfl (by decide) (by decide) (Nat.le_of_ble_eq_true rfl) (fun S0 q hq => by simpa [j_l, lv_args, j_v, Value.category] using hq) ?_
  refine jr_iconst (v := 1) dX10_linesUpTo_0 (by decide) ?_
  refine jr_istore dX10_linesUpTo_1 (by decide) rfl (Or.inl rfl) ?_
  refine s_X10_linesUpTo_L3 l d F a0 a1 a2 a3 _ _ _ (fun h6 H => ?_) (fun y10 h11 H => ?_) (fun h18 H => ?_) F 1 h H
  · refine jr_aload_n dX10_linesUpTo_25 rfl rfl ?_
    refine jr_getR fl_RX10_10 dX10_linesUpTo_26 H (fun v7 H => ?_)
    obtain ⟨v9, h8, Hc, H⟩ := j_b2_some H
    refine jr_callV (ci := 9) [] my_X9_fault mv_X9_fault ml_RX10_384 dX10_linesUpTo_29 rfl rfl (Nat.le_of_ble_eq_true rfl) rfl (c_X9_fault l (d + 3) F v7 h6 v9 h8 Hc) ?_
    exact jr_iret rfl dX10_linesUpTo_32 H
  · refine jr_aload_n dX10_linesUpTo_45 rfl rfl ?_
    refine jr_getR fl_RX10_10 dX10_linesUpTo_46 H (fun v12 H => ?_)
    obtain ⟨v14, h13, Hc, H⟩ := j_b2_some H
    refine jr_callV (ci := 9) [] my_X9_isOver mv_X9_isOver ml_RX10_390 dX10_linesUpTo_49 rfl rfl (Nat.le_of_ble_eq_true rfl) rfl (c_X9_isOver l (d + 3) F v12 h11 v14 h13 Hc) ?_
    refine jr_if_eq (tgt := 60) dX10_linesUpTo_52 (by decide) H (fun H => ?_) (fun H => ?_)
    · refine jr_aload_n dX10_linesUpTo_60 rfl rfl ?_
      refine jr_getR fl_RX10_10 dX10_linesUpTo_61 H (fun v15 H => ?_)
      obtain ⟨v17, h16, Hc, H⟩ := j_b2_some H
      refine jr_callV (ci := 9) [] my_X9_fault mv_X9_fault ml_RX10_384 dX10_linesUpTo_64 rfl rfl (Nat.le_of_ble_eq_true rfl) rfl (c_X9_fault l (d + 3) F v15 h13 v17 h16 Hc) ?_
      exact jr_iret rfl dX10_linesUpTo_67 H
    · refine jr_iload dX10_linesUpTo_55 rfl ?_
      refine jr_goto (tgt := 67) dX10_linesUpTo_57 (by decide) ?_
      exact jr_iret rfl dX10_linesUpTo_67 H
  · refine jr_aload_n dX10_linesUpTo_74 rfl rfl ?_
    refine jr_getR fl_RX10_10 dX10_linesUpTo_75 H (fun v19 H => ?_)
    obtain ⟨v21, h20, Hc, H⟩ := j_b2_some H
    refine jr_callV (ci := 9) [] my_X9_fault mv_X9_fault ml_RX10_384 dX10_linesUpTo_78 rfl rfl (Nat.le_of_ble_eq_true rfl) rfl (c_X9_fault l (d + 3) F v19 h18 v21 h20 Hc) ?_
    exact jr_iret rfl dX10_linesUpTo_81 H
set_option maxRecDepth 100000 in
set_option maxHeartbeats 4000000 in
theorem c_X9_open (l : Launch) (d : Nat) (F : Nat) (a0 : Nat) (a1 : Int32) (h : jH) (hf : jH) (H : f_X9_open F a0 a1 h = some hf) : jh_sh h a0 = (9, 0) ∧ jMet l (d + 1) yX9_open cX9_open 2 none [.ref a0, .int a1] h none hf := by
  unfold f_X9_open at H
  obtain ⟨hsh, H⟩ := j_gd_some H
  refine ⟨hsh, ?_⟩
  refine jMet.of false [some (.ref a0), some (.int a1)] rfl (by decide) (by decide) (Nat.le_of_ble_eq_true rfl) (fun S0 q hq => by simpa [j_l, lv_args, j_v, Value.category] using hq) ?_
  refine jr_aload_n dX9_open_0 rfl rfl ?_
  refine jr_iconst (v := 0) dX9_open_1 (by decide) ?_
  refine jr_putI fl_RX9_19 (fun z => by cases z) dX9_open_2 H (fun h1 H => ?_)
  refine jr_aload_n dX9_open_5 rfl rfl ?_
  refine jr_aload_n dX9_open_6 rfl rfl ?_
  refine jr_getI fl_RX9_15 (by decide) dX9_open_7 H (fun v2 H => ?_)
  refine jr_iload_n dX9_open_10 rfl rfl ?_
  refine jr_bipush (v := 80) dX9_open_11 (by decide) ?_
  refine jr_mmin ml_RX9_22 mm_mmin_s mm_i mm_mmin_c dX9_open_13 (Nat.le_of_ble_eq_true rfl) ?_
  refine jr_mmin ml_RX9_22 mm_mmin_s mm_i mm_mmin_c dX9_open_16 (Nat.le_of_ble_eq_true rfl) ?_
  refine jr_putI fl_RX9_28 (fun z => by cases z) dX9_open_19 H (fun h3 H => ?_)
  exact jr_vret rfl dX9_open_22 H
set_option maxRecDepth 100000 in
set_option maxHeartbeats 4000000 in
theorem c_X10_readLines (l : Launch) (d : Nat) (F : Nat) (a0 : Nat) (a1 : Int32) (a2 : Int32) (a3 : Int32) (a4 : Int32) (h : jH) (rR : Int32) (hf : jH) (H : f_X10_readLines F a0 a1 a2 a3 a4 h = some (rR, hf)) : jh_sh h a0 = (10, 0) ∧ jMet l (d + 5) yX10_readLines cX10_readLines 6 (some .int) [.ref a0, .int a1, .int a2, .int a3, .int a4] h (some (.int rR)) hf := by
  unfold f_X10_readLines at H
  obtain ⟨hsh, H⟩ := j_gd_some H
  refine ⟨hsh, ?_⟩
  refine jMet.of false [some (.ref a0), some (.int a1), some (.int a2), some (.int a3), some (.int a4), none] rfl (by decide) (by decide) (Nat.le_of_ble_eq_true rfl) (fun S0 q hq => by simpa [j_l, lv_args, j_v, Value.category] using hq) ?_
  refine jr_aload_n dX10_readLines_0 rfl rfl ?_
  refine jr_getR fl_RX10_10 dX10_readLines_1 H (fun v1 H => ?_)
  refine jr_iload_n dX10_readLines_4 rfl rfl ?_
  obtain ⟨h2, Hc, H⟩ := Option.bind_eq_some_iff.mp H
  refine jr_callV (ci := 9) [.int a2] my_X9_open mv_X9_open ml_RX10_263 dX10_readLines_5 rfl rfl (Nat.le_of_ble_eq_true rfl) rfl (c_X9_open l (d + 3) F v1 a2 h h2 Hc) ?_
  refine jr_aload_n dX10_readLines_8 rfl rfl ?_
  refine jr_getR fl_RX10_10 dX10_readLines_9 H (fun v3 H => ?_)
  refine jr_getI fl_RX10_113 (by decide) dX10_readLines_12 H (fun v4 H => ?_)
  refine jr_jn (fun J => ∀ (s5 : Int32) (h6 : jH), J s5 h6 = some (rR, hf) → jGo l (d + 5) none RX10 cX10_readLines 6 (some .int) false 30 [some (.ref a0), none, none, none, none, none] [.int s5] h6 (some (.int rR)) hf) H (fun s5 h6 H => ?_) (fun J30 hJ30 H => ?_)
  · refine jr_istore dX10_readLines_30 (by decide) rfl (Or.inl rfl) ?_
    refine jr_aload_n dX10_readLines_32 rfl rfl ?_
    refine jr_getR fl_RX10_10 dX10_readLines_33 H (fun v7 H => ?_)
    refine jr_iconst (v := 0) dX10_readLines_36 (by decide) ?_
    refine jr_putI fl_RX10_113 (fun z => by cases z) dX10_readLines_37 H (fun h8 H => ?_)
    refine jr_iload dX10_readLines_40 rfl ?_
    exact jr_iret rfl dX10_readLines_42 H
  · refine jr_if_ne (tgt := 22) dX10_readLines_15 (by decide) H (fun H => ?_) (fun H => ?_)
    · refine jr_iconst (v := 0) dX10_readLines_18 (by decide) ?_
      refine jr_goto (tgt := 30) dX10_readLines_19 (by decide) ?_
      refine jr_fgt 1 ?_
      refine jr_fgt 2 ?_
      refine jr_fgt 3 ?_
      refine jr_fgt 4 ?_
      exact hJ30 _ _ H
    · refine jr_aload_n dX10_readLines_22 rfl rfl ?_
      refine jr_iload_n dX10_readLines_23 rfl rfl ?_
      refine jr_iload_n dX10_readLines_24 rfl rfl ?_
      refine jr_iload dX10_readLines_25 rfl ?_
      obtain ⟨v10, h9, Hc, H⟩ := j_b2_some H
      refine jr_callV (ci := 10) [.int a1, .int a3, .int a4] my_X10_linesUpTo mv_X10_linesUpTo ml_RX10_377 dX10_readLines_27 rfl rfl (Nat.le_of_ble_eq_true rfl) rfl (c_X10_linesUpTo l d F a0 a1 a3 a4 h2 v10 h9 Hc) ?_
      refine jr_fgt 1 ?_
      refine jr_fgt 2 ?_
      refine jr_fgt 3 ?_
      refine jr_fgt 4 ?_
      exact hJ30 _ _ H
set_option maxRecDepth 100000 in
set_option maxHeartbeats 4000000 in
theorem c_X10_words (l : Launch) (d : Nat) (F : Nat) (a0 : Nat) (h : jH) (rR : Int32) (hf : jH) (H : f_X10_words F a0 h = some (rR, hf)) : jh_sh h a0 = (10, 0) ∧ jMet l (d + 6) yX10_words cX10_words 2 (some .int) [.ref a0] h (some (.int rR)) hf := by
  unfold f_X10_words at H
  obtain ⟨hsh, H⟩ := j_gd_some H
  refine ⟨hsh, ?_⟩
  refine jMet.of false [some (.ref a0), none] rfl (by decide) (by decide) (Nat.le_of_ble_eq_true rfl) (fun S0 q hq => by simpa [j_l, lv_args, j_v, Value.category] using hq) ?_
  refine jr_aload_n dX10_words_0 rfl rfl ?_
  refine jr_iconst (v := 0) dX10_words_1 (by decide) ?_
  refine jr_bipush (v := 76) dX10_words_2 (by decide) ?_
  refine jr_aload_n dX10_words_4 rfl rfl ?_
  refine jr_getR fl_RX10_26 dX10_words_5 H (fun v1 H => ?_)
  refine jr_getI fl_RX10_127 (by decide) dX10_words_8 H (fun v2 H => ?_)
  refine jr_bipush (v := 10) dX10_words_11 (by decide) ?_
  obtain ⟨v4, h3, Hc, H⟩ := j_b2_some H
  refine jr_callV (ci := 10) [.int 0, .int 76, .int v2, .int 10] my_X10_readLines mv_X10_readLines ml_RX10_128 dX10_words_13 rfl rfl (Nat.le_of_ble_eq_true rfl) rfl (c_X10_readLines l d F a0 0 76 v2 10 h v4 h3 Hc) ?_
  refine jr_istore_n dX10_words_16 rfl (by decide) rfl (Or.inl rfl) ?_
  refine jr_iload_n dX10_words_17 rfl rfl ?_
  refine jr_if_le (tgt := 38) dX10_words_18 (by decide) H (fun H => ?_) (fun H => ?_)
  · refine jr_iload_n dX10_words_38 rfl rfl ?_
    exact jr_iret rfl dX10_words_39 H
  · refine jr_aload_n dX10_words_21 rfl rfl ?_
    refine jr_getR fl_RX10_26 dX10_words_22 H (fun v5 H => ?_)
    refine jr_dup dX10_words_25 rfl ?_
    refine jr_getI fl_RX10_127 (by decide) dX10_words_26 H (fun v6 H => ?_)
    refine jr_iload_n dX10_words_29 rfl rfl ?_
    refine jr_iadd dX10_words_30 ?_
    refine jr_putI fl_RX10_127 (fun z => by cases z) dX10_words_31 H (fun h7 H => ?_)
    refine jr_aload_n dX10_words_34 rfl rfl ?_
    obtain ⟨h8, Hc, H⟩ := Option.bind_eq_some_iff.mp H
    refine jr_callV (ci := 10) [] my_X10_forget mv_X10_forget ml_RX10_124 dX10_words_35 rfl rfl (Nat.le_of_ble_eq_true rfl) rfl (c_X10_forget l (d + 5) F a0 h7 h8 Hc) ?_
    refine jr_iload_n dX10_words_38 rfl rfl ?_
    exact jr_iret rfl dX10_words_39 H
set_option maxRecDepth 100000 in
set_option maxHeartbeats 4000000 in
theorem c_X10_travellers (l : Launch) (d : Nat) (F : Nat) (a0 : Nat) (h : jH) (rR : Int32) (hf : jH) (H : f_X10_travellers F a0 h = some (rR, hf)) : jh_sh h a0 = (10, 0) ∧ jMet l (d + 6) yX10_travellers cX10_travellers 2 (some .int) [.ref a0] h (some (.int rR)) hf := by
  unfold f_X10_travellers at H
  obtain ⟨hsh, H⟩ := j_gd_some H
  refine ⟨hsh, ?_⟩
  refine jMet.of false [some (.ref a0), none] rfl (by decide) (by decide) (Nat.le_of_ble_eq_true rfl) (fun S0 q hq => by simpa [j_l, lv_args, j_v, Value.category] using hq) ?_
  refine jr_aload_n dX10_travellers_0 rfl rfl ?_
  refine jr_iconst (v := 1) dX10_travellers_1 (by decide) ?_
  refine jr_bipush (v := 40) dX10_travellers_2 (by decide) ?_
  refine jr_aload_n dX10_travellers_4 rfl rfl ?_
  refine jr_getI fl_RX10_103 (by decide) dX10_travellers_5 H (fun v1 H => ?_)
  refine jr_iconst (v := 4) dX10_travellers_8 (by decide) ?_
  obtain ⟨v3, h2, Hc, H⟩ := j_b2_some H
  refine jr_callV (ci := 10) [.int 1, .int 40, .int v1, .int 4] my_X10_readLines mv_X10_readLines ml_RX10_128 dX10_travellers_9 rfl rfl (Nat.le_of_ble_eq_true rfl) rfl (c_X10_readLines l d F a0 1 40 v1 4 h v3 h2 Hc) ?_
  refine jr_istore_n dX10_travellers_12 rfl (by decide) rfl (Or.inl rfl) ?_
  refine jr_iload_n dX10_travellers_13 rfl rfl ?_
  refine jr_if_le (tgt := 31) dX10_travellers_14 (by decide) H (fun H => ?_) (fun H => ?_)
  · refine jr_iload_n dX10_travellers_31 rfl rfl ?_
    exact jr_iret rfl dX10_travellers_32 H
  · refine jr_aload_n dX10_travellers_17 rfl rfl ?_
    refine jr_dup dX10_travellers_18 rfl ?_
    refine jr_getI fl_RX10_103 (by decide) dX10_travellers_19 H (fun v4 H => ?_)
    refine jr_iload_n dX10_travellers_22 rfl rfl ?_
    refine jr_iadd dX10_travellers_23 ?_
    refine jr_putI fl_RX10_103 (fun z => by cases z) dX10_travellers_24 H (fun h5 H => ?_)
    refine jr_aload_n dX10_travellers_27 rfl rfl ?_
    obtain ⟨h6, Hc, H⟩ := Option.bind_eq_some_iff.mp H
    refine jr_callV (ci := 10) [] my_X10_forget mv_X10_forget ml_RX10_124 dX10_travellers_28 rfl rfl (Nat.le_of_ble_eq_true rfl) rfl (c_X10_forget l (d + 5) F a0 h5 h6 Hc) ?_
    refine jr_iload_n dX10_travellers_31 rfl rfl ?_
    exact jr_iret rfl dX10_travellers_32 H
set_option maxRecDepth 100000 in
set_option maxHeartbeats 4000000 in
theorem c_X10_errands (l : Launch) (d : Nat) (F : Nat) (a0 : Nat) (h : jH) (rR : Int32) (hf : jH) (H : f_X10_errands F a0 h = some (rR, hf)) : jh_sh h a0 = (10, 0) ∧ jMet l (d + 6) yX10_errands cX10_errands 2 (some .int) [.ref a0] h (some (.int rR)) hf := by
  unfold f_X10_errands at H
  obtain ⟨hsh, H⟩ := j_gd_some H
  refine ⟨hsh, ?_⟩
  refine jMet.of false [some (.ref a0), none] rfl (by decide) (by decide) (Nat.le_of_ble_eq_true rfl) (fun S0 q hq => by simpa [j_l, lv_args, j_v, Value.category] using hq) ?_
  refine jr_aload_n dX10_errands_0 rfl rfl ?_
  refine jr_iconst (v := 2) dX10_errands_1 (by decide) ?_
  refine jr_bipush (v := 76) dX10_errands_2 (by decide) ?_
  refine jr_aload_n dX10_errands_4 rfl rfl ?_
  refine jr_getR fl_RX10_33 dX10_errands_5 H (fun v1 H => ?_)
  refine jr_getI fl_RX10_132 (by decide) dX10_errands_8 H (fun v2 H => ?_)
  refine jr_bipush (v := 8) dX10_errands_11 (by decide) ?_
  obtain ⟨v4, h3, Hc, H⟩ := j_b2_some H
  refine jr_callV (ci := 10) [.int 2, .int 76, .int v2, .int 8] my_X10_readLines mv_X10_readLines ml_RX10_128 dX10_errands_13 rfl rfl (Nat.le_of_ble_eq_true rfl) rfl (c_X10_readLines l d F a0 2 76 v2 8 h v4 h3 Hc) ?_
  refine jr_istore_n dX10_errands_16 rfl (by decide) rfl (Or.inl rfl) ?_
  refine jr_iload_n dX10_errands_17 rfl rfl ?_
  refine jr_if_le (tgt := 38) dX10_errands_18 (by decide) H (fun H => ?_) (fun H => ?_)
  · refine jr_iload_n dX10_errands_38 rfl rfl ?_
    exact jr_iret rfl dX10_errands_39 H
  · refine jr_aload_n dX10_errands_21 rfl rfl ?_
    refine jr_getR fl_RX10_33 dX10_errands_22 H (fun v5 H => ?_)
    refine jr_dup dX10_errands_25 rfl ?_
    refine jr_getI fl_RX10_132 (by decide) dX10_errands_26 H (fun v6 H => ?_)
    refine jr_iload_n dX10_errands_29 rfl rfl ?_
    refine jr_iadd dX10_errands_30 ?_
    refine jr_putI fl_RX10_132 (fun z => by cases z) dX10_errands_31 H (fun h7 H => ?_)
    refine jr_aload_n dX10_errands_34 rfl rfl ?_
    obtain ⟨h8, Hc, H⟩ := Option.bind_eq_some_iff.mp H
    refine jr_callV (ci := 10) [] my_X10_forget mv_X10_forget ml_RX10_124 dX10_errands_35 rfl rfl (Nat.le_of_ble_eq_true rfl) rfl (c_X10_forget l (d + 5) F a0 h7 h8 Hc) ?_
    refine jr_iload_n dX10_errands_38 rfl rfl ?_
    exact jr_iret rfl dX10_errands_39 H
set_option maxRecDepth 100000 in
set_option maxHeartbeats 4000000 in
theorem c_X8_put (l : Launch) (d : Nat) (F : Nat) (a0 : Nat) (a1 : Int32) (h : jH) (rR : Int32) (hf : jH) (H : f_X8_put F a0 a1 h = some (rR, hf)) : jh_sh h a0 = (8, 0) ∧ jMet l (d + 0) yX8_put cX8_put 2 (some .boolean) [.ref a0, .int a1] h (some (.int rR)) hf := by
  unfold f_X8_put at H
  obtain ⟨hsh, H⟩ := j_gd_some H
  refine ⟨hsh, ?_⟩
  refine jMet.of false [some (.ref a0), some (.int a1)] rfl (by decide) (by decide) (Nat.le_of_ble_eq_true rfl) (fun S0 q hq => by simpa [j_l, lv_args, j_v, Value.category] using hq) ?_
  refine jr_aload_n dX8_put_0 rfl rfl ?_
  refine jr_getI fl_RX8_24 (by decide) dX8_put_1 H (fun v1 H => ?_)
  refine jr_bipush (v := 40) dX8_put_4 (by decide) ?_
  refine jr_icmp_lt (tgt := 11) dX8_put_6 (by decide) H (fun H => ?_) (fun H => ?_)
  · refine jr_aload_n dX8_put_11 rfl rfl ?_
    refine jr_getR fl_RX8_15 dX8_put_12 H (fun v2 H => ?_)
    refine jr_aload_n dX8_put_15 rfl rfl ?_
    refine jr_getI fl_RX8_24 (by decide) dX8_put_16 H (fun v3 H => ?_)
    refine jr_iload_n dX8_put_19 rfl rfl ?_
    refine jr_iast dX8_put_20 H (fun h4 H => ?_)
    refine jr_aload_n dX8_put_21 rfl rfl ?_
    refine jr_dup dX8_put_22 rfl ?_
    refine jr_getI fl_RX8_24 (by decide) dX8_put_23 H (fun v5 H => ?_)
    refine jr_iconst (v := 1) dX8_put_26 (by decide) ?_
    refine jr_iadd dX8_put_27 ?_
    refine jr_putI fl_RX8_24 (fun z => by cases z) dX8_put_28 H (fun h6 H => ?_)
    refine jr_iconst (v := 1) dX8_put_31 (by decide) ?_
    exact jr_zret rfl rfl dX8_put_32 H
  · refine jr_iconst (v := 0) dX8_put_9 (by decide) ?_
    exact jr_zret rfl rfl dX8_put_10 H
set_option maxRecDepth 100000 in
set_option maxHeartbeats 4000000 in
theorem c_X8_takeEither (l : Launch) (d : Nat) (F : Nat) (a0 : Nat) (a1 : Int32) (a2 : Int32) (h : jH) (rR : Int32) (hf : jH) (H : f_X8_takeEither F a0 a1 a2 h = some (rR, hf)) : jMet l (d + 2) yX8_takeEither cX8_takeEither 3 (some .int) [.ref a0, .int a1, .int a2] h (some (.int rR)) hf := by
  unfold f_X8_takeEither at H
  refine jMet.of false [some (.ref a0), some (.int a1), some (.int a2)] rfl (by decide) (by decide) (Nat.le_of_ble_eq_true rfl) (fun S0 q hq => by simpa [j_l, lv_args, j_v, Value.category] using hq) ?_
  refine jr_aload_n dX8_takeEither_0 rfl rfl ?_
  refine jr_iload_n dX8_takeEither_1 rfl rfl ?_
  obtain ⟨v2, h1, Hc, H⟩ := j_b2_some H
  refine jr_callV (ci := 9) [.int a1] my_X9_take mv_X9_take ml_RX8_58 dX8_takeEither_2 rfl rfl (Nat.le_of_ble_eq_true rfl) rfl (c_X9_take l d F a0 a1 h v2 h1 Hc) ?_
  refine jr_if_eq (tgt := 12) dX8_takeEither_5 (by decide) H (fun H => ?_) (fun H => ?_)
  · refine jr_aload_n dX8_takeEither_12 rfl rfl ?_
    refine jr_iload_n dX8_takeEither_13 rfl rfl ?_
    obtain ⟨v4, h3, Hc, H⟩ := j_b2_some H
    refine jr_callV (ci := 9) [.int a2] my_X9_take mv_X9_take ml_RX8_58 dX8_takeEither_14 rfl rfl (Nat.le_of_ble_eq_true rfl) rfl (c_X9_take l d F a0 a2 h1 v4 h3 Hc) ?_
    refine jr_if_eq (tgt := 24) dX8_takeEither_17 (by decide) H (fun H => ?_) (fun H => ?_)
    · refine jr_iconst (v := (-1)) dX8_takeEither_24 (by decide) ?_
      exact jr_iret rfl dX8_takeEither_25 H
    · refine jr_iload_n dX8_takeEither_20 rfl rfl ?_
      refine jr_goto (tgt := 25) dX8_takeEither_21 (by decide) ?_
      exact jr_iret rfl dX8_takeEither_25 H
  · refine jr_iload_n dX8_takeEither_8 rfl rfl ?_
    refine jr_goto (tgt := 25) dX8_takeEither_9 (by decide) ?_
    exact jr_iret rfl dX8_takeEither_25 H
set_option maxRecDepth 100000 in
set_option maxHeartbeats 4000000 in
theorem c_X8_factOf (l : Launch) (d : Nat) (F : Nat) (a0 : Int32) (h : jH) (rR : Int32) (hf : jH) (H : f_X8_factOf F a0 h = some (rR, hf)) : jMet l (d + 0) yX8_factOf cX8_factOf 1 (some .int) [.int a0] h (some (.int rR)) hf := by
  unfold f_X8_factOf at H
  refine jMet.of false [some (.int a0)] rfl (by decide) (by decide) (Nat.le_of_ble_eq_true rfl) (fun S0 q hq => by simpa [j_l, lv_args, j_v, Value.category] using hq) ?_
  refine jr_iload_n dX8_factOf_0 rfl rfl ?_
  by_cases q0 : a0 = 100
  · rw [if_pos q0] at H
    refine jr_table (tgt := 104) dX8_factOf_1 (103) (by rw [q0]; decide) (by decide) (by decide) (by decide) ?_
    refine jr_bipush (v := 6) dX8_factOf_104 (by decide) ?_
    exact jr_iret rfl dX8_factOf_106 H
  rw [if_neg q0] at H
  by_cases q1 : a0 = 104
  · rw [if_pos q1] at H
    refine jr_table (tgt := 96) dX8_factOf_1 (95) (by rw [q1]; decide) (by decide) (by decide) (by decide) ?_
    refine jr_iconst (v := 2) dX8_factOf_96 (by decide) ?_
    exact jr_iret rfl dX8_factOf_97 H
  rw [if_neg q1] at H
  by_cases q2 : a0 = 108
  · rw [if_pos q2] at H
    refine jr_table (tgt := 98) dX8_factOf_1 (97) (by rw [q2]; decide) (by decide) (by decide) (by decide) ?_
    refine jr_iconst (v := 3) dX8_factOf_98 (by decide) ?_
    exact jr_iret rfl dX8_factOf_99 H
  rw [if_neg q2] at H
  by_cases q3 : a0 = 110
  · rw [if_pos q3] at H
    refine jr_table (tgt := 102) dX8_factOf_1 (101) (by rw [q3]; decide) (by decide) (by decide) (by decide) ?_
    refine jr_iconst (v := 5) dX8_factOf_102 (by decide) ?_
    exact jr_iret rfl dX8_factOf_103 H
  rw [if_neg q3] at H
  by_cases q4 : a0 = 112
  · rw [if_pos q4] at H
    refine jr_table (tgt := 100) dX8_factOf_1 (99) (by rw [q4]; decide) (by decide) (by decide) (by decide) ?_
    refine jr_iconst (v := 4) dX8_factOf_100 (by decide) ?_
    exact jr_iret rfl dX8_factOf_101 H
  rw [if_neg q4] at H
  by_cases q5 : a0 = 115
  · rw [if_pos q5] at H
    refine jr_table (tgt := 94) dX8_factOf_1 (93) (by rw [q5]; decide) (by decide) (by decide) (by decide) ?_
    refine jr_iconst (v := 1) dX8_factOf_94 (by decide) ?_
    exact jr_iret rfl dX8_factOf_95 H
  rw [if_neg q5] at H
  by_cases q6 : a0 = 118
  · rw [if_pos q6] at H
    refine jr_table (tgt := 92) dX8_factOf_1 (91) (by rw [q6]; decide) (by decide) (by decide) (by decide) ?_
    refine jr_iconst (v := 0) dX8_factOf_92 (by decide) ?_
    exact jr_iret rfl dX8_factOf_93 H
  rw [if_neg q6] at H
  have hdef : (if a0.toInt < 100 ∨ 118 < a0.toInt then (106 : Int) else (#[103, 106, 106, 106, 95, 106, 106, 106, 97, 106, 101, 106, 99, 106, 106, 93, 106, 106, 91] : Array Int).getD (a0.toInt - 100).toNat 106) = 106 := by
    have w0 := lv_neT q0 (show (100 : Int32).toInt = 100 from rfl)
    have w1 := lv_neT q1 (show (104 : Int32).toInt = 104 from rfl)
    have w2 := lv_neT q2 (show (108 : Int32).toInt = 108 from rfl)
    have w3 := lv_neT q3 (show (110 : Int32).toInt = 110 from rfl)
    have w4 := lv_neT q4 (show (112 : Int32).toInt = 112 from rfl)
    have w5 := lv_neT q5 (show (115 : Int32).toInt = 115 from rfl)
    have w6 := lv_neT q6 (show (118 : Int32).toInt = 118 from rfl)
    by_cases hx : a0.toInt < 100 ∨ 118 < a0.toInt
    · rw [if_pos hx]
    · rw [if_neg hx]
      have hb : a0.toInt = 101 ∨ a0.toInt = 102 ∨ a0.toInt = 103 ∨ a0.toInt = 105 ∨ a0.toInt = 106 ∨ a0.toInt = 107 ∨ a0.toInt = 109 ∨ a0.toInt = 111 ∨ a0.toInt = 113 ∨ a0.toInt = 114 ∨ a0.toInt = 116 ∨ a0.toInt = 117 := by omega
      rcases hb with e | e | e | e | e | e | e | e | e | e | e | e <;> rw [e] <;> rfl
  refine jr_table (tgt := 107) dX8_factOf_1 (106) hdef (by decide) (by decide) (by decide) ?_
  refine jr_iconst (v := (-1)) dX8_factOf_107 (by decide) ?_
  exact jr_iret rfl dX8_factOf_108 H
set_option maxRecDepth 100000 in
set_option maxHeartbeats 4000000 in
theorem c_b_X8_readComparison (l : Launch) (d : Nat) (F : Nat) (rec : Nat → Nat → Nat → Int32 → jH → Option (Int32 × jH)) (hrec : (∀ (a0 : Nat) (a1 : Nat) (a2 : Int32) (h : jH) (rv : Int32) (hv : jH), rec 0 a0 a1 a2 h = some (rv, hv) → jh_sh h a0 = (8, 0) ∧ jMet l (d + 2) yX8_readComparison cX8_readComparison 4 (some .boolean) [.ref a0, .ref a1, .int a2] h (some (.int rv)) hv) ∧ (∀ (a0 : Nat) (a1 : Nat) (a2 : Int32) (h : jH) (rv : Int32) (hv : jH), rec 1 a0 a1 a2 h = some (rv, hv) → jh_sh h a0 = (8, 0) ∧ jMet l (d + 2) yX8_readSum cX8_readSum 6 (some .boolean) [.ref a0, .ref a1, .int a2] h (some (.int rv)) hv) ∧ (∀ (a0 : Nat) (a1 : Nat) (a2 : Int32) (h : jH) (rv : Int32) (hv : jH), rec 2 a0 a1 a2 h = some (rv, hv) → jh_sh h a0 = (8, 0) ∧ jMet l (d + 2) yX8_readProduct cX8_readProduct 6 (some .boolean) [.ref a0, .ref a1, .int a2] h (some (.int rv)) hv) ∧ (∀ (a0 : Nat) (a1 : Nat) (a2 : Int32) (h : jH) (rv : Int32) (hv : jH), rec 3 a0 a1 a2 h = some (rv, hv) → jh_sh h a0 = (8, 0) ∧ jMet l (d + 2) yX8_readFactor cX8_readFactor 4 (some .boolean) [.ref a0, .ref a1, .int a2] h (some (.int rv)) hv) ∧ (∀ (a0 : Nat) (a1 : Nat) (a2 : Int32) (h : jH) (rv : Int32) (hv : jH), rec 4 a0 a1 a2 h = some (rv, hv) → jh_sh h a0 = (8, 0) ∧ jMet l (d + 2) yX8_readThing cX8_readThing 5 (some .boolean) [.ref a0, .ref a1, .int a2] h (some (.int rv)) hv)) (a0 : Nat) (a1 : Nat) (a2 : Int32) (h : jH) (rR : Int32) (hf : jH) (H : b_X8_readComparison F rec a0 a1 a2 h = some (rR, hf)) : jh_sh h a0 = (8, 0) ∧ jMet l (d + 3) yX8_readComparison cX8_readComparison 4 (some .boolean) [.ref a0, .ref a1, .int a2] h (some (.int rR)) hf := by
  unfold b_X8_readComparison at H
  obtain ⟨hsh, H⟩ := j_gd_some H
  refine ⟨hsh, ?_⟩
  refine jMet.of false [some (.ref a0), some (.ref a1), some (.int a2), none] rfl (by decide) (by decide) (Nat.le_of_ble_eq_true rfl) (fun S0 q hq => by simpa [j_l, lv_args, j_v, Value.category] using hq) ?_
  refine jr_aload_n dX8_readComparison_0 rfl rfl ?_
  refine jr_aload_n dX8_readComparison_1 rfl rfl ?_
  refine jr_iload_n dX8_readComparison_2 rfl rfl ?_
  obtain ⟨v2, h1, Hc, H⟩ := j_b2_some H
  refine jr_callV (ci := 8) [.ref a1, .int a2] my_X8_readSum mv_X8_readSum ml_RX8_41 dX8_readComparison_3 rfl rfl (Nat.le_of_ble_eq_true rfl) rfl (hrec.2.1 a0 a1 a2 h v2 h1 Hc) ?_
  refine jr_if_ne (tgt := 11) dX8_readComparison_6 (by decide) H (fun H => ?_) (fun H => ?_)
  · refine jr_iconst (v := 0) dX8_readComparison_9 (by decide) ?_
    exact jr_zret rfl rfl dX8_readComparison_10 H
  · refine jr_aload_n dX8_readComparison_11 rfl rfl ?_
    refine jr_bipush (v := 60) dX8_readComparison_12 (by decide) ?_
    refine jr_bipush (v := 62) dX8_readComparison_14 (by decide) ?_
    obtain ⟨v4, h3, Hc, H⟩ := j_b2_some H
    refine jr_callS [.ref a1, .int 60, .int 62] my_X8_takeEither ms_X8_takeEither ml_RX8_44 dX8_readComparison_16 rfl rfl (Nat.le_of_ble_eq_true rfl) (c_X8_takeEither l d F a1 60 62 h1 v4 h3 Hc) ?_
    refine jr_istore_n dX8_readComparison_19 rfl (by decide) rfl (Or.inl rfl) ?_
    refine jr_iload_n dX8_readComparison_20 rfl rfl ?_
    refine jr_iconst (v := (-1)) dX8_readComparison_21 (by decide) ?_
    refine jr_jn (fun J => ∀ (z5 : Int32) (h6 : jH), J z5 h6 = some (rR, hf) → jGo l (d + 3) none RX8 cX8_readComparison 4 (some .boolean) false 34 [some (.ref a0), some (.ref a1), some (.int a2), some (.int z5)] [] h6 (some (.int rR)) hf) H (fun z5 h6 H => ?_) (fun J34 hJ34 H => ?_)
    · refine jr_iload_n dX8_readComparison_34 rfl rfl ?_
      refine jr_iconst (v := (-1)) dX8_readComparison_35 (by decide) ?_
      refine jr_jn (fun J => ∀ (h7 : jH), J h7 = some (rR, hf) → jGo l (d + 3) none RX8 cX8_readComparison 4 (some .boolean) false 60 [none, none, none, none] [] h7 (some (.int rR)) hf) H (fun h7 H => ?_) (fun J60 hJ60 H => ?_)
      · refine jr_iconst (v := 1) dX8_readComparison_60 (by decide) ?_
        refine jr_goto (tgt := 65) dX8_readComparison_61 (by decide) ?_
        exact jr_zret rfl rfl dX8_readComparison_65 H
      · refine jr_icmp_eq (tgt := 60) dX8_readComparison_36 (by decide) H (fun H => ?_) (fun H => ?_)
        · refine jr_fgt 0 ?_
          refine jr_fgt 1 ?_
          refine jr_fgt 2 ?_
          refine jr_fgt 3 ?_
          exact hJ60 _ H
        · refine jr_aload_n dX8_readComparison_39 rfl rfl ?_
          refine jr_aload_n dX8_readComparison_40 rfl rfl ?_
          refine jr_iload_n dX8_readComparison_41 rfl rfl ?_
          obtain ⟨v9, h8, Hc, H⟩ := j_b2_some H
          refine jr_callV (ci := 8) [.ref a1, .int a2] my_X8_readSum mv_X8_readSum ml_RX8_41 dX8_readComparison_42 rfl rfl (Nat.le_of_ble_eq_true rfl) rfl (hrec.2.1 a0 a1 a2 h6 v9 h8 Hc) ?_
          refine jr_if_eq (tgt := 64) dX8_readComparison_45 (by decide) H (fun H => ?_) (fun H => ?_)
          · refine jr_iconst (v := 0) dX8_readComparison_64 (by decide) ?_
            exact jr_zret rfl rfl dX8_readComparison_65 H
          · refine jr_aload_n dX8_readComparison_48 rfl rfl ?_
            refine jr_sipush (v := 2000) dX8_readComparison_49 (by decide) ?_
            refine jr_iload_n dX8_readComparison_52 rfl rfl ?_
            refine jr_iadd dX8_readComparison_53 ?_
            obtain ⟨v11, h10, Hc, H⟩ := j_b2_some H
            refine jr_callV (ci := 8) [.int ((2000 : Int32) + z5)] my_X8_put mv_X8_put ml_RX8_48 dX8_readComparison_54 rfl rfl (Nat.le_of_ble_eq_true rfl) rfl (c_X8_put l (d + 2) F a0 ((2000 : Int32) + z5) h8 v11 h10 Hc) ?_
            refine jr_if_eq (tgt := 64) dX8_readComparison_57 (by decide) H (fun H => ?_) (fun H => ?_)
            · refine jr_iconst (v := 0) dX8_readComparison_64 (by decide) ?_
              exact jr_zret rfl rfl dX8_readComparison_65 H
            · refine jr_fgt 0 ?_
              refine jr_fgt 1 ?_
              refine jr_fgt 2 ?_
              refine jr_fgt 3 ?_
              exact hJ60 _ H
    · refine jr_icmp_ne (tgt := 34) dX8_readComparison_22 (by decide) H (fun H => ?_) (fun H => ?_)
      · refine jr_aload_n dX8_readComparison_25 rfl rfl ?_
        refine jr_bipush (v := 61) dX8_readComparison_26 (by decide) ?_
        refine jr_bipush (v := 61) dX8_readComparison_28 (by decide) ?_
        obtain ⟨v13, h12, Hc, H⟩ := j_b2_some H
        refine jr_callS [.ref a1, .int 61, .int 61] my_X8_takeEither ms_X8_takeEither ml_RX8_44 dX8_readComparison_30 rfl rfl (Nat.le_of_ble_eq_true rfl) (c_X8_takeEither l d F a1 61 61 h3 v13 h12 Hc) ?_
        refine jr_istore_n dX8_readComparison_33 rfl (by decide) rfl (Or.inl rfl) ?_
        exact hJ34 _ _ H
      · exact hJ34 _ _ H
set_option maxRecDepth 100000 in
set_option maxHeartbeats 4000000 in
theorem s_X8_readSum_L13 (l : Launch) (d : Nat) (F : Nat) (rec : Nat → Nat → Nat → Int32 → jH → Option (Int32 × jH)) (x0 : Nat) (x1 : Nat) (x2 : Int32) (hrec : (∀ (a0 : Nat) (a1 : Nat) (a2 : Int32) (h : jH) (rv : Int32) (hv : jH), rec 0 a0 a1 a2 h = some (rv, hv) → jh_sh h a0 = (8, 0) ∧ jMet l (d + 2) yX8_readComparison cX8_readComparison 4 (some .boolean) [.ref a0, .ref a1, .int a2] h (some (.int rv)) hv) ∧ (∀ (a0 : Nat) (a1 : Nat) (a2 : Int32) (h : jH) (rv : Int32) (hv : jH), rec 1 a0 a1 a2 h = some (rv, hv) → jh_sh h a0 = (8, 0) ∧ jMet l (d + 2) yX8_readSum cX8_readSum 6 (some .boolean) [.ref a0, .ref a1, .int a2] h (some (.int rv)) hv) ∧ (∀ (a0 : Nat) (a1 : Nat) (a2 : Int32) (h : jH) (rv : Int32) (hv : jH), rec 2 a0 a1 a2 h = some (rv, hv) → jh_sh h a0 = (8, 0) ∧ jMet l (d + 2) yX8_readProduct cX8_readProduct 6 (some .boolean) [.ref a0, .ref a1, .int a2] h (some (.int rv)) hv) ∧ (∀ (a0 : Nat) (a1 : Nat) (a2 : Int32) (h : jH) (rv : Int32) (hv : jH), rec 3 a0 a1 a2 h = some (rv, hv) → jh_sh h a0 = (8, 0) ∧ jMet l (d + 2) yX8_readFactor cX8_readFactor 4 (some .boolean) [.ref a0, .ref a1, .int a2] h (some (.int rv)) hv) ∧ (∀ (a0 : Nat) (a1 : Nat) (a2 : Int32) (h : jH) (rv : Int32) (hv : jH), rec 4 a0 a1 a2 h = some (rv, hv) → jh_sh h a0 = (8, 0) ∧ jMet l (d + 2) yX8_readThing cX8_readThing 5 (some .boolean) [.ref a0, .ref a1, .int a2] h (some (.int rv)) hv)) {rR : Int32} {hf : jH} : ∀ (n : Nat) (x3 : Int32) (x4 : Int32) (x5 : Int32) (h : jH), f_X8_readSum_L13 F rec x0 x1 x2 n x3 x4 x5 h = some (rR, hf) → jGo l (d + 3) none RX8 cX8_readSum 6 (some .boolean) false 13 [some (.ref x0), some (.ref x1), some (.int x2), some (.int x3), some (.int x4), some (.int x5)] [] h (some (.int rR)) hf := by
  intro n
  induction n with
  | zero =>
    intro x3 x4 x5 h H
    cases H
  | succ n ih =>
    intro x3 x4 x5 h H
    unfold f_X8_readSum_L13 at H
    refine jr_iload dX8_readSum_13 rfl ?_
    refine jr_bipush (v := 40) dX8_readSum_15 (by decide) ?_
    refine jr_icmp_ge (tgt := 80) dX8_readSum_17 (by decide) H (fun H => ?_) (fun H => ?_)
    · refine jr_iload_n dX8_readSum_80 rfl rfl ?_
      exact jr_zrz rfl dX8_readSum_81 H
    · refine jr_iload_n dX8_readSum_20 rfl rfl ?_
      refine jr_if_eq (tgt := 80) dX8_readSum_21 (by decide) H (fun H => ?_) (fun H => ?_)
      · refine jr_iload_n dX8_readSum_80 rfl rfl ?_
        exact jr_zrz rfl dX8_readSum_81 H
      · refine jr_iload dX8_readSum_24 rfl ?_
        refine jr_iconst (v := (-1)) dX8_readSum_26 (by decide) ?_
        refine jr_icmp_eq (tgt := 80) dX8_readSum_27 (by decide) H (fun H => ?_) (fun H => ?_)
        · refine jr_iload_n dX8_readSum_80 rfl rfl ?_
          exact jr_zrz rfl dX8_readSum_81 H
        · refine jr_aload_n dX8_readSum_30 rfl rfl ?_
          refine jr_bipush (v := 43) dX8_readSum_31 (by decide) ?_
          refine jr_bipush (v := 45) dX8_readSum_33 (by decide) ?_
          obtain ⟨v4, h3, Hc, H⟩ := j_b2_some H
          refine jr_callS [.ref x1, .int 43, .int 45] my_X8_takeEither ms_X8_takeEither ml_RX8_44 dX8_readSum_35 rfl rfl (Nat.le_of_ble_eq_true rfl) (c_X8_takeEither l d F x1 43 45 h v4 h3 Hc) ?_
          refine jr_istore dX8_readSum_38 (by decide) rfl (Or.inl rfl) ?_
          refine jr_iload dX8_readSum_40 rfl ?_
          refine jr_iconst (v := (-1)) dX8_readSum_42 (by decide) ?_
          refine jr_jn (fun J => ∀ (s5 : Int32) (h6 : jH), J s5 h6 = some (rR, hf) → jGo l (d + 3) none RX8 cX8_readSum 6 (some .boolean) false 73 [some (.ref x0), some (.ref x1), some (.int x2), none, some (.int v4), some (.int x5)] [.int s5] h6 (some (.int rR)) hf) H (fun s5 h6 H => ?_) (fun J73 hJ73 H => ?_)
          · refine jr_istore_n dX8_readSum_73 rfl (by decide) rfl (Or.inl rfl) ?_
            refine jr_iinc (v := (x5 + 1)) dX8_readSum_74 rfl rfl (by decide) rfl (Or.inl rfl) ?_
            refine jr_goto (tgt := 13) dX8_readSum_77 (by decide) ?_
            exact ih _ _ _ _ H
          · refine jr_jn (fun J => ∀ (h7 : jH), J h7 = some (rR, hf) → jGo l (d + 3) none RX8 cX8_readSum 6 (some .boolean) false 68 [some (.ref x0), some (.ref x1), some (.int x2), none, some (.int v4), some (.int x5)] [] h7 (some (.int rR)) hf) H (fun h7 H => ?_) (fun J68 hJ68 H => ?_)
            · refine jr_iconst (v := 1) dX8_readSum_68 (by decide) ?_
              refine jr_goto (tgt := 73) dX8_readSum_69 (by decide) ?_
              exact hJ73 _ _ H
            · refine jr_icmp_eq (tgt := 68) dX8_readSum_43 (by decide) H (fun H => ?_) (fun H => ?_)
              · refine jr_fgt 3 ?_
                exact hJ68 _ H
              · refine jr_aload_n dX8_readSum_46 rfl rfl ?_
                refine jr_aload_n dX8_readSum_47 rfl rfl ?_
                refine jr_iload_n dX8_readSum_48 rfl rfl ?_
                obtain ⟨v9, h8, Hc, H⟩ := j_b2_some H
                refine jr_callV (ci := 8) [.ref x1, .int x2] my_X8_readProduct mv_X8_readProduct ml_RX8_52 dX8_readSum_49 rfl rfl (Nat.le_of_ble_eq_true rfl) rfl (hrec.2.2.1 x0 x1 x2 h3 v9 h8 Hc) ?_
                refine jr_jn (fun J => ∀ (h10 : jH), J h10 = some (rR, hf) → jGo l (d + 3) none RX8 cX8_readSum 6 (some .boolean) false 72 [some (.ref x0), some (.ref x1), some (.int x2), none, some (.int v4), some (.int x5)] [] h10 (some (.int rR)) hf) H (fun h10 H => ?_) (fun J72 hJ72 H => ?_)
                · refine jr_iconst (v := 0) dX8_readSum_72 (by decide) ?_
                  exact hJ73 _ _ H
                · refine jr_if_eq (tgt := 72) dX8_readSum_52 (by decide) H (fun H => ?_) (fun H => ?_)
                  · refine jr_fgt 3 ?_
                    exact hJ72 _ H
                  · refine jr_aload_n dX8_readSum_55 rfl rfl ?_
                    refine jr_sipush (v := 2000) dX8_readSum_56 (by decide) ?_
                    refine jr_iload dX8_readSum_59 rfl ?_
                    refine jr_iadd dX8_readSum_61 ?_
                    obtain ⟨v12, h11, Hc, H⟩ := j_b2_some H
                    refine jr_callV (ci := 8) [.int ((2000 : Int32) + v4)] my_X8_put mv_X8_put ml_RX8_48 dX8_readSum_62 rfl rfl (Nat.le_of_ble_eq_true rfl) rfl (c_X8_put l (d + 2) F x0 ((2000 : Int32) + v4) h8 v12 h11 Hc) ?_
                    refine jr_if_eq (tgt := 72) dX8_readSum_65 (by decide) H (fun H => ?_) (fun H => ?_)
                    · refine jr_fgt 3 ?_
                      exact hJ72 _ H
                    · refine jr_fgt 3 ?_
                      exact hJ68 _ H
set_option maxRecDepth 100000 in
set_option maxHeartbeats 4000000 in
theorem c_b_X8_readSum (l : Launch) (d : Nat) (F : Nat) (rec : Nat → Nat → Nat → Int32 → jH → Option (Int32 × jH)) (hrec : (∀ (a0 : Nat) (a1 : Nat) (a2 : Int32) (h : jH) (rv : Int32) (hv : jH), rec 0 a0 a1 a2 h = some (rv, hv) → jh_sh h a0 = (8, 0) ∧ jMet l (d + 2) yX8_readComparison cX8_readComparison 4 (some .boolean) [.ref a0, .ref a1, .int a2] h (some (.int rv)) hv) ∧ (∀ (a0 : Nat) (a1 : Nat) (a2 : Int32) (h : jH) (rv : Int32) (hv : jH), rec 1 a0 a1 a2 h = some (rv, hv) → jh_sh h a0 = (8, 0) ∧ jMet l (d + 2) yX8_readSum cX8_readSum 6 (some .boolean) [.ref a0, .ref a1, .int a2] h (some (.int rv)) hv) ∧ (∀ (a0 : Nat) (a1 : Nat) (a2 : Int32) (h : jH) (rv : Int32) (hv : jH), rec 2 a0 a1 a2 h = some (rv, hv) → jh_sh h a0 = (8, 0) ∧ jMet l (d + 2) yX8_readProduct cX8_readProduct 6 (some .boolean) [.ref a0, .ref a1, .int a2] h (some (.int rv)) hv) ∧ (∀ (a0 : Nat) (a1 : Nat) (a2 : Int32) (h : jH) (rv : Int32) (hv : jH), rec 3 a0 a1 a2 h = some (rv, hv) → jh_sh h a0 = (8, 0) ∧ jMet l (d + 2) yX8_readFactor cX8_readFactor 4 (some .boolean) [.ref a0, .ref a1, .int a2] h (some (.int rv)) hv) ∧ (∀ (a0 : Nat) (a1 : Nat) (a2 : Int32) (h : jH) (rv : Int32) (hv : jH), rec 4 a0 a1 a2 h = some (rv, hv) → jh_sh h a0 = (8, 0) ∧ jMet l (d + 2) yX8_readThing cX8_readThing 5 (some .boolean) [.ref a0, .ref a1, .int a2] h (some (.int rv)) hv)) (a0 : Nat) (a1 : Nat) (a2 : Int32) (h : jH) (rR : Int32) (hf : jH) (H : b_X8_readSum F rec a0 a1 a2 h = some (rR, hf)) : jh_sh h a0 = (8, 0) ∧ jMet l (d + 3) yX8_readSum cX8_readSum 6 (some .boolean) [.ref a0, .ref a1, .int a2] h (some (.int rR)) hf := by
  unfold b_X8_readSum at H
  obtain ⟨hsh, H⟩ := j_gd_some H
  refine ⟨hsh, ?_⟩
  refine jMet.of false [some (.ref a0), some (.ref a1), some (.int a2), none, none, none] rfl (by decide) (by decide) (Nat.le_of_ble_eq_true rfl) (fun S0 q hq => by simpa [j_l, lv_args, j_v, Value.category] using hq) ?_
  refine jr_aload_n dX8_readSum_0 rfl rfl ?_
  refine jr_aload_n dX8_readSum_1 rfl rfl ?_
  refine jr_iload_n dX8_readSum_2 rfl rfl ?_
  obtain ⟨v2, h1, Hc, H⟩ := j_b2_some H
  refine jr_callV (ci := 8) [.ref a1, .int a2] my_X8_readProduct mv_X8_readProduct ml_RX8_52 dX8_readSum_3 rfl rfl (Nat.le_of_ble_eq_true rfl) rfl (hrec.2.2.1 a0 a1 a2 h v2 h1 Hc) ?_
  refine jr_istore_n dX8_readSum_6 rfl (by decide) rfl (Or.inl rfl) ?_
  refine jr_iconst (v := 0) dX8_readSum_7 (by decide) ?_
  refine jr_istore dX8_readSum_8 (by decide) rfl (Or.inl rfl) ?_
  refine jr_iconst (v := 0) dX8_readSum_10 (by decide) ?_
  refine jr_istore dX8_readSum_11 (by decide) rfl (Or.inl rfl) ?_
  exact s_X8_readSum_L13 l d F rec a0 a1 a2 hrec F v2 0 0 h1 H
set_option maxRecDepth 100000 in
set_option maxHeartbeats 4000000 in
theorem s_X8_readProduct_L13 (l : Launch) (d : Nat) (F : Nat) (rec : Nat → Nat → Nat → Int32 → jH → Option (Int32 × jH)) (x0 : Nat) (x1 : Nat) (x2 : Int32) (hrec : (∀ (a0 : Nat) (a1 : Nat) (a2 : Int32) (h : jH) (rv : Int32) (hv : jH), rec 0 a0 a1 a2 h = some (rv, hv) → jh_sh h a0 = (8, 0) ∧ jMet l (d + 2) yX8_readComparison cX8_readComparison 4 (some .boolean) [.ref a0, .ref a1, .int a2] h (some (.int rv)) hv) ∧ (∀ (a0 : Nat) (a1 : Nat) (a2 : Int32) (h : jH) (rv : Int32) (hv : jH), rec 1 a0 a1 a2 h = some (rv, hv) → jh_sh h a0 = (8, 0) ∧ jMet l (d + 2) yX8_readSum cX8_readSum 6 (some .boolean) [.ref a0, .ref a1, .int a2] h (some (.int rv)) hv) ∧ (∀ (a0 : Nat) (a1 : Nat) (a2 : Int32) (h : jH) (rv : Int32) (hv : jH), rec 2 a0 a1 a2 h = some (rv, hv) → jh_sh h a0 = (8, 0) ∧ jMet l (d + 2) yX8_readProduct cX8_readProduct 6 (some .boolean) [.ref a0, .ref a1, .int a2] h (some (.int rv)) hv) ∧ (∀ (a0 : Nat) (a1 : Nat) (a2 : Int32) (h : jH) (rv : Int32) (hv : jH), rec 3 a0 a1 a2 h = some (rv, hv) → jh_sh h a0 = (8, 0) ∧ jMet l (d + 2) yX8_readFactor cX8_readFactor 4 (some .boolean) [.ref a0, .ref a1, .int a2] h (some (.int rv)) hv) ∧ (∀ (a0 : Nat) (a1 : Nat) (a2 : Int32) (h : jH) (rv : Int32) (hv : jH), rec 4 a0 a1 a2 h = some (rv, hv) → jh_sh h a0 = (8, 0) ∧ jMet l (d + 2) yX8_readThing cX8_readThing 5 (some .boolean) [.ref a0, .ref a1, .int a2] h (some (.int rv)) hv)) {rR : Int32} {hf : jH} : ∀ (n : Nat) (x3 : Int32) (x4 : Int32) (x5 : Int32) (h : jH), f_X8_readProduct_L13 F rec x0 x1 x2 n x3 x4 x5 h = some (rR, hf) → jGo l (d + 3) none RX8 cX8_readProduct 6 (some .boolean) false 13 [some (.ref x0), some (.ref x1), some (.int x2), some (.int x3), some (.int x4), some (.int x5)] [] h (some (.int rR)) hf := by
  intro n
  induction n with
  | zero =>
    intro x3 x4 x5 h H
    cases H
  | succ n ih =>
    intro x3 x4 x5 h H
    unfold f_X8_readProduct_L13 at H
    refine jr_iload dX8_readProduct_13 rfl ?_
    refine jr_bipush (v := 40) dX8_readProduct_15 (by decide) ?_
    refine jr_icmp_ge (tgt := 80) dX8_readProduct_17 (by decide) H (fun H => ?_) (fun H => ?_)
    · refine jr_iload_n dX8_readProduct_80 rfl rfl ?_
      exact jr_zrz rfl dX8_readProduct_81 H
    · refine jr_iload_n dX8_readProduct_20 rfl rfl ?_
      refine jr_if_eq (tgt := 80) dX8_readProduct_21 (by decide) H (fun H => ?_) (fun H => ?_)
      · refine jr_iload_n dX8_readProduct_80 rfl rfl ?_
        exact jr_zrz rfl dX8_readProduct_81 H
      · refine jr_iload dX8_readProduct_24 rfl ?_
        refine jr_iconst (v := (-1)) dX8_readProduct_26 (by decide) ?_
        refine jr_icmp_eq (tgt := 80) dX8_readProduct_27 (by decide) H (fun H => ?_) (fun H => ?_)
        · refine jr_iload_n dX8_readProduct_80 rfl rfl ?_
          exact jr_zrz rfl dX8_readProduct_81 H
        · refine jr_aload_n dX8_readProduct_30 rfl rfl ?_
          refine jr_bipush (v := 42) dX8_readProduct_31 (by decide) ?_
          refine jr_bipush (v := 47) dX8_readProduct_33 (by decide) ?_
          obtain ⟨v4, h3, Hc, H⟩ := j_b2_some H
          refine jr_callS [.ref x1, .int 42, .int 47] my_X8_takeEither ms_X8_takeEither ml_RX8_44 dX8_readProduct_35 rfl rfl (Nat.le_of_ble_eq_true rfl) (c_X8_takeEither l d F x1 42 47 h v4 h3 Hc) ?_
          refine jr_istore dX8_readProduct_38 (by decide) rfl (Or.inl rfl) ?_
          refine jr_iload dX8_readProduct_40 rfl ?_
          refine jr_iconst (v := (-1)) dX8_readProduct_42 (by decide) ?_
          refine jr_jn (fun J => ∀ (s5 : Int32) (h6 : jH), J s5 h6 = some (rR, hf) → jGo l (d + 3) none RX8 cX8_readProduct 6 (some .boolean) false 73 [some (.ref x0), some (.ref x1), some (.int x2), none, some (.int v4), some (.int x5)] [.int s5] h6 (some (.int rR)) hf) H (fun s5 h6 H => ?_) (fun J73 hJ73 H => ?_)
          · refine jr_istore_n dX8_readProduct_73 rfl (by decide) rfl (Or.inl rfl) ?_
            refine jr_iinc (v := (x5 + 1)) dX8_readProduct_74 rfl rfl (by decide) rfl (Or.inl rfl) ?_
            refine jr_goto (tgt := 13) dX8_readProduct_77 (by decide) ?_
            exact ih _ _ _ _ H
          · refine jr_jn (fun J => ∀ (h7 : jH), J h7 = some (rR, hf) → jGo l (d + 3) none RX8 cX8_readProduct 6 (some .boolean) false 68 [some (.ref x0), some (.ref x1), some (.int x2), none, some (.int v4), some (.int x5)] [] h7 (some (.int rR)) hf) H (fun h7 H => ?_) (fun J68 hJ68 H => ?_)
            · refine jr_iconst (v := 1) dX8_readProduct_68 (by decide) ?_
              refine jr_goto (tgt := 73) dX8_readProduct_69 (by decide) ?_
              exact hJ73 _ _ H
            · refine jr_icmp_eq (tgt := 68) dX8_readProduct_43 (by decide) H (fun H => ?_) (fun H => ?_)
              · refine jr_fgt 3 ?_
                exact hJ68 _ H
              · refine jr_aload_n dX8_readProduct_46 rfl rfl ?_
                refine jr_aload_n dX8_readProduct_47 rfl rfl ?_
                refine jr_iload_n dX8_readProduct_48 rfl rfl ?_
                obtain ⟨v9, h8, Hc, H⟩ := j_b2_some H
                refine jr_callV (ci := 8) [.ref x1, .int x2] my_X8_readFactor mv_X8_readFactor ml_RX8_55 dX8_readProduct_49 rfl rfl (Nat.le_of_ble_eq_true rfl) rfl (hrec.2.2.2.1 x0 x1 x2 h3 v9 h8 Hc) ?_
                refine jr_jn (fun J => ∀ (h10 : jH), J h10 = some (rR, hf) → jGo l (d + 3) none RX8 cX8_readProduct 6 (some .boolean) false 72 [some (.ref x0), some (.ref x1), some (.int x2), none, some (.int v4), some (.int x5)] [] h10 (some (.int rR)) hf) H (fun h10 H => ?_) (fun J72 hJ72 H => ?_)
                · refine jr_iconst (v := 0) dX8_readProduct_72 (by decide) ?_
                  exact hJ73 _ _ H
                · refine jr_if_eq (tgt := 72) dX8_readProduct_52 (by decide) H (fun H => ?_) (fun H => ?_)
                  · refine jr_fgt 3 ?_
                    exact hJ72 _ H
                  · refine jr_aload_n dX8_readProduct_55 rfl rfl ?_
                    refine jr_sipush (v := 2000) dX8_readProduct_56 (by decide) ?_
                    refine jr_iload dX8_readProduct_59 rfl ?_
                    refine jr_iadd dX8_readProduct_61 ?_
                    obtain ⟨v12, h11, Hc, H⟩ := j_b2_some H
                    refine jr_callV (ci := 8) [.int ((2000 : Int32) + v4)] my_X8_put mv_X8_put ml_RX8_48 dX8_readProduct_62 rfl rfl (Nat.le_of_ble_eq_true rfl) rfl (c_X8_put l (d + 2) F x0 ((2000 : Int32) + v4) h8 v12 h11 Hc) ?_
                    refine jr_if_eq (tgt := 72) dX8_readProduct_65 (by decide) H (fun H => ?_) (fun H => ?_)
                    · refine jr_fgt 3 ?_
                      exact hJ72 _ H
                    · refine jr_fgt 3 ?_
                      exact hJ68 _ H
set_option maxRecDepth 100000 in
set_option maxHeartbeats 4000000 in
theorem c_b_X8_readProduct (l : Launch) (d : Nat) (F : Nat) (rec : Nat → Nat → Nat → Int32 → jH → Option (Int32 × jH)) (hrec : (∀ (a0 : Nat) (a1 : Nat) (a2 : Int32) (h : jH) (rv : Int32) (hv : jH), rec 0 a0 a1 a2 h = some (rv, hv) → jh_sh h a0 = (8, 0) ∧ jMet l (d + 2) yX8_readComparison cX8_readComparison 4 (some .boolean) [.ref a0, .ref a1, .int a2] h (some (.int rv)) hv) ∧ (∀ (a0 : Nat) (a1 : Nat) (a2 : Int32) (h : jH) (rv : Int32) (hv : jH), rec 1 a0 a1 a2 h = some (rv, hv) → jh_sh h a0 = (8, 0) ∧ jMet l (d + 2) yX8_readSum cX8_readSum 6 (some .boolean) [.ref a0, .ref a1, .int a2] h (some (.int rv)) hv) ∧ (∀ (a0 : Nat) (a1 : Nat) (a2 : Int32) (h : jH) (rv : Int32) (hv : jH), rec 2 a0 a1 a2 h = some (rv, hv) → jh_sh h a0 = (8, 0) ∧ jMet l (d + 2) yX8_readProduct cX8_readProduct 6 (some .boolean) [.ref a0, .ref a1, .int a2] h (some (.int rv)) hv) ∧ (∀ (a0 : Nat) (a1 : Nat) (a2 : Int32) (h : jH) (rv : Int32) (hv : jH), rec 3 a0 a1 a2 h = some (rv, hv) → jh_sh h a0 = (8, 0) ∧ jMet l (d + 2) yX8_readFactor cX8_readFactor 4 (some .boolean) [.ref a0, .ref a1, .int a2] h (some (.int rv)) hv) ∧ (∀ (a0 : Nat) (a1 : Nat) (a2 : Int32) (h : jH) (rv : Int32) (hv : jH), rec 4 a0 a1 a2 h = some (rv, hv) → jh_sh h a0 = (8, 0) ∧ jMet l (d + 2) yX8_readThing cX8_readThing 5 (some .boolean) [.ref a0, .ref a1, .int a2] h (some (.int rv)) hv)) (a0 : Nat) (a1 : Nat) (a2 : Int32) (h : jH) (rR : Int32) (hf : jH) (H : b_X8_readProduct F rec a0 a1 a2 h = some (rR, hf)) : jh_sh h a0 = (8, 0) ∧ jMet l (d + 3) yX8_readProduct cX8_readProduct 6 (some .boolean) [.ref a0, .ref a1, .int a2] h (some (.int rR)) hf := by
  unfold b_X8_readProduct at H
  obtain ⟨hsh, H⟩ := j_gd_some H
  refine ⟨hsh, ?_⟩
  refine jMet.of false [some (.ref a0), some (.ref a1), some (.int a2), none, none, none] rfl (by decide) (by decide) (Nat.le_of_ble_eq_true rfl) (fun S0 q hq => by simpa [j_l, lv_args, j_v, Value.category] using hq) ?_
  refine jr_aload_n dX8_readProduct_0 rfl rfl ?_
  refine jr_aload_n dX8_readProduct_1 rfl rfl ?_
  refine jr_iload_n dX8_readProduct_2 rfl rfl ?_
  obtain ⟨v2, h1, Hc, H⟩ := j_b2_some H
  refine jr_callV (ci := 8) [.ref a1, .int a2] my_X8_readFactor mv_X8_readFactor ml_RX8_55 dX8_readProduct_3 rfl rfl (Nat.le_of_ble_eq_true rfl) rfl (hrec.2.2.2.1 a0 a1 a2 h v2 h1 Hc) ?_
  refine jr_istore_n dX8_readProduct_6 rfl (by decide) rfl (Or.inl rfl) ?_
  refine jr_iconst (v := 0) dX8_readProduct_7 (by decide) ?_
  refine jr_istore dX8_readProduct_8 (by decide) rfl (Or.inl rfl) ?_
  refine jr_iconst (v := 0) dX8_readProduct_10 (by decide) ?_
  refine jr_istore dX8_readProduct_11 (by decide) rfl (Or.inl rfl) ?_
  exact s_X8_readProduct_L13 l d F rec a0 a1 a2 hrec F v2 0 0 h1 H
set_option maxRecDepth 100000 in
set_option maxHeartbeats 4000000 in
theorem s_X8_readFactor_L2 (l : Launch) (d : Nat) (F : Nat) (rec : Nat → Nat → Nat → Int32 → jH → Option (Int32 × jH)) (x0 : Nat) (x1 : Nat) (x2 : Int32) (k23 : Int32 → jH → Option (Int32 × jH)) (hrec : (∀ (a0 : Nat) (a1 : Nat) (a2 : Int32) (h : jH) (rv : Int32) (hv : jH), rec 0 a0 a1 a2 h = some (rv, hv) → jh_sh h a0 = (8, 0) ∧ jMet l (d + 2) yX8_readComparison cX8_readComparison 4 (some .boolean) [.ref a0, .ref a1, .int a2] h (some (.int rv)) hv) ∧ (∀ (a0 : Nat) (a1 : Nat) (a2 : Int32) (h : jH) (rv : Int32) (hv : jH), rec 1 a0 a1 a2 h = some (rv, hv) → jh_sh h a0 = (8, 0) ∧ jMet l (d + 2) yX8_readSum cX8_readSum 6 (some .boolean) [.ref a0, .ref a1, .int a2] h (some (.int rv)) hv) ∧ (∀ (a0 : Nat) (a1 : Nat) (a2 : Int32) (h : jH) (rv : Int32) (hv : jH), rec 2 a0 a1 a2 h = some (rv, hv) → jh_sh h a0 = (8, 0) ∧ jMet l (d + 2) yX8_readProduct cX8_readProduct 6 (some .boolean) [.ref a0, .ref a1, .int a2] h (some (.int rv)) hv) ∧ (∀ (a0 : Nat) (a1 : Nat) (a2 : Int32) (h : jH) (rv : Int32) (hv : jH), rec 3 a0 a1 a2 h = some (rv, hv) → jh_sh h a0 = (8, 0) ∧ jMet l (d + 2) yX8_readFactor cX8_readFactor 4 (some .boolean) [.ref a0, .ref a1, .int a2] h (some (.int rv)) hv) ∧ (∀ (a0 : Nat) (a1 : Nat) (a2 : Int32) (h : jH) (rv : Int32) (hv : jH), rec 4 a0 a1 a2 h = some (rv, hv) → jh_sh h a0 = (8, 0) ∧ jMet l (d + 2) yX8_readThing cX8_readThing 5 (some .boolean) [.ref a0, .ref a1, .int a2] h (some (.int rv)) hv)) {rR : Int32} {hf : jH} (hk23 : ∀ (y3 : Int32) (h : jH), k23 y3 h = some (rR, hf) → jGo l (d + 3) none RX8 cX8_readFactor 4 (some .boolean) false 23 [some (.ref x0), some (.ref x1), some (.int x2), some (.int y3)] [] h (some (.int rR)) hf) : ∀ (n : Nat) (x3 : Int32) (h : jH), f_X8_readFactor_L2 F rec x0 x1 x2 k23 n x3 h = some (rR, hf) → jGo l (d + 3) none RX8 cX8_readFactor 4 (some .boolean) false 2 [some (.ref x0), some (.ref x1), some (.int x2), some (.int x3)] [] h (some (.int rR)) hf := by
  intro n
  induction n with
  | zero =>
    intro x3 h H
    cases H
  | succ n ih =>
    intro x3 h H
    unfold f_X8_readFactor_L2 at H
    refine jr_iload_n dX8_readFactor_2 rfl rfl ?_
    refine jr_bipush (v := 40) dX8_readFactor_3 (by decide) ?_
    refine jr_icmp_ge (tgt := 23) dX8_readFactor_5 (by decide) H (fun H => ?_) (fun H => ?_)
    · exact hk23 _ _ H
    · refine jr_aload_n dX8_readFactor_8 rfl rfl ?_
      refine jr_bipush (v := 45) dX8_readFactor_9 (by decide) ?_
      obtain ⟨v2, h1, Hc, H⟩ := j_b2_some H
      refine jr_callV (ci := 9) [.int 45] my_X9_take mv_X9_take ml_RX8_58 dX8_readFactor_11 rfl rfl (Nat.le_of_ble_eq_true rfl) rfl (c_X9_take l (d + 1) F x1 45 h v2 h1 Hc) ?_
      refine jr_if_eq (tgt := 23) dX8_readFactor_14 (by decide) H (fun H => ?_) (fun H => ?_)
      · exact hk23 _ _ H
      · refine jr_iinc (v := (x3 + 1)) dX8_readFactor_17 rfl rfl (by decide) rfl (Or.inl rfl) ?_
        refine jr_goto (tgt := 2) dX8_readFactor_20 (by decide) ?_
        exact ih _ _ H
set_option maxRecDepth 100000 in
set_option maxHeartbeats 4000000 in
theorem c_b_X8_readFactor (l : Launch) (d : Nat) (F : Nat) (rec : Nat → Nat → Nat → Int32 → jH → Option (Int32 × jH)) (hrec : (∀ (a0 : Nat) (a1 : Nat) (a2 : Int32) (h : jH) (rv : Int32) (hv : jH), rec 0 a0 a1 a2 h = some (rv, hv) → jh_sh h a0 = (8, 0) ∧ jMet l (d + 2) yX8_readComparison cX8_readComparison 4 (some .boolean) [.ref a0, .ref a1, .int a2] h (some (.int rv)) hv) ∧ (∀ (a0 : Nat) (a1 : Nat) (a2 : Int32) (h : jH) (rv : Int32) (hv : jH), rec 1 a0 a1 a2 h = some (rv, hv) → jh_sh h a0 = (8, 0) ∧ jMet l (d + 2) yX8_readSum cX8_readSum 6 (some .boolean) [.ref a0, .ref a1, .int a2] h (some (.int rv)) hv) ∧ (∀ (a0 : Nat) (a1 : Nat) (a2 : Int32) (h : jH) (rv : Int32) (hv : jH), rec 2 a0 a1 a2 h = some (rv, hv) → jh_sh h a0 = (8, 0) ∧ jMet l (d + 2) yX8_readProduct cX8_readProduct 6 (some .boolean) [.ref a0, .ref a1, .int a2] h (some (.int rv)) hv) ∧ (∀ (a0 : Nat) (a1 : Nat) (a2 : Int32) (h : jH) (rv : Int32) (hv : jH), rec 3 a0 a1 a2 h = some (rv, hv) → jh_sh h a0 = (8, 0) ∧ jMet l (d + 2) yX8_readFactor cX8_readFactor 4 (some .boolean) [.ref a0, .ref a1, .int a2] h (some (.int rv)) hv) ∧ (∀ (a0 : Nat) (a1 : Nat) (a2 : Int32) (h : jH) (rv : Int32) (hv : jH), rec 4 a0 a1 a2 h = some (rv, hv) → jh_sh h a0 = (8, 0) ∧ jMet l (d + 2) yX8_readThing cX8_readThing 5 (some .boolean) [.ref a0, .ref a1, .int a2] h (some (.int rv)) hv)) (a0 : Nat) (a1 : Nat) (a2 : Int32) (h : jH) (rR : Int32) (hf : jH) (H : b_X8_readFactor F rec a0 a1 a2 h = some (rR, hf)) : jh_sh h a0 = (8, 0) ∧ jMet l (d + 3) yX8_readFactor cX8_readFactor 4 (some .boolean) [.ref a0, .ref a1, .int a2] h (some (.int rR)) hf := by
  unfold b_X8_readFactor at H
  obtain ⟨hsh, H⟩ := j_gd_some H
  refine ⟨hsh, ?_⟩
  refine jMet.of false [some (.ref a0), some (.ref a1), some (.int a2), none] rfl (by decide) (by decide) (Nat.le_of_ble_eq_true rfl) (fun S0 q hq => by simpa [j_l, lv_args, j_v, Value.category] using hq) ?_
  refine jr_iconst (v := 0) dX8_readFactor_0 (by decide) ?_
  refine jr_istore_n dX8_readFactor_1 rfl (by decide) rfl (Or.inl rfl) ?_
  refine s_X8_readFactor_L2 l d F rec a0 a1 a2 _ hrec (fun y3 h4 H => ?_) F 0 h H
  · refine jr_aload_n dX8_readFactor_23 rfl rfl ?_
    refine jr_aload_n dX8_readFactor_24 rfl rfl ?_
    refine jr_iload_n dX8_readFactor_25 rfl rfl ?_
    obtain ⟨v6, h5, Hc, H⟩ := j_b2_some H
    refine jr_callV (ci := 8) [.ref a1, .int a2] my_X8_readThing mv_X8_readThing ml_RX8_61 dX8_readFactor_26 rfl rfl (Nat.le_of_ble_eq_true rfl) rfl (hrec.2.2.2.2 a0 a1 a2 h4 v6 h5 Hc) ?_
    refine jr_if_eq (tgt := 52) dX8_readFactor_29 (by decide) H (fun H => ?_) (fun H => ?_)
    · refine jr_iconst (v := 0) dX8_readFactor_52 (by decide) ?_
      exact jr_zret rfl rfl dX8_readFactor_53 H
    · refine jr_iload_n dX8_readFactor_32 rfl rfl ?_
      refine jr_iconst (v := 2) dX8_readFactor_33 (by decide) ?_
      refine jr_irem dX8_readFactor_34 H (fun v7 H => ?_)
      refine jr_jn (fun J => ∀ (h8 : jH), J h8 = some (rR, hf) → jGo l (d + 3) none RX8 cX8_readFactor 4 (some .boolean) false 48 [none, none, none, none] [] h8 (some (.int rR)) hf) H (fun h8 H => ?_) (fun J48 hJ48 H => ?_)
      · refine jr_iconst (v := 1) dX8_readFactor_48 (by decide) ?_
        refine jr_goto (tgt := 53) dX8_readFactor_49 (by decide) ?_
        exact jr_zret rfl rfl dX8_readFactor_53 H
      · refine jr_if_eq (tgt := 48) dX8_readFactor_35 (by decide) H (fun H => ?_) (fun H => ?_)
        · refine jr_fgt 0 ?_
          refine jr_fgt 1 ?_
          refine jr_fgt 2 ?_
          refine jr_fgt 3 ?_
          exact hJ48 _ H
        · refine jr_aload_n dX8_readFactor_38 rfl rfl ?_
          refine jr_sipush (v := 2000) dX8_readFactor_39 (by decide) ?_
          obtain ⟨v10, h9, Hc, H⟩ := j_b2_some H
          refine jr_callV (ci := 8) [.int 2000] my_X8_put mv_X8_put ml_RX8_48 dX8_readFactor_42 rfl rfl (Nat.le_of_ble_eq_true rfl) rfl (c_X8_put l (d + 2) F a0 2000 h5 v10 h9 Hc) ?_
          refine jr_if_eq (tgt := 52) dX8_readFactor_45 (by decide) H (fun H => ?_) (fun H => ?_)
          · refine jr_iconst (v := 0) dX8_readFactor_52 (by decide) ?_
            exact jr_zret rfl rfl dX8_readFactor_53 H
          · refine jr_fgt 0 ?_
            refine jr_fgt 1 ?_
            refine jr_fgt 2 ?_
            refine jr_fgt 3 ?_
            exact hJ48 _ H
set_option maxRecDepth 100000 in
set_option maxHeartbeats 4000000 in
theorem c_b_X8_readThing (l : Launch) (d : Nat) (F : Nat) (rec : Nat → Nat → Nat → Int32 → jH → Option (Int32 × jH)) (hrec : (∀ (a0 : Nat) (a1 : Nat) (a2 : Int32) (h : jH) (rv : Int32) (hv : jH), rec 0 a0 a1 a2 h = some (rv, hv) → jh_sh h a0 = (8, 0) ∧ jMet l (d + 2) yX8_readComparison cX8_readComparison 4 (some .boolean) [.ref a0, .ref a1, .int a2] h (some (.int rv)) hv) ∧ (∀ (a0 : Nat) (a1 : Nat) (a2 : Int32) (h : jH) (rv : Int32) (hv : jH), rec 1 a0 a1 a2 h = some (rv, hv) → jh_sh h a0 = (8, 0) ∧ jMet l (d + 2) yX8_readSum cX8_readSum 6 (some .boolean) [.ref a0, .ref a1, .int a2] h (some (.int rv)) hv) ∧ (∀ (a0 : Nat) (a1 : Nat) (a2 : Int32) (h : jH) (rv : Int32) (hv : jH), rec 2 a0 a1 a2 h = some (rv, hv) → jh_sh h a0 = (8, 0) ∧ jMet l (d + 2) yX8_readProduct cX8_readProduct 6 (some .boolean) [.ref a0, .ref a1, .int a2] h (some (.int rv)) hv) ∧ (∀ (a0 : Nat) (a1 : Nat) (a2 : Int32) (h : jH) (rv : Int32) (hv : jH), rec 3 a0 a1 a2 h = some (rv, hv) → jh_sh h a0 = (8, 0) ∧ jMet l (d + 2) yX8_readFactor cX8_readFactor 4 (some .boolean) [.ref a0, .ref a1, .int a2] h (some (.int rv)) hv) ∧ (∀ (a0 : Nat) (a1 : Nat) (a2 : Int32) (h : jH) (rv : Int32) (hv : jH), rec 4 a0 a1 a2 h = some (rv, hv) → jh_sh h a0 = (8, 0) ∧ jMet l (d + 2) yX8_readThing cX8_readThing 5 (some .boolean) [.ref a0, .ref a1, .int a2] h (some (.int rv)) hv)) (a0 : Nat) (a1 : Nat) (a2 : Int32) (h : jH) (rR : Int32) (hf : jH) (H : b_X8_readThing F rec a0 a1 a2 h = some (rR, hf)) : jh_sh h a0 = (8, 0) ∧ jMet l (d + 3) yX8_readThing cX8_readThing 5 (some .boolean) [.ref a0, .ref a1, .int a2] h (some (.int rR)) hf := by
  unfold b_X8_readThing at H
  obtain ⟨hsh, H⟩ := j_gd_some H
  refine ⟨hsh, ?_⟩
  refine jMet.of false [some (.ref a0), some (.ref a1), some (.int a2), none, none] rfl (by decide) (by decide) (Nat.le_of_ble_eq_true rfl) (fun S0 q hq => by simpa [j_l, lv_args, j_v, Value.category] using hq) ?_
  refine jr_iload_n dX8_readThing_0 rfl rfl ?_
  refine jr_iconst (v := 4) dX8_readThing_1 (by decide) ?_
  refine jr_jn (fun J => ∀ (h1 : jH), J h1 = some (rR, hf) → jGo l (d + 3) none RX8 cX8_readThing 5 (some .boolean) false 40 [some (.ref a0), some (.ref a1), none, none, none] [] h1 (some (.int rR)) hf) H (fun h1 H => ?_) (fun J40 hJ40 H => ?_)
  · refine jr_aload_n dX8_readThing_40 rfl rfl ?_
    refine jr_iconst (v := 3) dX8_readThing_41 (by decide) ?_
    obtain ⟨v3, h2, Hc, H⟩ := j_b2_some H
    refine jr_callV (ci := 9) [.int 3] my_X9_takeNumber mv_X9_takeNumber ml_RX8_64 dX8_readThing_42 rfl rfl (Nat.le_of_ble_eq_true rfl) rfl (c_X9_takeNumber l (d + 1) F a1 3 h1 v3 h2 Hc) ?_
    refine jr_istore_n dX8_readThing_45 rfl (by decide) rfl (Or.inl rfl) ?_
    refine jr_iload_n dX8_readThing_46 rfl rfl ?_
    refine jr_if_lt (tgt := 56) dX8_readThing_47 (by decide) H (fun H => ?_) (fun H => ?_)
    · refine jr_aload_n dX8_readThing_56 rfl rfl ?_
      obtain ⟨v5, h4, Hc, H⟩ := j_b2_some H
      refine jr_callV (ci := 9) [] my_X9_peek mv_X9_peek ml_RX8_68 dX8_readThing_57 rfl rfl (Nat.le_of_ble_eq_true rfl) rfl (c_X9_peek l (d + 2) F a1 h2 v5 h4 Hc) ?_
      obtain ⟨v7, h6, Hc, H⟩ := j_b2_some H
      refine jr_callS [.int v5] my_X8_factOf ms_X8_factOf ml_RX8_72 dX8_readThing_60 rfl rfl (Nat.le_of_ble_eq_true rfl) (c_X8_factOf l (d + 2) F v5 h4 v7 h6 Hc) ?_
      refine jr_istore dX8_readThing_63 (by decide) rfl (Or.inl rfl) ?_
      refine jr_iload dX8_readThing_65 rfl ?_
      refine jr_if_lt (tgt := 98) dX8_readThing_67 (by decide) H (fun H => ?_) (fun H => ?_)
      · refine jr_iconst (v := 0) dX8_readThing_98 (by decide) ?_
        exact jr_zret rfl rfl dX8_readThing_99 H
      · refine jr_aload_n dX8_readThing_70 rfl rfl ?_
        refine jr_aload_n dX8_readThing_71 rfl rfl ?_
        obtain ⟨v9, h8, Hc, H⟩ := j_b2_some H
        refine jr_callV (ci := 9) [] my_X9_peek mv_X9_peek ml_RX8_68 dX8_readThing_72 rfl rfl (Nat.le_of_ble_eq_true rfl) rfl (c_X9_peek l (d + 2) F a1 h6 v9 h8 Hc) ?_
        obtain ⟨v11, h10, Hc, H⟩ := j_b2_some H
        refine jr_callV (ci := 9) [.int v9] my_X9_take mv_X9_take ml_RX8_58 dX8_readThing_75 rfl rfl (Nat.le_of_ble_eq_true rfl) rfl (c_X9_take l (d + 1) F a1 v9 h8 v11 h10 Hc) ?_
        refine jr_if_eq (tgt := 98) dX8_readThing_78 (by decide) H (fun H => ?_) (fun H => ?_)
        · refine jr_iconst (v := 0) dX8_readThing_98 (by decide) ?_
          exact jr_zret rfl rfl dX8_readThing_99 H
        · refine jr_aload_n dX8_readThing_81 rfl rfl ?_
          refine jr_sipush (v := 1000) dX8_readThing_82 (by decide) ?_
          refine jr_iload dX8_readThing_85 rfl ?_
          refine jr_iadd dX8_readThing_87 ?_
          obtain ⟨v13, h12, Hc, H⟩ := j_b2_some H
          refine jr_callV (ci := 8) [.int ((1000 : Int32) + v7)] my_X8_put mv_X8_put ml_RX8_48 dX8_readThing_88 rfl rfl (Nat.le_of_ble_eq_true rfl) rfl (c_X8_put l (d + 2) F a0 ((1000 : Int32) + v7) h10 v13 h12 Hc) ?_
          refine jr_if_eq (tgt := 98) dX8_readThing_91 (by decide) H (fun H => ?_) (fun H => ?_)
          · refine jr_iconst (v := 0) dX8_readThing_98 (by decide) ?_
            exact jr_zret rfl rfl dX8_readThing_99 H
          · refine jr_iconst (v := 1) dX8_readThing_94 (by decide) ?_
            refine jr_goto (tgt := 99) dX8_readThing_95 (by decide) ?_
            exact jr_zret rfl rfl dX8_readThing_99 H
    · refine jr_aload_n dX8_readThing_50 rfl rfl ?_
      refine jr_iload_n dX8_readThing_51 rfl rfl ?_
      obtain ⟨v15, h14, Hc, H⟩ := j_b2_some H
      refine jr_callV (ci := 8) [.int v3] my_X8_put mv_X8_put ml_RX8_48 dX8_readThing_52 rfl rfl (Nat.le_of_ble_eq_true rfl) rfl (c_X8_put l (d + 2) F a0 v3 h2 v15 h14 Hc) ?_
      exact jr_zrz rfl dX8_readThing_55 H
  · refine jr_icmp_ge (tgt := 40) dX8_readThing_2 (by decide) H (fun H => ?_) (fun H => ?_)
    · refine jr_fgt 2 ?_
      exact hJ40 _ H
    · refine jr_aload_n dX8_readThing_5 rfl rfl ?_
      refine jr_bipush (v := 40) dX8_readThing_6 (by decide) ?_
      obtain ⟨v17, h16, Hc, H⟩ := j_b2_some H
      refine jr_callV (ci := 9) [.int 40] my_X9_take mv_X9_take ml_RX8_58 dX8_readThing_8 rfl rfl (Nat.le_of_ble_eq_true rfl) rfl (c_X9_take l (d + 1) F a1 40 h v17 h16 Hc) ?_
      refine jr_if_eq (tgt := 40) dX8_readThing_11 (by decide) H (fun H => ?_) (fun H => ?_)
      · refine jr_fgt 2 ?_
        exact hJ40 _ H
      · refine jr_aload_n dX8_readThing_14 rfl rfl ?_
        refine jr_aload_n dX8_readThing_15 rfl rfl ?_
        refine jr_iload_n dX8_readThing_16 rfl rfl ?_
        refine jr_iconst (v := 1) dX8_readThing_17 (by decide) ?_
        refine jr_iadd dX8_readThing_18 ?_
        obtain ⟨v19, h18, Hc, H⟩ := j_b2_some H
        refine jr_callV (ci := 8) [.ref a1, .int (a2 + (1 : Int32))] my_X8_readComparison mv_X8_readComparison ml_RX8_37 dX8_readThing_19 rfl rfl (Nat.le_of_ble_eq_true rfl) rfl (hrec.1 a0 a1 (a2 + (1 : Int32)) h16 v19 h18 Hc) ?_
        refine jr_if_eq (tgt := 38) dX8_readThing_22 (by decide) H (fun H => ?_) (fun H => ?_)
        · refine jr_iconst (v := 0) dX8_readThing_38 (by decide) ?_
          exact jr_zret rfl rfl dX8_readThing_39 H
        · refine jr_aload_n dX8_readThing_25 rfl rfl ?_
          refine jr_bipush (v := 41) dX8_readThing_26 (by decide) ?_
          obtain ⟨v21, h20, Hc, H⟩ := j_b2_some H
          refine jr_callV (ci := 9) [.int 41] my_X9_take mv_X9_take ml_RX8_58 dX8_readThing_28 rfl rfl (Nat.le_of_ble_eq_true rfl) rfl (c_X9_take l (d + 1) F a1 41 h18 v21 h20 Hc) ?_
          refine jr_if_eq (tgt := 38) dX8_readThing_31 (by decide) H (fun H => ?_) (fun H => ?_)
          · refine jr_iconst (v := 0) dX8_readThing_38 (by decide) ?_
            exact jr_zret rfl rfl dX8_readThing_39 H
          · refine jr_iconst (v := 1) dX8_readThing_34 (by decide) ?_
            refine jr_goto (tgt := 39) dX8_readThing_35 (by decide) ?_
            exact jr_zret rfl rfl dX8_readThing_39 H
theorem c_gR (l : Launch) (d : Nat) (F : Nat) : ∀ n : Nat, (∀ (a0 : Nat) (a1 : Nat) (a2 : Int32) (h : jH) (rv : Int32) (hv : jH), f_gR F n 0 a0 a1 a2 h = some (rv, hv) → jh_sh h a0 = (8, 0) ∧ jMet l (d + n + 2) yX8_readComparison cX8_readComparison 4 (some .boolean) [.ref a0, .ref a1, .int a2] h (some (.int rv)) hv) ∧ (∀ (a0 : Nat) (a1 : Nat) (a2 : Int32) (h : jH) (rv : Int32) (hv : jH), f_gR F n 1 a0 a1 a2 h = some (rv, hv) → jh_sh h a0 = (8, 0) ∧ jMet l (d + n + 2) yX8_readSum cX8_readSum 6 (some .boolean) [.ref a0, .ref a1, .int a2] h (some (.int rv)) hv) ∧ (∀ (a0 : Nat) (a1 : Nat) (a2 : Int32) (h : jH) (rv : Int32) (hv : jH), f_gR F n 2 a0 a1 a2 h = some (rv, hv) → jh_sh h a0 = (8, 0) ∧ jMet l (d + n + 2) yX8_readProduct cX8_readProduct 6 (some .boolean) [.ref a0, .ref a1, .int a2] h (some (.int rv)) hv) ∧ (∀ (a0 : Nat) (a1 : Nat) (a2 : Int32) (h : jH) (rv : Int32) (hv : jH), f_gR F n 3 a0 a1 a2 h = some (rv, hv) → jh_sh h a0 = (8, 0) ∧ jMet l (d + n + 2) yX8_readFactor cX8_readFactor 4 (some .boolean) [.ref a0, .ref a1, .int a2] h (some (.int rv)) hv) ∧ (∀ (a0 : Nat) (a1 : Nat) (a2 : Int32) (h : jH) (rv : Int32) (hv : jH), f_gR F n 4 a0 a1 a2 h = some (rv, hv) → jh_sh h a0 = (8, 0) ∧ jMet l (d + n + 2) yX8_readThing cX8_readThing 5 (some .boolean) [.ref a0, .ref a1, .int a2] h (some (.int rv)) hv) := by
  intro n
  induction n with
  | zero => exact ⟨fun a0 a1 a2 h rv hv H => (by cases H), fun a0 a1 a2 h rv hv H => (by cases H), fun a0 a1 a2 h rv hv H => (by cases H), fun a0 a1 a2 h rv hv H => (by cases H), fun a0 a1 a2 h rv hv H => (by cases H)⟩
  | succ n ih => exact ⟨fun a0 a1 a2 h rv hv H => j_dep (by omega) (c_b_X8_readComparison l (d + n) F (f_gR F n) ih a0 a1 a2 h rv hv H), fun a0 a1 a2 h rv hv H => j_dep (by omega) (c_b_X8_readSum l (d + n) F (f_gR F n) ih a0 a1 a2 h rv hv H), fun a0 a1 a2 h rv hv H => j_dep (by omega) (c_b_X8_readProduct l (d + n) F (f_gR F n) ih a0 a1 a2 h rv hv H), fun a0 a1 a2 h rv hv H => j_dep (by omega) (c_b_X8_readFactor l (d + n) F (f_gR F n) ih a0 a1 a2 h rv hv H), fun a0 a1 a2 h rv hv H => j_dep (by omega) (c_b_X8_readThing l (d + n) F (f_gR F n) ih a0 a1 a2 h rv hv H)⟩
theorem c_X8_readComparison (l : Launch) (d : Nat) (F : Nat) (a0 : Nat) (a1 : Nat) (a2 : Int32) (h : jH) (rR : Int32) (hf : jH) (H : f_X8_readComparison F a0 a1 a2 h = some (rR, hf)) : jh_sh h a0 = (8, 0) ∧ jMet l (d + 402) yX8_readComparison cX8_readComparison 4 (some .boolean) [.ref a0, .ref a1, .int a2] h (some (.int rR)) hf := j_dep (by omega) ((c_gR l d F 400).1 a0 a1 a2 h rR hf H)
theorem c_X8_readSum (l : Launch) (d : Nat) (F : Nat) (a0 : Nat) (a1 : Nat) (a2 : Int32) (h : jH) (rR : Int32) (hf : jH) (H : f_X8_readSum F a0 a1 a2 h = some (rR, hf)) : jh_sh h a0 = (8, 0) ∧ jMet l (d + 402) yX8_readSum cX8_readSum 6 (some .boolean) [.ref a0, .ref a1, .int a2] h (some (.int rR)) hf := j_dep (by omega) ((c_gR l d F 400).2.1 a0 a1 a2 h rR hf H)
theorem c_X8_readProduct (l : Launch) (d : Nat) (F : Nat) (a0 : Nat) (a1 : Nat) (a2 : Int32) (h : jH) (rR : Int32) (hf : jH) (H : f_X8_readProduct F a0 a1 a2 h = some (rR, hf)) : jh_sh h a0 = (8, 0) ∧ jMet l (d + 402) yX8_readProduct cX8_readProduct 6 (some .boolean) [.ref a0, .ref a1, .int a2] h (some (.int rR)) hf := j_dep (by omega) ((c_gR l d F 400).2.2.1 a0 a1 a2 h rR hf H)
theorem c_X8_readFactor (l : Launch) (d : Nat) (F : Nat) (a0 : Nat) (a1 : Nat) (a2 : Int32) (h : jH) (rR : Int32) (hf : jH) (H : f_X8_readFactor F a0 a1 a2 h = some (rR, hf)) : jh_sh h a0 = (8, 0) ∧ jMet l (d + 402) yX8_readFactor cX8_readFactor 4 (some .boolean) [.ref a0, .ref a1, .int a2] h (some (.int rR)) hf := j_dep (by omega) ((c_gR l d F 400).2.2.2.1 a0 a1 a2 h rR hf H)
theorem c_X8_readThing (l : Launch) (d : Nat) (F : Nat) (a0 : Nat) (a1 : Nat) (a2 : Int32) (h : jH) (rR : Int32) (hf : jH) (H : f_X8_readThing F a0 a1 a2 h = some (rR, hf)) : jh_sh h a0 = (8, 0) ∧ jMet l (d + 402) yX8_readThing cX8_readThing 5 (some .boolean) [.ref a0, .ref a1, .int a2] h (some (.int rR)) hf := j_dep (by omega) ((c_gR l d F 400).2.2.2.2 a0 a1 a2 h rR hf H)
set_option maxRecDepth 100000 in
set_option maxHeartbeats 4000000 in
theorem c_X8_read (l : Launch) (d : Nat) (F : Nat) (a0 : Nat) (a1 : Nat) (h : jH) (rR : Int32) (hf : jH) (H : f_X8_read F a0 a1 h = some (rR, hf)) : jh_sh h a0 = (8, 0) ∧ jMet l (d + 403) yX8_read cX8_read 2 (some .boolean) [.ref a0, .ref a1] h (some (.int rR)) hf := by
  unfold f_X8_read at H
  obtain ⟨hsh, H⟩ := j_gd_some H
  refine ⟨hsh, ?_⟩
  refine jMet.of false [some (.ref a0), some (.ref a1)] rfl (by decide) (by decide) (Nat.le_of_ble_eq_true rfl) (fun S0 q hq => by simpa [j_l, lv_args, j_v, Value.category] using hq) ?_
  refine jr_aload_n dX8_read_0 rfl rfl ?_
  obtain ⟨v2, h1, Hc, H⟩ := j_b2_some H
  refine jr_callV (ci := 9) [] my_X9_isOver mv_X9_isOver ml_RX8_31 dX8_read_1 rfl rfl (Nat.le_of_ble_eq_true rfl) rfl (c_X9_isOver l (d + 402) F a1 h v2 h1 Hc) ?_
  refine jr_if_eq (tgt := 13) dX8_read_4 (by decide) H (fun H => ?_) (fun H => ?_)
  · refine jr_aload_n dX8_read_13 rfl rfl ?_
    refine jr_iconst (v := 0) dX8_read_14 (by decide) ?_
    refine jr_putI fl_RX8_24 (fun z => by cases z) dX8_read_15 H (fun h3 H => ?_)
    refine jr_aload_n dX8_read_18 rfl rfl ?_
    refine jr_aload_n dX8_read_19 rfl rfl ?_
    refine jr_iconst (v := 0) dX8_read_20 (by decide) ?_
    obtain ⟨v5, h4, Hc, H⟩ := j_b2_some H
    refine jr_callV (ci := 8) [.ref a1, .int 0] my_X8_readComparison mv_X8_readComparison ml_RX8_37 dX8_read_21 rfl rfl (Nat.le_of_ble_eq_true rfl) rfl (c_X8_readComparison l d F a0 a1 0 h3 v5 h4 Hc) ?_
    refine jr_if_eq (tgt := 38) dX8_read_24 (by decide) H (fun H => ?_) (fun H => ?_)
    · refine jr_iconst (v := 0) dX8_read_38 (by decide) ?_
      exact jr_zret rfl rfl dX8_read_39 H
    · refine jr_aload_n dX8_read_27 rfl rfl ?_
      obtain ⟨v7, h6, Hc, H⟩ := j_b2_some H
      refine jr_callV (ci := 9) [] my_X9_isOver mv_X9_isOver ml_RX8_31 dX8_read_28 rfl rfl (Nat.le_of_ble_eq_true rfl) rfl (c_X9_isOver l (d + 402) F a1 h4 v7 h6 Hc) ?_
      refine jr_if_eq (tgt := 38) dX8_read_31 (by decide) H (fun H => ?_) (fun H => ?_)
      · refine jr_iconst (v := 0) dX8_read_38 (by decide) ?_
        exact jr_zret rfl rfl dX8_read_39 H
      · refine jr_iconst (v := 1) dX8_read_34 (by decide) ?_
        refine jr_goto (tgt := 39) dX8_read_35 (by decide) ?_
        exact jr_zret rfl rfl dX8_read_39 H
  · refine jr_aload_n dX8_read_7 rfl rfl ?_
    obtain ⟨h8, Hc, H⟩ := Option.bind_eq_some_iff.mp H
    refine jr_callV (ci := 8) [] my_X8_becomeNone mv_X8_becomeNone ml_RX8_28 dX8_read_8 rfl rfl (Nat.le_of_ble_eq_true rfl) rfl (c_X8_becomeNone l (d + 402) F a0 h1 h8 Hc) ?_
    refine jr_iconst (v := 1) dX8_read_11 (by decide) ?_
    exact jr_zret rfl rfl dX8_read_12 H
set_option maxRecDepth 100000 in
set_option maxHeartbeats 4000000 in
theorem c_X10_readSpareTariff (l : Launch) (d : Nat) (F : Nat) (a0 : Nat) (h : jH) (rR : Int32) (hf : jH) (H : f_X10_readSpareTariff F a0 h = some (rR, hf)) : jh_sh h a0 = (10, 0) ∧ jMet l (d + 404) yX10_readSpareTariff cX10_readSpareTariff 2 (some .int) [.ref a0] h (some (.int rR)) hf := by
  unfold f_X10_readSpareTariff at H
  obtain ⟨hsh, H⟩ := j_gd_some H
  refine ⟨hsh, ?_⟩
  refine jMet.of false [some (.ref a0), none] rfl (by decide) (by decide) (Nat.le_of_ble_eq_true rfl) (fun S0 q hq => by simpa [j_l, lv_args, j_v, Value.category] using hq) ?_
  refine jr_aload_n dX10_readSpareTariff_0 rfl rfl ?_
  refine jr_getR fl_RX10_10 dX10_readSpareTariff_1 H (fun v1 H => ?_)
  refine jr_bipush (v := 40) dX10_readSpareTariff_4 (by decide) ?_
  obtain ⟨h2, Hc, H⟩ := Option.bind_eq_some_iff.mp H
  refine jr_callV (ci := 9) [.int 40] my_X9_open mv_X9_open ml_RX10_263 dX10_readSpareTariff_6 rfl rfl (Nat.le_of_ble_eq_true rfl) rfl (c_X9_open l (d + 402) F v1 40 h h2 Hc) ?_
  refine jr_aload_n dX10_readSpareTariff_9 rfl rfl ?_
  refine jr_getR fl_RX10_96 dX10_readSpareTariff_10 H (fun v3 H => ?_)
  refine jr_aload_n dX10_readSpareTariff_13 rfl rfl ?_
  refine jr_getR fl_RX10_10 dX10_readSpareTariff_14 H (fun v4 H => ?_)
  obtain ⟨v6, h5, Hc, H⟩ := j_b2_some H
  refine jr_callV (ci := 8) [.ref v4] my_X8_read mv_X8_read ml_RX10_415 dX10_readSpareTariff_17 rfl rfl (Nat.le_of_ble_eq_true rfl) rfl (c_X8_read l d F v3 v4 h2 v6 h5 Hc) ?_
  refine jr_jn (fun J => ∀ (s7 : Int32) (h8 : jH), J s7 h8 = some (rR, hf) → jGo l (d + 404) none RX10 cX10_readSpareTariff 2 (some .int) false 34 [some (.ref a0), none] [.int s7] h8 (some (.int rR)) hf) H (fun s7 h8 H => ?_) (fun J34 hJ34 H => ?_)
  · refine jr_istore_n dX10_readSpareTariff_34 rfl (by decide) rfl (Or.inl rfl) ?_
    refine jr_aload_n dX10_readSpareTariff_35 rfl rfl ?_
    refine jr_getR fl_RX10_10 dX10_readSpareTariff_36 H (fun v9 H => ?_)
    refine jr_iconst (v := 0) dX10_readSpareTariff_39 (by decide) ?_
    refine jr_putI fl_RX10_113 (fun z => by cases z) dX10_readSpareTariff_40 H (fun h10 H => ?_)
    refine jr_iload_n dX10_readSpareTariff_43 rfl rfl ?_
    exact jr_iret rfl dX10_readSpareTariff_44 H
  · refine jr_if_eq (tgt := 27) dX10_readSpareTariff_20 (by decide) H (fun H => ?_) (fun H => ?_)
    · refine jr_aload_n dX10_readSpareTariff_27 rfl rfl ?_
      refine jr_getR fl_RX10_10 dX10_readSpareTariff_28 H (fun v11 H => ?_)
      obtain ⟨v13, h12, Hc, H⟩ := j_b2_some H
      refine jr_callV (ci := 9) [] my_X9_fault mv_X9_fault ml_RX10_384 dX10_readSpareTariff_31 rfl rfl (Nat.le_of_ble_eq_true rfl) rfl (c_X9_fault l (d + 403) F v11 h5 v13 h12 Hc) ?_
      exact hJ34 _ _ H
    · refine jr_iconst (v := 0) dX10_readSpareTariff_23 (by decide) ?_
      refine jr_goto (tgt := 34) dX10_readSpareTariff_24 (by decide) ?_
      exact hJ34 _ _ H
set_option maxRecDepth 100000 in
set_option maxHeartbeats 4000000 in
theorem c_X10_rule (l : Launch) (d : Nat) (F : Nat) (a0 : Nat) (h : jH) (rR : Int32) (hf : jH) (H : f_X10_rule F a0 h = some (rR, hf)) : jh_sh h a0 = (10, 0) ∧ jMet l (d + 405) yX10_rule cX10_rule 3 (some .int) [.ref a0] h (some (.int rR)) hf := by
  unfold f_X10_rule at H
  obtain ⟨hsh, H⟩ := j_gd_some H
  refine ⟨hsh, ?_⟩
  refine jMet.of false [some (.ref a0), none, none] rfl (by decide) (by decide) (Nat.le_of_ble_eq_true rfl) (fun S0 q hq => by simpa [j_l, lv_args, j_v, Value.category] using hq) ?_
  refine jr_aload_n dX10_rule_0 rfl rfl ?_
  obtain ⟨v2, h1, Hc, H⟩ := j_b2_some H
  refine jr_callV (ci := 10) [] my_X10_readSpareTariff mv_X10_readSpareTariff ml_RX10_133 dX10_rule_1 rfl rfl (Nat.le_of_ble_eq_true rfl) rfl (c_X10_readSpareTariff l d F a0 h v2 h1 Hc) ?_
  refine jr_istore_n dX10_rule_4 rfl (by decide) rfl (Or.inl rfl) ?_
  refine jr_iload_n dX10_rule_5 rfl rfl ?_
  refine jr_if_ne (tgt := 27) dX10_rule_6 (by decide) H (fun H => ?_) (fun H => ?_)
  · refine jr_aload_n dX10_rule_9 rfl rfl ?_
    refine jr_getR fl_RX10_92 dX10_rule_10 H (fun v3 H => ?_)
    refine jr_astore_n dX10_rule_13 rfl (by decide) rfl (Or.inl rfl) ?_
    refine jr_aload_n dX10_rule_14 rfl rfl ?_
    refine jr_aload_n dX10_rule_15 rfl rfl ?_
    refine jr_getR fl_RX10_96 dX10_rule_16 H (fun v4 H => ?_)
    refine jr_putR fl_RX10_92 (fun z => by cases z) dX10_rule_19 H (fun h5 H => ?_)
    refine jr_aload_n dX10_rule_22 rfl rfl ?_
    refine jr_aload_n dX10_rule_23 rfl rfl ?_
    refine jr_putR fl_RX10_96 (fun z => by cases z) dX10_rule_24 H (fun h6 H => ?_)
    refine jr_iload_n dX10_rule_27 rfl rfl ?_
    exact jr_iret rfl dX10_rule_28 H
  · refine jr_iload_n dX10_rule_27 rfl rfl ?_
    exact jr_iret rfl dX10_rule_28 H
set_option maxRecDepth 100000 in
set_option maxHeartbeats 4000000 in
theorem c_X10_isWord (l : Launch) (d : Nat) (F : Nat) (a0 : Nat) (a1 : Int32) (h : jH) (rR : Int32) (hf : jH) (H : f_X10_isWord F a0 a1 h = some (rR, hf)) : jh_sh h a0 = (10, 0) ∧ jMet l (d + 0) yX10_isWord cX10_isWord 2 (some .boolean) [.ref a0, .int a1] h (some (.int rR)) hf := by
  unfold f_X10_isWord at H
  obtain ⟨hsh, H⟩ := j_gd_some H
  refine ⟨hsh, ?_⟩
  refine jMet.of false [some (.ref a0), some (.int a1)] rfl (by decide) (by decide) (Nat.le_of_ble_eq_true rfl) (fun S0 q hq => by simpa [j_l, lv_args, j_v, Value.category] using hq) ?_
  refine jr_iload_n dX10_isWord_0 rfl rfl ?_
  refine jr_if_lt (tgt := 19) dX10_isWord_1 (by decide) H (fun H => ?_) (fun H => ?_)
  · refine jr_iconst (v := 0) dX10_isWord_19 (by decide) ?_
    exact jr_zret rfl rfl dX10_isWord_20 H
  · refine jr_iload_n dX10_isWord_4 rfl rfl ?_
    refine jr_aload_n dX10_isWord_5 rfl rfl ?_
    refine jr_getR fl_RX10_26 dX10_isWord_6 H (fun v1 H => ?_)
    refine jr_getI fl_RX10_127 (by decide) dX10_isWord_9 H (fun v2 H => ?_)
    refine jr_icmp_ge (tgt := 19) dX10_isWord_12 (by decide) H (fun H => ?_) (fun H => ?_)
    · refine jr_iconst (v := 0) dX10_isWord_19 (by decide) ?_
      exact jr_zret rfl rfl dX10_isWord_20 H
    · refine jr_iconst (v := 1) dX10_isWord_15 (by decide) ?_
      refine jr_goto (tgt := 20) dX10_isWord_16 (by decide) ?_
      exact jr_zret rfl rfl dX10_isWord_20 H
set_option maxRecDepth 100000 in
set_option maxHeartbeats 4000000 in
theorem c_X3_heardIn (l : Launch) (d : Nat) (F : Nat) (a0 : Nat) (a1 : Int32) (a2 : Int32) (h : jH) (rR : Int32) (hf : jH) (H : f_X3_heardIn F a0 a1 a2 h = some (rR, hf)) : jh_sh h a0 = (3, 0) ∧ jMet l (d + 0) yX3_heardIn cX3_heardIn 3 (some .int) [.ref a0, .int a1, .int a2] h (some (.int rR)) hf := by
  unfold f_X3_heardIn at H
  obtain ⟨hsh, H⟩ := j_gd_some H
  refine ⟨hsh, ?_⟩
  refine jMet.of false [some (.ref a0), some (.int a1), some (.int a2)] rfl (by decide) (by decide) (Nat.le_of_ble_eq_true rfl) (fun S0 q hq => by simpa [j_l, lv_args, j_v, Value.category] using hq) ?_
  refine jr_aload_n dX3_heardIn_0 rfl rfl ?_
  refine jr_getR fl_RX3_24 dX3_heardIn_1 H (fun v1 H => ?_)
  refine jr_iload_n dX3_heardIn_4 rfl rfl ?_
  refine jr_iconst (v := 5) dX3_heardIn_5 (by decide) ?_
  refine jr_imul dX3_heardIn_6 ?_
  refine jr_iload_n dX3_heardIn_7 rfl rfl ?_
  refine jr_iadd dX3_heardIn_8 ?_
  refine jr_iald dX3_heardIn_9 H (fun v2 H => ?_)
  exact jr_iret rfl dX3_heardIn_10 H
set_option maxRecDepth 100000 in
set_option maxHeartbeats 4000000 in
theorem c_X3_vowelsOf (l : Launch) (d : Nat) (F : Nat) (a0 : Nat) (a1 : Int32) (h : jH) (rR : Int32) (hf : jH) (H : f_X3_vowelsOf F a0 a1 h = some (rR, hf)) : jh_sh h a0 = (3, 0) ∧ jMet l (d + 0) yX3_vowelsOf cX3_vowelsOf 2 (some .int) [.ref a0, .int a1] h (some (.int rR)) hf := by
  unfold f_X3_vowelsOf at H
  obtain ⟨hsh, H⟩ := j_gd_some H
  refine ⟨hsh, ?_⟩
  refine jMet.of false [some (.ref a0), some (.int a1)] rfl (by decide) (by decide) (Nat.le_of_ble_eq_true rfl) (fun S0 q hq => by simpa [j_l, lv_args, j_v, Value.category] using hq) ?_
  refine jr_aload_n dX3_vowelsOf_0 rfl rfl ?_
  refine jr_getR fl_RX3_27 dX3_vowelsOf_1 H (fun v1 H => ?_)
  refine jr_iload_n dX3_vowelsOf_4 rfl rfl ?_
  refine jr_iald dX3_vowelsOf_5 H (fun v2 H => ?_)
  exact jr_iret rfl dX3_vowelsOf_6 H
set_option maxRecDepth 100000 in
set_option maxHeartbeats 4000000 in
theorem c_X10_word (l : Launch) (d : Nat) (F : Nat) (a0 : Nat) (a1 : Int32) (a2 : Int32) (h : jH) (rR : Int32) (hf : jH) (H : f_X10_word F a0 a1 a2 h = some (some rR, hf)) : jh_sh h a0 = (10, 0) ∧ jMet l (d + 6) yX10_word cX10_word 3 (some .int) [.ref a0, .int a1, .int a2] h (some (.int rR)) hf := by
  unfold f_X10_word at H
  obtain ⟨hsh, H⟩ := j_gd_some H
  refine ⟨hsh, ?_⟩
  refine jMet.of false [some (.ref a0), some (.int a1), some (.int a2)] rfl (by decide) (by decide) (Nat.le_of_ble_eq_true rfl) (fun S0 q hq => by simpa [j_l, lv_args, j_v, Value.category] using hq) ?_
  refine jr_aload_n dX10_word_0 rfl rfl ?_
  refine jr_iload_n dX10_word_1 rfl rfl ?_
  obtain ⟨v2, h1, Hc, H⟩ := j_b2_some H
  refine jr_callV (ci := 10) [.int a1] my_X10_isWord mv_X10_isWord ml_RX10_136 dX10_word_2 rfl rfl (Nat.le_of_ble_eq_true rfl) rfl (c_X10_isWord l (d + 5) F a0 a1 h v2 h1 Hc) ?_
  refine jr_if_ne (tgt := 16) dX10_word_5 (by decide) H (fun H => ?_) (fun H => ?_)
  · cases H
  · refine jr_iload_n dX10_word_16 rfl rfl ?_
    by_cases q0 : a2 = 0
    · rw [if_pos q0] at H
      refine jr_table (tgt := 68) dX10_word_17 (51) (by rw [q0]; decide) (by decide) (by decide) (by decide) ?_
      refine jr_aload_n dX10_word_68 rfl rfl ?_
      refine jr_getR fl_RX10_26 dX10_word_69 H (fun v3 H => ?_)
      refine jr_getR fl_RX10_142 dX10_word_72 H (fun v4 H => ?_)
      refine jr_iload_n dX10_word_75 rfl rfl ?_
      refine jr_iald dX10_word_76 H (fun v5 H => ?_)
      exact jr_iret rfl dX10_word_77 (by cases H; rfl)
    rw [if_neg q0] at H
    by_cases q1 : a2 = 1
    · rw [if_pos q1] at H
      refine jr_table (tgt := 78) dX10_word_17 (61) (by rw [q1]; decide) (by decide) (by decide) (by decide) ?_
      refine jr_aload_n dX10_word_78 rfl rfl ?_
      refine jr_getR fl_RX10_26 dX10_word_79 H (fun v6 H => ?_)
      refine jr_iload_n dX10_word_82 rfl rfl ?_
      obtain ⟨v8, h7, Hc, H⟩ := j_b2_some H
      refine jr_callV (ci := 3) [.int a1] my_X3_vowelsOf mv_X3_vowelsOf ml_RX10_145 dX10_word_83 rfl rfl (Nat.le_of_ble_eq_true rfl) rfl (c_X3_vowelsOf l (d + 5) F v6 a1 h1 v8 h7 Hc) ?_
      exact jr_iret rfl dX10_word_86 (by cases H; rfl)
    rw [if_neg q1] at H
    by_cases q2 : a2 = 2
    · rw [if_pos q2] at H
      refine jr_table (tgt := 87) dX10_word_17 (70) (by rw [q2]; decide) (by decide) (by decide) (by decide) ?_
      refine jr_aload_n dX10_word_87 rfl rfl ?_
      refine jr_getR fl_RX10_26 dX10_word_88 H (fun v9 H => ?_)
      refine jr_getR fl_RX10_149 dX10_word_91 H (fun v10 H => ?_)
      refine jr_iload_n dX10_word_94 rfl rfl ?_
      refine jr_iald dX10_word_95 H (fun v11 H => ?_)
      exact jr_iret rfl dX10_word_96 (by cases H; rfl)
    rw [if_neg q2] at H
    by_cases q3 : a2 = 3
    · rw [if_pos q3] at H
      refine jr_table (tgt := 97) dX10_word_17 (80) (by rw [q3]; decide) (by decide) (by decide) (by decide) ?_
      refine jr_aload_n dX10_word_97 rfl rfl ?_
      refine jr_getR fl_RX10_26 dX10_word_98 H (fun v12 H => ?_)
      refine jr_getR fl_RX10_152 dX10_word_101 H (fun v13 H => ?_)
      refine jr_iload_n dX10_word_104 rfl rfl ?_
      refine jr_iald dX10_word_105 H (fun v14 H => ?_)
      exact jr_iret rfl dX10_word_106 (by cases H; rfl)
    rw [if_neg q3] at H
    by_cases q4 : a2 = 4
    · rw [if_pos q4] at H
      refine jr_table (tgt := 107) dX10_word_17 (90) (by rw [q4]; decide) (by decide) (by decide) (by decide) ?_
      refine jr_aload_n dX10_word_107 rfl rfl ?_
      refine jr_getR fl_RX10_26 dX10_word_108 H (fun v15 H => ?_)
      refine jr_iload_n dX10_word_111 rfl rfl ?_
      refine jr_iload_n dX10_word_112 rfl rfl ?_
      refine jr_iconst (v := 4) dX10_word_113 (by decide) ?_
      refine jr_isub dX10_word_114 ?_
      obtain ⟨v17, h16, Hc, H⟩ := j_b2_some H
      refine jr_callV (ci := 3) [.int a1, .int (a2 - (4 : Int32))] my_X3_heardIn mv_X3_heardIn ml_RX10_155 dX10_word_115 rfl rfl (Nat.le_of_ble_eq_true rfl) rfl (c_X3_heardIn l (d + 5) F v15 a1 (a2 - (4 : Int32)) h1 v17 h16 Hc) ?_
      exact jr_iret rfl dX10_word_118 (by cases H; rfl)
    rw [if_neg q4] at H
    by_cases q5 : a2 = 5
    · rw [if_pos q5] at H
      refine jr_table (tgt := 107) dX10_word_17 (90) (by rw [q5]; decide) (by decide) (by decide) (by decide) ?_
      refine jr_aload_n dX10_word_107 rfl rfl ?_
      refine jr_getR fl_RX10_26 dX10_word_108 H (fun v18 H => ?_)
      refine jr_iload_n dX10_word_111 rfl rfl ?_
      refine jr_iload_n dX10_word_112 rfl rfl ?_
      refine jr_iconst (v := 4) dX10_word_113 (by decide) ?_
      refine jr_isub dX10_word_114 ?_
      obtain ⟨v20, h19, Hc, H⟩ := j_b2_some H
      refine jr_callV (ci := 3) [.int a1, .int (a2 - (4 : Int32))] my_X3_heardIn mv_X3_heardIn ml_RX10_155 dX10_word_115 rfl rfl (Nat.le_of_ble_eq_true rfl) rfl (c_X3_heardIn l (d + 5) F v18 a1 (a2 - (4 : Int32)) h1 v20 h19 Hc) ?_
      exact jr_iret rfl dX10_word_118 (by cases H; rfl)
    rw [if_neg q5] at H
    by_cases q6 : a2 = 6
    · rw [if_pos q6] at H
      refine jr_table (tgt := 107) dX10_word_17 (90) (by rw [q6]; decide) (by decide) (by decide) (by decide) ?_
      refine jr_aload_n dX10_word_107 rfl rfl ?_
      refine jr_getR fl_RX10_26 dX10_word_108 H (fun v21 H => ?_)
      refine jr_iload_n dX10_word_111 rfl rfl ?_
      refine jr_iload_n dX10_word_112 rfl rfl ?_
      refine jr_iconst (v := 4) dX10_word_113 (by decide) ?_
      refine jr_isub dX10_word_114 ?_
      obtain ⟨v23, h22, Hc, H⟩ := j_b2_some H
      refine jr_callV (ci := 3) [.int a1, .int (a2 - (4 : Int32))] my_X3_heardIn mv_X3_heardIn ml_RX10_155 dX10_word_115 rfl rfl (Nat.le_of_ble_eq_true rfl) rfl (c_X3_heardIn l (d + 5) F v21 a1 (a2 - (4 : Int32)) h1 v23 h22 Hc) ?_
      exact jr_iret rfl dX10_word_118 (by cases H; rfl)
    rw [if_neg q6] at H
    by_cases q7 : a2 = 7
    · rw [if_pos q7] at H
      refine jr_table (tgt := 107) dX10_word_17 (90) (by rw [q7]; decide) (by decide) (by decide) (by decide) ?_
      refine jr_aload_n dX10_word_107 rfl rfl ?_
      refine jr_getR fl_RX10_26 dX10_word_108 H (fun v24 H => ?_)
      refine jr_iload_n dX10_word_111 rfl rfl ?_
      refine jr_iload_n dX10_word_112 rfl rfl ?_
      refine jr_iconst (v := 4) dX10_word_113 (by decide) ?_
      refine jr_isub dX10_word_114 ?_
      obtain ⟨v26, h25, Hc, H⟩ := j_b2_some H
      refine jr_callV (ci := 3) [.int a1, .int (a2 - (4 : Int32))] my_X3_heardIn mv_X3_heardIn ml_RX10_155 dX10_word_115 rfl rfl (Nat.le_of_ble_eq_true rfl) rfl (c_X3_heardIn l (d + 5) F v24 a1 (a2 - (4 : Int32)) h1 v26 h25 Hc) ?_
      exact jr_iret rfl dX10_word_118 (by cases H; rfl)
    rw [if_neg q7] at H
    by_cases q8 : a2 = 8
    · rw [if_pos q8] at H
      refine jr_table (tgt := 107) dX10_word_17 (90) (by rw [q8]; decide) (by decide) (by decide) (by decide) ?_
      refine jr_aload_n dX10_word_107 rfl rfl ?_
      refine jr_getR fl_RX10_26 dX10_word_108 H (fun v27 H => ?_)
      refine jr_iload_n dX10_word_111 rfl rfl ?_
      refine jr_iload_n dX10_word_112 rfl rfl ?_
      refine jr_iconst (v := 4) dX10_word_113 (by decide) ?_
      refine jr_isub dX10_word_114 ?_
      obtain ⟨v29, h28, Hc, H⟩ := j_b2_some H
      refine jr_callV (ci := 3) [.int a1, .int (a2 - (4 : Int32))] my_X3_heardIn mv_X3_heardIn ml_RX10_155 dX10_word_115 rfl rfl (Nat.le_of_ble_eq_true rfl) rfl (c_X3_heardIn l (d + 5) F v27 a1 (a2 - (4 : Int32)) h1 v29 h28 Hc) ?_
      exact jr_iret rfl dX10_word_118 (by cases H; rfl)
    rw [if_neg q8] at H
    have hdef : (if a2.toInt < 0 ∨ 8 < a2.toInt then (102 : Int) else (#[51, 61, 70, 80, 90, 90, 90, 90, 90] : Array Int).getD (a2.toInt - 0).toNat 102) = 102 := by
      have w0 := lv_neT q0 (show (0 : Int32).toInt = 0 from rfl)
      have w1 := lv_neT q1 (show (1 : Int32).toInt = 1 from rfl)
      have w2 := lv_neT q2 (show (2 : Int32).toInt = 2 from rfl)
      have w3 := lv_neT q3 (show (3 : Int32).toInt = 3 from rfl)
      have w4 := lv_neT q4 (show (4 : Int32).toInt = 4 from rfl)
      have w5 := lv_neT q5 (show (5 : Int32).toInt = 5 from rfl)
      have w6 := lv_neT q6 (show (6 : Int32).toInt = 6 from rfl)
      have w7 := lv_neT q7 (show (7 : Int32).toInt = 7 from rfl)
      have w8 := lv_neT q8 (show (8 : Int32).toInt = 8 from rfl)
      by_cases hx : a2.toInt < 0 ∨ 8 < a2.toInt
      · rw [if_pos hx]
      · rw [if_neg hx]
        omega
    refine jr_table (tgt := 119) dX10_word_17 (102) hdef (by decide) (by decide) (by decide) ?_
    cases H
set_option maxRecDepth 100000 in
set_option maxHeartbeats 4000000 in
theorem ct_X10_word (l : Launch) (d : Nat) (hlt : l.stackTraces = false) (F : Nat) (a0 : Nat) (a1 : Int32) (a2 : Int32) (h : jH) (hf : jH) (H : f_X10_word F a0 a1 a2 h = some ((none : Option Int32), hf)) : jh_sh h a0 = (10, 0) ∧ jMetX l (d + 6) yX10_word cX10_word 3 (some .int) [.ref a0, .int a1, .int a2] h hf := by
  unfold f_X10_word at H
  obtain ⟨hsh, H⟩ := j_gd_some H
  refine ⟨hsh, ?_⟩
  refine jMetX.of [some (.ref a0), some (.int a1), some (.int a2)] (by decide) (Nat.le_of_ble_eq_true rfl) (fun S0 q hq => by simpa [j_l, lv_args, j_v, Value.category] using hq) ?_
  refine jr_aload_n dX10_word_0 rfl rfl ?_
  refine jr_iload_n dX10_word_1 rfl rfl ?_
  obtain ⟨v2, h1, Hc, H⟩ := j_b2_some H
  refine jr_callV (ci := 10) [.int a1] my_X10_isWord mv_X10_isWord ml_RX10_136 dX10_word_2 rfl rfl (Nat.le_of_ble_eq_true rfl) rfl (c_X10_isWord l (d + 5) F a0 a1 h v2 h1 Hc) ?_
  refine jr_if_ne (tgt := 16) dX10_word_5 (by decide) H (fun H => ?_) (fun H => ?_)
  · exact jr_throw0 hlt rfl tw_k tw_i tw_a tw_g dX10_word_8 dX10_word_11 dX10_word_12 dX10_word_15 (Nat.le_of_ble_eq_true rfl) H
  · refine jr_iload_n dX10_word_16 rfl rfl ?_
    by_cases q0 : a2 = 0
    · rw [if_pos q0] at H
      refine jr_table (tgt := 68) dX10_word_17 (51) (by rw [q0]; decide) (by decide) (by decide) (by decide) ?_
      refine jr_aload_n dX10_word_68 rfl rfl ?_
      refine jr_getR fl_RX10_26 dX10_word_69 H (fun v3 H => ?_)
      refine jr_getR fl_RX10_142 dX10_word_72 H (fun v4 H => ?_)
      refine jr_iload_n dX10_word_75 rfl rfl ?_
      refine jr_iald dX10_word_76 H (fun v5 H => ?_)
      cases H
    rw [if_neg q0] at H
    by_cases q1 : a2 = 1
    · rw [if_pos q1] at H
      refine jr_table (tgt := 78) dX10_word_17 (61) (by rw [q1]; decide) (by decide) (by decide) (by decide) ?_
      refine jr_aload_n dX10_word_78 rfl rfl ?_
      refine jr_getR fl_RX10_26 dX10_word_79 H (fun v6 H => ?_)
      refine jr_iload_n dX10_word_82 rfl rfl ?_
      obtain ⟨v8, h7, Hc, H⟩ := j_b2_some H
      refine jr_callV (ci := 3) [.int a1] my_X3_vowelsOf mv_X3_vowelsOf ml_RX10_145 dX10_word_83 rfl rfl (Nat.le_of_ble_eq_true rfl) rfl (c_X3_vowelsOf l (d + 5) F v6 a1 h1 v8 h7 Hc) ?_
      cases H
    rw [if_neg q1] at H
    by_cases q2 : a2 = 2
    · rw [if_pos q2] at H
      refine jr_table (tgt := 87) dX10_word_17 (70) (by rw [q2]; decide) (by decide) (by decide) (by decide) ?_
      refine jr_aload_n dX10_word_87 rfl rfl ?_
      refine jr_getR fl_RX10_26 dX10_word_88 H (fun v9 H => ?_)
      refine jr_getR fl_RX10_149 dX10_word_91 H (fun v10 H => ?_)
      refine jr_iload_n dX10_word_94 rfl rfl ?_
      refine jr_iald dX10_word_95 H (fun v11 H => ?_)
      cases H
    rw [if_neg q2] at H
    by_cases q3 : a2 = 3
    · rw [if_pos q3] at H
      refine jr_table (tgt := 97) dX10_word_17 (80) (by rw [q3]; decide) (by decide) (by decide) (by decide) ?_
      refine jr_aload_n dX10_word_97 rfl rfl ?_
      refine jr_getR fl_RX10_26 dX10_word_98 H (fun v12 H => ?_)
      refine jr_getR fl_RX10_152 dX10_word_101 H (fun v13 H => ?_)
      refine jr_iload_n dX10_word_104 rfl rfl ?_
      refine jr_iald dX10_word_105 H (fun v14 H => ?_)
      cases H
    rw [if_neg q3] at H
    by_cases q4 : a2 = 4
    · rw [if_pos q4] at H
      refine jr_table (tgt := 107) dX10_word_17 (90) (by rw [q4]; decide) (by decide) (by decide) (by decide) ?_
      refine jr_aload_n dX10_word_107 rfl rfl ?_
      refine jr_getR fl_RX10_26 dX10_word_108 H (fun v15 H => ?_)
      refine jr_iload_n dX10_word_111 rfl rfl ?_
      refine jr_iload_n dX10_word_112 rfl rfl ?_
      refine jr_iconst (v := 4) dX10_word_113 (by decide) ?_
      refine jr_isub dX10_word_114 ?_
      obtain ⟨v17, h16, Hc, H⟩ := j_b2_some H
      refine jr_callV (ci := 3) [.int a1, .int (a2 - (4 : Int32))] my_X3_heardIn mv_X3_heardIn ml_RX10_155 dX10_word_115 rfl rfl (Nat.le_of_ble_eq_true rfl) rfl (c_X3_heardIn l (d + 5) F v15 a1 (a2 - (4 : Int32)) h1 v17 h16 Hc) ?_
      cases H
    rw [if_neg q4] at H
    by_cases q5 : a2 = 5
    · rw [if_pos q5] at H
      refine jr_table (tgt := 107) dX10_word_17 (90) (by rw [q5]; decide) (by decide) (by decide) (by decide) ?_
      refine jr_aload_n dX10_word_107 rfl rfl ?_
      refine jr_getR fl_RX10_26 dX10_word_108 H (fun v18 H => ?_)
      refine jr_iload_n dX10_word_111 rfl rfl ?_
      refine jr_iload_n dX10_word_112 rfl rfl ?_
      refine jr_iconst (v := 4) dX10_word_113 (by decide) ?_
      refine jr_isub dX10_word_114 ?_
      obtain ⟨v20, h19, Hc, H⟩ := j_b2_some H
      refine jr_callV (ci := 3) [.int a1, .int (a2 - (4 : Int32))] my_X3_heardIn mv_X3_heardIn ml_RX10_155 dX10_word_115 rfl rfl (Nat.le_of_ble_eq_true rfl) rfl (c_X3_heardIn l (d + 5) F v18 a1 (a2 - (4 : Int32)) h1 v20 h19 Hc) ?_
      cases H
    rw [if_neg q5] at H
    by_cases q6 : a2 = 6
    · rw [if_pos q6] at H
      refine jr_table (tgt := 107) dX10_word_17 (90) (by rw [q6]; decide) (by decide) (by decide) (by decide) ?_
      refine jr_aload_n dX10_word_107 rfl rfl ?_
      refine jr_getR fl_RX10_26 dX10_word_108 H (fun v21 H => ?_)
      refine jr_iload_n dX10_word_111 rfl rfl ?_
      refine jr_iload_n dX10_word_112 rfl rfl ?_
      refine jr_iconst (v := 4) dX10_word_113 (by decide) ?_
      refine jr_isub dX10_word_114 ?_
      obtain ⟨v23, h22, Hc, H⟩ := j_b2_some H
      refine jr_callV (ci := 3) [.int a1, .int (a2 - (4 : Int32))] my_X3_heardIn mv_X3_heardIn ml_RX10_155 dX10_word_115 rfl rfl (Nat.le_of_ble_eq_true rfl) rfl (c_X3_heardIn l (d + 5) F v21 a1 (a2 - (4 : Int32)) h1 v23 h22 Hc) ?_
      cases H
    rw [if_neg q6] at H
    by_cases q7 : a2 = 7
    · rw [if_pos q7] at H
      refine jr_table (tgt := 107) dX10_word_17 (90) (by rw [q7]; decide) (by decide) (by decide) (by decide) ?_
      refine jr_aload_n dX10_word_107 rfl rfl ?_
      refine jr_getR fl_RX10_26 dX10_word_108 H (fun v24 H => ?_)
      refine jr_iload_n dX10_word_111 rfl rfl ?_
      refine jr_iload_n dX10_word_112 rfl rfl ?_
      refine jr_iconst (v := 4) dX10_word_113 (by decide) ?_
      refine jr_isub dX10_word_114 ?_
      obtain ⟨v26, h25, Hc, H⟩ := j_b2_some H
      refine jr_callV (ci := 3) [.int a1, .int (a2 - (4 : Int32))] my_X3_heardIn mv_X3_heardIn ml_RX10_155 dX10_word_115 rfl rfl (Nat.le_of_ble_eq_true rfl) rfl (c_X3_heardIn l (d + 5) F v24 a1 (a2 - (4 : Int32)) h1 v26 h25 Hc) ?_
      cases H
    rw [if_neg q7] at H
    by_cases q8 : a2 = 8
    · rw [if_pos q8] at H
      refine jr_table (tgt := 107) dX10_word_17 (90) (by rw [q8]; decide) (by decide) (by decide) (by decide) ?_
      refine jr_aload_n dX10_word_107 rfl rfl ?_
      refine jr_getR fl_RX10_26 dX10_word_108 H (fun v27 H => ?_)
      refine jr_iload_n dX10_word_111 rfl rfl ?_
      refine jr_iload_n dX10_word_112 rfl rfl ?_
      refine jr_iconst (v := 4) dX10_word_113 (by decide) ?_
      refine jr_isub dX10_word_114 ?_
      obtain ⟨v29, h28, Hc, H⟩ := j_b2_some H
      refine jr_callV (ci := 3) [.int a1, .int (a2 - (4 : Int32))] my_X3_heardIn mv_X3_heardIn ml_RX10_155 dX10_word_115 rfl rfl (Nat.le_of_ble_eq_true rfl) rfl (c_X3_heardIn l (d + 5) F v27 a1 (a2 - (4 : Int32)) h1 v29 h28 Hc) ?_
      cases H
    rw [if_neg q8] at H
    have hdef : (if a2.toInt < 0 ∨ 8 < a2.toInt then (102 : Int) else (#[51, 61, 70, 80, 90, 90, 90, 90, 90] : Array Int).getD (a2.toInt - 0).toNat 102) = 102 := by
      have w0 := lv_neT q0 (show (0 : Int32).toInt = 0 from rfl)
      have w1 := lv_neT q1 (show (1 : Int32).toInt = 1 from rfl)
      have w2 := lv_neT q2 (show (2 : Int32).toInt = 2 from rfl)
      have w3 := lv_neT q3 (show (3 : Int32).toInt = 3 from rfl)
      have w4 := lv_neT q4 (show (4 : Int32).toInt = 4 from rfl)
      have w5 := lv_neT q5 (show (5 : Int32).toInt = 5 from rfl)
      have w6 := lv_neT q6 (show (6 : Int32).toInt = 6 from rfl)
      have w7 := lv_neT q7 (show (7 : Int32).toInt = 7 from rfl)
      have w8 := lv_neT q8 (show (8 : Int32).toInt = 8 from rfl)
      by_cases hx : a2.toInt < 0 ∨ 8 < a2.toInt
      · rw [if_pos hx]
      · rw [if_neg hx]
        omega
    refine jr_table (tgt := 119) dX10_word_17 (102) hdef (by decide) (by decide) (by decide) ?_
    exact jr_throw0 hlt rfl tw_k tw_i tw_a tw_g dX10_word_119 dX10_word_122 dX10_word_123 dX10_word_126 (Nat.le_of_ble_eq_true rfl) H
set_option maxRecDepth 100000 in
set_option maxHeartbeats 4000000 in
theorem c_X10_isTraveller (l : Launch) (d : Nat) (F : Nat) (a0 : Nat) (a1 : Int32) (h : jH) (rR : Int32) (hf : jH) (H : f_X10_isTraveller F a0 a1 h = some (rR, hf)) : jh_sh h a0 = (10, 0) ∧ jMet l (d + 0) yX10_isTraveller cX10_isTraveller 2 (some .boolean) [.ref a0, .int a1] h (some (.int rR)) hf := by
  unfold f_X10_isTraveller at H
  obtain ⟨hsh, H⟩ := j_gd_some H
  refine ⟨hsh, ?_⟩
  refine jMet.of false [some (.ref a0), some (.int a1)] rfl (by decide) (by decide) (Nat.le_of_ble_eq_true rfl) (fun S0 q hq => by simpa [j_l, lv_args, j_v, Value.category] using hq) ?_
  refine jr_iload_n dX10_isTraveller_0 rfl rfl ?_
  refine jr_if_lt (tgt := 16) dX10_isTraveller_1 (by decide) H (fun H => ?_) (fun H => ?_)
  · refine jr_iconst (v := 0) dX10_isTraveller_16 (by decide) ?_
    exact jr_zret rfl rfl dX10_isTraveller_17 H
  · refine jr_iload_n dX10_isTraveller_4 rfl rfl ?_
    refine jr_aload_n dX10_isTraveller_5 rfl rfl ?_
    refine jr_getI fl_RX10_103 (by decide) dX10_isTraveller_6 H (fun v1 H => ?_)
    refine jr_icmp_ge (tgt := 16) dX10_isTraveller_9 (by decide) H (fun H => ?_) (fun H => ?_)
    · refine jr_iconst (v := 0) dX10_isTraveller_16 (by decide) ?_
      exact jr_zret rfl rfl dX10_isTraveller_17 H
    · refine jr_iconst (v := 1) dX10_isTraveller_12 (by decide) ?_
      refine jr_goto (tgt := 17) dX10_isTraveller_13 (by decide) ?_
      exact jr_zret rfl rfl dX10_isTraveller_17 H
set_option maxRecDepth 100000 in
set_option maxHeartbeats 4000000 in
theorem s_X2_of_L4 (l : Launch) (d : Nat) (F : Nat) (x0 : Nat) (x1 : Int32) {rR : Int32} {hf : jH} : ∀ (n : Nat) (x2 : Int32) (x3 : Int32) (h : jH), f_X2_of_L4 F x0 x1 n x2 x3 h = some (rR, hf) → jGo l (d + 0) none RX2 cX2_of 4 (some .int) false 4 [some (.ref x0), some (.int x1), some (.int x2), some (.int x3)] [] h (some (.int rR)) hf := by
  intro n
  induction n with
  | zero =>
    intro x2 x3 h H
    cases H
  | succ n ih =>
    intro x2 x3 h H
    unfold f_X2_of_L4 at H
    refine jr_iload_n dX2_of_4 rfl rfl ?_
    refine jr_aload_n dX2_of_5 rfl rfl ?_
    refine jr_getI fl_RX2_41 (by decide) dX2_of_6 H (fun v1 H => ?_)
    refine jr_icmp_ge (tgt := 34) dX2_of_9 (by decide) H (fun H => ?_) (fun H => ?_)
    · refine jr_iload_n dX2_of_34 rfl rfl ?_
      exact jr_iret rfl dX2_of_35 H
    · refine jr_aload_n dX2_of_12 rfl rfl ?_
      refine jr_getR fl_RX2_9 dX2_of_13 H (fun v2 H => ?_)
      refine jr_iload_n dX2_of_16 rfl rfl ?_
      refine jr_iald dX2_of_17 H (fun v3 H => ?_)
      refine jr_iload_n dX2_of_18 rfl rfl ?_
      refine jr_jn (fun J => ∀ (z4 : Int32) (h5 : jH), J z4 h5 = some (rR, hf) → jGo l (d + 0) none RX2 cX2_of 4 (some .int) false 28 [some (.ref x0), some (.int x1), some (.int z4), some (.int x3)] [] h5 (some (.int rR)) hf) H (fun z4 h5 H => ?_) (fun J28 hJ28 H => ?_)
      · refine jr_iinc (v := (x3 + 1)) dX2_of_28 rfl rfl (by decide) rfl (Or.inl rfl) ?_
        refine jr_goto (tgt := 4) dX2_of_31 (by decide) ?_
        exact ih _ _ _ H
      · refine jr_icmp_ne (tgt := 28) dX2_of_19 (by decide) H (fun H => ?_) (fun H => ?_)
        · refine jr_iload_n dX2_of_22 rfl rfl ?_
          refine jr_iconst (v := 1) dX2_of_23 (by decide) ?_
          refine jr_iload_n dX2_of_24 rfl rfl ?_
          refine jr_ishl dX2_of_25 ?_
          refine jr_ior dX2_of_26 ?_
          refine jr_istore_n dX2_of_27 rfl (by decide) rfl (Or.inl rfl) ?_
          exact hJ28 _ _ H
        · exact hJ28 _ _ H
set_option maxRecDepth 100000 in
set_option maxHeartbeats 4000000 in
theorem c_X2_of (l : Launch) (d : Nat) (F : Nat) (a0 : Nat) (a1 : Int32) (h : jH) (rR : Int32) (hf : jH) (H : f_X2_of F a0 a1 h = some (rR, hf)) : jh_sh h a0 = (2, 0) ∧ jMet l (d + 0) yX2_of cX2_of 4 (some .int) [.ref a0, .int a1] h (some (.int rR)) hf := by
  unfold f_X2_of at H
  obtain ⟨hsh, H⟩ := j_gd_some H
  refine ⟨hsh, ?_⟩
  refine jMet.of false [some (.ref a0), some (.int a1), none, none] rfl (by decide) (by decide) (Nat.le_of_ble_eq_true rfl) (fun S0 q hq => by simpa [j_l, lv_args, j_v, Value.category] using hq) ?_
  refine jr_iconst (v := 0) dX2_of_0 (by decide) ?_
  refine jr_istore_n dX2_of_1 rfl (by decide) rfl (Or.inl rfl) ?_
  refine jr_iconst (v := 0) dX2_of_2 (by decide) ?_
  refine jr_istore_n dX2_of_3 rfl (by decide) rfl (Or.inl rfl) ?_
  exact s_X2_of_L4 l d F a0 a1 F 0 0 h H
set_option maxRecDepth 100000 in
set_option maxHeartbeats 4000000 in
theorem s_X2_sumOf_L5 (l : Launch) (d : Nat) (F : Nat) (x0 : Nat) (x1 : Nat) (x2 : Int32) {rR : Int32} {hf : jH} : ∀ (n : Nat) (x3 : Int32) (x4 : Int32) (h : jH), f_X2_sumOf_L5 F x0 x1 x2 n x3 x4 h = some (rR, hf) → jGo l (d + 0) none RX2 cX2_sumOf 5 (some .int) false 5 [some (.ref x0), some (.ref x1), some (.int x2), some (.int x3), some (.int x4)] [] h (some (.int rR)) hf := by
  intro n
  induction n with
  | zero =>
    intro x3 x4 h H
    cases H
  | succ n ih =>
    intro x3 x4 h H
    unfold f_X2_sumOf_L5 at H
    refine jr_iload dX2_sumOf_5 rfl ?_
    refine jr_aload_n dX2_sumOf_7 rfl rfl ?_
    refine jr_getI fl_RX2_41 (by decide) dX2_sumOf_8 H (fun v1 H => ?_)
    refine jr_icmp_ge (tgt := 34) dX2_sumOf_11 (by decide) H (fun H => ?_) (fun H => ?_)
    · refine jr_iload_n dX2_sumOf_34 rfl rfl ?_
      exact jr_iret rfl dX2_sumOf_35 H
    · refine jr_iload_n dX2_sumOf_14 rfl rfl ?_
      refine jr_iload_n dX2_sumOf_15 rfl rfl ?_
      refine jr_iload dX2_sumOf_16 rfl ?_
      refine jr_ishr dX2_sumOf_18 ?_
      refine jr_iconst (v := 1) dX2_sumOf_19 (by decide) ?_
      refine jr_iand dX2_sumOf_20 ?_
      refine jr_aload_n dX2_sumOf_21 rfl rfl ?_
      refine jr_iload dX2_sumOf_22 rfl ?_
      refine jr_iald dX2_sumOf_24 H (fun v2 H => ?_)
      refine jr_imul dX2_sumOf_25 ?_
      refine jr_iadd dX2_sumOf_26 ?_
      refine jr_istore_n dX2_sumOf_27 rfl (by decide) rfl (Or.inl rfl) ?_
      refine jr_iinc (v := (x4 + 1)) dX2_sumOf_28 rfl rfl (by decide) rfl (Or.inl rfl) ?_
      refine jr_goto (tgt := 5) dX2_sumOf_31 (by decide) ?_
      exact ih _ _ _ H
set_option maxRecDepth 100000 in
set_option maxHeartbeats 4000000 in
theorem c_X2_sumOf (l : Launch) (d : Nat) (F : Nat) (a0 : Nat) (a1 : Nat) (a2 : Int32) (h : jH) (rR : Int32) (hf : jH) (H : f_X2_sumOf F a0 a1 a2 h = some (rR, hf)) : jh_sh h a0 = (2, 0) ∧ jMet l (d + 0) yX2_sumOf cX2_sumOf 5 (some .int) [.ref a0, .ref a1, .int a2] h (some (.int rR)) hf := by
  unfold f_X2_sumOf at H
  obtain ⟨hsh, H⟩ := j_gd_some H
  refine ⟨hsh, ?_⟩
  refine jMet.of false [some (.ref a0), some (.ref a1), some (.int a2), none, none] rfl (by decide) (by decide) (Nat.le_of_ble_eq_true rfl) (fun S0 q hq => by simpa [j_l, lv_args, j_v, Value.category] using hq) ?_
  refine jr_iconst (v := 0) dX2_sumOf_0 (by decide) ?_
  refine jr_istore_n dX2_sumOf_1 rfl (by decide) rfl (Or.inl rfl) ?_
  refine jr_iconst (v := 0) dX2_sumOf_2 (by decide) ?_
  refine jr_istore dX2_sumOf_3 (by decide) rfl (Or.inl rfl) ?_
  exact s_X2_sumOf_L5 l d F a0 a1 a2 F 0 0 h H
set_option maxRecDepth 100000 in
set_option maxHeartbeats 4000000 in
theorem c_X10_traveller (l : Launch) (d : Nat) (F : Nat) (a0 : Nat) (a1 : Int32) (a2 : Int32) (h : jH) (rR : Int32) (hf : jH) (H : f_X10_traveller F a0 a1 a2 h = some (some rR, hf)) : jh_sh h a0 = (10, 0) ∧ jMet l (d + 6) yX10_traveller cX10_traveller 3 (some .int) [.ref a0, .int a1, .int a2] h (some (.int rR)) hf := by
  unfold f_X10_traveller at H
  obtain ⟨hsh, H⟩ := j_gd_some H
  refine ⟨hsh, ?_⟩
  refine jMet.of false [some (.ref a0), some (.int a1), some (.int a2)] rfl (by decide) (by decide) (Nat.le_of_ble_eq_true rfl) (fun S0 q hq => by simpa [j_l, lv_args, j_v, Value.category] using hq) ?_
  refine jr_aload_n dX10_traveller_0 rfl rfl ?_
  refine jr_iload_n dX10_traveller_1 rfl rfl ?_
  obtain ⟨v2, h1, Hc, H⟩ := j_b2_some H
  refine jr_callV (ci := 10) [.int a1] my_X10_isTraveller mv_X10_isTraveller ml_RX10_159 dX10_traveller_2 rfl rfl (Nat.le_of_ble_eq_true rfl) rfl (c_X10_isTraveller l (d + 5) F a0 a1 h v2 h1 Hc) ?_
  refine jr_if_ne (tgt := 16) dX10_traveller_5 (by decide) H (fun H => ?_) (fun H => ?_)
  · cases H
  · refine jr_iload_n dX10_traveller_16 rfl rfl ?_
    by_cases q0 : a2 = 0
    · rw [if_pos q0] at H
      refine jr_table (tgt := 52) dX10_traveller_17 (35) (by rw [q0]; decide) (by decide) (by decide) (by decide) ?_
      refine jr_aload_n dX10_traveller_52 rfl rfl ?_
      refine jr_getR fl_RX10_40 dX10_traveller_53 H (fun v3 H => ?_)
      refine jr_getR fl_RX10_162 dX10_traveller_56 H (fun v4 H => ?_)
      refine jr_iload_n dX10_traveller_59 rfl rfl ?_
      refine jr_iald dX10_traveller_60 H (fun v5 H => ?_)
      exact jr_iret rfl dX10_traveller_61 (by cases H; rfl)
    rw [if_neg q0] at H
    by_cases q1 : a2 = 1
    · rw [if_pos q1] at H
      refine jr_table (tgt := 62) dX10_traveller_17 (45) (by rw [q1]; decide) (by decide) (by decide) (by decide) ?_
      refine jr_aload_n dX10_traveller_62 rfl rfl ?_
      refine jr_getR fl_RX10_40 dX10_traveller_63 H (fun v6 H => ?_)
      refine jr_getR fl_RX10_165 dX10_traveller_66 H (fun v7 H => ?_)
      refine jr_iload_n dX10_traveller_69 rfl rfl ?_
      refine jr_iald dX10_traveller_70 H (fun v8 H => ?_)
      exact jr_iret rfl dX10_traveller_71 (by cases H; rfl)
    rw [if_neg q1] at H
    by_cases q2 : a2 = 2
    · rw [if_pos q2] at H
      refine jr_table (tgt := 72) dX10_traveller_17 (55) (by rw [q2]; decide) (by decide) (by decide) (by decide) ?_
      refine jr_aload_n dX10_traveller_72 rfl rfl ?_
      refine jr_getR fl_RX10_40 dX10_traveller_73 H (fun v9 H => ?_)
      refine jr_getR fl_RX10_168 dX10_traveller_76 H (fun v10 H => ?_)
      refine jr_iload_n dX10_traveller_79 rfl rfl ?_
      refine jr_iald dX10_traveller_80 H (fun v11 H => ?_)
      exact jr_iret rfl dX10_traveller_81 (by cases H; rfl)
    rw [if_neg q2] at H
    by_cases q3 : a2 = 3
    · rw [if_pos q3] at H
      refine jr_table (tgt := 82) dX10_traveller_17 (65) (by rw [q3]; decide) (by decide) (by decide) (by decide) ?_
      refine jr_aload_n dX10_traveller_82 rfl rfl ?_
      refine jr_getR fl_RX10_33 dX10_traveller_83 H (fun v12 H => ?_)
      refine jr_iload_n dX10_traveller_86 rfl rfl ?_
      obtain ⟨v14, h13, Hc, H⟩ := j_b2_some H
      refine jr_callV (ci := 2) [.int a1] my_X2_of mv_X2_of ml_RX10_171 dX10_traveller_87 rfl rfl (Nat.le_of_ble_eq_true rfl) rfl (c_X2_of l (d + 5) F v12 a1 h1 v14 h13 Hc) ?_
      refine jr_aload_n dX10_traveller_90 rfl rfl ?_
      refine jr_getR fl_RX10_40 dX10_traveller_91 H (fun v15 H => ?_)
      refine jr_getI fl_RX10_174 (by decide) dX10_traveller_94 H (fun v16 H => ?_)
      refine jr_iconst (v := (-1)) dX10_traveller_97 (by decide) ?_
      refine jr_ixor dX10_traveller_98 ?_
      refine jr_iand dX10_traveller_99 ?_
      exact jr_iret rfl dX10_traveller_100 (by cases H; rfl)
    rw [if_neg q3] at H
    by_cases q4 : a2 = 4
    · rw [if_pos q4] at H
      refine jr_table (tgt := 101) dX10_traveller_17 (84) (by rw [q4]; decide) (by decide) (by decide) (by decide) ?_
      refine jr_aload_n dX10_traveller_101 rfl rfl ?_
      refine jr_getR fl_RX10_33 dX10_traveller_102 H (fun v17 H => ?_)
      refine jr_aload_n dX10_traveller_105 rfl rfl ?_
      refine jr_getR fl_RX10_33 dX10_traveller_106 H (fun v18 H => ?_)
      refine jr_getR fl_RX10_177 dX10_traveller_109 H (fun v19 H => ?_)
      refine jr_aload_n dX10_traveller_112 rfl rfl ?_
      refine jr_getR fl_RX10_33 dX10_traveller_113 H (fun v20 H => ?_)
      refine jr_iload_n dX10_traveller_116 rfl rfl ?_
      obtain ⟨v22, h21, Hc, H⟩ := j_b2_some H
      refine jr_callV (ci := 2) [.int a1] my_X2_of mv_X2_of ml_RX10_171 dX10_traveller_117 rfl rfl (Nat.le_of_ble_eq_true rfl) rfl (c_X2_of l (d + 5) F v20 a1 h1 v22 h21 Hc) ?_
      refine jr_aload_n dX10_traveller_120 rfl rfl ?_
      refine jr_getR fl_RX10_40 dX10_traveller_121 H (fun v23 H => ?_)
      refine jr_getI fl_RX10_174 (by decide) dX10_traveller_124 H (fun v24 H => ?_)
      refine jr_iand dX10_traveller_127 ?_
      obtain ⟨v26, h25, Hc, H⟩ := j_b2_some H
      refine jr_callV (ci := 2) [.ref v19, .int (v22 &&& v24)] my_X2_sumOf mv_X2_sumOf ml_RX10_180 dX10_traveller_128 rfl rfl (Nat.le_of_ble_eq_true rfl) rfl (c_X2_sumOf l (d + 5) F v17 v19 (v22 &&& v24) h21 v26 h25 Hc) ?_
      exact jr_iret rfl dX10_traveller_131 (by cases H; rfl)
    rw [if_neg q4] at H
    have hdef : (if a2.toInt < 0 ∨ 4 < a2.toInt then (115 : Int) else (#[35, 45, 55, 65, 84] : Array Int).getD (a2.toInt - 0).toNat 115) = 115 := by
      have w0 := lv_neT q0 (show (0 : Int32).toInt = 0 from rfl)
      have w1 := lv_neT q1 (show (1 : Int32).toInt = 1 from rfl)
      have w2 := lv_neT q2 (show (2 : Int32).toInt = 2 from rfl)
      have w3 := lv_neT q3 (show (3 : Int32).toInt = 3 from rfl)
      have w4 := lv_neT q4 (show (4 : Int32).toInt = 4 from rfl)
      by_cases hx : a2.toInt < 0 ∨ 4 < a2.toInt
      · rw [if_pos hx]
      · rw [if_neg hx]
        omega
    refine jr_table (tgt := 132) dX10_traveller_17 (115) hdef (by decide) (by decide) (by decide) ?_
    cases H
set_option maxRecDepth 100000 in
set_option maxHeartbeats 4000000 in
theorem ct_X10_traveller (l : Launch) (d : Nat) (hlt : l.stackTraces = false) (F : Nat) (a0 : Nat) (a1 : Int32) (a2 : Int32) (h : jH) (hf : jH) (H : f_X10_traveller F a0 a1 a2 h = some ((none : Option Int32), hf)) : jh_sh h a0 = (10, 0) ∧ jMetX l (d + 6) yX10_traveller cX10_traveller 3 (some .int) [.ref a0, .int a1, .int a2] h hf := by
  unfold f_X10_traveller at H
  obtain ⟨hsh, H⟩ := j_gd_some H
  refine ⟨hsh, ?_⟩
  refine jMetX.of [some (.ref a0), some (.int a1), some (.int a2)] (by decide) (Nat.le_of_ble_eq_true rfl) (fun S0 q hq => by simpa [j_l, lv_args, j_v, Value.category] using hq) ?_
  refine jr_aload_n dX10_traveller_0 rfl rfl ?_
  refine jr_iload_n dX10_traveller_1 rfl rfl ?_
  obtain ⟨v2, h1, Hc, H⟩ := j_b2_some H
  refine jr_callV (ci := 10) [.int a1] my_X10_isTraveller mv_X10_isTraveller ml_RX10_159 dX10_traveller_2 rfl rfl (Nat.le_of_ble_eq_true rfl) rfl (c_X10_isTraveller l (d + 5) F a0 a1 h v2 h1 Hc) ?_
  refine jr_if_ne (tgt := 16) dX10_traveller_5 (by decide) H (fun H => ?_) (fun H => ?_)
  · exact jr_throw0 hlt rfl tw_k tw_i tw_a tw_g dX10_traveller_8 dX10_traveller_11 dX10_traveller_12 dX10_traveller_15 (Nat.le_of_ble_eq_true rfl) H
  · refine jr_iload_n dX10_traveller_16 rfl rfl ?_
    by_cases q0 : a2 = 0
    · rw [if_pos q0] at H
      refine jr_table (tgt := 52) dX10_traveller_17 (35) (by rw [q0]; decide) (by decide) (by decide) (by decide) ?_
      refine jr_aload_n dX10_traveller_52 rfl rfl ?_
      refine jr_getR fl_RX10_40 dX10_traveller_53 H (fun v3 H => ?_)
      refine jr_getR fl_RX10_162 dX10_traveller_56 H (fun v4 H => ?_)
      refine jr_iload_n dX10_traveller_59 rfl rfl ?_
      refine jr_iald dX10_traveller_60 H (fun v5 H => ?_)
      cases H
    rw [if_neg q0] at H
    by_cases q1 : a2 = 1
    · rw [if_pos q1] at H
      refine jr_table (tgt := 62) dX10_traveller_17 (45) (by rw [q1]; decide) (by decide) (by decide) (by decide) ?_
      refine jr_aload_n dX10_traveller_62 rfl rfl ?_
      refine jr_getR fl_RX10_40 dX10_traveller_63 H (fun v6 H => ?_)
      refine jr_getR fl_RX10_165 dX10_traveller_66 H (fun v7 H => ?_)
      refine jr_iload_n dX10_traveller_69 rfl rfl ?_
      refine jr_iald dX10_traveller_70 H (fun v8 H => ?_)
      cases H
    rw [if_neg q1] at H
    by_cases q2 : a2 = 2
    · rw [if_pos q2] at H
      refine jr_table (tgt := 72) dX10_traveller_17 (55) (by rw [q2]; decide) (by decide) (by decide) (by decide) ?_
      refine jr_aload_n dX10_traveller_72 rfl rfl ?_
      refine jr_getR fl_RX10_40 dX10_traveller_73 H (fun v9 H => ?_)
      refine jr_getR fl_RX10_168 dX10_traveller_76 H (fun v10 H => ?_)
      refine jr_iload_n dX10_traveller_79 rfl rfl ?_
      refine jr_iald dX10_traveller_80 H (fun v11 H => ?_)
      cases H
    rw [if_neg q2] at H
    by_cases q3 : a2 = 3
    · rw [if_pos q3] at H
      refine jr_table (tgt := 82) dX10_traveller_17 (65) (by rw [q3]; decide) (by decide) (by decide) (by decide) ?_
      refine jr_aload_n dX10_traveller_82 rfl rfl ?_
      refine jr_getR fl_RX10_33 dX10_traveller_83 H (fun v12 H => ?_)
      refine jr_iload_n dX10_traveller_86 rfl rfl ?_
      obtain ⟨v14, h13, Hc, H⟩ := j_b2_some H
      refine jr_callV (ci := 2) [.int a1] my_X2_of mv_X2_of ml_RX10_171 dX10_traveller_87 rfl rfl (Nat.le_of_ble_eq_true rfl) rfl (c_X2_of l (d + 5) F v12 a1 h1 v14 h13 Hc) ?_
      refine jr_aload_n dX10_traveller_90 rfl rfl ?_
      refine jr_getR fl_RX10_40 dX10_traveller_91 H (fun v15 H => ?_)
      refine jr_getI fl_RX10_174 (by decide) dX10_traveller_94 H (fun v16 H => ?_)
      refine jr_iconst (v := (-1)) dX10_traveller_97 (by decide) ?_
      refine jr_ixor dX10_traveller_98 ?_
      refine jr_iand dX10_traveller_99 ?_
      cases H
    rw [if_neg q3] at H
    by_cases q4 : a2 = 4
    · rw [if_pos q4] at H
      refine jr_table (tgt := 101) dX10_traveller_17 (84) (by rw [q4]; decide) (by decide) (by decide) (by decide) ?_
      refine jr_aload_n dX10_traveller_101 rfl rfl ?_
      refine jr_getR fl_RX10_33 dX10_traveller_102 H (fun v17 H => ?_)
      refine jr_aload_n dX10_traveller_105 rfl rfl ?_
      refine jr_getR fl_RX10_33 dX10_traveller_106 H (fun v18 H => ?_)
      refine jr_getR fl_RX10_177 dX10_traveller_109 H (fun v19 H => ?_)
      refine jr_aload_n dX10_traveller_112 rfl rfl ?_
      refine jr_getR fl_RX10_33 dX10_traveller_113 H (fun v20 H => ?_)
      refine jr_iload_n dX10_traveller_116 rfl rfl ?_
      obtain ⟨v22, h21, Hc, H⟩ := j_b2_some H
      refine jr_callV (ci := 2) [.int a1] my_X2_of mv_X2_of ml_RX10_171 dX10_traveller_117 rfl rfl (Nat.le_of_ble_eq_true rfl) rfl (c_X2_of l (d + 5) F v20 a1 h1 v22 h21 Hc) ?_
      refine jr_aload_n dX10_traveller_120 rfl rfl ?_
      refine jr_getR fl_RX10_40 dX10_traveller_121 H (fun v23 H => ?_)
      refine jr_getI fl_RX10_174 (by decide) dX10_traveller_124 H (fun v24 H => ?_)
      refine jr_iand dX10_traveller_127 ?_
      obtain ⟨v26, h25, Hc, H⟩ := j_b2_some H
      refine jr_callV (ci := 2) [.ref v19, .int (v22 &&& v24)] my_X2_sumOf mv_X2_sumOf ml_RX10_180 dX10_traveller_128 rfl rfl (Nat.le_of_ble_eq_true rfl) rfl (c_X2_sumOf l (d + 5) F v17 v19 (v22 &&& v24) h21 v26 h25 Hc) ?_
      cases H
    rw [if_neg q4] at H
    have hdef : (if a2.toInt < 0 ∨ 4 < a2.toInt then (115 : Int) else (#[35, 45, 55, 65, 84] : Array Int).getD (a2.toInt - 0).toNat 115) = 115 := by
      have w0 := lv_neT q0 (show (0 : Int32).toInt = 0 from rfl)
      have w1 := lv_neT q1 (show (1 : Int32).toInt = 1 from rfl)
      have w2 := lv_neT q2 (show (2 : Int32).toInt = 2 from rfl)
      have w3 := lv_neT q3 (show (3 : Int32).toInt = 3 from rfl)
      have w4 := lv_neT q4 (show (4 : Int32).toInt = 4 from rfl)
      by_cases hx : a2.toInt < 0 ∨ 4 < a2.toInt
      · rw [if_pos hx]
      · rw [if_neg hx]
        omega
    refine jr_table (tgt := 132) dX10_traveller_17 (115) hdef (by decide) (by decide) (by decide) ?_
    exact jr_throw0 hlt rfl tw_k tw_i tw_a tw_g dX10_traveller_132 dX10_traveller_135 dX10_traveller_136 dX10_traveller_139 (Nat.le_of_ble_eq_true rfl) H
set_option maxRecDepth 100000 in
set_option maxHeartbeats 4000000 in
theorem c_X10_errand (l : Launch) (d : Nat) (F : Nat) (a0 : Nat) (a1 : Int32) (a2 : Int32) (h : jH) (rR : Int32) (hf : jH) (H : f_X10_errand F a0 a1 a2 h = some (some rR, hf)) : jh_sh h a0 = (10, 0) ∧ jMet l (d + 6) yX10_errand cX10_errand 3 (some .int) [.ref a0, .int a1, .int a2] h (some (.int rR)) hf := by
  unfold f_X10_errand at H
  obtain ⟨hsh, H⟩ := j_gd_some H
  refine ⟨hsh, ?_⟩
  refine jMet.of false [some (.ref a0), some (.int a1), some (.int a2)] rfl (by decide) (by decide) (Nat.le_of_ble_eq_true rfl) (fun S0 q hq => by simpa [j_l, lv_args, j_v, Value.category] using hq) ?_
  refine jr_iload_n dX10_errand_0 rfl rfl ?_
  refine jr_jn (fun J => ∀ (h1 : jH), J h1 = some (some rR, hf) → jGo l (d + 6) none RX10 cX10_errand 3 (some .int) false 15 [none, none, none] [] h1 (some (.int rR)) hf) H (fun h1 H => ?_) (fun J15 hJ15 H => ?_)
  · cases H
  · refine jr_if_lt (tgt := 15) dX10_errand_1 (by decide) H (fun H => ?_) (fun H => ?_)
    · refine jr_fgt 0 ?_
      refine jr_fgt 1 ?_
      refine jr_fgt 2 ?_
      exact hJ15 _ H
    · refine jr_iload_n dX10_errand_4 rfl rfl ?_
      refine jr_aload_n dX10_errand_5 rfl rfl ?_
      refine jr_getR fl_RX10_33 dX10_errand_6 H (fun v2 H => ?_)
      refine jr_getI fl_RX10_132 (by decide) dX10_errand_9 H (fun v3 H => ?_)
      refine jr_icmp_lt (tgt := 23) dX10_errand_12 (by decide) H (fun H => ?_) (fun H => ?_)
      · refine jr_iload_n dX10_errand_23 rfl rfl ?_
        by_cases q0 : a2 = 0
        · rw [if_pos q0] at H
          refine jr_table (tgt := 60) dX10_errand_24 (36) (by rw [q0]; decide) (by decide) (by decide) (by decide) ?_
          refine jr_aload_n dX10_errand_60 rfl rfl ?_
          refine jr_getR fl_RX10_33 dX10_errand_61 H (fun v4 H => ?_)
          refine jr_getR fl_RX10_184 dX10_errand_64 H (fun v5 H => ?_)
          refine jr_iload_n dX10_errand_67 rfl rfl ?_
          refine jr_iald dX10_errand_68 H (fun v6 H => ?_)
          exact jr_iret rfl dX10_errand_69 (by cases H; rfl)
        rw [if_neg q0] at H
        by_cases q1 : a2 = 1
        · rw [if_pos q1] at H
          refine jr_table (tgt := 70) dX10_errand_24 (46) (by rw [q1]; decide) (by decide) (by decide) (by decide) ?_
          refine jr_aload_n dX10_errand_70 rfl rfl ?_
          refine jr_getR fl_RX10_33 dX10_errand_71 H (fun v7 H => ?_)
          refine jr_getR fl_RX10_187 dX10_errand_74 H (fun v8 H => ?_)
          refine jr_iload_n dX10_errand_77 rfl rfl ?_
          refine jr_iald dX10_errand_78 H (fun v9 H => ?_)
          exact jr_iret rfl dX10_errand_79 (by cases H; rfl)
        rw [if_neg q1] at H
        by_cases q2 : a2 = 2
        · rw [if_pos q2] at H
          refine jr_table (tgt := 80) dX10_errand_24 (56) (by rw [q2]; decide) (by decide) (by decide) (by decide) ?_
          refine jr_aload_n dX10_errand_80 rfl rfl ?_
          refine jr_getR fl_RX10_33 dX10_errand_81 H (fun v10 H => ?_)
          refine jr_getR fl_RX10_190 dX10_errand_84 H (fun v11 H => ?_)
          refine jr_iload_n dX10_errand_87 rfl rfl ?_
          refine jr_iald dX10_errand_88 H (fun v12 H => ?_)
          exact jr_iret rfl dX10_errand_89 (by cases H; rfl)
        rw [if_neg q2] at H
        by_cases q3 : a2 = 3
        · rw [if_pos q3] at H
          refine jr_table (tgt := 90) dX10_errand_24 (66) (by rw [q3]; decide) (by decide) (by decide) (by decide) ?_
          refine jr_aload_n dX10_errand_90 rfl rfl ?_
          refine jr_getR fl_RX10_33 dX10_errand_91 H (fun v13 H => ?_)
          refine jr_getR fl_RX10_177 dX10_errand_94 H (fun v14 H => ?_)
          refine jr_iload_n dX10_errand_97 rfl rfl ?_
          refine jr_iald dX10_errand_98 H (fun v15 H => ?_)
          exact jr_iret rfl dX10_errand_99 (by cases H; rfl)
        rw [if_neg q3] at H
        by_cases q4 : a2 = 4
        · rw [if_pos q4] at H
          refine jr_table (tgt := 100) dX10_errand_24 (76) (by rw [q4]; decide) (by decide) (by decide) (by decide) ?_
          refine jr_aload_n dX10_errand_100 rfl rfl ?_
          refine jr_getR fl_RX10_40 dX10_errand_101 H (fun v16 H => ?_)
          refine jr_getI fl_RX10_174 (by decide) dX10_errand_104 H (fun v17 H => ?_)
          refine jr_iload_n dX10_errand_107 rfl rfl ?_
          refine jr_ishr dX10_errand_108 ?_
          refine jr_iconst (v := 1) dX10_errand_109 (by decide) ?_
          refine jr_iand dX10_errand_110 ?_
          exact jr_iret rfl dX10_errand_111 (by cases H; rfl)
        rw [if_neg q4] at H
        have hdef : (if a2.toInt < 0 ∨ 4 < a2.toInt then (88 : Int) else (#[36, 46, 56, 66, 76] : Array Int).getD (a2.toInt - 0).toNat 88) = 88 := by
          have w0 := lv_neT q0 (show (0 : Int32).toInt = 0 from rfl)
          have w1 := lv_neT q1 (show (1 : Int32).toInt = 1 from rfl)
          have w2 := lv_neT q2 (show (2 : Int32).toInt = 2 from rfl)
          have w3 := lv_neT q3 (show (3 : Int32).toInt = 3 from rfl)
          have w4 := lv_neT q4 (show (4 : Int32).toInt = 4 from rfl)
          by_cases hx : a2.toInt < 0 ∨ 4 < a2.toInt
          · rw [if_pos hx]
          · rw [if_neg hx]
            omega
        refine jr_table (tgt := 112) dX10_errand_24 (88) hdef (by decide) (by decide) (by decide) ?_
        cases H
      · refine jr_fgt 0 ?_
        refine jr_fgt 1 ?_
        refine jr_fgt 2 ?_
        exact hJ15 _ H
set_option maxRecDepth 100000 in
set_option maxHeartbeats 4000000 in
theorem ct_X10_errand (l : Launch) (d : Nat) (hlt : l.stackTraces = false) (F : Nat) (a0 : Nat) (a1 : Int32) (a2 : Int32) (h : jH) (hf : jH) (H : f_X10_errand F a0 a1 a2 h = some ((none : Option Int32), hf)) : jh_sh h a0 = (10, 0) ∧ jMetX l (d + 6) yX10_errand cX10_errand 3 (some .int) [.ref a0, .int a1, .int a2] h hf := by
  unfold f_X10_errand at H
  obtain ⟨hsh, H⟩ := j_gd_some H
  refine ⟨hsh, ?_⟩
  refine jMetX.of [some (.ref a0), some (.int a1), some (.int a2)] (by decide) (Nat.le_of_ble_eq_true rfl) (fun S0 q hq => by simpa [j_l, lv_args, j_v, Value.category] using hq) ?_
  refine jr_iload_n dX10_errand_0 rfl rfl ?_
  refine jr_jn (fun J => ∀ (h1 : jH), J h1 = some ((none : Option Int32), hf) → jGo l (d + 6) (some (.inl [])) RX10 cX10_errand 3 (some .int) false 15 [none, none, none] [] h1 (some (.retAddr 0)) hf) H (fun h1 H => ?_) (fun J15 hJ15 H => ?_)
  · exact jr_throw0 hlt rfl tw_k tw_i tw_a tw_g dX10_errand_15 dX10_errand_18 dX10_errand_19 dX10_errand_22 (Nat.le_of_ble_eq_true rfl) H
  · refine jr_if_lt (tgt := 15) dX10_errand_1 (by decide) H (fun H => ?_) (fun H => ?_)
    · refine jr_fgt 0 ?_
      refine jr_fgt 1 ?_
      refine jr_fgt 2 ?_
      exact hJ15 _ H
    · refine jr_iload_n dX10_errand_4 rfl rfl ?_
      refine jr_aload_n dX10_errand_5 rfl rfl ?_
      refine jr_getR fl_RX10_33 dX10_errand_6 H (fun v2 H => ?_)
      refine jr_getI fl_RX10_132 (by decide) dX10_errand_9 H (fun v3 H => ?_)
      refine jr_icmp_lt (tgt := 23) dX10_errand_12 (by decide) H (fun H => ?_) (fun H => ?_)
      · refine jr_iload_n dX10_errand_23 rfl rfl ?_
        by_cases q0 : a2 = 0
        · rw [if_pos q0] at H
          refine jr_table (tgt := 60) dX10_errand_24 (36) (by rw [q0]; decide) (by decide) (by decide) (by decide) ?_
          refine jr_aload_n dX10_errand_60 rfl rfl ?_
          refine jr_getR fl_RX10_33 dX10_errand_61 H (fun v4 H => ?_)
          refine jr_getR fl_RX10_184 dX10_errand_64 H (fun v5 H => ?_)
          refine jr_iload_n dX10_errand_67 rfl rfl ?_
          refine jr_iald dX10_errand_68 H (fun v6 H => ?_)
          cases H
        rw [if_neg q0] at H
        by_cases q1 : a2 = 1
        · rw [if_pos q1] at H
          refine jr_table (tgt := 70) dX10_errand_24 (46) (by rw [q1]; decide) (by decide) (by decide) (by decide) ?_
          refine jr_aload_n dX10_errand_70 rfl rfl ?_
          refine jr_getR fl_RX10_33 dX10_errand_71 H (fun v7 H => ?_)
          refine jr_getR fl_RX10_187 dX10_errand_74 H (fun v8 H => ?_)
          refine jr_iload_n dX10_errand_77 rfl rfl ?_
          refine jr_iald dX10_errand_78 H (fun v9 H => ?_)
          cases H
        rw [if_neg q1] at H
        by_cases q2 : a2 = 2
        · rw [if_pos q2] at H
          refine jr_table (tgt := 80) dX10_errand_24 (56) (by rw [q2]; decide) (by decide) (by decide) (by decide) ?_
          refine jr_aload_n dX10_errand_80 rfl rfl ?_
          refine jr_getR fl_RX10_33 dX10_errand_81 H (fun v10 H => ?_)
          refine jr_getR fl_RX10_190 dX10_errand_84 H (fun v11 H => ?_)
          refine jr_iload_n dX10_errand_87 rfl rfl ?_
          refine jr_iald dX10_errand_88 H (fun v12 H => ?_)
          cases H
        rw [if_neg q2] at H
        by_cases q3 : a2 = 3
        · rw [if_pos q3] at H
          refine jr_table (tgt := 90) dX10_errand_24 (66) (by rw [q3]; decide) (by decide) (by decide) (by decide) ?_
          refine jr_aload_n dX10_errand_90 rfl rfl ?_
          refine jr_getR fl_RX10_33 dX10_errand_91 H (fun v13 H => ?_)
          refine jr_getR fl_RX10_177 dX10_errand_94 H (fun v14 H => ?_)
          refine jr_iload_n dX10_errand_97 rfl rfl ?_
          refine jr_iald dX10_errand_98 H (fun v15 H => ?_)
          cases H
        rw [if_neg q3] at H
        by_cases q4 : a2 = 4
        · rw [if_pos q4] at H
          refine jr_table (tgt := 100) dX10_errand_24 (76) (by rw [q4]; decide) (by decide) (by decide) (by decide) ?_
          refine jr_aload_n dX10_errand_100 rfl rfl ?_
          refine jr_getR fl_RX10_40 dX10_errand_101 H (fun v16 H => ?_)
          refine jr_getI fl_RX10_174 (by decide) dX10_errand_104 H (fun v17 H => ?_)
          refine jr_iload_n dX10_errand_107 rfl rfl ?_
          refine jr_ishr dX10_errand_108 ?_
          refine jr_iconst (v := 1) dX10_errand_109 (by decide) ?_
          refine jr_iand dX10_errand_110 ?_
          cases H
        rw [if_neg q4] at H
        have hdef : (if a2.toInt < 0 ∨ 4 < a2.toInt then (88 : Int) else (#[36, 46, 56, 66, 76] : Array Int).getD (a2.toInt - 0).toNat 88) = 88 := by
          have w0 := lv_neT q0 (show (0 : Int32).toInt = 0 from rfl)
          have w1 := lv_neT q1 (show (1 : Int32).toInt = 1 from rfl)
          have w2 := lv_neT q2 (show (2 : Int32).toInt = 2 from rfl)
          have w3 := lv_neT q3 (show (3 : Int32).toInt = 3 from rfl)
          have w4 := lv_neT q4 (show (4 : Int32).toInt = 4 from rfl)
          by_cases hx : a2.toInt < 0 ∨ 4 < a2.toInt
          · rw [if_pos hx]
          · rw [if_neg hx]
            omega
        refine jr_table (tgt := 112) dX10_errand_24 (88) hdef (by decide) (by decide) (by decide) ?_
        exact jr_throw0 hlt rfl tw_k tw_i tw_a tw_g dX10_errand_112 dX10_errand_115 dX10_errand_116 dX10_errand_119 (Nat.le_of_ble_eq_true rfl) H
      · refine jr_fgt 0 ?_
        refine jr_fgt 1 ?_
        refine jr_fgt 2 ?_
        exact hJ15 _ H
set_option maxRecDepth 100000 in
set_option maxHeartbeats 4000000 in
theorem c_X10_isStation (l : Launch) (d : Nat) (F : Nat) (a0 : Nat) (a1 : Int32) (h : jH) (rR : Int32) (hf : jH) (H : f_X10_isStation F a0 a1 h = some (rR, hf)) : jh_sh h a0 = (10, 0) ∧ jMet l (d + 0) yX10_isStation cX10_isStation 2 (some .boolean) [.ref a0, .int a1] h (some (.int rR)) hf := by
  unfold f_X10_isStation at H
  obtain ⟨hsh, H⟩ := j_gd_some H
  refine ⟨hsh, ?_⟩
  refine jMet.of false [some (.ref a0), some (.int a1)] rfl (by decide) (by decide) (Nat.le_of_ble_eq_true rfl) (fun S0 q hq => by simpa [j_l, lv_args, j_v, Value.category] using hq) ?_
  refine jr_iload_n dX10_isStation_0 rfl rfl ?_
  refine jr_if_lt (tgt := 16) dX10_isStation_1 (by decide) H (fun H => ?_) (fun H => ?_)
  · refine jr_iconst (v := 0) dX10_isStation_16 (by decide) ?_
    exact jr_zret rfl rfl dX10_isStation_17 H
  · refine jr_iload_n dX10_isStation_4 rfl rfl ?_
    refine jr_aload_n dX10_isStation_5 rfl rfl ?_
    refine jr_getI fl_RX10_99 (by decide) dX10_isStation_6 H (fun v1 H => ?_)
    refine jr_icmp_ge (tgt := 16) dX10_isStation_9 (by decide) H (fun H => ?_) (fun H => ?_)
    · refine jr_iconst (v := 0) dX10_isStation_16 (by decide) ?_
      exact jr_zret rfl rfl dX10_isStation_17 H
    · refine jr_iconst (v := 1) dX10_isStation_12 (by decide) ?_
      refine jr_goto (tgt := 17) dX10_isStation_13 (by decide) ?_
      exact jr_zret rfl rfl dX10_isStation_17 H
set_option maxRecDepth 100000 in
set_option maxHeartbeats 4000000 in
theorem c_X10_book (l : Launch) (d : Nat) (F : Nat) (a0 : Nat) (a1 : Int32) (a2 : Int32) (h : jH) (rR : Int32) (hf : jH) (H : f_X10_book F a0 a1 a2 h = some (some rR, hf)) : jh_sh h a0 = (10, 0) ∧ jMet l (d + 6) yX10_book cX10_book 3 (some .int) [.ref a0, .int a1, .int a2] h (some (.int rR)) hf := by
  unfold f_X10_book at H
  obtain ⟨hsh, H⟩ := j_gd_some H
  refine ⟨hsh, ?_⟩
  refine jMet.of false [some (.ref a0), some (.int a1), some (.int a2)] rfl (by decide) (by decide) (Nat.le_of_ble_eq_true rfl) (fun S0 q hq => by simpa [j_l, lv_args, j_v, Value.category] using hq) ?_
  refine jr_aload_n dX10_book_0 rfl rfl ?_
  refine jr_iload_n dX10_book_1 rfl rfl ?_
  obtain ⟨v2, h1, Hc, H⟩ := j_b2_some H
  refine jr_callV (ci := 10) [.int a1] my_X10_isStation mv_X10_isStation ml_RX10_191 dX10_book_2 rfl rfl (Nat.le_of_ble_eq_true rfl) rfl (c_X10_isStation l (d + 5) F a0 a1 h v2 h1 Hc) ?_
  refine jr_jn (fun J => ∀ (h3 : jH), J h3 = some (some rR, hf) → jGo l (d + 6) none RX10 cX10_book 3 (some .int) false 17 [none, none, none] [] h3 (some (.int rR)) hf) H (fun h3 H => ?_) (fun J17 hJ17 H => ?_)
  · cases H
  · refine jr_if_eq (tgt := 17) dX10_book_5 (by decide) H (fun H => ?_) (fun H => ?_)
    · refine jr_fgt 0 ?_
      refine jr_fgt 1 ?_
      refine jr_fgt 2 ?_
      exact hJ17 _ H
    · refine jr_iload_n dX10_book_8 rfl rfl ?_
      refine jr_if_lt (tgt := 17) dX10_book_9 (by decide) H (fun H => ?_) (fun H => ?_)
      · refine jr_fgt 0 ?_
        refine jr_fgt 1 ?_
        refine jr_fgt 2 ?_
        exact hJ17 _ H
      · refine jr_iload_n dX10_book_12 rfl rfl ?_
        refine jr_iconst (v := 5) dX10_book_13 (by decide) ?_
        refine jr_icmp_lt (tgt := 25) dX10_book_14 (by decide) H (fun H => ?_) (fun H => ?_)
        · refine jr_aload_n dX10_book_25 rfl rfl ?_
          refine jr_getR fl_RX10_40 dX10_book_26 H (fun v4 H => ?_)
          refine jr_getR fl_RX10_194 dX10_book_29 H (fun v5 H => ?_)
          refine jr_iload_n dX10_book_32 rfl rfl ?_
          refine jr_iconst (v := 5) dX10_book_33 (by decide) ?_
          refine jr_imul dX10_book_34 ?_
          refine jr_iload_n dX10_book_35 rfl rfl ?_
          refine jr_iadd dX10_book_36 ?_
          refine jr_iald dX10_book_37 H (fun v6 H => ?_)
          exact jr_iret rfl dX10_book_38 (by cases H; rfl)
        · refine jr_fgt 0 ?_
          refine jr_fgt 1 ?_
          refine jr_fgt 2 ?_
          exact hJ17 _ H
set_option maxRecDepth 100000 in
set_option maxHeartbeats 4000000 in
theorem ct_X10_book (l : Launch) (d : Nat) (hlt : l.stackTraces = false) (F : Nat) (a0 : Nat) (a1 : Int32) (a2 : Int32) (h : jH) (hf : jH) (H : f_X10_book F a0 a1 a2 h = some ((none : Option Int32), hf)) : jh_sh h a0 = (10, 0) ∧ jMetX l (d + 6) yX10_book cX10_book 3 (some .int) [.ref a0, .int a1, .int a2] h hf := by
  unfold f_X10_book at H
  obtain ⟨hsh, H⟩ := j_gd_some H
  refine ⟨hsh, ?_⟩
  refine jMetX.of [some (.ref a0), some (.int a1), some (.int a2)] (by decide) (Nat.le_of_ble_eq_true rfl) (fun S0 q hq => by simpa [j_l, lv_args, j_v, Value.category] using hq) ?_
  refine jr_aload_n dX10_book_0 rfl rfl ?_
  refine jr_iload_n dX10_book_1 rfl rfl ?_
  obtain ⟨v2, h1, Hc, H⟩ := j_b2_some H
  refine jr_callV (ci := 10) [.int a1] my_X10_isStation mv_X10_isStation ml_RX10_191 dX10_book_2 rfl rfl (Nat.le_of_ble_eq_true rfl) rfl (c_X10_isStation l (d + 5) F a0 a1 h v2 h1 Hc) ?_
  refine jr_jn (fun J => ∀ (h3 : jH), J h3 = some ((none : Option Int32), hf) → jGo l (d + 6) (some (.inl [])) RX10 cX10_book 3 (some .int) false 17 [none, none, none] [] h3 (some (.retAddr 0)) hf) H (fun h3 H => ?_) (fun J17 hJ17 H => ?_)
  · exact jr_throw0 hlt rfl tw_k tw_i tw_a tw_g dX10_book_17 dX10_book_20 dX10_book_21 dX10_book_24 (Nat.le_of_ble_eq_true rfl) H
  · refine jr_if_eq (tgt := 17) dX10_book_5 (by decide) H (fun H => ?_) (fun H => ?_)
    · refine jr_fgt 0 ?_
      refine jr_fgt 1 ?_
      refine jr_fgt 2 ?_
      exact hJ17 _ H
    · refine jr_iload_n dX10_book_8 rfl rfl ?_
      refine jr_if_lt (tgt := 17) dX10_book_9 (by decide) H (fun H => ?_) (fun H => ?_)
      · refine jr_fgt 0 ?_
        refine jr_fgt 1 ?_
        refine jr_fgt 2 ?_
        exact hJ17 _ H
      · refine jr_iload_n dX10_book_12 rfl rfl ?_
        refine jr_iconst (v := 5) dX10_book_13 (by decide) ?_
        refine jr_icmp_lt (tgt := 25) dX10_book_14 (by decide) H (fun H => ?_) (fun H => ?_)
        · refine jr_aload_n dX10_book_25 rfl rfl ?_
          refine jr_getR fl_RX10_40 dX10_book_26 H (fun v4 H => ?_)
          refine jr_getR fl_RX10_194 dX10_book_29 H (fun v5 H => ?_)
          refine jr_iload_n dX10_book_32 rfl rfl ?_
          refine jr_iconst (v := 5) dX10_book_33 (by decide) ?_
          refine jr_imul dX10_book_34 ?_
          refine jr_iload_n dX10_book_35 rfl rfl ?_
          refine jr_iadd dX10_book_36 ?_
          refine jr_iald dX10_book_37 H (fun v6 H => ?_)
          cases H
        · refine jr_fgt 0 ?_
          refine jr_fgt 1 ?_
          refine jr_fgt 2 ?_
          exact hJ17 _ H
set_option maxRecDepth 100000 in
set_option maxHeartbeats 4000000 in
theorem c_X10_between (l : Launch) (d : Nat) (F : Nat) (a0 : Int32) (a1 : Int32) (h : jH) (rR : Int32) (hf : jH) (H : f_X10_between F a0 a1 h = some (rR, hf)) : jMet l (d + 1) yX10_between cX10_between 2 (some .int) [.int a0, .int a1] h (some (.int rR)) hf := by
  unfold f_X10_between at H
  refine jMet.of false [some (.int a0), some (.int a1)] rfl (by decide) (by decide) (Nat.le_of_ble_eq_true rfl) (fun S0 q hq => by simpa [j_l, lv_args, j_v, Value.category] using hq) ?_
  refine jr_iload_n dX10_between_0 rfl rfl ?_
  refine jr_if_ge (tgt := 8) dX10_between_1 (by decide) H (fun H => ?_) (fun H => ?_)
  · refine jr_iload_n dX10_between_8 rfl rfl ?_
    refine jr_iload_n dX10_between_9 rfl rfl ?_
    refine jr_mmin ml_RX10_374 mm_mmin_s mm_i mm_mmin_c dX10_between_10 (Nat.le_of_ble_eq_true rfl) ?_
    exact jr_iret rfl dX10_between_13 H
  · refine jr_iconst (v := 0) dX10_between_4 (by decide) ?_
    refine jr_goto (tgt := 13) dX10_between_5 (by decide) ?_
    exact jr_iret rfl dX10_between_13 H
set_option maxRecDepth 100000 in
set_option maxHeartbeats 4000000 in
theorem c_X10_entry (l : Launch) (d : Nat) (F : Nat) (a0 : Int32) (a1 : Int32) (h : jH) (rR : Int32) (hf : jH) (H : f_X10_entry F a0 a1 h = some (rR, hf)) : jMet l (d + 0) yX10_entry cX10_entry 2 (some .int) [.int a0, .int a1] h (some (.int rR)) hf := by
  unfold f_X10_entry at H
  refine jMet.of false [some (.int a0), some (.int a1)] rfl (by decide) (by decide) (Nat.le_of_ble_eq_true rfl) (fun S0 q hq => by simpa [j_l, lv_args, j_v, Value.category] using hq) ?_
  refine jr_iload_n dX10_entry_0 rfl rfl ?_
  refine jr_if_ne (tgt := 7) dX10_entry_1 (by decide) H (fun H => ?_) (fun H => ?_)
  · refine jr_iload_n dX10_entry_4 rfl rfl ?_
    refine jr_i2b dX10_entry_5 ?_
    exact jr_iret rfl dX10_entry_6 H
  · refine jr_iload_n dX10_entry_7 rfl rfl ?_
    refine jr_iconst (v := 1) dX10_entry_8 (by decide) ?_
    refine jr_icmp_ne (tgt := 17) dX10_entry_9 (by decide) H (fun H => ?_) (fun H => ?_)
    · refine jr_iload_n dX10_entry_12 rfl rfl ?_
      refine jr_i2s dX10_entry_13 ?_
      refine jr_goto (tgt := 18) dX10_entry_14 (by decide) ?_
      exact jr_iret rfl dX10_entry_18 H
    · refine jr_iload_n dX10_entry_17 rfl rfl ?_
      exact jr_iret rfl dX10_entry_18 H
set_option maxRecDepth 100000 in
set_option maxHeartbeats 4000000 in
theorem s_X10_pursesInAll_L4 (l : Launch) (d : Nat) (F : Nat) (x0 : Nat) {rR : Int32} {hf : jH} : ∀ (n : Nat) (x1 : Int32) (x2 : Int32) (h : jH), f_X10_pursesInAll_L4 F x0 n x1 x2 h = some (rR, hf) → jGo l (d + 0) none RX10 cX10_pursesInAll 3 (some .int) false 4 [some (.ref x0), some (.int x1), some (.int x2)] [] h (some (.int rR)) hf := by
  intro n
  induction n with
  | zero =>
    intro x1 x2 h H
    cases H
  | succ n ih =>
    intro x1 x2 h H
    unfold f_X10_pursesInAll_L4 at H
    refine jr_iload_n dX10_pursesInAll_4 rfl rfl ?_
    refine jr_aload_n dX10_pursesInAll_5 rfl rfl ?_
    refine jr_getI fl_RX10_103 (by decide) dX10_pursesInAll_6 H (fun v1 H => ?_)
    refine jr_icmp_ge (tgt := 30) dX10_pursesInAll_9 (by decide) H (fun H => ?_) (fun H => ?_)
    · refine jr_iload_n dX10_pursesInAll_30 rfl rfl ?_
      exact jr_iret rfl dX10_pursesInAll_31 H
    · refine jr_iload_n dX10_pursesInAll_12 rfl rfl ?_
      refine jr_aload_n dX10_pursesInAll_13 rfl rfl ?_
      refine jr_getR fl_RX10_40 dX10_pursesInAll_14 H (fun v2 H => ?_)
      refine jr_getR fl_RX10_165 dX10_pursesInAll_17 H (fun v3 H => ?_)
      refine jr_iload_n dX10_pursesInAll_20 rfl rfl ?_
      refine jr_iald dX10_pursesInAll_21 H (fun v4 H => ?_)
      refine jr_iadd dX10_pursesInAll_22 ?_
      refine jr_istore_n dX10_pursesInAll_23 rfl (by decide) rfl (Or.inl rfl) ?_
      refine jr_iinc (v := (x2 + 1)) dX10_pursesInAll_24 rfl rfl (by decide) rfl (Or.inl rfl) ?_
      refine jr_goto (tgt := 4) dX10_pursesInAll_27 (by decide) ?_
      exact ih _ _ _ H
set_option maxRecDepth 100000 in
set_option maxHeartbeats 4000000 in
theorem c_X10_pursesInAll (l : Launch) (d : Nat) (F : Nat) (a0 : Nat) (h : jH) (rR : Int32) (hf : jH) (H : f_X10_pursesInAll F a0 h = some (rR, hf)) : jh_sh h a0 = (10, 0) ∧ jMet l (d + 0) yX10_pursesInAll cX10_pursesInAll 3 (some .int) [.ref a0] h (some (.int rR)) hf := by
  unfold f_X10_pursesInAll at H
  obtain ⟨hsh, H⟩ := j_gd_some H
  refine ⟨hsh, ?_⟩
  refine jMet.of false [some (.ref a0), none, none] rfl (by decide) (by decide) (Nat.le_of_ble_eq_true rfl) (fun S0 q hq => by simpa [j_l, lv_args, j_v, Value.category] using hq) ?_
  refine jr_iconst (v := 0) dX10_pursesInAll_0 (by decide) ?_
  refine jr_istore_n dX10_pursesInAll_1 rfl (by decide) rfl (Or.inl rfl) ?_
  refine jr_iconst (v := 0) dX10_pursesInAll_2 (by decide) ?_
  refine jr_istore_n dX10_pursesInAll_3 rfl (by decide) rfl (Or.inl rfl) ?_
  exact s_X10_pursesInAll_L4 l d F a0 F 0 0 h H
set_option maxRecDepth 100000 in
set_option maxHeartbeats 4000000 in
theorem s_X10_sheet_L43 (l : Launch) (d : Nat) (F : Nat) (x0 : Nat) (x1 : Int32) (x2 : Int32) (x3 : Int32) (x4 : Int32) (x5 : Int32) (k100 : jH → Option (Int32 × jH)) {rR : Int32} {hf : jH} (hk100 : ∀ (h : jH), k100 h = some (rR, hf) → jGo l (d + 2) none RX10 cX10_sheet 7 (some .int) false 100 [some (.ref x0), none, none, none, none, some (.int x5), none] [] h (some (.int rR)) hf) : ∀ (n : Nat) (x6 : Int32) (h : jH), f_X10_sheet_L43 F x0 x1 x2 x3 x4 x5 k100 n x6 h = some (rR, hf) → jGo l (d + 2) none RX10 cX10_sheet 7 (some .int) false 43 [some (.ref x0), some (.int x1), some (.int x2), some (.int x3), some (.int x4), some (.int x5), some (.int x6)] [] h (some (.int rR)) hf := by
  intro n
  induction n with
  | zero =>
    intro x6 h H
    cases H
  | succ n ih =>
    intro x6 h H
    unfold f_X10_sheet_L43 at H
    refine jr_iload dX10_sheet_43 rfl ?_
    refine jr_aload_n dX10_sheet_45 rfl rfl ?_
    refine jr_getI fl_RX10_103 (by decide) dX10_sheet_46 H (fun v4 H => ?_)
    refine jr_icmp_ge (tgt := 100) dX10_sheet_49 (by decide) H (fun H => ?_) (fun H => ?_)
    · refine jr_fgt 1 ?_
      refine jr_fgt 2 ?_
      refine jr_fgt 3 ?_
      refine jr_fgt 4 ?_
      refine jr_fgt 6 ?_
      exact hk100 _ H
    · refine jr_aload_n dX10_sheet_52 rfl rfl ?_
      refine jr_getR fl_RX10_40 dX10_sheet_53 H (fun v5 H => ?_)
      refine jr_getR fl_RX10_165 dX10_sheet_56 H (fun v6 H => ?_)
      refine jr_iload dX10_sheet_59 rfl ?_
      refine jr_iload dX10_sheet_61 rfl ?_
      refine jr_jn (fun J => ∀ (s7 : Int32) (s8 : Int32) (s9 : Nat) (h10 : jH), J s7 s8 s9 h10 = some (rR, hf) → jGo l (d + 2) none RX10 cX10_sheet 7 (some .int) false 93 [some (.ref x0), some (.int x1), some (.int x2), some (.int x3), some (.int x4), some (.int x5), some (.int x6)] [.int s7, .int s8, .ref s9] h10 (some (.int rR)) hf) H (fun s7 s8 s9 h10 H => ?_) (fun J93 hJ93 H => ?_)
      · refine jr_iast dX10_sheet_93 H (fun h11 H => ?_)
        refine jr_iinc (v := (x6 + 1)) dX10_sheet_94 rfl rfl (by decide) rfl (Or.inl rfl) ?_
        refine jr_goto (tgt := 43) dX10_sheet_97 (by decide) ?_
        exact ih _ _ H
      · refine jr_jn (fun J => ∀ (s12 : Int32) (s13 : Nat) (h14 : jH), J s12 s13 h14 = some (rR, hf) → jGo l (d + 2) none RX10 cX10_sheet 7 (some .int) false 72 [some (.ref x0), some (.int x1), some (.int x2), some (.int x3), some (.int x4), some (.int x5), some (.int x6)] [.int s12, .ref s13] h14 (some (.int rR)) hf) H (fun s12 s13 h14 H => ?_) (fun J72 hJ72 H => ?_)
        · refine jr_iconst (v := 0) dX10_sheet_72 (by decide) ?_
          refine jr_goto (tgt := 93) dX10_sheet_73 (by decide) ?_
          exact hJ93 _ _ _ _ H
        · refine jr_if_ne (tgt := 72) dX10_sheet_63 (by decide) H (fun H => ?_) (fun H => ?_)
          · refine jr_iload dX10_sheet_66 rfl ?_
            refine jr_iload_n dX10_sheet_68 rfl rfl ?_
            refine jr_icmp_lt (tgt := 76) dX10_sheet_69 (by decide) H (fun H => ?_) (fun H => ?_)
            · refine jr_iload_n dX10_sheet_76 rfl rfl ?_
              refine jr_iload_n dX10_sheet_77 rfl rfl ?_
              refine jr_iload dX10_sheet_78 rfl ?_
              refine jr_iload dX10_sheet_80 rfl ?_
              refine jr_imul dX10_sheet_82 ?_
              refine jr_iadd dX10_sheet_83 ?_
              obtain ⟨v16, h15, Hc, H⟩ := j_b2_some H
              refine jr_callS [.int x1, .int (x3 + (x6 * x4))] my_X10_entry ms_X10_entry ml_RX10_197 dX10_sheet_84 rfl rfl (Nat.le_of_ble_eq_true rfl) (c_X10_entry l (d + 1) F x1 (x3 + (x6 * x4)) h v16 h15 Hc) ?_
              refine jr_sipush (v := 9999) dX10_sheet_87 (by decide) ?_
              obtain ⟨v18, h17, Hc, H⟩ := j_b2_some H
              refine jr_callS [.int v16, .int 9999] my_X10_between ms_X10_between ml_RX10_200 dX10_sheet_90 rfl rfl (Nat.le_of_ble_eq_true rfl) (c_X10_between l d F v16 9999 h15 v18 h17 Hc) ?_
              exact hJ93 _ _ _ _ H
            · exact hJ72 _ _ _ H
          · exact hJ72 _ _ _ H
set_option maxRecDepth 100000 in
set_option maxHeartbeats 4000000 in
theorem c_X10_sheet (l : Launch) (d : Nat) (F : Nat) (a0 : Nat) (a1 : Int32) (a2 : Int32) (a3 : Int32) (a4 : Int32) (h : jH) (rR : Int32) (hf : jH) (H : f_X10_sheet F a0 a1 a2 a3 a4 h = some (rR, hf)) : jh_sh h a0 = (10, 0) ∧ jMet l (d + 2) yX10_sheet cX10_sheet 7 (some .int) [.ref a0, .int a1, .int a2, .int a3, .int a4] h (some (.int rR)) hf := by
  unfold f_X10_sheet at H
  obtain ⟨hsh, H⟩ := j_gd_some H
  refine ⟨hsh, ?_⟩
  refine jMet.of false [some (.ref a0), some (.int a1), some (.int a2), some (.int a3), some (.int a4), none, none] rfl (by decide) (by decide) (Nat.le_of_ble_eq_true rfl) (fun S0 q hq => by simpa [j_l, lv_args, j_v, Value.category] using hq) ?_
  refine jr_iload_n dX10_sheet_0 rfl rfl ?_
  refine jr_if_lt (tgt := 14) dX10_sheet_1 (by decide) H (fun H => ?_) (fun H => ?_)
  · refine jr_iconst (v := (-1)) dX10_sheet_14 (by decide) ?_
    exact jr_iret rfl dX10_sheet_15 H
  · refine jr_iload_n dX10_sheet_4 rfl rfl ?_
    refine jr_iconst (v := 3) dX10_sheet_5 (by decide) ?_
    refine jr_icmp_gt (tgt := 14) dX10_sheet_6 (by decide) H (fun H => ?_) (fun H => ?_)
    · refine jr_iconst (v := (-1)) dX10_sheet_14 (by decide) ?_
      exact jr_iret rfl dX10_sheet_15 H
    · refine jr_iload_n dX10_sheet_9 rfl rfl ?_
      refine jr_iconst (v := 4) dX10_sheet_10 (by decide) ?_
      refine jr_icmp_le (tgt := 16) dX10_sheet_11 (by decide) H (fun H => ?_) (fun H => ?_)
      · refine jr_iload_n dX10_sheet_16 rfl rfl ?_
        refine jr_iconst (v := 3) dX10_sheet_17 (by decide) ?_
        refine jr_jn (fun J => ∀ (s1 : Int32) (h2 : jH), J s1 h2 = some (rR, hf) → jGo l (d + 2) none RX10 cX10_sheet 7 (some .int) false 26 [some (.ref a0), some (.int a1), some (.int a2), some (.int a3), some (.int a4), none, none] [.int s1] h2 (some (.int rR)) hf) H (fun s1 h2 H => ?_) (fun J26 hJ26 H => ?_)
        · refine jr_istore dX10_sheet_26 (by decide) rfl (Or.inl rfl) ?_
          refine jr_iload dX10_sheet_28 rfl ?_
          refine jr_jn (fun J => ∀ (h3 : jH), J h3 = some (rR, hf) → jGo l (d + 2) none RX10 cX10_sheet 7 (some .int) false 40 [some (.ref a0), some (.int a1), some (.int a2), some (.int a3), some (.int a4), some (.int s1), none] [] h3 (some (.int rR)) hf) H (fun h3 H => ?_) (fun J40 hJ40 H => ?_)
          · refine jr_iconst (v := 0) dX10_sheet_40 (by decide) ?_
            refine jr_istore dX10_sheet_41 (by decide) rfl (Or.inl rfl) ?_
            refine s_X10_sheet_L43 l d F a0 a1 a2 a3 a4 s1 _ (fun h19 H => ?_) F 0 h3 H
            · refine jr_iload dX10_sheet_100 rfl ?_
              refine jr_if_eq (tgt := 110) dX10_sheet_102 (by decide) H (fun H => ?_) (fun H => ?_)
              · refine jr_aload_n dX10_sheet_110 rfl rfl ?_
                obtain ⟨v21, h20, Hc, H⟩ := j_b2_some H
                refine jr_callV (ci := 10) [] my_X10_pursesInAll mv_X10_pursesInAll ml_RX10_203 dX10_sheet_111 rfl rfl (Nat.le_of_ble_eq_true rfl) rfl (c_X10_pursesInAll l (d + 1) F a0 h19 v21 h20 Hc) ?_
                exact jr_iret rfl dX10_sheet_114 H
              · refine jr_bipush (v := (-3)) dX10_sheet_105 (by decide) ?_
                refine jr_goto (tgt := 114) dX10_sheet_107 (by decide) ?_
                exact jr_iret rfl dX10_sheet_114 H
          · refine jr_if_ne (tgt := 40) dX10_sheet_30 (by decide) H (fun H => ?_) (fun H => ?_)
            · refine jr_iload_n dX10_sheet_33 rfl rfl ?_
              refine jr_if_ge (tgt := 40) dX10_sheet_34 (by decide) H (fun H => ?_) (fun H => ?_)
              · exact hJ40 _ H
              · refine jr_bipush (v := (-2)) dX10_sheet_37 (by decide) ?_
                exact jr_iret rfl dX10_sheet_39 H
            · exact hJ40 _ H
        · refine jr_icmp_ne (tgt := 25) dX10_sheet_18 (by decide) H (fun H => ?_) (fun H => ?_)
          · refine jr_iconst (v := 1) dX10_sheet_21 (by decide) ?_
            refine jr_goto (tgt := 26) dX10_sheet_22 (by decide) ?_
            exact hJ26 _ _ H
          · refine jr_iconst (v := 0) dX10_sheet_25 (by decide) ?_
            exact hJ26 _ _ H
      · refine jr_iconst (v := (-1)) dX10_sheet_14 (by decide) ?_
        exact jr_iret rfl dX10_sheet_15 H
set_option maxRecDepth 100000 in
set_option maxHeartbeats 4000000 in
theorem c_X6_add (l : Launch) (d : Nat) (F : Nat) (a0 : Nat) (a1 : Int64) (h : jH) (hf : jH) (H : f_X6_add F a0 a1 h = some hf) : jh_sh h a0 = (6, 0) ∧ jMet l (d + 0) yX6_add cX6_add 3 none [.ref a0, .long a1] h none hf := by
  unfold f_X6_add at H
  obtain ⟨hsh, H⟩ := j_gd_some H
  refine ⟨hsh, ?_⟩
  refine jMet.of false [some (.ref a0), some (.long a1), none] rfl (by decide) (by decide) (Nat.le_of_ble_eq_true rfl) (fun S0 q hq => by simpa [j_l, lv_args, j_v, Value.category] using hq) ?_
  refine jr_aload_n dX6_add_0 rfl rfl ?_
  refine jr_getI fl_RX6_13 (by decide) dX6_add_1 H (fun v1 H => ?_)
  refine jr_if_lt (tgt := 36) dX6_add_4 (by decide) H (fun H => ?_) (fun H => ?_)
  · exact jr_vret rfl dX6_add_36 H
  · refine jr_aload_n dX6_add_7 rfl rfl ?_
    refine jr_getI fl_RX6_13 (by decide) dX6_add_8 H (fun v2 H => ?_)
    refine jr_bipush (v := 12) dX6_add_11 (by decide) ?_
    refine jr_icmp_ge (tgt := 36) dX6_add_13 (by decide) H (fun H => ?_) (fun H => ?_)
    · exact jr_vret rfl dX6_add_36 H
    · refine jr_aload_n dX6_add_16 rfl rfl ?_
      refine jr_getR fl_RX6_9 dX6_add_17 H (fun v3 H => ?_)
      refine jr_aload_n dX6_add_20 rfl rfl ?_
      refine jr_getI fl_RX6_13 (by decide) dX6_add_21 H (fun v4 H => ?_)
      refine jr_lload_n dX6_add_24 rfl rfl ?_
      refine jr_last dX6_add_25 H (fun h5 H => ?_)
      refine jr_aload_n dX6_add_26 rfl rfl ?_
      refine jr_dup dX6_add_27 rfl ?_
      refine jr_getI fl_RX6_13 (by decide) dX6_add_28 H (fun v6 H => ?_)
      refine jr_iconst (v := 1) dX6_add_31 (by decide) ?_
      refine jr_iadd dX6_add_32 ?_
      refine jr_putI fl_RX6_13 (fun z => by cases z) dX6_add_33 H (fun h7 H => ?_)
      exact jr_vret rfl dX6_add_36 H
set_option maxRecDepth 100000 in
set_option maxHeartbeats 4000000 in
theorem c_X6_clear (l : Launch) (d : Nat) (F : Nat) (a0 : Nat) (h : jH) (hf : jH) (H : f_X6_clear F a0 h = some hf) : jh_sh h a0 = (6, 0) ∧ jMet l (d + 0) yX6_clear cX6_clear 1 none [.ref a0] h none hf := by
  unfold f_X6_clear at H
  obtain ⟨hsh, H⟩ := j_gd_some H
  refine ⟨hsh, ?_⟩
  refine jMet.of false [some (.ref a0)] rfl (by decide) (by decide) (Nat.le_of_ble_eq_true rfl) (fun S0 q hq => by simpa [j_l, lv_args, j_v, Value.category] using hq) ?_
  refine jr_aload_n dX6_clear_0 rfl rfl ?_
  refine jr_iconst (v := 0) dX6_clear_1 (by decide) ?_
  refine jr_putI fl_RX6_13 (fun z => by cases z) dX6_clear_2 H (fun h1 H => ?_)
  exact jr_vret rfl dX6_clear_5 H
set_option maxRecDepth 100000 in
set_option maxHeartbeats 4000000 in
theorem s_J7_fill_53178_L5 (l : Launch) (d : Nat) (F : Nat) (x0 : Nat) (x1 : Int32) (x3 : Int32) {hf : jH} : ∀ (n : Nat) (x2 : Int32) (h : jH), f_J7_fill_53178_L5 F x0 x1 x3 n x2 h = some hf → jGo l (d + 0) none RJ7 cJ7_fill_53178 4 none false 5 [some (.ref x0), some (.int x1), some (.int x2), some (.int x3)] [] h none hf := by
  intro n
  induction n with
  | zero =>
    intro x2 h H
    cases H
  | succ n ih =>
    intro x2 h H
    unfold f_J7_fill_53178_L5 at H
    refine jr_iload_n dJ7_fill_53178_5 rfl rfl ?_
    refine jr_iload_n dJ7_fill_53178_6 rfl rfl ?_
    refine jr_icmp_ge (tgt := 20) dJ7_fill_53178_7 (by decide) H (fun H => ?_) (fun H => ?_)
    · exact jr_vret rfl dJ7_fill_53178_20 H
    · refine jr_aload_n dJ7_fill_53178_10 rfl rfl ?_
      refine jr_iload_n dJ7_fill_53178_11 rfl rfl ?_
      refine jr_iload_n dJ7_fill_53178_12 rfl rfl ?_
      refine jr_iast dJ7_fill_53178_13 H (fun h2 H => ?_)
      refine jr_iinc (v := (x2 + 1)) dJ7_fill_53178_14 rfl rfl (by decide) rfl (Or.inl rfl) ?_
      refine jr_goto (tgt := 5) dJ7_fill_53178_17 (by decide) ?_
      exact ih _ _ H
set_option maxRecDepth 100000 in
set_option maxHeartbeats 4000000 in
theorem c_J7_fill_53178 (l : Launch) (d : Nat) (F : Nat) (a0 : Nat) (a1 : Int32) (h : jH) (hf : jH) (H : f_J7_fill_53178 F a0 a1 h = some hf) : jMet l (d + 0) yJ7_fill_53178 cJ7_fill_53178 4 none [.ref a0, .int a1] h none hf := by
  unfold f_J7_fill_53178 at H
  refine jMet.of false [some (.ref a0), some (.int a1), none, none] rfl (by decide) (by decide) (Nat.le_of_ble_eq_true rfl) (fun S0 q hq => by simpa [j_l, lv_args, j_v, Value.category] using hq) ?_
  refine jr_iconst (v := 0) dJ7_fill_53178_0 (by decide) ?_
  refine jr_istore_n dJ7_fill_53178_1 rfl (by decide) rfl (Or.inl rfl) ?_
  refine jr_aload_n dJ7_fill_53178_2 rfl rfl ?_
  refine jr_len100 dJ7_fill_53178_3 H (fun v1 H => ?_)
  refine jr_istore_n dJ7_fill_53178_4 rfl (by decide) rfl (Or.inl rfl) ?_
  exact s_J7_fill_53178_L5 l d F a0 a1 v1 F 0 h H
set_option maxRecDepth 100000 in
set_option maxHeartbeats 4000000 in
theorem c_X8_joined (l : Launch) (d : Nat) (F : Nat) (a0 : Int32) (a1 : Int32) (a2 : Int32) (h : jH) (rR : Int32) (hf : jH) (H : f_X8_joined F a0 a1 a2 h = some (rR, hf)) : jMet l (d + 0) yX8_joined cX8_joined 3 (some .int) [.int a0, .int a1, .int a2] h (some (.int rR)) hf := by
  unfold f_X8_joined at H
  refine jMet.of false [some (.int a0), some (.int a1), some (.int a2)] rfl (by decide) (by decide) (Nat.le_of_ble_eq_true rfl) (fun S0 q hq => by simpa [j_l, lv_args, j_v, Value.category] using hq) ?_
  refine jr_iload_n dX8_joined_0 rfl rfl ?_
  by_cases q0 : a0 = 42
  · rw [if_pos q0] at H
    refine jr_lookup (tgt := 68) dX8_joined_1 (by decide) (67) (by rw [q0]; decide) (by decide) ?_
    refine jr_iload_n dX8_joined_68 rfl rfl ?_
    refine jr_iload_n dX8_joined_69 rfl rfl ?_
    refine jr_imul dX8_joined_70 ?_
    exact jr_iret rfl dX8_joined_71 H
  rw [if_neg q0] at H
  by_cases q1 : a0 = 43
  · rw [if_pos q1] at H
    refine jr_lookup (tgt := 60) dX8_joined_1 (by decide) (59) (by rw [q1]; decide) (by decide) ?_
    refine jr_iload_n dX8_joined_60 rfl rfl ?_
    refine jr_iload_n dX8_joined_61 rfl rfl ?_
    refine jr_iadd dX8_joined_62 ?_
    exact jr_iret rfl dX8_joined_63 H
  rw [if_neg q1] at H
  by_cases q2 : a0 = 45
  · rw [if_pos q2] at H
    refine jr_lookup (tgt := 64) dX8_joined_1 (by decide) (63) (by rw [q2]; decide) (by decide) ?_
    refine jr_iload_n dX8_joined_64 rfl rfl ?_
    refine jr_iload_n dX8_joined_65 rfl rfl ?_
    refine jr_isub dX8_joined_66 ?_
    exact jr_iret rfl dX8_joined_67 H
  rw [if_neg q2] at H
  by_cases q3 : a0 = 47
  · rw [if_pos q3] at H
    refine jr_lookup (tgt := 72) dX8_joined_1 (by decide) (71) (by rw [q3]; decide) (by decide) ?_
    refine jr_iload_n dX8_joined_72 rfl rfl ?_
    refine jr_if_ne (tgt := 80) dX8_joined_73 (by decide) H (fun H => ?_) (fun H => ?_)
    · refine jr_iconst (v := 0) dX8_joined_76 (by decide) ?_
      refine jr_goto (tgt := 83) dX8_joined_77 (by decide) ?_
      exact jr_iret rfl dX8_joined_83 H
    · refine jr_iload_n dX8_joined_80 rfl rfl ?_
      refine jr_iload_n dX8_joined_81 rfl rfl ?_
      refine jr_idiv dX8_joined_82 H (fun v1 H => ?_)
      exact jr_iret rfl dX8_joined_83 H
  rw [if_neg q3] at H
  by_cases q4 : a0 = 60
  · rw [if_pos q4] at H
    refine jr_lookup (tgt := 84) dX8_joined_1 (by decide) (83) (by rw [q4]; decide) (by decide) ?_
    refine jr_iload_n dX8_joined_84 rfl rfl ?_
    refine jr_iload_n dX8_joined_85 rfl rfl ?_
    refine jr_icmp_ge (tgt := 93) dX8_joined_86 (by decide) H (fun H => ?_) (fun H => ?_)
    · refine jr_iconst (v := 0) dX8_joined_93 (by decide) ?_
      exact jr_iret rfl dX8_joined_94 H
    · refine jr_iconst (v := 1) dX8_joined_89 (by decide) ?_
      refine jr_goto (tgt := 94) dX8_joined_90 (by decide) ?_
      exact jr_iret rfl dX8_joined_94 H
  rw [if_neg q4] at H
  by_cases q5 : a0 = 62
  · rw [if_pos q5] at H
    refine jr_lookup (tgt := 95) dX8_joined_1 (by decide) (94) (by rw [q5]; decide) (by decide) ?_
    refine jr_iload_n dX8_joined_95 rfl rfl ?_
    refine jr_iload_n dX8_joined_96 rfl rfl ?_
    refine jr_icmp_le (tgt := 104) dX8_joined_97 (by decide) H (fun H => ?_) (fun H => ?_)
    · refine jr_iconst (v := 0) dX8_joined_104 (by decide) ?_
      exact jr_iret rfl dX8_joined_105 H
    · refine jr_iconst (v := 1) dX8_joined_100 (by decide) ?_
      refine jr_goto (tgt := 105) dX8_joined_101 (by decide) ?_
      exact jr_iret rfl dX8_joined_105 H
  rw [if_neg q5] at H
  refine jr_lookup (tgt := 106) dX8_joined_1 (by decide) (105) (by show Op.lookupswitch.offset [(42, 67), (43, 59), (45, 63), (47, 71), (60, 83), (62, 94)] 105 a0.toInt = 105; rw [lv_osw q0 (show (42 : Int32).toInt = 42 from rfl), lv_osw q1 (show (43 : Int32).toInt = 43 from rfl), lv_osw q2 (show (45 : Int32).toInt = 45 from rfl), lv_osw q3 (show (47 : Int32).toInt = 47 from rfl), lv_osw q4 (show (60 : Int32).toInt = 60 from rfl), lv_osw q5 (show (62 : Int32).toInt = 62 from rfl)]; rfl) (by decide) ?_
  refine jr_iload_n dX8_joined_106 rfl rfl ?_
  refine jr_iload_n dX8_joined_107 rfl rfl ?_
  refine jr_icmp_ne (tgt := 115) dX8_joined_108 (by decide) H (fun H => ?_) (fun H => ?_)
  · refine jr_iconst (v := 1) dX8_joined_111 (by decide) ?_
    refine jr_goto (tgt := 116) dX8_joined_112 (by decide) ?_
    exact jr_iret rfl dX8_joined_116 H
  · refine jr_iconst (v := 0) dX8_joined_115 (by decide) ?_
    exact jr_iret rfl dX8_joined_116 H
set_option maxRecDepth 100000 in
set_option maxHeartbeats 4000000 in
theorem s_X8_value_L4 (l : Launch) (d : Nat) (F : Nat) (x0 : Nat) (k140 : jH → Option (Int32 × jH)) {rR : Int32} {hf : jH} (hk140 : ∀ (h : jH), k140 h = some (rR, hf) → jGo l (d + 1) none RX8 cX8_value 4 (some .int) false 140 [some (.ref x0), none, none, none] [] h (some (.int rR)) hf) : ∀ (n : Nat) (x1 : Int32) (x2 : Int32) (h : jH), f_X8_value_L4 F x0 k140 n x1 x2 h = some (rR, hf) → jGo l (d + 1) none RX8 cX8_value 4 (some .int) false 4 [some (.ref x0), some (.int x1), some (.int x2), none] [] h (some (.int rR)) hf := by
  intro n
  induction n with
  | zero =>
    intro x1 x2 h H
    cases H
  | succ n ih =>
    intro x1 x2 h H
    unfold f_X8_value_L4 at H
    refine jr_iload_n dX8_value_4 rfl rfl ?_
    refine jr_aload_n dX8_value_5 rfl rfl ?_
    refine jr_getI fl_RX8_24 (by decide) dX8_value_6 H (fun v1 H => ?_)
    refine jr_icmp_ge (tgt := 140) dX8_value_9 (by decide) H (fun H => ?_) (fun H => ?_)
    · refine jr_fgt 1 ?_
      refine jr_fgt 2 ?_
      exact hk140 _ H
    · refine jr_aload_n dX8_value_12 rfl rfl ?_
      refine jr_getR fl_RX8_15 dX8_value_13 H (fun v2 H => ?_)
      refine jr_iload_n dX8_value_16 rfl rfl ?_
      refine jr_iald dX8_value_17 H (fun v3 H => ?_)
      refine jr_istore_n dX8_value_18 rfl (by decide) rfl (Or.inl rfl) ?_
      refine jr_iload_n dX8_value_19 rfl rfl ?_
      refine jr_sipush (v := 2000) dX8_value_20 (by decide) ?_
      refine jr_jn (fun J => ∀ (z4 : Int32) (h5 : jH), J z4 h5 = some (rR, hf) → jGo l (d + 1) none RX8 cX8_value 4 (some .int) false 134 [some (.ref x0), some (.int z4), some (.int x2), none] [] h5 (some (.int rR)) hf) H (fun z4 h5 H => ?_) (fun J134 hJ134 H => ?_)
      · refine jr_iinc (v := (x2 + 1)) dX8_value_134 rfl rfl (by decide) rfl (Or.inl rfl) ?_
        refine jr_goto (tgt := 4) dX8_value_137 (by decide) ?_
        exact ih _ _ _ H
      · refine jr_jn (fun J => ∀ (h6 : jH), J h6 = some (rR, hf) → jGo l (d + 1) none RX8 cX8_value 4 (some .int) false 65 [some (.ref x0), some (.int x1), some (.int x2), some (.int v3)] [] h6 (some (.int rR)) hf) H (fun h6 H => ?_) (fun J65 hJ65 H => ?_)
        · refine jr_iload_n dX8_value_65 rfl rfl ?_
          refine jr_sipush (v := 2000) dX8_value_66 (by decide) ?_
          refine jr_jn (fun J => ∀ (h7 : jH), J h7 = some (rR, hf) → jGo l (d + 1) none RX8 cX8_value 4 (some .int) false 96 [some (.ref x0), some (.int x1), some (.int x2), some (.int v3)] [] h7 (some (.int rR)) hf) H (fun h7 H => ?_) (fun J96 hJ96 H => ?_)
          · refine jr_iload_n dX8_value_96 rfl rfl ?_
            refine jr_iconst (v := 1) dX8_value_97 (by decide) ?_
            refine jr_icmp_le (tgt := 134) dX8_value_98 (by decide) H (fun H => ?_) (fun H => ?_)
            · refine jr_fgt 3 ?_
              exact hJ134 _ _ H
            · refine jr_iinc (v := (x1 + (-1))) dX8_value_101 rfl rfl (by decide) rfl (Or.inl rfl) ?_
              refine jr_aload_n dX8_value_104 rfl rfl ?_
              refine jr_getR fl_RX8_18 dX8_value_105 H (fun v8 H => ?_)
              refine jr_iload_n dX8_value_108 rfl rfl ?_
              refine jr_iconst (v := 1) dX8_value_109 (by decide) ?_
              refine jr_isub dX8_value_110 ?_
              refine jr_iload_n dX8_value_111 rfl rfl ?_
              refine jr_sipush (v := 2000) dX8_value_112 (by decide) ?_
              refine jr_isub dX8_value_115 ?_
              refine jr_aload_n dX8_value_116 rfl rfl ?_
              refine jr_getR fl_RX8_18 dX8_value_117 H (fun v9 H => ?_)
              refine jr_iload_n dX8_value_120 rfl rfl ?_
              refine jr_iconst (v := 1) dX8_value_121 (by decide) ?_
              refine jr_isub dX8_value_122 ?_
              refine jr_iald dX8_value_123 H (fun v10 H => ?_)
              refine jr_aload_n dX8_value_124 rfl rfl ?_
              refine jr_getR fl_RX8_18 dX8_value_125 H (fun v11 H => ?_)
              refine jr_iload_n dX8_value_128 rfl rfl ?_
              refine jr_iald dX8_value_129 H (fun v12 H => ?_)
              obtain ⟨v14, h13, Hc, H⟩ := j_b2_some H
              refine jr_callS [.int (v3 - (2000 : Int32)), .int v10, .int v12] my_X8_joined ms_X8_joined ml_RX8_99 dX8_value_130 rfl rfl (Nat.le_of_ble_eq_true rfl) (c_X8_joined l d F (v3 - (2000 : Int32)) v10 v12 h7 v14 h13 Hc) ?_
              refine jr_iast dX8_value_133 H (fun h15 H => ?_)
              refine jr_fgt 3 ?_
              exact hJ134 _ _ H
          · refine jr_icmp_ne (tgt := 96) dX8_value_69 (by decide) H (fun H => ?_) (fun H => ?_)
            · refine jr_iload_n dX8_value_72 rfl rfl ?_
              refine jr_if_le (tgt := 96) dX8_value_73 (by decide) H (fun H => ?_) (fun H => ?_)
              · exact hJ96 _ H
              · refine jr_aload_n dX8_value_76 rfl rfl ?_
                refine jr_getR fl_RX8_18 dX8_value_77 H (fun v16 H => ?_)
                refine jr_iload_n dX8_value_80 rfl rfl ?_
                refine jr_iconst (v := 1) dX8_value_81 (by decide) ?_
                refine jr_isub dX8_value_82 ?_
                refine jr_aload_n dX8_value_83 rfl rfl ?_
                refine jr_getR fl_RX8_18 dX8_value_84 H (fun v17 H => ?_)
                refine jr_iload_n dX8_value_87 rfl rfl ?_
                refine jr_iconst (v := 1) dX8_value_88 (by decide) ?_
                refine jr_isub dX8_value_89 ?_
                refine jr_iald dX8_value_90 H (fun v18 H => ?_)
                refine jr_ineg dX8_value_91 ?_
                refine jr_iast dX8_value_92 H (fun h19 H => ?_)
                refine jr_goto (tgt := 134) dX8_value_93 (by decide) ?_
                refine jr_fgt 3 ?_
                exact hJ134 _ _ H
            · exact hJ96 _ H
        · refine jr_icmp_ge (tgt := 65) dX8_value_23 (by decide) H (fun H => ?_) (fun H => ?_)
          · exact hJ65 _ H
          · refine jr_iload_n dX8_value_26 rfl rfl ?_
            refine jr_bipush (v := 40) dX8_value_27 (by decide) ?_
            refine jr_icmp_ge (tgt := 65) dX8_value_29 (by decide) H (fun H => ?_) (fun H => ?_)
            · exact hJ65 _ H
            · refine jr_aload_n dX8_value_32 rfl rfl ?_
              refine jr_getR fl_RX8_18 dX8_value_33 H (fun v20 H => ?_)
              refine jr_iload_n dX8_value_36 rfl rfl ?_
              refine jr_iload_n dX8_value_37 rfl rfl ?_
              refine jr_sipush (v := 1000) dX8_value_38 (by decide) ?_
              refine jr_jn (fun J => ∀ (s21 : Int32) (s22 : Int32) (s23 : Nat) (h24 : jH), J s21 s22 s23 h24 = some (rR, hf) → jGo l (d + 1) none RX8 cX8_value 4 (some .int) false 58 [some (.ref x0), some (.int x1), some (.int x2), none] [.int s21, .int s22, .ref s23] h24 (some (.int rR)) hf) H (fun s21 s22 s23 h24 H => ?_) (fun J58 hJ58 H => ?_)
              · refine jr_iast dX8_value_58 H (fun h25 H => ?_)
                refine jr_iinc (v := (x1 + 1)) dX8_value_59 rfl rfl (by decide) rfl (Or.inl rfl) ?_
                refine jr_goto (tgt := 134) dX8_value_62 (by decide) ?_
                exact hJ134 _ _ H
              · refine jr_icmp_ge (tgt := 48) dX8_value_41 (by decide) H (fun H => ?_) (fun H => ?_)
                · refine jr_aload_n dX8_value_48 rfl rfl ?_
                  refine jr_getR fl_RX8_21 dX8_value_49 H (fun v26 H => ?_)
                  refine jr_iload_n dX8_value_52 rfl rfl ?_
                  refine jr_sipush (v := 1000) dX8_value_53 (by decide) ?_
                  refine jr_isub dX8_value_56 ?_
                  refine jr_iald dX8_value_57 H (fun v27 H => ?_)
                  refine jr_fgt 3 ?_
                  exact hJ58 _ _ _ _ H
                · refine jr_iload_n dX8_value_44 rfl rfl ?_
                  refine jr_goto (tgt := 58) dX8_value_45 (by decide) ?_
                  refine jr_fgt 3 ?_
                  exact hJ58 _ _ _ _ H
set_option maxRecDepth 100000 in
set_option maxHeartbeats 4000000 in
theorem c_X8_value (l : Launch) (d : Nat) (F : Nat) (a0 : Nat) (h : jH) (rR : Int32) (hf : jH) (H : f_X8_value F a0 h = some (rR, hf)) : jh_sh h a0 = (8, 0) ∧ jMet l (d + 1) yX8_value cX8_value 4 (some .int) [.ref a0] h (some (.int rR)) hf := by
  unfold f_X8_value at H
  obtain ⟨hsh, H⟩ := j_gd_some H
  refine ⟨hsh, ?_⟩
  refine jMet.of false [some (.ref a0), none, none, none] rfl (by decide) (by decide) (Nat.le_of_ble_eq_true rfl) (fun S0 q hq => by simpa [j_l, lv_args, j_v, Value.category] using hq) ?_
  refine jr_iconst (v := 0) dX8_value_0 (by decide) ?_
  refine jr_istore_n dX8_value_1 rfl (by decide) rfl (Or.inl rfl) ?_
  refine jr_iconst (v := 0) dX8_value_2 (by decide) ?_
  refine jr_istore_n dX8_value_3 rfl (by decide) rfl (Or.inl rfl) ?_
  refine s_X8_value_L4 l d F a0 _ (fun h28 H => ?_) F 0 0 h H
  · refine jr_aload_n dX8_value_140 rfl rfl ?_
    refine jr_getR fl_RX8_18 dX8_value_141 H (fun v29 H => ?_)
    refine jr_iconst (v := 0) dX8_value_144 (by decide) ?_
    refine jr_iald dX8_value_145 H (fun v30 H => ?_)
    exact jr_iret rfl dX8_value_146 H
set_option maxRecDepth 100000 in
set_option maxHeartbeats 4000000 in
theorem s_X8_charge_L54 (l : Launch) (d : Nat) (F : Nat) (x0 : Nat) (x1 : Nat) (x2 : Int32) {rR : Int32} {hf : jH} : ∀ (n : Nat) (x5 : Int32) (x6 : Int32) (x7 : Int32) (h : jH), f_X8_charge_L54 F x0 x1 x2 n x5 x6 x7 h = some (rR, hf) → jGo l (d + 2) none RX8 cX8_charge 11 (some .int) false 54 [some (.ref x0), some (.ref x1), some (.int x2), none, none, some (.int x5), some (.int x6), some (.int x7), none, none, none] [] h (some (.int rR)) hf := by
  intro n
  induction n with
  | zero =>
    intro x5 x6 x7 h H
    cases H
  | succ n ih =>
    intro x5 x6 x7 h H
    unfold f_X8_charge_L54 at H
    refine jr_iload dX8_charge_54 rfl ?_
    refine jr_aload_n dX8_charge_56 rfl rfl ?_
    refine jr_getR fl_RX8_81 dX8_charge_57 H (fun v14 H => ?_)
    refine jr_iload_n dX8_charge_60 rfl rfl ?_
    refine jr_iald dX8_charge_61 H (fun v15 H => ?_)
    refine jr_icmp_ge (tgt := 171) dX8_charge_62 (by decide) H (fun H => ?_) (fun H => ?_)
    · refine jr_iload dX8_charge_171 rfl ?_
      exact jr_iret rfl dX8_charge_173 H
    · refine jr_aload_n dX8_charge_65 rfl rfl ?_
      refine jr_iload_n dX8_charge_66 rfl rfl ?_
      refine jr_iload dX8_charge_67 rfl ?_
      obtain ⟨v17, h16, Hc, H⟩ := j_b2_some H
      refine jr_callV (ci := 3) [.int x2, .int x7] my_X3_letter mv_X3_letter ml_RX8_86 dX8_charge_69 rfl rfl (Nat.le_of_ble_eq_true rfl) rfl (c_X3_letter l (d + 1) F x1 x2 x7 h v17 h16 Hc) ?_
      refine jr_istore dX8_charge_72 (by decide) rfl (Or.inl rfl) ?_
      refine jr_iload dX8_charge_74 rfl ?_
      obtain ⟨v19, h18, Hc, H⟩ := j_b2_some H
      refine jr_callS [.int v17] my_X3_vowelOf ms_X3_vowelOf ml_RX8_90 dX8_charge_76 rfl rfl (Nat.le_of_ble_eq_true rfl) (c_X3_vowelOf l (d + 1) F v17 h16 v19 h18 Hc) ?_
      refine jr_istore dX8_charge_79 (by decide) rfl (Or.inl rfl) ?_
      refine jr_iload dX8_charge_81 rfl ?_
      refine jr_jn (fun J => ∀ (z20 : Int32) (h21 : jH), J z20 h21 = some (rR, hf) → jGo l (d + 2) none RX8 cX8_charge 11 (some .int) false 161 [some (.ref x0), some (.ref x1), some (.int x2), none, none, some (.int z20), none, some (.int x7), some (.int v17), none, none] [] h21 (some (.int rR)) hf) H (fun z20 h21 H => ?_) (fun J161 hJ161 H => ?_)
      · refine jr_iload dX8_charge_161 rfl ?_
        refine jr_istore dX8_charge_163 (by decide) rfl (Or.inl rfl) ?_
        refine jr_iinc (v := (x7 + 1)) dX8_charge_165 rfl rfl (by decide) rfl (Or.inl rfl) ?_
        refine jr_goto (tgt := 54) dX8_charge_168 (by decide) ?_
        refine jr_fgt 8 ?_
        exact ih _ _ _ _ H
      · refine jr_if_lt (tgt := 161) dX8_charge_83 (by decide) H (fun H => ?_) (fun H => ?_)
        · refine jr_fgt 6 ?_
          refine jr_fgt 9 ?_
          exact hJ161 _ _ H
        · refine jr_aload_n dX8_charge_86 rfl rfl ?_
          refine jr_getR fl_RX8_21 dX8_charge_87 H (fun v22 H => ?_)
          refine jr_iconst (v := 0) dX8_charge_90 (by decide) ?_
          refine jr_iload dX8_charge_91 rfl ?_
          refine jr_iast dX8_charge_93 H (fun h23 H => ?_)
          refine jr_aload_n dX8_charge_94 rfl rfl ?_
          refine jr_getR fl_RX8_21 dX8_charge_95 H (fun v24 H => ?_)
          refine jr_iconst (v := 4) dX8_charge_98 (by decide) ?_
          refine jr_iload dX8_charge_99 rfl ?_
          refine jr_iast dX8_charge_101 H (fun h25 H => ?_)
          refine jr_aload_n dX8_charge_102 rfl rfl ?_
          refine jr_getR fl_RX8_21 dX8_charge_103 H (fun v26 H => ?_)
          refine jr_bipush (v := 6) dX8_charge_106 (by decide) ?_
          refine jr_iload dX8_charge_108 rfl ?_
          refine jr_iload dX8_charge_110 rfl ?_
          refine jr_jn (fun J => ∀ (s27 : Int32) (s28 : Int32) (s29 : Nat) (h30 : jH), J s27 s28 s29 h30 = some (rR, hf) → jGo l (d + 2) none RX8 cX8_charge 11 (some .int) false 120 [some (.ref x0), some (.ref x1), some (.int x2), none, none, some (.int x5), none, some (.int x7), some (.int v17), some (.int v19), none] [.int s27, .int s28, .ref s29] h30 (some (.int rR)) hf) H (fun s27 s28 s29 h30 H => ?_) (fun J120 hJ120 H => ?_)
          · refine jr_iast dX8_charge_120 H (fun h31 H => ?_)
            refine jr_aload_n dX8_charge_121 rfl rfl ?_
            obtain ⟨v33, h32, Hc, H⟩ := j_b2_some H
            refine jr_callV (ci := 8) [] my_X8_value mv_X8_value ml_RX8_93 dX8_charge_122 rfl rfl (Nat.le_of_ble_eq_true rfl) rfl (c_X8_value l d F x0 h31 v33 h32 Hc) ?_
            refine jr_bipush (v := 99) dX8_charge_125 (by decide) ?_
            obtain ⟨v35, h34, Hc, H⟩ := j_b2_some H
            refine jr_callSN [.int v33, .int 99] my_X10_between ms_X10_between ml_RX8_96 dX8_charge_127 rfl rfl (Nat.le_of_ble_eq_true rfl) (c_X10_between l d F v33 99 h32 v35 h34 Hc) ?_
            refine jr_istore dX8_charge_130 (by decide) rfl (Or.inl rfl) ?_
            refine jr_aload_n dX8_charge_132 rfl rfl ?_
            refine jr_getR fl_RX8_11 dX8_charge_133 H (fun v36 H => ?_)
            refine jr_iload dX8_charge_136 rfl ?_
            refine jr_dup2 dX8_charge_138 rfl rfl ?_
            refine jr_iald dX8_charge_139 H (fun v37 H => ?_)
            refine jr_iload dX8_charge_140 rfl ?_
            refine jr_iadd dX8_charge_142 ?_
            refine jr_iast dX8_charge_143 H (fun h38 H => ?_)
            refine jr_iload dX8_charge_144 rfl ?_
            refine jr_iload dX8_charge_146 rfl ?_
            refine jr_iadd dX8_charge_148 ?_
            refine jr_istore dX8_charge_149 (by decide) rfl (Or.inl rfl) ?_
            refine jr_aload_n dX8_charge_151 rfl rfl ?_
            refine jr_getR fl_RX8_21 dX8_charge_152 H (fun v39 H => ?_)
            refine jr_iconst (v := 5) dX8_charge_155 (by decide) ?_
            refine jr_dup2 dX8_charge_156 rfl rfl ?_
            refine jr_iald dX8_charge_157 H (fun v40 H => ?_)
            refine jr_iconst (v := 1) dX8_charge_158 (by decide) ?_
            refine jr_iadd dX8_charge_159 ?_
            refine jr_iast dX8_charge_160 H (fun h41 H => ?_)
            refine jr_fgt 9 ?_
            refine jr_fgt 10 ?_
            exact hJ161 _ _ H
          · refine jr_icmp_ne (tgt := 119) dX8_charge_112 (by decide) H (fun H => ?_) (fun H => ?_)
            · refine jr_iconst (v := 1) dX8_charge_115 (by decide) ?_
              refine jr_goto (tgt := 120) dX8_charge_116 (by decide) ?_
              refine jr_fgt 6 ?_
              exact hJ120 _ _ _ _ H
            · refine jr_iconst (v := 0) dX8_charge_119 (by decide) ?_
              refine jr_fgt 6 ?_
              exact hJ120 _ _ _ _ H
set_option maxRecDepth 100000 in
set_option maxHeartbeats 4000000 in
theorem c_X8_charge (l : Launch) (d : Nat) (F : Nat) (a0 : Nat) (a1 : Nat) (a2 : Int32) (a3 : Int32) (a4 : Int32) (h : jH) (rR : Int32) (hf : jH) (H : f_X8_charge F a0 a1 a2 a3 a4 h = some (rR, hf)) : jh_sh h a0 = (8, 0) ∧ jMet l (d + 2) yX8_charge cX8_charge 11 (some .int) [.ref a0, .ref a1, .int a2, .int a3, .int a4] h (some (.int rR)) hf := by
  unfold f_X8_charge at H
  obtain ⟨hsh, H⟩ := j_gd_some H
  refine ⟨hsh, ?_⟩
  refine jMet.of false [some (.ref a0), some (.ref a1), some (.int a2), some (.int a3), some (.int a4), none, none, none, none, none, none] rfl (by decide) (by decide) (Nat.le_of_ble_eq_true rfl) (fun S0 q hq => by simpa [j_l, lv_args, j_v, Value.category] using hq) ?_
  refine jr_aload_n dX8_charge_0 rfl rfl ?_
  refine jr_getR fl_RX8_11 dX8_charge_1 H (fun v1 H => ?_)
  refine jr_iconst (v := 0) dX8_charge_4 (by decide) ?_
  obtain ⟨h2, Hc, H⟩ := Option.bind_eq_some_iff.mp H
  refine jr_callS [.ref v1, .int 0] my_J7_fill_53178 ms_J7_fill_53178 ml_RX8_75 dX8_charge_5 rfl rfl (Nat.le_of_ble_eq_true rfl) (c_J7_fill_53178 l (d + 1) F v1 0 h h2 Hc) ?_
  refine jr_aload_n dX8_charge_8 rfl rfl ?_
  refine jr_getR fl_RX8_21 dX8_charge_9 H (fun v3 H => ?_)
  refine jr_iconst (v := 1) dX8_charge_12 (by decide) ?_
  refine jr_iload_n dX8_charge_13 rfl rfl ?_
  refine jr_iast dX8_charge_14 H (fun h4 H => ?_)
  refine jr_aload_n dX8_charge_15 rfl rfl ?_
  refine jr_getR fl_RX8_21 dX8_charge_16 H (fun v5 H => ?_)
  refine jr_iconst (v := 2) dX8_charge_19 (by decide) ?_
  refine jr_iload dX8_charge_20 rfl ?_
  refine jr_bipush (v := 24) dX8_charge_22 (by decide) ?_
  refine jr_irem dX8_charge_24 H (fun v6 H => ?_)
  refine jr_iast dX8_charge_25 H (fun h7 H => ?_)
  refine jr_aload_n dX8_charge_26 rfl rfl ?_
  refine jr_getR fl_RX8_21 dX8_charge_27 H (fun v8 H => ?_)
  refine jr_iconst (v := 3) dX8_charge_30 (by decide) ?_
  refine jr_aload_n dX8_charge_31 rfl rfl ?_
  refine jr_getR fl_RX8_81 dX8_charge_32 H (fun v9 H => ?_)
  refine jr_iload_n dX8_charge_35 rfl rfl ?_
  refine jr_iald dX8_charge_36 H (fun v10 H => ?_)
  refine jr_iast dX8_charge_37 H (fun h11 H => ?_)
  refine jr_aload_n dX8_charge_38 rfl rfl ?_
  refine jr_getR fl_RX8_21 dX8_charge_39 H (fun v12 H => ?_)
  refine jr_iconst (v := 5) dX8_charge_42 (by decide) ?_
  refine jr_iconst (v := 0) dX8_charge_43 (by decide) ?_
  refine jr_iast dX8_charge_44 H (fun h13 H => ?_)
  refine jr_iconst (v := 0) dX8_charge_45 (by decide) ?_
  refine jr_istore dX8_charge_46 (by decide) rfl (Or.inl rfl) ?_
  refine jr_iconst (v := (-1)) dX8_charge_48 (by decide) ?_
  refine jr_istore dX8_charge_49 (by decide) rfl (Or.inl rfl) ?_
  refine jr_iconst (v := 0) dX8_charge_51 (by decide) ?_
  refine jr_istore dX8_charge_52 (by decide) rfl (Or.inl rfl) ?_
  refine jr_fgt 3 ?_
  refine jr_fgt 4 ?_
  exact s_X8_charge_L54 l d F a0 a1 a2 F 0 (-1) 0 h13 H
set_option maxRecDepth 100000 in
set_option maxHeartbeats 4000000 in
theorem s_X10_toll_L49 (l : Launch) (d : Nat) (F : Nat) (x0 : Nat) (x3 : Int32) {rR : Int32} {hf : jH} : ∀ (n : Nat) (x4 : Int32) (h : jH), f_X10_toll_L49 F x0 x3 n x4 h = some (rR, hf) → jGo l (d + 3) none RX10 cX10_toll 5 (some .int) false 49 [some (.ref x0), none, none, some (.int x3), some (.int x4)] [] h (some (.int rR)) hf := by
  intro n
  induction n with
  | zero =>
    intro x4 h H
    cases H
  | succ n ih =>
    intro x4 h H
    unfold f_X10_toll_L49 at H
    refine jr_iload dX10_toll_49 rfl ?_
    refine jr_iconst (v := 5) dX10_toll_51 (by decide) ?_
    refine jr_icmp_ge (tgt := 79) dX10_toll_52 (by decide) H (fun H => ?_) (fun H => ?_)
    · refine jr_iload_n dX10_toll_79 rfl rfl ?_
      exact jr_iret rfl dX10_toll_80 H
    · refine jr_aload_n dX10_toll_55 rfl rfl ?_
      refine jr_getR fl_RX10_19 dX10_toll_56 H (fun v13 H => ?_)
      refine jr_aload_n dX10_toll_59 rfl rfl ?_
      refine jr_getR fl_RX10_92 dX10_toll_60 H (fun v14 H => ?_)
      refine jr_getR fl_RX10_216 dX10_toll_63 H (fun v15 H => ?_)
      refine jr_iload dX10_toll_66 rfl ?_
      refine jr_iald dX10_toll_68 H (fun v16 H => ?_)
      refine jr_i2l dX10_toll_69 ?_
      obtain ⟨h17, Hc, H⟩ := Option.bind_eq_some_iff.mp H
      refine jr_callV (ci := 6) [.long (v16.toInt64)] my_X6_add mv_X6_add ml_RX10_219 dX10_toll_70 rfl rfl (Nat.le_of_ble_eq_true rfl) rfl (c_X6_add l (d + 2) F v13 (v16.toInt64) h h17 Hc) ?_
      refine jr_iinc (v := (x4 + 1)) dX10_toll_73 rfl rfl (by decide) rfl (Or.inl rfl) ?_
      refine jr_goto (tgt := 49) dX10_toll_76 (by decide) ?_
      exact ih _ _ H
set_option maxRecDepth 100000 in
set_option maxHeartbeats 4000000 in
theorem c_X10_toll (l : Launch) (d : Nat) (F : Nat) (a0 : Nat) (a1 : Int32) (a2 : Int32) (h : jH) (rR : Int32) (hf : jH) (H : f_X10_toll F a0 a1 a2 h = some (rR, hf)) : jh_sh h a0 = (10, 0) ∧ jMet l (d + 3) yX10_toll cX10_toll 5 (some .int) [.ref a0, .int a1, .int a2] h (some (.int rR)) hf := by
  unfold f_X10_toll at H
  obtain ⟨hsh, H⟩ := j_gd_some H
  refine ⟨hsh, ?_⟩
  refine jMet.of false [some (.ref a0), some (.int a1), some (.int a2), none, none] rfl (by decide) (by decide) (Nat.le_of_ble_eq_true rfl) (fun S0 q hq => by simpa [j_l, lv_args, j_v, Value.category] using hq) ?_
  refine jr_aload_n dX10_toll_0 rfl rfl ?_
  refine jr_iload_n dX10_toll_1 rfl rfl ?_
  obtain ⟨v2, h1, Hc, H⟩ := j_b2_some H
  refine jr_callV (ci := 10) [.int a1] my_X10_isWord mv_X10_isWord ml_RX10_136 dX10_toll_2 rfl rfl (Nat.le_of_ble_eq_true rfl) rfl (c_X10_isWord l (d + 2) F a0 a1 h v2 h1 Hc) ?_
  refine jr_if_eq (tgt := 16) dX10_toll_5 (by decide) H (fun H => ?_) (fun H => ?_)
  · refine jr_iconst (v := (-1)) dX10_toll_16 (by decide) ?_
    exact jr_iret rfl dX10_toll_17 H
  · refine jr_aload_n dX10_toll_8 rfl rfl ?_
    refine jr_iload_n dX10_toll_9 rfl rfl ?_
    obtain ⟨v4, h3, Hc, H⟩ := j_b2_some H
    refine jr_callV (ci := 10) [.int a2] my_X10_isStation mv_X10_isStation ml_RX10_191 dX10_toll_10 rfl rfl (Nat.le_of_ble_eq_true rfl) rfl (c_X10_isStation l (d + 2) F a0 a2 h1 v4 h3 Hc) ?_
    refine jr_if_ne (tgt := 18) dX10_toll_13 (by decide) H (fun H => ?_) (fun H => ?_)
    · refine jr_iconst (v := (-1)) dX10_toll_16 (by decide) ?_
      exact jr_iret rfl dX10_toll_17 H
    · refine jr_aload_n dX10_toll_18 rfl rfl ?_
      refine jr_getR fl_RX10_92 dX10_toll_19 H (fun v5 H => ?_)
      refine jr_aload_n dX10_toll_22 rfl rfl ?_
      refine jr_getR fl_RX10_26 dX10_toll_23 H (fun v6 H => ?_)
      refine jr_iload_n dX10_toll_26 rfl rfl ?_
      refine jr_iload_n dX10_toll_27 rfl rfl ?_
      refine jr_aload_n dX10_toll_28 rfl rfl ?_
      refine jr_getR fl_RX10_40 dX10_toll_29 H (fun v7 H => ?_)
      refine jr_getI fl_RX10_206 (by decide) dX10_toll_32 H (fun v8 H => ?_)
      obtain ⟨v10, h9, Hc, H⟩ := j_b2_some H
      refine jr_callV (ci := 8) [.ref v6, .int a1, .int a2, .int v8] my_X8_charge mv_X8_charge ml_RX10_209 dX10_toll_35 rfl rfl (Nat.le_of_ble_eq_true rfl) rfl (c_X8_charge l d F v5 v6 a1 a2 v8 h3 v10 h9 Hc) ?_
      refine jr_istore_n dX10_toll_38 rfl (by decide) rfl (Or.inl rfl) ?_
      refine jr_aload_n dX10_toll_39 rfl rfl ?_
      refine jr_getR fl_RX10_19 dX10_toll_40 H (fun v11 H => ?_)
      obtain ⟨h12, Hc, H⟩ := Option.bind_eq_some_iff.mp H
      refine jr_callV (ci := 6) [] my_X6_clear mv_X6_clear ml_RX10_213 dX10_toll_43 rfl rfl (Nat.le_of_ble_eq_true rfl) rfl (c_X6_clear l (d + 2) F v11 h9 h12 Hc) ?_
      refine jr_iconst (v := 0) dX10_toll_46 (by decide) ?_
      refine jr_istore dX10_toll_47 (by decide) rfl (Or.inl rfl) ?_
      refine jr_fgt 1 ?_
      refine jr_fgt 2 ?_
      exact s_X10_toll_L49 l d F a0 v10 F 0 h12 H
set_option maxRecDepth 100000 in
set_option maxHeartbeats 4000000 in
theorem c_X10_move (l : Launch) (d : Nat) (F : Nat) (a0 : Nat) (a1 : Int32) (a2 : Int32) (h : jH) (rR : Int32) (hf : jH) (H : f_X10_move F a0 a1 a2 h = some (rR, hf)) : jh_sh h a0 = (10, 0) ∧ jMet l (d + 1) yX10_move cX10_move 4 (some .int) [.ref a0, .int a1, .int a2] h (some (.int rR)) hf := by
  unfold f_X10_move at H
  obtain ⟨hsh, H⟩ := j_gd_some H
  refine ⟨hsh, ?_⟩
  refine jMet.of false [some (.ref a0), some (.int a1), some (.int a2), none] rfl (by decide) (by decide) (Nat.le_of_ble_eq_true rfl) (fun S0 q hq => by simpa [j_l, lv_args, j_v, Value.category] using hq) ?_
  refine jr_aload_n dX10_move_0 rfl rfl ?_
  refine jr_iload_n dX10_move_1 rfl rfl ?_
  obtain ⟨v2, h1, Hc, H⟩ := j_b2_some H
  refine jr_callV (ci := 10) [.int a1] my_X10_isTraveller mv_X10_isTraveller ml_RX10_159 dX10_move_2 rfl rfl (Nat.le_of_ble_eq_true rfl) rfl (c_X10_isTraveller l d F a0 a1 h v2 h1 Hc) ?_
  refine jr_if_eq (tgt := 17) dX10_move_5 (by decide) H (fun H => ?_) (fun H => ?_)
  · refine jr_iconst (v := (-1)) dX10_move_17 (by decide) ?_
    exact jr_iret rfl dX10_move_18 H
  · refine jr_iload_n dX10_move_8 rfl rfl ?_
    refine jr_if_lt (tgt := 17) dX10_move_9 (by decide) H (fun H => ?_) (fun H => ?_)
    · refine jr_iconst (v := (-1)) dX10_move_17 (by decide) ?_
      exact jr_iret rfl dX10_move_18 H
    · refine jr_iload_n dX10_move_12 rfl rfl ?_
      refine jr_iconst (v := 1) dX10_move_13 (by decide) ?_
      refine jr_icmp_le (tgt := 19) dX10_move_14 (by decide) H (fun H => ?_) (fun H => ?_)
      · refine jr_aload_n dX10_move_19 rfl rfl ?_
        refine jr_getR fl_RX10_40 dX10_move_20 H (fun v3 H => ?_)
        refine jr_getR fl_RX10_162 dX10_move_23 H (fun v4 H => ?_)
        refine jr_iload_n dX10_move_26 rfl rfl ?_
        refine jr_iald dX10_move_27 H (fun v5 H => ?_)
        refine jr_iload_n dX10_move_28 rfl rfl ?_
        refine jr_iconst (v := 1) dX10_move_29 (by decide) ?_
        refine jr_jn (fun J => ∀ (s6 : Int32) (s7 : Int32) (h8 : jH), J s6 s7 h8 = some (rR, hf) → jGo l (d + 1) none RX10 cX10_move 4 (some .int) false 38 [some (.ref a0), some (.int a1), none, none] [.int s6, .int s7] h8 (some (.int rR)) hf) H (fun s6 s7 h8 H => ?_) (fun J38 hJ38 H => ?_)
        · refine jr_iadd dX10_move_38 ?_
          refine jr_istore_n dX10_move_39 rfl (by decide) rfl (Or.inl rfl) ?_
          refine jr_aload_n dX10_move_40 rfl rfl ?_
          refine jr_iload_n dX10_move_41 rfl rfl ?_
          obtain ⟨v10, h9, Hc, H⟩ := j_b2_some H
          refine jr_callV (ci := 10) [.int (s7 + s6)] my_X10_isStation mv_X10_isStation ml_RX10_191 dX10_move_42 rfl rfl (Nat.le_of_ble_eq_true rfl) rfl (c_X10_isStation l d F a0 (s7 + s6) h8 v10 h9 Hc) ?_
          refine jr_if_ne (tgt := 51) dX10_move_45 (by decide) H (fun H => ?_) (fun H => ?_)
          · refine jr_bipush (v := (-2)) dX10_move_48 (by decide) ?_
            exact jr_iret rfl dX10_move_50 H
          · refine jr_aload_n dX10_move_51 rfl rfl ?_
            refine jr_getR fl_RX10_40 dX10_move_52 H (fun v11 H => ?_)
            refine jr_getR fl_RX10_162 dX10_move_55 H (fun v12 H => ?_)
            refine jr_iload_n dX10_move_58 rfl rfl ?_
            refine jr_iload_n dX10_move_59 rfl rfl ?_
            refine jr_iast dX10_move_60 H (fun h13 H => ?_)
            refine jr_iload_n dX10_move_61 rfl rfl ?_
            exact jr_iret rfl dX10_move_62 H
        · refine jr_icmp_ne (tgt := 37) dX10_move_30 (by decide) H (fun H => ?_) (fun H => ?_)
          · refine jr_iconst (v := 1) dX10_move_33 (by decide) ?_
            refine jr_goto (tgt := 38) dX10_move_34 (by decide) ?_
            refine jr_fgt 2 ?_
            exact hJ38 _ _ _ H
          · refine jr_iconst (v := (-1)) dX10_move_37 (by decide) ?_
            refine jr_fgt 2 ?_
            exact hJ38 _ _ _ H
      · refine jr_iconst (v := (-1)) dX10_move_17 (by decide) ?_
        exact jr_iret rfl dX10_move_18 H
set_option maxRecDepth 100000 in
set_option maxHeartbeats 4000000 in
theorem c_X10_goes (l : Launch) (d : Nat) (F : Nat) (a0 : Nat) (a1 : Int32) (a2 : Int32) (h : jH) (rR : Int32) (hf : jH) (H : f_X10_goes F a0 a1 a2 h = some (rR, hf)) : jh_sh h a0 = (10, 0) ∧ jMet l (d + 2) yX10_goes cX10_goes 4 (some .int) [.ref a0, .int a1, .int a2] h (some (.int rR)) hf := by
  unfold f_X10_goes at H
  obtain ⟨hsh, H⟩ := j_gd_some H
  refine ⟨hsh, ?_⟩
  refine jMet.of false [some (.ref a0), some (.int a1), some (.int a2), none] rfl (by decide) (by decide) (Nat.le_of_ble_eq_true rfl) (fun S0 q hq => by simpa [j_l, lv_args, j_v, Value.category] using hq) ?_
  refine jr_aload_n dX10_goes_0 rfl rfl ?_
  refine jr_iload_n dX10_goes_1 rfl rfl ?_
  refine jr_iload_n dX10_goes_2 rfl rfl ?_
  obtain ⟨v2, h1, Hc, H⟩ := j_b2_some H
  refine jr_callV (ci := 10) [.int a1, .int a2] my_X10_move mv_X10_move ml_RX10_419 dX10_goes_3 rfl rfl (Nat.le_of_ble_eq_true rfl) rfl (c_X10_move l d F a0 a1 a2 h v2 h1 Hc) ?_
  refine jr_istore_n dX10_goes_6 rfl (by decide) rfl (Or.inl rfl) ?_
  refine jr_iload_n dX10_goes_7 rfl rfl ?_
  refine jr_if_lt (tgt := 24) dX10_goes_8 (by decide) H (fun H => ?_) (fun H => ?_)
  · refine jr_iload_n dX10_goes_24 rfl rfl ?_
    exact jr_iret rfl dX10_goes_25 H
  · refine jr_aload_n dX10_goes_11 rfl rfl ?_
    refine jr_getR fl_RX10_40 dX10_goes_12 H (fun v3 H => ?_)
    refine jr_dup dX10_goes_15 rfl ?_
    refine jr_getI fl_RX10_206 (by decide) dX10_goes_16 H (fun v4 H => ?_)
    refine jr_iconst (v := 1) dX10_goes_19 (by decide) ?_
    refine jr_iadd dX10_goes_20 ?_
    refine jr_putI fl_RX10_206 (fun z => by cases z) dX10_goes_21 H (fun h5 H => ?_)
    refine jr_iload_n dX10_goes_24 rfl rfl ?_
    exact jr_iret rfl dX10_goes_25 H
set_option maxRecDepth 100000 in
set_option maxHeartbeats 4000000 in
theorem c_X4_slot (l : Launch) (d : Nat) (F : Nat) (a0 : Nat) (a1 : Int32) (h : jH) (rR : Int32) (hf : jH) (H : f_X4_slot F a0 a1 h = some (rR, hf)) : jh_sh h a0 = (4, 0) ∧ jMet l (d + 0) yX4_slot cX4_slot 2 (some .int) [.ref a0, .int a1] h (some (.int rR)) hf := by
  unfold f_X4_slot at H
  obtain ⟨hsh, H⟩ := j_gd_some H
  refine ⟨hsh, ?_⟩
  refine jMet.of false [some (.ref a0), some (.int a1)] rfl (by decide) (by decide) (Nat.le_of_ble_eq_true rfl) (fun S0 q hq => by simpa [j_l, lv_args, j_v, Value.category] using hq) ?_
  refine jr_aload_n dX4_slot_0 rfl rfl ?_
  refine jr_getI fl_RX4_16 (by decide) dX4_slot_1 H (fun v1 H => ?_)
  refine jr_iload_n dX4_slot_4 rfl rfl ?_
  refine jr_iadd dX4_slot_5 ?_
  refine jr_bipush (v := 13) dX4_slot_6 (by decide) ?_
  refine jr_irem dX4_slot_8 H (fun v2 H => ?_)
  exact jr_iret rfl dX4_slot_9 H
set_option maxRecDepth 100000 in
set_option maxHeartbeats 4000000 in
theorem c_X4_confirm (l : Launch) (d : Nat) (F : Nat) (a0 : Nat) (h : jH) (hf : jH) (H : f_X4_confirm F a0 h = some hf) : jh_sh h a0 = (4, 0) ∧ jMet l (d + 1) yX4_confirm cX4_confirm 1 none [.ref a0] h none hf := by
  unfold f_X4_confirm at H
  obtain ⟨hsh, H⟩ := j_gd_some H
  refine ⟨hsh, ?_⟩
  refine jMet.of false [some (.ref a0)] rfl (by decide) (by decide) (Nat.le_of_ble_eq_true rfl) (fun S0 q hq => by simpa [j_l, lv_args, j_v, Value.category] using hq) ?_
  refine jr_aload_n dX4_confirm_0 rfl rfl ?_
  refine jr_getI fl_RX4_20 (by decide) dX4_confirm_1 H (fun v1 H => ?_)
  refine jr_bipush (v := 12) dX4_confirm_4 (by decide) ?_
  refine jr_icmp_ge (tgt := 22) dX4_confirm_6 (by decide) H (fun H => ?_) (fun H => ?_)
  · refine jr_aload_n dX4_confirm_22 rfl rfl ?_
    refine jr_aload_n dX4_confirm_23 rfl rfl ?_
    refine jr_iconst (v := 1) dX4_confirm_24 (by decide) ?_
    obtain ⟨v3, h2, Hc, H⟩ := j_b2_some H
    refine jr_callV (ci := 4) [.int 1] my_X4_slot mv_X4_slot ml_RX4_23 dX4_confirm_25 rfl rfl (Nat.le_of_ble_eq_true rfl) rfl (c_X4_slot l d F a0 1 h v3 h2 Hc) ?_
    refine jr_putI fl_RX4_16 (fun z => by cases z) dX4_confirm_28 H (fun h4 H => ?_)
    exact jr_vret rfl dX4_confirm_31 H
  · refine jr_aload_n dX4_confirm_9 rfl rfl ?_
    refine jr_dup dX4_confirm_10 rfl ?_
    refine jr_getI fl_RX4_20 (by decide) dX4_confirm_11 H (fun v5 H => ?_)
    refine jr_iconst (v := 1) dX4_confirm_14 (by decide) ?_
    refine jr_iadd dX4_confirm_15 ?_
    refine jr_putI fl_RX4_20 (fun z => by cases z) dX4_confirm_16 H (fun h6 H => ?_)
    refine jr_goto (tgt := 31) dX4_confirm_19 (by decide) ?_
    exact jr_vret rfl dX4_confirm_31 H
set_option maxRecDepth 100000 in
set_option maxHeartbeats 4000000 in
theorem c_X7_copy (l : Launch) (d : Nat) (F : Nat) (a0 : Nat) (a1 : Nat) (h : jH) (hf : jH) (H : f_X7_copy F a0 a1 h = some hf) : jh_sh h a0 = (7, 0) ∧ jMet l (d + 1) yX7_copy cX7_copy 2 none [.ref a0, .ref a1] h none hf := by
  unfold f_X7_copy at H
  obtain ⟨hsh, H⟩ := j_gd_some H
  refine ⟨hsh, ?_⟩
  refine jMet.of false [some (.ref a0), some (.ref a1)] rfl (by decide) (by decide) (Nat.le_of_ble_eq_true rfl) (fun S0 q hq => by simpa [j_l, lv_args, j_v, Value.category] using hq) ?_
  refine jr_aload_n dX7_copy_0 rfl rfl ?_
  refine jr_aload_n dX7_copy_1 rfl rfl ?_
  refine jr_getI fl_RX7_24 (by decide) dX7_copy_2 H (fun v1 H => ?_)
  refine jr_putI fl_RX7_24 (fun z => by cases z) dX7_copy_5 H (fun h2 H => ?_)
  refine jr_aload_n dX7_copy_8 rfl rfl ?_
  refine jr_aload_n dX7_copy_9 rfl rfl ?_
  refine jr_getI fl_RX7_28 (by decide) dX7_copy_10 H (fun v3 H => ?_)
  refine jr_putI fl_RX7_28 (fun z => by cases z) dX7_copy_13 H (fun h4 H => ?_)
  refine jr_aload_n dX7_copy_16 rfl rfl ?_
  refine jr_getR fl_RX7_9 dX7_copy_17 H (fun v5 H => ?_)
  refine jr_iconst (v := 0) dX7_copy_20 (by decide) ?_
  refine jr_aload_n dX7_copy_21 rfl rfl ?_
  refine jr_getR fl_RX7_9 dX7_copy_22 H (fun v6 H => ?_)
  refine jr_iconst (v := 0) dX7_copy_25 (by decide) ?_
  refine jr_iconst (v := 4) dX7_copy_26 (by decide) ?_
  refine jr_copy ml_RX7_31 ac_n ac_s ac_i dX7_copy_27 (Nat.le_of_ble_eq_true rfl) H (fun h7 H => ?_)
  refine jr_aload_n dX7_copy_30 rfl rfl ?_
  refine jr_getR fl_RX7_15 dX7_copy_31 H (fun v8 H => ?_)
  refine jr_iconst (v := 0) dX7_copy_34 (by decide) ?_
  refine jr_aload_n dX7_copy_35 rfl rfl ?_
  refine jr_getR fl_RX7_15 dX7_copy_36 H (fun v9 H => ?_)
  refine jr_iconst (v := 0) dX7_copy_39 (by decide) ?_
  refine jr_iconst (v := 4) dX7_copy_40 (by decide) ?_
  refine jr_copy ml_RX7_31 ac_n ac_s ac_i dX7_copy_41 (Nat.le_of_ble_eq_true rfl) H (fun h10 H => ?_)
  refine jr_aload_n dX7_copy_44 rfl rfl ?_
  refine jr_getR fl_RX7_18 dX7_copy_45 H (fun v11 H => ?_)
  refine jr_iconst (v := 0) dX7_copy_48 (by decide) ?_
  refine jr_aload_n dX7_copy_49 rfl rfl ?_
  refine jr_getR fl_RX7_18 dX7_copy_50 H (fun v12 H => ?_)
  refine jr_iconst (v := 0) dX7_copy_53 (by decide) ?_
  refine jr_iconst (v := 4) dX7_copy_54 (by decide) ?_
  refine jr_copy ml_RX7_31 ac_n ac_s ac_i dX7_copy_55 (Nat.le_of_ble_eq_true rfl) H (fun h13 H => ?_)
  refine jr_aload_n dX7_copy_58 rfl rfl ?_
  refine jr_getR fl_RX7_21 dX7_copy_59 H (fun v14 H => ?_)
  refine jr_iconst (v := 0) dX7_copy_62 (by decide) ?_
  refine jr_aload_n dX7_copy_63 rfl rfl ?_
  refine jr_getR fl_RX7_21 dX7_copy_64 H (fun v15 H => ?_)
  refine jr_iconst (v := 0) dX7_copy_67 (by decide) ?_
  refine jr_bipush (v := 30) dX7_copy_68 (by decide) ?_
  refine jr_copy ml_RX7_31 ac_n ac_s ac_i dX7_copy_70 (Nat.le_of_ble_eq_true rfl) H (fun h16 H => ?_)
  exact jr_vret rfl dX7_copy_73 H
set_option maxRecDepth 100000 in
set_option maxHeartbeats 4000000 in
theorem c_X4_mark (l : Launch) (d : Nat) (F : Nat) (a0 : Nat) (a1 : Nat) (h : jH) (hf : jH) (H : f_X4_mark F a0 a1 h = some hf) : jh_sh h a0 = (4, 0) ∧ jMet l (d + 2) yX4_mark cX4_mark 2 none [.ref a0, .ref a1] h none hf := by
  unfold f_X4_mark at H
  obtain ⟨hsh, H⟩ := j_gd_some H
  refine ⟨hsh, ?_⟩
  refine jMet.of false [some (.ref a0), some (.ref a1)] rfl (by decide) (by decide) (Nat.le_of_ble_eq_true rfl) (fun S0 q hq => by simpa [j_l, lv_args, j_v, Value.category] using hq) ?_
  refine jr_aload_n dX4_mark_0 rfl rfl ?_
  refine jr_getR fl_RX4_11 dX4_mark_1 H (fun v1 H => ?_)
  refine jr_aload_n dX4_mark_4 rfl rfl ?_
  refine jr_aload_n dX4_mark_5 rfl rfl ?_
  refine jr_getI fl_RX4_20 (by decide) dX4_mark_6 H (fun v2 H => ?_)
  obtain ⟨v4, h3, Hc, H⟩ := j_b2_some H
  refine jr_callV (ci := 4) [.int v2] my_X4_slot mv_X4_slot ml_RX4_23 dX4_mark_9 rfl rfl (Nat.le_of_ble_eq_true rfl) rfl (c_X4_slot l (d + 1) F a0 v2 h v4 h3 Hc) ?_
  refine jr_aald dX4_mark_12 H (fun v5 H => ?_)
  refine jr_aload_n dX4_mark_13 rfl rfl ?_
  obtain ⟨h6, Hc, H⟩ := Option.bind_eq_some_iff.mp H
  refine jr_callV (ci := 7) [.ref a1] my_X7_copy mv_X7_copy ml_RX4_27 dX4_mark_14 rfl rfl (Nat.le_of_ble_eq_true rfl) rfl (c_X7_copy l d F v5 a1 h3 h6 Hc) ?_
  exact jr_vret rfl dX4_mark_17 H
set_option maxRecDepth 100000 in
set_option maxHeartbeats 4000000 in
theorem c_X10_walk (l : Launch) (d : Nat) (F : Nat) (a0 : Nat) (a1 : Int32) (a2 : Int32) (h : jH) (rR : Int32) (hf : jH) (H : f_X10_walk F a0 a1 a2 h = some (rR, hf)) : jh_sh h a0 = (10, 0) ∧ jMet l (d + 3) yX10_walk cX10_walk 4 (some .int) [.ref a0, .int a1, .int a2] h (some (.int rR)) hf := by
  unfold f_X10_walk at H
  obtain ⟨hsh, H⟩ := j_gd_some H
  refine ⟨hsh, ?_⟩
  refine jMet.of false [some (.ref a0), some (.int a1), some (.int a2), none] rfl (by decide) (by decide) (Nat.le_of_ble_eq_true rfl) (fun S0 q hq => by simpa [j_l, lv_args, j_v, Value.category] using hq) ?_
  refine jr_aload_n dX10_walk_0 rfl rfl ?_
  refine jr_getR fl_RX10_47 dX10_walk_1 H (fun v1 H => ?_)
  refine jr_aload_n dX10_walk_4 rfl rfl ?_
  refine jr_getR fl_RX10_40 dX10_walk_5 H (fun v2 H => ?_)
  obtain ⟨h3, Hc, H⟩ := Option.bind_eq_some_iff.mp H
  refine jr_callV (ci := 4) [.ref v2] my_X4_mark mv_X4_mark ml_RX10_223 dX10_walk_8 rfl rfl (Nat.le_of_ble_eq_true rfl) rfl (c_X4_mark l d F v1 v2 h h3 Hc) ?_
  refine jr_aload_n dX10_walk_11 rfl rfl ?_
  refine jr_iload_n dX10_walk_12 rfl rfl ?_
  refine jr_iload_n dX10_walk_13 rfl rfl ?_
  obtain ⟨v5, h4, Hc, H⟩ := j_b2_some H
  refine jr_callV (ci := 10) [.int a1, .int a2] my_X10_goes mv_X10_goes ml_RX10_227 dX10_walk_14 rfl rfl (Nat.le_of_ble_eq_true rfl) rfl (c_X10_goes l d F a0 a1 a2 h3 v5 h4 Hc) ?_
  refine jr_istore_n dX10_walk_17 rfl (by decide) rfl (Or.inl rfl) ?_
  refine jr_iload_n dX10_walk_18 rfl rfl ?_
  refine jr_if_lt (tgt := 29) dX10_walk_19 (by decide) H (fun H => ?_) (fun H => ?_)
  · refine jr_iload_n dX10_walk_29 rfl rfl ?_
    exact jr_iret rfl dX10_walk_30 H
  · refine jr_aload_n dX10_walk_22 rfl rfl ?_
    refine jr_getR fl_RX10_47 dX10_walk_23 H (fun v6 H => ?_)
    obtain ⟨h7, Hc, H⟩ := Option.bind_eq_some_iff.mp H
    refine jr_callV (ci := 4) [] my_X4_confirm mv_X4_confirm ml_RX10_230 dX10_walk_26 rfl rfl (Nat.le_of_ble_eq_true rfl) rfl (c_X4_confirm l (d + 1) F v6 h4 h7 Hc) ?_
    refine jr_iload_n dX10_walk_29 rfl rfl ?_
    exact jr_iret rfl dX10_walk_30 H
set_option maxRecDepth 100000 in
set_option maxHeartbeats 4000000 in
theorem c_X10_pause (l : Launch) (d : Nat) (F : Nat) (a0 : Nat) (a1 : Int32) (h : jH) (rR : Int32) (hf : jH) (H : f_X10_pause F a0 a1 h = some (rR, hf)) : jh_sh h a0 = (10, 0) ∧ jMet l (d + 3) yX10_pause cX10_pause 2 (some .int) [.ref a0, .int a1] h (some (.int rR)) hf := by
  unfold f_X10_pause at H
  obtain ⟨hsh, H⟩ := j_gd_some H
  refine ⟨hsh, ?_⟩
  refine jMet.of false [some (.ref a0), some (.int a1)] rfl (by decide) (by decide) (Nat.le_of_ble_eq_true rfl) (fun S0 q hq => by simpa [j_l, lv_args, j_v, Value.category] using hq) ?_
  refine jr_iload_n dX10_pause_0 rfl rfl ?_
  refine jr_if_lt (tgt := 10) dX10_pause_1 (by decide) H (fun H => ?_) (fun H => ?_)
  · refine jr_iconst (v := (-1)) dX10_pause_10 (by decide) ?_
    exact jr_iret rfl dX10_pause_11 H
  · refine jr_iload_n dX10_pause_4 rfl rfl ?_
    refine jr_bipush (v := 99) dX10_pause_5 (by decide) ?_
    refine jr_icmp_le (tgt := 12) dX10_pause_7 (by decide) H (fun H => ?_) (fun H => ?_)
    · refine jr_iload_n dX10_pause_12 rfl rfl ?_
      refine jr_jn (fun J => ∀ (h1 : jH), J h1 = some (rR, hf) → jGo l (d + 3) none RX10 cX10_pause 2 (some .int) false 34 [some (.ref a0), some (.int a1)] [] h1 (some (.int rR)) hf) H (fun h1 H => ?_) (fun J34 hJ34 H => ?_)
      · refine jr_aload_n dX10_pause_34 rfl rfl ?_
        refine jr_getR fl_RX10_40 dX10_pause_35 H (fun v2 H => ?_)
        refine jr_dup dX10_pause_38 rfl ?_
        refine jr_getI fl_RX10_206 (by decide) dX10_pause_39 H (fun v3 H => ?_)
        refine jr_iload_n dX10_pause_42 rfl rfl ?_
        refine jr_iadd dX10_pause_43 ?_
        refine jr_putI fl_RX10_206 (fun z => by cases z) dX10_pause_44 H (fun h4 H => ?_)
        refine jr_aload_n dX10_pause_47 rfl rfl ?_
        refine jr_getR fl_RX10_40 dX10_pause_48 H (fun v5 H => ?_)
        refine jr_getI fl_RX10_206 (by decide) dX10_pause_51 H (fun v6 H => ?_)
        exact jr_iret rfl dX10_pause_54 H
      · refine jr_if_le (tgt := 34) dX10_pause_13 (by decide) H (fun H => ?_) (fun H => ?_)
        · exact hJ34 _ H
        · refine jr_aload_n dX10_pause_16 rfl rfl ?_
          refine jr_getR fl_RX10_47 dX10_pause_17 H (fun v7 H => ?_)
          refine jr_aload_n dX10_pause_20 rfl rfl ?_
          refine jr_getR fl_RX10_40 dX10_pause_21 H (fun v8 H => ?_)
          obtain ⟨h9, Hc, H⟩ := Option.bind_eq_some_iff.mp H
          refine jr_callV (ci := 4) [.ref v8] my_X4_mark mv_X4_mark ml_RX10_223 dX10_pause_24 rfl rfl (Nat.le_of_ble_eq_true rfl) rfl (c_X4_mark l d F v7 v8 h h9 Hc) ?_
          refine jr_aload_n dX10_pause_27 rfl rfl ?_
          refine jr_getR fl_RX10_47 dX10_pause_28 H (fun v10 H => ?_)
          obtain ⟨h11, Hc, H⟩ := Option.bind_eq_some_iff.mp H
          refine jr_callV (ci := 4) [] my_X4_confirm mv_X4_confirm ml_RX10_230 dX10_pause_31 rfl rfl (Nat.le_of_ble_eq_true rfl) rfl (c_X4_confirm l (d + 1) F v10 h9 h11 Hc) ?_
          exact hJ34 _ H
    · refine jr_iconst (v := (-1)) dX10_pause_10 (by decide) ?_
      exact jr_iret rfl dX10_pause_11 H
set_option maxRecDepth 100000 in
set_option maxHeartbeats 4000000 in
theorem c_X3_means (l : Launch) (d : Nat) (F : Nat) (a0 : Nat) (a1 : Int32) (a2 : Int32) (h : jH) (rR : Int32) (hf : jH) (H : f_X3_means F a0 a1 a2 h = some (rR, hf)) : jh_sh h a0 = (3, 0) ∧ jMet l (d + 0) yX3_means cX3_means 3 (some .boolean) [.ref a0, .int a1, .int a2] h (some (.int rR)) hf := by
  unfold f_X3_means at H
  obtain ⟨hsh, H⟩ := j_gd_some H
  refine ⟨hsh, ?_⟩
  refine jMet.of false [some (.ref a0), some (.int a1), some (.int a2)] rfl (by decide) (by decide) (Nat.le_of_ble_eq_true rfl) (fun S0 q hq => by simpa [j_l, lv_args, j_v, Value.category] using hq) ?_
  refine jr_aload_n dX3_means_0 rfl rfl ?_
  refine jr_getR fl_RX3_15 dX3_means_1 H (fun v1 H => ?_)
  refine jr_iload_n dX3_means_4 rfl rfl ?_
  refine jr_iald dX3_means_5 H (fun v2 H => ?_)
  refine jr_iload_n dX3_means_6 rfl rfl ?_
  refine jr_jn (fun J => ∀ (h3 : jH), J h3 = some (rR, hf) → jGo l (d + 0) none RX3 cX3_means 3 (some .boolean) false 20 [none, none, none] [] h3 (some (.int rR)) hf) H (fun h3 H => ?_) (fun J20 hJ20 H => ?_)
  · refine jr_iconst (v := 1) dX3_means_20 (by decide) ?_
    refine jr_goto (tgt := 25) dX3_means_21 (by decide) ?_
    exact jr_zret rfl rfl dX3_means_25 H
  · refine jr_icmp_eq (tgt := 20) dX3_means_7 (by decide) H (fun H => ?_) (fun H => ?_)
    · refine jr_fgt 0 ?_
      refine jr_fgt 1 ?_
      refine jr_fgt 2 ?_
      exact hJ20 _ H
    · refine jr_aload_n dX3_means_10 rfl rfl ?_
      refine jr_getR fl_RX3_18 dX3_means_11 H (fun v4 H => ?_)
      refine jr_iload_n dX3_means_14 rfl rfl ?_
      refine jr_iald dX3_means_15 H (fun v5 H => ?_)
      refine jr_iload_n dX3_means_16 rfl rfl ?_
      refine jr_icmp_ne (tgt := 24) dX3_means_17 (by decide) H (fun H => ?_) (fun H => ?_)
      · refine jr_fgt 0 ?_
        refine jr_fgt 1 ?_
        refine jr_fgt 2 ?_
        exact hJ20 _ H
      · refine jr_iconst (v := 0) dX3_means_24 (by decide) ?_
        exact jr_zret rfl rfl dX3_means_25 H
set_option maxRecDepth 100000 in
set_option maxHeartbeats 4000000 in
theorem s_X2_metBy_L6 (l : Launch) (d : Nat) (F : Nat) (x0 : Nat) (x1 : Nat) (x2 : Int32) (x3 : Int32) {rR : Int32} {hf : jH} : ∀ (n : Nat) (x4 : Int32) (x5 : Int32) (h : jH), f_X2_metBy_L6 F x0 x1 x2 x3 n x4 x5 h = some (rR, hf) → jGo l (d + 1) none RX2 cX2_metBy 6 (some .int) false 6 [some (.ref x0), some (.ref x1), some (.int x2), some (.int x3), some (.int x4), some (.int x5)] [] h (some (.int rR)) hf := by
  intro n
  induction n with
  | zero =>
    intro x4 x5 h H
    cases H
  | succ n ih =>
    intro x4 x5 h H
    unfold f_X2_metBy_L6 at H
    refine jr_iload dX2_metBy_6 rfl ?_
    refine jr_aload_n dX2_metBy_8 rfl rfl ?_
    refine jr_getI fl_RX2_41 (by decide) dX2_metBy_9 H (fun v1 H => ?_)
    refine jr_icmp_ge (tgt := 56) dX2_metBy_12 (by decide) H (fun H => ?_) (fun H => ?_)
    · refine jr_iload dX2_metBy_56 rfl ?_
      exact jr_iret rfl dX2_metBy_58 H
    · refine jr_aload_n dX2_metBy_15 rfl rfl ?_
      refine jr_getR fl_RX2_18 dX2_metBy_16 H (fun v2 H => ?_)
      refine jr_iload dX2_metBy_19 rfl ?_
      refine jr_iald dX2_metBy_21 H (fun v3 H => ?_)
      refine jr_iload_n dX2_metBy_22 rfl rfl ?_
      refine jr_jn (fun J => ∀ (z4 : Int32) (h5 : jH), J z4 h5 = some (rR, hf) → jGo l (d + 1) none RX2 cX2_metBy 6 (some .int) false 50 [some (.ref x0), some (.ref x1), some (.int x2), some (.int x3), some (.int z4), some (.int x5)] [] h5 (some (.int rR)) hf) H (fun z4 h5 H => ?_) (fun J50 hJ50 H => ?_)
      · refine jr_iinc (v := (x5 + 1)) dX2_metBy_50 rfl rfl (by decide) rfl (Or.inl rfl) ?_
        refine jr_goto (tgt := 6) dX2_metBy_53 (by decide) ?_
        exact ih _ _ _ H
      · refine jr_icmp_ne (tgt := 50) dX2_metBy_23 (by decide) H (fun H => ?_) (fun H => ?_)
        · refine jr_aload_n dX2_metBy_26 rfl rfl ?_
          refine jr_iload_n dX2_metBy_27 rfl rfl ?_
          refine jr_aload_n dX2_metBy_28 rfl rfl ?_
          refine jr_getR fl_RX2_15 dX2_metBy_29 H (fun v6 H => ?_)
          refine jr_iload dX2_metBy_32 rfl ?_
          refine jr_iald dX2_metBy_34 H (fun v7 H => ?_)
          obtain ⟨v9, h8, Hc, H⟩ := j_b2_some H
          refine jr_callV (ci := 3) [.int x2, .int v7] my_X3_means mv_X3_means ml_RX2_45 dX2_metBy_35 rfl rfl (Nat.le_of_ble_eq_true rfl) rfl (c_X3_means l d F x1 x2 v7 h v9 h8 Hc) ?_
          refine jr_if_eq (tgt := 50) dX2_metBy_38 (by decide) H (fun H => ?_) (fun H => ?_)
          · exact hJ50 _ _ H
          · refine jr_iload dX2_metBy_41 rfl ?_
            refine jr_iconst (v := 1) dX2_metBy_43 (by decide) ?_
            refine jr_iload dX2_metBy_44 rfl ?_
            refine jr_ishl dX2_metBy_46 ?_
            refine jr_ior dX2_metBy_47 ?_
            refine jr_istore dX2_metBy_48 (by decide) rfl (Or.inl rfl) ?_
            exact hJ50 _ _ H
        · exact hJ50 _ _ H
set_option maxRecDepth 100000 in
set_option maxHeartbeats 4000000 in
theorem c_X2_metBy (l : Launch) (d : Nat) (F : Nat) (a0 : Nat) (a1 : Nat) (a2 : Int32) (a3 : Int32) (h : jH) (rR : Int32) (hf : jH) (H : f_X2_metBy F a0 a1 a2 a3 h = some (rR, hf)) : jh_sh h a0 = (2, 0) ∧ jMet l (d + 1) yX2_metBy cX2_metBy 6 (some .int) [.ref a0, .ref a1, .int a2, .int a3] h (some (.int rR)) hf := by
  unfold f_X2_metBy at H
  obtain ⟨hsh, H⟩ := j_gd_some H
  refine ⟨hsh, ?_⟩
  refine jMet.of false [some (.ref a0), some (.ref a1), some (.int a2), some (.int a3), none, none] rfl (by decide) (by decide) (Nat.le_of_ble_eq_true rfl) (fun S0 q hq => by simpa [j_l, lv_args, j_v, Value.category] using hq) ?_
  refine jr_iconst (v := 0) dX2_metBy_0 (by decide) ?_
  refine jr_istore dX2_metBy_1 (by decide) rfl (Or.inl rfl) ?_
  refine jr_iconst (v := 0) dX2_metBy_3 (by decide) ?_
  refine jr_istore dX2_metBy_4 (by decide) rfl (Or.inl rfl) ?_
  exact s_X2_metBy_L6 l d F a0 a1 a2 a3 F 0 0 h H
set_option maxRecDepth 100000 in
set_option maxHeartbeats 4000000 in
theorem s_X10_speak_L98 (l : Launch) (d : Nat) (F : Nat) (x0 : Nat) (x1 : Int32) (x2 : Int32) (x3 : Int32) (x4 : Int32) (k137 : jH → Option (Int32 × jH)) {rR : Int32} {hf : jH} (hk137 : ∀ (h : jH), k137 h = some (rR, hf) → jGo l (d + 3) none RX10 cX10_speak 6 (some .int) false 137 [some (.ref x0), some (.int x1), some (.int x2), some (.int x3), some (.int x4), none] [] h (some (.int rR)) hf) : ∀ (n : Nat) (x5 : Int32) (h : jH), f_X10_speak_L98 F x0 x1 x2 x3 x4 k137 n x5 h = some (rR, hf) → jGo l (d + 3) none RX10 cX10_speak 6 (some .int) false 98 [some (.ref x0), some (.int x1), some (.int x2), some (.int x3), some (.int x4), some (.int x5)] [] h (some (.int rR)) hf := by
  intro n
  induction n with
  | zero =>
    intro x5 h H
    cases H
  | succ n ih =>
    intro x5 h H
    unfold f_X10_speak_L98 at H
    refine jr_iload dX10_speak_98 rfl ?_
    refine jr_iconst (v := 5) dX10_speak_100 (by decide) ?_
    refine jr_icmp_ge (tgt := 137) dX10_speak_101 (by decide) H (fun H => ?_) (fun H => ?_)
    · refine jr_fgt 5 ?_
      exact hk137 _ H
    · refine jr_aload_n dX10_speak_104 rfl rfl ?_
      refine jr_getR fl_RX10_40 dX10_speak_105 H (fun v25 H => ?_)
      refine jr_getR fl_RX10_194 dX10_speak_108 H (fun v26 H => ?_)
      refine jr_iload_n dX10_speak_111 rfl rfl ?_
      refine jr_iconst (v := 5) dX10_speak_112 (by decide) ?_
      refine jr_imul dX10_speak_113 ?_
      refine jr_iload dX10_speak_114 rfl ?_
      refine jr_iadd dX10_speak_116 ?_
      refine jr_dup2 dX10_speak_117 rfl rfl ?_
      refine jr_iald dX10_speak_118 H (fun v27 H => ?_)
      refine jr_aload_n dX10_speak_119 rfl rfl ?_
      refine jr_getR fl_RX10_26 dX10_speak_120 H (fun v28 H => ?_)
      refine jr_iload_n dX10_speak_123 rfl rfl ?_
      refine jr_iload dX10_speak_124 rfl ?_
      obtain ⟨v30, h29, Hc, H⟩ := j_b2_some H
      refine jr_callV (ci := 3) [.int x2, .int x5] my_X3_heardIn mv_X3_heardIn ml_RX10_155 dX10_speak_126 rfl rfl (Nat.le_of_ble_eq_true rfl) rfl (c_X3_heardIn l (d + 2) F v28 x2 x5 h v30 h29 Hc) ?_
      refine jr_iadd dX10_speak_129 ?_
      refine jr_iast dX10_speak_130 H (fun h31 H => ?_)
      refine jr_iinc (v := (x5 + 1)) dX10_speak_131 rfl rfl (by decide) rfl (Or.inl rfl) ?_
      refine jr_goto (tgt := 98) dX10_speak_134 (by decide) ?_
      exact ih _ _ H
set_option maxRecDepth 100000 in
set_option maxHeartbeats 4000000 in
theorem c_X10_speak (l : Launch) (d : Nat) (F : Nat) (a0 : Nat) (a1 : Int32) (a2 : Int32) (h : jH) (rR : Int32) (hf : jH) (H : f_X10_speak F a0 a1 a2 h = some (rR, hf)) : jh_sh h a0 = (10, 0) ∧ jMet l (d + 3) yX10_speak cX10_speak 6 (some .int) [.ref a0, .int a1, .int a2] h (some (.int rR)) hf := by
  unfold f_X10_speak at H
  obtain ⟨hsh, H⟩ := j_gd_some H
  refine ⟨hsh, ?_⟩
  refine jMet.of false [some (.ref a0), some (.int a1), some (.int a2), none, none, none] rfl (by decide) (by decide) (Nat.le_of_ble_eq_true rfl) (fun S0 q hq => by simpa [j_l, lv_args, j_v, Value.category] using hq) ?_
  refine jr_aload_n dX10_speak_0 rfl rfl ?_
  refine jr_iload_n dX10_speak_1 rfl rfl ?_
  obtain ⟨v2, h1, Hc, H⟩ := j_b2_some H
  refine jr_callV (ci := 10) [.int a1] my_X10_isTraveller mv_X10_isTraveller ml_RX10_159 dX10_speak_2 rfl rfl (Nat.le_of_ble_eq_true rfl) rfl (c_X10_isTraveller l (d + 2) F a0 a1 h v2 h1 Hc) ?_
  refine jr_if_eq (tgt := 16) dX10_speak_5 (by decide) H (fun H => ?_) (fun H => ?_)
  · refine jr_iconst (v := (-1)) dX10_speak_16 (by decide) ?_
    exact jr_iret rfl dX10_speak_17 H
  · refine jr_aload_n dX10_speak_8 rfl rfl ?_
    refine jr_iload_n dX10_speak_9 rfl rfl ?_
    obtain ⟨v4, h3, Hc, H⟩ := j_b2_some H
    refine jr_callV (ci := 10) [.int a2] my_X10_isWord mv_X10_isWord ml_RX10_136 dX10_speak_10 rfl rfl (Nat.le_of_ble_eq_true rfl) rfl (c_X10_isWord l (d + 2) F a0 a2 h1 v4 h3 Hc) ?_
    refine jr_if_ne (tgt := 18) dX10_speak_13 (by decide) H (fun H => ?_) (fun H => ?_)
    · refine jr_iconst (v := (-1)) dX10_speak_16 (by decide) ?_
      exact jr_iret rfl dX10_speak_17 H
    · refine jr_aload_n dX10_speak_18 rfl rfl ?_
      refine jr_getR fl_RX10_40 dX10_speak_19 H (fun v5 H => ?_)
      refine jr_getR fl_RX10_162 dX10_speak_22 H (fun v6 H => ?_)
      refine jr_iload_n dX10_speak_25 rfl rfl ?_
      refine jr_iald dX10_speak_26 H (fun v7 H => ?_)
      refine jr_istore_n dX10_speak_27 rfl (by decide) rfl (Or.inl rfl) ?_
      refine jr_aload_n dX10_speak_28 rfl rfl ?_
      refine jr_getR fl_RX10_92 dX10_speak_29 H (fun v8 H => ?_)
      refine jr_aload_n dX10_speak_32 rfl rfl ?_
      refine jr_getR fl_RX10_26 dX10_speak_33 H (fun v9 H => ?_)
      refine jr_iload_n dX10_speak_36 rfl rfl ?_
      refine jr_iload_n dX10_speak_37 rfl rfl ?_
      refine jr_aload_n dX10_speak_38 rfl rfl ?_
      refine jr_getR fl_RX10_40 dX10_speak_39 H (fun v10 H => ?_)
      refine jr_getI fl_RX10_206 (by decide) dX10_speak_42 H (fun v11 H => ?_)
      obtain ⟨v13, h12, Hc, H⟩ := j_b2_some H
      refine jr_callV (ci := 8) [.ref v9, .int a2, .int v7, .int v11] my_X8_charge mv_X8_charge ml_RX10_209 dX10_speak_45 rfl rfl (Nat.le_of_ble_eq_true rfl) rfl (c_X8_charge l d F v8 v9 a2 v7 v11 h3 v13 h12 Hc) ?_
      refine jr_istore dX10_speak_48 (by decide) rfl (Or.inl rfl) ?_
      refine jr_aload_n dX10_speak_50 rfl rfl ?_
      refine jr_getR fl_RX10_40 dX10_speak_51 H (fun v14 H => ?_)
      refine jr_getR fl_RX10_165 dX10_speak_54 H (fun v15 H => ?_)
      refine jr_iload_n dX10_speak_57 rfl rfl ?_
      refine jr_iald dX10_speak_58 H (fun v16 H => ?_)
      refine jr_iload dX10_speak_59 rfl ?_
      refine jr_icmp_ge (tgt := 67) dX10_speak_61 (by decide) H (fun H => ?_) (fun H => ?_)
      · refine jr_aload_n dX10_speak_67 rfl rfl ?_
        refine jr_getR fl_RX10_40 dX10_speak_68 H (fun v17 H => ?_)
        refine jr_getR fl_RX10_165 dX10_speak_71 H (fun v18 H => ?_)
        refine jr_iload_n dX10_speak_74 rfl rfl ?_
        refine jr_dup2 dX10_speak_75 rfl rfl ?_
        refine jr_iald dX10_speak_76 H (fun v19 H => ?_)
        refine jr_iload dX10_speak_77 rfl ?_
        refine jr_isub dX10_speak_79 ?_
        refine jr_iast dX10_speak_80 H (fun h20 H => ?_)
        refine jr_aload_n dX10_speak_81 rfl rfl ?_
        refine jr_getR fl_RX10_40 dX10_speak_82 H (fun v21 H => ?_)
        refine jr_getR fl_RX10_168 dX10_speak_85 H (fun v22 H => ?_)
        refine jr_iload_n dX10_speak_88 rfl rfl ?_
        refine jr_dup2 dX10_speak_89 rfl rfl ?_
        refine jr_iald dX10_speak_90 H (fun v23 H => ?_)
        refine jr_iload dX10_speak_91 rfl ?_
        refine jr_iadd dX10_speak_93 ?_
        refine jr_iast dX10_speak_94 H (fun h24 H => ?_)
        refine jr_iconst (v := 0) dX10_speak_95 (by decide) ?_
        refine jr_istore dX10_speak_96 (by decide) rfl (Or.inl rfl) ?_
        refine s_X10_speak_L98 l d F a0 a1 a2 v7 v13 _ (fun h32 H => ?_) F 0 h24 H
        · refine jr_aload_n dX10_speak_137 rfl rfl ?_
          refine jr_aload_n dX10_speak_138 rfl rfl ?_
          refine jr_getR fl_RX10_33 dX10_speak_139 H (fun v33 H => ?_)
          refine jr_aload_n dX10_speak_142 rfl rfl ?_
          refine jr_getR fl_RX10_26 dX10_speak_143 H (fun v34 H => ?_)
          refine jr_iload_n dX10_speak_146 rfl rfl ?_
          refine jr_iload_n dX10_speak_147 rfl rfl ?_
          obtain ⟨v36, h35, Hc, H⟩ := j_b2_some H
          refine jr_callV (ci := 2) [.ref v34, .int a2, .int v7] my_X2_metBy mv_X2_metBy ml_RX10_422 dX10_speak_148 rfl rfl (Nat.le_of_ble_eq_true rfl) rfl (c_X2_metBy l (d + 1) F v33 v34 a2 v7 h32 v36 h35 Hc) ?_
          refine jr_aload_n dX10_speak_151 rfl rfl ?_
          refine jr_getR fl_RX10_33 dX10_speak_152 H (fun v37 H => ?_)
          refine jr_iload_n dX10_speak_155 rfl rfl ?_
          obtain ⟨v39, h38, Hc, H⟩ := j_b2_some H
          refine jr_callV (ci := 2) [.int a1] my_X2_of mv_X2_of ml_RX10_171 dX10_speak_156 rfl rfl (Nat.le_of_ble_eq_true rfl) rfl (c_X2_of l (d + 2) F v37 a1 h35 v39 h38 Hc) ?_
          refine jr_iand dX10_speak_159 ?_
          refine jr_aload_n dX10_speak_160 rfl rfl ?_
          refine jr_getR fl_RX10_40 dX10_speak_161 H (fun v40 H => ?_)
          refine jr_getI fl_RX10_174 (by decide) dX10_speak_164 H (fun v41 H => ?_)
          refine jr_iconst (v := (-1)) dX10_speak_167 (by decide) ?_
          refine jr_ixor dX10_speak_168 ?_
          refine jr_iand dX10_speak_169 ?_
          refine jr_putI fl_RX10_106 (fun z => by cases z) dX10_speak_170 H (fun h42 H => ?_)
          refine jr_aload_n dX10_speak_173 rfl rfl ?_
          refine jr_getR fl_RX10_40 dX10_speak_174 H (fun v43 H => ?_)
          refine jr_dup dX10_speak_177 rfl ?_
          refine jr_getI fl_RX10_174 (by decide) dX10_speak_178 H (fun v44 H => ?_)
          refine jr_aload_n dX10_speak_181 rfl rfl ?_
          refine jr_getI fl_RX10_106 (by decide) dX10_speak_182 H (fun v45 H => ?_)
          refine jr_ior dX10_speak_185 ?_
          refine jr_putI fl_RX10_174 (fun z => by cases z) dX10_speak_186 H (fun h46 H => ?_)
          refine jr_iload dX10_speak_189 rfl ?_
          exact jr_iret rfl dX10_speak_191 H
      · refine jr_bipush (v := (-2)) dX10_speak_64 (by decide) ?_
        exact jr_iret rfl dX10_speak_66 H
set_option maxRecDepth 100000 in
set_option maxHeartbeats 4000000 in
theorem c_X6_tell (l : Launch) (d : Nat) (F : Nat) (a0 : Nat) (a1 : Int64) (h : jH) (hf : jH) (H : f_X6_tell F a0 a1 h = some hf) : jh_sh h a0 = (6, 0) ∧ jMet l (d + 1) yX6_tell cX6_tell 3 none [.ref a0, .long a1] h none hf := by
  unfold f_X6_tell at H
  obtain ⟨hsh, H⟩ := j_gd_some H
  refine ⟨hsh, ?_⟩
  refine jMet.of false [some (.ref a0), some (.long a1), none] rfl (by decide) (by decide) (Nat.le_of_ble_eq_true rfl) (fun S0 q hq => by simpa [j_l, lv_args, j_v, Value.category] using hq) ?_
  refine jr_aload_n dX6_tell_0 rfl rfl ?_
  obtain ⟨h1, Hc, H⟩ := Option.bind_eq_some_iff.mp H
  refine jr_callV (ci := 6) [] my_X6_clear mv_X6_clear ml_RX6_17 dX6_tell_1 rfl rfl (Nat.le_of_ble_eq_true rfl) rfl (c_X6_clear l d F a0 h h1 Hc) ?_
  refine jr_aload_n dX6_tell_4 rfl rfl ?_
  refine jr_lload_n dX6_tell_5 rfl rfl ?_
  obtain ⟨h2, Hc, H⟩ := Option.bind_eq_some_iff.mp H
  refine jr_callV (ci := 6) [.long a1] my_X6_add mv_X6_add ml_RX6_20 dX6_tell_6 rfl rfl (Nat.le_of_ble_eq_true rfl) rfl (c_X6_add l d F a0 a1 h1 h2 Hc) ?_
  exact jr_vret rfl dX6_tell_9 H
set_option maxRecDepth 100000 in
set_option maxHeartbeats 4000000 in
theorem c_X10_say (l : Launch) (d : Nat) (F : Nat) (a0 : Nat) (a1 : Int32) (a2 : Int32) (h : jH) (rR : Int32) (hf : jH) (H : f_X10_say F a0 a1 a2 h = some (rR, hf)) : jh_sh h a0 = (10, 0) ∧ jMet l (d + 4) yX10_say cX10_say 4 (some .int) [.ref a0, .int a1, .int a2] h (some (.int rR)) hf := by
  unfold f_X10_say at H
  obtain ⟨hsh, H⟩ := j_gd_some H
  refine ⟨hsh, ?_⟩
  refine jMet.of false [some (.ref a0), some (.int a1), some (.int a2), none] rfl (by decide) (by decide) (Nat.le_of_ble_eq_true rfl) (fun S0 q hq => by simpa [j_l, lv_args, j_v, Value.category] using hq) ?_
  refine jr_aload_n dX10_say_0 rfl rfl ?_
  refine jr_getR fl_RX10_47 dX10_say_1 H (fun v1 H => ?_)
  refine jr_aload_n dX10_say_4 rfl rfl ?_
  refine jr_getR fl_RX10_40 dX10_say_5 H (fun v2 H => ?_)
  obtain ⟨h3, Hc, H⟩ := Option.bind_eq_some_iff.mp H
  refine jr_callV (ci := 4) [.ref v2] my_X4_mark mv_X4_mark ml_RX10_223 dX10_say_8 rfl rfl (Nat.le_of_ble_eq_true rfl) rfl (c_X4_mark l (d + 1) F v1 v2 h h3 Hc) ?_
  refine jr_aload_n dX10_say_11 rfl rfl ?_
  refine jr_iload_n dX10_say_12 rfl rfl ?_
  refine jr_iload_n dX10_say_13 rfl rfl ?_
  obtain ⟨v5, h4, Hc, H⟩ := j_b2_some H
  refine jr_callV (ci := 10) [.int a1, .int a2] my_X10_speak mv_X10_speak ml_RX10_233 dX10_say_14 rfl rfl (Nat.le_of_ble_eq_true rfl) rfl (c_X10_speak l d F a0 a1 a2 h3 v5 h4 Hc) ?_
  refine jr_istore_n dX10_say_17 rfl (by decide) rfl (Or.inl rfl) ?_
  refine jr_iload_n dX10_say_18 rfl rfl ?_
  refine jr_if_lt (tgt := 41) dX10_say_19 (by decide) H (fun H => ?_) (fun H => ?_)
  · refine jr_iload_n dX10_say_41 rfl rfl ?_
    exact jr_iret rfl dX10_say_42 H
  · refine jr_aload_n dX10_say_22 rfl rfl ?_
    refine jr_getR fl_RX10_47 dX10_say_23 H (fun v6 H => ?_)
    obtain ⟨h7, Hc, H⟩ := Option.bind_eq_some_iff.mp H
    refine jr_callV (ci := 4) [] my_X4_confirm mv_X4_confirm ml_RX10_230 dX10_say_26 rfl rfl (Nat.le_of_ble_eq_true rfl) rfl (c_X4_confirm l (d + 2) F v6 h4 h7 Hc) ?_
    refine jr_aload_n dX10_say_29 rfl rfl ?_
    refine jr_getR fl_RX10_19 dX10_say_30 H (fun v8 H => ?_)
    refine jr_aload_n dX10_say_33 rfl rfl ?_
    refine jr_getI fl_RX10_106 (by decide) dX10_say_34 H (fun v9 H => ?_)
    refine jr_i2l dX10_say_37 ?_
    obtain ⟨h10, Hc, H⟩ := Option.bind_eq_some_iff.mp H
    refine jr_callV (ci := 6) [.long (v9.toInt64)] my_X6_tell mv_X6_tell ml_RX10_236 dX10_say_38 rfl rfl (Nat.le_of_ble_eq_true rfl) rfl (c_X6_tell l (d + 2) F v8 (v9.toInt64) h7 h10 Hc) ?_
    refine jr_iload_n dX10_say_41 rfl rfl ?_
    exact jr_iret rfl dX10_say_42 H
set_option maxRecDepth 100000 in
set_option maxHeartbeats 4000000 in
theorem c_X10_alms (l : Launch) (d : Nat) (F : Nat) (a0 : Nat) (a1 : Int32) (a2 : Int32) (a3 : Int32) (h : jH) (rR : Int32) (hf : jH) (H : f_X10_alms F a0 a1 a2 a3 h = some (rR, hf)) : jh_sh h a0 = (10, 0) ∧ jMet l (d + 3) yX10_alms cX10_alms 4 (some .int) [.ref a0, .int a1, .int a2, .int a3] h (some (.int rR)) hf := by
  unfold f_X10_alms at H
  obtain ⟨hsh, H⟩ := j_gd_some H
  refine ⟨hsh, ?_⟩
  refine jMet.of false [some (.ref a0), some (.int a1), some (.int a2), some (.int a3)] rfl (by decide) (by decide) (Nat.le_of_ble_eq_true rfl) (fun S0 q hq => by simpa [j_l, lv_args, j_v, Value.category] using hq) ?_
  refine jr_aload_n dX10_alms_0 rfl rfl ?_
  refine jr_iload_n dX10_alms_1 rfl rfl ?_
  obtain ⟨v2, h1, Hc, H⟩ := j_b2_some H
  refine jr_callV (ci := 10) [.int a1] my_X10_isTraveller mv_X10_isTraveller ml_RX10_159 dX10_alms_2 rfl rfl (Nat.le_of_ble_eq_true rfl) rfl (c_X10_isTraveller l (d + 2) F a0 a1 h v2 h1 Hc) ?_
  refine jr_if_eq (tgt := 33) dX10_alms_5 (by decide) H (fun H => ?_) (fun H => ?_)
  · refine jr_iconst (v := (-1)) dX10_alms_33 (by decide) ?_
    exact jr_iret rfl dX10_alms_34 H
  · refine jr_aload_n dX10_alms_8 rfl rfl ?_
    refine jr_iload_n dX10_alms_9 rfl rfl ?_
    obtain ⟨v4, h3, Hc, H⟩ := j_b2_some H
    refine jr_callV (ci := 10) [.int a2] my_X10_isTraveller mv_X10_isTraveller ml_RX10_159 dX10_alms_10 rfl rfl (Nat.le_of_ble_eq_true rfl) rfl (c_X10_isTraveller l (d + 2) F a0 a2 h1 v4 h3 Hc) ?_
    refine jr_if_eq (tgt := 33) dX10_alms_13 (by decide) H (fun H => ?_) (fun H => ?_)
    · refine jr_iconst (v := (-1)) dX10_alms_33 (by decide) ?_
      exact jr_iret rfl dX10_alms_34 H
    · refine jr_iload_n dX10_alms_16 rfl rfl ?_
      refine jr_iload_n dX10_alms_17 rfl rfl ?_
      refine jr_icmp_eq (tgt := 33) dX10_alms_18 (by decide) H (fun H => ?_) (fun H => ?_)
      · refine jr_iconst (v := (-1)) dX10_alms_33 (by decide) ?_
        exact jr_iret rfl dX10_alms_34 H
      · refine jr_iload_n dX10_alms_21 rfl rfl ?_
        refine jr_iconst (v := 1) dX10_alms_22 (by decide) ?_
        refine jr_icmp_lt (tgt := 33) dX10_alms_23 (by decide) H (fun H => ?_) (fun H => ?_)
        · refine jr_iconst (v := (-1)) dX10_alms_33 (by decide) ?_
          exact jr_iret rfl dX10_alms_34 H
        · refine jr_iload_n dX10_alms_26 rfl rfl ?_
          refine jr_sipush (v := 9999) dX10_alms_27 (by decide) ?_
          refine jr_icmp_le (tgt := 35) dX10_alms_30 (by decide) H (fun H => ?_) (fun H => ?_)
          · refine jr_aload_n dX10_alms_35 rfl rfl ?_
            refine jr_getR fl_RX10_40 dX10_alms_36 H (fun v5 H => ?_)
            refine jr_getR fl_RX10_162 dX10_alms_39 H (fun v6 H => ?_)
            refine jr_iload_n dX10_alms_42 rfl rfl ?_
            refine jr_iald dX10_alms_43 H (fun v7 H => ?_)
            refine jr_aload_n dX10_alms_44 rfl rfl ?_
            refine jr_getR fl_RX10_40 dX10_alms_45 H (fun v8 H => ?_)
            refine jr_getR fl_RX10_162 dX10_alms_48 H (fun v9 H => ?_)
            refine jr_iload_n dX10_alms_51 rfl rfl ?_
            refine jr_iald dX10_alms_52 H (fun v10 H => ?_)
            refine jr_icmp_eq (tgt := 59) dX10_alms_53 (by decide) H (fun H => ?_) (fun H => ?_)
            · refine jr_aload_n dX10_alms_59 rfl rfl ?_
              refine jr_getR fl_RX10_40 dX10_alms_60 H (fun v11 H => ?_)
              refine jr_getR fl_RX10_165 dX10_alms_63 H (fun v12 H => ?_)
              refine jr_iload_n dX10_alms_66 rfl rfl ?_
              refine jr_iald dX10_alms_67 H (fun v13 H => ?_)
              refine jr_iload_n dX10_alms_68 rfl rfl ?_
              refine jr_icmp_ge (tgt := 75) dX10_alms_69 (by decide) H (fun H => ?_) (fun H => ?_)
              · refine jr_aload_n dX10_alms_75 rfl rfl ?_
                refine jr_getR fl_RX10_47 dX10_alms_76 H (fun v14 H => ?_)
                refine jr_aload_n dX10_alms_79 rfl rfl ?_
                refine jr_getR fl_RX10_40 dX10_alms_80 H (fun v15 H => ?_)
                obtain ⟨h16, Hc, H⟩ := Option.bind_eq_some_iff.mp H
                refine jr_callV (ci := 4) [.ref v15] my_X4_mark mv_X4_mark ml_RX10_223 dX10_alms_83 rfl rfl (Nat.le_of_ble_eq_true rfl) rfl (c_X4_mark l d F v14 v15 h3 h16 Hc) ?_
                refine jr_aload_n dX10_alms_86 rfl rfl ?_
                refine jr_getR fl_RX10_47 dX10_alms_87 H (fun v17 H => ?_)
                obtain ⟨h18, Hc, H⟩ := Option.bind_eq_some_iff.mp H
                refine jr_callV (ci := 4) [] my_X4_confirm mv_X4_confirm ml_RX10_230 dX10_alms_90 rfl rfl (Nat.le_of_ble_eq_true rfl) rfl (c_X4_confirm l (d + 1) F v17 h16 h18 Hc) ?_
                refine jr_aload_n dX10_alms_93 rfl rfl ?_
                refine jr_getR fl_RX10_40 dX10_alms_94 H (fun v19 H => ?_)
                refine jr_getR fl_RX10_165 dX10_alms_97 H (fun v20 H => ?_)
                refine jr_iload_n dX10_alms_100 rfl rfl ?_
                refine jr_dup2 dX10_alms_101 rfl rfl ?_
                refine jr_iald dX10_alms_102 H (fun v21 H => ?_)
                refine jr_iload_n dX10_alms_103 rfl rfl ?_
                refine jr_isub dX10_alms_104 ?_
                refine jr_iast dX10_alms_105 H (fun h22 H => ?_)
                refine jr_aload_n dX10_alms_106 rfl rfl ?_
                refine jr_getR fl_RX10_40 dX10_alms_107 H (fun v23 H => ?_)
                refine jr_getR fl_RX10_165 dX10_alms_110 H (fun v24 H => ?_)
                refine jr_iload_n dX10_alms_113 rfl rfl ?_
                refine jr_aload_n dX10_alms_114 rfl rfl ?_
                refine jr_getR fl_RX10_40 dX10_alms_115 H (fun v25 H => ?_)
                refine jr_getR fl_RX10_165 dX10_alms_118 H (fun v26 H => ?_)
                refine jr_iload_n dX10_alms_121 rfl rfl ?_
                refine jr_iald dX10_alms_122 H (fun v27 H => ?_)
                refine jr_iload_n dX10_alms_123 rfl rfl ?_
                refine jr_iadd dX10_alms_124 ?_
                refine jr_sipush (v := 9999) dX10_alms_125 (by decide) ?_
                obtain ⟨v29, h28, Hc, H⟩ := j_b2_some H
                refine jr_callS [.int (v27 + a3), .int 9999] my_X10_between ms_X10_between ml_RX10_200 dX10_alms_128 rfl rfl (Nat.le_of_ble_eq_true rfl) (c_X10_between l (d + 1) F (v27 + a3) 9999 h22 v29 h28 Hc) ?_
                refine jr_iast dX10_alms_131 H (fun h30 H => ?_)
                refine jr_aload_n dX10_alms_132 rfl rfl ?_
                refine jr_getR fl_RX10_40 dX10_alms_133 H (fun v31 H => ?_)
                refine jr_getR fl_RX10_165 dX10_alms_136 H (fun v32 H => ?_)
                refine jr_iload_n dX10_alms_139 rfl rfl ?_
                refine jr_iald dX10_alms_140 H (fun v33 H => ?_)
                exact jr_iret rfl dX10_alms_141 H
              · refine jr_bipush (v := (-2)) dX10_alms_72 (by decide) ?_
                exact jr_iret rfl dX10_alms_74 H
            · refine jr_bipush (v := (-3)) dX10_alms_56 (by decide) ?_
              exact jr_iret rfl dX10_alms_58 H
          · refine jr_iconst (v := (-1)) dX10_alms_33 (by decide) ?_
            exact jr_iret rfl dX10_alms_34 H
set_option maxRecDepth 100000 in
set_option maxHeartbeats 4000000 in
theorem s_X10_cheapestFor_L8 (l : Launch) (d : Nat) (F : Nat) (x0 : Nat) (x1 : Int32) (x2 : Int32) {rR : Int32} {hf : jH} : ∀ (n : Nat) (x3 : Int32) (x4 : Int32) (x5 : Int32) (h : jH), f_X10_cheapestFor_L8 F x0 x1 x2 n x3 x4 x5 h = some (rR, hf) → jGo l (d + 1) none RX10 cX10_cheapestFor 7 (some .int) false 8 [some (.ref x0), some (.int x1), some (.int x2), some (.int x3), some (.int x4), some (.int x5), none] [] h (some (.int rR)) hf := by
  intro n
  induction n with
  | zero =>
    intro x3 x4 x5 h H
    cases H
  | succ n ih =>
    intro x3 x4 x5 h H
    unfold f_X10_cheapestFor_L8 at H
    refine jr_iload dX10_cheapestFor_8 rfl ?_
    refine jr_aload_n dX10_cheapestFor_10 rfl rfl ?_
    refine jr_getR fl_RX10_26 dX10_cheapestFor_11 H (fun v1 H => ?_)
    refine jr_getI fl_RX10_127 (by decide) dX10_cheapestFor_14 H (fun v2 H => ?_)
    refine jr_icmp_ge (tgt := 79) dX10_cheapestFor_17 (by decide) H (fun H => ?_) (fun H => ?_)
    · refine jr_iload_n dX10_cheapestFor_79 rfl rfl ?_
      exact jr_iret rfl dX10_cheapestFor_80 H
    · refine jr_aload_n dX10_cheapestFor_20 rfl rfl ?_
      refine jr_getR fl_RX10_77 dX10_cheapestFor_21 H (fun v3 H => ?_)
      refine jr_iload dX10_cheapestFor_24 rfl ?_
      refine jr_iald dX10_cheapestFor_26 H (fun v4 H => ?_)
      refine jr_iload_n dX10_cheapestFor_27 rfl rfl ?_
      refine jr_aload_n dX10_cheapestFor_28 rfl rfl ?_
      refine jr_getR fl_RX10_26 dX10_cheapestFor_29 H (fun v5 H => ?_)
      refine jr_iload dX10_cheapestFor_32 rfl ?_
      obtain ⟨v7, h6, Hc, H⟩ := j_b2_some H
      refine jr_callV (ci := 3) [.int x5] my_X3_vowelsOf mv_X3_vowelsOf ml_RX10_145 dX10_cheapestFor_34 rfl rfl (Nat.le_of_ble_eq_true rfl) rfl (c_X3_vowelsOf l d F v5 x5 h v7 h6 Hc) ?_
      refine jr_imul dX10_cheapestFor_37 ?_
      refine jr_iadd dX10_cheapestFor_38 ?_
      refine jr_istore dX10_cheapestFor_39 (by decide) rfl (Or.inl rfl) ?_
      refine jr_aload_n dX10_cheapestFor_41 rfl rfl ?_
      refine jr_getR fl_RX10_26 dX10_cheapestFor_42 H (fun v8 H => ?_)
      refine jr_iload dX10_cheapestFor_45 rfl ?_
      refine jr_iload_n dX10_cheapestFor_47 rfl rfl ?_
      obtain ⟨v10, h9, Hc, H⟩ := j_b2_some H
      refine jr_callV (ci := 3) [.int x5, .int x1] my_X3_means mv_X3_means ml_RX10_279 dX10_cheapestFor_48 rfl rfl (Nat.le_of_ble_eq_true rfl) rfl (c_X3_means l d F v8 x5 x1 h6 v10 h9 Hc) ?_
      refine jr_jn (fun J => ∀ (z11 : Int32) (z12 : Int32) (h13 : jH), J z11 z12 h13 = some (rR, hf) → jGo l (d + 1) none RX10 cX10_cheapestFor 7 (some .int) false 73 [some (.ref x0), some (.int x1), some (.int x2), some (.int z11), some (.int z12), some (.int x5), none] [] h13 (some (.int rR)) hf) H (fun z11 z12 h13 H => ?_) (fun J73 hJ73 H => ?_)
      · refine jr_iinc (v := (x5 + 1)) dX10_cheapestFor_73 rfl rfl (by decide) rfl (Or.inl rfl) ?_
        refine jr_goto (tgt := 8) dX10_cheapestFor_76 (by decide) ?_
        exact ih _ _ _ _ H
      · refine jr_if_eq (tgt := 73) dX10_cheapestFor_51 (by decide) H (fun H => ?_) (fun H => ?_)
        · refine jr_fgt 6 ?_
          exact hJ73 _ _ _ H
        · refine jr_iload_n dX10_cheapestFor_54 rfl rfl ?_
          refine jr_iconst (v := (-1)) dX10_cheapestFor_55 (by decide) ?_
          refine jr_jn (fun J => ∀ (h14 : jH), J h14 = some (rR, hf) → jGo l (d + 1) none RX10 cX10_cheapestFor 7 (some .int) false 66 [some (.ref x0), some (.int x1), some (.int x2), none, none, some (.int x5), some (.int (v4 + (x2 * v7)))] [] h14 (some (.int rR)) hf) H (fun h14 H => ?_) (fun J66 hJ66 H => ?_)
          · refine jr_iload dX10_cheapestFor_66 rfl ?_
            refine jr_istore_n dX10_cheapestFor_68 rfl (by decide) rfl (Or.inl rfl) ?_
            refine jr_iload dX10_cheapestFor_69 rfl ?_
            refine jr_istore dX10_cheapestFor_71 (by decide) rfl (Or.inl rfl) ?_
            refine jr_fgt 6 ?_
            exact hJ73 _ _ _ H
          · refine jr_icmp_eq (tgt := 66) dX10_cheapestFor_56 (by decide) H (fun H => ?_) (fun H => ?_)
            · refine jr_fgt 3 ?_
              refine jr_fgt 4 ?_
              exact hJ66 _ H
            · refine jr_iload dX10_cheapestFor_59 rfl ?_
              refine jr_iload dX10_cheapestFor_61 rfl ?_
              refine jr_icmp_ge (tgt := 73) dX10_cheapestFor_63 (by decide) H (fun H => ?_) (fun H => ?_)
              · refine jr_fgt 6 ?_
                exact hJ73 _ _ _ H
              · refine jr_fgt 3 ?_
                refine jr_fgt 4 ?_
                exact hJ66 _ H
set_option maxRecDepth 100000 in
set_option maxHeartbeats 4000000 in
theorem c_X10_cheapestFor (l : Launch) (d : Nat) (F : Nat) (a0 : Nat) (a1 : Int32) (a2 : Int32) (h : jH) (rR : Int32) (hf : jH) (H : f_X10_cheapestFor F a0 a1 a2 h = some (rR, hf)) : jh_sh h a0 = (10, 0) ∧ jMet l (d + 1) yX10_cheapestFor cX10_cheapestFor 7 (some .int) [.ref a0, .int a1, .int a2] h (some (.int rR)) hf := by
  unfold f_X10_cheapestFor at H
  obtain ⟨hsh, H⟩ := j_gd_some H
  refine ⟨hsh, ?_⟩
  refine jMet.of false [some (.ref a0), some (.int a1), some (.int a2), none, none, none, none] rfl (by decide) (by decide) (Nat.le_of_ble_eq_true rfl) (fun S0 q hq => by simpa [j_l, lv_args, j_v, Value.category] using hq) ?_
  refine jr_iconst (v := (-1)) dX10_cheapestFor_0 (by decide) ?_
  refine jr_istore_n dX10_cheapestFor_1 rfl (by decide) rfl (Or.inl rfl) ?_
  refine jr_iconst (v := 0) dX10_cheapestFor_2 (by decide) ?_
  refine jr_istore dX10_cheapestFor_3 (by decide) rfl (Or.inl rfl) ?_
  refine jr_iconst (v := 0) dX10_cheapestFor_5 (by decide) ?_
  refine jr_istore dX10_cheapestFor_6 (by decide) rfl (Or.inl rfl) ?_
  exact s_X10_cheapestFor_L8 l d F a0 a1 a2 F (-1) 0 0 h H
set_option maxRecDepth 100000 in
set_option maxHeartbeats 4000000 in
theorem s_X10_priceAll_L3 (l : Launch) (d : Nat) (F : Nat) (x0 : Nat) (x1 : Nat) (x2 : Int32) (x3 : Nat) {hf : jH} : ∀ (n : Nat) (x4 : Int32) (h : jH), f_X10_priceAll_L3 F x0 x1 x2 x3 n x4 h = some hf → jGo l (d + 3) none RX10 cX10_priceAll 5 none false 3 [some (.ref x0), some (.ref x1), some (.int x2), some (.ref x3), some (.int x4)] [] h none hf := by
  intro n
  induction n with
  | zero =>
    intro x4 h H
    cases H
  | succ n ih =>
    intro x4 h H
    unfold f_X10_priceAll_L3 at H
    refine jr_iload dX10_priceAll_3 rfl ?_
    refine jr_aload_n dX10_priceAll_5 rfl rfl ?_
    refine jr_getR fl_RX10_26 dX10_priceAll_6 H (fun v1 H => ?_)
    refine jr_getI fl_RX10_127 (by decide) dX10_priceAll_9 H (fun v2 H => ?_)
    refine jr_icmp_ge (tgt := 43) dX10_priceAll_12 (by decide) H (fun H => ?_) (fun H => ?_)
    · exact jr_vret rfl dX10_priceAll_43 H
    · refine jr_aload_n dX10_priceAll_15 rfl rfl ?_
      refine jr_iload dX10_priceAll_16 rfl ?_
      refine jr_aload_n dX10_priceAll_18 rfl rfl ?_
      refine jr_aload_n dX10_priceAll_19 rfl rfl ?_
      refine jr_getR fl_RX10_26 dX10_priceAll_20 H (fun v3 H => ?_)
      refine jr_iload dX10_priceAll_23 rfl ?_
      refine jr_iload_n dX10_priceAll_25 rfl rfl ?_
      refine jr_aload_n dX10_priceAll_26 rfl rfl ?_
      refine jr_getR fl_RX10_40 dX10_priceAll_27 H (fun v4 H => ?_)
      refine jr_getI fl_RX10_206 (by decide) dX10_priceAll_30 H (fun v5 H => ?_)
      obtain ⟨v7, h6, Hc, H⟩ := j_b2_some H
      refine jr_callV (ci := 8) [.ref v3, .int x4, .int x2, .int v5] my_X8_charge mv_X8_charge ml_RX10_209 dX10_priceAll_33 rfl rfl (Nat.le_of_ble_eq_true rfl) rfl (c_X8_charge l d F x1 v3 x4 x2 v5 h v7 h6 Hc) ?_
      refine jr_iast dX10_priceAll_36 H (fun h8 H => ?_)
      refine jr_iinc (v := (x4 + 1)) dX10_priceAll_37 rfl rfl (by decide) rfl (Or.inl rfl) ?_
      refine jr_goto (tgt := 3) dX10_priceAll_40 (by decide) ?_
      exact ih _ _ H
set_option maxRecDepth 100000 in
set_option maxHeartbeats 4000000 in
theorem c_X10_priceAll (l : Launch) (d : Nat) (F : Nat) (a0 : Nat) (a1 : Nat) (a2 : Int32) (a3 : Nat) (h : jH) (hf : jH) (H : f_X10_priceAll F a0 a1 a2 a3 h = some hf) : jh_sh h a0 = (10, 0) ∧ jMet l (d + 3) yX10_priceAll cX10_priceAll 5 none [.ref a0, .ref a1, .int a2, .ref a3] h none hf := by
  unfold f_X10_priceAll at H
  obtain ⟨hsh, H⟩ := j_gd_some H
  refine ⟨hsh, ?_⟩
  refine jMet.of false [some (.ref a0), some (.ref a1), some (.int a2), some (.ref a3), none] rfl (by decide) (by decide) (Nat.le_of_ble_eq_true rfl) (fun S0 q hq => by simpa [j_l, lv_args, j_v, Value.category] using hq) ?_
  refine jr_iconst (v := 0) dX10_priceAll_0 (by decide) ?_
  refine jr_istore dX10_priceAll_1 (by decide) rfl (Or.inl rfl) ?_
  exact s_X10_priceAll_L3 l d F a0 a1 a2 a3 F 0 h H
set_option maxRecDepth 100000 in
set_option maxHeartbeats 4000000 in
theorem s_X2_at_L4 (l : Launch) (d : Nat) (F : Nat) (x0 : Nat) (x1 : Int32) {rR : Int32} {hf : jH} : ∀ (n : Nat) (x2 : Int32) (x3 : Int32) (h : jH), f_X2_at_L4 F x0 x1 n x2 x3 h = some (rR, hf) → jGo l (d + 0) none RX2 cX2_at 4 (some .int) false 4 [some (.ref x0), some (.int x1), some (.int x2), some (.int x3)] [] h (some (.int rR)) hf := by
  intro n
  induction n with
  | zero =>
    intro x2 x3 h H
    cases H
  | succ n ih =>
    intro x2 x3 h H
    unfold f_X2_at_L4 at H
    refine jr_iload_n dX2_at_4 rfl rfl ?_
    refine jr_aload_n dX2_at_5 rfl rfl ?_
    refine jr_getI fl_RX2_41 (by decide) dX2_at_6 H (fun v1 H => ?_)
    refine jr_icmp_ge (tgt := 34) dX2_at_9 (by decide) H (fun H => ?_) (fun H => ?_)
    · refine jr_iload_n dX2_at_34 rfl rfl ?_
      exact jr_iret rfl dX2_at_35 H
    · refine jr_aload_n dX2_at_12 rfl rfl ?_
      refine jr_getR fl_RX2_18 dX2_at_13 H (fun v2 H => ?_)
      refine jr_iload_n dX2_at_16 rfl rfl ?_
      refine jr_iald dX2_at_17 H (fun v3 H => ?_)
      refine jr_iload_n dX2_at_18 rfl rfl ?_
      refine jr_jn (fun J => ∀ (z4 : Int32) (h5 : jH), J z4 h5 = some (rR, hf) → jGo l (d + 0) none RX2 cX2_at 4 (some .int) false 28 [some (.ref x0), some (.int x1), some (.int z4), some (.int x3)] [] h5 (some (.int rR)) hf) H (fun z4 h5 H => ?_) (fun J28 hJ28 H => ?_)
      · refine jr_iinc (v := (x3 + 1)) dX2_at_28 rfl rfl (by decide) rfl (Or.inl rfl) ?_
        refine jr_goto (tgt := 4) dX2_at_31 (by decide) ?_
        exact ih _ _ _ H
      · refine jr_icmp_ne (tgt := 28) dX2_at_19 (by decide) H (fun H => ?_) (fun H => ?_)
        · refine jr_iload_n dX2_at_22 rfl rfl ?_
          refine jr_iconst (v := 1) dX2_at_23 (by decide) ?_
          refine jr_iload_n dX2_at_24 rfl rfl ?_
          refine jr_ishl dX2_at_25 ?_
          refine jr_ior dX2_at_26 ?_
          refine jr_istore_n dX2_at_27 rfl (by decide) rfl (Or.inl rfl) ?_
          exact hJ28 _ _ H
        · exact hJ28 _ _ H
set_option maxRecDepth 100000 in
set_option maxHeartbeats 4000000 in
theorem c_X2_at (l : Launch) (d : Nat) (F : Nat) (a0 : Nat) (a1 : Int32) (h : jH) (rR : Int32) (hf : jH) (H : f_X2_at F a0 a1 h = some (rR, hf)) : jh_sh h a0 = (2, 0) ∧ jMet l (d + 0) yX2_at cX2_at 4 (some .int) [.ref a0, .int a1] h (some (.int rR)) hf := by
  unfold f_X2_at at H
  obtain ⟨hsh, H⟩ := j_gd_some H
  refine ⟨hsh, ?_⟩
  refine jMet.of false [some (.ref a0), some (.int a1), none, none] rfl (by decide) (by decide) (Nat.le_of_ble_eq_true rfl) (fun S0 q hq => by simpa [j_l, lv_args, j_v, Value.category] using hq) ?_
  refine jr_iconst (v := 0) dX2_at_0 (by decide) ?_
  refine jr_istore_n dX2_at_1 rfl (by decide) rfl (Or.inl rfl) ?_
  refine jr_iconst (v := 0) dX2_at_2 (by decide) ?_
  refine jr_istore_n dX2_at_3 rfl (by decide) rfl (Or.inl rfl) ?_
  exact s_X2_at_L4 l d F a0 a1 F 0 0 h H
set_option maxRecDepth 100000 in
set_option maxHeartbeats 4000000 in
theorem s_X2_firstOf_L2 (l : Launch) (d : Nat) (F : Nat) (x0 : Nat) (x1 : Int32) {rR : Int32} {hf : jH} : ∀ (n : Nat) (x2 : Int32) (h : jH), f_X2_firstOf_L2 F x0 x1 n x2 h = some (rR, hf) → jGo l (d + 0) none RX2 cX2_firstOf 3 (some .int) false 2 [some (.ref x0), some (.int x1), some (.int x2)] [] h (some (.int rR)) hf := by
  intro n
  induction n with
  | zero =>
    intro x2 h H
    cases H
  | succ n ih =>
    intro x2 h H
    unfold f_X2_firstOf_L2 at H
    refine jr_iload_n dX2_firstOf_2 rfl rfl ?_
    refine jr_aload_n dX2_firstOf_3 rfl rfl ?_
    refine jr_getI fl_RX2_41 (by decide) dX2_firstOf_4 H (fun v1 H => ?_)
    refine jr_icmp_ge (tgt := 27) dX2_firstOf_7 (by decide) H (fun H => ?_) (fun H => ?_)
    · refine jr_iconst (v := 0) dX2_firstOf_27 (by decide) ?_
      exact jr_iret rfl dX2_firstOf_28 H
    · refine jr_iload_n dX2_firstOf_10 rfl rfl ?_
      refine jr_iload_n dX2_firstOf_11 rfl rfl ?_
      refine jr_ishr dX2_firstOf_12 ?_
      refine jr_iconst (v := 1) dX2_firstOf_13 (by decide) ?_
      refine jr_iand dX2_firstOf_14 ?_
      refine jr_iconst (v := 1) dX2_firstOf_15 (by decide) ?_
      refine jr_icmp_ne (tgt := 21) dX2_firstOf_16 (by decide) H (fun H => ?_) (fun H => ?_)
      · refine jr_iload_n dX2_firstOf_19 rfl rfl ?_
        exact jr_iret rfl dX2_firstOf_20 H
      · refine jr_iinc (v := (x2 + 1)) dX2_firstOf_21 rfl rfl (by decide) rfl (Or.inl rfl) ?_
        refine jr_goto (tgt := 2) dX2_firstOf_24 (by decide) ?_
        exact ih _ _ H
set_option maxRecDepth 100000 in
set_option maxHeartbeats 4000000 in
theorem c_X2_firstOf (l : Launch) (d : Nat) (F : Nat) (a0 : Nat) (a1 : Int32) (h : jH) (rR : Int32) (hf : jH) (H : f_X2_firstOf F a0 a1 h = some (rR, hf)) : jh_sh h a0 = (2, 0) ∧ jMet l (d + 0) yX2_firstOf cX2_firstOf 3 (some .int) [.ref a0, .int a1] h (some (.int rR)) hf := by
  unfold f_X2_firstOf at H
  obtain ⟨hsh, H⟩ := j_gd_some H
  refine ⟨hsh, ?_⟩
  refine jMet.of false [some (.ref a0), some (.int a1), none] rfl (by decide) (by decide) (Nat.le_of_ble_eq_true rfl) (fun S0 q hq => by simpa [j_l, lv_args, j_v, Value.category] using hq) ?_
  refine jr_iconst (v := 0) dX2_firstOf_0 (by decide) ?_
  refine jr_istore_n dX2_firstOf_1 rfl (by decide) rfl (Or.inl rfl) ?_
  exact s_X2_firstOf_L2 l d F a0 a1 F 0 h H
set_option maxRecDepth 100000 in
set_option maxHeartbeats 4000000 in
theorem c_X10_wordForErrand (l : Launch) (d : Nat) (F : Nat) (a0 : Nat) (a1 : Int32) (h : jH) (rR : Int32) (hf : jH) (H : f_X10_wordForErrand F a0 a1 h = some (rR, hf)) : jh_sh h a0 = (10, 0) ∧ jMet l (d + 4) yX10_wordForErrand cX10_wordForErrand 4 (some .int) [.ref a0, .int a1] h (some (.int rR)) hf := by
  unfold f_X10_wordForErrand at H
  obtain ⟨hsh, H⟩ := j_gd_some H
  refine ⟨hsh, ?_⟩
  refine jMet.of false [some (.ref a0), some (.int a1), none, none] rfl (by decide) (by decide) (Nat.le_of_ble_eq_true rfl) (fun S0 q hq => by simpa [j_l, lv_args, j_v, Value.category] using hq) ?_
  refine jr_aload_n dX10_wordForErrand_0 rfl rfl ?_
  refine jr_iload_n dX10_wordForErrand_1 rfl rfl ?_
  obtain ⟨v2, h1, Hc, H⟩ := j_b2_some H
  refine jr_callV (ci := 10) [.int a1] my_X10_isTraveller mv_X10_isTraveller ml_RX10_159 dX10_wordForErrand_2 rfl rfl (Nat.le_of_ble_eq_true rfl) rfl (c_X10_isTraveller l (d + 3) F a0 a1 h v2 h1 Hc) ?_
  refine jr_if_ne (tgt := 10) dX10_wordForErrand_5 (by decide) H (fun H => ?_) (fun H => ?_)
  · refine jr_iconst (v := (-1)) dX10_wordForErrand_8 (by decide) ?_
    exact jr_iret rfl dX10_wordForErrand_9 H
  · refine jr_aload_n dX10_wordForErrand_10 rfl rfl ?_
    refine jr_getR fl_RX10_40 dX10_wordForErrand_11 H (fun v3 H => ?_)
    refine jr_getR fl_RX10_162 dX10_wordForErrand_14 H (fun v4 H => ?_)
    refine jr_iload_n dX10_wordForErrand_17 rfl rfl ?_
    refine jr_iald dX10_wordForErrand_18 H (fun v5 H => ?_)
    refine jr_istore_n dX10_wordForErrand_19 rfl (by decide) rfl (Or.inl rfl) ?_
    refine jr_aload_n dX10_wordForErrand_20 rfl rfl ?_
    refine jr_getR fl_RX10_33 dX10_wordForErrand_21 H (fun v6 H => ?_)
    refine jr_iload_n dX10_wordForErrand_24 rfl rfl ?_
    obtain ⟨v8, h7, Hc, H⟩ := j_b2_some H
    refine jr_callV (ci := 2) [.int a1] my_X2_of mv_X2_of ml_RX10_171 dX10_wordForErrand_25 rfl rfl (Nat.le_of_ble_eq_true rfl) rfl (c_X2_of l (d + 3) F v6 a1 h1 v8 h7 Hc) ?_
    refine jr_aload_n dX10_wordForErrand_28 rfl rfl ?_
    refine jr_getR fl_RX10_33 dX10_wordForErrand_29 H (fun v9 H => ?_)
    refine jr_iload_n dX10_wordForErrand_32 rfl rfl ?_
    obtain ⟨v11, h10, Hc, H⟩ := j_b2_some H
    refine jr_callV (ci := 2) [.int v5] my_X2_at mv_X2_at ml_RX10_428 dX10_wordForErrand_33 rfl rfl (Nat.le_of_ble_eq_true rfl) rfl (c_X2_at l (d + 3) F v9 v5 h7 v11 h10 Hc) ?_
    refine jr_iand dX10_wordForErrand_36 ?_
    refine jr_aload_n dX10_wordForErrand_37 rfl rfl ?_
    refine jr_getR fl_RX10_40 dX10_wordForErrand_38 H (fun v12 H => ?_)
    refine jr_getI fl_RX10_174 (by decide) dX10_wordForErrand_41 H (fun v13 H => ?_)
    refine jr_iconst (v := (-1)) dX10_wordForErrand_44 (by decide) ?_
    refine jr_ixor dX10_wordForErrand_45 ?_
    refine jr_iand dX10_wordForErrand_46 ?_
    refine jr_istore_n dX10_wordForErrand_47 rfl (by decide) rfl (Or.inl rfl) ?_
    refine jr_iload_n dX10_wordForErrand_48 rfl rfl ?_
    refine jr_if_ne (tgt := 54) dX10_wordForErrand_49 (by decide) H (fun H => ?_) (fun H => ?_)
    · refine jr_iconst (v := (-1)) dX10_wordForErrand_52 (by decide) ?_
      exact jr_iret rfl dX10_wordForErrand_53 H
    · refine jr_aload_n dX10_wordForErrand_54 rfl rfl ?_
      refine jr_aload_n dX10_wordForErrand_55 rfl rfl ?_
      refine jr_getR fl_RX10_92 dX10_wordForErrand_56 H (fun v14 H => ?_)
      refine jr_iload_n dX10_wordForErrand_59 rfl rfl ?_
      refine jr_aload_n dX10_wordForErrand_60 rfl rfl ?_
      refine jr_getR fl_RX10_77 dX10_wordForErrand_61 H (fun v15 H => ?_)
      obtain ⟨h16, Hc, H⟩ := Option.bind_eq_some_iff.mp H
      refine jr_callV (ci := 10) [.ref v14, .int v5, .ref v15] my_X10_priceAll mv_X10_priceAll ml_RX10_253 dX10_wordForErrand_64 rfl rfl (Nat.le_of_ble_eq_true rfl) rfl (c_X10_priceAll l d F a0 v14 v5 v15 h10 h16 Hc) ?_
      refine jr_aload_n dX10_wordForErrand_67 rfl rfl ?_
      refine jr_aload_n dX10_wordForErrand_68 rfl rfl ?_
      refine jr_getR fl_RX10_33 dX10_wordForErrand_69 H (fun v17 H => ?_)
      refine jr_getR fl_RX10_187 dX10_wordForErrand_72 H (fun v18 H => ?_)
      refine jr_aload_n dX10_wordForErrand_75 rfl rfl ?_
      refine jr_getR fl_RX10_33 dX10_wordForErrand_76 H (fun v19 H => ?_)
      refine jr_iload_n dX10_wordForErrand_79 rfl rfl ?_
      obtain ⟨v21, h20, Hc, H⟩ := j_b2_some H
      refine jr_callV (ci := 2) [.int ((v8 &&& v11) &&& (v13 ^^^ ((-1) : Int32)))] my_X2_firstOf mv_X2_firstOf ml_RX10_431 dX10_wordForErrand_80 rfl rfl (Nat.le_of_ble_eq_true rfl) rfl (c_X2_firstOf l (d + 3) F v19 ((v8 &&& v11) &&& (v13 ^^^ ((-1) : Int32))) h16 v21 h20 Hc) ?_
      refine jr_iald dX10_wordForErrand_83 H (fun v22 H => ?_)
      refine jr_iconst (v := 0) dX10_wordForErrand_84 (by decide) ?_
      obtain ⟨v24, h23, Hc, H⟩ := j_b2_some H
      refine jr_callV (ci := 10) [.int v22, .int 0] my_X10_cheapestFor mv_X10_cheapestFor ml_RX10_257 dX10_wordForErrand_85 rfl rfl (Nat.le_of_ble_eq_true rfl) rfl (c_X10_cheapestFor l (d + 2) F a0 v22 0 h20 v24 h23 Hc) ?_
      exact jr_iret rfl dX10_wordForErrand_88 H
set_option maxRecDepth 100000 in
set_option maxHeartbeats 4000000 in
theorem c_X10_act (l : Launch) (d : Nat) (F : Nat) (a0 : Nat) (a1 : Int32) (h : jH) (rR : Int32) (hf : jH) (H : f_X10_act F a0 a1 h = some (rR, hf)) : jh_sh h a0 = (10, 0) ∧ jMet l (d + 5) yX10_act cX10_act 4 (some .int) [.ref a0, .int a1] h (some (.int rR)) hf := by
  unfold f_X10_act at H
  obtain ⟨hsh, H⟩ := j_gd_some H
  refine ⟨hsh, ?_⟩
  refine jMet.of false [some (.ref a0), some (.int a1), none, none] rfl (by decide) (by decide) (Nat.le_of_ble_eq_true rfl) (fun S0 q hq => by simpa [j_l, lv_args, j_v, Value.category] using hq) ?_
  refine jr_iload_n dX10_act_0 rfl rfl ?_
  refine jr_sipush (v := 1000) dX10_act_1 (by decide) ?_
  refine jr_icmp_lt (tgt := 26) dX10_act_4 (by decide) H (fun H => ?_) (fun H => ?_)
  · refine jr_iload_n dX10_act_26 rfl rfl ?_
    refine jr_bipush (v := 16) dX10_act_27 (by decide) ?_
    refine jr_idiv dX10_act_29 H (fun v1 H => ?_)
    refine jr_istore_n dX10_act_30 rfl (by decide) rfl (Or.inl rfl) ?_
    refine jr_iload_n dX10_act_31 rfl rfl ?_
    refine jr_bipush (v := 16) dX10_act_32 (by decide) ?_
    refine jr_irem dX10_act_34 H (fun v2 H => ?_)
    refine jr_istore_n dX10_act_35 rfl (by decide) rfl (Or.inl rfl) ?_
    refine jr_iload_n dX10_act_36 rfl rfl ?_
    by_cases q0 : v2 = 10
    · rw [if_pos q0] at H
      refine jr_table (tgt := 64) dX10_act_37 (27) (by rw [q0]; decide) (by decide) (by decide) (by decide) ?_
      refine jr_aload_n dX10_act_64 rfl rfl ?_
      refine jr_iload_n dX10_act_65 rfl rfl ?_
      refine jr_iconst (v := 1) dX10_act_66 (by decide) ?_
      obtain ⟨v4, h3, Hc, H⟩ := j_b2_some H
      refine jr_callV (ci := 10) [.int v1, .int 1] my_X10_goes mv_X10_goes ml_RX10_227 dX10_act_67 rfl rfl (Nat.le_of_ble_eq_true rfl) rfl (c_X10_goes l (d + 2) F a0 v1 1 h v4 h3 Hc) ?_
      refine jr_iconst (v := 0) dX10_act_70 (by decide) ?_
      refine jr_mmin ml_RX10_374 mm_mmin_s mm_i mm_mmin_c dX10_act_71 (Nat.le_of_ble_eq_true rfl) ?_
      exact jr_iret rfl dX10_act_74 H
    rw [if_neg q0] at H
    by_cases q1 : v2 = 11
    · rw [if_pos q1] at H
      refine jr_table (tgt := 75) dX10_act_37 (38) (by rw [q1]; decide) (by decide) (by decide) (by decide) ?_
      refine jr_aload_n dX10_act_75 rfl rfl ?_
      refine jr_iload_n dX10_act_76 rfl rfl ?_
      refine jr_iconst (v := 0) dX10_act_77 (by decide) ?_
      obtain ⟨v6, h5, Hc, H⟩ := j_b2_some H
      refine jr_callV (ci := 10) [.int v1, .int 0] my_X10_goes mv_X10_goes ml_RX10_227 dX10_act_78 rfl rfl (Nat.le_of_ble_eq_true rfl) rfl (c_X10_goes l (d + 2) F a0 v1 0 h v6 h5 Hc) ?_
      refine jr_iconst (v := 0) dX10_act_81 (by decide) ?_
      refine jr_mmin ml_RX10_374 mm_mmin_s mm_i mm_mmin_c dX10_act_82 (Nat.le_of_ble_eq_true rfl) ?_
      exact jr_iret rfl dX10_act_85 H
    rw [if_neg q1] at H
    by_cases q2 : v2 = 12
    · rw [if_pos q2] at H
      refine jr_table (tgt := 86) dX10_act_37 (49) (by rw [q2]; decide) (by decide) (by decide) (by decide) ?_
      refine jr_aload_n dX10_act_86 rfl rfl ?_
      refine jr_iload_n dX10_act_87 rfl rfl ?_
      refine jr_aload_n dX10_act_88 rfl rfl ?_
      refine jr_iload_n dX10_act_89 rfl rfl ?_
      obtain ⟨v8, h7, Hc, H⟩ := j_b2_some H
      refine jr_callV (ci := 10) [.int v1] my_X10_wordForErrand mv_X10_wordForErrand ml_RX10_425 dX10_act_90 rfl rfl (Nat.le_of_ble_eq_true rfl) rfl (c_X10_wordForErrand l d F a0 v1 h v8 h7 Hc) ?_
      obtain ⟨v10, h9, Hc, H⟩ := j_b2_some H
      refine jr_callV (ci := 10) [.int v1, .int v8] my_X10_speak mv_X10_speak ml_RX10_233 dX10_act_93 rfl rfl (Nat.le_of_ble_eq_true rfl) rfl (c_X10_speak l (d + 1) F a0 v1 v8 h7 v10 h9 Hc) ?_
      exact jr_iret rfl dX10_act_96 H
    rw [if_neg q2] at H
    have hdef : (if v2.toInt < 10 ∨ 12 < v2.toInt then (60 : Int) else (#[27, 38, 49] : Array Int).getD (v2.toInt - 10).toNat 60) = 60 := by
      have w0 := lv_neT q0 (show (10 : Int32).toInt = 10 from rfl)
      have w1 := lv_neT q1 (show (11 : Int32).toInt = 11 from rfl)
      have w2 := lv_neT q2 (show (12 : Int32).toInt = 12 from rfl)
      by_cases hx : v2.toInt < 10 ∨ 12 < v2.toInt
      · rw [if_pos hx]
      · rw [if_neg hx]
        omega
    refine jr_table (tgt := 97) dX10_act_37 (60) hdef (by decide) (by decide) (by decide) ?_
    refine jr_aload_n dX10_act_97 rfl rfl ?_
    refine jr_iload_n dX10_act_98 rfl rfl ?_
    refine jr_iload_n dX10_act_99 rfl rfl ?_
    obtain ⟨v12, h11, Hc, H⟩ := j_b2_some H
    refine jr_callV (ci := 10) [.int v1, .int v2] my_X10_speak mv_X10_speak ml_RX10_233 dX10_act_100 rfl rfl (Nat.le_of_ble_eq_true rfl) rfl (c_X10_speak l (d + 1) F a0 v1 v2 h v12 h11 Hc) ?_
    exact jr_iret rfl dX10_act_103 H
  · refine jr_aload_n dX10_act_7 rfl rfl ?_
    refine jr_getR fl_RX10_40 dX10_act_8 H (fun v13 H => ?_)
    refine jr_dup dX10_act_11 rfl ?_
    refine jr_getI fl_RX10_206 (by decide) dX10_act_12 H (fun v14 H => ?_)
    refine jr_iload_n dX10_act_15 rfl rfl ?_
    refine jr_sipush (v := 1000) dX10_act_16 (by decide) ?_
    refine jr_isub dX10_act_19 ?_
    refine jr_iadd dX10_act_20 ?_
    refine jr_putI fl_RX10_206 (fun z => by cases z) dX10_act_21 H (fun h15 H => ?_)
    refine jr_iconst (v := 0) dX10_act_24 (by decide) ?_
    exact jr_iret rfl dX10_act_25 H
set_option maxRecDepth 100000 in
set_option maxHeartbeats 4000000 in
theorem c_X6_tell_ (l : Launch) (d : Nat) (F : Nat) (a0 : Nat) (a1 : Int64) (a2 : Int64) (h : jH) (hf : jH) (H : f_X6_tell_ F a0 a1 a2 h = some hf) : jh_sh h a0 = (6, 0) ∧ jMet l (d + 1) yX6_tell_ cX6_tell_ 5 none [.ref a0, .long a1, .long a2] h none hf := by
  unfold f_X6_tell_ at H
  obtain ⟨hsh, H⟩ := j_gd_some H
  refine ⟨hsh, ?_⟩
  refine jMet.of false [some (.ref a0), some (.long a1), none, some (.long a2), none] rfl (by decide) (by decide) (Nat.le_of_ble_eq_true rfl) (fun S0 q hq => by simpa [j_l, lv_args, j_v, Value.category] using hq) ?_
  refine jr_aload_n dX6_tell__0 rfl rfl ?_
  obtain ⟨h1, Hc, H⟩ := Option.bind_eq_some_iff.mp H
  refine jr_callV (ci := 6) [] my_X6_clear mv_X6_clear ml_RX6_17 dX6_tell__1 rfl rfl (Nat.le_of_ble_eq_true rfl) rfl (c_X6_clear l d F a0 h h1 Hc) ?_
  refine jr_aload_n dX6_tell__4 rfl rfl ?_
  refine jr_lload_n dX6_tell__5 rfl rfl ?_
  obtain ⟨h2, Hc, H⟩ := Option.bind_eq_some_iff.mp H
  refine jr_callV (ci := 6) [.long a1] my_X6_add mv_X6_add ml_RX6_20 dX6_tell__6 rfl rfl (Nat.le_of_ble_eq_true rfl) rfl (c_X6_add l d F a0 a1 h1 h2 Hc) ?_
  refine jr_aload_n dX6_tell__9 rfl rfl ?_
  refine jr_lload_n dX6_tell__10 rfl rfl ?_
  obtain ⟨h3, Hc, H⟩ := Option.bind_eq_some_iff.mp H
  refine jr_callV (ci := 6) [.long a2] my_X6_add mv_X6_add ml_RX6_20 dX6_tell__11 rfl rfl (Nat.le_of_ble_eq_true rfl) rfl (c_X6_add l d F a0 a2 h2 h3 Hc) ?_
  exact jr_vret rfl dX6_tell__14 H
set_option maxRecDepth 100000 in
set_option maxHeartbeats 4000000 in
theorem s_X10_journey_L35 (l : Launch) (d : Nat) (F : Nat) (x0 : Nat) (x1 : Int32) (k79 : Int32 → Int32 → Int32 → jH → Option (Int32 × jH)) {rR : Int32} {hf : jH} (hk79 : ∀ (y2 : Int32) (y3 : Int32) (y4 : Int32) (h : jH), k79 y2 y3 y4 h = some (rR, hf) → jGo l (d + 6) none RX10 cX10_journey 6 (some .int) false 79 [some (.ref x0), none, some (.int y2), some (.int y3), some (.int y4), none] [] h (some (.int rR)) hf) : ∀ (n : Nat) (x2 : Int32) (x3 : Int32) (x4 : Int32) (h : jH), f_X10_journey_L35 F x0 x1 k79 n x2 x3 x4 h = some (rR, hf) → jGo l (d + 6) none RX10 cX10_journey 6 (some .int) false 35 [some (.ref x0), some (.int x1), some (.int x2), some (.int x3), some (.int x4), none] [] h (some (.int rR)) hf := by
  intro n
  induction n with
  | zero =>
    intro x2 x3 x4 h H
    cases H
  | succ n ih =>
    intro x2 x3 x4 h H
    unfold f_X10_journey_L35 at H
    refine jr_iload_n dX10_journey_35 rfl rfl ?_
    refine jr_iload_n dX10_journey_36 rfl rfl ?_
    refine jr_icmp_ge (tgt := 79) dX10_journey_37 (by decide) H (fun H => ?_) (fun H => ?_)
    · refine jr_fgt 1 ?_
      exact hk79 _ _ _ _ H
    · refine jr_iload dX10_journey_40 rfl ?_
      refine jr_if_ne (tgt := 79) dX10_journey_42 (by decide) H (fun H => ?_) (fun H => ?_)
      · refine jr_aload_n dX10_journey_45 rfl rfl ?_
        refine jr_aload_n dX10_journey_46 rfl rfl ?_
        refine jr_getR fl_RX10_73 dX10_journey_47 H (fun v6 H => ?_)
        refine jr_iload_n dX10_journey_50 rfl rfl ?_
        refine jr_iald dX10_journey_51 H (fun v7 H => ?_)
        obtain ⟨v9, h8, Hc, H⟩ := j_b2_some H
        refine jr_callV (ci := 10) [.int v7] my_X10_act mv_X10_act ml_RX10_239 dX10_journey_52 rfl rfl (Nat.le_of_ble_eq_true rfl) rfl (c_X10_act l d F x0 v7 h v9 h8 Hc) ?_
        refine jr_istore dX10_journey_55 (by decide) rfl (Or.inl rfl) ?_
        refine jr_iload dX10_journey_57 rfl ?_
        refine jr_jn (fun J => ∀ (z10 : Int32) (z11 : Int32) (z12 : Int32) (h13 : jH), J z10 z11 z12 h13 = some (rR, hf) → jGo l (d + 6) none RX10 cX10_journey 6 (some .int) false 76 [some (.ref x0), some (.int x1), some (.int z10), some (.int z11), some (.int z12), none] [] h13 (some (.int rR)) hf) H (fun z10 z11 z12 h13 H => ?_) (fun J76 hJ76 H => ?_)
        · refine jr_goto (tgt := 35) dX10_journey_76 (by decide) ?_
          exact ih _ _ _ _ H
        · refine jr_if_ge (tgt := 68) dX10_journey_59 (by decide) H (fun H => ?_) (fun H => ?_)
          · refine jr_iload_n dX10_journey_68 rfl rfl ?_
            refine jr_iload dX10_journey_69 rfl ?_
            refine jr_iadd dX10_journey_71 ?_
            refine jr_istore_n dX10_journey_72 rfl (by decide) rfl (Or.inl rfl) ?_
            refine jr_iinc (v := (x3 + 1)) dX10_journey_73 rfl rfl (by decide) rfl (Or.inl rfl) ?_
            refine jr_fgt 5 ?_
            exact hJ76 _ _ _ _ H
          · refine jr_iconst (v := 1) dX10_journey_62 (by decide) ?_
            refine jr_istore dX10_journey_63 (by decide) rfl (Or.inl rfl) ?_
            refine jr_goto (tgt := 76) dX10_journey_65 (by decide) ?_
            refine jr_fgt 5 ?_
            exact hJ76 _ _ _ _ H
      · refine jr_fgt 1 ?_
        exact hk79 _ _ _ _ H
set_option maxRecDepth 100000 in
set_option maxHeartbeats 4000000 in
theorem c_X10_journey (l : Launch) (d : Nat) (F : Nat) (a0 : Nat) (h : jH) (rR : Int32) (hf : jH) (H : f_X10_journey F a0 h = some (rR, hf)) : jh_sh h a0 = (10, 0) ∧ jMet l (d + 6) yX10_journey cX10_journey 6 (some .int) [.ref a0] h (some (.int rR)) hf := by
  unfold f_X10_journey at H
  obtain ⟨hsh, H⟩ := j_gd_some H
  refine ⟨hsh, ?_⟩
  refine jMet.of false [some (.ref a0), none, none, none, none, none] rfl (by decide) (by decide) (Nat.le_of_ble_eq_true rfl) (fun S0 q hq => by simpa [j_l, lv_args, j_v, Value.category] using hq) ?_
  refine jr_aload_n dX10_journey_0 rfl rfl ?_
  refine jr_iconst (v := 3) dX10_journey_1 (by decide) ?_
  refine jr_bipush (v := 60) dX10_journey_2 (by decide) ?_
  refine jr_iconst (v := 0) dX10_journey_4 (by decide) ?_
  refine jr_bipush (v := 21) dX10_journey_5 (by decide) ?_
  obtain ⟨v2, h1, Hc, H⟩ := j_b2_some H
  refine jr_callV (ci := 10) [.int 3, .int 60, .int 0, .int 21] my_X10_readLines mv_X10_readLines ml_RX10_128 dX10_journey_7 rfl rfl (Nat.le_of_ble_eq_true rfl) rfl (c_X10_readLines l d F a0 3 60 0 21 h v2 h1 Hc) ?_
  refine jr_istore_n dX10_journey_10 rfl (by decide) rfl (Or.inl rfl) ?_
  refine jr_iload_n dX10_journey_11 rfl rfl ?_
  refine jr_if_ge (tgt := 17) dX10_journey_12 (by decide) H (fun H => ?_) (fun H => ?_)
  · refine jr_aload_n dX10_journey_17 rfl rfl ?_
    refine jr_getR fl_RX10_47 dX10_journey_18 H (fun v3 H => ?_)
    refine jr_aload_n dX10_journey_21 rfl rfl ?_
    refine jr_getR fl_RX10_40 dX10_journey_22 H (fun v4 H => ?_)
    obtain ⟨h5, Hc, H⟩ := Option.bind_eq_some_iff.mp H
    refine jr_callV (ci := 4) [.ref v4] my_X4_mark mv_X4_mark ml_RX10_223 dX10_journey_25 rfl rfl (Nat.le_of_ble_eq_true rfl) rfl (c_X4_mark l (d + 3) F v3 v4 h1 h5 Hc) ?_
    refine jr_iconst (v := 0) dX10_journey_28 (by decide) ?_
    refine jr_istore_n dX10_journey_29 rfl (by decide) rfl (Or.inl rfl) ?_
    refine jr_iconst (v := 0) dX10_journey_30 (by decide) ?_
    refine jr_istore_n dX10_journey_31 rfl (by decide) rfl (Or.inl rfl) ?_
    refine jr_iconst (v := 0) dX10_journey_32 (by decide) ?_
    refine jr_istore dX10_journey_33 (by decide) rfl (Or.inl rfl) ?_
    refine s_X10_journey_L35 l d F a0 v2 _ (fun y14 y15 y16 h17 H => ?_) F 0 0 0 h5 H
    · refine jr_iload_n dX10_journey_79 rfl rfl ?_
      refine jr_jn (fun J => ∀ (h18 : jH), J h18 = some (rR, hf) → jGo l (d + 6) none RX10 cX10_journey 6 (some .int) false 90 [some (.ref a0), none, some (.int y14), some (.int y15), some (.int y16), none] [] h18 (some (.int rR)) hf) H (fun h18 H => ?_) (fun J90 hJ90 H => ?_)
      · refine jr_aload_n dX10_journey_90 rfl rfl ?_
        refine jr_getR fl_RX10_19 dX10_journey_91 H (fun v19 H => ?_)
        refine jr_iload dX10_journey_94 rfl ?_
        refine jr_jn (fun J => ∀ (s20 : Int64) (s21 : Nat) (h22 : jH), J s20 s21 h22 = some (rR, hf) → jGo l (d + 6) none RX10 cX10_journey 6 (some .int) false 104 [none, none, some (.int y14), some (.int y15), none, none] [.long s20, .ref s21] h22 (some (.int rR)) hf) H (fun s20 s21 h22 H => ?_) (fun J104 hJ104 H => ?_)
        · refine jr_iload_n dX10_journey_104 rfl rfl ?_
          refine jr_i2l dX10_journey_105 ?_
          obtain ⟨h23, Hc, H⟩ := Option.bind_eq_some_iff.mp H
          refine jr_callV (ci := 6) [.long s20, .long (y14.toInt64)] my_X6_tell_ mv_X6_tell_ ml_RX10_242 dX10_journey_106 rfl rfl (Nat.le_of_ble_eq_true rfl) rfl (c_X6_tell_ l (d + 4) F s21 s20 (y14.toInt64) h22 h23 Hc) ?_
          refine jr_iload_n dX10_journey_109 rfl rfl ?_
          exact jr_iret rfl dX10_journey_110 H
        · refine jr_if_eq (tgt := 103) dX10_journey_96 (by decide) H (fun H => ?_) (fun H => ?_)
          · refine jr_lconst (v := 0) dX10_journey_103 (by decide) ?_
            refine jr_fgt 0 ?_
            refine jr_fgt 4 ?_
            exact hJ104 _ _ _ H
          · refine jr_lconst (v := 1) dX10_journey_99 (by decide) ?_
            refine jr_goto (tgt := 104) dX10_journey_100 (by decide) ?_
            refine jr_fgt 0 ?_
            refine jr_fgt 4 ?_
            exact hJ104 _ _ _ H
      · refine jr_if_le (tgt := 90) dX10_journey_80 (by decide) H (fun H => ?_) (fun H => ?_)
        · exact hJ90 _ H
        · refine jr_aload_n dX10_journey_83 rfl rfl ?_
          refine jr_getR fl_RX10_47 dX10_journey_84 H (fun v24 H => ?_)
          obtain ⟨h25, Hc, H⟩ := Option.bind_eq_some_iff.mp H
          refine jr_callV (ci := 4) [] my_X4_confirm mv_X4_confirm ml_RX10_230 dX10_journey_87 rfl rfl (Nat.le_of_ble_eq_true rfl) rfl (c_X4_confirm l (d + 4) F v24 h17 h25 Hc) ?_
          exact hJ90 _ H
  · refine jr_iload_n dX10_journey_15 rfl rfl ?_
    exact jr_iret rfl dX10_journey_16 H
