set_option maxRecDepth 100000 in
set_option maxHeartbeats 4000000 in
theorem s_X11_speak_L53 (l : Launch) (d : Nat) (F : Nat) (x0 : Nat) (x1 : Int32) (x2 : Int32) (x3 : Int32) (x4 : Int32) (x5 : Int32) (x6 : Int32) (k118 : jH → Option jH) {hf : jH} (hk118 : ∀ (h : jH), k118 h = some hf → jGo l (d + 405) none RX11 cX11_speak 8 none false 118 [some (.ref x0), some (.int x1), some (.int x2), some (.int x3), some (.int x4), none, none, none] [] h none hf) : ∀ (n : Nat) (x7 : Int32) (h : jH), f_X11_speak_L53 F x0 x1 x2 x3 x4 x5 x6 k118 n x7 h = some hf → jGo l (d + 405) none RX11 cX11_speak 8 none false 53 [some (.ref x0), some (.int x1), some (.int x2), some (.int x3), some (.int x4), some (.int x5), some (.int x6), some (.int x7)] [] h none hf := by
  intro n
  induction n with
  | zero =>
    intro x7 h H
    cases H
  | succ n ih =>
    intro x7 h H
    unfold f_X11_speak_L53 at H
    refine jr_iload dX11_speak_53 rfl ?_
    refine jr_sipush (v := 256) dX11_speak_55 (by decide) ?_
    refine jr_icmp_ge (tgt := 118) dX11_speak_58 (by decide) H (fun H => ?_) (fun H => ?_)
    · refine jr_fgt 5 ?_
      refine jr_fgt 6 ?_
      refine jr_fgt 7 ?_
      exact hk118 _ H
    · refine jr_aload_n dX11_speak_61 rfl rfl ?_
      refine jr_getR fl_RX11_79 dX11_speak_62 H (fun v9 H => ?_)
      refine jr_sipush (v := 256) dX11_speak_65 (by decide) ?_
      refine jr_iload_n dX11_speak_68 rfl rfl ?_
      refine jr_imul dX11_speak_69 ?_
      refine jr_iload dX11_speak_70 rfl ?_
      refine jr_iload dX11_speak_72 rfl ?_
      refine jr_ior dX11_speak_74 ?_
      refine jr_iadd dX11_speak_75 ?_
      refine jr_aload_n dX11_speak_76 rfl rfl ?_
      refine jr_getR fl_RX11_79 dX11_speak_77 H (fun v10 H => ?_)
      refine jr_sipush (v := 256) dX11_speak_80 (by decide) ?_
      refine jr_iload_n dX11_speak_83 rfl rfl ?_
      refine jr_imul dX11_speak_84 ?_
      refine jr_iload dX11_speak_85 rfl ?_
      refine jr_iload dX11_speak_87 rfl ?_
      refine jr_ior dX11_speak_89 ?_
      refine jr_iadd dX11_speak_90 ?_
      refine jr_iald dX11_speak_91 H (fun v11 H => ?_)
      refine jr_aload_n dX11_speak_92 rfl rfl ?_
      refine jr_getR fl_RX11_79 dX11_speak_93 H (fun v12 H => ?_)
      refine jr_sipush (v := 256) dX11_speak_96 (by decide) ?_
      refine jr_iload_n dX11_speak_99 rfl rfl ?_
      refine jr_imul dX11_speak_100 ?_
      refine jr_iload dX11_speak_101 rfl ?_
      refine jr_iadd dX11_speak_103 ?_
      refine jr_iald dX11_speak_104 H (fun v13 H => ?_)
      refine jr_iload dX11_speak_105 rfl ?_
      refine jr_iadd dX11_speak_107 ?_
      refine jr_mmin ml_RX11_226 mm_mmin_s mm_i mm_mmin_c dX11_speak_108 (Nat.le_of_ble_eq_true rfl) ?_
      refine jr_iast dX11_speak_111 H (fun h14 H => ?_)
      refine jr_iinc (v := (x7 + 1)) dX11_speak_112 rfl rfl (by decide) rfl (Or.inl rfl) ?_
      refine jr_goto (tgt := 53) dX11_speak_115 (by decide) ?_
      exact ih _ _ H
set_option maxRecDepth 100000 in
set_option maxHeartbeats 4000000 in
theorem s_X11_speak_L13 (l : Launch) (d : Nat) (F : Nat) (x0 : Nat) (x1 : Int32) (x2 : Int32) (x3 : Int32) (k124 : jH → Option jH) {hf : jH} (hk124 : ∀ (h : jH), k124 h = some hf → jGo l (d + 405) none RX11 cX11_speak 8 none false 124 [some (.ref x0), some (.int x1), some (.int x2), some (.int x3), none, none, none, none] [] h none hf) : ∀ (n : Nat) (x4 : Int32) (h : jH), f_X11_speak_L13 F x0 x1 x2 x3 k124 n x4 h = some hf → jGo l (d + 405) none RX11 cX11_speak 8 none false 13 [some (.ref x0), some (.int x1), some (.int x2), some (.int x3), some (.int x4), none, none, none] [] h none hf := by
  intro n
  induction n with
  | zero =>
    intro x4 h H
    cases H
  | succ n ih =>
    intro x4 h H
    unfold f_X11_speak_L13 at H
    refine jr_iload dX11_speak_13 rfl ?_
    refine jr_aload_n dX11_speak_15 rfl rfl ?_
    refine jr_getI fl_RX11_120 (by decide) dX11_speak_16 H (fun v2 H => ?_)
    refine jr_icmp_ge (tgt := 124) dX11_speak_19 (by decide) H (fun H => ?_) (fun H => ?_)
    · refine jr_fgt 4 ?_
      exact hk124 _ H
    · refine jr_aload_n dX11_speak_22 rfl rfl ?_
      refine jr_iload dX11_speak_23 rfl ?_
      refine jr_iload_n dX11_speak_25 rfl rfl ?_
      refine jr_aload_n dX11_speak_26 rfl rfl ?_
      refine jr_getR fl_RX11_9 dX11_speak_27 H (fun v3 H => ?_)
      refine jr_bipush (v := 12) dX11_speak_30 (by decide) ?_
      refine jr_iald dX11_speak_32 H (fun v4 H => ?_)
      refine jr_iload_n dX11_speak_33 rfl rfl ?_
      refine jr_iadd dX11_speak_34 ?_
      obtain ⟨v6, h5, Hc, H⟩ := j_b2_some H
      refine jr_callV (ci := 11) [.int x4, .int x3, .int (v4 + x2)] my_X11_tollOf mv_X11_tollOf ml_RX11_234 dX11_speak_35 rfl rfl (Nat.le_of_ble_eq_true rfl) rfl (c_X11_tollOf l d F x0 x4 x3 (v4 + x2) h v6 h5 Hc) ?_
      refine jr_istore dX11_speak_38 (by decide) rfl (Or.inl rfl) ?_
      refine jr_aload_n dX11_speak_40 rfl rfl ?_
      refine jr_iload_n dX11_speak_41 rfl rfl ?_
      refine jr_iload dX11_speak_42 rfl ?_
      refine jr_iload_n dX11_speak_44 rfl rfl ?_
      obtain ⟨v8, h7, Hc, H⟩ := j_b2_some H
      refine jr_callV (ci := 11) [.int x1, .int x4, .int x3] my_X11_does mv_X11_does ml_RX11_358 dX11_speak_45 rfl rfl (Nat.le_of_ble_eq_true rfl) rfl (c_X11_does l (d + 403) F x0 x1 x4 x3 h5 v8 h7 Hc) ?_
      refine jr_istore dX11_speak_48 (by decide) rfl (Or.inl rfl) ?_
      refine jr_iconst (v := 0) dX11_speak_50 (by decide) ?_
      refine jr_istore dX11_speak_51 (by decide) rfl (Or.inl rfl) ?_
      refine s_X11_speak_L53 l d F x0 x1 x2 x3 x4 v6 v8 _ (fun h15 H => ?_) F 0 h7 H
      · refine jr_iinc (v := (x4 + 1)) dX11_speak_118 rfl rfl (by decide) rfl (Or.inl rfl) ?_
        refine jr_goto (tgt := 13) dX11_speak_121 (by decide) ?_
        exact ih _ _ H
set_option maxRecDepth 100000 in
set_option maxHeartbeats 4000000 in
theorem s_X11_speak_L2 (l : Launch) (d : Nat) (F : Nat) (x0 : Nat) (x1 : Int32) (x2 : Int32) {hf : jH} : ∀ (n : Nat) (x3 : Int32) (h : jH), f_X11_speak_L2 F x0 x1 x2 n x3 h = some hf → jGo l (d + 405) none RX11 cX11_speak 8 none false 2 [some (.ref x0), some (.int x1), some (.int x2), some (.int x3), none, none, none, none] [] h none hf := by
  intro n
  induction n with
  | zero =>
    intro x3 h H
    cases H
  | succ n ih =>
    intro x3 h H
    unfold f_X11_speak_L2 at H
    refine jr_iload_n dX11_speak_2 rfl rfl ?_
    refine jr_aload_n dX11_speak_3 rfl rfl ?_
    refine jr_getI fl_RX11_13 (by decide) dX11_speak_4 H (fun v1 H => ?_)
    refine jr_icmp_ge (tgt := 130) dX11_speak_7 (by decide) H (fun H => ?_) (fun H => ?_)
    · exact jr_vret rfl dX11_speak_130 H
    · refine jr_iconst (v := 0) dX11_speak_10 (by decide) ?_
      refine jr_istore dX11_speak_11 (by decide) rfl (Or.inl rfl) ?_
      refine s_X11_speak_L13 l d F x0 x1 x2 x3 _ (fun h16 H => ?_) F 0 h H
      · refine jr_iinc (v := (x3 + 1)) dX11_speak_124 rfl rfl (by decide) rfl (Or.inl rfl) ?_
        refine jr_goto (tgt := 2) dX11_speak_127 (by decide) ?_
        exact ih _ _ H
set_option maxRecDepth 100000 in
set_option maxHeartbeats 4000000 in
theorem c_X11_speak (l : Launch) (d : Nat) (F : Nat) (a0 : Nat) (a1 : Int32) (a2 : Int32) (h : jH) (hf : jH) (H : f_X11_speak F a0 a1 a2 h = some hf) : jh_sh h a0 = (11, 0) ∧ jMet l (d + 405) yX11_speak cX11_speak 8 none [.ref a0, .int a1, .int a2] h none hf := by
  unfold f_X11_speak at H
  obtain ⟨hsh, H⟩ := j_gd_some H
  refine ⟨hsh, ?_⟩
  refine jMet.of false [some (.ref a0), some (.int a1), some (.int a2), none, none, none, none, none] rfl (by decide) (by decide) (Nat.le_of_ble_eq_true rfl) (fun S0 q hq => by simpa [j_l, lv_args, j_v, Value.category] using hq) ?_
  refine jr_iconst (v := 0) dX11_speak_0 (by decide) ?_
  refine jr_istore_n dX11_speak_1 rfl (by decide) rfl (Or.inl rfl) ?_
  exact s_X11_speak_L2 l d F a0 a1 a2 F 0 h H
set_option maxRecDepth 100000 in
set_option maxHeartbeats 4000000 in
theorem s_X11_move_L2 (l : Launch) (d : Nat) (F : Nat) (x0 : Nat) (k95 : jH → Option jH) {hf : jH} (hk95 : ∀ (h : jH), k95 h = some hf → jGo l (d + 1) none RX11 cX11_move 4 none false 95 [some (.ref x0), none, none, none] [] h none hf) : ∀ (n : Nat) (x1 : Int32) (h : jH), f_X11_move_L2 F x0 k95 n x1 h = some hf → jGo l (d + 1) none RX11 cX11_move 4 none false 2 [some (.ref x0), some (.int x1), none, none] [] h none hf := by
  intro n
  induction n with
  | zero =>
    intro x1 h H
    cases H
  | succ n ih =>
    intro x1 h H
    unfold f_X11_move_L2 at H
    refine jr_iload_n dX11_move_2 rfl rfl ?_
    refine jr_aload_n dX11_move_3 rfl rfl ?_
    refine jr_getR fl_RX11_82 dX11_move_4 H (fun v1 H => ?_)
    refine jr_len100 dX11_move_7 H (fun v2 H => ?_)
    refine jr_icmp_ge (tgt := 95) dX11_move_8 (by decide) H (fun H => ?_) (fun H => ?_)
    · refine jr_fgt 1 ?_
      exact hk95 _ H
    · refine jr_iload_n dX11_move_11 rfl rfl ?_
      refine jr_sipush (v := 256) dX11_move_12 (by decide) ?_
      refine jr_idiv dX11_move_15 H (fun v3 H => ?_)
      refine jr_istore_n dX11_move_16 rfl (by decide) rfl (Or.inl rfl) ?_
      refine jr_aload_n dX11_move_17 rfl rfl ?_
      refine jr_getR fl_RX11_79 dX11_move_18 H (fun v4 H => ?_)
      refine jr_iload_n dX11_move_21 rfl rfl ?_
      refine jr_iald dX11_move_22 H (fun v5 H => ?_)
      refine jr_istore_n dX11_move_23 rfl (by decide) rfl (Or.inl rfl) ?_
      refine jr_iload_n dX11_move_24 rfl rfl ?_
      refine jr_jn (fun J => ∀ (z6 : Int32) (h7 : jH), J z6 h7 = some hf → jGo l (d + 1) none RX11 cX11_move 4 none false 43 [some (.ref x0), some (.int x1), some (.int v3), some (.int z6)] [] h7 none hf) H (fun z6 h7 H => ?_) (fun J43 hJ43 H => ?_)
      · refine jr_iload_n dX11_move_43 rfl rfl ?_
        refine jr_iconst (v := 1) dX11_move_44 (by decide) ?_
        refine jr_iadd dX11_move_45 ?_
        refine jr_aload_n dX11_move_46 rfl rfl ?_
        refine jr_getI fl_RX11_13 (by decide) dX11_move_47 H (fun v8 H => ?_)
        refine jr_jn (fun J => ∀ (z9 : Int32) (h10 : jH), J z9 h10 = some hf → jGo l (d + 1) none RX11 cX11_move 4 none false 68 [some (.ref x0), some (.int x1), some (.int v3), some (.int z9)] [] h10 none hf) H (fun z9 h10 H => ?_) (fun J68 hJ68 H => ?_)
        · refine jr_aload_n dX11_move_68 rfl rfl ?_
          refine jr_getR fl_RX11_82 dX11_move_69 H (fun v11 H => ?_)
          refine jr_iload_n dX11_move_72 rfl rfl ?_
          refine jr_iload_n dX11_move_73 rfl rfl ?_
          refine jr_aload_n dX11_move_74 rfl rfl ?_
          refine jr_getI fl_RX11_13 (by decide) dX11_move_75 H (fun v12 H => ?_)
          refine jr_jn (fun J => ∀ (s13 : Int32) (s14 : Int32) (s15 : Nat) (h16 : jH), J s13 s14 s15 h16 = some hf → jGo l (d + 1) none RX11 cX11_move 4 none false 88 [some (.ref x0), some (.int x1), none, none] [.int s13, .int s14, .ref s15] h16 none hf) H (fun s13 s14 s15 h16 H => ?_) (fun J88 hJ88 H => ?_)
          · refine jr_iast dX11_move_88 H (fun h17 H => ?_)
            refine jr_iinc (v := (x1 + 1)) dX11_move_89 rfl rfl (by decide) rfl (Or.inl rfl) ?_
            refine jr_goto (tgt := 2) dX11_move_92 (by decide) ?_
            exact ih _ _ H
          · refine jr_icmp_ge (tgt := 85) dX11_move_78 (by decide) H (fun H => ?_) (fun H => ?_)
            · refine jr_ldcw cn_RX11_319 dX11_move_85 ?_
              refine jr_fgt 2 ?_
              refine jr_fgt 3 ?_
              exact hJ88 _ _ _ _ H
            · refine jr_iload_n dX11_move_81 rfl rfl ?_
              refine jr_goto (tgt := 88) dX11_move_82 (by decide) ?_
              refine jr_fgt 2 ?_
              refine jr_fgt 3 ?_
              exact hJ88 _ _ _ _ H
        · refine jr_icmp_ge (tgt := 68) dX11_move_50 (by decide) H (fun H => ?_) (fun H => ?_)
          · exact hJ68 _ _ H
          · refine jr_iload_n dX11_move_53 rfl rfl ?_
            refine jr_aload_n dX11_move_54 rfl rfl ?_
            refine jr_getR fl_RX11_79 dX11_move_55 H (fun v18 H => ?_)
            refine jr_iload_n dX11_move_58 rfl rfl ?_
            refine jr_sipush (v := 256) dX11_move_59 (by decide) ?_
            refine jr_iadd dX11_move_62 ?_
            refine jr_iald dX11_move_63 H (fun v19 H => ?_)
            refine jr_mmin ml_RX11_226 mm_mmin_s mm_i mm_mmin_c dX11_move_64 (Nat.le_of_ble_eq_true rfl) ?_
            refine jr_istore_n dX11_move_67 rfl (by decide) rfl (Or.inl rfl) ?_
            exact hJ68 _ _ H
      · refine jr_if_le (tgt := 43) dX11_move_25 (by decide) H (fun H => ?_) (fun H => ?_)
        · exact hJ43 _ _ H
        · refine jr_iload_n dX11_move_28 rfl rfl ?_
          refine jr_aload_n dX11_move_29 rfl rfl ?_
          refine jr_getR fl_RX11_79 dX11_move_30 H (fun v20 H => ?_)
          refine jr_iload_n dX11_move_33 rfl rfl ?_
          refine jr_sipush (v := 256) dX11_move_34 (by decide) ?_
          refine jr_isub dX11_move_37 ?_
          refine jr_iald dX11_move_38 H (fun v21 H => ?_)
          refine jr_mmin ml_RX11_226 mm_mmin_s mm_i mm_mmin_c dX11_move_39 (Nat.le_of_ble_eq_true rfl) ?_
          refine jr_istore_n dX11_move_42 rfl (by decide) rfl (Or.inl rfl) ?_
          exact hJ43 _ _ H
set_option maxRecDepth 100000 in
set_option maxHeartbeats 4000000 in
theorem s_X11_move_L97 (l : Launch) (d : Nat) (F : Nat) (x0 : Nat) {hf : jH} : ∀ (n : Nat) (x1 : Int32) (h : jH), f_X11_move_L97 F x0 n x1 h = some hf → jGo l (d + 1) none RX11 cX11_move 4 none false 97 [some (.ref x0), some (.int x1), none, none] [] h none hf := by
  intro n
  induction n with
  | zero =>
    intro x1 h H
    cases H
  | succ n ih =>
    intro x1 h H
    unfold f_X11_move_L97 at H
    refine jr_iload_n dX11_move_97 rfl rfl ?_
    refine jr_aload_n dX11_move_98 rfl rfl ?_
    refine jr_getR fl_RX11_79 dX11_move_99 H (fun v23 H => ?_)
    refine jr_len100 dX11_move_102 H (fun v24 H => ?_)
    refine jr_icmp_ge (tgt := 124) dX11_move_103 (by decide) H (fun H => ?_) (fun H => ?_)
    · exact jr_vret rfl dX11_move_124 H
    · refine jr_aload_n dX11_move_106 rfl rfl ?_
      refine jr_getR fl_RX11_79 dX11_move_107 H (fun v25 H => ?_)
      refine jr_iload_n dX11_move_110 rfl rfl ?_
      refine jr_aload_n dX11_move_111 rfl rfl ?_
      refine jr_getR fl_RX11_82 dX11_move_112 H (fun v26 H => ?_)
      refine jr_iload_n dX11_move_115 rfl rfl ?_
      refine jr_iald dX11_move_116 H (fun v27 H => ?_)
      refine jr_iast dX11_move_117 H (fun h28 H => ?_)
      refine jr_iinc (v := (x1 + 1)) dX11_move_118 rfl rfl (by decide) rfl (Or.inl rfl) ?_
      refine jr_goto (tgt := 97) dX11_move_121 (by decide) ?_
      exact ih _ _ H
set_option maxRecDepth 100000 in
set_option maxHeartbeats 4000000 in
theorem c_X11_move (l : Launch) (d : Nat) (F : Nat) (a0 : Nat) (h : jH) (hf : jH) (H : f_X11_move F a0 h = some hf) : jh_sh h a0 = (11, 0) ∧ jMet l (d + 1) yX11_move cX11_move 4 none [.ref a0] h none hf := by
  unfold f_X11_move at H
  obtain ⟨hsh, H⟩ := j_gd_some H
  refine ⟨hsh, ?_⟩
  refine jMet.of false [some (.ref a0), none, none, none] rfl (by decide) (by decide) (Nat.le_of_ble_eq_true rfl) (fun S0 q hq => by simpa [j_l, lv_args, j_v, Value.category] using hq) ?_
  refine jr_iconst (v := 0) dX11_move_0 (by decide) ?_
  refine jr_istore_n dX11_move_1 rfl (by decide) rfl (Or.inl rfl) ?_
  refine s_X11_move_L2 l d F a0 _ (fun h22 H => ?_) F 0 h H
  · refine jr_iconst (v := 0) dX11_move_95 (by decide) ?_
    refine jr_istore_n dX11_move_96 rfl (by decide) rfl (Or.inl rfl) ?_
    exact s_X11_move_L97 l d F a0 F 0 h22 H
set_option maxRecDepth 100000 in
set_option maxHeartbeats 4000000 in
theorem s_X11_leastTrip_L9 (l : Launch) (d : Nat) (F : Nat) (x0 : Nat) (x1 : Int32) (x2 : Int32) (x3 : Int32) (k35 : jH → Option (Int32 × jH)) {rR : Int32} {hf : jH} (hk35 : ∀ (h : jH), k35 h = some (rR, hf) → jGo l (d + 406) none RX11 cX11_leastTrip 8 (some .int) false 35 [some (.ref x0), some (.int x1), some (.int x2), some (.int x3), none, none, none, none] [] h (some (.int rR)) hf) : ∀ (n : Nat) (x4 : Int32) (h : jH), f_X11_leastTrip_L9 F x0 x1 x2 x3 k35 n x4 h = some (rR, hf) → jGo l (d + 406) none RX11 cX11_leastTrip 8 (some .int) false 9 [some (.ref x0), some (.int x1), some (.int x2), some (.int x3), some (.int x4), none, none, none] [] h (some (.int rR)) hf := by
  intro n
  induction n with
  | zero =>
    intro x4 h H
    cases H
  | succ n ih =>
    intro x4 h H
    unfold f_X11_leastTrip_L9 at H
    refine jr_iload dX11_leastTrip_9 rfl ?_
    refine jr_aload_n dX11_leastTrip_11 rfl rfl ?_
    refine jr_getR fl_RX11_79 dX11_leastTrip_12 H (fun v3 H => ?_)
    refine jr_len100 dX11_leastTrip_15 H (fun v4 H => ?_)
    refine jr_icmp_ge (tgt := 35) dX11_leastTrip_16 (by decide) H (fun H => ?_) (fun H => ?_)
    · refine jr_fgt 4 ?_
      exact hk35 _ H
    · refine jr_aload_n dX11_leastTrip_19 rfl rfl ?_
      refine jr_getR fl_RX11_79 dX11_leastTrip_20 H (fun v5 H => ?_)
      refine jr_iload dX11_leastTrip_23 rfl ?_
      refine jr_ldcw cn_RX11_319 dX11_leastTrip_25 ?_
      refine jr_iast dX11_leastTrip_28 H (fun h6 H => ?_)
      refine jr_iinc (v := (x4 + 1)) dX11_leastTrip_29 rfl rfl (by decide) rfl (Or.inl rfl) ?_
      refine jr_goto (tgt := 9) dX11_leastTrip_32 (by decide) ?_
      exact ih _ _ H
set_option maxRecDepth 100000 in
set_option maxHeartbeats 4000000 in
theorem s_X11_leastTrip_L102 (l : Launch) (d : Nat) (F : Nat) (x0 : Nat) (x1 : Int32) (x2 : Int32) (x5 : Int32) (k156 : Int32 → jH → Option (Int32 × jH)) {rR : Int32} {hf : jH} (hk156 : ∀ (y4 : Int32) (h : jH), k156 y4 h = some (rR, hf) → jGo l (d + 406) none RX11 cX11_leastTrip 8 (some .int) false 156 [some (.ref x0), some (.int x1), some (.int x2), none, some (.int y4), some (.int x5), none, none] [] h (some (.int rR)) hf) : ∀ (n : Nat) (x4 : Int32) (x6 : Int32) (h : jH), f_X11_leastTrip_L102 F x0 x1 x2 x5 k156 n x4 x6 h = some (rR, hf) → jGo l (d + 406) none RX11 cX11_leastTrip 8 (some .int) false 102 [some (.ref x0), some (.int x1), some (.int x2), none, some (.int x4), some (.int x5), some (.int x6), none] [] h (some (.int rR)) hf := by
  intro n
  induction n with
  | zero =>
    intro x4 x6 h H
    cases H
  | succ n ih =>
    intro x4 x6 h H
    unfold f_X11_leastTrip_L102 at H
    refine jr_iload dX11_leastTrip_102 rfl ?_
    refine jr_aload_n dX11_leastTrip_104 rfl rfl ?_
    refine jr_getI fl_RX11_13 (by decide) dX11_leastTrip_105 H (fun v16 H => ?_)
    refine jr_icmp_ge (tgt := 156) dX11_leastTrip_108 (by decide) H (fun H => ?_) (fun H => ?_)
    · refine jr_fgt 6 ?_
      exact hk156 _ _ H
    · refine jr_aload_n dX11_leastTrip_111 rfl rfl ?_
      refine jr_getR fl_RX11_79 dX11_leastTrip_112 H (fun v17 H => ?_)
      refine jr_sipush (v := 256) dX11_leastTrip_115 (by decide) ?_
      refine jr_iload dX11_leastTrip_118 rfl ?_
      refine jr_imul dX11_leastTrip_120 ?_
      refine jr_sipush (v := 256) dX11_leastTrip_121 (by decide) ?_
      refine jr_iadd dX11_leastTrip_124 ?_
      refine jr_iconst (v := 1) dX11_leastTrip_125 (by decide) ?_
      refine jr_isub dX11_leastTrip_126 ?_
      refine jr_iald dX11_leastTrip_127 H (fun v18 H => ?_)
      refine jr_istore dX11_leastTrip_128 (by decide) rfl (Or.inl rfl) ?_
      refine jr_iload dX11_leastTrip_130 rfl ?_
      refine jr_iload dX11_leastTrip_132 rfl ?_
      refine jr_jn (fun J => ∀ (z19 : Int32) (h20 : jH), J z19 h20 = some (rR, hf) → jGo l (d + 406) none RX11 cX11_leastTrip 8 (some .int) false 150 [some (.ref x0), some (.int x1), some (.int x2), none, some (.int z19), some (.int x5), some (.int x6), none] [] h20 (some (.int rR)) hf) H (fun z19 h20 H => ?_) (fun J150 hJ150 H => ?_)
      · refine jr_iinc (v := (x6 + 1)) dX11_leastTrip_150 rfl rfl (by decide) rfl (Or.inl rfl) ?_
        refine jr_goto (tgt := 102) dX11_leastTrip_153 (by decide) ?_
        exact ih _ _ _ H
      · refine jr_icmp_lt (tgt := 140) dX11_leastTrip_134 (by decide) H (fun H => ?_) (fun H => ?_)
        · refine jr_iload dX11_leastTrip_140 rfl ?_
          refine jr_istore dX11_leastTrip_142 (by decide) rfl (Or.inl rfl) ?_
          refine jr_aload_n dX11_leastTrip_144 rfl rfl ?_
          refine jr_iload dX11_leastTrip_145 rfl ?_
          refine jr_putI fl_RX11_364 (fun z => by cases z) dX11_leastTrip_147 H (fun h21 H => ?_)
          refine jr_fgt 7 ?_
          exact hJ150 _ _ H
        · refine jr_goto (tgt := 150) dX11_leastTrip_137 (by decide) ?_
          refine jr_fgt 7 ?_
          exact hJ150 _ _ H
set_option maxRecDepth 100000 in
set_option maxHeartbeats 4000000 in
theorem s_X11_leastTrip_L77 (l : Launch) (d : Nat) (F : Nat) (x0 : Nat) (x1 : Int32) (x2 : Int32) {rR : Int32} {hf : jH} : ∀ (n : Nat) (x4 : Int32) (x5 : Int32) (h : jH), f_X11_leastTrip_L77 F x0 x1 x2 n x4 x5 h = some (rR, hf) → jGo l (d + 406) none RX11 cX11_leastTrip 8 (some .int) false 77 [some (.ref x0), some (.int x1), some (.int x2), none, some (.int x4), some (.int x5), none, none] [] h (some (.int rR)) hf := by
  intro n
  induction n with
  | zero =>
    intro x4 x5 h H
    cases H
  | succ n ih =>
    intro x4 x5 h H
    unfold f_X11_leastTrip_L77 at H
    refine jr_iload dX11_leastTrip_77 rfl ?_
    refine jr_iload_n dX11_leastTrip_79 rfl rfl ?_
    refine jr_icmp_gt (tgt := 190) dX11_leastTrip_80 (by decide) H (fun H => ?_) (fun H => ?_)
    · refine jr_iload dX11_leastTrip_190 rfl ?_
      exact jr_iret rfl dX11_leastTrip_192 H
    · refine jr_iload dX11_leastTrip_83 rfl ?_
      refine jr_jn (fun J => ∀ (h14 : jH), J h14 = some (rR, hf) → jGo l (d + 406) none RX11 cX11_leastTrip 8 (some .int) false 92 [some (.ref x0), some (.int x1), some (.int x2), none, some (.int x4), some (.int x5), none, none] [] h14 (some (.int rR)) hf) H (fun h14 H => ?_) (fun J92 hJ92 H => ?_)
      · refine jr_aload_n dX11_leastTrip_92 rfl rfl ?_
        refine jr_iload_n dX11_leastTrip_93 rfl rfl ?_
        refine jr_iload dX11_leastTrip_94 rfl ?_
        obtain ⟨h15, Hc, H⟩ := Option.bind_eq_some_iff.mp H
        refine jr_callV (ci := 11) [.int x1, .int x5] my_X11_speak mv_X11_speak ml_RX11_370 dX11_leastTrip_96 rfl rfl (Nat.le_of_ble_eq_true rfl) rfl (c_X11_speak l d F x0 x1 x5 h14 h15 Hc) ?_
        refine jr_iconst (v := 0) dX11_leastTrip_99 (by decide) ?_
        refine jr_istore dX11_leastTrip_100 (by decide) rfl (Or.inl rfl) ?_
        refine s_X11_leastTrip_L102 l d F x0 x1 x2 x5 _ (fun y22 h23 H => ?_) F x4 0 h15 H
        · refine jr_aload_n dX11_leastTrip_156 rfl rfl ?_
          refine jr_getI fl_RX11_361 (by decide) dX11_leastTrip_157 H (fun v24 H => ?_)
          refine jr_iconst (v := (-1)) dX11_leastTrip_160 (by decide) ?_
          refine jr_jn (fun J => ∀ (h25 : jH), J h25 = some (rR, hf) → jGo l (d + 406) none RX11 cX11_leastTrip 8 (some .int) false 184 [some (.ref x0), some (.int x1), some (.int x2), none, some (.int y22), some (.int x5), none, none] [] h25 (some (.int rR)) hf) H (fun h25 H => ?_) (fun J184 hJ184 H => ?_)
          · refine jr_iinc (v := (x5 + 1)) dX11_leastTrip_184 rfl rfl (by decide) rfl (Or.inl rfl) ?_
            refine jr_goto (tgt := 77) dX11_leastTrip_187 (by decide) ?_
            exact ih _ _ _ H
          · refine jr_icmp_ne (tgt := 184) dX11_leastTrip_161 (by decide) H (fun H => ?_) (fun H => ?_)
            · refine jr_iload dX11_leastTrip_164 rfl ?_
              refine jr_ldcw cn_RX11_319 dX11_leastTrip_166 ?_
              refine jr_icmp_ge (tgt := 184) dX11_leastTrip_169 (by decide) H (fun H => ?_) (fun H => ?_)
              · exact hJ184 _ H
              · refine jr_aload_n dX11_leastTrip_172 rfl rfl ?_
                refine jr_iload dX11_leastTrip_173 rfl ?_
                refine jr_putI fl_RX11_361 (fun z => by cases z) dX11_leastTrip_175 H (fun h26 H => ?_)
                refine jr_aload_n dX11_leastTrip_178 rfl rfl ?_
                refine jr_iload dX11_leastTrip_179 rfl ?_
                refine jr_putI fl_RX11_374 (fun z => by cases z) dX11_leastTrip_181 H (fun h27 H => ?_)
                exact hJ184 _ H
            · exact hJ184 _ H
      · refine jr_if_le (tgt := 92) dX11_leastTrip_85 (by decide) H (fun H => ?_) (fun H => ?_)
        · exact hJ92 _ H
        · refine jr_aload_n dX11_leastTrip_88 rfl rfl ?_
          obtain ⟨h28, Hc, H⟩ := Option.bind_eq_some_iff.mp H
          refine jr_callV (ci := 11) [] my_X11_move mv_X11_move ml_RX11_367 dX11_leastTrip_89 rfl rfl (Nat.le_of_ble_eq_true rfl) rfl (c_X11_move l (d + 404) F x0 h h28 Hc) ?_
          exact hJ92 _ H
set_option maxRecDepth 100000 in
set_option maxHeartbeats 4000000 in
theorem c_X11_leastTrip (l : Launch) (d : Nat) (F : Nat) (a0 : Nat) (a1 : Int32) (a2 : Int32) (h : jH) (rR : Int32) (hf : jH) (H : f_X11_leastTrip F a0 a1 a2 h = some (rR, hf)) : jh_sh h a0 = (11, 0) ∧ jMet l (d + 406) yX11_leastTrip cX11_leastTrip 8 (some .int) [.ref a0, .int a1, .int a2] h (some (.int rR)) hf := by
  unfold f_X11_leastTrip at H
  obtain ⟨hsh, H⟩ := j_gd_some H
  refine ⟨hsh, ?_⟩
  refine jMet.of false [some (.ref a0), some (.int a1), some (.int a2), none, none, none, none, none] rfl (by decide) (by decide) (Nat.le_of_ble_eq_true rfl) (fun S0 q hq => by simpa [j_l, lv_args, j_v, Value.category] using hq) ?_
  refine jr_aload_n dX11_leastTrip_0 rfl rfl ?_
  refine jr_iload_n dX11_leastTrip_1 rfl rfl ?_
  obtain ⟨v2, h1, Hc, H⟩ := j_b2_some H
  refine jr_callV (ci := 11) [.int a1] my_X11_openOf mv_X11_openOf ml_RX11_261 dX11_leastTrip_2 rfl rfl (Nat.le_of_ble_eq_true rfl) rfl (c_X11_openOf l (d + 404) F a0 a1 h v2 h1 Hc) ?_
  refine jr_istore_n dX11_leastTrip_5 rfl (by decide) rfl (Or.inl rfl) ?_
  refine jr_iconst (v := 0) dX11_leastTrip_6 (by decide) ?_
  refine jr_istore dX11_leastTrip_7 (by decide) rfl (Or.inl rfl) ?_
  refine s_X11_leastTrip_L9 l d F a0 a1 a2 v2 _ (fun h7 H => ?_) F 0 h1 H
  · refine jr_aload_n dX11_leastTrip_35 rfl rfl ?_
    refine jr_getR fl_RX11_79 dX11_leastTrip_36 H (fun v8 H => ?_)
    refine jr_sipush (v := 256) dX11_leastTrip_39 (by decide) ?_
    refine jr_aload_n dX11_leastTrip_42 rfl rfl ?_
    refine jr_getR fl_RX11_9 dX11_leastTrip_43 H (fun v9 H => ?_)
    refine jr_iload_n dX11_leastTrip_46 rfl rfl ?_
    refine jr_iald dX11_leastTrip_47 H (fun v10 H => ?_)
    refine jr_imul dX11_leastTrip_48 ?_
    refine jr_sipush (v := 255) dX11_leastTrip_49 (by decide) ?_
    refine jr_iload_n dX11_leastTrip_52 rfl rfl ?_
    refine jr_iconst (v := (-1)) dX11_leastTrip_53 (by decide) ?_
    refine jr_ixor dX11_leastTrip_54 ?_
    refine jr_iand dX11_leastTrip_55 ?_
    refine jr_iadd dX11_leastTrip_56 ?_
    refine jr_iconst (v := 0) dX11_leastTrip_57 (by decide) ?_
    refine jr_iast dX11_leastTrip_58 H (fun h11 H => ?_)
    refine jr_ldcw cn_RX11_319 dX11_leastTrip_59 ?_
    refine jr_istore dX11_leastTrip_62 (by decide) rfl (Or.inl rfl) ?_
    refine jr_aload_n dX11_leastTrip_64 rfl rfl ?_
    refine jr_iconst (v := (-1)) dX11_leastTrip_65 (by decide) ?_
    refine jr_putI fl_RX11_361 (fun z => by cases z) dX11_leastTrip_66 H (fun h12 H => ?_)
    refine jr_aload_n dX11_leastTrip_69 rfl rfl ?_
    refine jr_iconst (v := (-1)) dX11_leastTrip_70 (by decide) ?_
    refine jr_putI fl_RX11_364 (fun z => by cases z) dX11_leastTrip_71 H (fun h13 H => ?_)
    refine jr_iconst (v := 0) dX11_leastTrip_74 (by decide) ?_
    refine jr_istore dX11_leastTrip_75 (by decide) rfl (Or.inl rfl) ?_
    refine jr_fgt 3 ?_
    exact s_X11_leastTrip_L77 l d F a0 a1 a2 F 100000000 0 h13 H
set_option maxRecDepth 100000 in
set_option maxHeartbeats 4000000 in
theorem c_X11_trip (l : Launch) (d : Nat) (F : Nat) (a0 : Nat) (a1 : Int32) (a2 : Int32) (h : jH) (rR : Int32) (hf : jH) (H : f_X11_trip F a0 a1 a2 h = some (rR, hf)) : jh_sh h a0 = (11, 0) ∧ jMet l (d + 407) yX11_trip cX11_trip 4 (some .int) [.ref a0, .int a1, .int a2] h (some (.int rR)) hf := by
  unfold f_X11_trip at H
  obtain ⟨hsh, H⟩ := j_gd_some H
  refine ⟨hsh, ?_⟩
  refine jMet.of false [some (.ref a0), some (.int a1), some (.int a2), none] rfl (by decide) (by decide) (Nat.le_of_ble_eq_true rfl) (fun S0 q hq => by simpa [j_l, lv_args, j_v, Value.category] using hq) ?_
  refine jr_aload_n dX11_trip_0 rfl rfl ?_
  refine jr_iconst (v := 0) dX11_trip_1 (by decide) ?_
  refine jr_putI fl_RX11_110 (fun z => by cases z) dX11_trip_2 H (fun h1 H => ?_)
  refine jr_aload_n dX11_trip_5 rfl rfl ?_
  refine jr_iload_n dX11_trip_6 rfl rfl ?_
  obtain ⟨v3, h2, Hc, H⟩ := j_b2_some H
  refine jr_callV (ci := 11) [.int a1] my_X11_isOne mv_X11_isOne ml_RX11_258 dX11_trip_7 rfl rfl (Nat.le_of_ble_eq_true rfl) rfl (c_X11_isOne l (d + 405) F a0 a1 h1 v3 h2 Hc) ?_
  refine jr_if_eq (tgt := 23) dX11_trip_10 (by decide) H (fun H => ?_) (fun H => ?_)
  · refine jr_iconst (v := (-1)) dX11_trip_23 (by decide) ?_
    exact jr_iret rfl dX11_trip_24 H
  · refine jr_iload_n dX11_trip_13 rfl rfl ?_
    refine jr_iconst (v := 0) dX11_trip_14 (by decide) ?_
    refine jr_bipush (v := 12) dX11_trip_15 (by decide) ?_
    obtain ⟨v5, h4, Hc, H⟩ := j_b2_some H
    refine jr_callS [.int a2, .int 0, .int 12] my_X11_in ms_X11_in ml_RX11_116 dX11_trip_17 rfl rfl (Nat.le_of_ble_eq_true rfl) (c_X11_in l (d + 406) F a2 0 12 h2 v5 h4 Hc) ?_
    refine jr_if_ne (tgt := 25) dX11_trip_20 (by decide) H (fun H => ?_) (fun H => ?_)
    · refine jr_iconst (v := (-1)) dX11_trip_23 (by decide) ?_
      exact jr_iret rfl dX11_trip_24 H
    · refine jr_aload_n dX11_trip_25 rfl rfl ?_
      refine jr_iload_n dX11_trip_26 rfl rfl ?_
      refine jr_iload_n dX11_trip_27 rfl rfl ?_
      obtain ⟨v7, h6, Hc, H⟩ := j_b2_some H
      refine jr_callV (ci := 11) [.int a1, .int a2] my_X11_leastTrip mv_X11_leastTrip ml_RX11_377 dX11_trip_28 rfl rfl (Nat.le_of_ble_eq_true rfl) rfl (c_X11_leastTrip l d F a0 a1 a2 h4 v7 h6 Hc) ?_
      refine jr_istore_n dX11_trip_31 rfl (by decide) rfl (Or.inl rfl) ?_
      refine jr_iload_n dX11_trip_32 rfl rfl ?_
      refine jr_ldcw cn_RX11_319 dX11_trip_33 ?_
      refine jr_icmp_lt (tgt := 42) dX11_trip_36 (by decide) H (fun H => ?_) (fun H => ?_)
      · refine jr_aload_n dX11_trip_42 rfl rfl ?_
        refine jr_iconst (v := 0) dX11_trip_43 (by decide) ?_
        refine jr_putI fl_RX11_113 (fun z => by cases z) dX11_trip_44 H (fun h8 H => ?_)
        refine jr_aload_n dX11_trip_47 rfl rfl ?_
        refine jr_aload_n dX11_trip_48 rfl rfl ?_
        refine jr_getI fl_RX11_364 (by decide) dX11_trip_49 H (fun v9 H => ?_)
        refine jr_i2l dX11_trip_52 ?_
        obtain ⟨h10, Hc, H⟩ := Option.bind_eq_some_iff.mp H
        refine jr_callV (ci := 11) [.long (v9.toInt64)] my_X11_tell mv_X11_tell ml_RX11_274 dX11_trip_53 rfl rfl (Nat.le_of_ble_eq_true rfl) rfl (c_X11_tell l (d + 406) F a0 (v9.toInt64) h8 h10 Hc) ?_
        refine jr_aload_n dX11_trip_56 rfl rfl ?_
        refine jr_aload_n dX11_trip_57 rfl rfl ?_
        refine jr_iload_n dX11_trip_58 rfl rfl ?_
        obtain ⟨v12, h11, Hc, H⟩ := j_b2_some H
        refine jr_callV (ci := 11) [.int a1] my_X11_openOf mv_X11_openOf ml_RX11_261 dX11_trip_59 rfl rfl (Nat.le_of_ble_eq_true rfl) rfl (c_X11_openOf l (d + 405) F a0 a1 h10 v12 h11 Hc) ?_
        obtain ⟨v14, h13, Hc, H⟩ := j_b2_some H
        refine jr_callS [.int v12] my_J6_bitCount_0f7a4 ms_J6_bitCount_0f7a4 ml_RX11_347 dX11_trip_62 rfl rfl (Nat.le_of_ble_eq_true rfl) (c_J6_bitCount_0f7a4 l (d + 406) F v12 h11 v14 h13 Hc) ?_
        refine jr_i2l dX11_trip_65 ?_
        obtain ⟨h15, Hc, H⟩ := Option.bind_eq_some_iff.mp H
        refine jr_callV (ci := 11) [.long (v14.toInt64)] my_X11_tell mv_X11_tell ml_RX11_274 dX11_trip_66 rfl rfl (Nat.le_of_ble_eq_true rfl) rfl (c_X11_tell l (d + 406) F a0 (v14.toInt64) h13 h15 Hc) ?_
        refine jr_iload_n dX11_trip_69 rfl rfl ?_
        exact jr_iret rfl dX11_trip_70 H
      · refine jr_bipush (v := (-2)) dX11_trip_39 (by decide) ?_
        exact jr_iret rfl dX11_trip_41 H
set_option maxRecDepth 100000 in
set_option maxHeartbeats 4000000 in
theorem c_X11_haste (l : Launch) (d : Nat) (F : Nat) (a0 : Nat) (a1 : Int32) (h : jH) (rR : Int32) (hf : jH) (H : f_X11_haste F a0 a1 h = some (rR, hf)) : jh_sh h a0 = (11, 0) ∧ jMet l (d + 407) yX11_haste cX11_haste 2 (some .int) [.ref a0, .int a1] h (some (.int rR)) hf := by
  unfold f_X11_haste at H
  obtain ⟨hsh, H⟩ := j_gd_some H
  refine ⟨hsh, ?_⟩
  refine jMet.of false [some (.ref a0), some (.int a1)] rfl (by decide) (by decide) (Nat.le_of_ble_eq_true rfl) (fun S0 q hq => by simpa [j_l, lv_args, j_v, Value.category] using hq) ?_
  refine jr_aload_n dX11_haste_0 rfl rfl ?_
  refine jr_iconst (v := 0) dX11_haste_1 (by decide) ?_
  refine jr_putI fl_RX11_110 (fun z => by cases z) dX11_haste_2 H (fun h1 H => ?_)
  refine jr_aload_n dX11_haste_5 rfl rfl ?_
  refine jr_iload_n dX11_haste_6 rfl rfl ?_
  obtain ⟨v3, h2, Hc, H⟩ := j_b2_some H
  refine jr_callV (ci := 11) [.int a1] my_X11_isOne mv_X11_isOne ml_RX11_258 dX11_haste_7 rfl rfl (Nat.le_of_ble_eq_true rfl) rfl (c_X11_isOne l (d + 405) F a0 a1 h1 v3 h2 Hc) ?_
  refine jr_if_ne (tgt := 15) dX11_haste_10 (by decide) H (fun H => ?_) (fun H => ?_)
  · refine jr_iconst (v := (-1)) dX11_haste_13 (by decide) ?_
    exact jr_iret rfl dX11_haste_14 H
  · refine jr_aload_n dX11_haste_15 rfl rfl ?_
    refine jr_iload_n dX11_haste_16 rfl rfl ?_
    refine jr_bipush (v := 12) dX11_haste_17 (by decide) ?_
    obtain ⟨v5, h4, Hc, H⟩ := j_b2_some H
    refine jr_callV (ci := 11) [.int a1, .int 12] my_X11_leastTrip mv_X11_leastTrip ml_RX11_377 dX11_haste_19 rfl rfl (Nat.le_of_ble_eq_true rfl) rfl (c_X11_leastTrip l d F a0 a1 12 h2 v5 h4 Hc) ?_
    refine jr_ldcw cn_RX11_319 dX11_haste_22 ?_
    refine jr_icmp_lt (tgt := 31) dX11_haste_25 (by decide) H (fun H => ?_) (fun H => ?_)
    · refine jr_aload_n dX11_haste_31 rfl rfl ?_
      refine jr_iconst (v := 0) dX11_haste_32 (by decide) ?_
      refine jr_putI fl_RX11_113 (fun z => by cases z) dX11_haste_33 H (fun h6 H => ?_)
      refine jr_aload_n dX11_haste_36 rfl rfl ?_
      refine jr_aload_n dX11_haste_37 rfl rfl ?_
      refine jr_getI fl_RX11_374 (by decide) dX11_haste_38 H (fun v7 H => ?_)
      refine jr_i2l dX11_haste_41 ?_
      obtain ⟨h8, Hc, H⟩ := Option.bind_eq_some_iff.mp H
      refine jr_callV (ci := 11) [.long (v7.toInt64)] my_X11_tell mv_X11_tell ml_RX11_274 dX11_haste_42 rfl rfl (Nat.le_of_ble_eq_true rfl) rfl (c_X11_tell l (d + 406) F a0 (v7.toInt64) h6 h8 Hc) ?_
      refine jr_aload_n dX11_haste_45 rfl rfl ?_
      refine jr_getI fl_RX11_361 (by decide) dX11_haste_46 H (fun v9 H => ?_)
      exact jr_iret rfl dX11_haste_49 H
    · refine jr_bipush (v := (-2)) dX11_haste_28 (by decide) ?_
      exact jr_iret rfl dX11_haste_30 H
set_option maxRecDepth 100000 in
set_option maxHeartbeats 4000000 in
theorem s_X11_best_L19 (l : Launch) (d : Nat) (F : Nat) (x0 : Nat) (x1 : Int32) (k90 : Int32 → jH → Option (Int32 × jH)) {rR : Int32} {hf : jH} (hk90 : ∀ (y2 : Int32) (h : jH), k90 y2 h = some (rR, hf) → jGo l (d + 407) none RX11 cX11_best 10 (some .int) false 90 [some (.ref x0), some (.int x1), some (.int y2), none, none, none, none, none, none, none] [] h (some (.int rR)) hf) : ∀ (n : Nat) (x2 : Int32) (x3 : Int32) (h : jH), f_X11_best_L19 F x0 x1 k90 n x2 x3 h = some (rR, hf) → jGo l (d + 407) none RX11 cX11_best 10 (some .int) false 19 [some (.ref x0), some (.int x1), some (.int x2), some (.int x3), none, none, none, none, none, none] [] h (some (.int rR)) hf := by
  intro n
  induction n with
  | zero =>
    intro x2 x3 h H
    cases H
  | succ n ih =>
    intro x2 x3 h H
    unfold f_X11_best_L19 at H
    refine jr_iload_n dX11_best_19 rfl rfl ?_
    refine jr_aload_n dX11_best_20 rfl rfl ?_
    refine jr_getI fl_RX11_168 (by decide) dX11_best_21 H (fun v4 H => ?_)
    refine jr_icmp_ge (tgt := 90) dX11_best_24 (by decide) H (fun H => ?_) (fun H => ?_)
    · refine jr_fgt 3 ?_
      exact hk90 _ _ H
    · refine jr_iload_n dX11_best_27 rfl rfl ?_
      refine jr_aload_n dX11_best_28 rfl rfl ?_
      refine jr_iload_n dX11_best_29 rfl rfl ?_
      obtain ⟨v6, h5, Hc, H⟩ := j_b2_some H
      refine jr_callV (ci := 11) [.int x1] my_X11_openOf mv_X11_openOf ml_RX11_261 dX11_best_30 rfl rfl (Nat.le_of_ble_eq_true rfl) rfl (c_X11_openOf l (d + 405) F x0 x1 h v6 h5 Hc) ?_
      refine jr_iload_n dX11_best_33 rfl rfl ?_
      obtain ⟨v8, h7, Hc, H⟩ := j_b2_some H
      refine jr_callS [.int v6, .int x3] my_X11_has ms_X11_has ml_RX11_254 dX11_best_34 rfl rfl (Nat.le_of_ble_eq_true rfl) (c_X11_has l (d + 406) F v6 x3 h5 v8 h7 Hc) ?_
      refine jr_jn (fun J => ∀ (s9 : Int32) (s10 : Int32) (h11 : jH), J s9 s10 h11 = some (rR, hf) → jGo l (d + 407) none RX11 cX11_best 10 (some .int) false 82 [some (.ref x0), some (.int x1), none, some (.int x3), none, none, none, none, none, none] [.int s9, .int s10] h11 (some (.int rR)) hf) H (fun s9 s10 h11 H => ?_) (fun J82 hJ82 H => ?_)
      · refine jr_ior dX11_best_82 ?_
        refine jr_istore_n dX11_best_83 rfl (by decide) rfl (Or.inl rfl) ?_
        refine jr_iinc (v := (x3 + 1)) dX11_best_84 rfl rfl (by decide) rfl (Or.inl rfl) ?_
        refine jr_goto (tgt := 19) dX11_best_87 (by decide) ?_
        exact ih _ _ _ H
      · refine jr_jn (fun J => ∀ (s12 : Int32) (h13 : jH), J s12 h13 = some (rR, hf) → jGo l (d + 407) none RX11 cX11_best 10 (some .int) false 81 [some (.ref x0), some (.int x1), none, some (.int x3), none, none, none, none, none, none] [.int s12] h13 (some (.int rR)) hf) H (fun s12 h13 H => ?_) (fun J81 hJ81 H => ?_)
        · refine jr_iconst (v := 0) dX11_best_81 (by decide) ?_
          exact hJ82 _ _ _ H
        · refine jr_if_eq (tgt := 81) dX11_best_37 (by decide) H (fun H => ?_) (fun H => ?_)
          · refine jr_fgt 2 ?_
            exact hJ81 _ _ H
          · refine jr_aload_n dX11_best_40 rfl rfl ?_
            refine jr_iload_n dX11_best_41 rfl rfl ?_
            refine jr_iconst (v := 2) dX11_best_42 (by decide) ?_
            obtain ⟨v15, h14, Hc, H⟩ := j_b2_some H
            refine jr_callV (ci := 11) [.int x3, .int 2] my_X11_field mv_X11_field ml_RX11_251 dX11_best_43 rfl rfl (Nat.le_of_ble_eq_true rfl) rfl (c_X11_field l (d + 406) F x0 x3 2 h7 v15 h14 Hc) ?_
            refine jr_aload_n dX11_best_46 rfl rfl ?_
            refine jr_getR fl_RX11_9 dX11_best_47 H (fun v16 H => ?_)
            refine jr_iload_n dX11_best_50 rfl rfl ?_
            refine jr_iald dX11_best_51 H (fun v17 H => ?_)
            refine jr_icmp_ne (tgt := 81) dX11_best_52 (by decide) H (fun H => ?_) (fun H => ?_)
            · refine jr_aload_n dX11_best_55 rfl rfl ?_
              refine jr_aload_n dX11_best_56 rfl rfl ?_
              refine jr_iload_n dX11_best_57 rfl rfl ?_
              refine jr_iconst (v := 1) dX11_best_58 (by decide) ?_
              obtain ⟨v19, h18, Hc, H⟩ := j_b2_some H
              refine jr_callV (ci := 11) [.int x3, .int 1] my_X11_field mv_X11_field ml_RX11_251 dX11_best_59 rfl rfl (Nat.le_of_ble_eq_true rfl) rfl (c_X11_field l (d + 406) F x0 x3 1 h14 v19 h18 Hc) ?_
              refine jr_aload_n dX11_best_62 rfl rfl ?_
              refine jr_getR fl_RX11_9 dX11_best_63 H (fun v20 H => ?_)
              refine jr_iload_n dX11_best_66 rfl rfl ?_
              refine jr_iald dX11_best_67 H (fun v21 H => ?_)
              obtain ⟨v23, h22, Hc, H⟩ := j_b2_some H
              refine jr_callV (ci := 11) [.int v19, .int v21] my_X11_cheapestOf mv_X11_cheapestOf ml_RX11_313 dX11_best_68 rfl rfl (Nat.le_of_ble_eq_true rfl) rfl (c_X11_cheapestOf l d F x0 v19 v21 h18 v23 h22 Hc) ?_
              refine jr_iconst (v := (-1)) dX11_best_71 (by decide) ?_
              refine jr_icmp_eq (tgt := 81) dX11_best_72 (by decide) H (fun H => ?_) (fun H => ?_)
              · refine jr_fgt 2 ?_
                exact hJ81 _ _ H
              · refine jr_iconst (v := 1) dX11_best_75 (by decide) ?_
                refine jr_iload_n dX11_best_76 rfl rfl ?_
                refine jr_ishl dX11_best_77 ?_
                refine jr_goto (tgt := 82) dX11_best_78 (by decide) ?_
                refine jr_fgt 2 ?_
                exact hJ82 _ _ _ H
            · refine jr_fgt 2 ?_
              exact hJ81 _ _ H
set_option maxRecDepth 100000 in
set_option maxHeartbeats 4000000 in
theorem s_X11_best_L128 (l : Launch) (d : Nat) (F : Nat) (x0 : Nat) (x1 : Int32) (x2 : Int32) (x3 : Int32) (x4 : Int32) (x5 : Int32) (x6 : Int32) (k200 : Int32 → Int32 → jH → Option (Int32 × jH)) {rR : Int32} {hf : jH} (hk200 : ∀ (y7 : Int32) (y8 : Int32) (h : jH), k200 y7 y8 h = some (rR, hf) → jGo l (d + 407) none RX11 cX11_best 10 (some .int) false 200 [some (.ref x0), some (.int x1), some (.int x2), some (.int x3), some (.int x4), some (.int x5), some (.int x6), some (.int y7), some (.int y8), none] [] h (some (.int rR)) hf) : ∀ (n : Nat) (x7 : Int32) (x8 : Int32) (x9 : Int32) (h : jH), f_X11_best_L128 F x0 x1 x2 x3 x4 x5 x6 k200 n x7 x8 x9 h = some (rR, hf) → jGo l (d + 407) none RX11 cX11_best 10 (some .int) false 128 [some (.ref x0), some (.int x1), some (.int x2), some (.int x3), some (.int x4), some (.int x5), some (.int x6), some (.int x7), some (.int x8), some (.int x9)] [] h (some (.int rR)) hf := by
  intro n
  induction n with
  | zero =>
    intro x7 x8 x9 h H
    cases H
  | succ n ih =>
    intro x7 x8 x9 h H
    unfold f_X11_best_L128 at H
    refine jr_iload dX11_best_128 rfl ?_
    refine jr_aload_n dX11_best_130 rfl rfl ?_
    refine jr_getI fl_RX11_168 (by decide) dX11_best_131 H (fun v30 H => ?_)
    refine jr_icmp_ge (tgt := 200) dX11_best_134 (by decide) H (fun H => ?_) (fun H => ?_)
    · refine jr_fgt 9 ?_
      exact hk200 _ _ _ H
    · refine jr_iload dX11_best_137 rfl ?_
      refine jr_iload dX11_best_139 rfl ?_
      obtain ⟨v32, h31, Hc, H⟩ := j_b2_some H
      refine jr_callS [.int x6, .int x9] my_X11_has ms_X11_has ml_RX11_254 dX11_best_141 rfl rfl (Nat.le_of_ble_eq_true rfl) (c_X11_has l (d + 406) F x6 x9 h v32 h31 Hc) ?_
      refine jr_jn (fun J => ∀ (z33 : Int32) (z34 : Int32) (h35 : jH), J z33 z34 h35 = some (rR, hf) → jGo l (d + 407) none RX11 cX11_best 10 (some .int) false 194 [some (.ref x0), some (.int x1), some (.int x2), some (.int x3), some (.int x4), some (.int x5), some (.int x6), some (.int z33), some (.int z34), some (.int x9)] [] h35 (some (.int rR)) hf) H (fun z33 z34 h35 H => ?_) (fun J194 hJ194 H => ?_)
      · refine jr_iinc (v := (x9 + 1)) dX11_best_194 rfl rfl (by decide) rfl (Or.inl rfl) ?_
        refine jr_goto (tgt := 128) dX11_best_197 (by decide) ?_
        exact ih _ _ _ _ H
      · refine jr_if_ne (tgt := 150) dX11_best_144 (by decide) H (fun H => ?_) (fun H => ?_)
        · refine jr_goto (tgt := 194) dX11_best_147 (by decide) ?_
          exact hJ194 _ _ _ H
        · refine jr_iload dX11_best_150 rfl ?_
          refine jr_aload_n dX11_best_152 rfl rfl ?_
          refine jr_iload dX11_best_153 rfl ?_
          refine jr_iconst (v := 3) dX11_best_155 (by decide) ?_
          obtain ⟨v37, h36, Hc, H⟩ := j_b2_some H
          refine jr_callV (ci := 11) [.int x9, .int 3] my_X11_field mv_X11_field ml_RX11_251 dX11_best_156 rfl rfl (Nat.le_of_ble_eq_true rfl) rfl (c_X11_field l (d + 406) F x0 x9 3 h31 v37 h36 Hc) ?_
          refine jr_iadd dX11_best_159 ?_
          refine jr_istore dX11_best_160 (by decide) rfl (Or.inl rfl) ?_
          refine jr_iload dX11_best_162 rfl ?_
          refine jr_aload_n dX11_best_164 rfl rfl ?_
          refine jr_aload_n dX11_best_165 rfl rfl ?_
          refine jr_aload_n dX11_best_166 rfl rfl ?_
          refine jr_iload dX11_best_167 rfl ?_
          refine jr_iconst (v := 1) dX11_best_169 (by decide) ?_
          obtain ⟨v39, h38, Hc, H⟩ := j_b2_some H
          refine jr_callV (ci := 11) [.int x9, .int 1] my_X11_field mv_X11_field ml_RX11_251 dX11_best_170 rfl rfl (Nat.le_of_ble_eq_true rfl) rfl (c_X11_field l (d + 406) F x0 x9 1 h36 v39 h38 Hc) ?_
          refine jr_aload_n dX11_best_173 rfl rfl ?_
          refine jr_getR fl_RX11_9 dX11_best_174 H (fun v40 H => ?_)
          refine jr_iload_n dX11_best_177 rfl rfl ?_
          refine jr_iald dX11_best_178 H (fun v41 H => ?_)
          obtain ⟨v43, h42, Hc, H⟩ := j_b2_some H
          refine jr_callV (ci := 11) [.int v39, .int v41] my_X11_cheapestOf mv_X11_cheapestOf ml_RX11_313 dX11_best_179 rfl rfl (Nat.le_of_ble_eq_true rfl) rfl (c_X11_cheapestOf l d F x0 v39 v41 h38 v43 h42 Hc) ?_
          refine jr_aload_n dX11_best_182 rfl rfl ?_
          refine jr_getR fl_RX11_9 dX11_best_183 H (fun v44 H => ?_)
          refine jr_iload_n dX11_best_186 rfl rfl ?_
          refine jr_iald dX11_best_187 H (fun v45 H => ?_)
          obtain ⟨v47, h46, Hc, H⟩ := j_b2_some H
          refine jr_callV (ci := 11) [.int v43, .int v45] my_X11_tollNow mv_X11_tollNow ml_RX11_271 dX11_best_188 rfl rfl (Nat.le_of_ble_eq_true rfl) rfl (c_X11_tollNow l (d + 1) F x0 v43 v45 h42 v47 h46 Hc) ?_
          refine jr_iadd dX11_best_191 ?_
          refine jr_istore dX11_best_192 (by decide) rfl (Or.inl rfl) ?_
          exact hJ194 _ _ _ H
set_option maxRecDepth 100000 in
set_option maxHeartbeats 4000000 in
theorem s_X11_best_L101 (l : Launch) (d : Nat) (F : Nat) (x0 : Nat) (x1 : Int32) (x2 : Int32) (k254 : Int32 → Int32 → Int32 → jH → Option (Int32 × jH)) {rR : Int32} {hf : jH} (hk254 : ∀ (y3 : Int32) (y4 : Int32) (y5 : Int32) (h : jH), k254 y3 y4 y5 h = some (rR, hf) → jGo l (d + 407) none RX11 cX11_best 10 (some .int) false 254 [some (.ref x0), none, none, some (.int y3), some (.int y4), some (.int y5), none, none, none, none] [] h (some (.int rR)) hf) : ∀ (n : Nat) (x3 : Int32) (x4 : Int32) (x5 : Int32) (x6 : Int32) (h : jH), f_X11_best_L101 F x0 x1 x2 k254 n x3 x4 x5 x6 h = some (rR, hf) → jGo l (d + 407) none RX11 cX11_best 10 (some .int) false 101 [some (.ref x0), some (.int x1), some (.int x2), some (.int x3), some (.int x4), some (.int x5), some (.int x6), none, none, none] [] h (some (.int rR)) hf := by
  intro n
  induction n with
  | zero =>
    intro x3 x4 x5 x6 h H
    cases H
  | succ n ih =>
    intro x3 x4 x5 x6 h H
    unfold f_X11_best_L101 at H
    refine jr_iload dX11_best_101 rfl ?_
    refine jr_iload_n dX11_best_103 rfl rfl ?_
    refine jr_icmp_gt (tgt := 254) dX11_best_104 (by decide) H (fun H => ?_) (fun H => ?_)
    · refine jr_fgt 1 ?_
      refine jr_fgt 2 ?_
      refine jr_fgt 6 ?_
      exact hk254 _ _ _ _ H
    · refine jr_iload dX11_best_107 rfl ?_
      refine jr_iload_n dX11_best_109 rfl rfl ?_
      refine jr_iconst (v := (-1)) dX11_best_110 (by decide) ?_
      refine jr_ixor dX11_best_111 ?_
      refine jr_iand dX11_best_112 ?_
      refine jr_jn (fun J => ∀ (z26 : Int32) (z27 : Int32) (z28 : Int32) (h29 : jH), J z26 z27 z28 h29 = some (rR, hf) → jGo l (d + 407) none RX11 cX11_best 10 (some .int) false 248 [some (.ref x0), some (.int x1), some (.int x2), some (.int z26), some (.int z27), some (.int z28), some (.int x6), none, none, none] [] h29 (some (.int rR)) hf) H (fun z26 z27 z28 h29 H => ?_) (fun J248 hJ248 H => ?_)
      · refine jr_iinc (v := (x6 + 1)) dX11_best_248 rfl rfl (by decide) rfl (Or.inl rfl) ?_
        refine jr_goto (tgt := 101) dX11_best_251 (by decide) ?_
        exact ih _ _ _ _ _ H
      · refine jr_if_eq (tgt := 119) dX11_best_113 (by decide) H (fun H => ?_) (fun H => ?_)
        · refine jr_iconst (v := 0) dX11_best_119 (by decide) ?_
          refine jr_istore dX11_best_120 (by decide) rfl (Or.inl rfl) ?_
          refine jr_iconst (v := 0) dX11_best_122 (by decide) ?_
          refine jr_istore dX11_best_123 (by decide) rfl (Or.inl rfl) ?_
          refine jr_iconst (v := 0) dX11_best_125 (by decide) ?_
          refine jr_istore dX11_best_126 (by decide) rfl (Or.inl rfl) ?_
          refine s_X11_best_L128 l d F x0 x1 x2 x3 x4 x5 x6 _ (fun y48 y49 h50 H => ?_) F 0 0 0 h H
          · refine jr_iload dX11_best_200 rfl ?_
            refine jr_aload_n dX11_best_202 rfl rfl ?_
            refine jr_getR fl_RX11_9 dX11_best_203 H (fun v51 H => ?_)
            refine jr_iconst (v := 4) dX11_best_206 (by decide) ?_
            refine jr_iload_n dX11_best_207 rfl rfl ?_
            refine jr_iadd dX11_best_208 ?_
            refine jr_iald dX11_best_209 H (fun v52 H => ?_)
            refine jr_icmp_gt (tgt := 248) dX11_best_210 (by decide) H (fun H => ?_) (fun H => ?_)
            · refine jr_fgt 7 ?_
              refine jr_fgt 8 ?_
              exact hJ248 _ _ _ _ H
            · refine jr_iload dX11_best_213 rfl ?_
              refine jr_iload dX11_best_215 rfl ?_
              refine jr_icmp_lt (tgt := 248) dX11_best_217 (by decide) H (fun H => ?_) (fun H => ?_)
              · refine jr_fgt 7 ?_
                refine jr_fgt 8 ?_
                exact hJ248 _ _ _ _ H
              · refine jr_iload dX11_best_220 rfl ?_
                refine jr_iload dX11_best_222 rfl ?_
                refine jr_jn (fun J => ∀ (h53 : jH), J h53 = some (rR, hf) → jGo l (d + 407) none RX11 cX11_best 10 (some .int) false 237 [some (.ref x0), some (.int x1), some (.int x2), none, none, none, some (.int x6), some (.int y48), some (.int y49), none] [] h53 (some (.int rR)) hf) H (fun h53 H => ?_) (fun J237 hJ237 H => ?_)
                · refine jr_iload dX11_best_237 rfl ?_
                  refine jr_istore_n dX11_best_239 rfl (by decide) rfl (Or.inl rfl) ?_
                  refine jr_iload dX11_best_240 rfl ?_
                  refine jr_istore dX11_best_242 (by decide) rfl (Or.inl rfl) ?_
                  refine jr_iload dX11_best_244 rfl ?_
                  refine jr_istore dX11_best_246 (by decide) rfl (Or.inl rfl) ?_
                  refine jr_fgt 7 ?_
                  refine jr_fgt 8 ?_
                  exact hJ248 _ _ _ _ H
                · refine jr_icmp_ne (tgt := 237) dX11_best_224 (by decide) H (fun H => ?_) (fun H => ?_)
                  · refine jr_iload dX11_best_227 rfl ?_
                    refine jr_iload dX11_best_229 rfl ?_
                    refine jr_icmp_lt (tgt := 237) dX11_best_231 (by decide) H (fun H => ?_) (fun H => ?_)
                    · refine jr_fgt 3 ?_
                      refine jr_fgt 4 ?_
                      refine jr_fgt 5 ?_
                      exact hJ237 _ H
                    · refine jr_goto (tgt := 248) dX11_best_234 (by decide) ?_
                      refine jr_fgt 7 ?_
                      refine jr_fgt 8 ?_
                      exact hJ248 _ _ _ _ H
                  · refine jr_fgt 3 ?_
                    refine jr_fgt 4 ?_
                    refine jr_fgt 5 ?_
                    exact hJ237 _ H
        · refine jr_goto (tgt := 248) dX11_best_116 (by decide) ?_
          exact hJ248 _ _ _ _ H
set_option maxRecDepth 100000 in
set_option maxHeartbeats 4000000 in
theorem c_X11_best (l : Launch) (d : Nat) (F : Nat) (a0 : Nat) (a1 : Int32) (h : jH) (rR : Int32) (hf : jH) (H : f_X11_best F a0 a1 h = some (rR, hf)) : jh_sh h a0 = (11, 0) ∧ jMet l (d + 407) yX11_best cX11_best 10 (some .int) [.ref a0, .int a1] h (some (.int rR)) hf := by
  unfold f_X11_best at H
  obtain ⟨hsh, H⟩ := j_gd_some H
  refine ⟨hsh, ?_⟩
  refine jMet.of false [some (.ref a0), some (.int a1), none, none, none, none, none, none, none, none] rfl (by decide) (by decide) (Nat.le_of_ble_eq_true rfl) (fun S0 q hq => by simpa [j_l, lv_args, j_v, Value.category] using hq) ?_
  refine jr_aload_n dX11_best_0 rfl rfl ?_
  refine jr_iconst (v := 0) dX11_best_1 (by decide) ?_
  refine jr_putI fl_RX11_110 (fun z => by cases z) dX11_best_2 H (fun h1 H => ?_)
  refine jr_aload_n dX11_best_5 rfl rfl ?_
  refine jr_iload_n dX11_best_6 rfl rfl ?_
  obtain ⟨v3, h2, Hc, H⟩ := j_b2_some H
  refine jr_callV (ci := 11) [.int a1] my_X11_isOne mv_X11_isOne ml_RX11_258 dX11_best_7 rfl rfl (Nat.le_of_ble_eq_true rfl) rfl (c_X11_isOne l (d + 405) F a0 a1 h1 v3 h2 Hc) ?_
  refine jr_if_ne (tgt := 15) dX11_best_10 (by decide) H (fun H => ?_) (fun H => ?_)
  · refine jr_iconst (v := (-1)) dX11_best_13 (by decide) ?_
    exact jr_iret rfl dX11_best_14 H
  · refine jr_iconst (v := 0) dX11_best_15 (by decide) ?_
    refine jr_istore_n dX11_best_16 rfl (by decide) rfl (Or.inl rfl) ?_
    refine jr_iconst (v := 0) dX11_best_17 (by decide) ?_
    refine jr_istore_n dX11_best_18 rfl (by decide) rfl (Or.inl rfl) ?_
    refine s_X11_best_L19 l d F a0 a1 _ (fun y24 h25 H => ?_) F 0 0 h2 H
    · refine jr_iconst (v := 0) dX11_best_90 (by decide) ?_
      refine jr_istore_n dX11_best_91 rfl (by decide) rfl (Or.inl rfl) ?_
      refine jr_iconst (v := 0) dX11_best_92 (by decide) ?_
      refine jr_istore dX11_best_93 (by decide) rfl (Or.inl rfl) ?_
      refine jr_iconst (v := 0) dX11_best_95 (by decide) ?_
      refine jr_istore dX11_best_96 (by decide) rfl (Or.inl rfl) ?_
      refine jr_iconst (v := 1) dX11_best_98 (by decide) ?_
      refine jr_istore dX11_best_99 (by decide) rfl (Or.inl rfl) ?_
      refine s_X11_best_L101 l d F a0 a1 y24 _ (fun y54 y55 y56 h57 H => ?_) F 0 0 0 1 h25 H
      · refine jr_aload_n dX11_best_254 rfl rfl ?_
        refine jr_iconst (v := 0) dX11_best_255 (by decide) ?_
        refine jr_putI fl_RX11_113 (fun z => by cases z) dX11_best_256 H (fun h58 H => ?_)
        refine jr_aload_n dX11_best_259 rfl rfl ?_
        refine jr_iload_n dX11_best_260 rfl rfl ?_
        refine jr_i2l dX11_best_261 ?_
        obtain ⟨h59, Hc, H⟩ := Option.bind_eq_some_iff.mp H
        refine jr_callV (ci := 11) [.long (y54.toInt64)] my_X11_tell mv_X11_tell ml_RX11_274 dX11_best_262 rfl rfl (Nat.le_of_ble_eq_true rfl) rfl (c_X11_tell l (d + 406) F a0 (y54.toInt64) h58 h59 Hc) ?_
        refine jr_aload_n dX11_best_265 rfl rfl ?_
        refine jr_iload dX11_best_266 rfl ?_
        refine jr_i2l dX11_best_268 ?_
        obtain ⟨h60, Hc, H⟩ := Option.bind_eq_some_iff.mp H
        refine jr_callV (ci := 11) [.long (y56.toInt64)] my_X11_tell mv_X11_tell ml_RX11_274 dX11_best_269 rfl rfl (Nat.le_of_ble_eq_true rfl) rfl (c_X11_tell l (d + 406) F a0 (y56.toInt64) h59 h60 Hc) ?_
        refine jr_iload dX11_best_272 rfl ?_
        exact jr_iret rfl dX11_best_274 H
set_option maxRecDepth 100000 in
set_option maxHeartbeats 4000000 in
theorem s_X11_takesBy_L56 (l : Launch) (d : Nat) (F : Nat) (x0 : Nat) (x1 : Int32) (x2 : Int32) (x3 : Int32) (x4 : Int32) (k110 : Int32 → jH → Option (Int32 × jH)) {rR : Int32} {hf : jH} (hk110 : ∀ (y5 : Int32) (h : jH), k110 y5 h = some (rR, hf) → jGo l (d + 406) none RX11 cX11_takesBy 7 (some .int) false 110 [some (.ref x0), some (.int x1), some (.int x2), some (.int x3), some (.int x4), some (.int y5), none] [] h (some (.int rR)) hf) : ∀ (n : Nat) (x5 : Int32) (x6 : Int32) (h : jH), f_X11_takesBy_L56 F x0 x1 x2 x3 x4 k110 n x5 x6 h = some (rR, hf) → jGo l (d + 406) none RX11 cX11_takesBy 7 (some .int) false 56 [some (.ref x0), some (.int x1), some (.int x2), some (.int x3), some (.int x4), some (.int x5), some (.int x6)] [] h (some (.int rR)) hf := by
  intro n
  induction n with
  | zero =>
    intro x5 x6 h H
    cases H
  | succ n ih =>
    intro x5 x6 h H
    unfold f_X11_takesBy_L56 at H
    refine jr_iload dX11_takesBy_56 rfl ?_
    refine jr_aload_n dX11_takesBy_58 rfl rfl ?_
    refine jr_getI fl_RX11_120 (by decide) dX11_takesBy_59 H (fun v11 H => ?_)
    refine jr_icmp_ge (tgt := 110) dX11_takesBy_62 (by decide) H (fun H => ?_) (fun H => ?_)
    · refine jr_fgt 6 ?_
      exact hk110 _ _ H
    · refine jr_aload_n dX11_takesBy_65 rfl rfl ?_
      refine jr_iload dX11_takesBy_66 rfl ?_
      refine jr_aload_n dX11_takesBy_68 rfl rfl ?_
      refine jr_iload dX11_takesBy_69 rfl ?_
      refine jr_iconst (v := 1) dX11_takesBy_71 (by decide) ?_
      obtain ⟨v13, h12, Hc, H⟩ := j_b2_some H
      refine jr_callV (ci := 11) [.int x4, .int 1] my_X11_field mv_X11_field ml_RX11_251 dX11_takesBy_72 rfl rfl (Nat.le_of_ble_eq_true rfl) rfl (c_X11_field l (d + 405) F x0 x4 1 h v13 h12 Hc) ?_
      obtain ⟨v15, h14, Hc, H⟩ := j_b2_some H
      refine jr_callV (ci := 11) [.int x6, .int v13] my_X11_means mv_X11_means ml_RX11_292 dX11_takesBy_75 rfl rfl (Nat.le_of_ble_eq_true rfl) rfl (c_X11_means l (d + 405) F x0 x6 v13 h12 v15 h14 Hc) ?_
      refine jr_jn (fun J => ∀ (z16 : Int32) (h17 : jH), J z16 h17 = some (rR, hf) → jGo l (d + 406) none RX11 cX11_takesBy 7 (some .int) false 104 [some (.ref x0), some (.int x1), some (.int x2), some (.int x3), some (.int x4), some (.int z16), some (.int x6)] [] h17 (some (.int rR)) hf) H (fun z16 h17 H => ?_) (fun J104 hJ104 H => ?_)
      · refine jr_iinc (v := (x6 + 1)) dX11_takesBy_104 rfl rfl (by decide) rfl (Or.inl rfl) ?_
        refine jr_goto (tgt := 56) dX11_takesBy_107 (by decide) ?_
        exact ih _ _ _ H
      · refine jr_if_eq (tgt := 104) dX11_takesBy_78 (by decide) H (fun H => ?_) (fun H => ?_)
        · exact hJ104 _ _ H
        · refine jr_iload dX11_takesBy_81 rfl ?_
          refine jr_aload_n dX11_takesBy_83 rfl rfl ?_
          refine jr_iload dX11_takesBy_84 rfl ?_
          refine jr_iload_n dX11_takesBy_86 rfl rfl ?_
          obtain ⟨v19, h18, Hc, H⟩ := j_b2_some H
          refine jr_callV (ci := 11) [.int x6, .int x1] my_X11_tollNow mv_X11_tollNow ml_RX11_271 dX11_takesBy_87 rfl rfl (Nat.le_of_ble_eq_true rfl) rfl (c_X11_tollNow l d F x0 x6 x1 h14 v19 h18 Hc) ?_
          refine jr_iload_n dX11_takesBy_90 rfl rfl ?_
          refine jr_aload_n dX11_takesBy_91 rfl rfl ?_
          refine jr_iload dX11_takesBy_92 rfl ?_
          obtain ⟨v21, h20, Hc, H⟩ := j_b2_some H
          refine jr_callV (ci := 11) [.int x6] my_X11_vowelsIn mv_X11_vowelsIn ml_RX11_248 dX11_takesBy_94 rfl rfl (Nat.le_of_ble_eq_true rfl) rfl (c_X11_vowelsIn l (d + 403) F x0 x6 h18 v21 h20 Hc) ?_
          refine jr_imul dX11_takesBy_97 ?_
          refine jr_iadd dX11_takesBy_98 ?_
          refine jr_mmin ml_RX11_226 mm_mmin_s mm_i mm_mmin_c dX11_takesBy_99 (Nat.le_of_ble_eq_true rfl) ?_
          refine jr_istore dX11_takesBy_102 (by decide) rfl (Or.inl rfl) ?_
          exact hJ104 _ _ H
set_option maxRecDepth 100000 in
set_option maxHeartbeats 4000000 in
theorem s_X11_takesBy_L10 (l : Launch) (d : Nat) (F : Nat) (x0 : Nat) (x1 : Int32) (x2 : Int32) {rR : Int32} {hf : jH} : ∀ (n : Nat) (x3 : Int32) (x4 : Int32) (h : jH), f_X11_takesBy_L10 F x0 x1 x2 n x3 x4 h = some (rR, hf) → jGo l (d + 406) none RX11 cX11_takesBy 7 (some .int) false 10 [some (.ref x0), some (.int x1), some (.int x2), some (.int x3), some (.int x4), none, none] [] h (some (.int rR)) hf := by
  intro n
  induction n with
  | zero =>
    intro x3 x4 h H
    cases H
  | succ n ih =>
    intro x3 x4 h H
    unfold f_X11_takesBy_L10 at H
    refine jr_iload dX11_takesBy_10 rfl ?_
    refine jr_aload_n dX11_takesBy_12 rfl rfl ?_
    refine jr_getI fl_RX11_168 (by decide) dX11_takesBy_13 H (fun v2 H => ?_)
    refine jr_icmp_ge (tgt := 146) dX11_takesBy_16 (by decide) H (fun H => ?_) (fun H => ?_)
    · refine jr_iload_n dX11_takesBy_146 rfl rfl ?_
      exact jr_iret rfl dX11_takesBy_147 H
    · refine jr_aload_n dX11_takesBy_19 rfl rfl ?_
      refine jr_getR fl_RX11_9 dX11_takesBy_20 H (fun v3 H => ?_)
      refine jr_bipush (v := 13) dX11_takesBy_23 (by decide) ?_
      refine jr_iald dX11_takesBy_25 H (fun v4 H => ?_)
      refine jr_iload dX11_takesBy_26 rfl ?_
      obtain ⟨v6, h5, Hc, H⟩ := j_b2_some H
      refine jr_callS [.int v4, .int x4] my_X11_has ms_X11_has ml_RX11_254 dX11_takesBy_28 rfl rfl (Nat.le_of_ble_eq_true rfl) (c_X11_has l (d + 405) F v4 x4 h v6 h5 Hc) ?_
      refine jr_jn (fun J => ∀ (z7 : Int32) (h8 : jH), J z7 h8 = some (rR, hf) → jGo l (d + 406) none RX11 cX11_takesBy 7 (some .int) false 140 [some (.ref x0), some (.int x1), some (.int x2), some (.int z7), some (.int x4), none, none] [] h8 (some (.int rR)) hf) H (fun z7 h8 H => ?_) (fun J140 hJ140 H => ?_)
      · refine jr_iinc (v := (x4 + 1)) dX11_takesBy_140 rfl rfl (by decide) rfl (Or.inl rfl) ?_
        refine jr_goto (tgt := 10) dX11_takesBy_143 (by decide) ?_
        exact ih _ _ _ H
      · refine jr_if_ne (tgt := 140) dX11_takesBy_31 (by decide) H (fun H => ?_) (fun H => ?_)
        · refine jr_aload_n dX11_takesBy_34 rfl rfl ?_
          refine jr_iload dX11_takesBy_35 rfl ?_
          refine jr_iconst (v := 2) dX11_takesBy_37 (by decide) ?_
          obtain ⟨v10, h9, Hc, H⟩ := j_b2_some H
          refine jr_callV (ci := 11) [.int x4, .int 2] my_X11_field mv_X11_field ml_RX11_251 dX11_takesBy_38 rfl rfl (Nat.le_of_ble_eq_true rfl) rfl (c_X11_field l (d + 405) F x0 x4 2 h5 v10 h9 Hc) ?_
          refine jr_iload_n dX11_takesBy_41 rfl rfl ?_
          refine jr_icmp_eq (tgt := 48) dX11_takesBy_42 (by decide) H (fun H => ?_) (fun H => ?_)
          · refine jr_ldcw cn_RX11_319 dX11_takesBy_48 ?_
            refine jr_istore dX11_takesBy_51 (by decide) rfl (Or.inl rfl) ?_
            refine jr_iconst (v := 0) dX11_takesBy_53 (by decide) ?_
            refine jr_istore dX11_takesBy_54 (by decide) rfl (Or.inl rfl) ?_
            refine s_X11_takesBy_L56 l d F x0 x1 x2 x3 x4 _ (fun y22 h23 H => ?_) F 100000000 0 h9 H
            · refine jr_iload dX11_takesBy_110 rfl ?_
              refine jr_aload_n dX11_takesBy_112 rfl rfl ?_
              refine jr_iload dX11_takesBy_113 rfl ?_
              refine jr_iconst (v := 3) dX11_takesBy_115 (by decide) ?_
              obtain ⟨v25, h24, Hc, H⟩ := j_b2_some H
              refine jr_callV (ci := 11) [.int x4, .int 3] my_X11_field mv_X11_field ml_RX11_251 dX11_takesBy_116 rfl rfl (Nat.le_of_ble_eq_true rfl) rfl (c_X11_field l (d + 405) F x0 x4 3 h23 v25 h24 Hc) ?_
              refine jr_icmp_le (tgt := 125) dX11_takesBy_119 (by decide) H (fun H => ?_) (fun H => ?_)
              · refine jr_iload_n dX11_takesBy_125 rfl rfl ?_
                refine jr_iload dX11_takesBy_126 rfl ?_
                refine jr_iadd dX11_takesBy_128 ?_
                refine jr_istore_n dX11_takesBy_129 rfl (by decide) rfl (Or.inl rfl) ?_
                refine jr_aload_n dX11_takesBy_130 rfl rfl ?_
                refine jr_dup dX11_takesBy_131 rfl ?_
                refine jr_getI fl_RX11_380 (by decide) dX11_takesBy_132 H (fun v26 H => ?_)
                refine jr_iconst (v := 1) dX11_takesBy_135 (by decide) ?_
                refine jr_iadd dX11_takesBy_136 ?_
                refine jr_putI fl_RX11_380 (fun z => by cases z) dX11_takesBy_137 H (fun h27 H => ?_)
                refine jr_fgt 5 ?_
                exact hJ140 _ _ H
              · refine jr_goto (tgt := 140) dX11_takesBy_122 (by decide) ?_
                refine jr_fgt 5 ?_
                exact hJ140 _ _ H
          · refine jr_goto (tgt := 140) dX11_takesBy_45 (by decide) ?_
            exact hJ140 _ _ H
        · exact hJ140 _ _ H
set_option maxRecDepth 100000 in
set_option maxHeartbeats 4000000 in
theorem c_X11_takesBy (l : Launch) (d : Nat) (F : Nat) (a0 : Nat) (a1 : Int32) (a2 : Int32) (h : jH) (rR : Int32) (hf : jH) (H : f_X11_takesBy F a0 a1 a2 h = some (rR, hf)) : jh_sh h a0 = (11, 0) ∧ jMet l (d + 406) yX11_takesBy cX11_takesBy 7 (some .int) [.ref a0, .int a1, .int a2] h (some (.int rR)) hf := by
  unfold f_X11_takesBy at H
  obtain ⟨hsh, H⟩ := j_gd_some H
  refine ⟨hsh, ?_⟩
  refine jMet.of false [some (.ref a0), some (.int a1), some (.int a2), none, none, none, none] rfl (by decide) (by decide) (Nat.le_of_ble_eq_true rfl) (fun S0 q hq => by simpa [j_l, lv_args, j_v, Value.category] using hq) ?_
  refine jr_iconst (v := 0) dX11_takesBy_0 (by decide) ?_
  refine jr_istore_n dX11_takesBy_1 rfl (by decide) rfl (Or.inl rfl) ?_
  refine jr_aload_n dX11_takesBy_2 rfl rfl ?_
  refine jr_iconst (v := 0) dX11_takesBy_3 (by decide) ?_
  refine jr_putI fl_RX11_380 (fun z => by cases z) dX11_takesBy_4 H (fun h1 H => ?_)
  refine jr_iconst (v := 0) dX11_takesBy_7 (by decide) ?_
  refine jr_istore dX11_takesBy_8 (by decide) rfl (Or.inl rfl) ?_
  exact s_X11_takesBy_L10 l d F a0 a1 a2 F 0 0 h1 H
set_option maxRecDepth 100000 in
set_option maxHeartbeats 4000000 in
theorem c_X11_takes (l : Launch) (d : Nat) (F : Nat) (a0 : Nat) (a1 : Int32) (a2 : Int32) (h : jH) (rR : Int32) (hf : jH) (H : f_X11_takes F a0 a1 a2 h = some (rR, hf)) : jh_sh h a0 = (11, 0) ∧ jMet l (d + 407) yX11_takes cX11_takes 4 (some .int) [.ref a0, .int a1, .int a2] h (some (.int rR)) hf := by
  unfold f_X11_takes at H
  obtain ⟨hsh, H⟩ := j_gd_some H
  refine ⟨hsh, ?_⟩
  refine jMet.of false [some (.ref a0), some (.int a1), some (.int a2), none] rfl (by decide) (by decide) (Nat.le_of_ble_eq_true rfl) (fun S0 q hq => by simpa [j_l, lv_args, j_v, Value.category] using hq) ?_
  refine jr_aload_n dX11_takes_0 rfl rfl ?_
  refine jr_iconst (v := 0) dX11_takes_1 (by decide) ?_
  refine jr_putI fl_RX11_110 (fun z => by cases z) dX11_takes_2 H (fun h1 H => ?_)
  refine jr_aload_n dX11_takes_5 rfl rfl ?_
  refine jr_iload_n dX11_takes_6 rfl rfl ?_
  obtain ⟨v3, h2, Hc, H⟩ := j_b2_some H
  refine jr_callV (ci := 11) [.int a1] my_X11_isStation mv_X11_isStation ml_RX11_264 dX11_takes_7 rfl rfl (Nat.le_of_ble_eq_true rfl) rfl (c_X11_isStation l (d + 405) F a0 a1 h1 v3 h2 Hc) ?_
  refine jr_if_eq (tgt := 23) dX11_takes_10 (by decide) H (fun H => ?_) (fun H => ?_)
  · refine jr_iconst (v := (-1)) dX11_takes_23 (by decide) ?_
    exact jr_iret rfl dX11_takes_24 H
  · refine jr_iload_n dX11_takes_13 rfl rfl ?_
    refine jr_iconst (v := 0) dX11_takes_14 (by decide) ?_
    refine jr_bipush (v := 99) dX11_takes_15 (by decide) ?_
    obtain ⟨v5, h4, Hc, H⟩ := j_b2_some H
    refine jr_callS [.int a2, .int 0, .int 99] my_X11_in ms_X11_in ml_RX11_116 dX11_takes_17 rfl rfl (Nat.le_of_ble_eq_true rfl) (c_X11_in l (d + 406) F a2 0 99 h2 v5 h4 Hc) ?_
    refine jr_if_ne (tgt := 25) dX11_takes_20 (by decide) H (fun H => ?_) (fun H => ?_)
    · refine jr_iconst (v := (-1)) dX11_takes_23 (by decide) ?_
      exact jr_iret rfl dX11_takes_24 H
    · refine jr_aload_n dX11_takes_25 rfl rfl ?_
      refine jr_iload_n dX11_takes_26 rfl rfl ?_
      refine jr_iload_n dX11_takes_27 rfl rfl ?_
      obtain ⟨v7, h6, Hc, H⟩ := j_b2_some H
      refine jr_callV (ci := 11) [.int a1, .int a2] my_X11_takesBy mv_X11_takesBy ml_RX11_383 dX11_takes_28 rfl rfl (Nat.le_of_ble_eq_true rfl) rfl (c_X11_takesBy l d F a0 a1 a2 h4 v7 h6 Hc) ?_
      refine jr_istore_n dX11_takes_31 rfl (by decide) rfl (Or.inl rfl) ?_
      refine jr_aload_n dX11_takes_32 rfl rfl ?_
      refine jr_iconst (v := 0) dX11_takes_33 (by decide) ?_
      refine jr_putI fl_RX11_113 (fun z => by cases z) dX11_takes_34 H (fun h8 H => ?_)
      refine jr_aload_n dX11_takes_37 rfl rfl ?_
      refine jr_aload_n dX11_takes_38 rfl rfl ?_
      refine jr_getI fl_RX11_380 (by decide) dX11_takes_39 H (fun v9 H => ?_)
      refine jr_i2l dX11_takes_42 ?_
      obtain ⟨h10, Hc, H⟩ := Option.bind_eq_some_iff.mp H
      refine jr_callV (ci := 11) [.long (v9.toInt64)] my_X11_tell mv_X11_tell ml_RX11_274 dX11_takes_43 rfl rfl (Nat.le_of_ble_eq_true rfl) rfl (c_X11_tell l (d + 406) F a0 (v9.toInt64) h8 h10 Hc) ?_
      refine jr_iload_n dX11_takes_46 rfl rfl ?_
      exact jr_iret rfl dX11_takes_47 H
set_option maxRecDepth 100000 in
set_option maxHeartbeats 4000000 in
theorem s_X11_greed_L30 (l : Launch) (d : Nat) (F : Nat) (x0 : Nat) (x1 : Int32) (x4 : Int32) (k67 : Int32 → Int32 → jH → Option (Int32 × jH)) {rR : Int32} {hf : jH} (hk67 : ∀ (y2 : Int32) (y3 : Int32) (h : jH), k67 y2 y3 h = some (rR, hf) → jGo l (d + 407) none RX11 cX11_greed 7 (some .int) false 67 [some (.ref x0), none, some (.int y2), some (.int y3), some (.int x4), none, none] [] h (some (.int rR)) hf) : ∀ (n : Nat) (x2 : Int32) (x3 : Int32) (x5 : Int32) (h : jH), f_X11_greed_L30 F x0 x1 x4 k67 n x2 x3 x5 h = some (rR, hf) → jGo l (d + 407) none RX11 cX11_greed 7 (some .int) false 30 [some (.ref x0), some (.int x1), some (.int x2), some (.int x3), some (.int x4), some (.int x5), none] [] h (some (.int rR)) hf := by
  intro n
  induction n with
  | zero =>
    intro x2 x3 x5 h H
    cases H
  | succ n ih =>
    intro x2 x3 x5 h H
    unfold f_X11_greed_L30 at H
    refine jr_iload dX11_greed_30 rfl ?_
    refine jr_bipush (v := 99) dX11_greed_32 (by decide) ?_
    refine jr_icmp_gt (tgt := 67) dX11_greed_34 (by decide) H (fun H => ?_) (fun H => ?_)
    · refine jr_fgt 1 ?_
      refine jr_fgt 5 ?_
      exact hk67 _ _ _ H
    · refine jr_aload_n dX11_greed_37 rfl rfl ?_
      refine jr_iload_n dX11_greed_38 rfl rfl ?_
      refine jr_iload dX11_greed_39 rfl ?_
      obtain ⟨v7, h6, Hc, H⟩ := j_b2_some H
      refine jr_callV (ci := 11) [.int x1, .int x5] my_X11_takesBy mv_X11_takesBy ml_RX11_383 dX11_greed_41 rfl rfl (Nat.le_of_ble_eq_true rfl) rfl (c_X11_takesBy l d F x0 x1 x5 h v7 h6 Hc) ?_
      refine jr_istore dX11_greed_44 (by decide) rfl (Or.inl rfl) ?_
      refine jr_iload dX11_greed_46 rfl ?_
      refine jr_iload_n dX11_greed_48 rfl rfl ?_
      refine jr_jn (fun J => ∀ (z8 : Int32) (z9 : Int32) (h10 : jH), J z8 z9 h10 = some (rR, hf) → jGo l (d + 407) none RX11 cX11_greed 7 (some .int) false 61 [some (.ref x0), some (.int x1), some (.int z8), some (.int z9), some (.int x4), some (.int x5), none] [] h10 (some (.int rR)) hf) H (fun z8 z9 h10 H => ?_) (fun J61 hJ61 H => ?_)
      · refine jr_iinc (v := (x5 + 1)) dX11_greed_61 rfl rfl (by decide) rfl (Or.inl rfl) ?_
        refine jr_goto (tgt := 30) dX11_greed_64 (by decide) ?_
        exact ih _ _ _ _ H
      · refine jr_icmp_gt (tgt := 55) dX11_greed_49 (by decide) H (fun H => ?_) (fun H => ?_)
        · refine jr_iload dX11_greed_55 rfl ?_
          refine jr_istore_n dX11_greed_57 rfl (by decide) rfl (Or.inl rfl) ?_
          refine jr_iload dX11_greed_58 rfl ?_
          refine jr_istore_n dX11_greed_60 rfl (by decide) rfl (Or.inl rfl) ?_
          refine jr_fgt 6 ?_
          exact hJ61 _ _ _ H
        · refine jr_goto (tgt := 61) dX11_greed_52 (by decide) ?_
          refine jr_fgt 6 ?_
          exact hJ61 _ _ _ H
set_option maxRecDepth 100000 in
set_option maxHeartbeats 4000000 in
theorem c_X11_greed (l : Launch) (d : Nat) (F : Nat) (a0 : Nat) (a1 : Int32) (h : jH) (rR : Int32) (hf : jH) (H : f_X11_greed F a0 a1 h = some (rR, hf)) : jh_sh h a0 = (11, 0) ∧ jMet l (d + 407) yX11_greed cX11_greed 7 (some .int) [.ref a0, .int a1] h (some (.int rR)) hf := by
  unfold f_X11_greed at H
  obtain ⟨hsh, H⟩ := j_gd_some H
  refine ⟨hsh, ?_⟩
  refine jMet.of false [some (.ref a0), some (.int a1), none, none, none, none, none] rfl (by decide) (by decide) (Nat.le_of_ble_eq_true rfl) (fun S0 q hq => by simpa [j_l, lv_args, j_v, Value.category] using hq) ?_
  refine jr_aload_n dX11_greed_0 rfl rfl ?_
  refine jr_iconst (v := 0) dX11_greed_1 (by decide) ?_
  refine jr_putI fl_RX11_110 (fun z => by cases z) dX11_greed_2 H (fun h1 H => ?_)
  refine jr_aload_n dX11_greed_5 rfl rfl ?_
  refine jr_iload_n dX11_greed_6 rfl rfl ?_
  obtain ⟨v3, h2, Hc, H⟩ := j_b2_some H
  refine jr_callV (ci := 11) [.int a1] my_X11_isStation mv_X11_isStation ml_RX11_264 dX11_greed_7 rfl rfl (Nat.le_of_ble_eq_true rfl) rfl (c_X11_isStation l (d + 405) F a0 a1 h1 v3 h2 Hc) ?_
  refine jr_if_ne (tgt := 15) dX11_greed_10 (by decide) H (fun H => ?_) (fun H => ?_)
  · refine jr_iconst (v := (-1)) dX11_greed_13 (by decide) ?_
    exact jr_iret rfl dX11_greed_14 H
  · refine jr_iconst (v := 0) dX11_greed_15 (by decide) ?_
    refine jr_istore_n dX11_greed_16 rfl (by decide) rfl (Or.inl rfl) ?_
    refine jr_aload_n dX11_greed_17 rfl rfl ?_
    refine jr_iload_n dX11_greed_18 rfl rfl ?_
    refine jr_iconst (v := 0) dX11_greed_19 (by decide) ?_
    obtain ⟨v5, h4, Hc, H⟩ := j_b2_some H
    refine jr_callV (ci := 11) [.int a1, .int 0] my_X11_takesBy mv_X11_takesBy ml_RX11_383 dX11_greed_20 rfl rfl (Nat.le_of_ble_eq_true rfl) rfl (c_X11_takesBy l d F a0 a1 0 h2 v5 h4 Hc) ?_
    refine jr_istore_n dX11_greed_23 rfl (by decide) rfl (Or.inl rfl) ?_
    refine jr_iload_n dX11_greed_24 rfl rfl ?_
    refine jr_istore dX11_greed_25 (by decide) rfl (Or.inl rfl) ?_
    refine jr_iconst (v := 1) dX11_greed_27 (by decide) ?_
    refine jr_istore dX11_greed_28 (by decide) rfl (Or.inl rfl) ?_
    refine s_X11_greed_L30 l d F a0 a1 v5 _ (fun y11 y12 h13 H => ?_) F 0 v5 1 h4 H
    · refine jr_aload_n dX11_greed_67 rfl rfl ?_
      refine jr_iconst (v := 0) dX11_greed_68 (by decide) ?_
      refine jr_putI fl_RX11_113 (fun z => by cases z) dX11_greed_69 H (fun h14 H => ?_)
      refine jr_aload_n dX11_greed_72 rfl rfl ?_
      refine jr_iload_n dX11_greed_73 rfl rfl ?_
      refine jr_i2l dX11_greed_74 ?_
      obtain ⟨h15, Hc, H⟩ := Option.bind_eq_some_iff.mp H
      refine jr_callV (ci := 11) [.long (y12.toInt64)] my_X11_tell mv_X11_tell ml_RX11_274 dX11_greed_75 rfl rfl (Nat.le_of_ble_eq_true rfl) rfl (c_X11_tell l (d + 406) F a0 (y12.toInt64) h14 h15 Hc) ?_
      refine jr_aload_n dX11_greed_78 rfl rfl ?_
      refine jr_iload dX11_greed_79 rfl ?_
      refine jr_i2l dX11_greed_81 ?_
      obtain ⟨h16, Hc, H⟩ := Option.bind_eq_some_iff.mp H
      refine jr_callV (ci := 11) [.long (v5.toInt64)] my_X11_tell mv_X11_tell ml_RX11_274 dX11_greed_82 rfl rfl (Nat.le_of_ble_eq_true rfl) rfl (c_X11_tell l (d + 406) F a0 (v5.toInt64) h15 h16 Hc) ?_
      refine jr_iload_n dX11_greed_85 rfl rfl ?_
      exact jr_iret rfl dX11_greed_86 H
set_option maxRecDepth 100000 in
set_option maxHeartbeats 4000000 in
theorem s_X11_law_L42 (l : Launch) (d : Nat) (F : Nat) (x0 : Nat) (x1 : Int32) (x2 : Int32) (k68 : jH → Option (Int32 × jH)) {rR : Int32} {hf : jH} (hk68 : ∀ (h : jH), k68 h = some (rR, hf) → jGo l (d + 406) none RX11 cX11_law 10 (some .int) false 68 [some (.ref x0), some (.int x1), some (.int x2), none, none, none, none, none, none, none] [] h (some (.int rR)) hf) : ∀ (n : Nat) (x3 : Int32) (h : jH), f_X11_law_L42 F x0 x1 x2 k68 n x3 h = some (rR, hf) → jGo l (d + 406) none RX11 cX11_law 10 (some .int) false 42 [some (.ref x0), some (.int x1), some (.int x2), some (.int x3), none, none, none, none, none, none] [] h (some (.int rR)) hf := by
  intro n
  induction n with
  | zero =>
    intro x3 h H
    cases H
  | succ n ih =>
    intro x3 h H
    unfold f_X11_law_L42 at H
    refine jr_iload_n dX11_law_42 rfl rfl ?_
    refine jr_aload_n dX11_law_43 rfl rfl ?_
    refine jr_getI fl_RX11_120 (by decide) dX11_law_44 H (fun v9 H => ?_)
    refine jr_icmp_ge (tgt := 68) dX11_law_47 (by decide) H (fun H => ?_) (fun H => ?_)
    · refine jr_fgt 3 ?_
      exact hk68 _ H
    · refine jr_aload_n dX11_law_50 rfl rfl ?_
      refine jr_getR fl_RX11_85 dX11_law_51 H (fun v10 H => ?_)
      refine jr_iload_n dX11_law_54 rfl rfl ?_
      refine jr_aload_n dX11_law_55 rfl rfl ?_
      refine jr_iload_n dX11_law_56 rfl rfl ?_
      refine jr_iload_n dX11_law_57 rfl rfl ?_
      obtain ⟨v12, h11, Hc, H⟩ := j_b2_some H
      refine jr_callV (ci := 11) [.int x3, .int x1] my_X11_tollNow mv_X11_tollNow ml_RX11_271 dX11_law_58 rfl rfl (Nat.le_of_ble_eq_true rfl) rfl (c_X11_tollNow l d F x0 x3 x1 h v12 h11 Hc) ?_
      refine jr_iast dX11_law_61 H (fun h13 H => ?_)
      refine jr_iinc (v := (x3 + 1)) dX11_law_62 rfl rfl (by decide) rfl (Or.inl rfl) ?_
      refine jr_goto (tgt := 42) dX11_law_65 (by decide) ?_
      exact ih _ _ H
set_option maxRecDepth 100000 in
set_option maxHeartbeats 4000000 in
theorem s_X11_law_L95 (l : Launch) (d : Nat) (F : Nat) (x0 : Nat) (x1 : Int32) (x2 : Int32) (x3 : Nat) (x4 : Int32) (k121 : jH → Option (Int32 × jH)) {rR : Int32} {hf : jH} (hk121 : ∀ (h : jH), k121 h = some (rR, hf) → jGo l (d + 406) none RX11 cX11_law 10 (some .int) false 121 [some (.ref x0), some (.int x1), none, some (.ref x3), some (.int x4), none, none, none, none, none] [] h (some (.int rR)) hf) : ∀ (n : Nat) (x5 : Int32) (h : jH), f_X11_law_L95 F x0 x1 x2 x3 x4 k121 n x5 h = some (rR, hf) → jGo l (d + 406) none RX11 cX11_law 10 (some .int) false 95 [some (.ref x0), some (.int x1), some (.int x2), some (.ref x3), some (.int x4), some (.int x5), none, none, none, none] [] h (some (.int rR)) hf := by
  intro n
  induction n with
  | zero =>
    intro x5 h H
    cases H
  | succ n ih =>
    intro x5 h H
    unfold f_X11_law_L95 at H
    refine jr_iload dX11_law_95 rfl ?_
    refine jr_iload_n dX11_law_97 rfl rfl ?_
    refine jr_icmp_ge (tgt := 121) dX11_law_98 (by decide) H (fun H => ?_) (fun H => ?_)
    · refine jr_fgt 2 ?_
      refine jr_fgt 5 ?_
      exact hk121 _ H
    · refine jr_aload_n dX11_law_101 rfl rfl ?_
      refine jr_getR fl_RX11_46 dX11_law_102 H (fun v20 H => ?_)
      refine jr_iload dX11_law_105 rfl ?_
      refine jr_aload_n dX11_law_107 rfl rfl ?_
      refine jr_getR fl_RX11_30 dX11_law_108 H (fun v21 H => ?_)
      refine jr_iload dX11_law_111 rfl ?_
      refine jr_bald dX11_law_113 H (fun v22 H => ?_)
      refine jr_bast dX11_law_114 H (fun h23 H => ?_)
      refine jr_iinc (v := (x5 + 1)) dX11_law_115 rfl rfl (by decide) rfl (Or.inl rfl) ?_
      refine jr_goto (tgt := 95) dX11_law_118 (by decide) ?_
      exact ih _ _ H
set_option maxRecDepth 100000 in
set_option maxHeartbeats 4000000 in
theorem s_X11_law_L133 (l : Launch) (d : Nat) (F : Nat) (x0 : Nat) (x1 : Int32) (x3 : Nat) (x4 : Int32) (k202 : Int32 → Int32 → Int32 → jH → Option (Int32 × jH)) {rR : Int32} {hf : jH} (hk202 : ∀ (y5 : Int32) (y6 : Int32) (y7 : Int32) (h : jH), k202 y5 y6 y7 h = some (rR, hf) → jGo l (d + 406) none RX11 cX11_law 10 (some .int) false 202 [some (.ref x0), none, none, some (.ref x3), some (.int x4), some (.int y5), some (.int y6), some (.int y7), none, none] [] h (some (.int rR)) hf) : ∀ (n : Nat) (x5 : Int32) (x6 : Int32) (x7 : Int32) (x8 : Int32) (h : jH), f_X11_law_L133 F x0 x1 x3 x4 k202 n x5 x6 x7 x8 h = some (rR, hf) → jGo l (d + 406) none RX11 cX11_law 10 (some .int) false 133 [some (.ref x0), some (.int x1), none, some (.ref x3), some (.int x4), some (.int x5), some (.int x6), some (.int x7), some (.int x8), none] [] h (some (.int rR)) hf := by
  intro n
  induction n with
  | zero =>
    intro x5 x6 x7 x8 h H
    cases H
  | succ n ih =>
    intro x5 x6 x7 x8 h H
    unfold f_X11_law_L133 at H
    refine jr_iload dX11_law_133 rfl ?_
    refine jr_aload_n dX11_law_135 rfl rfl ?_
    refine jr_getI fl_RX11_120 (by decide) dX11_law_136 H (fun v25 H => ?_)
    refine jr_icmp_ge (tgt := 202) dX11_law_139 (by decide) H (fun H => ?_) (fun H => ?_)
    · refine jr_fgt 1 ?_
      refine jr_fgt 8 ?_
      exact hk202 _ _ _ _ H
    · refine jr_aload_n dX11_law_142 rfl rfl ?_
      refine jr_iload dX11_law_143 rfl ?_
      refine jr_iload_n dX11_law_145 rfl rfl ?_
      obtain ⟨v27, h26, Hc, H⟩ := j_b2_some H
      refine jr_callV (ci := 11) [.int x8, .int x1] my_X11_tollNow mv_X11_tollNow ml_RX11_271 dX11_law_146 rfl rfl (Nat.le_of_ble_eq_true rfl) rfl (c_X11_tollNow l d F x0 x8 x1 h v27 h26 Hc) ?_
      refine jr_aload_n dX11_law_149 rfl rfl ?_
      refine jr_getR fl_RX11_85 dX11_law_150 H (fun v28 H => ?_)
      refine jr_iload dX11_law_153 rfl ?_
      refine jr_iald dX11_law_155 H (fun v29 H => ?_)
      refine jr_isub dX11_law_156 ?_
      refine jr_istore dX11_law_157 (by decide) rfl (Or.inl rfl) ?_
      refine jr_iload dX11_law_159 rfl ?_
      refine jr_iload dX11_law_161 rfl ?_
      refine jr_jn (fun J => ∀ (s30 : Int32) (s31 : Int32) (h32 : jH), J s30 s31 h32 = some (rR, hf) → jGo l (d + 406) none RX11 cX11_law 10 (some .int) false 171 [some (.ref x0), some (.int x1), none, some (.ref x3), some (.int x4), none, some (.int x6), some (.int x7), some (.int x8), some (.int (v27 - v29))] [.int s30, .int s31] h32 (some (.int rR)) hf) H (fun s30 s31 h32 H => ?_) (fun J171 hJ171 H => ?_)
      · refine jr_iadd dX11_law_171 ?_
        refine jr_istore dX11_law_172 (by decide) rfl (Or.inl rfl) ?_
        refine jr_iload dX11_law_174 rfl ?_
        refine jr_iload dX11_law_176 rfl ?_
        refine jr_jn (fun J => ∀ (s33 : Int32) (s34 : Int32) (h35 : jH), J s33 s34 h35 = some (rR, hf) → jGo l (d + 406) none RX11 cX11_law 10 (some .int) false 186 [some (.ref x0), some (.int x1), none, some (.ref x3), some (.int x4), some (.int (s31 + s30)), none, some (.int x7), some (.int x8), some (.int (v27 - v29))] [.int s33, .int s34] h35 (some (.int rR)) hf) H (fun s33 s34 h35 H => ?_) (fun J186 hJ186 H => ?_)
        · refine jr_iadd dX11_law_186 ?_
          refine jr_istore dX11_law_187 (by decide) rfl (Or.inl rfl) ?_
          refine jr_iload dX11_law_189 rfl ?_
          refine jr_iload dX11_law_191 rfl ?_
          refine jr_iadd dX11_law_193 ?_
          refine jr_istore dX11_law_194 (by decide) rfl (Or.inl rfl) ?_
          refine jr_iinc (v := (x8 + 1)) dX11_law_196 rfl rfl (by decide) rfl (Or.inl rfl) ?_
          refine jr_goto (tgt := 133) dX11_law_199 (by decide) ?_
          refine jr_fgt 9 ?_
          exact ih _ _ _ _ _ H
        · refine jr_if_ge (tgt := 185) dX11_law_178 (by decide) H (fun H => ?_) (fun H => ?_)
          · refine jr_iconst (v := 0) dX11_law_185 (by decide) ?_
            refine jr_fgt 6 ?_
            exact hJ186 _ _ _ H
          · refine jr_iconst (v := 1) dX11_law_181 (by decide) ?_
            refine jr_goto (tgt := 186) dX11_law_182 (by decide) ?_
            refine jr_fgt 6 ?_
            exact hJ186 _ _ _ H
      · refine jr_if_le (tgt := 170) dX11_law_163 (by decide) H (fun H => ?_) (fun H => ?_)
        · refine jr_iconst (v := 0) dX11_law_170 (by decide) ?_
          refine jr_fgt 5 ?_
          exact hJ171 _ _ _ H
        · refine jr_iconst (v := 1) dX11_law_166 (by decide) ?_
          refine jr_goto (tgt := 171) dX11_law_167 (by decide) ?_
          refine jr_fgt 5 ?_
          exact hJ171 _ _ _ H
set_option maxRecDepth 100000 in
set_option maxHeartbeats 4000000 in
theorem c_X11_law (l : Launch) (d : Nat) (F : Nat) (a0 : Nat) (a1 : Int32) (h : jH) (rR : Int32) (hf : jH) (H : f_X11_law F a0 a1 h = some (rR, hf)) : jh_sh h a0 = (11, 0) ∧ jMet l (d + 406) yX11_law cX11_law 10 (some .int) [.ref a0, .int a1] h (some (.int rR)) hf := by
  unfold f_X11_law at H
  obtain ⟨hsh, H⟩ := j_gd_some H
  refine ⟨hsh, ?_⟩
  refine jMet.of false [some (.ref a0), some (.int a1), none, none, none, none, none, none, none, none] rfl (by decide) (by decide) (Nat.le_of_ble_eq_true rfl) (fun S0 q hq => by simpa [j_l, lv_args, j_v, Value.category] using hq) ?_
  refine jr_aload_n dX11_law_0 rfl rfl ?_
  refine jr_iconst (v := 0) dX11_law_1 (by decide) ?_
  refine jr_putI fl_RX11_110 (fun z => by cases z) dX11_law_2 H (fun h1 H => ?_)
  refine jr_aload_n dX11_law_5 rfl rfl ?_
  refine jr_getI fl_RX11_126 (by decide) dX11_law_6 H (fun v2 H => ?_)
  refine jr_istore_n dX11_law_9 rfl (by decide) rfl (Or.inl rfl) ?_
  refine jr_aload_n dX11_law_10 rfl rfl ?_
  refine jr_iload_n dX11_law_11 rfl rfl ?_
  obtain ⟨v4, h3, Hc, H⟩ := j_b2_some H
  refine jr_callV (ci := 11) [.int a1] my_X11_isStation mv_X11_isStation ml_RX11_264 dX11_law_12 rfl rfl (Nat.le_of_ble_eq_true rfl) rfl (c_X11_isStation l (d + 404) F a0 a1 h1 v4 h3 Hc) ?_
  refine jr_if_ne (tgt := 26) dX11_law_15 (by decide) H (fun H => ?_) (fun H => ?_)
  · refine jr_aload_n dX11_law_18 rfl rfl ?_
    refine jr_iconst (v := 0) dX11_law_19 (by decide) ?_
    refine jr_putI fl_RX11_126 (fun z => by cases z) dX11_law_20 H (fun h5 H => ?_)
    refine jr_bipush (v := (-100)) dX11_law_23 (by decide) ?_
    exact jr_iret rfl dX11_law_25 H
  · refine jr_aload_n dX11_law_26 rfl rfl ?_
    obtain ⟨v7, h6, Hc, H⟩ := j_b2_some H
    refine jr_callV (ci := 11) [] my_X11_readRule mv_X11_readRule ml_RX11_213 dX11_law_27 rfl rfl (Nat.le_of_ble_eq_true rfl) rfl (c_X11_readRule l (d + 1) F a0 h3 v7 h6 Hc) ?_
    refine jr_if_ne (tgt := 40) dX11_law_30 (by decide) H (fun H => ?_) (fun H => ?_)
    · refine jr_iconst (v := (-1)) dX11_law_33 (by decide) ?_
      refine jr_aload_n dX11_law_34 rfl rfl ?_
      refine jr_getI fl_RX11_141 (by decide) dX11_law_35 H (fun v8 H => ?_)
      refine jr_isub dX11_law_38 ?_
      exact jr_iret rfl dX11_law_39 H
    · refine jr_iconst (v := 0) dX11_law_40 (by decide) ?_
      refine jr_istore_n dX11_law_41 rfl (by decide) rfl (Or.inl rfl) ?_
      refine s_X11_law_L42 l d F a0 a1 v2 _ (fun h14 H => ?_) F 0 h6 H
      · refine jr_aload_n dX11_law_68 rfl rfl ?_
        refine jr_getR fl_RX11_46 dX11_law_69 H (fun v15 H => ?_)
        refine jr_astore_n dX11_law_72 rfl (by decide) rfl (Or.inl rfl) ?_
        refine jr_aload_n dX11_law_73 rfl rfl ?_
        refine jr_getI fl_RX11_216 (by decide) dX11_law_74 H (fun v16 H => ?_)
        refine jr_istore dX11_law_77 (by decide) rfl (Or.inl rfl) ?_
        refine jr_aload_n dX11_law_79 rfl rfl ?_
        refine jr_aload_n dX11_law_80 rfl rfl ?_
        refine jr_getR fl_RX11_49 dX11_law_81 H (fun v17 H => ?_)
        refine jr_putR fl_RX11_46 (fun z => by cases z) dX11_law_84 H (fun h18 H => ?_)
        refine jr_aload_n dX11_law_87 rfl rfl ?_
        refine jr_iload_n dX11_law_88 rfl rfl ?_
        refine jr_putI fl_RX11_216 (fun z => by cases z) dX11_law_89 H (fun h19 H => ?_)
        refine jr_iconst (v := 0) dX11_law_92 (by decide) ?_
        refine jr_istore dX11_law_93 (by decide) rfl (Or.inl rfl) ?_
        refine s_X11_law_L95 l d F a0 a1 v2 v15 v16 _ (fun h24 H => ?_) F 0 h19 H
        · refine jr_iconst (v := 0) dX11_law_121 (by decide) ?_
          refine jr_istore dX11_law_122 (by decide) rfl (Or.inl rfl) ?_
          refine jr_iconst (v := 0) dX11_law_124 (by decide) ?_
          refine jr_istore dX11_law_125 (by decide) rfl (Or.inl rfl) ?_
          refine jr_iconst (v := 0) dX11_law_127 (by decide) ?_
          refine jr_istore dX11_law_128 (by decide) rfl (Or.inl rfl) ?_
          refine jr_iconst (v := 0) dX11_law_130 (by decide) ?_
          refine jr_istore dX11_law_131 (by decide) rfl (Or.inl rfl) ?_
          refine s_X11_law_L133 l d F a0 a1 v15 v16 _ (fun y36 y37 y38 h39 H => ?_) F 0 0 0 0 h24 H
          · refine jr_aload_n dX11_law_202 rfl rfl ?_
            refine jr_aload_n dX11_law_203 rfl rfl ?_
            refine jr_putR fl_RX11_46 (fun z => by cases z) dX11_law_204 H (fun h40 H => ?_)
            refine jr_aload_n dX11_law_207 rfl rfl ?_
            refine jr_iload dX11_law_208 rfl ?_
            refine jr_putI fl_RX11_216 (fun z => by cases z) dX11_law_210 H (fun h41 H => ?_)
            refine jr_aload_n dX11_law_213 rfl rfl ?_
            refine jr_iconst (v := 0) dX11_law_214 (by decide) ?_
            refine jr_putI fl_RX11_113 (fun z => by cases z) dX11_law_215 H (fun h42 H => ?_)
            refine jr_aload_n dX11_law_218 rfl rfl ?_
            refine jr_iload dX11_law_219 rfl ?_
            refine jr_i2l dX11_law_221 ?_
            obtain ⟨h43, Hc, H⟩ := Option.bind_eq_some_iff.mp H
            refine jr_callV (ci := 11) [.long (y37.toInt64)] my_X11_tell mv_X11_tell ml_RX11_274 dX11_law_222 rfl rfl (Nat.le_of_ble_eq_true rfl) rfl (c_X11_tell l (d + 405) F a0 (y37.toInt64) h42 h43 Hc) ?_
            refine jr_aload_n dX11_law_225 rfl rfl ?_
            refine jr_iload dX11_law_226 rfl ?_
            refine jr_i2l dX11_law_228 ?_
            obtain ⟨h44, Hc, H⟩ := Option.bind_eq_some_iff.mp H
            refine jr_callV (ci := 11) [.long (y38.toInt64)] my_X11_tell mv_X11_tell ml_RX11_274 dX11_law_229 rfl rfl (Nat.le_of_ble_eq_true rfl) rfl (c_X11_tell l (d + 405) F a0 (y38.toInt64) h43 h44 Hc) ?_
            refine jr_iload dX11_law_232 rfl ?_
            exact jr_iret rfl dX11_law_234 H
set_option maxRecDepth 100000 in
set_option maxHeartbeats 4000000 in
theorem s_X11_isAll_L10 (l : Launch) (d : Nat) (F : Nat) (x1 : Nat) (x2 : Int32) {rR : Int32} {hf : jH} : ∀ (n : Nat) (x3 : Int32) (h : jH), f_X11_isAll_L10 F x1 x2 n x3 h = some (rR, hf) → jGo l (d + 0) none RX11 cX11_isAll 5 (some .boolean) false 10 [none, some (.ref x1), some (.int x2), some (.int x3), none] [] h (some (.int rR)) hf := by
  intro n
  induction n with
  | zero =>
    intro x3 h H
    cases H
  | succ n ih =>
    intro x3 h H
    unfold f_X11_isAll_L10 at H
    refine jr_iload_n dX11_isAll_10 rfl rfl ?_
    refine jr_iload_n dX11_isAll_11 rfl rfl ?_
    refine jr_icmp_ge (tgt := 33) dX11_isAll_12 (by decide) H (fun H => ?_) (fun H => ?_)
    · refine jr_iconst (v := 1) dX11_isAll_33 (by decide) ?_
      exact jr_zret rfl rfl dX11_isAll_34 H
    · refine jr_aload_n dX11_isAll_15 rfl rfl ?_
      refine jr_iload_n dX11_isAll_16 rfl rfl ?_
      refine jr_iald dX11_isAll_17 H (fun v3 H => ?_)
      refine jr_istore dX11_isAll_18 (by decide) rfl (Or.inl rfl) ?_
      refine jr_iload dX11_isAll_20 rfl ?_
      refine jr_if_eq (tgt := 27) dX11_isAll_22 (by decide) H (fun H => ?_) (fun H => ?_)
      · refine jr_iinc (v := (x3 + 1)) dX11_isAll_27 rfl rfl (by decide) rfl (Or.inl rfl) ?_
        refine jr_goto (tgt := 10) dX11_isAll_30 (by decide) ?_
        refine jr_fgt 4 ?_
        exact ih _ _ H
      · refine jr_iconst (v := 0) dX11_isAll_25 (by decide) ?_
        exact jr_zret rfl rfl dX11_isAll_26 H
set_option maxRecDepth 100000 in
set_option maxHeartbeats 4000000 in
theorem c_X11_isAll (l : Launch) (d : Nat) (F : Nat) (a0 : Nat) (h : jH) (rR : Int32) (hf : jH) (H : f_X11_isAll F a0 h = some (rR, hf)) : jh_sh h a0 = (11, 0) ∧ jMet l (d + 0) yX11_isAll cX11_isAll 5 (some .boolean) [.ref a0] h (some (.int rR)) hf := by
  unfold f_X11_isAll at H
  obtain ⟨hsh, H⟩ := j_gd_some H
  refine ⟨hsh, ?_⟩
  refine jMet.of false [some (.ref a0), none, none, none, none] rfl (by decide) (by decide) (Nat.le_of_ble_eq_true rfl) (fun S0 q hq => by simpa [j_l, lv_args, j_v, Value.category] using hq) ?_
  refine jr_aload_n dX11_isAll_0 rfl rfl ?_
  refine jr_getR fl_RX11_88 dX11_isAll_1 H (fun v1 H => ?_)
  refine jr_astore_n dX11_isAll_4 rfl (by decide) rfl (Or.inl rfl) ?_
  refine jr_aload_n dX11_isAll_5 rfl rfl ?_
  refine jr_len100 dX11_isAll_6 H (fun v2 H => ?_)
  refine jr_istore_n dX11_isAll_7 rfl (by decide) rfl (Or.inl rfl) ?_
  refine jr_iconst (v := 0) dX11_isAll_8 (by decide) ?_
  refine jr_istore_n dX11_isAll_9 rfl (by decide) rfl (Or.inl rfl) ?_
  refine jr_fgt 0 ?_
  exact s_X11_isAll_L10 l d F v1 v2 F 0 h H
set_option maxRecDepth 100000 in
set_option maxHeartbeats 4000000 in
theorem s_X11_take_L2 (l : Launch) (d : Nat) (F : Nat) (x0 : Nat) (x1 : Int32) (x2 : Int32) {hf : jH} : ∀ (n : Nat) (x3 : Int32) (h : jH), f_X11_take_L2 F x0 x1 x2 n x3 h = some hf → jGo l (d + 2) none RX11 cX11_take 4 none false 2 [some (.ref x0), some (.int x1), some (.int x2), some (.int x3)] [] h none hf := by
  intro n
  induction n with
  | zero =>
    intro x3 h H
    cases H
  | succ n ih =>
    intro x3 h H
    unfold f_X11_take_L2 at H
    refine jr_iload_n dX11_take_2 rfl rfl ?_
    refine jr_iconst (v := 5) dX11_take_3 (by decide) ?_
    refine jr_icmp_ge (tgt := 30) dX11_take_4 (by decide) H (fun H => ?_) (fun H => ?_)
    · exact jr_vret rfl dX11_take_30 H
    · refine jr_aload_n dX11_take_7 rfl rfl ?_
      refine jr_getR fl_RX11_88 dX11_take_8 H (fun v1 H => ?_)
      refine jr_iload_n dX11_take_11 rfl rfl ?_
      refine jr_dup2 dX11_take_12 rfl rfl ?_
      refine jr_iald dX11_take_13 H (fun v2 H => ?_)
      refine jr_iload_n dX11_take_14 rfl rfl ?_
      refine jr_aload_n dX11_take_15 rfl rfl ?_
      refine jr_iload_n dX11_take_16 rfl rfl ?_
      refine jr_iload_n dX11_take_17 rfl rfl ?_
      obtain ⟨v4, h3, Hc, H⟩ := j_b2_some H
      refine jr_callV (ci := 11) [.int x1, .int x3] my_X11_often mv_X11_often ml_RX11_238 dX11_take_18 rfl rfl (Nat.le_of_ble_eq_true rfl) rfl (c_X11_often l d F x0 x1 x3 h v4 h3 Hc) ?_
      refine jr_imul dX11_take_21 ?_
      refine jr_isub dX11_take_22 ?_
      refine jr_iast dX11_take_23 H (fun h5 H => ?_)
      refine jr_iinc (v := (x3 + 1)) dX11_take_24 rfl rfl (by decide) rfl (Or.inl rfl) ?_
      refine jr_goto (tgt := 2) dX11_take_27 (by decide) ?_
      exact ih _ _ H
set_option maxRecDepth 100000 in
set_option maxHeartbeats 4000000 in
theorem c_X11_take (l : Launch) (d : Nat) (F : Nat) (a0 : Nat) (a1 : Int32) (a2 : Int32) (h : jH) (hf : jH) (H : f_X11_take F a0 a1 a2 h = some hf) : jh_sh h a0 = (11, 0) ∧ jMet l (d + 2) yX11_take cX11_take 4 none [.ref a0, .int a1, .int a2] h none hf := by
  unfold f_X11_take at H
  obtain ⟨hsh, H⟩ := j_gd_some H
  refine ⟨hsh, ?_⟩
  refine jMet.of false [some (.ref a0), some (.int a1), some (.int a2), none] rfl (by decide) (by decide) (Nat.le_of_ble_eq_true rfl) (fun S0 q hq => by simpa [j_l, lv_args, j_v, Value.category] using hq) ?_
  refine jr_iconst (v := 0) dX11_take_0 (by decide) ?_
  refine jr_istore_n dX11_take_1 rfl (by decide) rfl (Or.inl rfl) ?_
  exact s_X11_take_L2 l d F a0 a1 a2 F 0 h H
set_option maxRecDepth 100000 in
set_option maxHeartbeats 4000000 in
theorem s_X11_isFirst_L38 (l : Launch) (d : Nat) (F : Nat) (x0 : Nat) (x1 : Int32) (k58 : Int32 → jH → Option (Int32 × jH)) {rR : Int32} {hf : jH} (hk58 : ∀ (y2 : Int32) (h : jH), k58 y2 h = some (rR, hf) → jGo l (d + 0) none RX11 cX11_isFirst 3 (some .boolean) false 58 [some (.ref x0), none, some (.int y2)] [] h (some (.int rR)) hf) : ∀ (n : Nat) (x2 : Int32) (h : jH), f_X11_isFirst_L38 F x0 x1 k58 n x2 h = some (rR, hf) → jGo l (d + 0) none RX11 cX11_isFirst 3 (some .boolean) false 38 [some (.ref x0), some (.int x1), some (.int x2)] [] h (some (.int rR)) hf := by
  intro n
  induction n with
  | zero =>
    intro x2 h H
    cases H
  | succ n ih =>
    intro x2 h H
    unfold f_X11_isFirst_L38 at H
    refine jr_iload_n dX11_isFirst_38 rfl rfl ?_
    refine jr_iload_n dX11_isFirst_39 rfl rfl ?_
    refine jr_icmp_ge (tgt := 85) dX11_isFirst_40 (by decide) H (fun H => ?_) (fun H => ?_)
    · refine jr_iconst (v := 0) dX11_isFirst_85 (by decide) ?_
      exact jr_zret rfl rfl dX11_isFirst_86 H
    · refine jr_aload_n dX11_isFirst_43 rfl rfl ?_
      refine jr_getR fl_RX11_91 dX11_isFirst_44 H (fun v7 H => ?_)
      refine jr_iload_n dX11_isFirst_47 rfl rfl ?_
      refine jr_iald dX11_isFirst_48 H (fun v8 H => ?_)
      refine jr_aload_n dX11_isFirst_49 rfl rfl ?_
      refine jr_getR fl_RX11_94 dX11_isFirst_50 H (fun v9 H => ?_)
      refine jr_iload_n dX11_isFirst_53 rfl rfl ?_
      refine jr_iald dX11_isFirst_54 H (fun v10 H => ?_)
      refine jr_icmp_eq (tgt := 79) dX11_isFirst_55 (by decide) H (fun H => ?_) (fun H => ?_)
      · refine jr_iinc (v := (x2 + 1)) dX11_isFirst_79 rfl rfl (by decide) rfl (Or.inl rfl) ?_
        refine jr_goto (tgt := 38) dX11_isFirst_82 (by decide) ?_
        exact ih _ _ H
      · refine jr_fgt 1 ?_
        exact hk58 _ _ H
set_option maxRecDepth 100000 in
set_option maxHeartbeats 4000000 in
theorem c_X11_isFirst (l : Launch) (d : Nat) (F : Nat) (a0 : Nat) (a1 : Int32) (h : jH) (rR : Int32) (hf : jH) (H : f_X11_isFirst F a0 a1 h = some (rR, hf)) : jh_sh h a0 = (11, 0) ∧ jMet l (d + 0) yX11_isFirst cX11_isFirst 3 (some .boolean) [.ref a0, .int a1] h (some (.int rR)) hf := by
  unfold f_X11_isFirst at H
  obtain ⟨hsh, H⟩ := j_gd_some H
  refine ⟨hsh, ?_⟩
  refine jMet.of false [some (.ref a0), some (.int a1), none] rfl (by decide) (by decide) (Nat.le_of_ble_eq_true rfl) (fun S0 q hq => by simpa [j_l, lv_args, j_v, Value.category] using hq) ?_
  refine jr_aload_n dX11_isFirst_0 rfl rfl ?_
  refine jr_getI fl_RX11_386 (by decide) dX11_isFirst_1 H (fun v1 H => ?_)
  refine jr_jn (fun J => ∀ (h2 : jH), J h2 = some (rR, hf) → jGo l (d + 0) none RX11 cX11_isFirst 3 (some .boolean) false 15 [some (.ref a0), some (.int a1), none] [] h2 (some (.int rR)) hf) H (fun h2 H => ?_) (fun J15 hJ15 H => ?_)
  · refine jr_aload_n dX11_isFirst_15 rfl rfl ?_
    refine jr_getI fl_RX11_386 (by decide) dX11_isFirst_16 H (fun v3 H => ?_)
    refine jr_jn (fun J => ∀ (h4 : jH), J h4 = some (rR, hf) → jGo l (d + 0) none RX11 cX11_isFirst 3 (some .boolean) false 30 [none, none, none] [] h4 (some (.int rR)) hf) H (fun h4 H => ?_) (fun J30 hJ30 H => ?_)
    · refine jr_iconst (v := 1) dX11_isFirst_30 (by decide) ?_
      refine jr_goto (tgt := 35) dX11_isFirst_31 (by decide) ?_
      exact jr_zret rfl rfl dX11_isFirst_35 H
    · refine jr_if_eq (tgt := 30) dX11_isFirst_19 (by decide) H (fun H => ?_) (fun H => ?_)
      · refine jr_fgt 0 ?_
        refine jr_fgt 1 ?_
        exact hJ30 _ H
      · refine jr_iload_n dX11_isFirst_22 rfl rfl ?_
        refine jr_aload_n dX11_isFirst_23 rfl rfl ?_
        refine jr_getI fl_RX11_389 (by decide) dX11_isFirst_24 H (fun v5 H => ?_)
        refine jr_icmp_ge (tgt := 34) dX11_isFirst_27 (by decide) H (fun H => ?_) (fun H => ?_)
        · refine jr_iconst (v := 0) dX11_isFirst_34 (by decide) ?_
          exact jr_zret rfl rfl dX11_isFirst_35 H
        · refine jr_fgt 0 ?_
          refine jr_fgt 1 ?_
          exact hJ30 _ H
  · refine jr_if_eq (tgt := 15) dX11_isFirst_4 (by decide) H (fun H => ?_) (fun H => ?_)
    · exact hJ15 _ H
    · refine jr_iload_n dX11_isFirst_7 rfl rfl ?_
      refine jr_aload_n dX11_isFirst_8 rfl rfl ?_
      refine jr_getI fl_RX11_389 (by decide) dX11_isFirst_9 H (fun v6 H => ?_)
      refine jr_icmp_eq (tgt := 36) dX11_isFirst_12 (by decide) H (fun H => ?_) (fun H => ?_)
      · refine jr_iconst (v := 0) dX11_isFirst_36 (by decide) ?_
        refine jr_istore_n dX11_isFirst_37 rfl (by decide) rfl (Or.inl rfl) ?_
        refine s_X11_isFirst_L38 l d F a0 a1 _ (fun y11 h12 H => ?_) F 0 h H
        · refine jr_aload_n dX11_isFirst_58 rfl rfl ?_
          refine jr_getR fl_RX11_91 dX11_isFirst_59 H (fun v13 H => ?_)
          refine jr_iload_n dX11_isFirst_62 rfl rfl ?_
          refine jr_iald dX11_isFirst_63 H (fun v14 H => ?_)
          refine jr_aload_n dX11_isFirst_64 rfl rfl ?_
          refine jr_getR fl_RX11_94 dX11_isFirst_65 H (fun v15 H => ?_)
          refine jr_iload_n dX11_isFirst_68 rfl rfl ?_
          refine jr_iald dX11_isFirst_69 H (fun v16 H => ?_)
          refine jr_icmp_ge (tgt := 77) dX11_isFirst_70 (by decide) H (fun H => ?_) (fun H => ?_)
          · refine jr_iconst (v := 0) dX11_isFirst_77 (by decide) ?_
            exact jr_zret rfl rfl dX11_isFirst_78 H
          · refine jr_iconst (v := 1) dX11_isFirst_73 (by decide) ?_
            refine jr_goto (tgt := 78) dX11_isFirst_74 (by decide) ?_
            exact jr_zret rfl rfl dX11_isFirst_78 H
      · exact hJ15 _ H
set_option maxRecDepth 100000 in
set_option maxHeartbeats 4000000 in
theorem s_X11_goSaid_L61 (l : Launch) (d : Nat) (F : Nat) (rec : Nat → Int32 → Int32 → jH → Option jH) (x0 : Nat) (x2 : Int32) (hrec : (∀ (a0 : Nat) (a1 : Int32) (a2 : Int32) (h : jH) (hv : jH), rec a0 a1 a2 h = some hv → jh_sh h a0 = (11, 0) ∧ jMet l (d + 2) yX11_goSaid cX11_goSaid 4 none [.ref a0, .int a1, .int a2] h none hv)) {hf : jH} : ∀ (n : Nat) (x3 : Int32) (h : jH), f_X11_goSaid_L61 F rec x0 x2 n x3 h = some hf → jGo l (d + 3) none RX11 cX11_goSaid 4 none false 61 [some (.ref x0), none, some (.int x2), some (.int x3)] [] h none hf := by
  intro n
  induction n with
  | zero =>
    intro x3 h H
    cases H
  | succ n ih =>
    intro x3 h H
    unfold f_X11_goSaid_L61 at H
    refine jr_iload_n dX11_goSaid_61 rfl rfl ?_
    refine jr_aload_n dX11_goSaid_62 rfl rfl ?_
    refine jr_getI fl_RX11_120 (by decide) dX11_goSaid_63 H (fun v2 H => ?_)
    refine jr_icmp_ge (tgt := 107) dX11_goSaid_66 (by decide) H (fun H => ?_) (fun H => ?_)
    · exact jr_vret rfl dX11_goSaid_107 H
    · refine jr_iload_n dX11_goSaid_69 rfl rfl ?_
      refine jr_iconst (v := 4) dX11_goSaid_70 (by decide) ?_
      refine jr_icmp_ge (tgt := 107) dX11_goSaid_71 (by decide) H (fun H => ?_) (fun H => ?_)
      · exact jr_vret rfl dX11_goSaid_107 H
      · refine jr_aload_n dX11_goSaid_74 rfl rfl ?_
        refine jr_getR fl_RX11_91 dX11_goSaid_75 H (fun v3 H => ?_)
        refine jr_iload_n dX11_goSaid_78 rfl rfl ?_
        refine jr_iload_n dX11_goSaid_79 rfl rfl ?_
        refine jr_iast dX11_goSaid_80 H (fun h4 H => ?_)
        refine jr_aload_n dX11_goSaid_81 rfl rfl ?_
        refine jr_iload_n dX11_goSaid_82 rfl rfl ?_
        refine jr_iconst (v := 1) dX11_goSaid_83 (by decide) ?_
        obtain ⟨h5, Hc, H⟩ := Option.bind_eq_some_iff.mp H
        refine jr_callV (ci := 11) [.int x3, .int 1] my_X11_take mv_X11_take ml_RX11_398 dX11_goSaid_84 rfl rfl (Nat.le_of_ble_eq_true rfl) rfl (c_X11_take l d F x0 x3 1 h4 h5 Hc) ?_
        refine jr_aload_n dX11_goSaid_87 rfl rfl ?_
        refine jr_iload_n dX11_goSaid_88 rfl rfl ?_
        refine jr_iload_n dX11_goSaid_89 rfl rfl ?_
        refine jr_iconst (v := 1) dX11_goSaid_90 (by decide) ?_
        refine jr_iadd dX11_goSaid_91 ?_
        obtain ⟨h6, Hc, H⟩ := Option.bind_eq_some_iff.mp H
        refine jr_callV (ci := 11) [.int x3, .int (x2 + (1 : Int32))] my_X11_goSaid mv_X11_goSaid ml_RX11_401 dX11_goSaid_92 rfl rfl (Nat.le_of_ble_eq_true rfl) rfl (hrec x0 x3 (x2 + (1 : Int32)) h5 h6 Hc) ?_
        refine jr_aload_n dX11_goSaid_95 rfl rfl ?_
        refine jr_iload_n dX11_goSaid_96 rfl rfl ?_
        refine jr_iconst (v := (-1)) dX11_goSaid_97 (by decide) ?_
        obtain ⟨h7, Hc, H⟩ := Option.bind_eq_some_iff.mp H
        refine jr_callV (ci := 11) [.int x3, .int (-1)] my_X11_take mv_X11_take ml_RX11_398 dX11_goSaid_98 rfl rfl (Nat.le_of_ble_eq_true rfl) rfl (c_X11_take l d F x0 x3 (-1) h6 h7 Hc) ?_
        refine jr_iinc (v := (x3 + 1)) dX11_goSaid_101 rfl rfl (by decide) rfl (Or.inl rfl) ?_
        refine jr_goto (tgt := 61) dX11_goSaid_104 (by decide) ?_
        exact ih _ _ H
set_option maxRecDepth 100000 in
set_option maxHeartbeats 4000000 in
theorem s_X11_goSaid_L26 (l : Launch) (d : Nat) (F : Nat) (rec : Nat → Int32 → Int32 → jH → Option jH) (x0 : Nat) (x1 : Int32) (x2 : Int32) (k49 : jH → Option jH) (hrec : (∀ (a0 : Nat) (a1 : Int32) (a2 : Int32) (h : jH) (hv : jH), rec a0 a1 a2 h = some hv → jh_sh h a0 = (11, 0) ∧ jMet l (d + 2) yX11_goSaid cX11_goSaid 4 none [.ref a0, .int a1, .int a2] h none hv)) {hf : jH} (hk49 : ∀ (h : jH), k49 h = some hf → jGo l (d + 3) none RX11 cX11_goSaid 4 none false 49 [some (.ref x0), some (.int x1), some (.int x2), none] [] h none hf) : ∀ (n : Nat) (x3 : Int32) (h : jH), f_X11_goSaid_L26 F rec x0 x1 x2 k49 n x3 h = some hf → jGo l (d + 3) none RX11 cX11_goSaid 4 none false 26 [some (.ref x0), some (.int x1), some (.int x2), some (.int x3)] [] h none hf := by
  intro n
  induction n with
  | zero =>
    intro x3 h H
    cases H
  | succ n ih =>
    intro x3 h H
    unfold f_X11_goSaid_L26 at H
    refine jr_iload_n dX11_goSaid_26 rfl rfl ?_
    refine jr_iload_n dX11_goSaid_27 rfl rfl ?_
    refine jr_icmp_ge (tgt := 49) dX11_goSaid_28 (by decide) H (fun H => ?_) (fun H => ?_)
    · refine jr_fgt 3 ?_
      exact hk49 _ H
    · refine jr_aload_n dX11_goSaid_31 rfl rfl ?_
      refine jr_getR fl_RX11_94 dX11_goSaid_32 H (fun v16 H => ?_)
      refine jr_iload_n dX11_goSaid_35 rfl rfl ?_
      refine jr_aload_n dX11_goSaid_36 rfl rfl ?_
      refine jr_getR fl_RX11_91 dX11_goSaid_37 H (fun v17 H => ?_)
      refine jr_iload_n dX11_goSaid_40 rfl rfl ?_
      refine jr_iald dX11_goSaid_41 H (fun v18 H => ?_)
      refine jr_iast dX11_goSaid_42 H (fun h19 H => ?_)
      refine jr_iinc (v := (x3 + 1)) dX11_goSaid_43 rfl rfl (by decide) rfl (Or.inl rfl) ?_
      refine jr_goto (tgt := 26) dX11_goSaid_46 (by decide) ?_
      exact ih _ _ H
set_option maxRecDepth 100000 in
set_option maxHeartbeats 4000000 in
theorem c_b_X11_goSaid (l : Launch) (d : Nat) (F : Nat) (rec : Nat → Int32 → Int32 → jH → Option jH) (hrec : (∀ (a0 : Nat) (a1 : Int32) (a2 : Int32) (h : jH) (hv : jH), rec a0 a1 a2 h = some hv → jh_sh h a0 = (11, 0) ∧ jMet l (d + 2) yX11_goSaid cX11_goSaid 4 none [.ref a0, .int a1, .int a2] h none hv)) (a0 : Nat) (a1 : Int32) (a2 : Int32) (h : jH) (hf : jH) (H : b_X11_goSaid F rec a0 a1 a2 h = some hf) : jh_sh h a0 = (11, 0) ∧ jMet l (d + 3) yX11_goSaid cX11_goSaid 4 none [.ref a0, .int a1, .int a2] h none hf := by
  unfold b_X11_goSaid at H
  obtain ⟨hsh, H⟩ := j_gd_some H
  refine ⟨hsh, ?_⟩
  refine jMet.of false [some (.ref a0), some (.int a1), some (.int a2), none] rfl (by decide) (by decide) (Nat.le_of_ble_eq_true rfl) (fun S0 q hq => by simpa [j_l, lv_args, j_v, Value.category] using hq) ?_
  refine jr_iload_n dX11_goSaid_0 rfl rfl ?_
  refine jr_jn (fun J => ∀ (h1 : jH), J h1 = some hf → jGo l (d + 3) none RX11 cX11_goSaid 4 none false 59 [some (.ref a0), some (.int a1), some (.int a2), none] [] h1 none hf) H (fun h1 H => ?_) (fun J59 hJ59 H => ?_)
  · refine jr_iload_n dX11_goSaid_59 rfl rfl ?_
    refine jr_istore_n dX11_goSaid_60 rfl (by decide) rfl (Or.inl rfl) ?_
    refine jr_fgt 1 ?_
    exact s_X11_goSaid_L61 l d F rec a0 a2 hrec F a1 h1 H
  · refine jr_if_le (tgt := 59) dX11_goSaid_1 (by decide) H (fun H => ?_) (fun H => ?_)
    · exact hJ59 _ H
    · refine jr_aload_n dX11_goSaid_4 rfl rfl ?_
      obtain ⟨v9, h8, Hc, H⟩ := j_b2_some H
      refine jr_callV (ci := 11) [] my_X11_isAll mv_X11_isAll ml_RX11_392 dX11_goSaid_5 rfl rfl (Nat.le_of_ble_eq_true rfl) rfl (c_X11_isAll l (d + 2) F a0 h v9 h8 Hc) ?_
      refine jr_if_eq (tgt := 59) dX11_goSaid_8 (by decide) H (fun H => ?_) (fun H => ?_)
      · exact hJ59 _ H
      · refine jr_aload_n dX11_goSaid_11 rfl rfl ?_
        refine jr_iload_n dX11_goSaid_12 rfl rfl ?_
        obtain ⟨v11, h10, Hc, H⟩ := j_b2_some H
        refine jr_callV (ci := 11) [.int a2] my_X11_isFirst mv_X11_isFirst ml_RX11_395 dX11_goSaid_13 rfl rfl (Nat.le_of_ble_eq_true rfl) rfl (c_X11_isFirst l (d + 2) F a0 a2 h8 v11 h10 Hc) ?_
        refine jr_jn (fun J => ∀ (h12 : jH), J h12 = some hf → jGo l (d + 3) none RX11 cX11_goSaid 4 none false 49 [some (.ref a0), some (.int a1), some (.int a2), none] [] h12 none hf) H (fun h12 H => ?_) (fun J49 hJ49 H => ?_)
        · refine jr_aload_n dX11_goSaid_49 rfl rfl ?_
          refine jr_dup dX11_goSaid_50 rfl ?_
          refine jr_getI fl_RX11_386 (by decide) dX11_goSaid_51 H (fun v13 H => ?_)
          refine jr_iconst (v := 1) dX11_goSaid_54 (by decide) ?_
          refine jr_iadd dX11_goSaid_55 ?_
          refine jr_putI fl_RX11_386 (fun z => by cases z) dX11_goSaid_56 H (fun h14 H => ?_)
          exact hJ59 _ H
        · refine jr_if_eq (tgt := 49) dX11_goSaid_16 (by decide) H (fun H => ?_) (fun H => ?_)
          · exact hJ49 _ H
          · refine jr_aload_n dX11_goSaid_19 rfl rfl ?_
            refine jr_iload_n dX11_goSaid_20 rfl rfl ?_
            refine jr_putI fl_RX11_389 (fun z => by cases z) dX11_goSaid_21 H (fun h15 H => ?_)
            refine jr_iconst (v := 0) dX11_goSaid_24 (by decide) ?_
            refine jr_istore_n dX11_goSaid_25 rfl (by decide) rfl (Or.inl rfl) ?_
            refine s_X11_goSaid_L26 l d F rec a0 a1 a2 _ hrec (fun h20 H => ?_) F 0 h15 H
            · exact hJ49 _ H
theorem c_gS (l : Launch) (d : Nat) (F : Nat) : ∀ n : Nat, (∀ (a0 : Nat) (a1 : Int32) (a2 : Int32) (h : jH) (hv : jH), f_gS F n a0 a1 a2 h = some hv → jh_sh h a0 = (11, 0) ∧ jMet l (d + n + 2) yX11_goSaid cX11_goSaid 4 none [.ref a0, .int a1, .int a2] h none hv) := by
  intro n
  induction n with
  | zero => exact fun a0 a1 a2 h hv H => (by cases H)
  | succ n ih => exact fun a0 a1 a2 h hv H => j_dep (by omega) (c_b_X11_goSaid l (d + n) F (f_gS F n) ih a0 a1 a2 h hv H)
theorem c_X11_goSaid (l : Launch) (d : Nat) (F : Nat) (a0 : Nat) (a1 : Int32) (a2 : Int32) (h : jH) (hf : jH) (H : f_X11_goSaid F a0 a1 a2 h = some hf) : jh_sh h a0 = (11, 0) ∧ jMet l (d + 12) yX11_goSaid cX11_goSaid 4 none [.ref a0, .int a1, .int a2] h none hf := j_dep (by omega) ((c_gS l d F 10) a0 a1 a2 h hf H)
set_option maxRecDepth 100000 in
set_option maxHeartbeats 4000000 in
theorem s_X11_said_L13 (l : Launch) (d : Nat) (F : Nat) (x0 : Nat) (k38 : jH → Option (Int32 × jH)) {rR : Int32} {hf : jH} (hk38 : ∀ (h : jH), k38 h = some (rR, hf) → jGo l (d + 13) none RX11 cX11_said 2 (some .int) false 38 [some (.ref x0), none] [] h (some (.int rR)) hf) : ∀ (n : Nat) (x1 : Int32) (h : jH), f_X11_said_L13 F x0 k38 n x1 h = some (rR, hf) → jGo l (d + 13) none RX11 cX11_said 2 (some .int) false 13 [some (.ref x0), some (.int x1)] [] h (some (.int rR)) hf := by
  intro n
  induction n with
  | zero =>
    intro x1 h H
    cases H
  | succ n ih =>
    intro x1 h H
    unfold f_X11_said_L13 at H
    refine jr_iload_n dX11_said_13 rfl rfl ?_
    refine jr_iconst (v := 5) dX11_said_14 (by decide) ?_
    refine jr_icmp_ge (tgt := 38) dX11_said_15 (by decide) H (fun H => ?_) (fun H => ?_)
    · refine jr_fgt 1 ?_
      exact hk38 _ H
    · refine jr_aload_n dX11_said_18 rfl rfl ?_
      refine jr_getR fl_RX11_88 dX11_said_19 H (fun v3 H => ?_)
      refine jr_iload_n dX11_said_22 rfl rfl ?_
      refine jr_aload_n dX11_said_23 rfl rfl ?_
      refine jr_bipush (v := 48) dX11_said_24 (by decide) ?_
      refine jr_bipush (v := 10) dX11_said_26 (by decide) ?_
      obtain ⟨v5, h4, Hc, H⟩ := j_b2_some H
      refine jr_callV (ci := 11) [.int 48, .int 10] my_X11_oneOf mv_X11_oneOf ml_RX11_164 dX11_said_28 rfl rfl (Nat.le_of_ble_eq_true rfl) rfl (c_X11_oneOf l (d + 10) F x0 48 10 h v5 h4 Hc) ?_
      refine jr_iast dX11_said_31 H (fun h6 H => ?_)
      refine jr_iinc (v := (x1 + 1)) dX11_said_32 rfl rfl (by decide) rfl (Or.inl rfl) ?_
      refine jr_goto (tgt := 13) dX11_said_35 (by decide) ?_
      exact ih _ _ H
set_option maxRecDepth 100000 in
set_option maxHeartbeats 4000000 in
theorem s_X11_said_L70 (l : Launch) (d : Nat) (F : Nat) (x0 : Nat) (k102 : jH → Option (Int32 × jH)) {rR : Int32} {hf : jH} (hk102 : ∀ (h : jH), k102 h = some (rR, hf) → jGo l (d + 13) none RX11 cX11_said 2 (some .int) false 102 [some (.ref x0), none] [] h (some (.int rR)) hf) : ∀ (n : Nat) (x1 : Int32) (h : jH), f_X11_said_L70 F x0 k102 n x1 h = some (rR, hf) → jGo l (d + 13) none RX11 cX11_said 2 (some .int) false 70 [some (.ref x0), some (.int x1)] [] h (some (.int rR)) hf := by
  intro n
  induction n with
  | zero =>
    intro x1 h H
    cases H
  | succ n ih =>
    intro x1 h H
    unfold f_X11_said_L70 at H
    refine jr_iload_n dX11_said_70 rfl rfl ?_
    refine jr_aload_n dX11_said_71 rfl rfl ?_
    refine jr_getI fl_RX11_389 (by decide) dX11_said_72 H (fun v14 H => ?_)
    refine jr_icmp_ge (tgt := 102) dX11_said_75 (by decide) H (fun H => ?_) (fun H => ?_)
    · refine jr_fgt 1 ?_
      exact hk102 _ H
    · refine jr_aload_n dX11_said_78 rfl rfl ?_
      refine jr_getI fl_RX11_386 (by decide) dX11_said_79 H (fun v15 H => ?_)
      refine jr_if_le (tgt := 102) dX11_said_82 (by decide) H (fun H => ?_) (fun H => ?_)
      · refine jr_fgt 1 ?_
        exact hk102 _ H
      · refine jr_aload_n dX11_said_85 rfl rfl ?_
        refine jr_aload_n dX11_said_86 rfl rfl ?_
        refine jr_getR fl_RX11_94 dX11_said_87 H (fun v16 H => ?_)
        refine jr_iload_n dX11_said_90 rfl rfl ?_
        refine jr_iald dX11_said_91 H (fun v17 H => ?_)
        refine jr_i2l dX11_said_92 ?_
        obtain ⟨h18, Hc, H⟩ := Option.bind_eq_some_iff.mp H
        refine jr_callV (ci := 11) [.long (v17.toInt64)] my_X11_tell mv_X11_tell ml_RX11_274 dX11_said_93 rfl rfl (Nat.le_of_ble_eq_true rfl) rfl (c_X11_tell l (d + 12) F x0 (v17.toInt64) h h18 Hc) ?_
        refine jr_iinc (v := (x1 + 1)) dX11_said_96 rfl rfl (by decide) rfl (Or.inl rfl) ?_
        refine jr_goto (tgt := 70) dX11_said_99 (by decide) ?_
        exact ih _ _ H
set_option maxRecDepth 100000 in
set_option maxHeartbeats 4000000 in
theorem c_X11_said (l : Launch) (d : Nat) (F : Nat) (a0 : Nat) (h : jH) (rR : Int32) (hf : jH) (H : f_X11_said F a0 h = some (rR, hf)) : jh_sh h a0 = (11, 0) ∧ jMet l (d + 13) yX11_said cX11_said 2 (some .int) [.ref a0] h (some (.int rR)) hf := by
  unfold f_X11_said at H
  obtain ⟨hsh, H⟩ := j_gd_some H
  refine ⟨hsh, ?_⟩
  refine jMet.of false [some (.ref a0), none] rfl (by decide) (by decide) (Nat.le_of_ble_eq_true rfl) (fun S0 q hq => by simpa [j_l, lv_args, j_v, Value.category] using hq) ?_
  refine jr_aload_n dX11_said_0 rfl rfl ?_
  refine jr_iconst (v := 0) dX11_said_1 (by decide) ?_
  refine jr_putI fl_RX11_110 (fun z => by cases z) dX11_said_2 H (fun h1 H => ?_)
  refine jr_aload_n dX11_said_5 rfl rfl ?_
  refine jr_bipush (v := 80) dX11_said_6 (by decide) ?_
  obtain ⟨h2, Hc, H⟩ := Option.bind_eq_some_iff.mp H
  refine jr_callV (ci := 11) [.int 80] my_X11_beginText mv_X11_beginText ml_RX11_177 dX11_said_8 rfl rfl (Nat.le_of_ble_eq_true rfl) rfl (c_X11_beginText l (d + 11) F a0 80 h1 h2 Hc) ?_
  refine jr_iconst (v := 0) dX11_said_11 (by decide) ?_
  refine jr_istore_n dX11_said_12 rfl (by decide) rfl (Or.inl rfl) ?_
  refine s_X11_said_L13 l d F a0 _ (fun h7 H => ?_) F 0 h2 H
  · refine jr_aload_n dX11_said_38 rfl rfl ?_
    obtain ⟨v9, h8, Hc, H⟩ := j_b2_some H
    refine jr_callV (ci := 11) [] my_X11_wasRight mv_X11_wasRight ml_RX11_183 dX11_said_39 rfl rfl (Nat.le_of_ble_eq_true rfl) rfl (c_X11_wasRight l (d + 10) F a0 h7 v9 h8 Hc) ?_
    refine jr_if_ne (tgt := 52) dX11_said_42 (by decide) H (fun H => ?_) (fun H => ?_)
    · refine jr_iconst (v := (-1)) dX11_said_45 (by decide) ?_
      refine jr_aload_n dX11_said_46 rfl rfl ?_
      refine jr_getI fl_RX11_141 (by decide) dX11_said_47 H (fun v10 H => ?_)
      refine jr_isub dX11_said_50 ?_
      exact jr_iret rfl dX11_said_51 H
    · refine jr_aload_n dX11_said_52 rfl rfl ?_
      refine jr_iconst (v := 0) dX11_said_53 (by decide) ?_
      refine jr_putI fl_RX11_386 (fun z => by cases z) dX11_said_54 H (fun h11 H => ?_)
      refine jr_aload_n dX11_said_57 rfl rfl ?_
      refine jr_iconst (v := 0) dX11_said_58 (by decide) ?_
      refine jr_iconst (v := 0) dX11_said_59 (by decide) ?_
      obtain ⟨h12, Hc, H⟩ := Option.bind_eq_some_iff.mp H
      refine jr_callV (ci := 11) [.int 0, .int 0] my_X11_goSaid mv_X11_goSaid ml_RX11_401 dX11_said_60 rfl rfl (Nat.le_of_ble_eq_true rfl) rfl (c_X11_goSaid l d F a0 0 0 h11 h12 Hc) ?_
      refine jr_aload_n dX11_said_63 rfl rfl ?_
      refine jr_iconst (v := 0) dX11_said_64 (by decide) ?_
      refine jr_putI fl_RX11_113 (fun z => by cases z) dX11_said_65 H (fun h13 H => ?_)
      refine jr_iconst (v := 0) dX11_said_68 (by decide) ?_
      refine jr_istore_n dX11_said_69 rfl (by decide) rfl (Or.inl rfl) ?_
      refine s_X11_said_L70 l d F a0 _ (fun h19 H => ?_) F 0 h13 H
      · refine jr_aload_n dX11_said_102 rfl rfl ?_
        refine jr_getI fl_RX11_386 (by decide) dX11_said_103 H (fun v20 H => ?_)
        exact jr_iret rfl dX11_said_106 H
set_option maxRecDepth 100000 in
set_option maxHeartbeats 4000000 in
theorem s_X11_ask_L47 (l : Launch) (d : Nat) (F : Nat) (x0 : Nat) (x1 : Int32) (x2 : Int32) (x3 : Int32) (x4 : Int32) (x5 : Int32) (k84 : Int32 → jH → Option (Int32 × jH)) {rR : Int32} {hf : jH} (hk84 : ∀ (y6 : Int32) (h : jH), k84 y6 h = some (rR, hf) → jGo l (d + 2) none RX11 cX11_ask 8 (some .int) false 84 [some (.ref x0), some (.int x1), some (.int x2), some (.int x3), some (.int x4), some (.int x5), some (.int y6), none] [] h (some (.int rR)) hf) : ∀ (n : Nat) (x6 : Int32) (x7 : Int32) (h : jH), f_X11_ask_L47 F x0 x1 x2 x3 x4 x5 k84 n x6 x7 h = some (rR, hf) → jGo l (d + 2) none RX11 cX11_ask 8 (some .int) false 47 [some (.ref x0), some (.int x1), some (.int x2), some (.int x3), some (.int x4), some (.int x5), some (.int x6), some (.int x7)] [] h (some (.int rR)) hf := by
  intro n
  induction n with
  | zero =>
    intro x6 x7 h H
    cases H
  | succ n ih =>
    intro x6 x7 h H
    unfold f_X11_ask_L47 at H
    refine jr_iload dX11_ask_47 rfl ?_
    refine jr_aload_n dX11_ask_49 rfl rfl ?_
    refine jr_getI fl_RX11_120 (by decide) dX11_ask_50 H (fun v3 H => ?_)
    refine jr_icmp_ge (tgt := 84) dX11_ask_53 (by decide) H (fun H => ?_) (fun H => ?_)
    · refine jr_fgt 7 ?_
      exact hk84 _ _ H
    · refine jr_iload dX11_ask_56 rfl ?_
      refine jr_aload_n dX11_ask_58 rfl rfl ?_
      refine jr_iload dX11_ask_59 rfl ?_
      refine jr_iload_n dX11_ask_61 rfl rfl ?_
      obtain ⟨v5, h4, Hc, H⟩ := j_b2_some H
      refine jr_callV (ci := 11) [.int x7, .int x3] my_X11_often mv_X11_often ml_RX11_238 dX11_ask_62 rfl rfl (Nat.le_of_ble_eq_true rfl) rfl (c_X11_often l d F x0 x7 x3 h v5 h4 Hc) ?_
      refine jr_iload dX11_ask_65 rfl ?_
      refine jr_jn (fun J => ∀ (s6 : Int32) (s7 : Int32) (h8 : jH), J s6 s7 h8 = some (rR, hf) → jGo l (d + 2) none RX11 cX11_ask 8 (some .int) false 75 [some (.ref x0), some (.int x1), some (.int x2), some (.int x3), some (.int x4), some (.int x5), none, some (.int x7)] [.int s6, .int s7] h8 (some (.int rR)) hf) H (fun s6 s7 h8 H => ?_) (fun J75 hJ75 H => ?_)
      · refine jr_iadd dX11_ask_75 ?_
        refine jr_istore dX11_ask_76 (by decide) rfl (Or.inl rfl) ?_
        refine jr_iinc (v := (x7 + 1)) dX11_ask_78 rfl rfl (by decide) rfl (Or.inl rfl) ?_
        refine jr_goto (tgt := 47) dX11_ask_81 (by decide) ?_
        exact ih _ _ _ H
      · refine jr_icmp_ne (tgt := 74) dX11_ask_67 (by decide) H (fun H => ?_) (fun H => ?_)
        · refine jr_iconst (v := 1) dX11_ask_70 (by decide) ?_
          refine jr_goto (tgt := 75) dX11_ask_71 (by decide) ?_
          refine jr_fgt 6 ?_
          exact hJ75 _ _ _ H
        · refine jr_iconst (v := 0) dX11_ask_74 (by decide) ?_
          refine jr_fgt 6 ?_
          exact hJ75 _ _ _ H
set_option maxRecDepth 100000 in
set_option maxHeartbeats 4000000 in
theorem s_X11_ask_L34 (l : Launch) (d : Nat) (F : Nat) (x0 : Nat) (x1 : Int32) (x2 : Int32) (x3 : Int32) (k99 : Int32 → jH → Option (Int32 × jH)) {rR : Int32} {hf : jH} (hk99 : ∀ (y4 : Int32) (h : jH), k99 y4 h = some (rR, hf) → jGo l (d + 2) none RX11 cX11_ask 8 (some .int) false 99 [some (.ref x0), some (.int x1), some (.int x2), some (.int x3), some (.int y4), none, none, none] [] h (some (.int rR)) hf) : ∀ (n : Nat) (x4 : Int32) (x5 : Int32) (h : jH), f_X11_ask_L34 F x0 x1 x2 x3 k99 n x4 x5 h = some (rR, hf) → jGo l (d + 2) none RX11 cX11_ask 8 (some .int) false 34 [some (.ref x0), some (.int x1), some (.int x2), some (.int x3), some (.int x4), some (.int x5), none, none] [] h (some (.int rR)) hf := by
  intro n
  induction n with
  | zero =>
    intro x4 x5 h H
    cases H
  | succ n ih =>
    intro x4 x5 h H
    unfold f_X11_ask_L34 at H
    refine jr_iload dX11_ask_34 rfl ?_
    refine jr_bipush (v := 6) dX11_ask_36 (by decide) ?_
    refine jr_icmp_gt (tgt := 99) dX11_ask_38 (by decide) H (fun H => ?_) (fun H => ?_)
    · refine jr_fgt 5 ?_
      exact hk99 _ _ H
    · refine jr_iconst (v := 0) dX11_ask_41 (by decide) ?_
      refine jr_istore dX11_ask_42 (by decide) rfl (Or.inl rfl) ?_
      refine jr_iconst (v := 0) dX11_ask_44 (by decide) ?_
      refine jr_istore dX11_ask_45 (by decide) rfl (Or.inl rfl) ?_
      refine s_X11_ask_L47 l d F x0 x1 x2 x3 x4 x5 _ (fun y9 h10 H => ?_) F 0 0 h H
      · refine jr_iload dX11_ask_84 rfl ?_
        refine jr_iload dX11_ask_86 rfl ?_
        refine jr_mmax ml_RX11_231 mm_mmax_s mm_i mm_mmax_c dX11_ask_88 (Nat.le_of_ble_eq_true rfl) ?_
        refine jr_istore dX11_ask_91 (by decide) rfl (Or.inl rfl) ?_
        refine jr_iinc (v := (x5 + 1)) dX11_ask_93 rfl rfl (by decide) rfl (Or.inl rfl) ?_
        refine jr_goto (tgt := 34) dX11_ask_96 (by decide) ?_
        refine jr_fgt 6 ?_
        exact ih _ _ _ H
set_option maxRecDepth 100000 in
set_option maxHeartbeats 4000000 in
theorem s_X11_ask_L23 (l : Launch) (d : Nat) (F : Nat) (x0 : Nat) (k119 : Int32 → Int32 → jH → Option (Int32 × jH)) {rR : Int32} {hf : jH} (hk119 : ∀ (y1 : Int32) (y2 : Int32) (h : jH), k119 y1 y2 h = some (rR, hf) → jGo l (d + 2) none RX11 cX11_ask 8 (some .int) false 119 [some (.ref x0), some (.int y1), some (.int y2), none, none, none, none, none] [] h (some (.int rR)) hf) : ∀ (n : Nat) (x1 : Int32) (x2 : Int32) (x3 : Int32) (h : jH), f_X11_ask_L23 F x0 k119 n x1 x2 x3 h = some (rR, hf) → jGo l (d + 2) none RX11 cX11_ask 8 (some .int) false 23 [some (.ref x0), some (.int x1), some (.int x2), some (.int x3), none, none, none, none] [] h (some (.int rR)) hf := by
  intro n
  induction n with
  | zero =>
    intro x1 x2 x3 h H
    cases H
  | succ n ih =>
    intro x1 x2 x3 h H
    unfold f_X11_ask_L23 at H
    refine jr_iload_n dX11_ask_23 rfl rfl ?_
    refine jr_iconst (v := 5) dX11_ask_24 (by decide) ?_
    refine jr_icmp_ge (tgt := 119) dX11_ask_25 (by decide) H (fun H => ?_) (fun H => ?_)
    · refine jr_fgt 3 ?_
      exact hk119 _ _ _ H
    · refine jr_iconst (v := 0) dX11_ask_28 (by decide) ?_
      refine jr_istore dX11_ask_29 (by decide) rfl (Or.inl rfl) ?_
      refine jr_iconst (v := 0) dX11_ask_31 (by decide) ?_
      refine jr_istore dX11_ask_32 (by decide) rfl (Or.inl rfl) ?_
      refine s_X11_ask_L34 l d F x0 x1 x2 x3 _ (fun y11 h12 H => ?_) F 0 0 h H
      · refine jr_iload dX11_ask_99 rfl ?_
        refine jr_iload_n dX11_ask_101 rfl rfl ?_
        refine jr_jn (fun J => ∀ (z13 : Int32) (z14 : Int32) (h15 : jH), J z13 z14 h15 = some (rR, hf) → jGo l (d + 2) none RX11 cX11_ask 8 (some .int) false 113 [some (.ref x0), some (.int z13), some (.int z14), some (.int x3), none, none, none, none] [] h15 (some (.int rR)) hf) H (fun z13 z14 h15 H => ?_) (fun J113 hJ113 H => ?_)
        · refine jr_iinc (v := (x3 + 1)) dX11_ask_113 rfl rfl (by decide) rfl (Or.inl rfl) ?_
          refine jr_goto (tgt := 23) dX11_ask_116 (by decide) ?_
          exact ih _ _ _ _ H
        · refine jr_icmp_lt (tgt := 108) dX11_ask_102 (by decide) H (fun H => ?_) (fun H => ?_)
          · refine jr_iload_n dX11_ask_108 rfl rfl ?_
            refine jr_istore_n dX11_ask_109 rfl (by decide) rfl (Or.inl rfl) ?_
            refine jr_iload dX11_ask_110 rfl ?_
            refine jr_istore_n dX11_ask_112 rfl (by decide) rfl (Or.inl rfl) ?_
            refine jr_fgt 4 ?_
            exact hJ113 _ _ _ H
          · refine jr_goto (tgt := 113) dX11_ask_105 (by decide) ?_
            refine jr_fgt 4 ?_
            exact hJ113 _ _ _ H
set_option maxRecDepth 100000 in
set_option maxHeartbeats 4000000 in
theorem c_X11_ask (l : Launch) (d : Nat) (F : Nat) (a0 : Nat) (h : jH) (rR : Int32) (hf : jH) (H : f_X11_ask F a0 h = some (rR, hf)) : jh_sh h a0 = (11, 0) ∧ jMet l (d + 2) yX11_ask cX11_ask 8 (some .int) [.ref a0] h (some (.int rR)) hf := by
  unfold f_X11_ask at H
  obtain ⟨hsh, H⟩ := j_gd_some H
  refine ⟨hsh, ?_⟩
  refine jMet.of false [some (.ref a0), none, none, none, none, none, none, none] rfl (by decide) (by decide) (Nat.le_of_ble_eq_true rfl) (fun S0 q hq => by simpa [j_l, lv_args, j_v, Value.category] using hq) ?_
  refine jr_aload_n dX11_ask_0 rfl rfl ?_
  refine jr_iconst (v := 0) dX11_ask_1 (by decide) ?_
  refine jr_putI fl_RX11_110 (fun z => by cases z) dX11_ask_2 H (fun h1 H => ?_)
  refine jr_aload_n dX11_ask_5 rfl rfl ?_
  refine jr_getI fl_RX11_120 (by decide) dX11_ask_6 H (fun v2 H => ?_)
  refine jr_if_ne (tgt := 15) dX11_ask_9 (by decide) H (fun H => ?_) (fun H => ?_)
  · refine jr_bipush (v := (-2)) dX11_ask_12 (by decide) ?_
    exact jr_iret rfl dX11_ask_14 H
  · refine jr_iconst (v := (-1)) dX11_ask_15 (by decide) ?_
    refine jr_istore_n dX11_ask_16 rfl (by decide) rfl (Or.inl rfl) ?_
    refine jr_ldcw cn_RX11_319 dX11_ask_17 ?_
    refine jr_istore_n dX11_ask_20 rfl (by decide) rfl (Or.inl rfl) ?_
    refine jr_iconst (v := 0) dX11_ask_21 (by decide) ?_
    refine jr_istore_n dX11_ask_22 rfl (by decide) rfl (Or.inl rfl) ?_
    refine s_X11_ask_L23 l d F a0 _ (fun y16 y17 h18 H => ?_) F (-1) 100000000 0 h1 H
    · refine jr_aload_n dX11_ask_119 rfl rfl ?_
      refine jr_iconst (v := 0) dX11_ask_120 (by decide) ?_
      refine jr_putI fl_RX11_113 (fun z => by cases z) dX11_ask_121 H (fun h19 H => ?_)
      refine jr_aload_n dX11_ask_124 rfl rfl ?_
      refine jr_iload_n dX11_ask_125 rfl rfl ?_
      refine jr_i2l dX11_ask_126 ?_
      obtain ⟨h20, Hc, H⟩ := Option.bind_eq_some_iff.mp H
      refine jr_callV (ci := 11) [.long (y17.toInt64)] my_X11_tell mv_X11_tell ml_RX11_274 dX11_ask_127 rfl rfl (Nat.le_of_ble_eq_true rfl) rfl (c_X11_tell l (d + 1) F a0 (y17.toInt64) h19 h20 Hc) ?_
      refine jr_iload_n dX11_ask_130 rfl rfl ?_
      exact jr_iret rfl dX11_ask_131 H
set_option maxRecDepth 100000 in
set_option maxHeartbeats 4000000 in
theorem c_X11_draw (l : Launch) (d : Nat) (F : Nat) (a0 : Nat) (a1 : Int32) (h : jH) (rR : Int32) (hf : jH) (H : f_X11_draw F a0 a1 h = some (rR, hf)) : jh_sh h a0 = (11, 0) ∧ jMet l (d + 0) yX11_draw cX11_draw 2 (some .int) [.ref a0, .int a1] h (some (.int rR)) hf := by
  unfold f_X11_draw at H
  obtain ⟨hsh, H⟩ := j_gd_some H
  refine ⟨hsh, ?_⟩
  refine jMet.of false [some (.ref a0), some (.int a1)] rfl (by decide) (by decide) (Nat.le_of_ble_eq_true rfl) (fun S0 q hq => by simpa [j_l, lv_args, j_v, Value.category] using hq) ?_
  refine jr_aload_n dX11_draw_0 rfl rfl ?_
  refine jr_aload_n dX11_draw_1 rfl rfl ?_
  refine jr_getI fl_RX11_404 (by decide) dX11_draw_2 H (fun v1 H => ?_)
  refine jr_ldcw cn_RX11_407 dX11_draw_5 ?_
  refine jr_imul dX11_draw_8 ?_
  refine jr_sipush (v := 12345) dX11_draw_9 (by decide) ?_
  refine jr_iadd dX11_draw_12 ?_
  refine jr_putI fl_RX11_404 (fun z => by cases z) dX11_draw_13 H (fun h2 H => ?_)
  refine jr_aload_n dX11_draw_16 rfl rfl ?_
  refine jr_getI fl_RX11_404 (by decide) dX11_draw_17 H (fun v3 H => ?_)
  refine jr_bipush (v := 16) dX11_draw_20 (by decide) ?_
  refine jr_iushr dX11_draw_22 ?_
  refine jr_iload_n dX11_draw_23 rfl rfl ?_
  refine jr_irem dX11_draw_24 H (fun v4 H => ?_)
  exact jr_iret rfl dX11_draw_25 H
set_option maxRecDepth 100000 in
set_option maxHeartbeats 4000000 in
theorem s_X11_years_L59 (l : Launch) (d : Nat) (F : Nat) (x0 : Nat) (x2 : Int32) (k227 : Int32 → Int32 → jH → Option (Int32 × jH)) {rR : Int32} {hf : jH} (hk227 : ∀ (y3 : Int32) (y4 : Int32) (h : jH), k227 y3 y4 h = some (rR, hf) → jGo l (d + 406) none RX11 cX11_years 11 (some .int) false 227 [some (.ref x0), none, none, some (.int y3), some (.int y4), none, none, none, none, none, none] [] h (some (.int rR)) hf) : ∀ (n : Nat) (x3 : Int32) (x4 : Int32) (x5 : Int32) (h : jH), f_X11_years_L59 F x0 x2 k227 n x3 x4 x5 h = some (rR, hf) → jGo l (d + 406) none RX11 cX11_years 11 (some .int) false 59 [some (.ref x0), none, some (.int x2), some (.int x3), some (.int x4), some (.int x5), none, none, none, none, none] [] h (some (.int rR)) hf := by
  intro n
  induction n with
  | zero =>
    intro x3 x4 x5 h H
    cases H
  | succ n ih =>
    intro x3 x4 x5 h H
    unfold f_X11_years_L59 at H
    refine jr_iload dX11_years_59 rfl ?_
    refine jr_iload_n dX11_years_61 rfl rfl ?_
    refine jr_icmp_ge (tgt := 227) dX11_years_62 (by decide) H (fun H => ?_) (fun H => ?_)
    · refine jr_fgt 2 ?_
      refine jr_fgt 5 ?_
      exact hk227 _ _ _ H
    · refine jr_aload_n dX11_years_65 rfl rfl ?_
      refine jr_aload_n dX11_years_66 rfl rfl ?_
      refine jr_getI fl_RX11_123 (by decide) dX11_years_67 H (fun v10 H => ?_)
      obtain ⟨v12, h11, Hc, H⟩ := j_b2_some H
      refine jr_callV (ci := 11) [.int v10] my_X11_draw mv_X11_draw ml_RX11_408 dX11_years_70 rfl rfl (Nat.le_of_ble_eq_true rfl) rfl (c_X11_draw l (d + 405) F x0 v10 h v12 h11 Hc) ?_
      refine jr_istore dX11_years_73 (by decide) rfl (Or.inl rfl) ?_
      refine jr_aload_n dX11_years_75 rfl rfl ?_
      refine jr_iconst (v := 4) dX11_years_76 (by decide) ?_
      obtain ⟨v14, h13, Hc, H⟩ := j_b2_some H
      refine jr_callV (ci := 11) [.int 4] my_X11_draw mv_X11_draw ml_RX11_408 dX11_years_77 rfl rfl (Nat.le_of_ble_eq_true rfl) rfl (c_X11_draw l (d + 405) F x0 4 h11 v14 h13 Hc) ?_
      refine jr_istore dX11_years_80 (by decide) rfl (Or.inl rfl) ?_
      refine jr_aload_n dX11_years_82 rfl rfl ?_
      refine jr_getR fl_RX11_97 dX11_years_83 H (fun v15 H => ?_)
      refine jr_bipush (v := 12) dX11_years_86 (by decide) ?_
      refine jr_iald dX11_years_88 H (fun v16 H => ?_)
      refine jr_istore dX11_years_89 (by decide) rfl (Or.inl rfl) ?_
      refine jr_iload dX11_years_91 rfl ?_
      refine jr_iconst (v := 2) dX11_years_93 (by decide) ?_
      refine jr_jn (fun J => ∀ (z17 : Int32) (z18 : Int32) (h19 : jH), J z17 z18 h19 = some (rR, hf) → jGo l (d + 406) none RX11 cX11_years 11 (some .int) false 195 [some (.ref x0), none, some (.int x2), some (.int z17), some (.int x4), some (.int x5), none, none, some (.int v16), some (.int z18), none] [] h19 (some (.int rR)) hf) H (fun z17 z18 h19 H => ?_) (fun J195 hJ195 H => ?_)
      · refine jr_iload dX11_years_195 rfl ?_
        refine jr_iload dX11_years_197 rfl ?_
        refine jr_jn (fun J => ∀ (s20 : Int32) (s21 : Int32) (h22 : jH), J s20 s21 h22 = some (rR, hf) → jGo l (d + 406) none RX11 cX11_years 11 (some .int) false 207 [some (.ref x0), none, some (.int x2), some (.int z17), none, some (.int x5), none, none, some (.int v16), none, none] [.int s20, .int s21] h22 (some (.int rR)) hf) H (fun s20 s21 h22 H => ?_) (fun J207 hJ207 H => ?_)
        · refine jr_iadd dX11_years_207 ?_
          refine jr_istore dX11_years_208 (by decide) rfl (Or.inl rfl) ?_
          refine jr_aload_n dX11_years_210 rfl rfl ?_
          refine jr_getR fl_RX11_97 dX11_years_211 H (fun v23 H => ?_)
          refine jr_bipush (v := 12) dX11_years_214 (by decide) ?_
          refine jr_iload dX11_years_216 rfl ?_
          refine jr_iconst (v := 1) dX11_years_218 (by decide) ?_
          refine jr_iadd dX11_years_219 ?_
          refine jr_iast dX11_years_220 H (fun h24 H => ?_)
          refine jr_iinc (v := (x5 + 1)) dX11_years_221 rfl rfl (by decide) rfl (Or.inl rfl) ?_
          refine jr_goto (tgt := 59) dX11_years_224 (by decide) ?_
          refine jr_fgt 8 ?_
          exact ih _ _ _ _ H
        · refine jr_if_eq (tgt := 206) dX11_years_199 (by decide) H (fun H => ?_) (fun H => ?_)
          · refine jr_iconst (v := 1) dX11_years_206 (by decide) ?_
            refine jr_fgt 4 ?_
            refine jr_fgt 9 ?_
            exact hJ207 _ _ _ H
          · refine jr_iconst (v := 0) dX11_years_202 (by decide) ?_
            refine jr_goto (tgt := 207) dX11_years_203 (by decide) ?_
            refine jr_fgt 4 ?_
            refine jr_fgt 9 ?_
            exact hJ207 _ _ _ H
      · refine jr_icmp_ge (tgt := 143) dX11_years_94 (by decide) H (fun H => ?_) (fun H => ?_)
        · refine jr_aload_n dX11_years_143 rfl rfl ?_
          refine jr_aload_n dX11_years_144 rfl rfl ?_
          refine jr_getI fl_RX11_120 (by decide) dX11_years_145 H (fun v25 H => ?_)
          obtain ⟨v27, h26, Hc, H⟩ := j_b2_some H
          refine jr_callV (ci := 11) [.int v25] my_X11_draw mv_X11_draw ml_RX11_408 dX11_years_148 rfl rfl (Nat.le_of_ble_eq_true rfl) rfl (c_X11_draw l (d + 405) F x0 v25 h13 v27 h26 Hc) ?_
          refine jr_istore dX11_years_151 (by decide) rfl (Or.inl rfl) ?_
          refine jr_aload_n dX11_years_153 rfl rfl ?_
          refine jr_aload_n dX11_years_154 rfl rfl ?_
          refine jr_getR fl_RX11_97 dX11_years_155 H (fun v28 H => ?_)
          refine jr_iload dX11_years_158 rfl ?_
          refine jr_iload dX11_years_160 rfl ?_
          obtain ⟨v30, h29, Hc, H⟩ := j_b2_some H
          refine jr_callV (ci := 11) [.ref v28, .int v12, .int v27] my_X11_refusesSay mv_X11_refusesSay ml_RX11_295 dX11_years_162 rfl rfl (Nat.le_of_ble_eq_true rfl) rfl (c_X11_refusesSay l d F x0 v28 v12 v27 h26 v30 h29 Hc) ?_
          refine jr_jn (fun J => ∀ (s31 : Int32) (h32 : jH), J s31 h32 = some (rR, hf) → jGo l (d + 406) none RX11 cX11_years 11 (some .int) false 173 [some (.ref x0), none, some (.int x2), some (.int x3), some (.int x4), some (.int x5), some (.int v12), none, some (.int v16), none, some (.int v27)] [.int s31] h32 (some (.int rR)) hf) H (fun s31 h32 H => ?_) (fun J173 hJ173 H => ?_)
          · refine jr_istore dX11_years_173 (by decide) rfl (Or.inl rfl) ?_
            refine jr_iload dX11_years_175 rfl ?_
            refine jr_if_eq (tgt := 195) dX11_years_177 (by decide) H (fun H => ?_) (fun H => ?_)
            · refine jr_fgt 6 ?_
              refine jr_fgt 10 ?_
              exact hJ195 _ _ _ H
            · refine jr_iload_n dX11_years_180 rfl rfl ?_
              refine jr_aload_n dX11_years_181 rfl rfl ?_
              refine jr_aload_n dX11_years_182 rfl rfl ?_
              refine jr_getR fl_RX11_97 dX11_years_183 H (fun v33 H => ?_)
              refine jr_iload dX11_years_186 rfl ?_
              refine jr_iload dX11_years_188 rfl ?_
              obtain ⟨v35, h34, Hc, H⟩ := j_b2_some H
              refine jr_callV (ci := 11) [.ref v33, .int v12, .int v27] my_X11_goSay mv_X11_goSay ml_RX11_298 dX11_years_190 rfl rfl (Nat.le_of_ble_eq_true rfl) rfl (c_X11_goSay l d F x0 v33 v12 v27 h32 v35 h34 Hc) ?_
              refine jr_iadd dX11_years_193 ?_
              refine jr_istore_n dX11_years_194 rfl (by decide) rfl (Or.inl rfl) ?_
              refine jr_fgt 6 ?_
              refine jr_fgt 10 ?_
              exact hJ195 _ _ _ H
          · refine jr_if_ne (tgt := 172) dX11_years_165 (by decide) H (fun H => ?_) (fun H => ?_)
            · refine jr_iconst (v := 1) dX11_years_168 (by decide) ?_
              refine jr_goto (tgt := 173) dX11_years_169 (by decide) ?_
              refine jr_fgt 7 ?_
              exact hJ173 _ _ H
            · refine jr_iconst (v := 0) dX11_years_172 (by decide) ?_
              refine jr_fgt 7 ?_
              exact hJ173 _ _ H
        · refine jr_aload_n dX11_years_97 rfl rfl ?_
          refine jr_aload_n dX11_years_98 rfl rfl ?_
          refine jr_getR fl_RX11_97 dX11_years_99 H (fun v36 H => ?_)
          refine jr_iload dX11_years_102 rfl ?_
          refine jr_iconst (v := 1) dX11_years_104 (by decide) ?_
          refine jr_iload dX11_years_105 rfl ?_
          refine jr_isub dX11_years_107 ?_
          obtain ⟨v38, h37, Hc, H⟩ := j_b2_some H
          refine jr_callV (ci := 11) [.ref v36, .int v12, .int ((1 : Int32) - v14)] my_X11_refusesWalk mv_X11_refusesWalk ml_RX11_278 dX11_years_108 rfl rfl (Nat.le_of_ble_eq_true rfl) rfl (c_X11_refusesWalk l (d + 403) F x0 v36 v12 ((1 : Int32) - v14) h13 v38 h37 Hc) ?_
          refine jr_jn (fun J => ∀ (s39 : Int32) (h40 : jH), J s39 h40 = some (rR, hf) → jGo l (d + 406) none RX11 cX11_years 11 (some .int) false 119 [some (.ref x0), none, some (.int x2), some (.int x3), some (.int x4), some (.int x5), some (.int v12), some (.int v14), some (.int v16), none, none] [.int s39] h40 (some (.int rR)) hf) H (fun s39 h40 H => ?_) (fun J119 hJ119 H => ?_)
          · refine jr_istore dX11_years_119 (by decide) rfl (Or.inl rfl) ?_
            refine jr_iload dX11_years_121 rfl ?_
            refine jr_if_eq (tgt := 195) dX11_years_123 (by decide) H (fun H => ?_) (fun H => ?_)
            · refine jr_fgt 6 ?_
              refine jr_fgt 7 ?_
              exact hJ195 _ _ _ H
            · refine jr_aload_n dX11_years_126 rfl rfl ?_
              refine jr_getR fl_RX11_97 dX11_years_127 H (fun v41 H => ?_)
              refine jr_iload dX11_years_130 rfl ?_
              refine jr_iconst (v := 1) dX11_years_132 (by decide) ?_
              refine jr_iload dX11_years_133 rfl ?_
              refine jr_isub dX11_years_135 ?_
              obtain ⟨v43, h42, Hc, H⟩ := j_b2_some H
              refine jr_callS [.ref v41, .int v12, .int ((1 : Int32) - v14)] my_X11_goWalk ms_X11_goWalk ml_RX11_286 dX11_years_136 rfl rfl (Nat.le_of_ble_eq_true rfl) (c_X11_goWalk l (d + 405) F v41 v12 ((1 : Int32) - v14) h40 v43 h42 Hc) ?_
              refine jr_pop dX11_years_139 rfl ?_
              refine jr_goto (tgt := 195) dX11_years_140 (by decide) ?_
              refine jr_fgt 6 ?_
              refine jr_fgt 7 ?_
              exact hJ195 _ _ _ H
          · refine jr_if_ne (tgt := 118) dX11_years_111 (by decide) H (fun H => ?_) (fun H => ?_)
            · refine jr_iconst (v := 1) dX11_years_114 (by decide) ?_
              refine jr_goto (tgt := 119) dX11_years_115 (by decide) ?_
              exact hJ119 _ _ H
            · refine jr_iconst (v := 0) dX11_years_118 (by decide) ?_
              exact hJ119 _ _ H
set_option maxRecDepth 100000 in
set_option maxHeartbeats 4000000 in
theorem c_X11_years (l : Launch) (d : Nat) (F : Nat) (a0 : Nat) (a1 : Int32) (a2 : Int32) (h : jH) (rR : Int32) (hf : jH) (H : f_X11_years F a0 a1 a2 h = some (rR, hf)) : jh_sh h a0 = (11, 0) ∧ jMet l (d + 406) yX11_years cX11_years 11 (some .int) [.ref a0, .int a1, .int a2] h (some (.int rR)) hf := by
  unfold f_X11_years at H
  obtain ⟨hsh, H⟩ := j_gd_some H
  refine ⟨hsh, ?_⟩
  refine jMet.of false [some (.ref a0), some (.int a1), some (.int a2), none, none, none, none, none, none, none, none] rfl (by decide) (by decide) (Nat.le_of_ble_eq_true rfl) (fun S0 q hq => by simpa [j_l, lv_args, j_v, Value.category] using hq) ?_
  refine jr_aload_n dX11_years_0 rfl rfl ?_
  refine jr_iconst (v := 0) dX11_years_1 (by decide) ?_
  refine jr_putI fl_RX11_110 (fun z => by cases z) dX11_years_2 H (fun h1 H => ?_)
  refine jr_aload_n dX11_years_5 rfl rfl ?_
  refine jr_getI fl_RX11_123 (by decide) dX11_years_6 H (fun v2 H => ?_)
  refine jr_if_eq (tgt := 19) dX11_years_9 (by decide) H (fun H => ?_) (fun H => ?_)
  · refine jr_bipush (v := (-2)) dX11_years_19 (by decide) ?_
    exact jr_iret rfl dX11_years_21 H
  · refine jr_aload_n dX11_years_12 rfl rfl ?_
    refine jr_getI fl_RX11_120 (by decide) dX11_years_13 H (fun v3 H => ?_)
    refine jr_if_ne (tgt := 22) dX11_years_16 (by decide) H (fun H => ?_) (fun H => ?_)
    · refine jr_bipush (v := (-2)) dX11_years_19 (by decide) ?_
      exact jr_iret rfl dX11_years_21 H
    · refine jr_iload_n dX11_years_22 rfl rfl ?_
      refine jr_iconst (v := 1) dX11_years_23 (by decide) ?_
      refine jr_bipush (v := 60) dX11_years_24 (by decide) ?_
      obtain ⟨v5, h4, Hc, H⟩ := j_b2_some H
      refine jr_callS [.int a2, .int 1, .int 60] my_X11_in ms_X11_in ml_RX11_116 dX11_years_26 rfl rfl (Nat.le_of_ble_eq_true rfl) (c_X11_in l (d + 405) F a2 1 60 h1 v5 h4 Hc) ?_
      refine jr_if_ne (tgt := 34) dX11_years_29 (by decide) H (fun H => ?_) (fun H => ?_)
      · refine jr_iconst (v := (-1)) dX11_years_32 (by decide) ?_
        exact jr_iret rfl dX11_years_33 H
      · refine jr_aload_n dX11_years_34 rfl rfl ?_
        refine jr_iload_n dX11_years_35 rfl rfl ?_
        refine jr_putI fl_RX11_404 (fun z => by cases z) dX11_years_36 H (fun h6 H => ?_)
        refine jr_iconst (v := 0) dX11_years_39 (by decide) ?_
        refine jr_istore_n dX11_years_40 rfl (by decide) rfl (Or.inl rfl) ?_
        refine jr_iconst (v := 0) dX11_years_41 (by decide) ?_
        refine jr_istore dX11_years_42 (by decide) rfl (Or.inl rfl) ?_
        refine jr_aload_n dX11_years_44 rfl rfl ?_
        refine jr_getR fl_RX11_9 dX11_years_45 H (fun v7 H => ?_)
        refine jr_aload_n dX11_years_48 rfl rfl ?_
        refine jr_getR fl_RX11_97 dX11_years_49 H (fun v8 H => ?_)
        refine jr_iconst (v := 0) dX11_years_52 (by decide) ?_
        obtain ⟨h9, Hc, H⟩ := Option.bind_eq_some_iff.mp H
        refine jr_callS [.ref v7, .ref v8, .int 0] my_X11_lay ms_X11_lay ml_RX11_267 dX11_years_53 rfl rfl (Nat.le_of_ble_eq_true rfl) (c_X11_lay l (d + 405) F v7 v8 0 h6 h9 Hc) ?_
        refine jr_iconst (v := 0) dX11_years_56 (by decide) ?_
        refine jr_istore dX11_years_57 (by decide) rfl (Or.inl rfl) ?_
        refine jr_fgt 1 ?_
        refine s_X11_years_L59 l d F a0 a2 _ (fun y44 y45 h46 H => ?_) F 0 0 0 h9 H
        · refine jr_aload_n dX11_years_227 rfl rfl ?_
          refine jr_iconst (v := 0) dX11_years_228 (by decide) ?_
          refine jr_putI fl_RX11_113 (fun z => by cases z) dX11_years_229 H (fun h47 H => ?_)
          refine jr_aload_n dX11_years_232 rfl rfl ?_
          refine jr_iload_n dX11_years_233 rfl rfl ?_
          refine jr_i2l dX11_years_234 ?_
          obtain ⟨h48, Hc, H⟩ := Option.bind_eq_some_iff.mp H
          refine jr_callV (ci := 11) [.long (y44.toInt64)] my_X11_tell mv_X11_tell ml_RX11_274 dX11_years_235 rfl rfl (Nat.le_of_ble_eq_true rfl) rfl (c_X11_tell l (d + 405) F a0 (y44.toInt64) h47 h48 Hc) ?_
          refine jr_aload_n dX11_years_238 rfl rfl ?_
          refine jr_iload dX11_years_239 rfl ?_
          refine jr_i2l dX11_years_241 ?_
          obtain ⟨h49, Hc, H⟩ := Option.bind_eq_some_iff.mp H
          refine jr_callV (ci := 11) [.long (y45.toInt64)] my_X11_tell mv_X11_tell ml_RX11_274 dX11_years_242 rfl rfl (Nat.le_of_ble_eq_true rfl) rfl (c_X11_tell l (d + 405) F a0 (y45.toInt64) h48 h49 Hc) ?_
          refine jr_aload_n dX11_years_245 rfl rfl ?_
          refine jr_getR fl_RX11_97 dX11_years_246 H (fun v50 H => ?_)
          refine jr_bipush (v := 13) dX11_years_249 (by decide) ?_
          refine jr_iald dX11_years_251 H (fun v51 H => ?_)
          obtain ⟨v53, h52, Hc, H⟩ := j_b2_some H
          refine jr_callS [.int v51] my_J6_bitCount_0f7a4 ms_J6_bitCount_0f7a4 ml_RX11_347 dX11_years_252 rfl rfl (Nat.le_of_ble_eq_true rfl) (c_J6_bitCount_0f7a4 l (d + 405) F v51 h49 v53 h52 Hc) ?_
          refine jr_aload_n dX11_years_255 rfl rfl ?_
          refine jr_getR fl_RX11_9 dX11_years_256 H (fun v54 H => ?_)
          refine jr_bipush (v := 13) dX11_years_259 (by decide) ?_
          refine jr_iald dX11_years_261 H (fun v55 H => ?_)
          obtain ⟨v57, h56, Hc, H⟩ := j_b2_some H
          refine jr_callS [.int v55] my_J6_bitCount_0f7a4 ms_J6_bitCount_0f7a4 ml_RX11_347 dX11_years_262 rfl rfl (Nat.le_of_ble_eq_true rfl) (c_J6_bitCount_0f7a4 l (d + 405) F v55 h52 v57 h56 Hc) ?_
          refine jr_isub dX11_years_265 ?_
          exact jr_iret rfl dX11_years_266 H
set_option maxRecDepth 100000 in
set_option maxHeartbeats 4000000 in
theorem c_X11_keep (l : Launch) (d : Nat) (F : Nat) (a0 : Nat) (a1 : Int32) (h : jH) (rR : Int32) (hf : jH) (H : f_X11_keep F a0 a1 h = some (rR, hf)) : jh_sh h a0 = (11, 0) ∧ jMet l (d + 1) yX11_keep cX11_keep 2 (some .boolean) [.ref a0, .int a1] h (some (.int rR)) hf := by
  unfold f_X11_keep at H
  obtain ⟨hsh, H⟩ := j_gd_some H
  refine ⟨hsh, ?_⟩
  refine jMet.of false [some (.ref a0), some (.int a1)] rfl (by decide) (by decide) (Nat.le_of_ble_eq_true rfl) (fun S0 q hq => by simpa [j_l, lv_args, j_v, Value.category] using hq) ?_
  refine jr_aload_n dX11_keep_0 rfl rfl ?_
  refine jr_iconst (v := 0) dX11_keep_1 (by decide) ?_
  refine jr_putI fl_RX11_110 (fun z => by cases z) dX11_keep_2 H (fun h1 H => ?_)
  refine jr_iload_n dX11_keep_5 rfl rfl ?_
  refine jr_iconst (v := 0) dX11_keep_6 (by decide) ?_
  refine jr_iconst (v := 1) dX11_keep_7 (by decide) ?_
  obtain ⟨v3, h2, Hc, H⟩ := j_b2_some H
  refine jr_callS [.int a1, .int 0, .int 1] my_X11_in ms_X11_in ml_RX11_116 dX11_keep_8 rfl rfl (Nat.le_of_ble_eq_true rfl) (c_X11_in l d F a1 0 1 h1 v3 h2 Hc) ?_
  refine jr_if_ne (tgt := 16) dX11_keep_11 (by decide) H (fun H => ?_) (fun H => ?_)
  · refine jr_iconst (v := 0) dX11_keep_14 (by decide) ?_
    exact jr_zret rfl rfl dX11_keep_15 H
  · refine jr_aload_n dX11_keep_16 rfl rfl ?_
    refine jr_getR fl_RX11_103 dX11_keep_17 H (fun v4 H => ?_)
    refine jr_iload_n dX11_keep_20 rfl rfl ?_
    refine jr_iconst (v := 1) dX11_keep_21 (by decide) ?_
    refine jr_zast rfl dX11_keep_22 H (fun h5 H => ?_)
    refine jr_aload_n dX11_keep_23 rfl rfl ?_
    refine jr_getR fl_RX11_107 dX11_keep_24 H (fun v6 H => ?_)
    refine jr_iload_n dX11_keep_27 rfl rfl ?_
    refine jr_aload_n dX11_keep_28 rfl rfl ?_
    refine jr_getI fl_RX11_174 (by decide) dX11_keep_29 H (fun v7 H => ?_)
    refine jr_iast dX11_keep_32 H (fun h8 H => ?_)
    refine jr_aload_n dX11_keep_33 rfl rfl ?_
    refine jr_getR fl_RX11_9 dX11_keep_34 H (fun v9 H => ?_)
    refine jr_aload_n dX11_keep_37 rfl rfl ?_
    refine jr_getR fl_RX11_100 dX11_keep_38 H (fun v10 H => ?_)
    refine jr_bipush (v := 44) dX11_keep_41 (by decide) ?_
    refine jr_iload_n dX11_keep_43 rfl rfl ?_
    refine jr_imul dX11_keep_44 ?_
    obtain ⟨h11, Hc, H⟩ := Option.bind_eq_some_iff.mp H
    refine jr_callS [.ref v9, .ref v10, .int ((44 : Int32) * a1)] my_X11_lay ms_X11_lay ml_RX11_267 dX11_keep_45 rfl rfl (Nat.le_of_ble_eq_true rfl) (c_X11_lay l d F v9 v10 ((44 : Int32) * a1) h8 h11 Hc) ?_
    refine jr_iconst (v := 1) dX11_keep_48 (by decide) ?_
    exact jr_zret rfl rfl dX11_keep_49 H
set_option maxRecDepth 100000 in
set_option maxHeartbeats 4000000 in
theorem s_X11_again_L40 (l : Launch) (d : Nat) (F : Nat) (x0 : Nat) (x1 : Int32) (k69 : jH → Option (Int32 × jH)) {rR : Int32} {hf : jH} (hk69 : ∀ (h : jH), k69 h = some (rR, hf) → jGo l (d + 1) none RX11 cX11_again 3 (some .boolean) false 69 [some (.ref x0), none, none] [] h (some (.int rR)) hf) : ∀ (n : Nat) (x2 : Int32) (h : jH), f_X11_again_L40 F x0 x1 k69 n x2 h = some (rR, hf) → jGo l (d + 1) none RX11 cX11_again 3 (some .boolean) false 40 [some (.ref x0), some (.int x1), some (.int x2)] [] h (some (.int rR)) hf := by
  intro n
  induction n with
  | zero =>
    intro x2 h H
    cases H
  | succ n ih =>
    intro x2 h H
    unfold f_X11_again_L40 at H
    refine jr_iload_n dX11_again_40 rfl rfl ?_
    refine jr_bipush (v := 44) dX11_again_41 (by decide) ?_
    refine jr_icmp_ge (tgt := 69) dX11_again_43 (by decide) H (fun H => ?_) (fun H => ?_)
    · refine jr_fgt 1 ?_
      refine jr_fgt 2 ?_
      exact hk69 _ H
    · refine jr_aload_n dX11_again_46 rfl rfl ?_
      refine jr_getR fl_RX11_9 dX11_again_47 H (fun v9 H => ?_)
      refine jr_iload_n dX11_again_50 rfl rfl ?_
      refine jr_aload_n dX11_again_51 rfl rfl ?_
      refine jr_getR fl_RX11_100 dX11_again_52 H (fun v10 H => ?_)
      refine jr_bipush (v := 44) dX11_again_55 (by decide) ?_
      refine jr_iload_n dX11_again_57 rfl rfl ?_
      refine jr_imul dX11_again_58 ?_
      refine jr_iload_n dX11_again_59 rfl rfl ?_
      refine jr_iadd dX11_again_60 ?_
      refine jr_iald dX11_again_61 H (fun v11 H => ?_)
      refine jr_iast dX11_again_62 H (fun h12 H => ?_)
      refine jr_iinc (v := (x2 + 1)) dX11_again_63 rfl rfl (by decide) rfl (Or.inl rfl) ?_
      refine jr_goto (tgt := 40) dX11_again_66 (by decide) ?_
      exact ih _ _ H
set_option maxRecDepth 100000 in
set_option maxHeartbeats 4000000 in
theorem c_X11_again (l : Launch) (d : Nat) (F : Nat) (a0 : Nat) (a1 : Int32) (h : jH) (rR : Int32) (hf : jH) (H : f_X11_again F a0 a1 h = some (rR, hf)) : jh_sh h a0 = (11, 0) ∧ jMet l (d + 1) yX11_again cX11_again 3 (some .boolean) [.ref a0, .int a1] h (some (.int rR)) hf := by
  unfold f_X11_again at H
  obtain ⟨hsh, H⟩ := j_gd_some H
  refine ⟨hsh, ?_⟩
  refine jMet.of false [some (.ref a0), some (.int a1), none] rfl (by decide) (by decide) (Nat.le_of_ble_eq_true rfl) (fun S0 q hq => by simpa [j_l, lv_args, j_v, Value.category] using hq) ?_
  refine jr_aload_n dX11_again_0 rfl rfl ?_
  refine jr_iconst (v := 0) dX11_again_1 (by decide) ?_
  refine jr_putI fl_RX11_110 (fun z => by cases z) dX11_again_2 H (fun h1 H => ?_)
  refine jr_iload_n dX11_again_5 rfl rfl ?_
  refine jr_iconst (v := 0) dX11_again_6 (by decide) ?_
  refine jr_iconst (v := 1) dX11_again_7 (by decide) ?_
  obtain ⟨v3, h2, Hc, H⟩ := j_b2_some H
  refine jr_callS [.int a1, .int 0, .int 1] my_X11_in ms_X11_in ml_RX11_116 dX11_again_8 rfl rfl (Nat.le_of_ble_eq_true rfl) (c_X11_in l d F a1 0 1 h1 v3 h2 Hc) ?_
  refine jr_if_eq (tgt := 36) dX11_again_11 (by decide) H (fun H => ?_) (fun H => ?_)
  · refine jr_iconst (v := 0) dX11_again_36 (by decide) ?_
    exact jr_zret rfl rfl dX11_again_37 H
  · refine jr_aload_n dX11_again_14 rfl rfl ?_
    refine jr_getR fl_RX11_103 dX11_again_15 H (fun v4 H => ?_)
    refine jr_iload_n dX11_again_18 rfl rfl ?_
    refine jr_zald dX11_again_19 H (fun v5 H => ?_)
    refine jr_if_eq (tgt := 36) dX11_again_20 (by decide) H (fun H => ?_) (fun H => ?_)
    · refine jr_iconst (v := 0) dX11_again_36 (by decide) ?_
      exact jr_zret rfl rfl dX11_again_37 H
    · refine jr_aload_n dX11_again_23 rfl rfl ?_
      refine jr_getR fl_RX11_107 dX11_again_24 H (fun v6 H => ?_)
      refine jr_iload_n dX11_again_27 rfl rfl ?_
      refine jr_iald dX11_again_28 H (fun v7 H => ?_)
      refine jr_aload_n dX11_again_29 rfl rfl ?_
      refine jr_getI fl_RX11_174 (by decide) dX11_again_30 H (fun v8 H => ?_)
      refine jr_icmp_eq (tgt := 38) dX11_again_33 (by decide) H (fun H => ?_) (fun H => ?_)
      · refine jr_iconst (v := 0) dX11_again_38 (by decide) ?_
        refine jr_istore_n dX11_again_39 rfl (by decide) rfl (Or.inl rfl) ?_
        refine s_X11_again_L40 l d F a0 a1 _ (fun h13 H => ?_) F 0 h2 H
        · refine jr_aload_n dX11_again_69 rfl rfl ?_
          refine jr_iconst (v := 0) dX11_again_70 (by decide) ?_
          refine jr_putI fl_RX11_171 (fun z => by cases z) dX11_again_71 H (fun h14 H => ?_)
          refine jr_iconst (v := 1) dX11_again_74 (by decide) ?_
          exact jr_zret rfl rfl dX11_again_75 H
      · refine jr_iconst (v := 0) dX11_again_36 (by decide) ?_
        exact jr_zret rfl rfl dX11_again_37 H
set_option maxRecDepth 100000 in
set_option maxHeartbeats 4000000 in
theorem s_X11_sumOf_L5 (l : Launch) (d : Nat) (F : Nat) (x0 : Nat) (x1 : Int32) (x2 : Int32) {rR : Int32} {hf : jH} : ∀ (n : Nat) (x3 : Int32) (x4 : Int32) (h : jH), f_X11_sumOf_L5 F x0 x1 x2 n x3 x4 h = some (rR, hf) → jGo l (d + 0) none RX11 cX11_sumOf 5 (some .int) false 5 [some (.ref x0), some (.int x1), some (.int x2), some (.int x3), some (.int x4)] [] h (some (.int rR)) hf := by
  intro n
  induction n with
  | zero =>
    intro x3 x4 h H
    cases H
  | succ n ih =>
    intro x3 x4 h H
    unfold f_X11_sumOf_L5 at H
    refine jr_iload dX11_sumOf_5 rfl ?_
    refine jr_iload_n dX11_sumOf_7 rfl rfl ?_
    refine jr_icmp_ge (tgt := 29) dX11_sumOf_8 (by decide) H (fun H => ?_) (fun H => ?_)
    · refine jr_iload_n dX11_sumOf_29 rfl rfl ?_
      exact jr_iret rfl dX11_sumOf_30 H
    · refine jr_iload_n dX11_sumOf_11 rfl rfl ?_
      refine jr_aload_n dX11_sumOf_12 rfl rfl ?_
      refine jr_getR fl_RX11_9 dX11_sumOf_13 H (fun v1 H => ?_)
      refine jr_iload_n dX11_sumOf_16 rfl rfl ?_
      refine jr_iload dX11_sumOf_17 rfl ?_
      refine jr_iadd dX11_sumOf_19 ?_
      refine jr_iald dX11_sumOf_20 H (fun v2 H => ?_)
      refine jr_iadd dX11_sumOf_21 ?_
      refine jr_istore_n dX11_sumOf_22 rfl (by decide) rfl (Or.inl rfl) ?_
      refine jr_iinc (v := (x4 + 1)) dX11_sumOf_23 rfl rfl (by decide) rfl (Or.inl rfl) ?_
      refine jr_goto (tgt := 5) dX11_sumOf_26 (by decide) ?_
      exact ih _ _ _ H
set_option maxRecDepth 100000 in
set_option maxHeartbeats 4000000 in
theorem c_X11_sumOf (l : Launch) (d : Nat) (F : Nat) (a0 : Nat) (a1 : Int32) (a2 : Int32) (h : jH) (rR : Int32) (hf : jH) (H : f_X11_sumOf F a0 a1 a2 h = some (rR, hf)) : jh_sh h a0 = (11, 0) ∧ jMet l (d + 0) yX11_sumOf cX11_sumOf 5 (some .int) [.ref a0, .int a1, .int a2] h (some (.int rR)) hf := by
  unfold f_X11_sumOf at H
  obtain ⟨hsh, H⟩ := j_gd_some H
  refine ⟨hsh, ?_⟩
  refine jMet.of false [some (.ref a0), some (.int a1), some (.int a2), none, none] rfl (by decide) (by decide) (Nat.le_of_ble_eq_true rfl) (fun S0 q hq => by simpa [j_l, lv_args, j_v, Value.category] using hq) ?_
  refine jr_iconst (v := 0) dX11_sumOf_0 (by decide) ?_
  refine jr_istore_n dX11_sumOf_1 rfl (by decide) rfl (Or.inl rfl) ?_
  refine jr_iconst (v := 0) dX11_sumOf_2 (by decide) ?_
  refine jr_istore dX11_sumOf_3 (by decide) rfl (Or.inl rfl) ?_
  exact s_X11_sumOf_L5 l d F a0 a1 a2 F 0 0 h H
set_option maxRecDepth 100000 in
set_option maxHeartbeats 4000000 in
theorem s_X11_count_L129 (l : Launch) (d : Nat) (F : Nat) (x0 : Nat) {rR : Int32} {hf : jH} : ∀ (n : Nat) (x2 : Int32) (x3 : Int32) (h : jH), f_X11_count_L129 F x0 n x2 x3 h = some (rR, hf) → jGo l (d + 1) none RX11 cX11_count 4 (some .int) false 129 [some (.ref x0), none, some (.int x2), some (.int x3)] [] h (some (.int rR)) hf := by
  intro n
  induction n with
  | zero =>
    intro x2 x3 h H
    cases H
  | succ n ih =>
    intro x2 x3 h H
    unfold f_X11_count_L129 at H
    refine jr_iload_n dX11_count_129 rfl rfl ?_
    refine jr_aload_n dX11_count_130 rfl rfl ?_
    refine jr_getI fl_RX11_120 (by decide) dX11_count_131 H (fun v15 H => ?_)
    refine jr_icmp_ge (tgt := 167) dX11_count_134 (by decide) H (fun H => ?_) (fun H => ?_)
    · refine jr_iload_n dX11_count_167 rfl rfl ?_
      exact jr_iret rfl dX11_count_168 H
    · refine jr_iload_n dX11_count_137 rfl rfl ?_
      refine jr_aload_n dX11_count_138 rfl rfl ?_
      refine jr_getR fl_RX11_24 dX11_count_139 H (fun v16 H => ?_)
      refine jr_iconst (v := 2) dX11_count_142 (by decide) ?_
      refine jr_iload_n dX11_count_143 rfl rfl ?_
      refine jr_imul dX11_count_144 ?_
      refine jr_iconst (v := 1) dX11_count_145 (by decide) ?_
      refine jr_iadd dX11_count_146 ?_
      refine jr_iald dX11_count_147 H (fun v17 H => ?_)
      refine jr_iconst (v := (-1)) dX11_count_148 (by decide) ?_
      refine jr_jn (fun J => ∀ (s18 : Int32) (s19 : Int32) (h20 : jH), J s18 s19 h20 = some (rR, hf) → jGo l (d + 1) none RX11 cX11_count 4 (some .int) false 159 [some (.ref x0), none, none, some (.int x3)] [.int s18, .int s19] h20 (some (.int rR)) hf) H (fun s18 s19 h20 H => ?_) (fun J159 hJ159 H => ?_)
      · refine jr_ior dX11_count_159 ?_
        refine jr_istore_n dX11_count_160 rfl (by decide) rfl (Or.inl rfl) ?_
        refine jr_iinc (v := (x3 + 1)) dX11_count_161 rfl rfl (by decide) rfl (Or.inl rfl) ?_
        refine jr_goto (tgt := 129) dX11_count_164 (by decide) ?_
        exact ih _ _ _ H
      · refine jr_icmp_ne (tgt := 156) dX11_count_149 (by decide) H (fun H => ?_) (fun H => ?_)
        · refine jr_iconst (v := 0) dX11_count_152 (by decide) ?_
          refine jr_goto (tgt := 159) dX11_count_153 (by decide) ?_
          refine jr_fgt 2 ?_
          exact hJ159 _ _ _ H
        · refine jr_iconst (v := 1) dX11_count_156 (by decide) ?_
          refine jr_iload_n dX11_count_157 rfl rfl ?_
          refine jr_ishl dX11_count_158 ?_
          refine jr_fgt 2 ?_
          exact hJ159 _ _ _ H
set_option maxRecDepth 100000 in
set_option maxHeartbeats 4000000 in
theorem c_X11_count (l : Launch) (d : Nat) (F : Nat) (a0 : Nat) (a1 : Int32) (h : jH) (rR : Int32) (hf : jH) (H : f_X11_count F a0 a1 h = some (rR, hf)) : jh_sh h a0 = (11, 0) ∧ jMet l (d + 1) yX11_count cX11_count 4 (some .int) [.ref a0, .int a1] h (some (.int rR)) hf := by
  unfold f_X11_count at H
  obtain ⟨hsh, H⟩ := j_gd_some H
  refine ⟨hsh, ?_⟩
  refine jMet.of false [some (.ref a0), some (.int a1), none, none] rfl (by decide) (by decide) (Nat.le_of_ble_eq_true rfl) (fun S0 q hq => by simpa [j_l, lv_args, j_v, Value.category] using hq) ?_
  refine jr_aload_n dX11_count_0 rfl rfl ?_
  refine jr_iconst (v := 0) dX11_count_1 (by decide) ?_
  refine jr_putI fl_RX11_110 (fun z => by cases z) dX11_count_2 H (fun h1 H => ?_)
  refine jr_iconst (v := 0) dX11_count_5 (by decide) ?_
  refine jr_istore_n dX11_count_6 rfl (by decide) rfl (Or.inl rfl) ?_
  refine jr_iload_n dX11_count_7 rfl rfl ?_
  by_cases q0 : a1 = 0
  · rw [if_pos q0] at H
    refine jr_table (tgt := 72) dX11_count_8 (64) (by rw [q0]; decide) (by decide) (by decide) (by decide) ?_
    refine jr_aload_n dX11_count_72 rfl rfl ?_
    refine jr_getI fl_RX11_13 (by decide) dX11_count_73 H (fun v2 H => ?_)
    exact jr_iret rfl dX11_count_76 H
  rw [if_neg q0] at H
  by_cases q1 : a1 = 1
  · rw [if_pos q1] at H
    refine jr_table (tgt := 77) dX11_count_8 (69) (by rw [q1]; decide) (by decide) (by decide) (by decide) ?_
    refine jr_aload_n dX11_count_77 rfl rfl ?_
    refine jr_getI fl_RX11_120 (by decide) dX11_count_78 H (fun v3 H => ?_)
    exact jr_iret rfl dX11_count_81 H
  rw [if_neg q1] at H
  by_cases q2 : a1 = 2
  · rw [if_pos q2] at H
    refine jr_table (tgt := 82) dX11_count_8 (74) (by rw [q2]; decide) (by decide) (by decide) (by decide) ?_
    refine jr_aload_n dX11_count_82 rfl rfl ?_
    refine jr_getI fl_RX11_123 (by decide) dX11_count_83 H (fun v4 H => ?_)
    exact jr_iret rfl dX11_count_86 H
  rw [if_neg q2] at H
  by_cases q3 : a1 = 3
  · rw [if_pos q3] at H
    refine jr_table (tgt := 87) dX11_count_8 (79) (by rw [q3]; decide) (by decide) (by decide) (by decide) ?_
    refine jr_aload_n dX11_count_87 rfl rfl ?_
    refine jr_getI fl_RX11_168 (by decide) dX11_count_88 H (fun v5 H => ?_)
    exact jr_iret rfl dX11_count_91 H
  rw [if_neg q3] at H
  by_cases q4 : a1 = 4
  · rw [if_pos q4] at H
    refine jr_table (tgt := 92) dX11_count_8 (84) (by rw [q4]; decide) (by decide) (by decide) (by decide) ?_
    refine jr_aload_n dX11_count_92 rfl rfl ?_
    refine jr_getR fl_RX11_9 dX11_count_93 H (fun v6 H => ?_)
    refine jr_bipush (v := 12) dX11_count_96 (by decide) ?_
    refine jr_iald dX11_count_98 H (fun v7 H => ?_)
    exact jr_iret rfl dX11_count_99 H
  rw [if_neg q4] at H
  by_cases q5 : a1 = 5
  · rw [if_pos q5] at H
    refine jr_table (tgt := 100) dX11_count_8 (92) (by rw [q5]; decide) (by decide) (by decide) (by decide) ?_
    refine jr_aload_n dX11_count_100 rfl rfl ?_
    refine jr_getR fl_RX11_9 dX11_count_101 H (fun v8 H => ?_)
    refine jr_bipush (v := 13) dX11_count_104 (by decide) ?_
    refine jr_iald dX11_count_106 H (fun v9 H => ?_)
    exact jr_iret rfl dX11_count_107 H
  rw [if_neg q5] at H
  by_cases q6 : a1 = 6
  · rw [if_pos q6] at H
    refine jr_table (tgt := 108) dX11_count_8 (100) (by rw [q6]; decide) (by decide) (by decide) (by decide) ?_
    refine jr_aload_n dX11_count_108 rfl rfl ?_
    refine jr_bipush (v := 14) dX11_count_109 (by decide) ?_
    refine jr_bipush (v := 30) dX11_count_111 (by decide) ?_
    obtain ⟨v11, h10, Hc, H⟩ := j_b2_some H
    refine jr_callV (ci := 11) [.int 14, .int 30] my_X11_sumOf mv_X11_sumOf ml_RX11_411 dX11_count_113 rfl rfl (Nat.le_of_ble_eq_true rfl) rfl (c_X11_sumOf l d F a0 14 30 h1 v11 h10 Hc) ?_
    exact jr_iret rfl dX11_count_116 H
  rw [if_neg q6] at H
  by_cases q7 : a1 = 7
  · rw [if_pos q7] at H
    refine jr_table (tgt := 117) dX11_count_8 (109) (by rw [q7]; decide) (by decide) (by decide) (by decide) ?_
    refine jr_aload_n dX11_count_117 rfl rfl ?_
    refine jr_iconst (v := 4) dX11_count_118 (by decide) ?_
    refine jr_aload_n dX11_count_119 rfl rfl ?_
    refine jr_getI fl_RX11_123 (by decide) dX11_count_120 H (fun v12 H => ?_)
    obtain ⟨v14, h13, Hc, H⟩ := j_b2_some H
    refine jr_callV (ci := 11) [.int 4, .int v12] my_X11_sumOf mv_X11_sumOf ml_RX11_411 dX11_count_123 rfl rfl (Nat.le_of_ble_eq_true rfl) rfl (c_X11_sumOf l d F a0 4 v12 h1 v14 h13 Hc) ?_
    exact jr_iret rfl dX11_count_126 H
  rw [if_neg q7] at H
  by_cases q8 : a1 = 8
  · rw [if_pos q8] at H
    refine jr_table (tgt := 127) dX11_count_8 (119) (by rw [q8]; decide) (by decide) (by decide) (by decide) ?_
    refine jr_iconst (v := 0) dX11_count_127 (by decide) ?_
    refine jr_istore_n dX11_count_128 rfl (by decide) rfl (Or.inl rfl) ?_
    refine jr_fgt 1 ?_
    exact s_X11_count_L129 l d F a0 F 0 0 h1 H
  rw [if_neg q8] at H
  by_cases q9 : a1 = 9
  · rw [if_pos q9] at H
    refine jr_table (tgt := 169) dX11_count_8 (161) (by rw [q9]; decide) (by decide) (by decide) (by decide) ?_
    refine jr_aload_n dX11_count_169 rfl rfl ?_
    refine jr_getI fl_RX11_171 (by decide) dX11_count_170 H (fun v21 H => ?_)
    exact jr_iret rfl dX11_count_173 H
  rw [if_neg q9] at H
  by_cases q10 : a1 = 10
  · rw [if_pos q10] at H
    refine jr_table (tgt := 174) dX11_count_8 (166) (by rw [q10]; decide) (by decide) (by decide) (by decide) ?_
    refine jr_aload_n dX11_count_174 rfl rfl ?_
    refine jr_getI fl_RX11_113 (by decide) dX11_count_175 H (fun v22 H => ?_)
    exact jr_iret rfl dX11_count_178 H
  rw [if_neg q10] at H
  by_cases q11 : a1 = 11
  · rw [if_pos q11] at H
    refine jr_table (tgt := 179) dX11_count_8 (171) (by rw [q11]; decide) (by decide) (by decide) (by decide) ?_
    refine jr_aload_n dX11_count_179 rfl rfl ?_
    refine jr_getI fl_RX11_126 (by decide) dX11_count_180 H (fun v23 H => ?_)
    exact jr_iret rfl dX11_count_183 H
  rw [if_neg q11] at H
  have hdef : (if a1.toInt < 0 ∨ 11 < a1.toInt then (176 : Int) else (#[64, 69, 74, 79, 84, 92, 100, 109, 119, 161, 166, 171] : Array Int).getD (a1.toInt - 0).toNat 176) = 176 := by
    have w0 := lv_neT q0 (show (0 : Int32).toInt = 0 from rfl)
    have w1 := lv_neT q1 (show (1 : Int32).toInt = 1 from rfl)
    have w2 := lv_neT q2 (show (2 : Int32).toInt = 2 from rfl)
    have w3 := lv_neT q3 (show (3 : Int32).toInt = 3 from rfl)
    have w4 := lv_neT q4 (show (4 : Int32).toInt = 4 from rfl)
    have w5 := lv_neT q5 (show (5 : Int32).toInt = 5 from rfl)
    have w6 := lv_neT q6 (show (6 : Int32).toInt = 6 from rfl)
    have w7 := lv_neT q7 (show (7 : Int32).toInt = 7 from rfl)
    have w8 := lv_neT q8 (show (8 : Int32).toInt = 8 from rfl)
    have w9 := lv_neT q9 (show (9 : Int32).toInt = 9 from rfl)
    have w10 := lv_neT q10 (show (10 : Int32).toInt = 10 from rfl)
    have w11 := lv_neT q11 (show (11 : Int32).toInt = 11 from rfl)
    by_cases hx : a1.toInt < 0 ∨ 11 < a1.toInt
    · rw [if_pos hx]
    · rw [if_neg hx]
      omega
  refine jr_table (tgt := 184) dX11_count_8 (176) hdef (by decide) (by decide) (by decide) ?_
  refine jr_iconst (v := (-1)) dX11_count_184 (by decide) ?_
  exact jr_iret rfl dX11_count_185 H
set_option maxRecDepth 100000 in
set_option maxHeartbeats 4000000 in
theorem c_X11_row (l : Launch) (d : Nat) (F : Nat) (a0 : Nat) (a1 : Int32) (h : jH) (rR : Int64) (hf : jH) (H : f_X11_row F a0 a1 h = some (rR, hf)) : jh_sh h a0 = (11, 0) ∧ jMet l (d + 1) yX11_row cX11_row 2 (some .long) [.ref a0, .int a1] h (some (.long rR)) hf := by
  unfold f_X11_row at H
  obtain ⟨hsh, H⟩ := j_gd_some H
  refine ⟨hsh, ?_⟩
  refine jMet.of false [some (.ref a0), some (.int a1)] rfl (by decide) (by decide) (Nat.le_of_ble_eq_true rfl) (fun S0 q hq => by simpa [j_l, lv_args, j_v, Value.category] using hq) ?_
  refine jr_aload_n dX11_row_0 rfl rfl ?_
  refine jr_iconst (v := 0) dX11_row_1 (by decide) ?_
  refine jr_putI fl_RX11_110 (fun z => by cases z) dX11_row_2 H (fun h1 H => ?_)
  refine jr_iload_n dX11_row_5 rfl rfl ?_
  refine jr_iconst (v := 0) dX11_row_6 (by decide) ?_
  refine jr_aload_n dX11_row_7 rfl rfl ?_
  refine jr_getI fl_RX11_113 (by decide) dX11_row_8 H (fun v2 H => ?_)
  refine jr_iconst (v := 1) dX11_row_11 (by decide) ?_
  refine jr_isub dX11_row_12 ?_
  obtain ⟨v4, h3, Hc, H⟩ := j_b2_some H
  refine jr_callS [.int a1, .int 0, .int (v2 - (1 : Int32))] my_X11_in ms_X11_in ml_RX11_116 dX11_row_13 rfl rfl (Nat.le_of_ble_eq_true rfl) (c_X11_in l d F a1 0 (v2 - (1 : Int32)) h1 v4 h3 Hc) ?_
  refine jr_if_eq (tgt := 28) dX11_row_16 (by decide) H (fun H => ?_) (fun H => ?_)
  · refine jr_aload_n dX11_row_28 rfl rfl ?_
    obtain ⟨v6, h5, Hc, H⟩ := j_b2_some H
    refine jr_callV (ci := 11) [] my_X11_lost mv_X11_lost ml_RX11_245 dX11_row_29 rfl rfl (Nat.le_of_ble_eq_true rfl) rfl (c_X11_lost l d F a0 h3 v6 h5 Hc) ?_
    refine jr_i2l dX11_row_32 ?_
    exact jr_lret rfl dX11_row_33 H
  · refine jr_aload_n dX11_row_19 rfl rfl ?_
    refine jr_getR fl_RX11_33 dX11_row_20 H (fun v7 H => ?_)
    refine jr_iload_n dX11_row_23 rfl rfl ?_
    refine jr_lald dX11_row_24 H (fun v8 H => ?_)
    refine jr_goto (tgt := 33) dX11_row_25 (by decide) ?_
    exact jr_lret rfl dX11_row_33 H
set_option maxRecDepth 100000 in
set_option maxHeartbeats 4000000 in
theorem c_L_word (l : Launch) (d : Nat) (hlt : l.stackTraces = false) (F : Nat) (a0 : Nat) (a1 : Int32) (a2 : Int32) (a3 : Nat) (h : jH) (rR : Int32) (hf : jH) (H : f_L_word F a0 a1 a2 a3 h = some (rR, hf)) : jMetH l (d + 7) yL_word cL_word 5 (some .int) [(0, 10, 13, 13)] [.ref a0, .int a1, .int a2, .ref a3] h (some (.int rR)) hf := by
  unfold f_L_word at H
  refine jMetH.of [some (.ref a0), some (.int a1), some (.int a2), some (.ref a3), none] rfl (by decide) (Nat.le_of_ble_eq_true rfl) (fun S0 q hq => by simpa [j_l, lv_args, j_v, Value.category] using hq) ?_
  refine jr_aload_n dL_word_0 rfl rfl ?_
  refine jr_iconst (v := 0) dL_word_1 (by decide) ?_
  refine jr_aload_n dL_word_2 rfl rfl ?_
  refine jr_iload_n dL_word_3 rfl rfl ?_
  refine jr_iload_n dL_word_4 rfl rfl ?_
  rcases j_b3_some H with ⟨v1, h2, Hc, H⟩ | ⟨h3, Hc, H⟩
  · refine jr_callV (ci := 10) [.int a1, .int a2] my_X10_word mv_X10_word ml_RL_7 dL_word_5 rfl rfl (Nat.le_of_ble_eq_true rfl) rfl (c_X10_word l d F a0 a1 a2 h v1 h2 Hc) ?_
    refine jr_i2l dL_word_8 ?_
    refine jr_last dL_word_9 H (fun h4 H => ?_)
    refine jr_goto (tgt := 17) dL_word_10 (by decide) ?_
    refine jr_iconst (v := 0) dL_word_17 (by decide) ?_
    exact jr_iret rfl dL_word_18 H
  · refine jr_catch (ci := 10) (i0 := 0) (e0 := 10) [.int a1, .int a2] my_X10_word mv_X10_word ml_RL_7 dL_word_5 rfl rfl (Nat.le_of_ble_eq_true rfl) rfl (ct_X10_word l d hlt F a0 a1 a2 h h3 Hc) (by decide) (by decide) cl_nse ca_nse dL_word_13 (by decide) rfl ?_
    refine jr_iconst (v := 1) dL_word_15 (by decide) ?_
    exact jr_iret rfl dL_word_16 H
set_option maxRecDepth 100000 in
set_option maxHeartbeats 4000000 in
theorem c_L_traveller (l : Launch) (d : Nat) (hlt : l.stackTraces = false) (F : Nat) (a0 : Nat) (a1 : Int32) (a2 : Int32) (a3 : Nat) (h : jH) (rR : Int32) (hf : jH) (H : f_L_traveller F a0 a1 a2 a3 h = some (rR, hf)) : jMetH l (d + 7) yL_traveller cL_traveller 5 (some .int) [(0, 10, 13, 13)] [.ref a0, .int a1, .int a2, .ref a3] h (some (.int rR)) hf := by
  unfold f_L_traveller at H
  refine jMetH.of [some (.ref a0), some (.int a1), some (.int a2), some (.ref a3), none] rfl (by decide) (Nat.le_of_ble_eq_true rfl) (fun S0 q hq => by simpa [j_l, lv_args, j_v, Value.category] using hq) ?_
  refine jr_aload_n dL_traveller_0 rfl rfl ?_
  refine jr_iconst (v := 0) dL_traveller_1 (by decide) ?_
  refine jr_aload_n dL_traveller_2 rfl rfl ?_
  refine jr_iload_n dL_traveller_3 rfl rfl ?_
  refine jr_iload_n dL_traveller_4 rfl rfl ?_
  rcases j_b3_some H with ⟨v1, h2, Hc, H⟩ | ⟨h3, Hc, H⟩
  · refine jr_callV (ci := 10) [.int a1, .int a2] my_X10_traveller mv_X10_traveller ml_RL_15 dL_traveller_5 rfl rfl (Nat.le_of_ble_eq_true rfl) rfl (c_X10_traveller l d F a0 a1 a2 h v1 h2 Hc) ?_
    refine jr_i2l dL_traveller_8 ?_
    refine jr_last dL_traveller_9 H (fun h4 H => ?_)
    refine jr_goto (tgt := 17) dL_traveller_10 (by decide) ?_
    refine jr_iconst (v := 0) dL_traveller_17 (by decide) ?_
    exact jr_iret rfl dL_traveller_18 H
  · refine jr_catch (ci := 10) (i0 := 0) (e0 := 10) [.int a1, .int a2] my_X10_traveller mv_X10_traveller ml_RL_15 dL_traveller_5 rfl rfl (Nat.le_of_ble_eq_true rfl) rfl (ct_X10_traveller l d hlt F a0 a1 a2 h h3 Hc) (by decide) (by decide) cl_nse ca_nse dL_traveller_13 (by decide) rfl ?_
    refine jr_iconst (v := 1) dL_traveller_15 (by decide) ?_
    exact jr_iret rfl dL_traveller_16 H
set_option maxRecDepth 100000 in
set_option maxHeartbeats 4000000 in
theorem c_L_errand (l : Launch) (d : Nat) (hlt : l.stackTraces = false) (F : Nat) (a0 : Nat) (a1 : Int32) (a2 : Int32) (a3 : Nat) (h : jH) (rR : Int32) (hf : jH) (H : f_L_errand F a0 a1 a2 a3 h = some (rR, hf)) : jMetH l (d + 7) yL_errand cL_errand 5 (some .int) [(0, 10, 13, 13)] [.ref a0, .int a1, .int a2, .ref a3] h (some (.int rR)) hf := by
  unfold f_L_errand at H
  refine jMetH.of [some (.ref a0), some (.int a1), some (.int a2), some (.ref a3), none] rfl (by decide) (Nat.le_of_ble_eq_true rfl) (fun S0 q hq => by simpa [j_l, lv_args, j_v, Value.category] using hq) ?_
  refine jr_aload_n dL_errand_0 rfl rfl ?_
  refine jr_iconst (v := 0) dL_errand_1 (by decide) ?_
  refine jr_aload_n dL_errand_2 rfl rfl ?_
  refine jr_iload_n dL_errand_3 rfl rfl ?_
  refine jr_iload_n dL_errand_4 rfl rfl ?_
  rcases j_b3_some H with ⟨v1, h2, Hc, H⟩ | ⟨h3, Hc, H⟩
  · refine jr_callV (ci := 10) [.int a1, .int a2] my_X10_errand mv_X10_errand ml_RL_18 dL_errand_5 rfl rfl (Nat.le_of_ble_eq_true rfl) rfl (c_X10_errand l d F a0 a1 a2 h v1 h2 Hc) ?_
    refine jr_i2l dL_errand_8 ?_
    refine jr_last dL_errand_9 H (fun h4 H => ?_)
    refine jr_goto (tgt := 17) dL_errand_10 (by decide) ?_
    refine jr_iconst (v := 0) dL_errand_17 (by decide) ?_
    exact jr_iret rfl dL_errand_18 H
  · refine jr_catch (ci := 10) (i0 := 0) (e0 := 10) [.int a1, .int a2] my_X10_errand mv_X10_errand ml_RL_18 dL_errand_5 rfl rfl (Nat.le_of_ble_eq_true rfl) rfl (ct_X10_errand l d hlt F a0 a1 a2 h h3 Hc) (by decide) (by decide) cl_nse ca_nse dL_errand_13 (by decide) rfl ?_
    refine jr_iconst (v := 1) dL_errand_15 (by decide) ?_
    exact jr_iret rfl dL_errand_16 H
set_option maxRecDepth 100000 in
set_option maxHeartbeats 4000000 in
theorem c_L_book (l : Launch) (d : Nat) (hlt : l.stackTraces = false) (F : Nat) (a0 : Nat) (a1 : Int32) (a2 : Int32) (a3 : Nat) (h : jH) (rR : Int32) (hf : jH) (H : f_L_book F a0 a1 a2 a3 h = some (rR, hf)) : jMetH l (d + 7) yL_book cL_book 5 (some .int) [(0, 10, 13, 13)] [.ref a0, .int a1, .int a2, .ref a3] h (some (.int rR)) hf := by
  unfold f_L_book at H
  refine jMetH.of [some (.ref a0), some (.int a1), some (.int a2), some (.ref a3), none] rfl (by decide) (Nat.le_of_ble_eq_true rfl) (fun S0 q hq => by simpa [j_l, lv_args, j_v, Value.category] using hq) ?_
  refine jr_aload_n dL_book_0 rfl rfl ?_
  refine jr_iconst (v := 0) dL_book_1 (by decide) ?_
  refine jr_aload_n dL_book_2 rfl rfl ?_
  refine jr_iload_n dL_book_3 rfl rfl ?_
  refine jr_iload_n dL_book_4 rfl rfl ?_
  rcases j_b3_some H with ⟨v1, h2, Hc, H⟩ | ⟨h3, Hc, H⟩
  · refine jr_callV (ci := 10) [.int a1, .int a2] my_X10_book mv_X10_book ml_RL_21 dL_book_5 rfl rfl (Nat.le_of_ble_eq_true rfl) rfl (c_X10_book l d F a0 a1 a2 h v1 h2 Hc) ?_
    refine jr_i2l dL_book_8 ?_
    refine jr_last dL_book_9 H (fun h4 H => ?_)
    refine jr_goto (tgt := 17) dL_book_10 (by decide) ?_
    refine jr_iconst (v := 0) dL_book_17 (by decide) ?_
    exact jr_iret rfl dL_book_18 H
  · refine jr_catch (ci := 10) (i0 := 0) (e0 := 10) [.int a1, .int a2] my_X10_book mv_X10_book ml_RL_21 dL_book_5 rfl rfl (Nat.le_of_ble_eq_true rfl) rfl (ct_X10_book l d hlt F a0 a1 a2 h h3 Hc) (by decide) (by decide) cl_nse ca_nse dL_book_13 (by decide) rfl ?_
    refine jr_iconst (v := 1) dL_book_15 (by decide) ?_
    exact jr_iret rfl dL_book_16 H
set_option maxRecDepth 100000 in
set_option maxHeartbeats 4000000 in
theorem c_L_row (l : Launch) (d : Nat) (hlt : l.stackTraces = false) (F : Nat) (a0 : Nat) (a1 : Int32) (a2 : Nat) (h : jH) (rR : Int32) (hf : jH) (H : f_L_row F a0 a1 a2 h = some (rR, hf)) : jMetH l (d + 7) yL_row cL_row 4 (some .int) [(0, 8, 11, 13)] [.ref a0, .int a1, .ref a2] h (some (.int rR)) hf := by
  unfold f_L_row at H
  refine jMetH.of [some (.ref a0), some (.int a1), some (.ref a2), none] rfl (by decide) (Nat.le_of_ble_eq_true rfl) (fun S0 q hq => by simpa [j_l, lv_args, j_v, Value.category] using hq) ?_
  refine jr_aload_n dL_row_0 rfl rfl ?_
  refine jr_iconst (v := 0) dL_row_1 (by decide) ?_
  refine jr_aload_n dL_row_2 rfl rfl ?_
  refine jr_iload_n dL_row_3 rfl rfl ?_
  rcases j_b3_some H with ⟨v1, h2, Hc, H⟩ | ⟨h3, Hc, H⟩
  · refine jr_callV (ci := 10) [.int a1] my_X10_row mv_X10_row ml_RL_24 dL_row_4 rfl rfl (Nat.le_of_ble_eq_true rfl) rfl (c_X10_row l d F a0 a1 h v1 h2 Hc) ?_
    refine jr_last dL_row_7 H (fun h4 H => ?_)
    refine jr_goto (tgt := 14) dL_row_8 (by decide) ?_
    refine jr_iconst (v := 0) dL_row_14 (by decide) ?_
    exact jr_iret rfl dL_row_15 H
  · refine jr_catchN (ci := 10) (i0 := 0) (e0 := 8) [.int a1] my_X10_row mv_X10_row ml_RL_24 dL_row_4 rfl rfl (Nat.le_of_ble_eq_true rfl) rfl (ct_X10_row l d hlt F a0 a1 h h3 Hc) (by decide) (by decide) cl_nse ca_nse dL_row_11 rfl (by decide) rfl ?_
    refine jr_iconst (v := 1) dL_row_12 (by decide) ?_
    exact jr_iret rfl dL_row_13 H
set_option maxRecDepth 100000 in
set_option maxHeartbeats 4000000 in
theorem s_L_law_L23 (l : Launch) (d : Nat) (hlt : l.stackTraces = false) (F : Nat) (L : Nat) (xs : Nat → Int32) (x1 : Nat) (x2 : Nat) (x3 : Nat) {rR : Int32} {hf : jH} : ∀ (n : Nat) (x4 : Int32) (h : jH), f_L_law_L23 F L xs x1 x2 x3 n x4 h = some (rR, hf) → jGo l (d + 410) (some (.inr (L, xs))) RL cL_law 8 (some .boolean) false 23 [none, some (.ref x1), some (.ref x2), some (.ref x3), some (.int x4), none, none, none] [] h (some (.int rR)) hf := by
  intro n
  induction n with
  | zero =>
    intro x4 h H
    cases H
  | succ n ih =>
    intro x4 h H
    unfold f_L_law_L23 at H
    refine jr_iload dL_law_23 rfl ?_
    refine jr_scrlen dL_law_25 dL_law_26 ?_
    refine jr_iconst (v := 5) dL_law_27 (by decide) ?_
    refine jr_isub dL_law_28 ?_
    refine jr_icmp_gt (tgt := 1540) dL_law_29 (by decide) H (fun H => ?_) (fun H => ?_)
    · refine jr_iconst (v := 1) dL_law_1540 (by decide) ?_
      exact jr_zret rfl rfl dL_law_1541 H
    · refine jr_scr0 dL_law_32 dL_law_33 dL_law_35 rfl H (fun v9 H => ?_)
      refine jr_bipush (v := 63) dL_law_36 (by decide) ?_
      refine jr_iand dL_law_38 ?_
      refine jr_jn (fun J => ∀ (h10 : jH), J h10 = some (rR, hf) → jGo l (d + 410) (some (.inr (L, xs))) RL cL_law 8 (some .boolean) false 1534 [none, some (.ref x1), some (.ref x2), some (.ref x3), some (.int x4), none, none, none] [] h10 (some (.int rR)) hf) H (fun h10 H => ?_) (fun J1534 hJ1534 H => ?_)
      · refine jr_iinc (v := (x4 + 5)) dL_law_1534 rfl rfl (by decide) rfl (Or.inr (by decide)) ?_
        refine jr_goto (tgt := 23) dL_law_1537 (by decide) ?_
        exact ih _ _ H
      · by_cases q0 : (v9 &&& (63 : Int32)) = 0
        · rw [if_pos q0] at H
          refine jr_table (tgt := 212) dL_law_39 (173) (by rw [q0]; decide) (by decide) (by decide) (by decide) ?_
          refine jr_aload_n dL_law_212 rfl rfl ?_
          refine jr_scr (kv := 1) dL_law_213 dL_law_214 dL_law_216 dL_law_217 dL_law_218 (by decide) rfl H (fun v11 H => ?_)
          obtain ⟨v13, h12, Hc, H⟩ := j_b2_some H
          refine jr_callV (ci := 10) [.int v11] my_X10_sign mv_X10_sign ml_RL_32 dL_law_219 rfl rfl (Nat.le_of_ble_eq_true rfl) rfl (c_X10_sign l (d + 408) F x1 v11 h v13 h12 Hc) ?_
          refine jr_aload_n dL_law_222 rfl rfl ?_
          refine jr_scr (kv := 1) dL_law_223 dL_law_224 dL_law_226 dL_law_227 dL_law_228 (by decide) rfl H (fun v14 H => ?_)
          obtain ⟨v16, h15, Hc, H⟩ := j_b2_some H
          refine jr_callV (ci := 11) [.int v14] my_X11_sign mv_X11_sign ml_RL_36 dL_law_229 rfl rfl (Nat.le_of_ble_eq_true rfl) rfl (c_X11_sign l (d + 409) F x2 v14 h12 v16 h15 Hc) ?_
          refine jr_icmp_eq (tgt := 1534) dL_law_232 (by decide) H (fun H => ?_) (fun H => ?_)
          · exact hJ1534 _ H
          · refine jr_iconst (v := 0) dL_law_235 (by decide) ?_
            exact jr_zret rfl rfl dL_law_236 H
        rw [if_neg q0] at H
        by_cases q1 : (v9 &&& (63 : Int32)) = 1
        · rw [if_pos q1] at H
          refine jr_table (tgt := 237) dL_law_39 (198) (by rw [q1]; decide) (by decide) (by decide) (by decide) ?_
          refine jr_aload_n dL_law_237 rfl rfl ?_
          refine jr_scr (kv := 1) dL_law_238 dL_law_239 dL_law_241 dL_law_242 dL_law_243 (by decide) rfl H (fun v17 H => ?_)
          obtain ⟨v19, h18, Hc, H⟩ := j_b2_some H
          refine jr_callV (ci := 10) [.int v17] my_X10_end mv_X10_end ml_RL_37 dL_law_244 rfl rfl (Nat.le_of_ble_eq_true rfl) rfl (c_X10_end l (d + 409) F x1 v17 h v19 h18 Hc) ?_
          refine jr_aload_n dL_law_247 rfl rfl ?_
          refine jr_scr (kv := 1) dL_law_248 dL_law_249 dL_law_251 dL_law_252 dL_law_253 (by decide) rfl H (fun v20 H => ?_)
          obtain ⟨v22, h21, Hc, H⟩ := j_b2_some H
          refine jr_callV (ci := 11) [.int v20] my_X11_end mv_X11_end ml_RL_41 dL_law_254 rfl rfl (Nat.le_of_ble_eq_true rfl) rfl (c_X11_end l (d + 408) F x2 v20 h18 v22 h21 Hc) ?_
          refine jr_icmp_eq (tgt := 1534) dL_law_257 (by decide) H (fun H => ?_) (fun H => ?_)
          · exact hJ1534 _ H
          · refine jr_iconst (v := 0) dL_law_260 (by decide) ?_
            exact jr_zret rfl rfl dL_law_261 H
        rw [if_neg q1] at H
        by_cases q2 : (v9 &&& (63 : Int32)) = 2
        · rw [if_pos q2] at H
          refine jr_table (tgt := 262) dL_law_39 (223) (by rw [q2]; decide) (by decide) (by decide) (by decide) ?_
          refine jr_aload_n dL_law_262 rfl rfl ?_
          refine jr_scr (kv := 1) dL_law_263 dL_law_264 dL_law_266 dL_law_267 dL_law_268 (by decide) rfl H (fun v23 H => ?_)
          obtain ⟨v25, h24, Hc, H⟩ := j_b2_some H
          refine jr_callV (ci := 10) [.int v23] my_X10_road mv_X10_road ml_RL_42 dL_law_269 rfl rfl (Nat.le_of_ble_eq_true rfl) rfl (c_X10_road l (d + 407) F x1 v23 h v25 h24 Hc) ?_
          refine jr_aload_n dL_law_272 rfl rfl ?_
          refine jr_scr (kv := 1) dL_law_273 dL_law_274 dL_law_276 dL_law_277 dL_law_278 (by decide) rfl H (fun v26 H => ?_)
          obtain ⟨v28, h27, Hc, H⟩ := j_b2_some H
          refine jr_callV (ci := 11) [.int v26] my_X11_road mv_X11_road ml_RL_45 dL_law_279 rfl rfl (Nat.le_of_ble_eq_true rfl) rfl (c_X11_road l (d + 408) F x2 v26 h24 v28 h27 Hc) ?_
          refine jr_icmp_eq (tgt := 1534) dL_law_282 (by decide) H (fun H => ?_) (fun H => ?_)
          · exact hJ1534 _ H
          · refine jr_iconst (v := 0) dL_law_285 (by decide) ?_
            exact jr_zret rfl rfl dL_law_286 H
        rw [if_neg q2] at H
        by_cases q3 : (v9 &&& (63 : Int32)) = 3
        · rw [if_pos q3] at H
          refine jr_table (tgt := 287) dL_law_39 (248) (by rw [q3]; decide) (by decide) (by decide) (by decide) ?_
          refine jr_aload_n dL_law_287 rfl rfl ?_
          obtain ⟨v30, h29, Hc, H⟩ := j_b2_some H
          refine jr_callV (ci := 10) [] my_X10_words mv_X10_words ml_RL_46 dL_law_288 rfl rfl (Nat.le_of_ble_eq_true rfl) rfl (c_X10_words l (d + 403) F x1 h v30 h29 Hc) ?_
          refine jr_aload_n dL_law_291 rfl rfl ?_
          obtain ⟨v32, h31, Hc, H⟩ := j_b2_some H
          refine jr_callV (ci := 11) [] my_X11_words mv_X11_words ml_RL_50 dL_law_292 rfl rfl (Nat.le_of_ble_eq_true rfl) rfl (c_X11_words l (d + 405) F x2 h29 v32 h31 Hc) ?_
          refine jr_icmp_eq (tgt := 1534) dL_law_295 (by decide) H (fun H => ?_) (fun H => ?_)
          · exact hJ1534 _ H
          · refine jr_iconst (v := 0) dL_law_298 (by decide) ?_
            exact jr_zret rfl rfl dL_law_299 H
        rw [if_neg q3] at H
        by_cases q4 : (v9 &&& (63 : Int32)) = 4
        · rw [if_pos q4] at H
          refine jr_table (tgt := 300) dL_law_39 (261) (by rw [q4]; decide) (by decide) (by decide) (by decide) ?_
          refine jr_aload_n dL_law_300 rfl rfl ?_
          obtain ⟨v34, h33, Hc, H⟩ := j_b2_some H
          refine jr_callV (ci := 10) [] my_X10_travellers mv_X10_travellers ml_RL_51 dL_law_301 rfl rfl (Nat.le_of_ble_eq_true rfl) rfl (c_X10_travellers l (d + 403) F x1 h v34 h33 Hc) ?_
          refine jr_aload_n dL_law_304 rfl rfl ?_
          obtain ⟨v36, h35, Hc, H⟩ := j_b2_some H
          refine jr_callV (ci := 11) [] my_X11_travellers mv_X11_travellers ml_RL_54 dL_law_305 rfl rfl (Nat.le_of_ble_eq_true rfl) rfl (c_X11_travellers l (d + 405) F x2 h33 v36 h35 Hc) ?_
          refine jr_icmp_eq (tgt := 1534) dL_law_308 (by decide) H (fun H => ?_) (fun H => ?_)
          · exact hJ1534 _ H
          · refine jr_iconst (v := 0) dL_law_311 (by decide) ?_
            exact jr_zret rfl rfl dL_law_312 H
        rw [if_neg q4] at H
        by_cases q5 : (v9 &&& (63 : Int32)) = 5
        · rw [if_pos q5] at H
          refine jr_table (tgt := 313) dL_law_39 (274) (by rw [q5]; decide) (by decide) (by decide) (by decide) ?_
          refine jr_aload_n dL_law_313 rfl rfl ?_
          obtain ⟨v38, h37, Hc, H⟩ := j_b2_some H
          refine jr_callV (ci := 10) [] my_X10_errands mv_X10_errands ml_RL_55 dL_law_314 rfl rfl (Nat.le_of_ble_eq_true rfl) rfl (c_X10_errands l (d + 403) F x1 h v38 h37 Hc) ?_
          refine jr_aload_n dL_law_317 rfl rfl ?_
          obtain ⟨v40, h39, Hc, H⟩ := j_b2_some H
          refine jr_callV (ci := 11) [] my_X11_errands mv_X11_errands ml_RL_58 dL_law_318 rfl rfl (Nat.le_of_ble_eq_true rfl) rfl (c_X11_errands l (d + 405) F x2 h37 v40 h39 Hc) ?_
          refine jr_icmp_eq (tgt := 1534) dL_law_321 (by decide) H (fun H => ?_) (fun H => ?_)
          · exact hJ1534 _ H
          · refine jr_iconst (v := 0) dL_law_324 (by decide) ?_
            exact jr_zret rfl rfl dL_law_325 H
        rw [if_neg q5] at H
        by_cases q6 : (v9 &&& (63 : Int32)) = 6
        · rw [if_pos q6] at H
          refine jr_table (tgt := 326) dL_law_39 (287) (by rw [q6]; decide) (by decide) (by decide) (by decide) ?_
          refine jr_aload_n dL_law_326 rfl rfl ?_
          obtain ⟨v42, h41, Hc, H⟩ := j_b2_some H
          refine jr_callV (ci := 10) [] my_X10_rule mv_X10_rule ml_RL_59 dL_law_327 rfl rfl (Nat.le_of_ble_eq_true rfl) rfl (c_X10_rule l (d + 4) F x1 h v42 h41 Hc) ?_
          refine jr_aload_n dL_law_330 rfl rfl ?_
          obtain ⟨v44, h43, Hc, H⟩ := j_b2_some H
          refine jr_callV (ci := 11) [] my_X11_rule mv_X11_rule ml_RL_62 dL_law_331 rfl rfl (Nat.le_of_ble_eq_true rfl) rfl (c_X11_rule l (d + 4) F x2 h41 v44 h43 Hc) ?_
          refine jr_icmp_eq (tgt := 1534) dL_law_334 (by decide) H (fun H => ?_) (fun H => ?_)
          · exact hJ1534 _ H
          · refine jr_iconst (v := 0) dL_law_337 (by decide) ?_
            exact jr_zret rfl rfl dL_law_338 H
        rw [if_neg q6] at H
        by_cases q7 : (v9 &&& (63 : Int32)) = 7
        · rw [if_pos q7] at H
          refine jr_table (tgt := 339) dL_law_39 (300) (by rw [q7]; decide) (by decide) (by decide) (by decide) ?_
          refine jr_aload_n dL_law_339 rfl rfl ?_
          refine jr_scr (kv := 1) dL_law_340 dL_law_341 dL_law_343 dL_law_344 dL_law_345 (by decide) rfl H (fun v45 H => ?_)
          refine jr_scr (kv := 2) dL_law_346 dL_law_347 dL_law_349 dL_law_350 dL_law_351 (by decide) rfl H (fun v46 H => ?_)
          refine jr_aload_n dL_law_352 rfl rfl ?_
          obtain ⟨v48, h47, Hc, H⟩ := j_b2_some H
          refine jr_callSH [.ref x1, .int v45, .int v46, .ref x3] rfl mh_L_word mhi_L_word mhn_L_word mhp_L_word (by decide) ms_L_word ml_RL_63 dL_law_353 rfl rfl (Nat.le_of_ble_eq_true rfl) (c_L_word l (d + 402) hlt F x1 v45 v46 x3 h v48 h47 Hc) ?_
          refine jr_istore dL_law_356 (by decide) rfl (Or.inr (by decide)) ?_
          refine jr_aload_n dL_law_358 rfl rfl ?_
          refine jr_scr (kv := 1) dL_law_359 dL_law_360 dL_law_362 dL_law_363 dL_law_364 (by decide) rfl H (fun v49 H => ?_)
          refine jr_scr (kv := 2) dL_law_365 dL_law_366 dL_law_368 dL_law_369 dL_law_370 (by decide) rfl H (fun v50 H => ?_)
          obtain ⟨v52, h51, Hc, H⟩ := j_b2_some H
          refine jr_callV (ci := 11) [.int v49, .int v50] my_X11_word mv_X11_word ml_RL_68 dL_law_371 rfl rfl (Nat.le_of_ble_eq_true rfl) rfl (c_X11_word l (d + 406) F x2 v49 v50 h47 v52 h51 Hc) ?_
          refine jr_istore dL_law_374 (by decide) rfl (Or.inr (by decide)) ?_
          refine jr_aload_n dL_law_376 rfl rfl ?_
          obtain ⟨v54, h53, Hc, H⟩ := j_b2_some H
          refine jr_callV (ci := 11) [] my_X11_thrown mv_X11_thrown ml_RL_69 dL_law_377 rfl rfl (Nat.le_of_ble_eq_true rfl) rfl (c_X11_thrown l (d + 409) F x2 h51 v54 h53 Hc) ?_
          refine jr_iload dL_law_380 rfl ?_
          refine jr_icmp_eq (tgt := 387) dL_law_382 (by decide) H (fun H => ?_) (fun H => ?_)
          · refine jr_iload dL_law_387 rfl ?_
            refine jr_jn (fun J => ∀ (h55 : jH), J h55 = some (rR, hf) → jGo l (d + 410) (some (.inr (L, xs))) RL cL_law 8 (some .boolean) false 404 [none, some (.ref x1), some (.ref x2), some (.ref x3), some (.int x4), none, none, none] [] h55 (some (.int rR)) hf) H (fun h55 H => ?_) (fun J404 hJ404 H => ?_)
            · refine jr_goto (tgt := 1534) dL_law_404 (by decide) ?_
              exact hJ1534 _ H
            · refine jr_if_ne (tgt := 404) dL_law_389 (by decide) H (fun H => ?_) (fun H => ?_)
              · refine jr_aload_n dL_law_392 rfl rfl ?_
                refine jr_iconst (v := 0) dL_law_393 (by decide) ?_
                refine jr_lald dL_law_394 H (fun v56 H => ?_)
                refine jr_iload dL_law_395 rfl ?_
                refine jr_i2l dL_law_397 ?_
                refine jr_lcmp dL_law_398 ?_
                refine jr_if_eq (tgt := 404) dL_law_399 (by decide) H (fun H => ?_) (fun H => ?_)
                · refine jr_fgt 5 ?_
                  refine jr_fgt 6 ?_
                  exact hJ404 _ H
                · refine jr_iconst (v := 0) dL_law_402 (by decide) ?_
                  exact jr_zret rfl rfl dL_law_403 H
              · refine jr_fgt 5 ?_
                refine jr_fgt 6 ?_
                exact hJ404 _ H
          · refine jr_iconst (v := 0) dL_law_385 (by decide) ?_
            exact jr_zret rfl rfl dL_law_386 H
        rw [if_neg q7] at H
        by_cases q8 : (v9 &&& (63 : Int32)) = 8
        · rw [if_pos q8] at H
          refine jr_table (tgt := 407) dL_law_39 (368) (by rw [q8]; decide) (by decide) (by decide) (by decide) ?_
          refine jr_aload_n dL_law_407 rfl rfl ?_
          refine jr_scr (kv := 1) dL_law_408 dL_law_409 dL_law_411 dL_law_412 dL_law_413 (by decide) rfl H (fun v57 H => ?_)
          refine jr_scr (kv := 2) dL_law_414 dL_law_415 dL_law_417 dL_law_418 dL_law_419 (by decide) rfl H (fun v58 H => ?_)
          refine jr_aload_n dL_law_420 rfl rfl ?_
          obtain ⟨v60, h59, Hc, H⟩ := j_b2_some H
          refine jr_callSH [.ref x1, .int v57, .int v58, .ref x3] rfl mh_L_traveller mhi_L_traveller mhn_L_traveller mhp_L_traveller (by decide) ms_L_traveller ml_RL_72 dL_law_421 rfl rfl (Nat.le_of_ble_eq_true rfl) (c_L_traveller l (d + 402) hlt F x1 v57 v58 x3 h v60 h59 Hc) ?_
          refine jr_istore dL_law_424 (by decide) rfl (Or.inr (by decide)) ?_
          refine jr_aload_n dL_law_426 rfl rfl ?_
          refine jr_scr (kv := 1) dL_law_427 dL_law_428 dL_law_430 dL_law_431 dL_law_432 (by decide) rfl H (fun v61 H => ?_)
          refine jr_scr (kv := 2) dL_law_433 dL_law_434 dL_law_436 dL_law_437 dL_law_438 (by decide) rfl H (fun v62 H => ?_)
          obtain ⟨v64, h63, Hc, H⟩ := j_b2_some H
          refine jr_callV (ci := 11) [.int v61, .int v62] my_X11_traveller mv_X11_traveller ml_RL_74 dL_law_439 rfl rfl (Nat.le_of_ble_eq_true rfl) rfl (c_X11_traveller l (d + 407) F x2 v61 v62 h59 v64 h63 Hc) ?_
          refine jr_istore dL_law_442 (by decide) rfl (Or.inr (by decide)) ?_
          refine jr_aload_n dL_law_444 rfl rfl ?_
          obtain ⟨v66, h65, Hc, H⟩ := j_b2_some H
          refine jr_callV (ci := 11) [] my_X11_thrown mv_X11_thrown ml_RL_69 dL_law_445 rfl rfl (Nat.le_of_ble_eq_true rfl) rfl (c_X11_thrown l (d + 409) F x2 h63 v66 h65 Hc) ?_
          refine jr_iload dL_law_448 rfl ?_
          refine jr_icmp_eq (tgt := 455) dL_law_450 (by decide) H (fun H => ?_) (fun H => ?_)
          · refine jr_iload dL_law_455 rfl ?_
            refine jr_jn (fun J => ∀ (h67 : jH), J h67 = some (rR, hf) → jGo l (d + 410) (some (.inr (L, xs))) RL cL_law 8 (some .boolean) false 472 [none, some (.ref x1), some (.ref x2), some (.ref x3), some (.int x4), none, none, none] [] h67 (some (.int rR)) hf) H (fun h67 H => ?_) (fun J472 hJ472 H => ?_)
            · refine jr_goto (tgt := 1534) dL_law_472 (by decide) ?_
              exact hJ1534 _ H
            · refine jr_if_ne (tgt := 472) dL_law_457 (by decide) H (fun H => ?_) (fun H => ?_)
              · refine jr_aload_n dL_law_460 rfl rfl ?_
                refine jr_iconst (v := 0) dL_law_461 (by decide) ?_
                refine jr_lald dL_law_462 H (fun v68 H => ?_)
                refine jr_iload dL_law_463 rfl ?_
                refine jr_i2l dL_law_465 ?_
                refine jr_lcmp dL_law_466 ?_
                refine jr_if_eq (tgt := 472) dL_law_467 (by decide) H (fun H => ?_) (fun H => ?_)
                · refine jr_fgt 5 ?_
                  refine jr_fgt 6 ?_
                  exact hJ472 _ H
                · refine jr_iconst (v := 0) dL_law_470 (by decide) ?_
                  exact jr_zret rfl rfl dL_law_471 H
              · refine jr_fgt 5 ?_
                refine jr_fgt 6 ?_
                exact hJ472 _ H
          · refine jr_iconst (v := 0) dL_law_453 (by decide) ?_
            exact jr_zret rfl rfl dL_law_454 H
        rw [if_neg q8] at H
        by_cases q9 : (v9 &&& (63 : Int32)) = 9
        · rw [if_pos q9] at H
          refine jr_table (tgt := 475) dL_law_39 (436) (by rw [q9]; decide) (by decide) (by decide) (by decide) ?_
          refine jr_aload_n dL_law_475 rfl rfl ?_
          refine jr_scr (kv := 1) dL_law_476 dL_law_477 dL_law_479 dL_law_480 dL_law_481 (by decide) rfl H (fun v69 H => ?_)
          refine jr_scr (kv := 2) dL_law_482 dL_law_483 dL_law_485 dL_law_486 dL_law_487 (by decide) rfl H (fun v70 H => ?_)
          refine jr_aload_n dL_law_488 rfl rfl ?_
          obtain ⟨v72, h71, Hc, H⟩ := j_b2_some H
          refine jr_callSH [.ref x1, .int v69, .int v70, .ref x3] rfl mh_L_errand mhi_L_errand mhn_L_errand mhp_L_errand (by decide) ms_L_errand ml_RL_75 dL_law_489 rfl rfl (Nat.le_of_ble_eq_true rfl) (c_L_errand l (d + 402) hlt F x1 v69 v70 x3 h v72 h71 Hc) ?_
          refine jr_istore dL_law_492 (by decide) rfl (Or.inr (by decide)) ?_
          refine jr_aload_n dL_law_494 rfl rfl ?_
          refine jr_scr (kv := 1) dL_law_495 dL_law_496 dL_law_498 dL_law_499 dL_law_500 (by decide) rfl H (fun v73 H => ?_)
          refine jr_scr (kv := 2) dL_law_501 dL_law_502 dL_law_504 dL_law_505 dL_law_506 (by decide) rfl H (fun v74 H => ?_)
          obtain ⟨v76, h75, Hc, H⟩ := j_b2_some H
          refine jr_callV (ci := 11) [.int v73, .int v74] my_X11_errand mv_X11_errand ml_RL_77 dL_law_507 rfl rfl (Nat.le_of_ble_eq_true rfl) rfl (c_X11_errand l (d + 408) F x2 v73 v74 h71 v76 h75 Hc) ?_
          refine jr_istore dL_law_510 (by decide) rfl (Or.inr (by decide)) ?_
          refine jr_aload_n dL_law_512 rfl rfl ?_
          obtain ⟨v78, h77, Hc, H⟩ := j_b2_some H
          refine jr_callV (ci := 11) [] my_X11_thrown mv_X11_thrown ml_RL_69 dL_law_513 rfl rfl (Nat.le_of_ble_eq_true rfl) rfl (c_X11_thrown l (d + 409) F x2 h75 v78 h77 Hc) ?_
          refine jr_iload dL_law_516 rfl ?_
          refine jr_icmp_eq (tgt := 523) dL_law_518 (by decide) H (fun H => ?_) (fun H => ?_)
          · refine jr_iload dL_law_523 rfl ?_
            refine jr_jn (fun J => ∀ (h79 : jH), J h79 = some (rR, hf) → jGo l (d + 410) (some (.inr (L, xs))) RL cL_law 8 (some .boolean) false 540 [none, some (.ref x1), some (.ref x2), some (.ref x3), some (.int x4), none, none, none] [] h79 (some (.int rR)) hf) H (fun h79 H => ?_) (fun J540 hJ540 H => ?_)
            · refine jr_goto (tgt := 1534) dL_law_540 (by decide) ?_
              exact hJ1534 _ H
            · refine jr_if_ne (tgt := 540) dL_law_525 (by decide) H (fun H => ?_) (fun H => ?_)
              · refine jr_aload_n dL_law_528 rfl rfl ?_
                refine jr_iconst (v := 0) dL_law_529 (by decide) ?_
                refine jr_lald dL_law_530 H (fun v80 H => ?_)
                refine jr_iload dL_law_531 rfl ?_
                refine jr_i2l dL_law_533 ?_
                refine jr_lcmp dL_law_534 ?_
                refine jr_if_eq (tgt := 540) dL_law_535 (by decide) H (fun H => ?_) (fun H => ?_)
                · refine jr_fgt 5 ?_
                  refine jr_fgt 6 ?_
                  exact hJ540 _ H
                · refine jr_iconst (v := 0) dL_law_538 (by decide) ?_
                  exact jr_zret rfl rfl dL_law_539 H
              · refine jr_fgt 5 ?_
                refine jr_fgt 6 ?_
                exact hJ540 _ H
          · refine jr_iconst (v := 0) dL_law_521 (by decide) ?_
            exact jr_zret rfl rfl dL_law_522 H
        rw [if_neg q9] at H
        by_cases q10 : (v9 &&& (63 : Int32)) = 10
        · rw [if_pos q10] at H
          refine jr_table (tgt := 543) dL_law_39 (504) (by rw [q10]; decide) (by decide) (by decide) (by decide) ?_
          refine jr_aload_n dL_law_543 rfl rfl ?_
          refine jr_scr (kv := 1) dL_law_544 dL_law_545 dL_law_547 dL_law_548 dL_law_549 (by decide) rfl H (fun v81 H => ?_)
          refine jr_scr (kv := 2) dL_law_550 dL_law_551 dL_law_553 dL_law_554 dL_law_555 (by decide) rfl H (fun v82 H => ?_)
          refine jr_aload_n dL_law_556 rfl rfl ?_
          obtain ⟨v84, h83, Hc, H⟩ := j_b2_some H
          refine jr_callSH [.ref x1, .int v81, .int v82, .ref x3] rfl mh_L_book mhi_L_book mhn_L_book mhp_L_book (by decide) ms_L_book ml_RL_78 dL_law_557 rfl rfl (Nat.le_of_ble_eq_true rfl) (c_L_book l (d + 402) hlt F x1 v81 v82 x3 h v84 h83 Hc) ?_
          refine jr_istore dL_law_560 (by decide) rfl (Or.inr (by decide)) ?_
          refine jr_aload_n dL_law_562 rfl rfl ?_
          refine jr_scr (kv := 1) dL_law_563 dL_law_564 dL_law_566 dL_law_567 dL_law_568 (by decide) rfl H (fun v85 H => ?_)
          refine jr_scr (kv := 2) dL_law_569 dL_law_570 dL_law_572 dL_law_573 dL_law_574 (by decide) rfl H (fun v86 H => ?_)
          obtain ⟨v88, h87, Hc, H⟩ := j_b2_some H
          refine jr_callV (ci := 11) [.int v85, .int v86] my_X11_book mv_X11_book ml_RL_80 dL_law_575 rfl rfl (Nat.le_of_ble_eq_true rfl) rfl (c_X11_book l (d + 407) F x2 v85 v86 h83 v88 h87 Hc) ?_
          refine jr_istore dL_law_578 (by decide) rfl (Or.inr (by decide)) ?_
          refine jr_aload_n dL_law_580 rfl rfl ?_
          obtain ⟨v90, h89, Hc, H⟩ := j_b2_some H
          refine jr_callV (ci := 11) [] my_X11_thrown mv_X11_thrown ml_RL_69 dL_law_581 rfl rfl (Nat.le_of_ble_eq_true rfl) rfl (c_X11_thrown l (d + 409) F x2 h87 v90 h89 Hc) ?_
          refine jr_iload dL_law_584 rfl ?_
          refine jr_icmp_eq (tgt := 591) dL_law_586 (by decide) H (fun H => ?_) (fun H => ?_)
          · refine jr_iload dL_law_591 rfl ?_
            refine jr_jn (fun J => ∀ (h91 : jH), J h91 = some (rR, hf) → jGo l (d + 410) (some (.inr (L, xs))) RL cL_law 8 (some .boolean) false 608 [none, some (.ref x1), some (.ref x2), some (.ref x3), some (.int x4), none, none, none] [] h91 (some (.int rR)) hf) H (fun h91 H => ?_) (fun J608 hJ608 H => ?_)
            · refine jr_goto (tgt := 1534) dL_law_608 (by decide) ?_
              exact hJ1534 _ H
            · refine jr_if_ne (tgt := 608) dL_law_593 (by decide) H (fun H => ?_) (fun H => ?_)
              · refine jr_aload_n dL_law_596 rfl rfl ?_
                refine jr_iconst (v := 0) dL_law_597 (by decide) ?_
                refine jr_lald dL_law_598 H (fun v92 H => ?_)
                refine jr_iload dL_law_599 rfl ?_
                refine jr_i2l dL_law_601 ?_
                refine jr_lcmp dL_law_602 ?_
                refine jr_if_eq (tgt := 608) dL_law_603 (by decide) H (fun H => ?_) (fun H => ?_)
                · refine jr_fgt 5 ?_
                  refine jr_fgt 6 ?_
                  exact hJ608 _ H
                · refine jr_iconst (v := 0) dL_law_606 (by decide) ?_
                  exact jr_zret rfl rfl dL_law_607 H
              · refine jr_fgt 5 ?_
                refine jr_fgt 6 ?_
                exact hJ608 _ H
          · refine jr_iconst (v := 0) dL_law_589 (by decide) ?_
            exact jr_zret rfl rfl dL_law_590 H
        rw [if_neg q10] at H
        by_cases q11 : (v9 &&& (63 : Int32)) = 11
        · rw [if_pos q11] at H
          refine jr_table (tgt := 611) dL_law_39 (572) (by rw [q11]; decide) (by decide) (by decide) (by decide) ?_
          refine jr_aload_n dL_law_611 rfl rfl ?_
          refine jr_scr (kv := 1) dL_law_612 dL_law_613 dL_law_615 dL_law_616 dL_law_617 (by decide) rfl H (fun v93 H => ?_)
          refine jr_scr (kv := 2) dL_law_618 dL_law_619 dL_law_621 dL_law_622 dL_law_623 (by decide) rfl H (fun v94 H => ?_)
          refine jr_scr (kv := 3) dL_law_624 dL_law_625 dL_law_627 dL_law_628 dL_law_629 (by decide) rfl H (fun v95 H => ?_)
          refine jr_scr (kv := 4) dL_law_630 dL_law_631 dL_law_633 dL_law_634 dL_law_635 (by decide) rfl H (fun v96 H => ?_)
          obtain ⟨v98, h97, Hc, H⟩ := j_b2_some H
          refine jr_callV (ci := 10) [.int v93, .int v94, .int v95, .int v96] my_X10_sheet mv_X10_sheet ml_RL_81 dL_law_636 rfl rfl (Nat.le_of_ble_eq_true rfl) rfl (c_X10_sheet l (d + 407) F x1 v93 v94 v95 v96 h v98 h97 Hc) ?_
          refine jr_aload_n dL_law_639 rfl rfl ?_
          refine jr_scr (kv := 1) dL_law_640 dL_law_641 dL_law_643 dL_law_644 dL_law_645 (by decide) rfl H (fun v99 H => ?_)
          refine jr_scr (kv := 2) dL_law_646 dL_law_647 dL_law_649 dL_law_650 dL_law_651 (by decide) rfl H (fun v100 H => ?_)
          refine jr_scr (kv := 3) dL_law_652 dL_law_653 dL_law_655 dL_law_656 dL_law_657 (by decide) rfl H (fun v101 H => ?_)
          refine jr_scr (kv := 4) dL_law_658 dL_law_659 dL_law_661 dL_law_662 dL_law_663 (by decide) rfl H (fun v102 H => ?_)
          obtain ⟨v104, h103, Hc, H⟩ := j_b2_some H
          refine jr_callV (ci := 11) [.int v99, .int v100, .int v101, .int v102] my_X11_sheet mv_X11_sheet ml_RL_85 dL_law_664 rfl rfl (Nat.le_of_ble_eq_true rfl) rfl (c_X11_sheet l (d + 408) F x2 v99 v100 v101 v102 h97 v104 h103 Hc) ?_
          refine jr_icmp_eq (tgt := 1534) dL_law_667 (by decide) H (fun H => ?_) (fun H => ?_)
          · exact hJ1534 _ H
          · refine jr_iconst (v := 0) dL_law_670 (by decide) ?_
            exact jr_zret rfl rfl dL_law_671 H
        rw [if_neg q11] at H
        by_cases q12 : (v9 &&& (63 : Int32)) = 12
        · rw [if_pos q12] at H
          refine jr_table (tgt := 672) dL_law_39 (633) (by rw [q12]; decide) (by decide) (by decide) (by decide) ?_
          refine jr_aload_n dL_law_672 rfl rfl ?_
          refine jr_scr (kv := 1) dL_law_673 dL_law_674 dL_law_676 dL_law_677 dL_law_678 (by decide) rfl H (fun v105 H => ?_)
          refine jr_scr (kv := 2) dL_law_679 dL_law_680 dL_law_682 dL_law_683 dL_law_684 (by decide) rfl H (fun v106 H => ?_)
          obtain ⟨v108, h107, Hc, H⟩ := j_b2_some H
          refine jr_callV (ci := 10) [.int v105, .int v106] my_X10_toll mv_X10_toll ml_RL_86 dL_law_685 rfl rfl (Nat.le_of_ble_eq_true rfl) rfl (c_X10_toll l (d + 406) F x1 v105 v106 h v108 h107 Hc) ?_
          refine jr_aload_n dL_law_688 rfl rfl ?_
          refine jr_scr (kv := 1) dL_law_689 dL_law_690 dL_law_692 dL_law_693 dL_law_694 (by decide) rfl H (fun v109 H => ?_)
          refine jr_scr (kv := 2) dL_law_695 dL_law_696 dL_law_698 dL_law_699 dL_law_700 (by decide) rfl H (fun v110 H => ?_)
          obtain ⟨v112, h111, Hc, H⟩ := j_b2_some H
          refine jr_callV (ci := 11) [.int v109, .int v110] my_X11_toll mv_X11_toll ml_RL_89 dL_law_701 rfl rfl (Nat.le_of_ble_eq_true rfl) rfl (c_X11_toll l (d + 3) F x2 v109 v110 h107 v112 h111 Hc) ?_
          refine jr_icmp_eq (tgt := 1534) dL_law_704 (by decide) H (fun H => ?_) (fun H => ?_)
          · exact hJ1534 _ H
          · refine jr_iconst (v := 0) dL_law_707 (by decide) ?_
            exact jr_zret rfl rfl dL_law_708 H
        rw [if_neg q12] at H
        by_cases q13 : (v9 &&& (63 : Int32)) = 13
        · rw [if_pos q13] at H
          refine jr_table (tgt := 709) dL_law_39 (670) (by rw [q13]; decide) (by decide) (by decide) (by decide) ?_
          refine jr_aload_n dL_law_709 rfl rfl ?_
          refine jr_scr (kv := 1) dL_law_710 dL_law_711 dL_law_713 dL_law_714 dL_law_715 (by decide) rfl H (fun v113 H => ?_)
          refine jr_scr (kv := 2) dL_law_716 dL_law_717 dL_law_719 dL_law_720 dL_law_721 (by decide) rfl H (fun v114 H => ?_)
          obtain ⟨v116, h115, Hc, H⟩ := j_b2_some H
          refine jr_callV (ci := 10) [.int v113, .int v114] my_X10_walk mv_X10_walk ml_RL_90 dL_law_722 rfl rfl (Nat.le_of_ble_eq_true rfl) rfl (c_X10_walk l (d + 406) F x1 v113 v114 h v116 h115 Hc) ?_
          refine jr_aload_n dL_law_725 rfl rfl ?_
          refine jr_scr (kv := 1) dL_law_726 dL_law_727 dL_law_729 dL_law_730 dL_law_731 (by decide) rfl H (fun v117 H => ?_)
          refine jr_scr (kv := 2) dL_law_732 dL_law_733 dL_law_735 dL_law_736 dL_law_737 (by decide) rfl H (fun v118 H => ?_)
          obtain ⟨v120, h119, Hc, H⟩ := j_b2_some H
          refine jr_callV (ci := 11) [.int v117, .int v118] my_X11_walk mv_X11_walk ml_RL_93 dL_law_738 rfl rfl (Nat.le_of_ble_eq_true rfl) rfl (c_X11_walk l (d + 406) F x2 v117 v118 h115 v120 h119 Hc) ?_
          refine jr_icmp_eq (tgt := 1534) dL_law_741 (by decide) H (fun H => ?_) (fun H => ?_)
          · exact hJ1534 _ H
          · refine jr_iconst (v := 0) dL_law_744 (by decide) ?_
            exact jr_zret rfl rfl dL_law_745 H
        rw [if_neg q13] at H
        by_cases q14 : (v9 &&& (63 : Int32)) = 14
        · rw [if_pos q14] at H
          refine jr_table (tgt := 746) dL_law_39 (707) (by rw [q14]; decide) (by decide) (by decide) (by decide) ?_
          refine jr_aload_n dL_law_746 rfl rfl ?_
          refine jr_scr (kv := 1) dL_law_747 dL_law_748 dL_law_750 dL_law_751 dL_law_752 (by decide) rfl H (fun v121 H => ?_)
          obtain ⟨v123, h122, Hc, H⟩ := j_b2_some H
          refine jr_callV (ci := 10) [.int v121] my_X10_pause mv_X10_pause ml_RL_94 dL_law_753 rfl rfl (Nat.le_of_ble_eq_true rfl) rfl (c_X10_pause l (d + 406) F x1 v121 h v123 h122 Hc) ?_
          refine jr_aload_n dL_law_756 rfl rfl ?_
          refine jr_scr (kv := 1) dL_law_757 dL_law_758 dL_law_760 dL_law_761 dL_law_762 (by decide) rfl H (fun v124 H => ?_)
          obtain ⟨v126, h125, Hc, H⟩ := j_b2_some H
          refine jr_callV (ci := 11) [.int v124] my_X11_pause mv_X11_pause ml_RL_97 dL_law_763 rfl rfl (Nat.le_of_ble_eq_true rfl) rfl (c_X11_pause l (d + 407) F x2 v124 h122 v126 h125 Hc) ?_
          refine jr_icmp_eq (tgt := 1534) dL_law_766 (by decide) H (fun H => ?_) (fun H => ?_)
          · exact hJ1534 _ H
          · refine jr_iconst (v := 0) dL_law_769 (by decide) ?_
            exact jr_zret rfl rfl dL_law_770 H
        rw [if_neg q14] at H
        by_cases q15 : (v9 &&& (63 : Int32)) = 15
        · rw [if_pos q15] at H
          refine jr_table (tgt := 771) dL_law_39 (732) (by rw [q15]; decide) (by decide) (by decide) (by decide) ?_
          refine jr_aload_n dL_law_771 rfl rfl ?_
          refine jr_scr (kv := 1) dL_law_772 dL_law_773 dL_law_775 dL_law_776 dL_law_777 (by decide) rfl H (fun v127 H => ?_)
          refine jr_scr (kv := 2) dL_law_778 dL_law_779 dL_law_781 dL_law_782 dL_law_783 (by decide) rfl H (fun v128 H => ?_)
          obtain ⟨v130, h129, Hc, H⟩ := j_b2_some H
          refine jr_callV (ci := 10) [.int v127, .int v128] my_X10_say mv_X10_say ml_RL_98 dL_law_784 rfl rfl (Nat.le_of_ble_eq_true rfl) rfl (c_X10_say l (d + 405) F x1 v127 v128 h v130 h129 Hc) ?_
          refine jr_aload_n dL_law_787 rfl rfl ?_
          refine jr_scr (kv := 1) dL_law_788 dL_law_789 dL_law_791 dL_law_792 dL_law_793 (by decide) rfl H (fun v131 H => ?_)
          refine jr_scr (kv := 2) dL_law_794 dL_law_795 dL_law_797 dL_law_798 dL_law_799 (by decide) rfl H (fun v132 H => ?_)
          obtain ⟨v134, h133, Hc, H⟩ := j_b2_some H
          refine jr_callV (ci := 11) [.int v131, .int v132] my_X11_say mv_X11_say ml_RL_101 dL_law_800 rfl rfl (Nat.le_of_ble_eq_true rfl) rfl (c_X11_say l (d + 3) F x2 v131 v132 h129 v134 h133 Hc) ?_
          refine jr_icmp_eq (tgt := 1534) dL_law_803 (by decide) H (fun H => ?_) (fun H => ?_)
          · exact hJ1534 _ H
          · refine jr_iconst (v := 0) dL_law_806 (by decide) ?_
            exact jr_zret rfl rfl dL_law_807 H
        rw [if_neg q15] at H
        by_cases q16 : (v9 &&& (63 : Int32)) = 16
        · rw [if_pos q16] at H
          refine jr_table (tgt := 808) dL_law_39 (769) (by rw [q16]; decide) (by decide) (by decide) (by decide) ?_
          refine jr_aload_n dL_law_808 rfl rfl ?_
          refine jr_scr (kv := 1) dL_law_809 dL_law_810 dL_law_812 dL_law_813 dL_law_814 (by decide) rfl H (fun v135 H => ?_)
          refine jr_scr (kv := 2) dL_law_815 dL_law_816 dL_law_818 dL_law_819 dL_law_820 (by decide) rfl H (fun v136 H => ?_)
          refine jr_scr (kv := 3) dL_law_821 dL_law_822 dL_law_824 dL_law_825 dL_law_826 (by decide) rfl H (fun v137 H => ?_)
          obtain ⟨v139, h138, Hc, H⟩ := j_b2_some H
          refine jr_callV (ci := 10) [.int v135, .int v136, .int v137] my_X10_alms mv_X10_alms ml_RL_102 dL_law_827 rfl rfl (Nat.le_of_ble_eq_true rfl) rfl (c_X10_alms l (d + 406) F x1 v135 v136 v137 h v139 h138 Hc) ?_
          refine jr_aload_n dL_law_830 rfl rfl ?_
          refine jr_scr (kv := 1) dL_law_831 dL_law_832 dL_law_834 dL_law_835 dL_law_836 (by decide) rfl H (fun v140 H => ?_)
          refine jr_scr (kv := 2) dL_law_837 dL_law_838 dL_law_840 dL_law_841 dL_law_842 (by decide) rfl H (fun v141 H => ?_)
          refine jr_scr (kv := 3) dL_law_843 dL_law_844 dL_law_846 dL_law_847 dL_law_848 (by decide) rfl H (fun v142 H => ?_)
          obtain ⟨v144, h143, Hc, H⟩ := j_b2_some H
          refine jr_callV (ci := 11) [.int v140, .int v141, .int v142] my_X11_alms mv_X11_alms ml_RL_106 dL_law_849 rfl rfl (Nat.le_of_ble_eq_true rfl) rfl (c_X11_alms l (d + 407) F x2 v140 v141 v142 h138 v144 h143 Hc) ?_
          refine jr_icmp_eq (tgt := 1534) dL_law_852 (by decide) H (fun H => ?_) (fun H => ?_)
          · exact hJ1534 _ H
          · refine jr_iconst (v := 0) dL_law_855 (by decide) ?_
            exact jr_zret rfl rfl dL_law_856 H
        rw [if_neg q16] at H
        by_cases q17 : (v9 &&& (63 : Int32)) = 17
        · rw [if_pos q17] at H
          refine jr_table (tgt := 857) dL_law_39 (818) (by rw [q17]; decide) (by decide) (by decide) (by decide) ?_
          refine jr_aload_n dL_law_857 rfl rfl ?_
          obtain ⟨v146, h145, Hc, H⟩ := j_b2_some H
          refine jr_callV (ci := 10) [] my_X10_journey mv_X10_journey ml_RL_107 dL_law_858 rfl rfl (Nat.le_of_ble_eq_true rfl) rfl (c_X10_journey l (d + 403) F x1 h v146 h145 Hc) ?_
          refine jr_aload_n dL_law_861 rfl rfl ?_
          obtain ⟨v148, h147, Hc, H⟩ := j_b2_some H
          refine jr_callV (ci := 11) [] my_X11_journey mv_X11_journey ml_RL_110 dL_law_862 rfl rfl (Nat.le_of_ble_eq_true rfl) rfl (c_X11_journey l d F x2 h145 v148 h147 Hc) ?_
          refine jr_icmp_eq (tgt := 1534) dL_law_865 (by decide) H (fun H => ?_) (fun H => ?_)
          · exact hJ1534 _ H
          · refine jr_iconst (v := 0) dL_law_868 (by decide) ?_
            exact jr_zret rfl rfl dL_law_869 H
        rw [if_neg q17] at H
        by_cases q18 : (v9 &&& (63 : Int32)) = 18
        · rw [if_pos q18] at H
          refine jr_table (tgt := 870) dL_law_39 (831) (by rw [q18]; decide) (by decide) (by decide) (by decide) ?_
          refine jr_aload_n dL_law_870 rfl rfl ?_
          obtain ⟨v150, h149, Hc, H⟩ := j_b2_some H
          refine jr_callV (ci := 10) [] my_X10_undo mv_X10_undo ml_RL_111 dL_law_871 rfl rfl (Nat.le_of_ble_eq_true rfl) rfl (c_X10_undo l (d + 405) F x1 h v150 h149 Hc) ?_
          refine jr_aload_n dL_law_874 rfl rfl ?_
          obtain ⟨v152, h151, Hc, H⟩ := j_b2_some H
          refine jr_callV (ci := 11) [] my_X11_undo mv_X11_undo ml_RL_114 dL_law_875 rfl rfl (Nat.le_of_ble_eq_true rfl) rfl (c_X11_undo l (d + 409) F x2 h149 v152 h151 Hc) ?_
          refine jr_icmp_eq (tgt := 1534) dL_law_878 (by decide) H (fun H => ?_) (fun H => ?_)
          · exact hJ1534 _ H
          · refine jr_iconst (v := 0) dL_law_881 (by decide) ?_
            exact jr_zret rfl rfl dL_law_882 H
        rw [if_neg q18] at H
        by_cases q19 : (v9 &&& (63 : Int32)) = 19
        · rw [if_pos q19] at H
          refine jr_table (tgt := 883) dL_law_39 (844) (by rw [q19]; decide) (by decide) (by decide) (by decide) ?_
          refine jr_aload_n dL_law_883 rfl rfl ?_
          refine jr_scr (kv := 1) dL_law_884 dL_law_885 dL_law_887 dL_law_888 dL_law_889 (by decide) rfl H (fun v153 H => ?_)
          refine jr_scr (kv := 2) dL_law_890 dL_law_891 dL_law_893 dL_law_894 dL_law_895 (by decide) rfl H (fun v154 H => ?_)
          obtain ⟨v156, h155, Hc, H⟩ := j_b2_some H
          refine jr_callV (ci := 10) [.int v153, .int v154] my_X10_cheapest mv_X10_cheapest ml_RL_115 dL_law_896 rfl rfl (Nat.le_of_ble_eq_true rfl) rfl (c_X10_cheapest l (d + 405) F x1 v153 v154 h v156 h155 Hc) ?_
          refine jr_aload_n dL_law_899 rfl rfl ?_
          refine jr_scr (kv := 1) dL_law_900 dL_law_901 dL_law_903 dL_law_904 dL_law_905 (by decide) rfl H (fun v157 H => ?_)
          refine jr_scr (kv := 2) dL_law_906 dL_law_907 dL_law_909 dL_law_910 dL_law_911 (by decide) rfl H (fun v158 H => ?_)
          obtain ⟨v160, h159, Hc, H⟩ := j_b2_some H
          refine jr_callV (ci := 11) [.int v157, .int v158] my_X11_cheapest mv_X11_cheapest ml_RL_118 dL_law_912 rfl rfl (Nat.le_of_ble_eq_true rfl) rfl (c_X11_cheapest l (d + 2) F x2 v157 v158 h155 v160 h159 Hc) ?_
          refine jr_icmp_eq (tgt := 1534) dL_law_915 (by decide) H (fun H => ?_) (fun H => ?_)
          · exact hJ1534 _ H
          · refine jr_iconst (v := 0) dL_law_918 (by decide) ?_
            exact jr_zret rfl rfl dL_law_919 H
        rw [if_neg q19] at H
        by_cases q20 : (v9 &&& (63 : Int32)) = 20
        · rw [if_pos q20] at H
          refine jr_table (tgt := 920) dL_law_39 (881) (by rw [q20]; decide) (by decide) (by decide) (by decide) ?_
          refine jr_aload_n dL_law_920 rfl rfl ?_
          refine jr_scr (kv := 1) dL_law_921 dL_law_922 dL_law_924 dL_law_925 dL_law_926 (by decide) rfl H (fun v161 H => ?_)
          obtain ⟨v163, h162, Hc, H⟩ := j_b2_some H
          refine jr_callV (ci := 10) [.int v161] my_X10_sentence mv_X10_sentence ml_RL_119 dL_law_927 rfl rfl (Nat.le_of_ble_eq_true rfl) rfl (c_X10_sentence l (d + 405) F x1 v161 h v163 h162 Hc) ?_
          refine jr_aload_n dL_law_930 rfl rfl ?_
          refine jr_scr (kv := 1) dL_law_931 dL_law_932 dL_law_934 dL_law_935 dL_law_936 (by decide) rfl H (fun v164 H => ?_)
          obtain ⟨v166, h165, Hc, H⟩ := j_b2_some H
          refine jr_callV (ci := 11) [.int v164] my_X11_sentence mv_X11_sentence ml_RL_122 dL_law_937 rfl rfl (Nat.le_of_ble_eq_true rfl) rfl (c_X11_sentence l (d + 3) F x2 v164 h162 v166 h165 Hc) ?_
          refine jr_icmp_eq (tgt := 1534) dL_law_940 (by decide) H (fun H => ?_) (fun H => ?_)
          · exact hJ1534 _ H
          · refine jr_iconst (v := 0) dL_law_943 (by decide) ?_
            exact jr_zret rfl rfl dL_law_944 H
        rw [if_neg q20] at H
        by_cases q21 : (v9 &&& (63 : Int32)) = 21
        · rw [if_pos q21] at H
          refine jr_table (tgt := 945) dL_law_39 (906) (by rw [q21]; decide) (by decide) (by decide) (by decide) ?_
          refine jr_aload_n dL_law_945 rfl rfl ?_
          refine jr_scr (kv := 1) dL_law_946 dL_law_947 dL_law_949 dL_law_950 dL_law_951 (by decide) rfl H (fun v167 H => ?_)
          refine jr_scr (kv := 2) dL_law_952 dL_law_953 dL_law_955 dL_law_956 dL_law_957 (by decide) rfl H (fun v168 H => ?_)
          obtain ⟨v170, h169, Hc, H⟩ := j_b2_some H
          refine jr_callV (ci := 10) [.int v167, .int v168] my_X10_when mv_X10_when ml_RL_123 dL_law_958 rfl rfl (Nat.le_of_ble_eq_true rfl) rfl (c_X10_when l (d + 406) F x1 v167 v168 h v170 h169 Hc) ?_
          refine jr_aload_n dL_law_961 rfl rfl ?_
          refine jr_scr (kv := 1) dL_law_962 dL_law_963 dL_law_965 dL_law_966 dL_law_967 (by decide) rfl H (fun v171 H => ?_)
          refine jr_scr (kv := 2) dL_law_968 dL_law_969 dL_law_971 dL_law_972 dL_law_973 (by decide) rfl H (fun v172 H => ?_)
          obtain ⟨v174, h173, Hc, H⟩ := j_b2_some H
          refine jr_callV (ci := 11) [.int v171, .int v172] my_X11_when mv_X11_when ml_RL_126 dL_law_974 rfl rfl (Nat.le_of_ble_eq_true rfl) rfl (c_X11_when l (d + 3) F x2 v171 v172 h169 v174 h173 Hc) ?_
          refine jr_icmp_eq (tgt := 1534) dL_law_977 (by decide) H (fun H => ?_) (fun H => ?_)
          · exact hJ1534 _ H
          · refine jr_iconst (v := 0) dL_law_980 (by decide) ?_
            exact jr_zret rfl rfl dL_law_981 H
        rw [if_neg q21] at H
        by_cases q22 : (v9 &&& (63 : Int32)) = 22
        · rw [if_pos q22] at H
          refine jr_table (tgt := 982) dL_law_39 (943) (by rw [q22]; decide) (by decide) (by decide) (by decide) ?_
          refine jr_aload_n dL_law_982 rfl rfl ?_
          refine jr_scr (kv := 1) dL_law_983 dL_law_984 dL_law_986 dL_law_987 dL_law_988 (by decide) rfl H (fun v175 H => ?_)
          refine jr_scr (kv := 2) dL_law_989 dL_law_990 dL_law_992 dL_law_993 dL_law_994 (by decide) rfl H (fun v176 H => ?_)
          refine jr_scr (kv := 3) dL_law_995 dL_law_996 dL_law_998 dL_law_999 dL_law_1000 (by decide) rfl H (fun v177 H => ?_)
          obtain ⟨v179, h178, Hc, H⟩ := j_b2_some H
          refine jr_callV (ci := 10) [.int v175, .int v176, .int v177] my_X10_shortest mv_X10_shortest ml_RL_127 dL_law_1001 rfl rfl (Nat.le_of_ble_eq_true rfl) rfl (c_X10_shortest l (d + 405) F x1 v175 v176 v177 h v179 h178 Hc) ?_
          refine jr_aload_n dL_law_1004 rfl rfl ?_
          refine jr_scr (kv := 1) dL_law_1005 dL_law_1006 dL_law_1008 dL_law_1009 dL_law_1010 (by decide) rfl H (fun v180 H => ?_)
          refine jr_scr (kv := 2) dL_law_1011 dL_law_1012 dL_law_1014 dL_law_1015 dL_law_1016 (by decide) rfl H (fun v181 H => ?_)
          refine jr_scr (kv := 3) dL_law_1017 dL_law_1018 dL_law_1020 dL_law_1021 dL_law_1022 (by decide) rfl H (fun v182 H => ?_)
          obtain ⟨v184, h183, Hc, H⟩ := j_b2_some H
          refine jr_callV (ci := 11) [.int v180, .int v181, .int v182] my_X11_shortest mv_X11_shortest ml_RL_130 dL_law_1023 rfl rfl (Nat.le_of_ble_eq_true rfl) rfl (c_X11_shortest l (d + 3) F x2 v180 v181 v182 h178 v184 h183 Hc) ?_
          refine jr_icmp_eq (tgt := 1534) dL_law_1026 (by decide) H (fun H => ?_) (fun H => ?_)
          · exact hJ1534 _ H
          · refine jr_iconst (v := 0) dL_law_1029 (by decide) ?_
            exact jr_zret rfl rfl dL_law_1030 H
        rw [if_neg q22] at H
        by_cases q23 : (v9 &&& (63 : Int32)) = 23
        · rw [if_pos q23] at H
          refine jr_table (tgt := 1031) dL_law_39 (992) (by rw [q23]; decide) (by decide) (by decide) (by decide) ?_
          refine jr_aload_n dL_law_1031 rfl rfl ?_
          refine jr_scr (kv := 1) dL_law_1032 dL_law_1033 dL_law_1035 dL_law_1036 dL_law_1037 (by decide) rfl H (fun v185 H => ?_)
          refine jr_scr (kv := 2) dL_law_1038 dL_law_1039 dL_law_1041 dL_law_1042 dL_law_1043 (by decide) rfl H (fun v186 H => ?_)
          obtain ⟨v188, h187, Hc, H⟩ := j_b2_some H
          refine jr_callV (ci := 10) [.int v185, .int v186] my_X10_differ mv_X10_differ ml_RL_131 dL_law_1044 rfl rfl (Nat.le_of_ble_eq_true rfl) rfl (c_X10_differ l (d + 406) F x1 v185 v186 h v188 h187 Hc) ?_
          refine jr_aload_n dL_law_1047 rfl rfl ?_
          refine jr_scr (kv := 1) dL_law_1048 dL_law_1049 dL_law_1051 dL_law_1052 dL_law_1053 (by decide) rfl H (fun v189 H => ?_)
          refine jr_scr (kv := 2) dL_law_1054 dL_law_1055 dL_law_1057 dL_law_1058 dL_law_1059 (by decide) rfl H (fun v190 H => ?_)
          obtain ⟨v192, h191, Hc, H⟩ := j_b2_some H
          refine jr_callV (ci := 11) [.int v189, .int v190] my_X11_differ mv_X11_differ ml_RL_134 dL_law_1060 rfl rfl (Nat.le_of_ble_eq_true rfl) rfl (c_X11_differ l (d + 406) F x2 v189 v190 h187 v192 h191 Hc) ?_
          refine jr_icmp_eq (tgt := 1534) dL_law_1063 (by decide) H (fun H => ?_) (fun H => ?_)
          · exact hJ1534 _ H
          · refine jr_iconst (v := 0) dL_law_1066 (by decide) ?_
            exact jr_zret rfl rfl dL_law_1067 H
        rw [if_neg q23] at H
        by_cases q24 : (v9 &&& (63 : Int32)) = 24
        · rw [if_pos q24] at H
          refine jr_table (tgt := 1068) dL_law_39 (1029) (by rw [q24]; decide) (by decide) (by decide) (by decide) ?_
          refine jr_aload_n dL_law_1068 rfl rfl ?_
          refine jr_scr (kv := 1) dL_law_1069 dL_law_1070 dL_law_1072 dL_law_1073 dL_law_1074 (by decide) rfl H (fun v193 H => ?_)
          obtain ⟨v195, h194, Hc, H⟩ := j_b2_some H
          refine jr_callV (ci := 10) [.int v193] my_X10_near mv_X10_near ml_RL_135 dL_law_1075 rfl rfl (Nat.le_of_ble_eq_true rfl) rfl (c_X10_near l (d + 406) F x1 v193 h v195 h194 Hc) ?_
          refine jr_aload_n dL_law_1078 rfl rfl ?_
          refine jr_scr (kv := 1) dL_law_1079 dL_law_1080 dL_law_1082 dL_law_1083 dL_law_1084 (by decide) rfl H (fun v196 H => ?_)
          obtain ⟨v198, h197, Hc, H⟩ := j_b2_some H
          refine jr_callV (ci := 11) [.int v196] my_X11_near mv_X11_near ml_RL_138 dL_law_1085 rfl rfl (Nat.le_of_ble_eq_true rfl) rfl (c_X11_near l (d + 406) F x2 v196 h194 v198 h197 Hc) ?_
          refine jr_icmp_eq (tgt := 1534) dL_law_1088 (by decide) H (fun H => ?_) (fun H => ?_)
          · exact hJ1534 _ H
          · refine jr_iconst (v := 0) dL_law_1091 (by decide) ?_
            exact jr_zret rfl rfl dL_law_1092 H
        rw [if_neg q24] at H
        by_cases q25 : (v9 &&& (63 : Int32)) = 25
        · rw [if_pos q25] at H
          refine jr_table (tgt := 1093) dL_law_39 (1054) (by rw [q25]; decide) (by decide) (by decide) (by decide) ?_
          refine jr_aload_n dL_law_1093 rfl rfl ?_
          refine jr_scr (kv := 1) dL_law_1094 dL_law_1095 dL_law_1097 dL_law_1098 dL_law_1099 (by decide) rfl H (fun v199 H => ?_)
          refine jr_scr (kv := 2) dL_law_1100 dL_law_1101 dL_law_1103 dL_law_1104 dL_law_1105 (by decide) rfl H (fun v200 H => ?_)
          refine jr_scr (kv := 3) dL_law_1106 dL_law_1107 dL_law_1109 dL_law_1110 dL_law_1111 (by decide) rfl H (fun v201 H => ?_)
          obtain ⟨v203, h202, Hc, H⟩ := j_b2_some H
          refine jr_callV (ci := 10) [.int v199, .int v200, .int v201] my_X10_heard mv_X10_heard ml_RL_139 dL_law_1112 rfl rfl (Nat.le_of_ble_eq_true rfl) rfl (c_X10_heard l (d + 407) F x1 v199 v200 v201 h v203 h202 Hc) ?_
          refine jr_aload_n dL_law_1115 rfl rfl ?_
          refine jr_scr (kv := 1) dL_law_1116 dL_law_1117 dL_law_1119 dL_law_1120 dL_law_1121 (by decide) rfl H (fun v204 H => ?_)
          refine jr_scr (kv := 2) dL_law_1122 dL_law_1123 dL_law_1125 dL_law_1126 dL_law_1127 (by decide) rfl H (fun v205 H => ?_)
          refine jr_scr (kv := 3) dL_law_1128 dL_law_1129 dL_law_1131 dL_law_1132 dL_law_1133 (by decide) rfl H (fun v206 H => ?_)
          obtain ⟨v208, h207, Hc, H⟩ := j_b2_some H
          refine jr_callV (ci := 11) [.int v204, .int v205, .int v206] my_X11_heard mv_X11_heard ml_RL_142 dL_law_1134 rfl rfl (Nat.le_of_ble_eq_true rfl) rfl (c_X11_heard l (d + 208) F x2 v204 v205 v206 h202 v208 h207 Hc) ?_
          refine jr_icmp_eq (tgt := 1534) dL_law_1137 (by decide) H (fun H => ?_) (fun H => ?_)
          · exact hJ1534 _ H
          · refine jr_iconst (v := 0) dL_law_1140 (by decide) ?_
            exact jr_zret rfl rfl dL_law_1141 H
        rw [if_neg q25] at H
        by_cases q26 : (v9 &&& (63 : Int32)) = 26
        · rw [if_pos q26] at H
          refine jr_table (tgt := 1142) dL_law_39 (1103) (by rw [q26]; decide) (by decide) (by decide) (by decide) ?_
          refine jr_aload_n dL_law_1142 rfl rfl ?_
          refine jr_scr (kv := 1) dL_law_1143 dL_law_1144 dL_law_1146 dL_law_1147 dL_law_1148 (by decide) rfl H (fun v209 H => ?_)
          obtain ⟨v211, h210, Hc, H⟩ := j_b2_some H
          refine jr_callV (ci := 10) [.int v209] my_X10_code mv_X10_code ml_RL_143 dL_law_1149 rfl rfl (Nat.le_of_ble_eq_true rfl) rfl (c_X10_code l (d + 405) F x1 v209 h v211 h210 Hc) ?_
          refine jr_aload_n dL_law_1152 rfl rfl ?_
          refine jr_scr (kv := 1) dL_law_1153 dL_law_1154 dL_law_1156 dL_law_1157 dL_law_1158 (by decide) rfl H (fun v212 H => ?_)
          obtain ⟨v214, h213, Hc, H⟩ := j_b2_some H
          refine jr_callV (ci := 11) [.int v212] my_X11_code mv_X11_code ml_RL_146 dL_law_1159 rfl rfl (Nat.le_of_ble_eq_true rfl) rfl (c_X11_code l (d + 2) F x2 v212 h210 v214 h213 Hc) ?_
          refine jr_icmp_eq (tgt := 1534) dL_law_1162 (by decide) H (fun H => ?_) (fun H => ?_)
          · exact hJ1534 _ H
          · refine jr_iconst (v := 0) dL_law_1165 (by decide) ?_
            exact jr_zret rfl rfl dL_law_1166 H
        rw [if_neg q26] at H
        by_cases q27 : (v9 &&& (63 : Int32)) = 27
        · rw [if_pos q27] at H
          refine jr_table (tgt := 1167) dL_law_39 (1128) (by rw [q27]; decide) (by decide) (by decide) (by decide) ?_
          refine jr_aload_n dL_law_1167 rfl rfl ?_
          refine jr_scr (kv := 1) dL_law_1168 dL_law_1169 dL_law_1171 dL_law_1172 dL_law_1173 (by decide) rfl H (fun v215 H => ?_)
          refine jr_scr (kv := 2) dL_law_1174 dL_law_1175 dL_law_1177 dL_law_1178 dL_law_1179 (by decide) rfl H (fun v216 H => ?_)
          obtain ⟨v218, h217, Hc, H⟩ := j_b2_some H
          refine jr_callV (ci := 10) [.int v215, .int v216] my_X10_trip mv_X10_trip ml_RL_147 dL_law_1180 rfl rfl (Nat.le_of_ble_eq_true rfl) rfl (c_X10_trip l (d + 404) F x1 v215 v216 h v218 h217 Hc) ?_
          refine jr_aload_n dL_law_1183 rfl rfl ?_
          refine jr_scr (kv := 1) dL_law_1184 dL_law_1185 dL_law_1187 dL_law_1188 dL_law_1189 (by decide) rfl H (fun v219 H => ?_)
          refine jr_scr (kv := 2) dL_law_1190 dL_law_1191 dL_law_1193 dL_law_1194 dL_law_1195 (by decide) rfl H (fun v220 H => ?_)
          obtain ⟨v222, h221, Hc, H⟩ := j_b2_some H
          refine jr_callV (ci := 11) [.int v219, .int v220] my_X11_trip mv_X11_trip ml_RL_150 dL_law_1196 rfl rfl (Nat.le_of_ble_eq_true rfl) rfl (c_X11_trip l (d + 2) F x2 v219 v220 h217 v222 h221 Hc) ?_
          refine jr_icmp_eq (tgt := 1534) dL_law_1199 (by decide) H (fun H => ?_) (fun H => ?_)
          · exact hJ1534 _ H
          · refine jr_iconst (v := 0) dL_law_1202 (by decide) ?_
            exact jr_zret rfl rfl dL_law_1203 H
        rw [if_neg q27] at H
        by_cases q28 : (v9 &&& (63 : Int32)) = 28
        · rw [if_pos q28] at H
          refine jr_table (tgt := 1204) dL_law_39 (1165) (by rw [q28]; decide) (by decide) (by decide) (by decide) ?_
          refine jr_aload_n dL_law_1204 rfl rfl ?_
          refine jr_scr (kv := 1) dL_law_1205 dL_law_1206 dL_law_1208 dL_law_1209 dL_law_1210 (by decide) rfl H (fun v223 H => ?_)
          obtain ⟨v225, h224, Hc, H⟩ := j_b2_some H
          refine jr_callV (ci := 10) [.int v223] my_X10_haste mv_X10_haste ml_RL_151 dL_law_1211 rfl rfl (Nat.le_of_ble_eq_true rfl) rfl (c_X10_haste l (d + 404) F x1 v223 h v225 h224 Hc) ?_
          refine jr_aload_n dL_law_1214 rfl rfl ?_
          refine jr_scr (kv := 1) dL_law_1215 dL_law_1216 dL_law_1218 dL_law_1219 dL_law_1220 (by decide) rfl H (fun v226 H => ?_)
          obtain ⟨v228, h227, Hc, H⟩ := j_b2_some H
          refine jr_callV (ci := 11) [.int v226] my_X11_haste mv_X11_haste ml_RL_154 dL_law_1221 rfl rfl (Nat.le_of_ble_eq_true rfl) rfl (c_X11_haste l (d + 2) F x2 v226 h224 v228 h227 Hc) ?_
          refine jr_icmp_eq (tgt := 1534) dL_law_1224 (by decide) H (fun H => ?_) (fun H => ?_)
          · exact hJ1534 _ H
          · refine jr_iconst (v := 0) dL_law_1227 (by decide) ?_
            exact jr_zret rfl rfl dL_law_1228 H
        rw [if_neg q28] at H
        by_cases q29 : (v9 &&& (63 : Int32)) = 29
        · rw [if_pos q29] at H
          refine jr_table (tgt := 1229) dL_law_39 (1190) (by rw [q29]; decide) (by decide) (by decide) (by decide) ?_
          refine jr_aload_n dL_law_1229 rfl rfl ?_
          refine jr_scr (kv := 1) dL_law_1230 dL_law_1231 dL_law_1233 dL_law_1234 dL_law_1235 (by decide) rfl H (fun v229 H => ?_)
          obtain ⟨v231, h230, Hc, H⟩ := j_b2_some H
          refine jr_callV (ci := 10) [.int v229] my_X10_best mv_X10_best ml_RL_155 dL_law_1236 rfl rfl (Nat.le_of_ble_eq_true rfl) rfl (c_X10_best l (d + 404) F x1 v229 h v231 h230 Hc) ?_
          refine jr_aload_n dL_law_1239 rfl rfl ?_
          refine jr_scr (kv := 1) dL_law_1240 dL_law_1241 dL_law_1243 dL_law_1244 dL_law_1245 (by decide) rfl H (fun v232 H => ?_)
          obtain ⟨v234, h233, Hc, H⟩ := j_b2_some H
          refine jr_callV (ci := 11) [.int v232] my_X11_best mv_X11_best ml_RL_158 dL_law_1246 rfl rfl (Nat.le_of_ble_eq_true rfl) rfl (c_X11_best l (d + 2) F x2 v232 h230 v234 h233 Hc) ?_
          refine jr_icmp_eq (tgt := 1534) dL_law_1249 (by decide) H (fun H => ?_) (fun H => ?_)
          · exact hJ1534 _ H
          · refine jr_iconst (v := 0) dL_law_1252 (by decide) ?_
            exact jr_zret rfl rfl dL_law_1253 H
        rw [if_neg q29] at H
        by_cases q30 : (v9 &&& (63 : Int32)) = 30
        · rw [if_pos q30] at H
          refine jr_table (tgt := 1254) dL_law_39 (1215) (by rw [q30]; decide) (by decide) (by decide) (by decide) ?_
          refine jr_aload_n dL_law_1254 rfl rfl ?_
          refine jr_scr (kv := 1) dL_law_1255 dL_law_1256 dL_law_1258 dL_law_1259 dL_law_1260 (by decide) rfl H (fun v235 H => ?_)
          refine jr_scr (kv := 2) dL_law_1261 dL_law_1262 dL_law_1264 dL_law_1265 dL_law_1266 (by decide) rfl H (fun v236 H => ?_)
          obtain ⟨v238, h237, Hc, H⟩ := j_b2_some H
          refine jr_callV (ci := 10) [.int v235, .int v236] my_X10_takes mv_X10_takes ml_RL_159 dL_law_1267 rfl rfl (Nat.le_of_ble_eq_true rfl) rfl (c_X10_takes l (d + 405) F x1 v235 v236 h v238 h237 Hc) ?_
          refine jr_aload_n dL_law_1270 rfl rfl ?_
          refine jr_scr (kv := 1) dL_law_1271 dL_law_1272 dL_law_1274 dL_law_1275 dL_law_1276 (by decide) rfl H (fun v239 H => ?_)
          refine jr_scr (kv := 2) dL_law_1277 dL_law_1278 dL_law_1280 dL_law_1281 dL_law_1282 (by decide) rfl H (fun v240 H => ?_)
          obtain ⟨v242, h241, Hc, H⟩ := j_b2_some H
          refine jr_callV (ci := 11) [.int v239, .int v240] my_X11_takes mv_X11_takes ml_RL_162 dL_law_1283 rfl rfl (Nat.le_of_ble_eq_true rfl) rfl (c_X11_takes l (d + 2) F x2 v239 v240 h237 v242 h241 Hc) ?_
          refine jr_icmp_eq (tgt := 1534) dL_law_1286 (by decide) H (fun H => ?_) (fun H => ?_)
          · exact hJ1534 _ H
          · refine jr_iconst (v := 0) dL_law_1289 (by decide) ?_
            exact jr_zret rfl rfl dL_law_1290 H
        rw [if_neg q30] at H
        by_cases q31 : (v9 &&& (63 : Int32)) = 31
        · rw [if_pos q31] at H
          refine jr_table (tgt := 1291) dL_law_39 (1252) (by rw [q31]; decide) (by decide) (by decide) (by decide) ?_
          refine jr_aload_n dL_law_1291 rfl rfl ?_
          refine jr_scr (kv := 1) dL_law_1292 dL_law_1293 dL_law_1295 dL_law_1296 dL_law_1297 (by decide) rfl H (fun v243 H => ?_)
          obtain ⟨v245, h244, Hc, H⟩ := j_b2_some H
          refine jr_callV (ci := 10) [.int v243] my_X10_greed mv_X10_greed ml_RL_163 dL_law_1298 rfl rfl (Nat.le_of_ble_eq_true rfl) rfl (c_X10_greed l (d + 405) F x1 v243 h v245 h244 Hc) ?_
          refine jr_aload_n dL_law_1301 rfl rfl ?_
          refine jr_scr (kv := 1) dL_law_1302 dL_law_1303 dL_law_1305 dL_law_1306 dL_law_1307 (by decide) rfl H (fun v246 H => ?_)
          obtain ⟨v248, h247, Hc, H⟩ := j_b2_some H
          refine jr_callV (ci := 11) [.int v246] my_X11_greed mv_X11_greed ml_RL_166 dL_law_1308 rfl rfl (Nat.le_of_ble_eq_true rfl) rfl (c_X11_greed l (d + 2) F x2 v246 h244 v248 h247 Hc) ?_
          refine jr_icmp_eq (tgt := 1534) dL_law_1311 (by decide) H (fun H => ?_) (fun H => ?_)
          · exact hJ1534 _ H
          · refine jr_iconst (v := 0) dL_law_1314 (by decide) ?_
            exact jr_zret rfl rfl dL_law_1315 H
        rw [if_neg q31] at H
        by_cases q32 : (v9 &&& (63 : Int32)) = 32
        · rw [if_pos q32] at H
          refine jr_table (tgt := 1316) dL_law_39 (1277) (by rw [q32]; decide) (by decide) (by decide) (by decide) ?_
          refine jr_aload_n dL_law_1316 rfl rfl ?_
          refine jr_scr (kv := 1) dL_law_1317 dL_law_1318 dL_law_1320 dL_law_1321 dL_law_1322 (by decide) rfl H (fun v249 H => ?_)
          obtain ⟨v251, h250, Hc, H⟩ := j_b2_some H
          refine jr_callV (ci := 10) [.int v249] my_X10_law mv_X10_law ml_RL_167 dL_law_1323 rfl rfl (Nat.le_of_ble_eq_true rfl) rfl (c_X10_law l (d + 4) F x1 v249 h v251 h250 Hc) ?_
          refine jr_aload_n dL_law_1326 rfl rfl ?_
          refine jr_scr (kv := 1) dL_law_1327 dL_law_1328 dL_law_1330 dL_law_1331 dL_law_1332 (by decide) rfl H (fun v252 H => ?_)
          obtain ⟨v254, h253, Hc, H⟩ := j_b2_some H
          refine jr_callV (ci := 11) [.int v252] my_X11_law mv_X11_law ml_RL_170 dL_law_1333 rfl rfl (Nat.le_of_ble_eq_true rfl) rfl (c_X11_law l (d + 3) F x2 v252 h250 v254 h253 Hc) ?_
          refine jr_icmp_eq (tgt := 1534) dL_law_1336 (by decide) H (fun H => ?_) (fun H => ?_)
          · exact hJ1534 _ H
          · refine jr_iconst (v := 0) dL_law_1339 (by decide) ?_
            exact jr_zret rfl rfl dL_law_1340 H
        rw [if_neg q32] at H
        by_cases q33 : (v9 &&& (63 : Int32)) = 33
        · rw [if_pos q33] at H
          refine jr_table (tgt := 1341) dL_law_39 (1302) (by rw [q33]; decide) (by decide) (by decide) (by decide) ?_
          refine jr_aload_n dL_law_1341 rfl rfl ?_
          obtain ⟨v256, h255, Hc, H⟩ := j_b2_some H
          refine jr_callV (ci := 10) [] my_X10_said mv_X10_said ml_RL_171 dL_law_1342 rfl rfl (Nat.le_of_ble_eq_true rfl) rfl (c_X10_said l (d + 406) F x1 h v256 h255 Hc) ?_
          refine jr_aload_n dL_law_1345 rfl rfl ?_
          obtain ⟨v258, h257, Hc, H⟩ := j_b2_some H
          refine jr_callV (ci := 11) [] my_X11_said mv_X11_said ml_RL_174 dL_law_1346 rfl rfl (Nat.le_of_ble_eq_true rfl) rfl (c_X11_said l (d + 396) F x2 h255 v258 h257 Hc) ?_
          refine jr_icmp_eq (tgt := 1534) dL_law_1349 (by decide) H (fun H => ?_) (fun H => ?_)
          · exact hJ1534 _ H
          · refine jr_iconst (v := 0) dL_law_1352 (by decide) ?_
            exact jr_zret rfl rfl dL_law_1353 H
        rw [if_neg q33] at H
        by_cases q34 : (v9 &&& (63 : Int32)) = 34
        · rw [if_pos q34] at H
          refine jr_table (tgt := 1354) dL_law_39 (1315) (by rw [q34]; decide) (by decide) (by decide) (by decide) ?_
          refine jr_aload_n dL_law_1354 rfl rfl ?_
          obtain ⟨v260, h259, Hc, H⟩ := j_b2_some H
          refine jr_callV (ci := 10) [] my_X10_ask mv_X10_ask ml_RL_175 dL_law_1355 rfl rfl (Nat.le_of_ble_eq_true rfl) rfl (c_X10_ask l (d + 407) F x1 h v260 h259 Hc) ?_
          refine jr_aload_n dL_law_1358 rfl rfl ?_
          obtain ⟨v262, h261, Hc, H⟩ := j_b2_some H
          refine jr_callV (ci := 11) [] my_X11_ask mv_X11_ask ml_RL_178 dL_law_1359 rfl rfl (Nat.le_of_ble_eq_true rfl) rfl (c_X11_ask l (d + 407) F x2 h259 v262 h261 Hc) ?_
          refine jr_icmp_eq (tgt := 1534) dL_law_1362 (by decide) H (fun H => ?_) (fun H => ?_)
          · exact hJ1534 _ H
          · refine jr_iconst (v := 0) dL_law_1365 (by decide) ?_
            exact jr_zret rfl rfl dL_law_1366 H
        rw [if_neg q34] at H
        by_cases q35 : (v9 &&& (63 : Int32)) = 35
        · rw [if_pos q35] at H
          refine jr_table (tgt := 1367) dL_law_39 (1328) (by rw [q35]; decide) (by decide) (by decide) (by decide) ?_
          refine jr_aload_n dL_law_1367 rfl rfl ?_
          refine jr_scr (kv := 1) dL_law_1368 dL_law_1369 dL_law_1371 dL_law_1372 dL_law_1373 (by decide) rfl H (fun v263 H => ?_)
          refine jr_scr (kv := 2) dL_law_1374 dL_law_1375 dL_law_1377 dL_law_1378 dL_law_1379 (by decide) rfl H (fun v264 H => ?_)
          obtain ⟨v266, h265, Hc, H⟩ := j_b2_some H
          refine jr_callV (ci := 10) [.int v263, .int v264] my_X10_years mv_X10_years ml_RL_179 dL_law_1380 rfl rfl (Nat.le_of_ble_eq_true rfl) rfl (c_X10_years l (d + 404) F x1 v263 v264 h v266 h265 Hc) ?_
          refine jr_aload_n dL_law_1383 rfl rfl ?_
          refine jr_scr (kv := 1) dL_law_1384 dL_law_1385 dL_law_1387 dL_law_1388 dL_law_1389 (by decide) rfl H (fun v267 H => ?_)
          refine jr_scr (kv := 2) dL_law_1390 dL_law_1391 dL_law_1393 dL_law_1394 dL_law_1395 (by decide) rfl H (fun v268 H => ?_)
          obtain ⟨v270, h269, Hc, H⟩ := j_b2_some H
          refine jr_callV (ci := 11) [.int v267, .int v268] my_X11_years mv_X11_years ml_RL_182 dL_law_1396 rfl rfl (Nat.le_of_ble_eq_true rfl) rfl (c_X11_years l (d + 3) F x2 v267 v268 h265 v270 h269 Hc) ?_
          refine jr_icmp_eq (tgt := 1534) dL_law_1399 (by decide) H (fun H => ?_) (fun H => ?_)
          · exact hJ1534 _ H
          · refine jr_iconst (v := 0) dL_law_1402 (by decide) ?_
            exact jr_zret rfl rfl dL_law_1403 H
        rw [if_neg q35] at H
        by_cases q36 : (v9 &&& (63 : Int32)) = 36
        · rw [if_pos q36] at H
          refine jr_table (tgt := 1404) dL_law_39 (1365) (by rw [q36]; decide) (by decide) (by decide) (by decide) ?_
          refine jr_aload_n dL_law_1404 rfl rfl ?_
          refine jr_scr (kv := 1) dL_law_1405 dL_law_1406 dL_law_1408 dL_law_1409 dL_law_1410 (by decide) rfl H (fun v271 H => ?_)
          obtain ⟨v273, h272, Hc, H⟩ := j_b2_some H
          refine jr_callV (ci := 10) [.int v271] my_X10_keep mv_X10_keep ml_RL_183 dL_law_1411 rfl rfl (Nat.le_of_ble_eq_true rfl) rfl (c_X10_keep l (d + 407) F x1 v271 h v273 h272 Hc) ?_
          refine jr_aload_n dL_law_1414 rfl rfl ?_
          refine jr_scr (kv := 1) dL_law_1415 dL_law_1416 dL_law_1418 dL_law_1419 dL_law_1420 (by decide) rfl H (fun v274 H => ?_)
          obtain ⟨v276, h275, Hc, H⟩ := j_b2_some H
          refine jr_callV (ci := 11) [.int v274] my_X11_keep mv_X11_keep ml_RL_186 dL_law_1421 rfl rfl (Nat.le_of_ble_eq_true rfl) rfl (c_X11_keep l (d + 408) F x2 v274 h272 v276 h275 Hc) ?_
          refine jr_icmp_eq (tgt := 1534) dL_law_1424 (by decide) H (fun H => ?_) (fun H => ?_)
          · exact hJ1534 _ H
          · refine jr_iconst (v := 0) dL_law_1427 (by decide) ?_
            exact jr_zret rfl rfl dL_law_1428 H
        rw [if_neg q36] at H
        by_cases q37 : (v9 &&& (63 : Int32)) = 37
        · rw [if_pos q37] at H
          refine jr_table (tgt := 1429) dL_law_39 (1390) (by rw [q37]; decide) (by decide) (by decide) (by decide) ?_
          refine jr_aload_n dL_law_1429 rfl rfl ?_
          refine jr_scr (kv := 1) dL_law_1430 dL_law_1431 dL_law_1433 dL_law_1434 dL_law_1435 (by decide) rfl H (fun v277 H => ?_)
          obtain ⟨v279, h278, Hc, H⟩ := j_b2_some H
          refine jr_callV (ci := 10) [.int v277] my_X10_again mv_X10_again ml_RL_187 dL_law_1436 rfl rfl (Nat.le_of_ble_eq_true rfl) rfl (c_X10_again l (d + 407) F x1 v277 h v279 h278 Hc) ?_
          refine jr_aload_n dL_law_1439 rfl rfl ?_
          refine jr_scr (kv := 1) dL_law_1440 dL_law_1441 dL_law_1443 dL_law_1444 dL_law_1445 (by decide) rfl H (fun v280 H => ?_)
          obtain ⟨v282, h281, Hc, H⟩ := j_b2_some H
          refine jr_callV (ci := 11) [.int v280] my_X11_again mv_X11_again ml_RL_190 dL_law_1446 rfl rfl (Nat.le_of_ble_eq_true rfl) rfl (c_X11_again l (d + 408) F x2 v280 h278 v282 h281 Hc) ?_
          refine jr_icmp_eq (tgt := 1534) dL_law_1449 (by decide) H (fun H => ?_) (fun H => ?_)
          · exact hJ1534 _ H
          · refine jr_iconst (v := 0) dL_law_1452 (by decide) ?_
            exact jr_zret rfl rfl dL_law_1453 H
        rw [if_neg q37] at H
        by_cases q38 : (v9 &&& (63 : Int32)) = 38
        · rw [if_pos q38] at H
          refine jr_table (tgt := 1454) dL_law_39 (1415) (by rw [q38]; decide) (by decide) (by decide) (by decide) ?_
          refine jr_aload_n dL_law_1454 rfl rfl ?_
          refine jr_scr (kv := 1) dL_law_1455 dL_law_1456 dL_law_1458 dL_law_1459 dL_law_1460 (by decide) rfl H (fun v283 H => ?_)
          obtain ⟨v285, h284, Hc, H⟩ := j_b2_some H
          refine jr_callV (ci := 10) [.int v283] my_X10_count mv_X10_count ml_RL_191 dL_law_1461 rfl rfl (Nat.le_of_ble_eq_true rfl) rfl (c_X10_count l (d + 407) F x1 v283 h v285 h284 Hc) ?_
          refine jr_aload_n dL_law_1464 rfl rfl ?_
          refine jr_scr (kv := 1) dL_law_1465 dL_law_1466 dL_law_1468 dL_law_1469 dL_law_1470 (by decide) rfl H (fun v286 H => ?_)
          obtain ⟨v288, h287, Hc, H⟩ := j_b2_some H
          refine jr_callV (ci := 11) [.int v286] my_X11_count mv_X11_count ml_RL_194 dL_law_1471 rfl rfl (Nat.le_of_ble_eq_true rfl) rfl (c_X11_count l (d + 408) F x2 v286 h284 v288 h287 Hc) ?_
          refine jr_icmp_eq (tgt := 1534) dL_law_1474 (by decide) H (fun H => ?_) (fun H => ?_)
          · exact hJ1534 _ H
          · refine jr_iconst (v := 0) dL_law_1477 (by decide) ?_
            exact jr_zret rfl rfl dL_law_1478 H
        rw [if_neg q38] at H
        by_cases q39 : (v9 &&& (63 : Int32)) = 39
        · rw [if_pos q39] at H
          refine jr_table (tgt := 1479) dL_law_39 (1440) (by rw [q39]; decide) (by decide) (by decide) (by decide) ?_
          refine jr_aload_n dL_law_1479 rfl rfl ?_
          refine jr_scr (kv := 1) dL_law_1480 dL_law_1481 dL_law_1483 dL_law_1484 dL_law_1485 (by decide) rfl H (fun v289 H => ?_)
          refine jr_aload_n dL_law_1486 rfl rfl ?_
          obtain ⟨v291, h290, Hc, H⟩ := j_b2_some H
          refine jr_callSH [.ref x1, .int v289, .ref x3] rfl mh_L_row mhi_L_row mhn_L_row mhp_L_row (by decide) ms_L_row ml_RL_195 dL_law_1487 rfl rfl (Nat.le_of_ble_eq_true rfl) (c_L_row l (d + 402) hlt F x1 v289 x3 h v291 h290 Hc) ?_
          refine jr_istore dL_law_1490 (by decide) rfl (Or.inr (by decide)) ?_
          refine jr_aload_n dL_law_1492 rfl rfl ?_
          refine jr_scr (kv := 1) dL_law_1493 dL_law_1494 dL_law_1496 dL_law_1497 dL_law_1498 (by decide) rfl H (fun v292 H => ?_)
          obtain ⟨v294, h293, Hc, H⟩ := j_b2_some H
          refine jr_callV (ci := 11) [.int v292] my_X11_row mv_X11_row ml_RL_198 dL_law_1499 rfl rfl (Nat.le_of_ble_eq_true rfl) rfl (c_X11_row l (d + 408) F x2 v292 h290 v294 h293 Hc) ?_
          refine jr_lstore dL_law_1502 (by decide) rfl (Or.inr (by decide)) ?_
          refine jr_aload_n dL_law_1504 rfl rfl ?_
          obtain ⟨v296, h295, Hc, H⟩ := j_b2_some H
          refine jr_callV (ci := 11) [] my_X11_thrown mv_X11_thrown ml_RL_69 dL_law_1505 rfl rfl (Nat.le_of_ble_eq_true rfl) rfl (c_X11_thrown l (d + 409) F x2 h293 v296 h295 Hc) ?_
          refine jr_iload dL_law_1508 rfl ?_
          refine jr_icmp_eq (tgt := 1515) dL_law_1510 (by decide) H (fun H => ?_) (fun H => ?_)
          · refine jr_iload dL_law_1515 rfl ?_
            refine jr_jn (fun J => ∀ (h297 : jH), J h297 = some (rR, hf) → jGo l (d + 410) (some (.inr (L, xs))) RL cL_law 8 (some .boolean) false 1531 [none, some (.ref x1), some (.ref x2), some (.ref x3), some (.int x4), none, none, none] [] h297 (some (.int rR)) hf) H (fun h297 H => ?_) (fun J1531 hJ1531 H => ?_)
            · refine jr_goto (tgt := 1534) dL_law_1531 (by decide) ?_
              exact hJ1534 _ H
            · refine jr_if_ne (tgt := 1531) dL_law_1517 (by decide) H (fun H => ?_) (fun H => ?_)
              · refine jr_aload_n dL_law_1520 rfl rfl ?_
                refine jr_iconst (v := 0) dL_law_1521 (by decide) ?_
                refine jr_lald dL_law_1522 H (fun v298 H => ?_)
                refine jr_lload dL_law_1523 rfl ?_
                refine jr_lcmp dL_law_1525 ?_
                refine jr_if_eq (tgt := 1531) dL_law_1526 (by decide) H (fun H => ?_) (fun H => ?_)
                · refine jr_fgt 5 ?_
                  refine jr_fgt 6 ?_
                  exact hJ1531 _ H
                · refine jr_iconst (v := 0) dL_law_1529 (by decide) ?_
                  exact jr_zret rfl rfl dL_law_1530 H
              · refine jr_fgt 5 ?_
                refine jr_fgt 6 ?_
                exact hJ1531 _ H
          · refine jr_iconst (v := 0) dL_law_1513 (by decide) ?_
            exact jr_zret rfl rfl dL_law_1514 H
        rw [if_neg q39] at H
        have hdef : (if (v9 &&& (63 : Int32)).toInt < 0 ∨ 39 < (v9 &&& (63 : Int32)).toInt then (1495 : Int) else (#[173, 198, 223, 248, 261, 274, 287, 300, 368, 436, 504, 572, 633, 670, 707, 732, 769, 818, 831, 844, 881, 906, 943, 992, 1029, 1054, 1103, 1128, 1165, 1190, 1215, 1252, 1277, 1302, 1315, 1328, 1365, 1390, 1415, 1440] : Array Int).getD ((v9 &&& (63 : Int32)).toInt - 0).toNat 1495) = 1495 := by
          have w0 := lv_neT q0 (show (0 : Int32).toInt = 0 from rfl)
          have w1 := lv_neT q1 (show (1 : Int32).toInt = 1 from rfl)
          have w2 := lv_neT q2 (show (2 : Int32).toInt = 2 from rfl)
          have w3 := lv_neT q3 (show (3 : Int32).toInt = 3 from rfl)
          have w4 := lv_neT q4 (show (4 : Int32).toInt = 4 from rfl)
          have w5 := lv_neT q5 (show (5 : Int32).toInt = 5 from rfl)
          have w6 := lv_neT q6 (show (6 : Int32).toInt = 6 from rfl)
          have w7 := lv_neT q7 (show (7 : Int32).toInt = 7 from rfl)
          have w8 := lv_neT q8 (show (8 : Int32).toInt = 8 from rfl)
          have w9 := lv_neT q9 (show (9 : Int32).toInt = 9 from rfl)
          have w10 := lv_neT q10 (show (10 : Int32).toInt = 10 from rfl)
          have w11 := lv_neT q11 (show (11 : Int32).toInt = 11 from rfl)
          have w12 := lv_neT q12 (show (12 : Int32).toInt = 12 from rfl)
          have w13 := lv_neT q13 (show (13 : Int32).toInt = 13 from rfl)
          have w14 := lv_neT q14 (show (14 : Int32).toInt = 14 from rfl)
          have w15 := lv_neT q15 (show (15 : Int32).toInt = 15 from rfl)
          have w16 := lv_neT q16 (show (16 : Int32).toInt = 16 from rfl)
          have w17 := lv_neT q17 (show (17 : Int32).toInt = 17 from rfl)
          have w18 := lv_neT q18 (show (18 : Int32).toInt = 18 from rfl)
          have w19 := lv_neT q19 (show (19 : Int32).toInt = 19 from rfl)
          have w20 := lv_neT q20 (show (20 : Int32).toInt = 20 from rfl)
          have w21 := lv_neT q21 (show (21 : Int32).toInt = 21 from rfl)
          have w22 := lv_neT q22 (show (22 : Int32).toInt = 22 from rfl)
          have w23 := lv_neT q23 (show (23 : Int32).toInt = 23 from rfl)
          have w24 := lv_neT q24 (show (24 : Int32).toInt = 24 from rfl)
          have w25 := lv_neT q25 (show (25 : Int32).toInt = 25 from rfl)
          have w26 := lv_neT q26 (show (26 : Int32).toInt = 26 from rfl)
          have w27 := lv_neT q27 (show (27 : Int32).toInt = 27 from rfl)
          have w28 := lv_neT q28 (show (28 : Int32).toInt = 28 from rfl)
          have w29 := lv_neT q29 (show (29 : Int32).toInt = 29 from rfl)
          have w30 := lv_neT q30 (show (30 : Int32).toInt = 30 from rfl)
          have w31 := lv_neT q31 (show (31 : Int32).toInt = 31 from rfl)
          have w32 := lv_neT q32 (show (32 : Int32).toInt = 32 from rfl)
          have w33 := lv_neT q33 (show (33 : Int32).toInt = 33 from rfl)
          have w34 := lv_neT q34 (show (34 : Int32).toInt = 34 from rfl)
          have w35 := lv_neT q35 (show (35 : Int32).toInt = 35 from rfl)
          have w36 := lv_neT q36 (show (36 : Int32).toInt = 36 from rfl)
          have w37 := lv_neT q37 (show (37 : Int32).toInt = 37 from rfl)
          have w38 := lv_neT q38 (show (38 : Int32).toInt = 38 from rfl)
          have w39 := lv_neT q39 (show (39 : Int32).toInt = 39 from rfl)
          by_cases hx : (v9 &&& (63 : Int32)).toInt < 0 ∨ 39 < (v9 &&& (63 : Int32)).toInt
          · rw [if_pos hx]
          · rw [if_neg hx]
            omega
        refine jr_table (tgt := 1534) dL_law_39 (1495) hdef (by decide) (by decide) (by decide) ?_
        exact hJ1534 _ H
set_option maxRecDepth 100000 in
set_option maxHeartbeats 4000000 in
theorem c_L_law (l : Launch) (d : Nat) (hlt : l.stackTraces = false) (F : Nat) (L : Nat) (xs : Nat → Int32) (h : jH) (rR : Int32) (hf : jH) (H : f_L_law F L xs h = some (rR, hf)) : jGo l (d + 410) (some (.inr (L, xs))) RL cL_law 8 (some .boolean) false 0 [none, none, none, none, none, none, none, none] [] h (some (.int rR)) hf := by
  unfold f_L_law at H
  refine jr_new nw_RL_8 dL_law_0 H (fun a1 h2 H => ?_)
  refine jr_dup dL_law_3 rfl ?_
  obtain ⟨h3, Hc, H⟩ := Option.bind_eq_some_iff.mp H
  refine jr_callI [] my_X10_init mi_X10_init ml_RL_28 dL_law_4 rfl rfl (Nat.le_of_ble_eq_true rfl) (c_X10_init l (d + 406) F a1 h2 h3 Hc) ?_
  refine jr_astore_n dL_law_7 rfl (by decide) rfl (Or.inr (by decide)) ?_
  refine jr_new nw_RL_29 dL_law_8 H (fun a4 h5 H => ?_)
  refine jr_dup dL_law_11 rfl ?_
  obtain ⟨h6, Hc, H⟩ := Option.bind_eq_some_iff.mp H
  refine jr_callI [] my_X11_init mi_X11_init ml_RL_31 dL_law_12 rfl rfl (Nat.le_of_ble_eq_true rfl) (c_X11_init l (d + 408) F a4 h5 h6 Hc) ?_
  refine jr_astore_n dL_law_15 rfl (by decide) rfl (Or.inr (by decide)) ?_
  refine jr_iconst (v := 1) dL_law_16 (by decide) ?_
  refine jr_newL aw_L dL_law_17 H (fun a7 h8 H => ?_)
  refine jr_astore_n dL_law_19 rfl (by decide) rfl (Or.inr (by decide)) ?_
  refine jr_iconst (v := 0) dL_law_20 (by decide) ?_
  refine jr_istore dL_law_21 (by decide) rfl (Or.inr (by decide)) ?_
  exact s_L_law_L23 l d hlt F L xs a1 a4 a7 F 0 h8 H
