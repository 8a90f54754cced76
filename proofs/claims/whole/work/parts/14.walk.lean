set_option maxRecDepth 100000 in
set_option maxHeartbeats 4000000 in
theorem s_X11_best_L19 (l : Launch) (d : Nat) (F : Nat) (x0 : Nat) (x1 : Int32) (k90 : Int32 → jH → Option (Int32 × jH)) {rR : Int32} {hf : jH} (hk90 : ∀ (y2 : Int32) (h : jH), k90 y2 h = some (rR, hf) → jGo l (d + 407) none RX11 cX11_best 10 (some .int) false 90 [some (.ref x0), some (.int x1), some (.int y2), none, none, none, none, none, none, none] [] h (some (.int rR)) hf) : ∀ (n : Nat) (x2 : Int32) (x3 : Int32) (h : jH), f_X11_best_L19 F x0 x1 k90 n x2 x3 h = some (rR, hf) → jGo l (d + 407) none RX11 cX11_best 10 (some .int) false 19 [some (.ref x0), some (.int x1), some (.int x2), some (.int x3), none, none, none, none, none, none] [] h (some (.int rR)) hf := by
  intro n
  induction n with
  | zero =>
    intro x2 x3 h H
    cases H
  | succ n ih =>
    intro x2 x3 h H
    unfold f_X11_best_L19 at H
    refine jr_iload_n dX11_best_19 rfl rfl ?_
    refine jr_aload_n dX11_best_20 rfl rfl ?_
    refine jr_getI fl_RX11_168 (by decide) dX11_best_21 H (fun v4 H => ?_)
    refine jr_icmp_ge (tgt := 90) dX11_best_24 (by decide) H (fun H => ?_) (fun H => ?_)
    · refine jr_fgt 3 ?_
      exact hk90 _ _ H
    · refine jr_iload_n dX11_best_27 rfl rfl ?_
      refine jr_aload_n dX11_best_28 rfl rfl ?_
      refine jr_iload_n dX11_best_29 rfl rfl ?_
      obtain ⟨v6, h5, Hc, H⟩ := j_b2_some H
      refine jr_callV (ci := 11) [.int x1] my_X11_openOf mv_X11_openOf ml_RX11_261 dX11_best_30 rfl rfl (Nat.le_of_ble_eq_true rfl) rfl (c_X11_openOf l (d + 405) F x0 x1 h v6 h5 Hc) ?_
      refine jr_iload_n dX11_best_33 rfl rfl ?_
      obtain ⟨v8, h7, Hc, H⟩ := j_b2_some H
      refine jr_callS [.int v6, .int x3] my_X11_has ms_X11_has ml_RX11_254 dX11_best_34 rfl rfl (Nat.le_of_ble_eq_true rfl) (c_X11_has l (d + 406) F v6 x3 h5 v8 h7 Hc) ?_
      refine jr_jn (fun J => ∀ (s9 : Int32) (s10 : Int32) (h11 : jH), J s9 s10 h11 = some (rR, hf) → jGo l (d + 407) none RX11 cX11_best 10 (some .int) false 82 [some (.ref x0), some (.int x1), none, some (.int x3), none, none, none, none, none, none] [.int s9, .int s10] h11 (some (.int rR)) hf) H (fun s9 s10 h11 H => ?_) (fun J82 hJ82 H => ?_)
      · refine jr_ior dX11_best_82 ?_
        refine jr_istore_n dX11_best_83 rfl (by decide) rfl (Or.inl rfl) ?_
        refine jr_iinc (v := (x3 + 1)) dX11_best_84 rfl rfl (by decide) rfl (Or.inl rfl) ?_
        refine jr_goto (tgt := 19) dX11_best_87 (by decide) ?_
        exact ih _ _ _ H
      · refine jr_jn (fun J => ∀ (s12 : Int32) (h13 : jH), J s12 h13 = some (rR, hf) → jGo l (d + 407) none RX11 cX11_best 10 (some .int) false 81 [some (.ref x0), some (.int x1), none, some (.int x3), none, none, none, none, none, none] [.int s12] h13 (some (.int rR)) hf) H (fun s12 h13 H => ?_) (fun J81 hJ81 H => ?_)
        · refine jr_iconst (v := 0) dX11_best_81 (by decide) ?_
          exact hJ82 _ _ _ H
        · refine jr_if_eq (tgt := 81) dX11_best_37 (by decide) H (fun H => ?_) (fun H => ?_)
          · refine jr_fgt 2 ?_
            exact hJ81 _ _ H
          · refine jr_aload_n dX11_best_40 rfl rfl ?_
            refine jr_iload_n dX11_best_41 rfl rfl ?_
            refine jr_iconst (v := 2) dX11_best_42 (by decide) ?_
            obtain ⟨v15, h14, Hc, H⟩ := j_b2_some H
            refine jr_callV (ci := 11) [.int x3, .int 2] my_X11_field mv_X11_field ml_RX11_251 dX11_best_43 rfl rfl (Nat.le_of_ble_eq_true rfl) rfl (c_X11_field l (d + 406) F x0 x3 2 h7 v15 h14 Hc) ?_
            refine jr_aload_n dX11_best_46 rfl rfl ?_
            refine jr_getR fl_RX11_9 dX11_best_47 H (fun v16 H => ?_)
            refine jr_iload_n dX11_best_50 rfl rfl ?_
            refine jr_iald dX11_best_51 H (fun v17 H => ?_)
            refine jr_icmp_ne (tgt := 81) dX11_best_52 (by decide) H (fun H => ?_) (fun H => ?_)
            · refine jr_aload_n dX11_best_55 rfl rfl ?_
              refine jr_aload_n dX11_best_56 rfl rfl ?_
              refine jr_iload_n dX11_best_57 rfl rfl ?_
              refine jr_iconst (v := 1) dX11_best_58 (by decide) ?_
              obtain ⟨v19, h18, Hc, H⟩ := j_b2_some H
              refine jr_callV (ci := 11) [.int x3, .int 1] my_X11_field mv_X11_field ml_RX11_251 dX11_best_59 rfl rfl (Nat.le_of_ble_eq_true rfl) rfl (c_X11_field l (d + 406) F x0 x3 1 h14 v19 h18 Hc) ?_
              refine jr_aload_n dX11_best_62 rfl rfl ?_
              refine jr_getR fl_RX11_9 dX11_best_63 H (fun v20 H => ?_)
              refine jr_iload_n dX11_best_66 rfl rfl ?_
              refine jr_iald dX11_best_67 H (fun v21 H => ?_)
              obtain ⟨v23, h22, Hc, H⟩ := j_b2_some H
              refine jr_callV (ci := 11) [.int v19, .int v21] my_X11_cheapestOf mv_X11_cheapestOf ml_RX11_313 dX11_best_68 rfl rfl (Nat.le_of_ble_eq_true rfl) rfl (c_X11_cheapestOf l d F x0 v19 v21 h18 v23 h22 Hc) ?_
              refine jr_iconst (v := (-1)) dX11_best_71 (by decide) ?_
              refine jr_icmp_eq (tgt := 81) dX11_best_72 (by decide) H (fun H => ?_) (fun H => ?_)
              · refine jr_fgt 2 ?_
                exact hJ81 _ _ H
              · refine jr_iconst (v := 1) dX11_best_75 (by decide) ?_
                refine jr_iload_n dX11_best_76 rfl rfl ?_
                refine jr_ishl dX11_best_77 ?_
                refine jr_goto (tgt := 82) dX11_best_78 (by decide) ?_
                refine jr_fgt 2 ?_
                exact hJ82 _ _ _ H
            · refine jr_fgt 2 ?_
              exact hJ81 _ _ H
set_option maxRecDepth 100000 in
set_option maxHeartbeats 4000000 in
theorem s_X11_best_L128 (l : Launch) (d : Nat) (F : Nat) (x0 : Nat) (x1 : Int32) (x2 : Int32) (x3 : Int32) (x4 : Int32) (x5 : Int32) (x6 : Int32) (k200 : Int32 → Int32 → jH → Option (Int32 × jH)) {rR : Int32} {hf : jH} (hk200 : ∀ (y7 : Int32) (y8 : Int32) (h : jH), k200 y7 y8 h = some (rR, hf) → jGo l (d + 407) none RX11 cX11_best 10 (some .int) false 200 [some (.ref x0), some (.int x1), some (.int x2), some (.int x3), some (.int x4), some (.int x5), some (.int x6), some (.int y7), some (.int y8), none] [] h (some (.int rR)) hf) : ∀ (n : Nat) (x7 : Int32) (x8 : Int32) (x9 : Int32) (h : jH), f_X11_best_L128 F x0 x1 x2 x3 x4 x5 x6 k200 n x7 x8 x9 h = some (rR, hf) → jGo l (d + 407) none RX11 cX11_best 10 (some .int) false 128 [some (.ref x0), some (.int x1), some (.int x2), some (.int x3), some (.int x4), some (.int x5), some (.int x6), some (.int x7), some (.int x8), some (.int x9)] [] h (some (.int rR)) hf := by
  intro n
  induction n with
  | zero =>
    intro x7 x8 x9 h H
    cases H
  | succ n ih =>
    intro x7 x8 x9 h H
    unfold f_X11_best_L128 at H
    refine jr_iload dX11_best_128 rfl ?_
    refine jr_aload_n dX11_best_130 rfl rfl ?_
    refine jr_getI fl_RX11_168 (by decide) dX11_best_131 H (fun v30 H => ?_)
    refine jr_icmp_ge (tgt := 200) dX11_best_134 (by decide) H (fun H => ?_) (fun H => ?_)
    · refine jr_fgt 9 ?_
      exact hk200 _ _ _ H
    · refine jr_iload dX11_best_137 rfl ?_
      refine jr_iload dX11_best_139 rfl ?_
      obtain ⟨v32, h31, Hc, H⟩ := j_b2_some H
      refine jr_callS [.int x6, .int x9] my_X11_has ms_X11_has ml_RX11_254 dX11_best_141 rfl rfl (Nat.le_of_ble_eq_true rfl) (c_X11_has l (d + 406) F x6 x9 h v32 h31 Hc) ?_
      refine jr_jn (fun J => ∀ (z33 : Int32) (z34 : Int32) (h35 : jH), J z33 z34 h35 = some (rR, hf) → jGo l (d + 407) none RX11 cX11_best 10 (some .int) false 194 [some (.ref x0), some (.int x1), some (.int x2), some (.int x3), some (.int x4), some (.int x5), some (.int x6), some (.int z33), some (.int z34), some (.int x9)] [] h35 (some (.int rR)) hf) H (fun z33 z34 h35 H => ?_) (fun J194 hJ194 H => ?_)
      · refine jr_iinc (v := (x9 + 1)) dX11_best_194 rfl rfl (by decide) rfl (Or.inl rfl) ?_
        refine jr_goto (tgt := 128) dX11_best_197 (by decide) ?_
        exact ih _ _ _ _ H
      · refine jr_if_ne (tgt := 150) dX11_best_144 (by decide) H (fun H => ?_) (fun H => ?_)
        · refine jr_goto (tgt := 194) dX11_best_147 (by decide) ?_
          exact hJ194 _ _ _ H
        · refine jr_iload dX11_best_150 rfl ?_
          refine jr_aload_n dX11_best_152 rfl rfl ?_
          refine jr_iload dX11_best_153 rfl ?_
          refine jr_iconst (v := 3) dX11_best_155 (by decide) ?_
          obtain ⟨v37, h36, Hc, H⟩ := j_b2_some H
          refine jr_callV (ci := 11) [.int x9, .int 3] my_X11_field mv_X11_field ml_RX11_251 dX11_best_156 rfl rfl (Nat.le_of_ble_eq_true rfl) rfl (c_X11_field l (d + 406) F x0 x9 3 h31 v37 h36 Hc) ?_
          refine jr_iadd dX11_best_159 ?_
          refine jr_istore dX11_best_160 (by decide) rfl (Or.inl rfl) ?_
          refine jr_iload dX11_best_162 rfl ?_
          refine jr_aload_n dX11_best_164 rfl rfl ?_
          refine jr_aload_n dX11_best_165 rfl rfl ?_
          refine jr_aload_n dX11_best_166 rfl rfl ?_
          refine jr_iload dX11_best_167 rfl ?_
          refine jr_iconst (v := 1) dX11_best_169 (by decide) ?_
          obtain ⟨v39, h38, Hc, H⟩ := j_b2_some H
          refine jr_callV (ci := 11) [.int x9, .int 1] my_X11_field mv_X11_field ml_RX11_251 dX11_best_170 rfl rfl (Nat.le_of_ble_eq_true rfl) rfl (c_X11_field l (d + 406) F x0 x9 1 h36 v39 h38 Hc) ?_
          refine jr_aload_n dX11_best_173 rfl rfl ?_
          refine jr_getR fl_RX11_9 dX11_best_174 H (fun v40 H => ?_)
          refine jr_iload_n dX11_best_177 rfl rfl ?_
          refine jr_iald dX11_best_178 H (fun v41 H => ?_)
          obtain ⟨v43, h42, Hc, H⟩ := j_b2_some H
          refine jr_callV (ci := 11) [.int v39, .int v41] my_X11_cheapestOf mv_X11_cheapestOf ml_RX11_313 dX11_best_179 rfl rfl (Nat.le_of_ble_eq_true rfl) rfl (c_X11_cheapestOf l d F x0 v39 v41 h38 v43 h42 Hc) ?_
          refine jr_aload_n dX11_best_182 rfl rfl ?_
          refine jr_getR fl_RX11_9 dX11_best_183 H (fun v44 H => ?_)
          refine jr_iload_n dX11_best_186 rfl rfl ?_
          refine jr_iald dX11_best_187 H (fun v45 H => ?_)
          obtain ⟨v47, h46, Hc, H⟩ := j_b2_some H
          refine jr_callV (ci := 11) [.int v43, .int v45] my_X11_tollNow mv_X11_tollNow ml_RX11_271 dX11_best_188 rfl rfl (Nat.le_of_ble_eq_true rfl) rfl (c_X11_tollNow l (d + 1) F x0 v43 v45 h42 v47 h46 Hc) ?_
          refine jr_iadd dX11_best_191 ?_
          refine jr_istore dX11_best_192 (by decide) rfl (Or.inl rfl) ?_
          exact hJ194 _ _ _ H
set_option maxRecDepth 100000 in
set_option maxHeartbeats 4000000 in
theorem s_X11_best_L101 (l : Launch) (d : Nat) (F : Nat) (x0 : Nat) (x1 : Int32) (x2 : Int32) (k254 : Int32 → Int32 → Int32 → jH → Option (Int32 × jH)) {rR : Int32} {hf : jH} (hk254 : ∀ (y3 : Int32) (y4 : Int32) (y5 : Int32) (h : jH), k254 y3 y4 y5 h = some (rR, hf) → jGo l (d + 407) none RX11 cX11_best 10 (some .int) false 254 [some (.ref x0), none, none, some (.int y3), some (.int y4), some (.int y5), none, none, none, none] [] h (some (.int rR)) hf) : ∀ (n : Nat) (x3 : Int32) (x4 : Int32) (x5 : Int32) (x6 : Int32) (h : jH), f_X11_best_L101 F x0 x1 x2 k254 n x3 x4 x5 x6 h = some (rR, hf) → jGo l (d + 407) none RX11 cX11_best 10 (some .int) false 101 [some (.ref x0), some (.int x1), some (.int x2), some (.int x3), some (.int x4), some (.int x5), some (.int x6), none, none, none] [] h (some (.int rR)) hf := by
  intro n
  induction n with
  | zero =>
    intro x3 x4 x5 x6 h H
    cases H
  | succ n ih =>
    intro x3 x4 x5 x6 h H
    unfold f_X11_best_L101 at H
    refine jr_iload dX11_best_101 rfl ?_
    refine jr_iload_n dX11_best_103 rfl rfl ?_
    refine jr_icmp_gt (tgt := 254) dX11_best_104 (by decide) H (fun H => ?_) (fun H => ?_)
    · refine jr_fgt 1 ?_
      refine jr_fgt 2 ?_
      refine jr_fgt 6 ?_
      exact hk254 _ _ _ _ H
    · refine jr_iload dX11_best_107 rfl ?_
      refine jr_iload_n dX11_best_109 rfl rfl ?_
      refine jr_iconst (v := (-1)) dX11_best_110 (by decide) ?_
      refine jr_ixor dX11_best_111 ?_
      refine jr_iand dX11_best_112 ?_
      refine jr_jn (fun J => ∀ (z26 : Int32) (z27 : Int32) (z28 : Int32) (h29 : jH), J z26 z27 z28 h29 = some (rR, hf) → jGo l (d + 407) none RX11 cX11_best 10 (some .int) false 248 [some (.ref x0), some (.int x1), some (.int x2), some (.int z26), some (.int z27), some (.int z28), some (.int x6), none, none, none] [] h29 (some (.int rR)) hf) H (fun z26 z27 z28 h29 H => ?_) (fun J248 hJ248 H => ?_)
      · refine jr_iinc (v := (x6 + 1)) dX11_best_248 rfl rfl (by decide) rfl (Or.inl rfl) ?_
        refine jr_goto (tgt := 101) dX11_best_251 (by decide) ?_
        exact ih _ _ _ _ _ H
      · refine jr_if_eq (tgt := 119) dX11_best_113 (by decide) H (fun H => ?_) (fun H => ?_)
        · refine jr_iconst (v := 0) dX11_best_119 (by decide) ?_
          refine jr_istore dX11_best_120 (by decide) rfl (Or.inl rfl) ?_
          refine jr_iconst (v := 0) dX11_best_122 (by decide) ?_
          refine jr_istore dX11_best_123 (by decide) rfl (Or.inl rfl) ?_
          refine jr_iconst (v := 0) dX11_best_125 (by decide) ?_
          refine jr_istore dX11_best_126 (by decide) rfl (Or.inl rfl) ?_
          refine s_X11_best_L128 l d F x0 x1 x2 x3 x4 x5 x6 _ (fun y48 y49 h50 H => ?_) F 0 0 0 h H
          · refine jr_iload dX11_best_200 rfl ?_
            refine jr_aload_n dX11_best_202 rfl rfl ?_
            refine jr_getR fl_RX11_9 dX11_best_203 H (fun v51 H => ?_)
            refine jr_iconst (v := 4) dX11_best_206 (by decide) ?_
            refine jr_iload_n dX11_best_207 rfl rfl ?_
            refine jr_iadd dX11_best_208 ?_
            refine jr_iald dX11_best_209 H (fun v52 H => ?_)
            refine jr_icmp_gt (tgt := 248) dX11_best_210 (by decide) H (fun H => ?_) (fun H => ?_)
            · refine jr_fgt 7 ?_
              refine jr_fgt 8 ?_
              exact hJ248 _ _ _ _ H
            · refine jr_iload dX11_best_213 rfl ?_
              refine jr_iload dX11_best_215 rfl ?_
              refine jr_icmp_lt (tgt := 248) dX11_best_217 (by decide) H (fun H => ?_) (fun H => ?_)
              · refine jr_fgt 7 ?_
                refine jr_fgt 8 ?_
                exact hJ248 _ _ _ _ H
              · refine jr_iload dX11_best_220 rfl ?_
                refine jr_iload dX11_best_222 rfl ?_
                refine jr_jn (fun J => ∀ (h53 : jH), J h53 = some (rR, hf) → jGo l (d + 407) none RX11 cX11_best 10 (some .int) false 237 [some (.ref x0), some (.int x1), some (.int x2), none, none, none, some (.int x6), some (.int y48), some (.int y49), none] [] h53 (some (.int rR)) hf) H (fun h53 H => ?_) (fun J237 hJ237 H => ?_)
                · refine jr_iload dX11_best_237 rfl ?_
                  refine jr_istore_n dX11_best_239 rfl (by decide) rfl (Or.inl rfl) ?_
                  refine jr_iload dX11_best_240 rfl ?_
                  refine jr_istore dX11_best_242 (by decide) rfl (Or.inl rfl) ?_
                  refine jr_iload dX11_best_244 rfl ?_
                  refine jr_istore dX11_best_246 (by decide) rfl (Or.inl rfl) ?_
                  refine jr_fgt 7 ?_
                  refine jr_fgt 8 ?_
                  exact hJ248 _ _ _ _ H
                · refine jr_icmp_ne (tgt := 237) dX11_best_224 (by decide) H (fun H => ?_) (fun H => ?_)
                  · refine jr_iload dX11_best_227 rfl ?_
                    refine jr_iload dX11_best_229 rfl ?_
                    refine jr_icmp_lt (tgt := 237) dX11_best_231 (by decide) H (fun H => ?_) (fun H => ?_)
                    · refine jr_fgt 3 ?_
                      refine jr_fgt 4 ?_
                      refine jr_fgt 5 ?_
                      exact hJ237 _ H
                    · refine jr_goto (tgt := 248) dX11_best_234 (by decide) ?_
                      refine jr_fgt 7 ?_
                      refine jr_fgt 8 ?_
                      exact hJ248 _ _ _ _ H
                  · refine jr_fgt 3 ?_
                    refine jr_fgt 4 ?_
                    refine jr_fgt 5 ?_
                    exact hJ237 _ H
        · refine jr_goto (tgt := 248) dX11_best_116 (by decide) ?_
          exact hJ248 _ _ _ _ H
set_option maxRecDepth 100000 in
set_option maxHeartbeats 4000000 in
theorem c_X11_best (l : Launch) (d : Nat) (F : Nat) (a0 : Nat) (a1 : Int32) (h : jH) (rR : Int32) (hf : jH) (H : f_X11_best F a0 a1 h = some (rR, hf)) : jh_sh h a0 = (11, 0) ∧ jMet l (d + 407) yX11_best cX11_best 10 (some .int) [.ref a0, .int a1] h (some (.int rR)) hf := by
  unfold f_X11_best at H
  obtain ⟨hsh, H⟩ := j_gd_some H
  refine ⟨hsh, ?_⟩
  refine jMet.of false [some (.ref a0), some (.int a1), none, none, none, none, none, none, none, none] (by decide) (by decide) (Nat.le_of_ble_eq_true rfl) (fun S0 q hq => by simpa [j_l, lv_args, j_v, Value.category] using hq) ?_
  refine jr_aload_n dX11_best_0 rfl rfl ?_
  refine jr_iconst (v := 0) dX11_best_1 (by decide) ?_
  refine jr_putI fl_RX11_110 (fun z => by cases z) dX11_best_2 H (fun h1 H => ?_)
  refine jr_aload_n dX11_best_5 rfl rfl ?_
  refine jr_iload_n dX11_best_6 rfl rfl ?_
  obtain ⟨v3, h2, Hc, H⟩ := j_b2_some H
  refine jr_callV (ci := 11) [.int a1] my_X11_isOne mv_X11_isOne ml_RX11_258 dX11_best_7 rfl rfl (Nat.le_of_ble_eq_true rfl) rfl (c_X11_isOne l (d + 405) F a0 a1 h1 v3 h2 Hc) ?_
  refine jr_if_ne (tgt := 15) dX11_best_10 (by decide) H (fun H => ?_) (fun H => ?_)
  · refine jr_iconst (v := (-1)) dX11_best_13 (by decide) ?_
    exact jr_iret rfl dX11_best_14 H
  · refine jr_iconst (v := 0) dX11_best_15 (by decide) ?_
    refine jr_istore_n dX11_best_16 rfl (by decide) rfl (Or.inl rfl) ?_
    refine jr_iconst (v := 0) dX11_best_17 (by decide) ?_
    refine jr_istore_n dX11_best_18 rfl (by decide) rfl (Or.inl rfl) ?_
    refine s_X11_best_L19 l d F a0 a1 _ (fun y24 h25 H => ?_) F 0 0 h2 H
    · refine jr_iconst (v := 0) dX11_best_90 (by decide) ?_
      refine jr_istore_n dX11_best_91 rfl (by decide) rfl (Or.inl rfl) ?_
      refine jr_iconst (v := 0) dX11_best_92 (by decide) ?_
      refine jr_istore dX11_best_93 (by decide) rfl (Or.inl rfl) ?_
      refine jr_iconst (v := 0) dX11_best_95 (by decide) ?_
      refine jr_istore dX11_best_96 (by decide) rfl (Or.inl rfl) ?_
      refine jr_iconst (v := 1) dX11_best_98 (by decide) ?_
      refine jr_istore dX11_best_99 (by decide) rfl (Or.inl rfl) ?_
      refine s_X11_best_L101 l d F a0 a1 y24 _ (fun y54 y55 y56 h57 H => ?_) F 0 0 0 1 h25 H
      · refine jr_aload_n dX11_best_254 rfl rfl ?_
        refine jr_iconst (v := 0) dX11_best_255 (by decide) ?_
        refine jr_putI fl_RX11_113 (fun z => by cases z) dX11_best_256 H (fun h58 H => ?_)
        refine jr_aload_n dX11_best_259 rfl rfl ?_
        refine jr_iload_n dX11_best_260 rfl rfl ?_
        refine jr_i2l dX11_best_261 ?_
        obtain ⟨h59, Hc, H⟩ := Option.bind_eq_some_iff.mp H
        refine jr_callV (ci := 11) [.long (y54.toInt64)] my_X11_tell mv_X11_tell ml_RX11_274 dX11_best_262 rfl rfl (Nat.le_of_ble_eq_true rfl) rfl (c_X11_tell l (d + 406) F a0 (y54.toInt64) h58 h59 Hc) ?_
        refine jr_aload_n dX11_best_265 rfl rfl ?_
        refine jr_iload dX11_best_266 rfl ?_
        refine jr_i2l dX11_best_268 ?_
        obtain ⟨h60, Hc, H⟩ := Option.bind_eq_some_iff.mp H
        refine jr_callV (ci := 11) [.long (y56.toInt64)] my_X11_tell mv_X11_tell ml_RX11_274 dX11_best_269 rfl rfl (Nat.le_of_ble_eq_true rfl) rfl (c_X11_tell l (d + 406) F a0 (y56.toInt64) h59 h60 Hc) ?_
        refine jr_iload dX11_best_272 rfl ?_
        exact jr_iret rfl dX11_best_274 H
set_option maxRecDepth 100000 in
set_option maxHeartbeats 4000000 in
theorem s_X11_takesBy_L56 (l : Launch) (d : Nat) (F : Nat) (x0 : Nat) (x1 : Int32) (x2 : Int32) (x3 : Int32) (x4 : Int32) (k110 : Int32 → jH → Option (Int32 × jH)) {rR : Int32} {hf : jH} (hk110 : ∀ (y5 : Int32) (h : jH), k110 y5 h = some (rR, hf) → jGo l (d + 406) none RX11 cX11_takesBy 7 (some .int) false 110 [some (.ref x0), some (.int x1), some (.int x2), some (.int x3), some (.int x4), some (.int y5), none] [] h (some (.int rR)) hf) : ∀ (n : Nat) (x5 : Int32) (x6 : Int32) (h : jH), f_X11_takesBy_L56 F x0 x1 x2 x3 x4 k110 n x5 x6 h = some (rR, hf) → jGo l (d + 406) none RX11 cX11_takesBy 7 (some .int) false 56 [some (.ref x0), some (.int x1), some (.int x2), some (.int x3), some (.int x4), some (.int x5), some (.int x6)] [] h (some (.int rR)) hf := by
  intro n
  induction n with
  | zero =>
    intro x5 x6 h H
    cases H
  | succ n ih =>
    intro x5 x6 h H
    unfold f_X11_takesBy_L56 at H
    refine jr_iload dX11_takesBy_56 rfl ?_
    refine jr_aload_n dX11_takesBy_58 rfl rfl ?_
    refine jr_getI fl_RX11_120 (by decide) dX11_takesBy_59 H (fun v11 H => ?_)
    refine jr_icmp_ge (tgt := 110) dX11_takesBy_62 (by decide) H (fun H => ?_) (fun H => ?_)
    · refine jr_fgt 6 ?_
      exact hk110 _ _ H
    · refine jr_aload_n dX11_takesBy_65 rfl rfl ?_
      refine jr_iload dX11_takesBy_66 rfl ?_
      refine jr_aload_n dX11_takesBy_68 rfl rfl ?_
      refine jr_iload dX11_takesBy_69 rfl ?_
      refine jr_iconst (v := 1) dX11_takesBy_71 (by decide) ?_
      obtain ⟨v13, h12, Hc, H⟩ := j_b2_some H
      refine jr_callV (ci := 11) [.int x4, .int 1] my_X11_field mv_X11_field ml_RX11_251 dX11_takesBy_72 rfl rfl (Nat.le_of_ble_eq_true rfl) rfl (c_X11_field l (d + 405) F x0 x4 1 h v13 h12 Hc) ?_
      obtain ⟨v15, h14, Hc, H⟩ := j_b2_some H
      refine jr_callV (ci := 11) [.int x6, .int v13] my_X11_means mv_X11_means ml_RX11_292 dX11_takesBy_75 rfl rfl (Nat.le_of_ble_eq_true rfl) rfl (c_X11_means l (d + 405) F x0 x6 v13 h12 v15 h14 Hc) ?_
      refine jr_jn (fun J => ∀ (z16 : Int32) (h17 : jH), J z16 h17 = some (rR, hf) → jGo l (d + 406) none RX11 cX11_takesBy 7 (some .int) false 104 [some (.ref x0), some (.int x1), some (.int x2), some (.int x3), some (.int x4), some (.int z16), some (.int x6)] [] h17 (some (.int rR)) hf) H (fun z16 h17 H => ?_) (fun J104 hJ104 H => ?_)
      · refine jr_iinc (v := (x6 + 1)) dX11_takesBy_104 rfl rfl (by decide) rfl (Or.inl rfl) ?_
        refine jr_goto (tgt := 56) dX11_takesBy_107 (by decide) ?_
        exact ih _ _ _ H
      · refine jr_if_eq (tgt := 104) dX11_takesBy_78 (by decide) H (fun H => ?_) (fun H => ?_)
        · exact hJ104 _ _ H
        · refine jr_iload dX11_takesBy_81 rfl ?_
          refine jr_aload_n dX11_takesBy_83 rfl rfl ?_
          refine jr_iload dX11_takesBy_84 rfl ?_
          refine jr_iload_n dX11_takesBy_86 rfl rfl ?_
          obtain ⟨v19, h18, Hc, H⟩ := j_b2_some H
          refine jr_callV (ci := 11) [.int x6, .int x1] my_X11_tollNow mv_X11_tollNow ml_RX11_271 dX11_takesBy_87 rfl rfl (Nat.le_of_ble_eq_true rfl) rfl (c_X11_tollNow l d F x0 x6 x1 h14 v19 h18 Hc) ?_
          refine jr_iload_n dX11_takesBy_90 rfl rfl ?_
          refine jr_aload_n dX11_takesBy_91 rfl rfl ?_
          refine jr_iload dX11_takesBy_92 rfl ?_
          obtain ⟨v21, h20, Hc, H⟩ := j_b2_some H
          refine jr_callV (ci := 11) [.int x6] my_X11_vowelsIn mv_X11_vowelsIn ml_RX11_248 dX11_takesBy_94 rfl rfl (Nat.le_of_ble_eq_true rfl) rfl (c_X11_vowelsIn l (d + 403) F x0 x6 h18 v21 h20 Hc) ?_
          refine jr_imul dX11_takesBy_97 ?_
          refine jr_iadd dX11_takesBy_98 ?_
          refine jr_mmin ml_RX11_226 mm_mmin_s mm_i mm_mmin_c dX11_takesBy_99 (Nat.le_of_ble_eq_true rfl) ?_
          refine jr_istore dX11_takesBy_102 (by decide) rfl (Or.inl rfl) ?_
          exact hJ104 _ _ H
set_option maxRecDepth 100000 in
set_option maxHeartbeats 4000000 in
theorem s_X11_takesBy_L10 (l : Launch) (d : Nat) (F : Nat) (x0 : Nat) (x1 : Int32) (x2 : Int32) {rR : Int32} {hf : jH} : ∀ (n : Nat) (x3 : Int32) (x4 : Int32) (h : jH), f_X11_takesBy_L10 F x0 x1 x2 n x3 x4 h = some (rR, hf) → jGo l (d + 406) none RX11 cX11_takesBy 7 (some .int) false 10 [some (.ref x0), some (.int x1), some (.int x2), some (.int x3), some (.int x4), none, none] [] h (some (.int rR)) hf := by
  intro n
  induction n with
  | zero =>
    intro x3 x4 h H
    cases H
  | succ n ih =>
    intro x3 x4 h H
    unfold f_X11_takesBy_L10 at H
    refine jr_iload dX11_takesBy_10 rfl ?_
    refine jr_aload_n dX11_takesBy_12 rfl rfl ?_
    refine jr_getI fl_RX11_168 (by decide) dX11_takesBy_13 H (fun v2 H => ?_)
    refine jr_icmp_ge (tgt := 146) dX11_takesBy_16 (by decide) H (fun H => ?_) (fun H => ?_)
    · refine jr_iload_n dX11_takesBy_146 rfl rfl ?_
      exact jr_iret rfl dX11_takesBy_147 H
    · refine jr_aload_n dX11_takesBy_19 rfl rfl ?_
      refine jr_getR fl_RX11_9 dX11_takesBy_20 H (fun v3 H => ?_)
      refine jr_bipush (v := 13) dX11_takesBy_23 (by decide) ?_
      refine jr_iald dX11_takesBy_25 H (fun v4 H => ?_)
      refine jr_iload dX11_takesBy_26 rfl ?_
      obtain ⟨v6, h5, Hc, H⟩ := j_b2_some H
      refine jr_callS [.int v4, .int x4] my_X11_has ms_X11_has ml_RX11_254 dX11_takesBy_28 rfl rfl (Nat.le_of_ble_eq_true rfl) (c_X11_has l (d + 405) F v4 x4 h v6 h5 Hc) ?_
      refine jr_jn (fun J => ∀ (z7 : Int32) (h8 : jH), J z7 h8 = some (rR, hf) → jGo l (d + 406) none RX11 cX11_takesBy 7 (some .int) false 140 [some (.ref x0), some (.int x1), some (.int x2), some (.int z7), some (.int x4), none, none] [] h8 (some (.int rR)) hf) H (fun z7 h8 H => ?_) (fun J140 hJ140 H => ?_)
      · refine jr_iinc (v := (x4 + 1)) dX11_takesBy_140 rfl rfl (by decide) rfl (Or.inl rfl) ?_
        refine jr_goto (tgt := 10) dX11_takesBy_143 (by decide) ?_
        exact ih _ _ _ H
      · refine jr_if_ne (tgt := 140) dX11_takesBy_31 (by decide) H (fun H => ?_) (fun H => ?_)
        · refine jr_aload_n dX11_takesBy_34 rfl rfl ?_
          refine jr_iload dX11_takesBy_35 rfl ?_
          refine jr_iconst (v := 2) dX11_takesBy_37 (by decide) ?_
          obtain ⟨v10, h9, Hc, H⟩ := j_b2_some H
          refine jr_callV (ci := 11) [.int x4, .int 2] my_X11_field mv_X11_field ml_RX11_251 dX11_takesBy_38 rfl rfl (Nat.le_of_ble_eq_true rfl) rfl (c_X11_field l (d + 405) F x0 x4 2 h5 v10 h9 Hc) ?_
          refine jr_iload_n dX11_takesBy_41 rfl rfl ?_
          refine jr_icmp_eq (tgt := 48) dX11_takesBy_42 (by decide) H (fun H => ?_) (fun H => ?_)
          · refine jr_ldcw cn_RX11_319 dX11_takesBy_48 ?_
            refine jr_istore dX11_takesBy_51 (by decide) rfl (Or.inl rfl) ?_
            refine jr_iconst (v := 0) dX11_takesBy_53 (by decide) ?_
            refine jr_istore dX11_takesBy_54 (by decide) rfl (Or.inl rfl) ?_
            refine s_X11_takesBy_L56 l d F x0 x1 x2 x3 x4 _ (fun y22 h23 H => ?_) F 100000000 0 h9 H
            · refine jr_iload dX11_takesBy_110 rfl ?_
              refine jr_aload_n dX11_takesBy_112 rfl rfl ?_
              refine jr_iload dX11_takesBy_113 rfl ?_
              refine jr_iconst (v := 3) dX11_takesBy_115 (by decide) ?_
              obtain ⟨v25, h24, Hc, H⟩ := j_b2_some H
              refine jr_callV (ci := 11) [.int x4, .int 3] my_X11_field mv_X11_field ml_RX11_251 dX11_takesBy_116 rfl rfl (Nat.le_of_ble_eq_true rfl) rfl (c_X11_field l (d + 405) F x0 x4 3 h23 v25 h24 Hc) ?_
              refine jr_icmp_le (tgt := 125) dX11_takesBy_119 (by decide) H (fun H => ?_) (fun H => ?_)
              · refine jr_iload_n dX11_takesBy_125 rfl rfl ?_
                refine jr_iload dX11_takesBy_126 rfl ?_
                refine jr_iadd dX11_takesBy_128 ?_
                refine jr_istore_n dX11_takesBy_129 rfl (by decide) rfl (Or.inl rfl) ?_
                refine jr_aload_n dX11_takesBy_130 rfl rfl ?_
                refine jr_dup dX11_takesBy_131 rfl ?_
                refine jr_getI fl_RX11_380 (by decide) dX11_takesBy_132 H (fun v26 H => ?_)
                refine jr_iconst (v := 1) dX11_takesBy_135 (by decide) ?_
                refine jr_iadd dX11_takesBy_136 ?_
                refine jr_putI fl_RX11_380 (fun z => by cases z) dX11_takesBy_137 H (fun h27 H => ?_)
                refine jr_fgt 5 ?_
                exact hJ140 _ _ H
              · refine jr_goto (tgt := 140) dX11_takesBy_122 (by decide) ?_
                refine jr_fgt 5 ?_
                exact hJ140 _ _ H
          · refine jr_goto (tgt := 140) dX11_takesBy_45 (by decide) ?_
            exact hJ140 _ _ H
        · exact hJ140 _ _ H
set_option maxRecDepth 100000 in
set_option maxHeartbeats 4000000 in
theorem c_X11_takesBy (l : Launch) (d : Nat) (F : Nat) (a0 : Nat) (a1 : Int32) (a2 : Int32) (h : jH) (rR : Int32) (hf : jH) (H : f_X11_takesBy F a0 a1 a2 h = some (rR, hf)) : jh_sh h a0 = (11, 0) ∧ jMet l (d + 406) yX11_takesBy cX11_takesBy 7 (some .int) [.ref a0, .int a1, .int a2] h (some (.int rR)) hf := by
  unfold f_X11_takesBy at H
  obtain ⟨hsh, H⟩ := j_gd_some H
  refine ⟨hsh, ?_⟩
  refine jMet.of false [some (.ref a0), some (.int a1), some (.int a2), none, none, none, none] (by decide) (by decide) (Nat.le_of_ble_eq_true rfl) (fun S0 q hq => by simpa [j_l, lv_args, j_v, Value.category] using hq) ?_
  refine jr_iconst (v := 0) dX11_takesBy_0 (by decide) ?_
  refine jr_istore_n dX11_takesBy_1 rfl (by decide) rfl (Or.inl rfl) ?_
  refine jr_aload_n dX11_takesBy_2 rfl rfl ?_
  refine jr_iconst (v := 0) dX11_takesBy_3 (by decide) ?_
  refine jr_putI fl_RX11_380 (fun z => by cases z) dX11_takesBy_4 H (fun h1 H => ?_)
  refine jr_iconst (v := 0) dX11_takesBy_7 (by decide) ?_
  refine jr_istore dX11_takesBy_8 (by decide) rfl (Or.inl rfl) ?_
  exact s_X11_takesBy_L10 l d F a0 a1 a2 F 0 0 h1 H
set_option maxRecDepth 100000 in
set_option maxHeartbeats 4000000 in
theorem c_X11_takes (l : Launch) (d : Nat) (F : Nat) (a0 : Nat) (a1 : Int32) (a2 : Int32) (h : jH) (rR : Int32) (hf : jH) (H : f_X11_takes F a0 a1 a2 h = some (rR, hf)) : jh_sh h a0 = (11, 0) ∧ jMet l (d + 407) yX11_takes cX11_takes 4 (some .int) [.ref a0, .int a1, .int a2] h (some (.int rR)) hf := by
  unfold f_X11_takes at H
  obtain ⟨hsh, H⟩ := j_gd_some H
  refine ⟨hsh, ?_⟩
  refine jMet.of false [some (.ref a0), some (.int a1), some (.int a2), none] (by decide) (by decide) (Nat.le_of_ble_eq_true rfl) (fun S0 q hq => by simpa [j_l, lv_args, j_v, Value.category] using hq) ?_
  refine jr_aload_n dX11_takes_0 rfl rfl ?_
  refine jr_iconst (v := 0) dX11_takes_1 (by decide) ?_
  refine jr_putI fl_RX11_110 (fun z => by cases z) dX11_takes_2 H (fun h1 H => ?_)
  refine jr_aload_n dX11_takes_5 rfl rfl ?_
  refine jr_iload_n dX11_takes_6 rfl rfl ?_
  obtain ⟨v3, h2, Hc, H⟩ := j_b2_some H
  refine jr_callV (ci := 11) [.int a1] my_X11_isStation mv_X11_isStation ml_RX11_264 dX11_takes_7 rfl rfl (Nat.le_of_ble_eq_true rfl) rfl (c_X11_isStation l (d + 405) F a0 a1 h1 v3 h2 Hc) ?_
  refine jr_if_eq (tgt := 23) dX11_takes_10 (by decide) H (fun H => ?_) (fun H => ?_)
  · refine jr_iconst (v := (-1)) dX11_takes_23 (by decide) ?_
    exact jr_iret rfl dX11_takes_24 H
  · refine jr_iload_n dX11_takes_13 rfl rfl ?_
    refine jr_iconst (v := 0) dX11_takes_14 (by decide) ?_
    refine jr_bipush (v := 99) dX11_takes_15 (by decide) ?_
    obtain ⟨v5, h4, Hc, H⟩ := j_b2_some H
    refine jr_callS [.int a2, .int 0, .int 99] my_X11_in ms_X11_in ml_RX11_116 dX11_takes_17 rfl rfl (Nat.le_of_ble_eq_true rfl) (c_X11_in l (d + 406) F a2 0 99 h2 v5 h4 Hc) ?_
    refine jr_if_ne (tgt := 25) dX11_takes_20 (by decide) H (fun H => ?_) (fun H => ?_)
    · refine jr_iconst (v := (-1)) dX11_takes_23 (by decide) ?_
      exact jr_iret rfl dX11_takes_24 H
    · refine jr_aload_n dX11_takes_25 rfl rfl ?_
      refine jr_iload_n dX11_takes_26 rfl rfl ?_
      refine jr_iload_n dX11_takes_27 rfl rfl ?_
      obtain ⟨v7, h6, Hc, H⟩ := j_b2_some H
      refine jr_callV (ci := 11) [.int a1, .int a2] my_X11_takesBy mv_X11_takesBy ml_RX11_383 dX11_takes_28 rfl rfl (Nat.le_of_ble_eq_true rfl) rfl (c_X11_takesBy l d F a0 a1 a2 h4 v7 h6 Hc) ?_
      refine jr_istore_n dX11_takes_31 rfl (by decide) rfl (Or.inl rfl) ?_
      refine jr_aload_n dX11_takes_32 rfl rfl ?_
      refine jr_iconst (v := 0) dX11_takes_33 (by decide) ?_
      refine jr_putI fl_RX11_113 (fun z => by cases z) dX11_takes_34 H (fun h8 H => ?_)
      refine jr_aload_n dX11_takes_37 rfl rfl ?_
      refine jr_aload_n dX11_takes_38 rfl rfl ?_
      refine jr_getI fl_RX11_380 (by decide) dX11_takes_39 H (fun v9 H => ?_)
      refine jr_i2l dX11_takes_42 ?_
      obtain ⟨h10, Hc, H⟩ := Option.bind_eq_some_iff.mp H
      refine jr_callV (ci := 11) [.long (v9.toInt64)] my_X11_tell mv_X11_tell ml_RX11_274 dX11_takes_43 rfl rfl (Nat.le_of_ble_eq_true rfl) rfl (c_X11_tell l (d + 406) F a0 (v9.toInt64) h8 h10 Hc) ?_
      refine jr_iload_n dX11_takes_46 rfl rfl ?_
      exact jr_iret rfl dX11_takes_47 H
set_option maxRecDepth 100000 in
set_option maxHeartbeats 4000000 in
theorem s_X11_greed_L30 (l : Launch) (d : Nat) (F : Nat) (x0 : Nat) (x1 : Int32) (x4 : Int32) (k67 : Int32 → Int32 → jH → Option (Int32 × jH)) {rR : Int32} {hf : jH} (hk67 : ∀ (y2 : Int32) (y3 : Int32) (h : jH), k67 y2 y3 h = some (rR, hf) → jGo l (d + 407) none RX11 cX11_greed 7 (some .int) false 67 [some (.ref x0), none, some (.int y2), some (.int y3), some (.int x4), none, none] [] h (some (.int rR)) hf) : ∀ (n : Nat) (x2 : Int32) (x3 : Int32) (x5 : Int32) (h : jH), f_X11_greed_L30 F x0 x1 x4 k67 n x2 x3 x5 h = some (rR, hf) → jGo l (d + 407) none RX11 cX11_greed 7 (some .int) false 30 [some (.ref x0), some (.int x1), some (.int x2), some (.int x3), some (.int x4), some (.int x5), none] [] h (some (.int rR)) hf := by
  intro n
  induction n with
  | zero =>
    intro x2 x3 x5 h H
    cases H
  | succ n ih =>
    intro x2 x3 x5 h H
    unfold f_X11_greed_L30 at H
    refine jr_iload dX11_greed_30 rfl ?_
    refine jr_bipush (v := 99) dX11_greed_32 (by decide) ?_
    refine jr_icmp_gt (tgt := 67) dX11_greed_34 (by decide) H (fun H => ?_) (fun H => ?_)
    · refine jr_fgt 1 ?_
      refine jr_fgt 5 ?_
      exact hk67 _ _ _ H
    · refine jr_aload_n dX11_greed_37 rfl rfl ?_
      refine jr_iload_n dX11_greed_38 rfl rfl ?_
      refine jr_iload dX11_greed_39 rfl ?_
      obtain ⟨v7, h6, Hc, H⟩ := j_b2_some H
      refine jr_callV (ci := 11) [.int x1, .int x5] my_X11_takesBy mv_X11_takesBy ml_RX11_383 dX11_greed_41 rfl rfl (Nat.le_of_ble_eq_true rfl) rfl (c_X11_takesBy l d F x0 x1 x5 h v7 h6 Hc) ?_
      refine jr_istore dX11_greed_44 (by decide) rfl (Or.inl rfl) ?_
      refine jr_iload dX11_greed_46 rfl ?_
      refine jr_iload_n dX11_greed_48 rfl rfl ?_
      refine jr_jn (fun J => ∀ (z8 : Int32) (z9 : Int32) (h10 : jH), J z8 z9 h10 = some (rR, hf) → jGo l (d + 407) none RX11 cX11_greed 7 (some .int) false 61 [some (.ref x0), some (.int x1), some (.int z8), some (.int z9), some (.int x4), some (.int x5), none] [] h10 (some (.int rR)) hf) H (fun z8 z9 h10 H => ?_) (fun J61 hJ61 H => ?_)
      · refine jr_iinc (v := (x5 + 1)) dX11_greed_61 rfl rfl (by decide) rfl (Or.inl rfl) ?_
        refine jr_goto (tgt := 30) dX11_greed_64 (by decide) ?_
        exact ih _ _ _ _ H
      · refine jr_icmp_gt (tgt := 55) dX11_greed_49 (by decide) H (fun H => ?_) (fun H => ?_)
        · refine jr_iload dX11_greed_55 rfl ?_
          refine jr_istore_n dX11_greed_57 rfl (by decide) rfl (Or.inl rfl) ?_
          refine jr_iload dX11_greed_58 rfl ?_
          refine jr_istore_n dX11_greed_60 rfl (by decide) rfl (Or.inl rfl) ?_
          refine jr_fgt 6 ?_
          exact hJ61 _ _ _ H
        · refine jr_goto (tgt := 61) dX11_greed_52 (by decide) ?_
          refine jr_fgt 6 ?_
          exact hJ61 _ _ _ H
set_option maxRecDepth 100000 in
set_option maxHeartbeats 4000000 in
theorem c_X11_greed (l : Launch) (d : Nat) (F : Nat) (a0 : Nat) (a1 : Int32) (h : jH) (rR : Int32) (hf : jH) (H : f_X11_greed F a0 a1 h = some (rR, hf)) : jh_sh h a0 = (11, 0) ∧ jMet l (d + 407) yX11_greed cX11_greed 7 (some .int) [.ref a0, .int a1] h (some (.int rR)) hf := by
  unfold f_X11_greed at H
  obtain ⟨hsh, H⟩ := j_gd_some H
  refine ⟨hsh, ?_⟩
  refine jMet.of false [some (.ref a0), some (.int a1), none, none, none, none, none] (by decide) (by decide) (Nat.le_of_ble_eq_true rfl) (fun S0 q hq => by simpa [j_l, lv_args, j_v, Value.category] using hq) ?_
  refine jr_aload_n dX11_greed_0 rfl rfl ?_
  refine jr_iconst (v := 0) dX11_greed_1 (by decide) ?_
  refine jr_putI fl_RX11_110 (fun z => by cases z) dX11_greed_2 H (fun h1 H => ?_)
  refine jr_aload_n dX11_greed_5 rfl rfl ?_
  refine jr_iload_n dX11_greed_6 rfl rfl ?_
  obtain ⟨v3, h2, Hc, H⟩ := j_b2_some H
  refine jr_callV (ci := 11) [.int a1] my_X11_isStation mv_X11_isStation ml_RX11_264 dX11_greed_7 rfl rfl (Nat.le_of_ble_eq_true rfl) rfl (c_X11_isStation l (d + 405) F a0 a1 h1 v3 h2 Hc) ?_
  refine jr_if_ne (tgt := 15) dX11_greed_10 (by decide) H (fun H => ?_) (fun H => ?_)
  · refine jr_iconst (v := (-1)) dX11_greed_13 (by decide) ?_
    exact jr_iret rfl dX11_greed_14 H
  · refine jr_iconst (v := 0) dX11_greed_15 (by decide) ?_
    refine jr_istore_n dX11_greed_16 rfl (by decide) rfl (Or.inl rfl) ?_
    refine jr_aload_n dX11_greed_17 rfl rfl ?_
    refine jr_iload_n dX11_greed_18 rfl rfl ?_
    refine jr_iconst (v := 0) dX11_greed_19 (by decide) ?_
    obtain ⟨v5, h4, Hc, H⟩ := j_b2_some H
    refine jr_callV (ci := 11) [.int a1, .int 0] my_X11_takesBy mv_X11_takesBy ml_RX11_383 dX11_greed_20 rfl rfl (Nat.le_of_ble_eq_true rfl) rfl (c_X11_takesBy l d F a0 a1 0 h2 v5 h4 Hc) ?_
    refine jr_istore_n dX11_greed_23 rfl (by decide) rfl (Or.inl rfl) ?_
    refine jr_iload_n dX11_greed_24 rfl rfl ?_
    refine jr_istore dX11_greed_25 (by decide) rfl (Or.inl rfl) ?_
    refine jr_iconst (v := 1) dX11_greed_27 (by decide) ?_
    refine jr_istore dX11_greed_28 (by decide) rfl (Or.inl rfl) ?_
    refine s_X11_greed_L30 l d F a0 a1 v5 _ (fun y11 y12 h13 H => ?_) F 0 v5 1 h4 H
    · refine jr_aload_n dX11_greed_67 rfl rfl ?_
      refine jr_iconst (v := 0) dX11_greed_68 (by decide) ?_
      refine jr_putI fl_RX11_113 (fun z => by cases z) dX11_greed_69 H (fun h14 H => ?_)
      refine jr_aload_n dX11_greed_72 rfl rfl ?_
      refine jr_iload_n dX11_greed_73 rfl rfl ?_
      refine jr_i2l dX11_greed_74 ?_
      obtain ⟨h15, Hc, H⟩ := Option.bind_eq_some_iff.mp H
      refine jr_callV (ci := 11) [.long (y12.toInt64)] my_X11_tell mv_X11_tell ml_RX11_274 dX11_greed_75 rfl rfl (Nat.le_of_ble_eq_true rfl) rfl (c_X11_tell l (d + 406) F a0 (y12.toInt64) h14 h15 Hc) ?_
      refine jr_aload_n dX11_greed_78 rfl rfl ?_
      refine jr_iload dX11_greed_79 rfl ?_
      refine jr_i2l dX11_greed_81 ?_
      obtain ⟨h16, Hc, H⟩ := Option.bind_eq_some_iff.mp H
      refine jr_callV (ci := 11) [.long (v5.toInt64)] my_X11_tell mv_X11_tell ml_RX11_274 dX11_greed_82 rfl rfl (Nat.le_of_ble_eq_true rfl) rfl (c_X11_tell l (d + 406) F a0 (v5.toInt64) h15 h16 Hc) ?_
      refine jr_iload_n dX11_greed_85 rfl rfl ?_
      exact jr_iret rfl dX11_greed_86 H
set_option maxRecDepth 100000 in
set_option maxHeartbeats 4000000 in
theorem s_X11_law_L42 (l : Launch) (d : Nat) (F : Nat) (x0 : Nat) (x1 : Int32) (x2 : Int32) (k68 : jH → Option (Int32 × jH)) {rR : Int32} {hf : jH} (hk68 : ∀ (h : jH), k68 h = some (rR, hf) → jGo l (d + 406) none RX11 cX11_law 10 (some .int) false 68 [some (.ref x0), some (.int x1), some (.int x2), none, none, none, none, none, none, none] [] h (some (.int rR)) hf) : ∀ (n : Nat) (x3 : Int32) (h : jH), f_X11_law_L42 F x0 x1 x2 k68 n x3 h = some (rR, hf) → jGo l (d + 406) none RX11 cX11_law 10 (some .int) false 42 [some (.ref x0), some (.int x1), some (.int x2), some (.int x3), none, none, none, none, none, none] [] h (some (.int rR)) hf := by
  intro n
  induction n with
  | zero =>
    intro x3 h H
    cases H
  | succ n ih =>
    intro x3 h H
    unfold f_X11_law_L42 at H
    refine jr_iload_n dX11_law_42 rfl rfl ?_
    refine jr_aload_n dX11_law_43 rfl rfl ?_
    refine jr_getI fl_RX11_120 (by decide) dX11_law_44 H (fun v9 H => ?_)
    refine jr_icmp_ge (tgt := 68) dX11_law_47 (by decide) H (fun H => ?_) (fun H => ?_)
    · refine jr_fgt 3 ?_
      exact hk68 _ H
    · refine jr_aload_n dX11_law_50 rfl rfl ?_
      refine jr_getR fl_RX11_85 dX11_law_51 H (fun v10 H => ?_)
      refine jr_iload_n dX11_law_54 rfl rfl ?_
      refine jr_aload_n dX11_law_55 rfl rfl ?_
      refine jr_iload_n dX11_law_56 rfl rfl ?_
      refine jr_iload_n dX11_law_57 rfl rfl ?_
      obtain ⟨v12, h11, Hc, H⟩ := j_b2_some H
      refine jr_callV (ci := 11) [.int x3, .int x1] my_X11_tollNow mv_X11_tollNow ml_RX11_271 dX11_law_58 rfl rfl (Nat.le_of_ble_eq_true rfl) rfl (c_X11_tollNow l d F x0 x3 x1 h v12 h11 Hc) ?_
      refine jr_iast dX11_law_61 H (fun h13 H => ?_)
      refine jr_iinc (v := (x3 + 1)) dX11_law_62 rfl rfl (by decide) rfl (Or.inl rfl) ?_
      refine jr_goto (tgt := 42) dX11_law_65 (by decide) ?_
      exact ih _ _ H
set_option maxRecDepth 100000 in
set_option maxHeartbeats 4000000 in
theorem s_X11_law_L95 (l : Launch) (d : Nat) (F : Nat) (x0 : Nat) (x1 : Int32) (x2 : Int32) (x3 : Nat) (x4 : Int32) (k121 : jH → Option (Int32 × jH)) {rR : Int32} {hf : jH} (hk121 : ∀ (h : jH), k121 h = some (rR, hf) → jGo l (d + 406) none RX11 cX11_law 10 (some .int) false 121 [some (.ref x0), some (.int x1), none, some (.ref x3), some (.int x4), none, none, none, none, none] [] h (some (.int rR)) hf) : ∀ (n : Nat) (x5 : Int32) (h : jH), f_X11_law_L95 F x0 x1 x2 x3 x4 k121 n x5 h = some (rR, hf) → jGo l (d + 406) none RX11 cX11_law 10 (some .int) false 95 [some (.ref x0), some (.int x1), some (.int x2), some (.ref x3), some (.int x4), some (.int x5), none, none, none, none] [] h (some (.int rR)) hf := by
  intro n
  induction n with
  | zero =>
    intro x5 h H
    cases H
  | succ n ih =>
    intro x5 h H
    unfold f_X11_law_L95 at H
    refine jr_iload dX11_law_95 rfl ?_
    refine jr_iload_n dX11_law_97 rfl rfl ?_
    refine jr_icmp_ge (tgt := 121) dX11_law_98 (by decide) H (fun H => ?_) (fun H => ?_)
    · refine jr_fgt 2 ?_
      refine jr_fgt 5 ?_
      exact hk121 _ H
    · refine jr_aload_n dX11_law_101 rfl rfl ?_
      refine jr_getR fl_RX11_46 dX11_law_102 H (fun v20 H => ?_)
      refine jr_iload dX11_law_105 rfl ?_
      refine jr_aload_n dX11_law_107 rfl rfl ?_
      refine jr_getR fl_RX11_30 dX11_law_108 H (fun v21 H => ?_)
      refine jr_iload dX11_law_111 rfl ?_
      refine jr_bald dX11_law_113 H (fun v22 H => ?_)
      refine jr_bast dX11_law_114 H (fun h23 H => ?_)
      refine jr_iinc (v := (x5 + 1)) dX11_law_115 rfl rfl (by decide) rfl (Or.inl rfl) ?_
      refine jr_goto (tgt := 95) dX11_law_118 (by decide) ?_
      exact ih _ _ H
set_option maxRecDepth 100000 in
set_option maxHeartbeats 4000000 in
theorem s_X11_law_L133 (l : Launch) (d : Nat) (F : Nat) (x0 : Nat) (x1 : Int32) (x3 : Nat) (x4 : Int32) (k202 : Int32 → Int32 → Int32 → jH → Option (Int32 × jH)) {rR : Int32} {hf : jH} (hk202 : ∀ (y5 : Int32) (y6 : Int32) (y7 : Int32) (h : jH), k202 y5 y6 y7 h = some (rR, hf) → jGo l (d + 406) none RX11 cX11_law 10 (some .int) false 202 [some (.ref x0), none, none, some (.ref x3), some (.int x4), some (.int y5), some (.int y6), some (.int y7), none, none] [] h (some (.int rR)) hf) : ∀ (n : Nat) (x5 : Int32) (x6 : Int32) (x7 : Int32) (x8 : Int32) (h : jH), f_X11_law_L133 F x0 x1 x3 x4 k202 n x5 x6 x7 x8 h = some (rR, hf) → jGo l (d + 406) none RX11 cX11_law 10 (some .int) false 133 [some (.ref x0), some (.int x1), none, some (.ref x3), some (.int x4), some (.int x5), some (.int x6), some (.int x7), some (.int x8), none] [] h (some (.int rR)) hf := by
  intro n
  induction n with
  | zero =>
    intro x5 x6 x7 x8 h H
    cases H
  | succ n ih =>
    intro x5 x6 x7 x8 h H
    unfold f_X11_law_L133 at H
    refine jr_iload dX11_law_133 rfl ?_
    refine jr_aload_n dX11_law_135 rfl rfl ?_
    refine jr_getI fl_RX11_120 (by decide) dX11_law_136 H (fun v25 H => ?_)
    refine jr_icmp_ge (tgt := 202) dX11_law_139 (by decide) H (fun H => ?_) (fun H => ?_)
    · refine jr_fgt 1 ?_
      refine jr_fgt 8 ?_
      exact hk202 _ _ _ _ H
    · refine jr_aload_n dX11_law_142 rfl rfl ?_
      refine jr_iload dX11_law_143 rfl ?_
      refine jr_iload_n dX11_law_145 rfl rfl ?_
      obtain ⟨v27, h26, Hc, H⟩ := j_b2_some H
      refine jr_callV (ci := 11) [.int x8, .int x1] my_X11_tollNow mv_X11_tollNow ml_RX11_271 dX11_law_146 rfl rfl (Nat.le_of_ble_eq_true rfl) rfl (c_X11_tollNow l d F x0 x8 x1 h v27 h26 Hc) ?_
      refine jr_aload_n dX11_law_149 rfl rfl ?_
      refine jr_getR fl_RX11_85 dX11_law_150 H (fun v28 H => ?_)
      refine jr_iload dX11_law_153 rfl ?_
      refine jr_iald dX11_law_155 H (fun v29 H => ?_)
      refine jr_isub dX11_law_156 ?_
      refine jr_istore dX11_law_157 (by decide) rfl (Or.inl rfl) ?_
      refine jr_iload dX11_law_159 rfl ?_
      refine jr_iload dX11_law_161 rfl ?_
      refine jr_jn (fun J => ∀ (s30 : Int32) (s31 : Int32) (h32 : jH), J s30 s31 h32 = some (rR, hf) → jGo l (d + 406) none RX11 cX11_law 10 (some .int) false 171 [some (.ref x0), some (.int x1), none, some (.ref x3), some (.int x4), none, some (.int x6), some (.int x7), some (.int x8), some (.int (v27 - v29))] [.int s30, .int s31] h32 (some (.int rR)) hf) H (fun s30 s31 h32 H => ?_) (fun J171 hJ171 H => ?_)
      · refine jr_iadd dX11_law_171 ?_
        refine jr_istore dX11_law_172 (by decide) rfl (Or.inl rfl) ?_
        refine jr_iload dX11_law_174 rfl ?_
        refine jr_iload dX11_law_176 rfl ?_
        refine jr_jn (fun J => ∀ (s33 : Int32) (s34 : Int32) (h35 : jH), J s33 s34 h35 = some (rR, hf) → jGo l (d + 406) none RX11 cX11_law 10 (some .int) false 186 [some (.ref x0), some (.int x1), none, some (.ref x3), some (.int x4), some (.int (s31 + s30)), none, some (.int x7), some (.int x8), some (.int (v27 - v29))] [.int s33, .int s34] h35 (some (.int rR)) hf) H (fun s33 s34 h35 H => ?_) (fun J186 hJ186 H => ?_)
        · refine jr_iadd dX11_law_186 ?_
          refine jr_istore dX11_law_187 (by decide) rfl (Or.inl rfl) ?_
          refine jr_iload dX11_law_189 rfl ?_
          refine jr_iload dX11_law_191 rfl ?_
          refine jr_iadd dX11_law_193 ?_
          refine jr_istore dX11_law_194 (by decide) rfl (Or.inl rfl) ?_
          refine jr_iinc (v := (x8 + 1)) dX11_law_196 rfl rfl (by decide) rfl (Or.inl rfl) ?_
          refine jr_goto (tgt := 133) dX11_law_199 (by decide) ?_
          refine jr_fgt 9 ?_
          exact ih _ _ _ _ _ H
        · refine jr_if_ge (tgt := 185) dX11_law_178 (by decide) H (fun H => ?_) (fun H => ?_)
          · refine jr_iconst (v := 0) dX11_law_185 (by decide) ?_
            refine jr_fgt 6 ?_
            exact hJ186 _ _ _ H
          · refine jr_iconst (v := 1) dX11_law_181 (by decide) ?_
            refine jr_goto (tgt := 186) dX11_law_182 (by decide) ?_
            refine jr_fgt 6 ?_
            exact hJ186 _ _ _ H
      · refine jr_if_le (tgt := 170) dX11_law_163 (by decide) H (fun H => ?_) (fun H => ?_)
        · refine jr_iconst (v := 0) dX11_law_170 (by decide) ?_
          refine jr_fgt 5 ?_
          exact hJ171 _ _ _ H
        · refine jr_iconst (v := 1) dX11_law_166 (by decide) ?_
          refine jr_goto (tgt := 171) dX11_law_167 (by decide) ?_
          refine jr_fgt 5 ?_
          exact hJ171 _ _ _ H
set_option maxRecDepth 100000 in
set_option maxHeartbeats 4000000 in
theorem c_X11_law (l : Launch) (d : Nat) (F : Nat) (a0 : Nat) (a1 : Int32) (h : jH) (rR : Int32) (hf : jH) (H : f_X11_law F a0 a1 h = some (rR, hf)) : jh_sh h a0 = (11, 0) ∧ jMet l (d + 406) yX11_law cX11_law 10 (some .int) [.ref a0, .int a1] h (some (.int rR)) hf := by
  unfold f_X11_law at H
  obtain ⟨hsh, H⟩ := j_gd_some H
  refine ⟨hsh, ?_⟩
  refine jMet.of false [some (.ref a0), some (.int a1), none, none, none, none, none, none, none, none] (by decide) (by decide) (Nat.le_of_ble_eq_true rfl) (fun S0 q hq => by simpa [j_l, lv_args, j_v, Value.category] using hq) ?_
  refine jr_aload_n dX11_law_0 rfl rfl ?_
  refine jr_iconst (v := 0) dX11_law_1 (by decide) ?_
  refine jr_putI fl_RX11_110 (fun z => by cases z) dX11_law_2 H (fun h1 H => ?_)
  refine jr_aload_n dX11_law_5 rfl rfl ?_
  refine jr_getI fl_RX11_126 (by decide) dX11_law_6 H (fun v2 H => ?_)
  refine jr_istore_n dX11_law_9 rfl (by decide) rfl (Or.inl rfl) ?_
  refine jr_aload_n dX11_law_10 rfl rfl ?_
  refine jr_iload_n dX11_law_11 rfl rfl ?_
  obtain ⟨v4, h3, Hc, H⟩ := j_b2_some H
  refine jr_callV (ci := 11) [.int a1] my_X11_isStation mv_X11_isStation ml_RX11_264 dX11_law_12 rfl rfl (Nat.le_of_ble_eq_true rfl) rfl (c_X11_isStation l (d + 404) F a0 a1 h1 v4 h3 Hc) ?_
  refine jr_if_ne (tgt := 26) dX11_law_15 (by decide) H (fun H => ?_) (fun H => ?_)
  · refine jr_aload_n dX11_law_18 rfl rfl ?_
    refine jr_iconst (v := 0) dX11_law_19 (by decide) ?_
    refine jr_putI fl_RX11_126 (fun z => by cases z) dX11_law_20 H (fun h5 H => ?_)
    refine jr_bipush (v := (-100)) dX11_law_23 (by decide) ?_
    exact jr_iret rfl dX11_law_25 H
  · refine jr_aload_n dX11_law_26 rfl rfl ?_
    obtain ⟨v7, h6, Hc, H⟩ := j_b2_some H
    refine jr_callV (ci := 11) [] my_X11_readRule mv_X11_readRule ml_RX11_213 dX11_law_27 rfl rfl (Nat.le_of_ble_eq_true rfl) rfl (c_X11_readRule l (d + 1) F a0 h3 v7 h6 Hc) ?_
    refine jr_if_ne (tgt := 40) dX11_law_30 (by decide) H (fun H => ?_) (fun H => ?_)
    · refine jr_iconst (v := (-1)) dX11_law_33 (by decide) ?_
      refine jr_aload_n dX11_law_34 rfl rfl ?_
      refine jr_getI fl_RX11_141 (by decide) dX11_law_35 H (fun v8 H => ?_)
      refine jr_isub dX11_law_38 ?_
      exact jr_iret rfl dX11_law_39 H
    · refine jr_iconst (v := 0) dX11_law_40 (by decide) ?_
      refine jr_istore_n dX11_law_41 rfl (by decide) rfl (Or.inl rfl) ?_
      refine s_X11_law_L42 l d F a0 a1 v2 _ (fun h14 H => ?_) F 0 h6 H
      · refine jr_aload_n dX11_law_68 rfl rfl ?_
        refine jr_getR fl_RX11_46 dX11_law_69 H (fun v15 H => ?_)
        refine jr_astore_n dX11_law_72 rfl (by decide) rfl (Or.inl rfl) ?_
        refine jr_aload_n dX11_law_73 rfl rfl ?_
        refine jr_getI fl_RX11_216 (by decide) dX11_law_74 H (fun v16 H => ?_)
        refine jr_istore dX11_law_77 (by decide) rfl (Or.inl rfl) ?_
        refine jr_aload_n dX11_law_79 rfl rfl ?_
        refine jr_aload_n dX11_law_80 rfl rfl ?_
        refine jr_getR fl_RX11_49 dX11_law_81 H (fun v17 H => ?_)
        refine jr_putR fl_RX11_46 (fun z => by cases z) dX11_law_84 H (fun h18 H => ?_)
        refine jr_aload_n dX11_law_87 rfl rfl ?_
        refine jr_iload_n dX11_law_88 rfl rfl ?_
        refine jr_putI fl_RX11_216 (fun z => by cases z) dX11_law_89 H (fun h19 H => ?_)
        refine jr_iconst (v := 0) dX11_law_92 (by decide) ?_
        refine jr_istore dX11_law_93 (by decide) rfl (Or.inl rfl) ?_
        refine s_X11_law_L95 l d F a0 a1 v2 v15 v16 _ (fun h24 H => ?_) F 0 h19 H
        · refine jr_iconst (v := 0) dX11_law_121 (by decide) ?_
          refine jr_istore dX11_law_122 (by decide) rfl (Or.inl rfl) ?_
          refine jr_iconst (v := 0) dX11_law_124 (by decide) ?_
          refine jr_istore dX11_law_125 (by decide) rfl (Or.inl rfl) ?_
          refine jr_iconst (v := 0) dX11_law_127 (by decide) ?_
          refine jr_istore dX11_law_128 (by decide) rfl (Or.inl rfl) ?_
          refine jr_iconst (v := 0) dX11_law_130 (by decide) ?_
          refine jr_istore dX11_law_131 (by decide) rfl (Or.inl rfl) ?_
          refine s_X11_law_L133 l d F a0 a1 v15 v16 _ (fun y36 y37 y38 h39 H => ?_) F 0 0 0 0 h24 H
          · refine jr_aload_n dX11_law_202 rfl rfl ?_
            refine jr_aload_n dX11_law_203 rfl rfl ?_
            refine jr_putR fl_RX11_46 (fun z => by cases z) dX11_law_204 H (fun h40 H => ?_)
            refine jr_aload_n dX11_law_207 rfl rfl ?_
            refine jr_iload dX11_law_208 rfl ?_
            refine jr_putI fl_RX11_216 (fun z => by cases z) dX11_law_210 H (fun h41 H => ?_)
            refine jr_aload_n dX11_law_213 rfl rfl ?_
            refine jr_iconst (v := 0) dX11_law_214 (by decide) ?_
            refine jr_putI fl_RX11_113 (fun z => by cases z) dX11_law_215 H (fun h42 H => ?_)
            refine jr_aload_n dX11_law_218 rfl rfl ?_
            refine jr_iload dX11_law_219 rfl ?_
            refine jr_i2l dX11_law_221 ?_
            obtain ⟨h43, Hc, H⟩ := Option.bind_eq_some_iff.mp H
            refine jr_callV (ci := 11) [.long (y37.toInt64)] my_X11_tell mv_X11_tell ml_RX11_274 dX11_law_222 rfl rfl (Nat.le_of_ble_eq_true rfl) rfl (c_X11_tell l (d + 405) F a0 (y37.toInt64) h42 h43 Hc) ?_
            refine jr_aload_n dX11_law_225 rfl rfl ?_
            refine jr_iload dX11_law_226 rfl ?_
            refine jr_i2l dX11_law_228 ?_
            obtain ⟨h44, Hc, H⟩ := Option.bind_eq_some_iff.mp H
            refine jr_callV (ci := 11) [.long (y38.toInt64)] my_X11_tell mv_X11_tell ml_RX11_274 dX11_law_229 rfl rfl (Nat.le_of_ble_eq_true rfl) rfl (c_X11_tell l (d + 405) F a0 (y38.toInt64) h43 h44 Hc) ?_
            refine jr_iload dX11_law_232 rfl ?_
            exact jr_iret rfl dX11_law_234 H
set_option maxRecDepth 100000 in
set_option maxHeartbeats 4000000 in
theorem s_X11_isAll_L10 (l : Launch) (d : Nat) (F : Nat) (x1 : Nat) (x2 : Int32) {rR : Int32} {hf : jH} : ∀ (n : Nat) (x3 : Int32) (h : jH), f_X11_isAll_L10 F x1 x2 n x3 h = some (rR, hf) → jGo l (d + 0) none RX11 cX11_isAll 5 (some .boolean) false 10 [none, some (.ref x1), some (.int x2), some (.int x3), none] [] h (some (.int rR)) hf := by
  intro n
  induction n with
  | zero =>
    intro x3 h H
    cases H
  | succ n ih =>
    intro x3 h H
    unfold f_X11_isAll_L10 at H
    refine jr_iload_n dX11_isAll_10 rfl rfl ?_
    refine jr_iload_n dX11_isAll_11 rfl rfl ?_
    refine jr_icmp_ge (tgt := 33) dX11_isAll_12 (by decide) H (fun H => ?_) (fun H => ?_)
    · refine jr_iconst (v := 1) dX11_isAll_33 (by decide) ?_
      exact jr_zret rfl rfl dX11_isAll_34 H
    · refine jr_aload_n dX11_isAll_15 rfl rfl ?_
      refine jr_iload_n dX11_isAll_16 rfl rfl ?_
      refine jr_iald dX11_isAll_17 H (fun v3 H => ?_)
      refine jr_istore dX11_isAll_18 (by decide) rfl (Or.inl rfl) ?_
      refine jr_iload dX11_isAll_20 rfl ?_
      refine jr_if_eq (tgt := 27) dX11_isAll_22 (by decide) H (fun H => ?_) (fun H => ?_)
      · refine jr_iinc (v := (x3 + 1)) dX11_isAll_27 rfl rfl (by decide) rfl (Or.inl rfl) ?_
        refine jr_goto (tgt := 10) dX11_isAll_30 (by decide) ?_
        refine jr_fgt 4 ?_
        exact ih _ _ H
      · refine jr_iconst (v := 0) dX11_isAll_25 (by decide) ?_
        exact jr_zret rfl rfl dX11_isAll_26 H
set_option maxRecDepth 100000 in
set_option maxHeartbeats 4000000 in
theorem c_X11_isAll (l : Launch) (d : Nat) (F : Nat) (a0 : Nat) (h : jH) (rR : Int32) (hf : jH) (H : f_X11_isAll F a0 h = some (rR, hf)) : jh_sh h a0 = (11, 0) ∧ jMet l (d + 0) yX11_isAll cX11_isAll 5 (some .boolean) [.ref a0] h (some (.int rR)) hf := by
  unfold f_X11_isAll at H
  obtain ⟨hsh, H⟩ := j_gd_some H
  refine ⟨hsh, ?_⟩
  refine jMet.of false [some (.ref a0), none, none, none, none] (by decide) (by decide) (Nat.le_of_ble_eq_true rfl) (fun S0 q hq => by simpa [j_l, lv_args, j_v, Value.category] using hq) ?_
  refine jr_aload_n dX11_isAll_0 rfl rfl ?_
  refine jr_getR fl_RX11_88 dX11_isAll_1 H (fun v1 H => ?_)
  refine jr_astore_n dX11_isAll_4 rfl (by decide) rfl (Or.inl rfl) ?_
  refine jr_aload_n dX11_isAll_5 rfl rfl ?_
  refine jr_len100 dX11_isAll_6 H (fun v2 H => ?_)
  refine jr_istore_n dX11_isAll_7 rfl (by decide) rfl (Or.inl rfl) ?_
  refine jr_iconst (v := 0) dX11_isAll_8 (by decide) ?_
  refine jr_istore_n dX11_isAll_9 rfl (by decide) rfl (Or.inl rfl) ?_
  refine jr_fgt 0 ?_
  exact s_X11_isAll_L10 l d F v1 v2 F 0 h H
set_option maxRecDepth 100000 in
set_option maxHeartbeats 4000000 in
theorem s_X11_take_L2 (l : Launch) (d : Nat) (F : Nat) (x0 : Nat) (x1 : Int32) (x2 : Int32) {hf : jH} : ∀ (n : Nat) (x3 : Int32) (h : jH), f_X11_take_L2 F x0 x1 x2 n x3 h = some hf → jGo l (d + 2) none RX11 cX11_take 4 none false 2 [some (.ref x0), some (.int x1), some (.int x2), some (.int x3)] [] h none hf := by
  intro n
  induction n with
  | zero =>
    intro x3 h H
    cases H
  | succ n ih =>
    intro x3 h H
    unfold f_X11_take_L2 at H
    refine jr_iload_n dX11_take_2 rfl rfl ?_
    refine jr_iconst (v := 5) dX11_take_3 (by decide) ?_
    refine jr_icmp_ge (tgt := 30) dX11_take_4 (by decide) H (fun H => ?_) (fun H => ?_)
    · exact jr_vret rfl dX11_take_30 H
    · refine jr_aload_n dX11_take_7 rfl rfl ?_
      refine jr_getR fl_RX11_88 dX11_take_8 H (fun v1 H => ?_)
      refine jr_iload_n dX11_take_11 rfl rfl ?_
      refine jr_dup2 dX11_take_12 rfl rfl ?_
      refine jr_iald dX11_take_13 H (fun v2 H => ?_)
      refine jr_iload_n dX11_take_14 rfl rfl ?_
      refine jr_aload_n dX11_take_15 rfl rfl ?_
      refine jr_iload_n dX11_take_16 rfl rfl ?_
      refine jr_iload_n dX11_take_17 rfl rfl ?_
      obtain ⟨v4, h3, Hc, H⟩ := j_b2_some H
      refine jr_callV (ci := 11) [.int x1, .int x3] my_X11_often mv_X11_often ml_RX11_238 dX11_take_18 rfl rfl (Nat.le_of_ble_eq_true rfl) rfl (c_X11_often l d F x0 x1 x3 h v4 h3 Hc) ?_
      refine jr_imul dX11_take_21 ?_
      refine jr_isub dX11_take_22 ?_
      refine jr_iast dX11_take_23 H (fun h5 H => ?_)
      refine jr_iinc (v := (x3 + 1)) dX11_take_24 rfl rfl (by decide) rfl (Or.inl rfl) ?_
      refine jr_goto (tgt := 2) dX11_take_27 (by decide) ?_
      exact ih _ _ H
set_option maxRecDepth 100000 in
set_option maxHeartbeats 4000000 in
theorem c_X11_take (l : Launch) (d : Nat) (F : Nat) (a0 : Nat) (a1 : Int32) (a2 : Int32) (h : jH) (hf : jH) (H : f_X11_take F a0 a1 a2 h = some hf) : jh_sh h a0 = (11, 0) ∧ jMet l (d + 2) yX11_take cX11_take 4 none [.ref a0, .int a1, .int a2] h none hf := by
  unfold f_X11_take at H
  obtain ⟨hsh, H⟩ := j_gd_some H
  refine ⟨hsh, ?_⟩
  refine jMet.of false [some (.ref a0), some (.int a1), some (.int a2), none] (by decide) (by decide) (Nat.le_of_ble_eq_true rfl) (fun S0 q hq => by simpa [j_l, lv_args, j_v, Value.category] using hq) ?_
  refine jr_iconst (v := 0) dX11_take_0 (by decide) ?_
  refine jr_istore_n dX11_take_1 rfl (by decide) rfl (Or.inl rfl) ?_
  exact s_X11_take_L2 l d F a0 a1 a2 F 0 h H
set_option maxRecDepth 100000 in
set_option maxHeartbeats 4000000 in
theorem s_X11_isFirst_L38 (l : Launch) (d : Nat) (F : Nat) (x0 : Nat) (x1 : Int32) (k58 : Int32 → jH → Option (Int32 × jH)) {rR : Int32} {hf : jH} (hk58 : ∀ (y2 : Int32) (h : jH), k58 y2 h = some (rR, hf) → jGo l (d + 0) none RX11 cX11_isFirst 3 (some .boolean) false 58 [some (.ref x0), none, some (.int y2)] [] h (some (.int rR)) hf) : ∀ (n : Nat) (x2 : Int32) (h : jH), f_X11_isFirst_L38 F x0 x1 k58 n x2 h = some (rR, hf) → jGo l (d + 0) none RX11 cX11_isFirst 3 (some .boolean) false 38 [some (.ref x0), some (.int x1), some (.int x2)] [] h (some (.int rR)) hf := by
  intro n
  induction n with
  | zero =>
    intro x2 h H
    cases H
  | succ n ih =>
    intro x2 h H
    unfold f_X11_isFirst_L38 at H
    refine jr_iload_n dX11_isFirst_38 rfl rfl ?_
    refine jr_iload_n dX11_isFirst_39 rfl rfl ?_
    refine jr_icmp_ge (tgt := 85) dX11_isFirst_40 (by decide) H (fun H => ?_) (fun H => ?_)
    · refine jr_iconst (v := 0) dX11_isFirst_85 (by decide) ?_
      exact jr_zret rfl rfl dX11_isFirst_86 H
    · refine jr_aload_n dX11_isFirst_43 rfl rfl ?_
      refine jr_getR fl_RX11_91 dX11_isFirst_44 H (fun v7 H => ?_)
      refine jr_iload_n dX11_isFirst_47 rfl rfl ?_
      refine jr_iald dX11_isFirst_48 H (fun v8 H => ?_)
      refine jr_aload_n dX11_isFirst_49 rfl rfl ?_
      refine jr_getR fl_RX11_94 dX11_isFirst_50 H (fun v9 H => ?_)
      refine jr_iload_n dX11_isFirst_53 rfl rfl ?_
      refine jr_iald dX11_isFirst_54 H (fun v10 H => ?_)
      refine jr_icmp_eq (tgt := 79) dX11_isFirst_55 (by decide) H (fun H => ?_) (fun H => ?_)
      · refine jr_iinc (v := (x2 + 1)) dX11_isFirst_79 rfl rfl (by decide) rfl (Or.inl rfl) ?_
        refine jr_goto (tgt := 38) dX11_isFirst_82 (by decide) ?_
        exact ih _ _ H
      · refine jr_fgt 1 ?_
        exact hk58 _ _ H
set_option maxRecDepth 100000 in
set_option maxHeartbeats 4000000 in
theorem c_X11_isFirst (l : Launch) (d : Nat) (F : Nat) (a0 : Nat) (a1 : Int32) (h : jH) (rR : Int32) (hf : jH) (H : f_X11_isFirst F a0 a1 h = some (rR, hf)) : jh_sh h a0 = (11, 0) ∧ jMet l (d + 0) yX11_isFirst cX11_isFirst 3 (some .boolean) [.ref a0, .int a1] h (some (.int rR)) hf := by
  unfold f_X11_isFirst at H
  obtain ⟨hsh, H⟩ := j_gd_some H
  refine ⟨hsh, ?_⟩
  refine jMet.of false [some (.ref a0), some (.int a1), none] (by decide) (by decide) (Nat.le_of_ble_eq_true rfl) (fun S0 q hq => by simpa [j_l, lv_args, j_v, Value.category] using hq) ?_
  refine jr_aload_n dX11_isFirst_0 rfl rfl ?_
  refine jr_getI fl_RX11_386 (by decide) dX11_isFirst_1 H (fun v1 H => ?_)
  refine jr_jn (fun J => ∀ (h2 : jH), J h2 = some (rR, hf) → jGo l (d + 0) none RX11 cX11_isFirst 3 (some .boolean) false 15 [some (.ref a0), some (.int a1), none] [] h2 (some (.int rR)) hf) H (fun h2 H => ?_) (fun J15 hJ15 H => ?_)
  · refine jr_aload_n dX11_isFirst_15 rfl rfl ?_
    refine jr_getI fl_RX11_386 (by decide) dX11_isFirst_16 H (fun v3 H => ?_)
    refine jr_jn (fun J => ∀ (h4 : jH), J h4 = some (rR, hf) → jGo l (d + 0) none RX11 cX11_isFirst 3 (some .boolean) false 30 [none, none, none] [] h4 (some (.int rR)) hf) H (fun h4 H => ?_) (fun J30 hJ30 H => ?_)
    · refine jr_iconst (v := 1) dX11_isFirst_30 (by decide) ?_
      refine jr_goto (tgt := 35) dX11_isFirst_31 (by decide) ?_
      exact jr_zret rfl rfl dX11_isFirst_35 H
    · refine jr_if_eq (tgt := 30) dX11_isFirst_19 (by decide) H (fun H => ?_) (fun H => ?_)
      · refine jr_fgt 0 ?_
        refine jr_fgt 1 ?_
        exact hJ30 _ H
      · refine jr_iload_n dX11_isFirst_22 rfl rfl ?_
        refine jr_aload_n dX11_isFirst_23 rfl rfl ?_
        refine jr_getI fl_RX11_389 (by decide) dX11_isFirst_24 H (fun v5 H => ?_)
        refine jr_icmp_ge (tgt := 34) dX11_isFirst_27 (by decide) H (fun H => ?_) (fun H => ?_)
        · refine jr_iconst (v := 0) dX11_isFirst_34 (by decide) ?_
          exact jr_zret rfl rfl dX11_isFirst_35 H
        · refine jr_fgt 0 ?_
          refine jr_fgt 1 ?_
          exact hJ30 _ H
  · refine jr_if_eq (tgt := 15) dX11_isFirst_4 (by decide) H (fun H => ?_) (fun H => ?_)
    · exact hJ15 _ H
    · refine jr_iload_n dX11_isFirst_7 rfl rfl ?_
      refine jr_aload_n dX11_isFirst_8 rfl rfl ?_
      refine jr_getI fl_RX11_389 (by decide) dX11_isFirst_9 H (fun v6 H => ?_)
      refine jr_icmp_eq (tgt := 36) dX11_isFirst_12 (by decide) H (fun H => ?_) (fun H => ?_)
      · refine jr_iconst (v := 0) dX11_isFirst_36 (by decide) ?_
        refine jr_istore_n dX11_isFirst_37 rfl (by decide) rfl (Or.inl rfl) ?_
        refine s_X11_isFirst_L38 l d F a0 a1 _ (fun y11 h12 H => ?_) F 0 h H
        · refine jr_aload_n dX11_isFirst_58 rfl rfl ?_
          refine jr_getR fl_RX11_91 dX11_isFirst_59 H (fun v13 H => ?_)
          refine jr_iload_n dX11_isFirst_62 rfl rfl ?_
          refine jr_iald dX11_isFirst_63 H (fun v14 H => ?_)
          refine jr_aload_n dX11_isFirst_64 rfl rfl ?_
          refine jr_getR fl_RX11_94 dX11_isFirst_65 H (fun v15 H => ?_)
          refine jr_iload_n dX11_isFirst_68 rfl rfl ?_
          refine jr_iald dX11_isFirst_69 H (fun v16 H => ?_)
          refine jr_icmp_ge (tgt := 77) dX11_isFirst_70 (by decide) H (fun H => ?_) (fun H => ?_)
          · refine jr_iconst (v := 0) dX11_isFirst_77 (by decide) ?_
            exact jr_zret rfl rfl dX11_isFirst_78 H
          · refine jr_iconst (v := 1) dX11_isFirst_73 (by decide) ?_
            refine jr_goto (tgt := 78) dX11_isFirst_74 (by decide) ?_
            exact jr_zret rfl rfl dX11_isFirst_78 H
      · exact hJ15 _ H
set_option maxRecDepth 100000 in
set_option maxHeartbeats 4000000 in
theorem s_X11_goSaid_L61 (l : Launch) (d : Nat) (F : Nat) (rec : Nat → Int32 → Int32 → jH → Option jH) (x0 : Nat) (x2 : Int32) (hrec : (∀ (a0 : Nat) (a1 : Int32) (a2 : Int32) (h : jH) (hv : jH), rec a0 a1 a2 h = some hv → jh_sh h a0 = (11, 0) ∧ jMet l (d + 2) yX11_goSaid cX11_goSaid 4 none [.ref a0, .int a1, .int a2] h none hv)) {hf : jH} : ∀ (n : Nat) (x3 : Int32) (h : jH), f_X11_goSaid_L61 F rec x0 x2 n x3 h = some hf → jGo l (d + 3) none RX11 cX11_goSaid 4 none false 61 [some (.ref x0), none, some (.int x2), some (.int x3)] [] h none hf := by
  intro n
  induction n with
  | zero =>
    intro x3 h H
    cases H
  | succ n ih =>
    intro x3 h H
    unfold f_X11_goSaid_L61 at H
    refine jr_iload_n dX11_goSaid_61 rfl rfl ?_
    refine jr_aload_n dX11_goSaid_62 rfl rfl ?_
    refine jr_getI fl_RX11_120 (by decide) dX11_goSaid_63 H (fun v2 H => ?_)
    refine jr_icmp_ge (tgt := 107) dX11_goSaid_66 (by decide) H (fun H => ?_) (fun H => ?_)
    · exact jr_vret rfl dX11_goSaid_107 H
    · refine jr_iload_n dX11_goSaid_69 rfl rfl ?_
      refine jr_iconst (v := 4) dX11_goSaid_70 (by decide) ?_
      refine jr_icmp_ge (tgt := 107) dX11_goSaid_71 (by decide) H (fun H => ?_) (fun H => ?_)
      · exact jr_vret rfl dX11_goSaid_107 H
      · refine jr_aload_n dX11_goSaid_74 rfl rfl ?_
        refine jr_getR fl_RX11_91 dX11_goSaid_75 H (fun v3 H => ?_)
        refine jr_iload_n dX11_goSaid_78 rfl rfl ?_
        refine jr_iload_n dX11_goSaid_79 rfl rfl ?_
        refine jr_iast dX11_goSaid_80 H (fun h4 H => ?_)
        refine jr_aload_n dX11_goSaid_81 rfl rfl ?_
        refine jr_iload_n dX11_goSaid_82 rfl rfl ?_
        refine jr_iconst (v := 1) dX11_goSaid_83 (by decide) ?_
        obtain ⟨h5, Hc, H⟩ := Option.bind_eq_some_iff.mp H
        refine jr_callV (ci := 11) [.int x3, .int 1] my_X11_take mv_X11_take ml_RX11_398 dX11_goSaid_84 rfl rfl (Nat.le_of_ble_eq_true rfl) rfl (c_X11_take l d F x0 x3 1 h4 h5 Hc) ?_
        refine jr_aload_n dX11_goSaid_87 rfl rfl ?_
        refine jr_iload_n dX11_goSaid_88 rfl rfl ?_
        refine jr_iload_n dX11_goSaid_89 rfl rfl ?_
        refine jr_iconst (v := 1) dX11_goSaid_90 (by decide) ?_
        refine jr_iadd dX11_goSaid_91 ?_
        obtain ⟨h6, Hc, H⟩ := Option.bind_eq_some_iff.mp H
        refine jr_callV (ci := 11) [.int x3, .int (x2 + (1 : Int32))] my_X11_goSaid mv_X11_goSaid ml_RX11_401 dX11_goSaid_92 rfl rfl (Nat.le_of_ble_eq_true rfl) rfl (hrec x0 x3 (x2 + (1 : Int32)) h5 h6 Hc) ?_
        refine jr_aload_n dX11_goSaid_95 rfl rfl ?_
        refine jr_iload_n dX11_goSaid_96 rfl rfl ?_
        refine jr_iconst (v := (-1)) dX11_goSaid_97 (by decide) ?_
        obtain ⟨h7, Hc, H⟩ := Option.bind_eq_some_iff.mp H
        refine jr_callV (ci := 11) [.int x3, .int (-1)] my_X11_take mv_X11_take ml_RX11_398 dX11_goSaid_98 rfl rfl (Nat.le_of_ble_eq_true rfl) rfl (c_X11_take l d F x0 x3 (-1) h6 h7 Hc) ?_
        refine jr_iinc (v := (x3 + 1)) dX11_goSaid_101 rfl rfl (by decide) rfl (Or.inl rfl) ?_
        refine jr_goto (tgt := 61) dX11_goSaid_104 (by decide) ?_
        exact ih _ _ H
set_option maxRecDepth 100000 in
set_option maxHeartbeats 4000000 in
theorem s_X11_goSaid_L26 (l : Launch) (d : Nat) (F : Nat) (rec : Nat → Int32 → Int32 → jH → Option jH) (x0 : Nat) (x1 : Int32) (x2 : Int32) (k49 : jH → Option jH) (hrec : (∀ (a0 : Nat) (a1 : Int32) (a2 : Int32) (h : jH) (hv : jH), rec a0 a1 a2 h = some hv → jh_sh h a0 = (11, 0) ∧ jMet l (d + 2) yX11_goSaid cX11_goSaid 4 none [.ref a0, .int a1, .int a2] h none hv)) {hf : jH} (hk49 : ∀ (h : jH), k49 h = some hf → jGo l (d + 3) none RX11 cX11_goSaid 4 none false 49 [some (.ref x0), some (.int x1), some (.int x2), none] [] h none hf) : ∀ (n : Nat) (x3 : Int32) (h : jH), f_X11_goSaid_L26 F rec x0 x1 x2 k49 n x3 h = some hf → jGo l (d + 3) none RX11 cX11_goSaid 4 none false 26 [some (.ref x0), some (.int x1), some (.int x2), some (.int x3)] [] h none hf := by
  intro n
  induction n with
  | zero =>
    intro x3 h H
    cases H
  | succ n ih =>
    intro x3 h H
    unfold f_X11_goSaid_L26 at H
    refine jr_iload_n dX11_goSaid_26 rfl rfl ?_
    refine jr_iload_n dX11_goSaid_27 rfl rfl ?_
    refine jr_icmp_ge (tgt := 49) dX11_goSaid_28 (by decide) H (fun H => ?_) (fun H => ?_)
    · refine jr_fgt 3 ?_
      exact hk49 _ H
    · refine jr_aload_n dX11_goSaid_31 rfl rfl ?_
      refine jr_getR fl_RX11_94 dX11_goSaid_32 H (fun v16 H => ?_)
      refine jr_iload_n dX11_goSaid_35 rfl rfl ?_
      refine jr_aload_n dX11_goSaid_36 rfl rfl ?_
      refine jr_getR fl_RX11_91 dX11_goSaid_37 H (fun v17 H => ?_)
      refine jr_iload_n dX11_goSaid_40 rfl rfl ?_
      refine jr_iald dX11_goSaid_41 H (fun v18 H => ?_)
      refine jr_iast dX11_goSaid_42 H (fun h19 H => ?_)
      refine jr_iinc (v := (x3 + 1)) dX11_goSaid_43 rfl rfl (by decide) rfl (Or.inl rfl) ?_
      refine jr_goto (tgt := 26) dX11_goSaid_46 (by decide) ?_
      exact ih _ _ H
set_option maxRecDepth 100000 in
set_option maxHeartbeats 4000000 in
theorem c_b_X11_goSaid (l : Launch) (d : Nat) (F : Nat) (rec : Nat → Int32 → Int32 → jH → Option jH) (hrec : (∀ (a0 : Nat) (a1 : Int32) (a2 : Int32) (h : jH) (hv : jH), rec a0 a1 a2 h = some hv → jh_sh h a0 = (11, 0) ∧ jMet l (d + 2) yX11_goSaid cX11_goSaid 4 none [.ref a0, .int a1, .int a2] h none hv)) (a0 : Nat) (a1 : Int32) (a2 : Int32) (h : jH) (hf : jH) (H : b_X11_goSaid F rec a0 a1 a2 h = some hf) : jh_sh h a0 = (11, 0) ∧ jMet l (d + 3) yX11_goSaid cX11_goSaid 4 none [.ref a0, .int a1, .int a2] h none hf := by
  unfold b_X11_goSaid at H
  obtain ⟨hsh, H⟩ := j_gd_some H
  refine ⟨hsh, ?_⟩
  refine jMet.of false [some (.ref a0), some (.int a1), some (.int a2), none] (by decide) (by decide) (Nat.le_of_ble_eq_true rfl) (fun S0 q hq => by simpa [j_l, lv_args, j_v, Value.category] using hq) ?_
  refine jr_iload_n dX11_goSaid_0 rfl rfl ?_
  refine jr_jn (fun J => ∀ (h1 : jH), J h1 = some hf → jGo l (d + 3) none RX11 cX11_goSaid 4 none false 59 [some (.ref a0), some (.int a1), some (.int a2), none] [] h1 none hf) H (fun h1 H => ?_) (fun J59 hJ59 H => ?_)
  · refine jr_iload_n dX11_goSaid_59 rfl rfl ?_
    refine jr_istore_n dX11_goSaid_60 rfl (by decide) rfl (Or.inl rfl) ?_
    refine jr_fgt 1 ?_
    exact s_X11_goSaid_L61 l d F rec a0 a2 hrec F a1 h1 H
  · refine jr_if_le (tgt := 59) dX11_goSaid_1 (by decide) H (fun H => ?_) (fun H => ?_)
    · exact hJ59 _ H
    · refine jr_aload_n dX11_goSaid_4 rfl rfl ?_
      obtain ⟨v9, h8, Hc, H⟩ := j_b2_some H
      refine jr_callV (ci := 11) [] my_X11_isAll mv_X11_isAll ml_RX11_392 dX11_goSaid_5 rfl rfl (Nat.le_of_ble_eq_true rfl) rfl (c_X11_isAll l (d + 2) F a0 h v9 h8 Hc) ?_
      refine jr_if_eq (tgt := 59) dX11_goSaid_8 (by decide) H (fun H => ?_) (fun H => ?_)
      · exact hJ59 _ H
      · refine jr_aload_n dX11_goSaid_11 rfl rfl ?_
        refine jr_iload_n dX11_goSaid_12 rfl rfl ?_
        obtain ⟨v11, h10, Hc, H⟩ := j_b2_some H
        refine jr_callV (ci := 11) [.int a2] my_X11_isFirst mv_X11_isFirst ml_RX11_395 dX11_goSaid_13 rfl rfl (Nat.le_of_ble_eq_true rfl) rfl (c_X11_isFirst l (d + 2) F a0 a2 h8 v11 h10 Hc) ?_
        refine jr_jn (fun J => ∀ (h12 : jH), J h12 = some hf → jGo l (d + 3) none RX11 cX11_goSaid 4 none false 49 [some (.ref a0), some (.int a1), some (.int a2), none] [] h12 none hf) H (fun h12 H => ?_) (fun J49 hJ49 H => ?_)
        · refine jr_aload_n dX11_goSaid_49 rfl rfl ?_
          refine jr_dup dX11_goSaid_50 rfl ?_
          refine jr_getI fl_RX11_386 (by decide) dX11_goSaid_51 H (fun v13 H => ?_)
          refine jr_iconst (v := 1) dX11_goSaid_54 (by decide) ?_
          refine jr_iadd dX11_goSaid_55 ?_
          refine jr_putI fl_RX11_386 (fun z => by cases z) dX11_goSaid_56 H (fun h14 H => ?_)
          exact hJ59 _ H
        · refine jr_if_eq (tgt := 49) dX11_goSaid_16 (by decide) H (fun H => ?_) (fun H => ?_)
          · exact hJ49 _ H
          · refine jr_aload_n dX11_goSaid_19 rfl rfl ?_
            refine jr_iload_n dX11_goSaid_20 rfl rfl ?_
            refine jr_putI fl_RX11_389 (fun z => by cases z) dX11_goSaid_21 H (fun h15 H => ?_)
            refine jr_iconst (v := 0) dX11_goSaid_24 (by decide) ?_
            refine jr_istore_n dX11_goSaid_25 rfl (by decide) rfl (Or.inl rfl) ?_
            refine s_X11_goSaid_L26 l d F rec a0 a1 a2 _ hrec (fun h20 H => ?_) F 0 h15 H
            · exact hJ49 _ H
theorem c_gS (l : Launch) (d : Nat) (F : Nat) : ∀ n : Nat, (∀ (a0 : Nat) (a1 : Int32) (a2 : Int32) (h : jH) (hv : jH), f_gS F n a0 a1 a2 h = some hv → jh_sh h a0 = (11, 0) ∧ jMet l (d + n + 2) yX11_goSaid cX11_goSaid 4 none [.ref a0, .int a1, .int a2] h none hv) := by
  intro n
  induction n with
  | zero => exact fun a0 a1 a2 h hv H => (by cases H)
  | succ n ih => exact fun a0 a1 a2 h hv H => j_dep (by omega) (c_b_X11_goSaid l (d + n) F (f_gS F n) ih a0 a1 a2 h hv H)
theorem c_X11_goSaid (l : Launch) (d : Nat) (F : Nat) (a0 : Nat) (a1 : Int32) (a2 : Int32) (h : jH) (hf : jH) (H : f_X11_goSaid F a0 a1 a2 h = some hf) : jh_sh h a0 = (11, 0) ∧ jMet l (d + 12) yX11_goSaid cX11_goSaid 4 none [.ref a0, .int a1, .int a2] h none hf := j_dep (by omega) ((c_gS l d F 10) a0 a1 a2 h hf H)
set_option maxRecDepth 100000 in
set_option maxHeartbeats 4000000 in
theorem s_X11_said_L13 (l : Launch) (d : Nat) (F : Nat) (x0 : Nat) (k38 : jH → Option (Int32 × jH)) {rR : Int32} {hf : jH} (hk38 : ∀ (h : jH), k38 h = some (rR, hf) → jGo l (d + 13) none RX11 cX11_said 2 (some .int) false 38 [some (.ref x0), none] [] h (some (.int rR)) hf) : ∀ (n : Nat) (x1 : Int32) (h : jH), f_X11_said_L13 F x0 k38 n x1 h = some (rR, hf) → jGo l (d + 13) none RX11 cX11_said 2 (some .int) false 13 [some (.ref x0), some (.int x1)] [] h (some (.int rR)) hf := by
  intro n
  induction n with
  | zero =>
    intro x1 h H
    cases H
  | succ n ih =>
    intro x1 h H
    unfold f_X11_said_L13 at H
    refine jr_iload_n dX11_said_13 rfl rfl ?_
    refine jr_iconst (v := 5) dX11_said_14 (by decide) ?_
    refine jr_icmp_ge (tgt := 38) dX11_said_15 (by decide) H (fun H => ?_) (fun H => ?_)
    · refine jr_fgt 1 ?_
      exact hk38 _ H
    · refine jr_aload_n dX11_said_18 rfl rfl ?_
      refine jr_getR fl_RX11_88 dX11_said_19 H (fun v3 H => ?_)
      refine jr_iload_n dX11_said_22 rfl rfl ?_
      refine jr_aload_n dX11_said_23 rfl rfl ?_
      refine jr_bipush (v := 48) dX11_said_24 (by decide) ?_
      refine jr_bipush (v := 10) dX11_said_26 (by decide) ?_
      obtain ⟨v5, h4, Hc, H⟩ := j_b2_some H
      refine jr_callV (ci := 11) [.int 48, .int 10] my_X11_oneOf mv_X11_oneOf ml_RX11_164 dX11_said_28 rfl rfl (Nat.le_of_ble_eq_true rfl) rfl (c_X11_oneOf l (d + 10) F x0 48 10 h v5 h4 Hc) ?_
      refine jr_iast dX11_said_31 H (fun h6 H => ?_)
      refine jr_iinc (v := (x1 + 1)) dX11_said_32 rfl rfl (by decide) rfl (Or.inl rfl) ?_
      refine jr_goto (tgt := 13) dX11_said_35 (by decide) ?_
      exact ih _ _ H
set_option maxRecDepth 100000 in
set_option maxHeartbeats 4000000 in
theorem s_X11_said_L70 (l : Launch) (d : Nat) (F : Nat) (x0 : Nat) (k102 : jH → Option (Int32 × jH)) {rR : Int32} {hf : jH} (hk102 : ∀ (h : jH), k102 h = some (rR, hf) → jGo l (d + 13) none RX11 cX11_said 2 (some .int) false 102 [some (.ref x0), none] [] h (some (.int rR)) hf) : ∀ (n : Nat) (x1 : Int32) (h : jH), f_X11_said_L70 F x0 k102 n x1 h = some (rR, hf) → jGo l (d + 13) none RX11 cX11_said 2 (some .int) false 70 [some (.ref x0), some (.int x1)] [] h (some (.int rR)) hf := by
  intro n
  induction n with
  | zero =>
    intro x1 h H
    cases H
  | succ n ih =>
    intro x1 h H
    unfold f_X11_said_L70 at H
    refine jr_iload_n dX11_said_70 rfl rfl ?_
    refine jr_aload_n dX11_said_71 rfl rfl ?_
    refine jr_getI fl_RX11_389 (by decide) dX11_said_72 H (fun v14 H => ?_)
    refine jr_icmp_ge (tgt := 102) dX11_said_75 (by decide) H (fun H => ?_) (fun H => ?_)
    · refine jr_fgt 1 ?_
      exact hk102 _ H
    · refine jr_aload_n dX11_said_78 rfl rfl ?_
      refine jr_getI fl_RX11_386 (by decide) dX11_said_79 H (fun v15 H => ?_)
      refine jr_if_le (tgt := 102) dX11_said_82 (by decide) H (fun H => ?_) (fun H => ?_)
      · refine jr_fgt 1 ?_
        exact hk102 _ H
      · refine jr_aload_n dX11_said_85 rfl rfl ?_
        refine jr_aload_n dX11_said_86 rfl rfl ?_
        refine jr_getR fl_RX11_94 dX11_said_87 H (fun v16 H => ?_)
        refine jr_iload_n dX11_said_90 rfl rfl ?_
        refine jr_iald dX11_said_91 H (fun v17 H => ?_)
        refine jr_i2l dX11_said_92 ?_
        obtain ⟨h18, Hc, H⟩ := Option.bind_eq_some_iff.mp H
        refine jr_callV (ci := 11) [.long (v17.toInt64)] my_X11_tell mv_X11_tell ml_RX11_274 dX11_said_93 rfl rfl (Nat.le_of_ble_eq_true rfl) rfl (c_X11_tell l (d + 12) F x0 (v17.toInt64) h h18 Hc) ?_
        refine jr_iinc (v := (x1 + 1)) dX11_said_96 rfl rfl (by decide) rfl (Or.inl rfl) ?_
        refine jr_goto (tgt := 70) dX11_said_99 (by decide) ?_
        exact ih _ _ H
set_option maxRecDepth 100000 in
set_option maxHeartbeats 4000000 in
theorem c_X11_said (l : Launch) (d : Nat) (F : Nat) (a0 : Nat) (h : jH) (rR : Int32) (hf : jH) (H : f_X11_said F a0 h = some (rR, hf)) : jh_sh h a0 = (11, 0) ∧ jMet l (d + 13) yX11_said cX11_said 2 (some .int) [.ref a0] h (some (.int rR)) hf := by
  unfold f_X11_said at H
  obtain ⟨hsh, H⟩ := j_gd_some H
  refine ⟨hsh, ?_⟩
  refine jMet.of false [some (.ref a0), none] (by decide) (by decide) (Nat.le_of_ble_eq_true rfl) (fun S0 q hq => by simpa [j_l, lv_args, j_v, Value.category] using hq) ?_
  refine jr_aload_n dX11_said_0 rfl rfl ?_
  refine jr_iconst (v := 0) dX11_said_1 (by decide) ?_
  refine jr_putI fl_RX11_110 (fun z => by cases z) dX11_said_2 H (fun h1 H => ?_)
  refine jr_aload_n dX11_said_5 rfl rfl ?_
  refine jr_bipush (v := 80) dX11_said_6 (by decide) ?_
  obtain ⟨h2, Hc, H⟩ := Option.bind_eq_some_iff.mp H
  refine jr_callV (ci := 11) [.int 80] my_X11_beginText mv_X11_beginText ml_RX11_177 dX11_said_8 rfl rfl (Nat.le_of_ble_eq_true rfl) rfl (c_X11_beginText l (d + 11) F a0 80 h1 h2 Hc) ?_
  refine jr_iconst (v := 0) dX11_said_11 (by decide) ?_
  refine jr_istore_n dX11_said_12 rfl (by decide) rfl (Or.inl rfl) ?_
  refine s_X11_said_L13 l d F a0 _ (fun h7 H => ?_) F 0 h2 H
  · refine jr_aload_n dX11_said_38 rfl rfl ?_
    obtain ⟨v9, h8, Hc, H⟩ := j_b2_some H
    refine jr_callV (ci := 11) [] my_X11_wasRight mv_X11_wasRight ml_RX11_183 dX11_said_39 rfl rfl (Nat.le_of_ble_eq_true rfl) rfl (c_X11_wasRight l (d + 10) F a0 h7 v9 h8 Hc) ?_
    refine jr_if_ne (tgt := 52) dX11_said_42 (by decide) H (fun H => ?_) (fun H => ?_)
    · refine jr_iconst (v := (-1)) dX11_said_45 (by decide) ?_
      refine jr_aload_n dX11_said_46 rfl rfl ?_
      refine jr_getI fl_RX11_141 (by decide) dX11_said_47 H (fun v10 H => ?_)
      refine jr_isub dX11_said_50 ?_
      exact jr_iret rfl dX11_said_51 H
    · refine jr_aload_n dX11_said_52 rfl rfl ?_
      refine jr_iconst (v := 0) dX11_said_53 (by decide) ?_
      refine jr_putI fl_RX11_386 (fun z => by cases z) dX11_said_54 H (fun h11 H => ?_)
      refine jr_aload_n dX11_said_57 rfl rfl ?_
      refine jr_iconst (v := 0) dX11_said_58 (by decide) ?_
      refine jr_iconst (v := 0) dX11_said_59 (by decide) ?_
      obtain ⟨h12, Hc, H⟩ := Option.bind_eq_some_iff.mp H
      refine jr_callV (ci := 11) [.int 0, .int 0] my_X11_goSaid mv_X11_goSaid ml_RX11_401 dX11_said_60 rfl rfl (Nat.le_of_ble_eq_true rfl) rfl (c_X11_goSaid l d F a0 0 0 h11 h12 Hc) ?_
      refine jr_aload_n dX11_said_63 rfl rfl ?_
      refine jr_iconst (v := 0) dX11_said_64 (by decide) ?_
      refine jr_putI fl_RX11_113 (fun z => by cases z) dX11_said_65 H (fun h13 H => ?_)
      refine jr_iconst (v := 0) dX11_said_68 (by decide) ?_
      refine jr_istore_n dX11_said_69 rfl (by decide) rfl (Or.inl rfl) ?_
      refine s_X11_said_L70 l d F a0 _ (fun h19 H => ?_) F 0 h13 H
      · refine jr_aload_n dX11_said_102 rfl rfl ?_
        refine jr_getI fl_RX11_386 (by decide) dX11_said_103 H (fun v20 H => ?_)
        exact jr_iret rfl dX11_said_106 H
set_option maxRecDepth 100000 in
set_option maxHeartbeats 4000000 in
theorem s_X11_ask_L47 (l : Launch) (d : Nat) (F : Nat) (x0 : Nat) (x1 : Int32) (x2 : Int32) (x3 : Int32) (x4 : Int32) (x5 : Int32) (k84 : Int32 → jH → Option (Int32 × jH)) {rR : Int32} {hf : jH} (hk84 : ∀ (y6 : Int32) (h : jH), k84 y6 h = some (rR, hf) → jGo l (d + 2) none RX11 cX11_ask 8 (some .int) false 84 [some (.ref x0), some (.int x1), some (.int x2), some (.int x3), some (.int x4), some (.int x5), some (.int y6), none] [] h (some (.int rR)) hf) : ∀ (n : Nat) (x6 : Int32) (x7 : Int32) (h : jH), f_X11_ask_L47 F x0 x1 x2 x3 x4 x5 k84 n x6 x7 h = some (rR, hf) → jGo l (d + 2) none RX11 cX11_ask 8 (some .int) false 47 [some (.ref x0), some (.int x1), some (.int x2), some (.int x3), some (.int x4), some (.int x5), some (.int x6), some (.int x7)] [] h (some (.int rR)) hf := by
  intro n
  induction n with
  | zero =>
    intro x6 x7 h H
    cases H
  | succ n ih =>
    intro x6 x7 h H
    unfold f_X11_ask_L47 at H
    refine jr_iload dX11_ask_47 rfl ?_
    refine jr_aload_n dX11_ask_49 rfl rfl ?_
    refine jr_getI fl_RX11_120 (by decide) dX11_ask_50 H (fun v3 H => ?_)
    refine jr_icmp_ge (tgt := 84) dX11_ask_53 (by decide) H (fun H => ?_) (fun H => ?_)
    · refine jr_fgt 7 ?_
      exact hk84 _ _ H
    · refine jr_iload dX11_ask_56 rfl ?_
      refine jr_aload_n dX11_ask_58 rfl rfl ?_
      refine jr_iload dX11_ask_59 rfl ?_
      refine jr_iload_n dX11_ask_61 rfl rfl ?_
      obtain ⟨v5, h4, Hc, H⟩ := j_b2_some H
      refine jr_callV (ci := 11) [.int x7, .int x3] my_X11_often mv_X11_often ml_RX11_238 dX11_ask_62 rfl rfl (Nat.le_of_ble_eq_true rfl) rfl (c_X11_often l d F x0 x7 x3 h v5 h4 Hc) ?_
      refine jr_iload dX11_ask_65 rfl ?_
      refine jr_jn (fun J => ∀ (s6 : Int32) (s7 : Int32) (h8 : jH), J s6 s7 h8 = some (rR, hf) → jGo l (d + 2) none RX11 cX11_ask 8 (some .int) false 75 [some (.ref x0), some (.int x1), some (.int x2), some (.int x3), some (.int x4), some (.int x5), none, some (.int x7)] [.int s6, .int s7] h8 (some (.int rR)) hf) H (fun s6 s7 h8 H => ?_) (fun J75 hJ75 H => ?_)
      · refine jr_iadd dX11_ask_75 ?_
        refine jr_istore dX11_ask_76 (by decide) rfl (Or.inl rfl) ?_
        refine jr_iinc (v := (x7 + 1)) dX11_ask_78 rfl rfl (by decide) rfl (Or.inl rfl) ?_
        refine jr_goto (tgt := 47) dX11_ask_81 (by decide) ?_
        exact ih _ _ _ H
      · refine jr_icmp_ne (tgt := 74) dX11_ask_67 (by decide) H (fun H => ?_) (fun H => ?_)
        · refine jr_iconst (v := 1) dX11_ask_70 (by decide) ?_
          refine jr_goto (tgt := 75) dX11_ask_71 (by decide) ?_
          refine jr_fgt 6 ?_
          exact hJ75 _ _ _ H
        · refine jr_iconst (v := 0) dX11_ask_74 (by decide) ?_
          refine jr_fgt 6 ?_
          exact hJ75 _ _ _ H
set_option maxRecDepth 100000 in
set_option maxHeartbeats 4000000 in
theorem s_X11_ask_L34 (l : Launch) (d : Nat) (F : Nat) (x0 : Nat) (x1 : Int32) (x2 : Int32) (x3 : Int32) (k99 : Int32 → jH → Option (Int32 × jH)) {rR : Int32} {hf : jH} (hk99 : ∀ (y4 : Int32) (h : jH), k99 y4 h = some (rR, hf) → jGo l (d + 2) none RX11 cX11_ask 8 (some .int) false 99 [some (.ref x0), some (.int x1), some (.int x2), some (.int x3), some (.int y4), none, none, none] [] h (some (.int rR)) hf) : ∀ (n : Nat) (x4 : Int32) (x5 : Int32) (h : jH), f_X11_ask_L34 F x0 x1 x2 x3 k99 n x4 x5 h = some (rR, hf) → jGo l (d + 2) none RX11 cX11_ask 8 (some .int) false 34 [some (.ref x0), some (.int x1), some (.int x2), some (.int x3), some (.int x4), some (.int x5), none, none] [] h (some (.int rR)) hf := by
  intro n
  induction n with
  | zero =>
    intro x4 x5 h H
    cases H
  | succ n ih =>
    intro x4 x5 h H
    unfold f_X11_ask_L34 at H
    refine jr_iload dX11_ask_34 rfl ?_
    refine jr_bipush (v := 6) dX11_ask_36 (by decide) ?_
    refine jr_icmp_gt (tgt := 99) dX11_ask_38 (by decide) H (fun H => ?_) (fun H => ?_)
    · refine jr_fgt 5 ?_
      exact hk99 _ _ H
    · refine jr_iconst (v := 0) dX11_ask_41 (by decide) ?_
      refine jr_istore dX11_ask_42 (by decide) rfl (Or.inl rfl) ?_
      refine jr_iconst (v := 0) dX11_ask_44 (by decide) ?_
      refine jr_istore dX11_ask_45 (by decide) rfl (Or.inl rfl) ?_
      refine s_X11_ask_L47 l d F x0 x1 x2 x3 x4 x5 _ (fun y9 h10 H => ?_) F 0 0 h H
      · refine jr_iload dX11_ask_84 rfl ?_
        refine jr_iload dX11_ask_86 rfl ?_
        refine jr_mmax ml_RX11_231 mm_mmax_s mm_i mm_mmax_c dX11_ask_88 (Nat.le_of_ble_eq_true rfl) ?_
        refine jr_istore dX11_ask_91 (by decide) rfl (Or.inl rfl) ?_
        refine jr_iinc (v := (x5 + 1)) dX11_ask_93 rfl rfl (by decide) rfl (Or.inl rfl) ?_
        refine jr_goto (tgt := 34) dX11_ask_96 (by decide) ?_
        refine jr_fgt 6 ?_
        exact ih _ _ _ H
set_option maxRecDepth 100000 in
set_option maxHeartbeats 4000000 in
theorem s_X11_ask_L23 (l : Launch) (d : Nat) (F : Nat) (x0 : Nat) (k119 : Int32 → Int32 → jH → Option (Int32 × jH)) {rR : Int32} {hf : jH} (hk119 : ∀ (y1 : Int32) (y2 : Int32) (h : jH), k119 y1 y2 h = some (rR, hf) → jGo l (d + 2) none RX11 cX11_ask 8 (some .int) false 119 [some (.ref x0), some (.int y1), some (.int y2), none, none, none, none, none] [] h (some (.int rR)) hf) : ∀ (n : Nat) (x1 : Int32) (x2 : Int32) (x3 : Int32) (h : jH), f_X11_ask_L23 F x0 k119 n x1 x2 x3 h = some (rR, hf) → jGo l (d + 2) none RX11 cX11_ask 8 (some .int) false 23 [some (.ref x0), some (.int x1), some (.int x2), some (.int x3), none, none, none, none] [] h (some (.int rR)) hf := by
  intro n
  induction n with
  | zero =>
    intro x1 x2 x3 h H
    cases H
  | succ n ih =>
    intro x1 x2 x3 h H
    unfold f_X11_ask_L23 at H
    refine jr_iload_n dX11_ask_23 rfl rfl ?_
    refine jr_iconst (v := 5) dX11_ask_24 (by decide) ?_
    refine jr_icmp_ge (tgt := 119) dX11_ask_25 (by decide) H (fun H => ?_) (fun H => ?_)
    · refine jr_fgt 3 ?_
      exact hk119 _ _ _ H
    · refine jr_iconst (v := 0) dX11_ask_28 (by decide) ?_
      refine jr_istore dX11_ask_29 (by decide) rfl (Or.inl rfl) ?_
      refine jr_iconst (v := 0) dX11_ask_31 (by decide) ?_
      refine jr_istore dX11_ask_32 (by decide) rfl (Or.inl rfl) ?_
      refine s_X11_ask_L34 l d F x0 x1 x2 x3 _ (fun y11 h12 H => ?_) F 0 0 h H
      · refine jr_iload dX11_ask_99 rfl ?_
        refine jr_iload_n dX11_ask_101 rfl rfl ?_
        refine jr_jn (fun J => ∀ (z13 : Int32) (z14 : Int32) (h15 : jH), J z13 z14 h15 = some (rR, hf) → jGo l (d + 2) none RX11 cX11_ask 8 (some .int) false 113 [some (.ref x0), some (.int z13), some (.int z14), some (.int x3), none, none, none, none] [] h15 (some (.int rR)) hf) H (fun z13 z14 h15 H => ?_) (fun J113 hJ113 H => ?_)
        · refine jr_iinc (v := (x3 + 1)) dX11_ask_113 rfl rfl (by decide) rfl (Or.inl rfl) ?_
          refine jr_goto (tgt := 23) dX11_ask_116 (by decide) ?_
          exact ih _ _ _ _ H
        · refine jr_icmp_lt (tgt := 108) dX11_ask_102 (by decide) H (fun H => ?_) (fun H => ?_)
          · refine jr_iload_n dX11_ask_108 rfl rfl ?_
            refine jr_istore_n dX11_ask_109 rfl (by decide) rfl (Or.inl rfl) ?_
            refine jr_iload dX11_ask_110 rfl ?_
            refine jr_istore_n dX11_ask_112 rfl (by decide) rfl (Or.inl rfl) ?_
            refine jr_fgt 4 ?_
            exact hJ113 _ _ _ H
          · refine jr_goto (tgt := 113) dX11_ask_105 (by decide) ?_
            refine jr_fgt 4 ?_
            exact hJ113 _ _ _ H
set_option maxRecDepth 100000 in
set_option maxHeartbeats 4000000 in
theorem c_X11_ask (l : Launch) (d : Nat) (F : Nat) (a0 : Nat) (h : jH) (rR : Int32) (hf : jH) (H : f_X11_ask F a0 h = some (rR, hf)) : jh_sh h a0 = (11, 0) ∧ jMet l (d + 2) yX11_ask cX11_ask 8 (some .int) [.ref a0] h (some (.int rR)) hf := by
  unfold f_X11_ask at H
  obtain ⟨hsh, H⟩ := j_gd_some H
  refine ⟨hsh, ?_⟩
  refine jMet.of false [some (.ref a0), none, none, none, none, none, none, none] (by decide) (by decide) (Nat.le_of_ble_eq_true rfl) (fun S0 q hq => by simpa [j_l, lv_args, j_v, Value.category] using hq) ?_
  refine jr_aload_n dX11_ask_0 rfl rfl ?_
  refine jr_iconst (v := 0) dX11_ask_1 (by decide) ?_
  refine jr_putI fl_RX11_110 (fun z => by cases z) dX11_ask_2 H (fun h1 H => ?_)
  refine jr_aload_n dX11_ask_5 rfl rfl ?_
  refine jr_getI fl_RX11_120 (by decide) dX11_ask_6 H (fun v2 H => ?_)
  refine jr_if_ne (tgt := 15) dX11_ask_9 (by decide) H (fun H => ?_) (fun H => ?_)
  · refine jr_bipush (v := (-2)) dX11_ask_12 (by decide) ?_
    exact jr_iret rfl dX11_ask_14 H
  · refine jr_iconst (v := (-1)) dX11_ask_15 (by decide) ?_
    refine jr_istore_n dX11_ask_16 rfl (by decide) rfl (Or.inl rfl) ?_
    refine jr_ldcw cn_RX11_319 dX11_ask_17 ?_
    refine jr_istore_n dX11_ask_20 rfl (by decide) rfl (Or.inl rfl) ?_
    refine jr_iconst (v := 0) dX11_ask_21 (by decide) ?_
    refine jr_istore_n dX11_ask_22 rfl (by decide) rfl (Or.inl rfl) ?_
    refine s_X11_ask_L23 l d F a0 _ (fun y16 y17 h18 H => ?_) F (-1) 100000000 0 h1 H
    · refine jr_aload_n dX11_ask_119 rfl rfl ?_
      refine jr_iconst (v := 0) dX11_ask_120 (by decide) ?_
      refine jr_putI fl_RX11_113 (fun z => by cases z) dX11_ask_121 H (fun h19 H => ?_)
      refine jr_aload_n dX11_ask_124 rfl rfl ?_
      refine jr_iload_n dX11_ask_125 rfl rfl ?_
      refine jr_i2l dX11_ask_126 ?_
      obtain ⟨h20, Hc, H⟩ := Option.bind_eq_some_iff.mp H
      refine jr_callV (ci := 11) [.long (y17.toInt64)] my_X11_tell mv_X11_tell ml_RX11_274 dX11_ask_127 rfl rfl (Nat.le_of_ble_eq_true rfl) rfl (c_X11_tell l (d + 1) F a0 (y17.toInt64) h19 h20 Hc) ?_
      refine jr_iload_n dX11_ask_130 rfl rfl ?_
      exact jr_iret rfl dX11_ask_131 H
set_option maxRecDepth 100000 in
set_option maxHeartbeats 4000000 in
theorem c_X11_draw (l : Launch) (d : Nat) (F : Nat) (a0 : Nat) (a1 : Int32) (h : jH) (rR : Int32) (hf : jH) (H : f_X11_draw F a0 a1 h = some (rR, hf)) : jh_sh h a0 = (11, 0) ∧ jMet l (d + 0) yX11_draw cX11_draw 2 (some .int) [.ref a0, .int a1] h (some (.int rR)) hf := by
  unfold f_X11_draw at H
  obtain ⟨hsh, H⟩ := j_gd_some H
  refine ⟨hsh, ?_⟩
  refine jMet.of false [some (.ref a0), some (.int a1)] (by decide) (by decide) (Nat.le_of_ble_eq_true rfl) (fun S0 q hq => by simpa [j_l, lv_args, j_v, Value.category] using hq) ?_
  refine jr_aload_n dX11_draw_0 rfl rfl ?_
  refine jr_aload_n dX11_draw_1 rfl rfl ?_
  refine jr_getI fl_RX11_404 (by decide) dX11_draw_2 H (fun v1 H => ?_)
  refine jr_ldcw cn_RX11_407 dX11_draw_5 ?_
  refine jr_imul dX11_draw_8 ?_
  refine jr_sipush (v := 12345) dX11_draw_9 (by decide) ?_
  refine jr_iadd dX11_draw_12 ?_
  refine jr_putI fl_RX11_404 (fun z => by cases z) dX11_draw_13 H (fun h2 H => ?_)
  refine jr_aload_n dX11_draw_16 rfl rfl ?_
  refine jr_getI fl_RX11_404 (by decide) dX11_draw_17 H (fun v3 H => ?_)
  refine jr_bipush (v := 16) dX11_draw_20 (by decide) ?_
  refine jr_iushr dX11_draw_22 ?_
  refine jr_iload_n dX11_draw_23 rfl rfl ?_
  refine jr_irem dX11_draw_24 H (fun v4 H => ?_)
  exact jr_iret rfl dX11_draw_25 H
set_option maxRecDepth 100000 in
set_option maxHeartbeats 4000000 in
theorem s_X11_years_L59 (l : Launch) (d : Nat) (F : Nat) (x0 : Nat) (x2 : Int32) (k227 : Int32 → Int32 → jH → Option (Int32 × jH)) {rR : Int32} {hf : jH} (hk227 : ∀ (y3 : Int32) (y4 : Int32) (h : jH), k227 y3 y4 h = some (rR, hf) → jGo l (d + 406) none RX11 cX11_years 11 (some .int) false 227 [some (.ref x0), none, none, some (.int y3), some (.int y4), none, none, none, none, none, none] [] h (some (.int rR)) hf) : ∀ (n : Nat) (x3 : Int32) (x4 : Int32) (x5 : Int32) (h : jH), f_X11_years_L59 F x0 x2 k227 n x3 x4 x5 h = some (rR, hf) → jGo l (d + 406) none RX11 cX11_years 11 (some .int) false 59 [some (.ref x0), none, some (.int x2), some (.int x3), some (.int x4), some (.int x5), none, none, none, none, none] [] h (some (.int rR)) hf := by
  intro n
  induction n with
  | zero =>
    intro x3 x4 x5 h H
    cases H
  | succ n ih =>
    intro x3 x4 x5 h H
    unfold f_X11_years_L59 at H
    refine jr_iload dX11_years_59 rfl ?_
    refine jr_iload_n dX11_years_61 rfl rfl ?_
    refine jr_icmp_ge (tgt := 227) dX11_years_62 (by decide) H (fun H => ?_) (fun H => ?_)
    · refine jr_fgt 2 ?_
      refine jr_fgt 5 ?_
      exact hk227 _ _ _ H
    · refine jr_aload_n dX11_years_65 rfl rfl ?_
      refine jr_aload_n dX11_years_66 rfl rfl ?_
      refine jr_getI fl_RX11_123 (by decide) dX11_years_67 H (fun v10 H => ?_)
      obtain ⟨v12, h11, Hc, H⟩ := j_b2_some H
      refine jr_callV (ci := 11) [.int v10] my_X11_draw mv_X11_draw ml_RX11_408 dX11_years_70 rfl rfl (Nat.le_of_ble_eq_true rfl) rfl (c_X11_draw l (d + 405) F x0 v10 h v12 h11 Hc) ?_
      refine jr_istore dX11_years_73 (by decide) rfl (Or.inl rfl) ?_
      refine jr_aload_n dX11_years_75 rfl rfl ?_
      refine jr_iconst (v := 4) dX11_years_76 (by decide) ?_
      obtain ⟨v14, h13, Hc, H⟩ := j_b2_some H
      refine jr_callV (ci := 11) [.int 4] my_X11_draw mv_X11_draw ml_RX11_408 dX11_years_77 rfl rfl (Nat.le_of_ble_eq_true rfl) rfl (c_X11_draw l (d + 405) F x0 4 h11 v14 h13 Hc) ?_
      refine jr_istore dX11_years_80 (by decide) rfl (Or.inl rfl) ?_
      refine jr_aload_n dX11_years_82 rfl rfl ?_
      refine jr_getR fl_RX11_97 dX11_years_83 H (fun v15 H => ?_)
      refine jr_bipush (v := 12) dX11_years_86 (by decide) ?_
      refine jr_iald dX11_years_88 H (fun v16 H => ?_)
      refine jr_istore dX11_years_89 (by decide) rfl (Or.inl rfl) ?_
      refine jr_iload dX11_years_91 rfl ?_
      refine jr_iconst (v := 2) dX11_years_93 (by decide) ?_
      refine jr_jn (fun J => ∀ (z17 : Int32) (z18 : Int32) (h19 : jH), J z17 z18 h19 = some (rR, hf) → jGo l (d + 406) none RX11 cX11_years 11 (some .int) false 195 [some (.ref x0), none, some (.int x2), some (.int z17), some (.int x4), some (.int x5), none, none, some (.int v16), some (.int z18), none] [] h19 (some (.int rR)) hf) H (fun z17 z18 h19 H => ?_) (fun J195 hJ195 H => ?_)
      · refine jr_iload dX11_years_195 rfl ?_
        refine jr_iload dX11_years_197 rfl ?_
        refine jr_jn (fun J => ∀ (s20 : Int32) (s21 : Int32) (h22 : jH), J s20 s21 h22 = some (rR, hf) → jGo l (d + 406) none RX11 cX11_years 11 (some .int) false 207 [some (.ref x0), none, some (.int x2), some (.int z17), none, some (.int x5), none, none, some (.int v16), none, none] [.int s20, .int s21] h22 (some (.int rR)) hf) H (fun s20 s21 h22 H => ?_) (fun J207 hJ207 H => ?_)
        · refine jr_iadd dX11_years_207 ?_
          refine jr_istore dX11_years_208 (by decide) rfl (Or.inl rfl) ?_
          refine jr_aload_n dX11_years_210 rfl rfl ?_
          refine jr_getR fl_RX11_97 dX11_years_211 H (fun v23 H => ?_)
          refine jr_bipush (v := 12) dX11_years_214 (by decide) ?_
          refine jr_iload dX11_years_216 rfl ?_
          refine jr_iconst (v := 1) dX11_years_218 (by decide) ?_
          refine jr_iadd dX11_years_219 ?_
          refine jr_iast dX11_years_220 H (fun h24 H => ?_)
          refine jr_iinc (v := (x5 + 1)) dX11_years_221 rfl rfl (by decide) rfl (Or.inl rfl) ?_
          refine jr_goto (tgt := 59) dX11_years_224 (by decide) ?_
          refine jr_fgt 8 ?_
          exact ih _ _ _ _ H
        · refine jr_if_eq (tgt := 206) dX11_years_199 (by decide) H (fun H => ?_) (fun H => ?_)
          · refine jr_iconst (v := 1) dX11_years_206 (by decide) ?_
            refine jr_fgt 4 ?_
            refine jr_fgt 9 ?_
            exact hJ207 _ _ _ H
          · refine jr_iconst (v := 0) dX11_years_202 (by decide) ?_
            refine jr_goto (tgt := 207) dX11_years_203 (by decide) ?_
            refine jr_fgt 4 ?_
            refine jr_fgt 9 ?_
            exact hJ207 _ _ _ H
      · refine jr_icmp_ge (tgt := 143) dX11_years_94 (by decide) H (fun H => ?_) (fun H => ?_)
        · refine jr_aload_n dX11_years_143 rfl rfl ?_
          refine jr_aload_n dX11_years_144 rfl rfl ?_
          refine jr_getI fl_RX11_120 (by decide) dX11_years_145 H (fun v25 H => ?_)
          obtain ⟨v27, h26, Hc, H⟩ := j_b2_some H
          refine jr_callV (ci := 11) [.int v25] my_X11_draw mv_X11_draw ml_RX11_408 dX11_years_148 rfl rfl (Nat.le_of_ble_eq_true rfl) rfl (c_X11_draw l (d + 405) F x0 v25 h13 v27 h26 Hc) ?_
          refine jr_istore dX11_years_151 (by decide) rfl (Or.inl rfl) ?_
          refine jr_aload_n dX11_years_153 rfl rfl ?_
          refine jr_aload_n dX11_years_154 rfl rfl ?_
          refine jr_getR fl_RX11_97 dX11_years_155 H (fun v28 H => ?_)
          refine jr_iload dX11_years_158 rfl ?_
          refine jr_iload dX11_years_160 rfl ?_
          obtain ⟨v30, h29, Hc, H⟩ := j_b2_some H
          refine jr_callV (ci := 11) [.ref v28, .int v12, .int v27] my_X11_refusesSay mv_X11_refusesSay ml_RX11_295 dX11_years_162 rfl rfl (Nat.le_of_ble_eq_true rfl) rfl (c_X11_refusesSay l d F x0 v28 v12 v27 h26 v30 h29 Hc) ?_
          refine jr_jn (fun J => ∀ (s31 : Int32) (h32 : jH), J s31 h32 = some (rR, hf) → jGo l (d + 406) none RX11 cX11_years 11 (some .int) false 173 [some (.ref x0), none, some (.int x2), some (.int x3), some (.int x4), some (.int x5), some (.int v12), none, some (.int v16), none, some (.int v27)] [.int s31] h32 (some (.int rR)) hf) H (fun s31 h32 H => ?_) (fun J173 hJ173 H => ?_)
          · refine jr_istore dX11_years_173 (by decide) rfl (Or.inl rfl) ?_
            refine jr_iload dX11_years_175 rfl ?_
            refine jr_if_eq (tgt := 195) dX11_years_177 (by decide) H (fun H => ?_) (fun H => ?_)
            · refine jr_fgt 6 ?_
              refine jr_fgt 10 ?_
              exact hJ195 _ _ _ H
            · refine jr_iload_n dX11_years_180 rfl rfl ?_
              refine jr_aload_n dX11_years_181 rfl rfl ?_
              refine jr_aload_n dX11_years_182 rfl rfl ?_
              refine jr_getR fl_RX11_97 dX11_years_183 H (fun v33 H => ?_)
              refine jr_iload dX11_years_186 rfl ?_
              refine jr_iload dX11_years_188 rfl ?_
              obtain ⟨v35, h34, Hc, H⟩ := j_b2_some H
              refine jr_callV (ci := 11) [.ref v33, .int v12, .int v27] my_X11_goSay mv_X11_goSay ml_RX11_298 dX11_years_190 rfl rfl (Nat.le_of_ble_eq_true rfl) rfl (c_X11_goSay l d F x0 v33 v12 v27 h32 v35 h34 Hc) ?_
              refine jr_iadd dX11_years_193 ?_
              refine jr_istore_n dX11_years_194 rfl (by decide) rfl (Or.inl rfl) ?_
              refine jr_fgt 6 ?_
              refine jr_fgt 10 ?_
              exact hJ195 _ _ _ H
          · refine jr_if_ne (tgt := 172) dX11_years_165 (by decide) H (fun H => ?_) (fun H => ?_)
            · refine jr_iconst (v := 1) dX11_years_168 (by decide) ?_
              refine jr_goto (tgt := 173) dX11_years_169 (by decide) ?_
              refine jr_fgt 7 ?_
              exact hJ173 _ _ H
            · refine jr_iconst (v := 0) dX11_years_172 (by decide) ?_
              refine jr_fgt 7 ?_
              exact hJ173 _ _ H
        · refine jr_aload_n dX11_years_97 rfl rfl ?_
          refine jr_aload_n dX11_years_98 rfl rfl ?_
          refine jr_getR fl_RX11_97 dX11_years_99 H (fun v36 H => ?_)
          refine jr_iload dX11_years_102 rfl ?_
          refine jr_iconst (v := 1) dX11_years_104 (by decide) ?_
          refine jr_iload dX11_years_105 rfl ?_
          refine jr_isub dX11_years_107 ?_
          obtain ⟨v38, h37, Hc, H⟩ := j_b2_some H
          refine jr_callV (ci := 11) [.ref v36, .int v12, .int ((1 : Int32) - v14)] my_X11_refusesWalk mv_X11_refusesWalk ml_RX11_278 dX11_years_108 rfl rfl (Nat.le_of_ble_eq_true rfl) rfl (c_X11_refusesWalk l (d + 403) F x0 v36 v12 ((1 : Int32) - v14) h13 v38 h37 Hc) ?_
          refine jr_jn (fun J => ∀ (s39 : Int32) (h40 : jH), J s39 h40 = some (rR, hf) → jGo l (d + 406) none RX11 cX11_years 11 (some .int) false 119 [some (.ref x0), none, some (.int x2), some (.int x3), some (.int x4), some (.int x5), some (.int v12), some (.int v14), some (.int v16), none, none] [.int s39] h40 (some (.int rR)) hf) H (fun s39 h40 H => ?_) (fun J119 hJ119 H => ?_)
          · refine jr_istore dX11_years_119 (by decide) rfl (Or.inl rfl) ?_
            refine jr_iload dX11_years_121 rfl ?_
            refine jr_if_eq (tgt := 195) dX11_years_123 (by decide) H (fun H => ?_) (fun H => ?_)
            · refine jr_fgt 6 ?_
              refine jr_fgt 7 ?_
              exact hJ195 _ _ _ H
            · refine jr_aload_n dX11_years_126 rfl rfl ?_
              refine jr_getR fl_RX11_97 dX11_years_127 H (fun v41 H => ?_)
              refine jr_iload dX11_years_130 rfl ?_
              refine jr_iconst (v := 1) dX11_years_132 (by decide) ?_
              refine jr_iload dX11_years_133 rfl ?_
              refine jr_isub dX11_years_135 ?_
              obtain ⟨v43, h42, Hc, H⟩ := j_b2_some H
              refine jr_callS [.ref v41, .int v12, .int ((1 : Int32) - v14)] my_X11_goWalk ms_X11_goWalk ml_RX11_286 dX11_years_136 rfl rfl (Nat.le_of_ble_eq_true rfl) (c_X11_goWalk l (d + 405) F v41 v12 ((1 : Int32) - v14) h40 v43 h42 Hc) ?_
              refine jr_pop dX11_years_139 rfl ?_
              refine jr_goto (tgt := 195) dX11_years_140 (by decide) ?_
              refine jr_fgt 6 ?_
              refine jr_fgt 7 ?_
              exact hJ195 _ _ _ H
          · refine jr_if_ne (tgt := 118) dX11_years_111 (by decide) H (fun H => ?_) (fun H => ?_)
            · refine jr_iconst (v := 1) dX11_years_114 (by decide) ?_
              refine jr_goto (tgt := 119) dX11_years_115 (by decide) ?_
              exact hJ119 _ _ H
            · refine jr_iconst (v := 0) dX11_years_118 (by decide) ?_
              exact hJ119 _ _ H
set_option maxRecDepth 100000 in
set_option maxHeartbeats 4000000 in
theorem c_X11_years (l : Launch) (d : Nat) (F : Nat) (a0 : Nat) (a1 : Int32) (a2 : Int32) (h : jH) (rR : Int32) (hf : jH) (H : f_X11_years F a0 a1 a2 h = some (rR, hf)) : jh_sh h a0 = (11, 0) ∧ jMet l (d + 406) yX11_years cX11_years 11 (some .int) [.ref a0, .int a1, .int a2] h (some (.int rR)) hf := by
  unfold f_X11_years at H
  obtain ⟨hsh, H⟩ := j_gd_some H
  refine ⟨hsh, ?_⟩
  refine jMet.of false [some (.ref a0), some (.int a1), some (.int a2), none, none, none, none, none, none, none, none] (by decide) (by decide) (Nat.le_of_ble_eq_true rfl) (fun S0 q hq => by simpa [j_l, lv_args, j_v, Value.category] using hq) ?_
  refine jr_aload_n dX11_years_0 rfl rfl ?_
  refine jr_iconst (v := 0) dX11_years_1 (by decide) ?_
  refine jr_putI fl_RX11_110 (fun z => by cases z) dX11_years_2 H (fun h1 H => ?_)
  refine jr_aload_n dX11_years_5 rfl rfl ?_
  refine jr_getI fl_RX11_123 (by decide) dX11_years_6 H (fun v2 H => ?_)
  refine jr_if_eq (tgt := 19) dX11_years_9 (by decide) H (fun H => ?_) (fun H => ?_)
  · refine jr_bipush (v := (-2)) dX11_years_19 (by decide) ?_
    exact jr_iret rfl dX11_years_21 H
  · refine jr_aload_n dX11_years_12 rfl rfl ?_
    refine jr_getI fl_RX11_120 (by decide) dX11_years_13 H (fun v3 H => ?_)
    refine jr_if_ne (tgt := 22) dX11_years_16 (by decide) H (fun H => ?_) (fun H => ?_)
    · refine jr_bipush (v := (-2)) dX11_years_19 (by decide) ?_
      exact jr_iret rfl dX11_years_21 H
    · refine jr_iload_n dX11_years_22 rfl rfl ?_
      refine jr_iconst (v := 1) dX11_years_23 (by decide) ?_
      refine jr_bipush (v := 60) dX11_years_24 (by decide) ?_
      obtain ⟨v5, h4, Hc, H⟩ := j_b2_some H
      refine jr_callS [.int a2, .int 1, .int 60] my_X11_in ms_X11_in ml_RX11_116 dX11_years_26 rfl rfl (Nat.le_of_ble_eq_true rfl) (c_X11_in l (d + 405) F a2 1 60 h1 v5 h4 Hc) ?_
      refine jr_if_ne (tgt := 34) dX11_years_29 (by decide) H (fun H => ?_) (fun H => ?_)
      · refine jr_iconst (v := (-1)) dX11_years_32 (by decide) ?_
        exact jr_iret rfl dX11_years_33 H
      · refine jr_aload_n dX11_years_34 rfl rfl ?_
        refine jr_iload_n dX11_years_35 rfl rfl ?_
        refine jr_putI fl_RX11_404 (fun z => by cases z) dX11_years_36 H (fun h6 H => ?_)
        refine jr_iconst (v := 0) dX11_years_39 (by decide) ?_
        refine jr_istore_n dX11_years_40 rfl (by decide) rfl (Or.inl rfl) ?_
        refine jr_iconst (v := 0) dX11_years_41 (by decide) ?_
        refine jr_istore dX11_years_42 (by decide) rfl (Or.inl rfl) ?_
        refine jr_aload_n dX11_years_44 rfl rfl ?_
        refine jr_getR fl_RX11_9 dX11_years_45 H (fun v7 H => ?_)
        refine jr_aload_n dX11_years_48 rfl rfl ?_
        refine jr_getR fl_RX11_97 dX11_years_49 H (fun v8 H => ?_)
        refine jr_iconst (v := 0) dX11_years_52 (by decide) ?_
        obtain ⟨h9, Hc, H⟩ := Option.bind_eq_some_iff.mp H
        refine jr_callS [.ref v7, .ref v8, .int 0] my_X11_lay ms_X11_lay ml_RX11_267 dX11_years_53 rfl rfl (Nat.le_of_ble_eq_true rfl) (c_X11_lay l (d + 405) F v7 v8 0 h6 h9 Hc) ?_
        refine jr_iconst (v := 0) dX11_years_56 (by decide) ?_
        refine jr_istore dX11_years_57 (by decide) rfl (Or.inl rfl) ?_
        refine jr_fgt 1 ?_
        refine s_X11_years_L59 l d F a0 a2 _ (fun y44 y45 h46 H => ?_) F 0 0 0 h9 H
        · refine jr_aload_n dX11_years_227 rfl rfl ?_
          refine jr_iconst (v := 0) dX11_years_228 (by decide) ?_
          refine jr_putI fl_RX11_113 (fun z => by cases z) dX11_years_229 H (fun h47 H => ?_)
          refine jr_aload_n dX11_years_232 rfl rfl ?_
          refine jr_iload_n dX11_years_233 rfl rfl ?_
          refine jr_i2l dX11_years_234 ?_
          obtain ⟨h48, Hc, H⟩ := Option.bind_eq_some_iff.mp H
          refine jr_callV (ci := 11) [.long (y44.toInt64)] my_X11_tell mv_X11_tell ml_RX11_274 dX11_years_235 rfl rfl (Nat.le_of_ble_eq_true rfl) rfl (c_X11_tell l (d + 405) F a0 (y44.toInt64) h47 h48 Hc) ?_
          refine jr_aload_n dX11_years_238 rfl rfl ?_
          refine jr_iload dX11_years_239 rfl ?_
          refine jr_i2l dX11_years_241 ?_
          obtain ⟨h49, Hc, H⟩ := Option.bind_eq_some_iff.mp H
          refine jr_callV (ci := 11) [.long (y45.toInt64)] my_X11_tell mv_X11_tell ml_RX11_274 dX11_years_242 rfl rfl (Nat.le_of_ble_eq_true rfl) rfl (c_X11_tell l (d + 405) F a0 (y45.toInt64) h48 h49 Hc) ?_
          refine jr_aload_n dX11_years_245 rfl rfl ?_
          refine jr_getR fl_RX11_97 dX11_years_246 H (fun v50 H => ?_)
          refine jr_bipush (v := 13) dX11_years_249 (by decide) ?_
          refine jr_iald dX11_years_251 H (fun v51 H => ?_)
          obtain ⟨v53, h52, Hc, H⟩ := j_b2_some H
          refine jr_callS [.int v51] my_J6_bitCount_0f7a4 ms_J6_bitCount_0f7a4 ml_RX11_347 dX11_years_252 rfl rfl (Nat.le_of_ble_eq_true rfl) (c_J6_bitCount_0f7a4 l (d + 405) F v51 h49 v53 h52 Hc) ?_
          refine jr_aload_n dX11_years_255 rfl rfl ?_
          refine jr_getR fl_RX11_9 dX11_years_256 H (fun v54 H => ?_)
          refine jr_bipush (v := 13) dX11_years_259 (by decide) ?_
          refine jr_iald dX11_years_261 H (fun v55 H => ?_)
          obtain ⟨v57, h56, Hc, H⟩ := j_b2_some H
          refine jr_callS [.int v55] my_J6_bitCount_0f7a4 ms_J6_bitCount_0f7a4 ml_RX11_347 dX11_years_262 rfl rfl (Nat.le_of_ble_eq_true rfl) (c_J6_bitCount_0f7a4 l (d + 405) F v55 h52 v57 h56 Hc) ?_
          refine jr_isub dX11_years_265 ?_
          exact jr_iret rfl dX11_years_266 H
set_option maxRecDepth 100000 in
set_option maxHeartbeats 4000000 in
theorem c_X11_keep (l : Launch) (d : Nat) (F : Nat) (a0 : Nat) (a1 : Int32) (h : jH) (rR : Int32) (hf : jH) (H : f_X11_keep F a0 a1 h = some (rR, hf)) : jh_sh h a0 = (11, 0) ∧ jMet l (d + 1) yX11_keep cX11_keep 2 (some .boolean) [.ref a0, .int a1] h (some (.int rR)) hf := by
  unfold f_X11_keep at H
  obtain ⟨hsh, H⟩ := j_gd_some H
  refine ⟨hsh, ?_⟩
  refine jMet.of false [some (.ref a0), some (.int a1)] (by decide) (by decide) (Nat.le_of_ble_eq_true rfl) (fun S0 q hq => by simpa [j_l, lv_args, j_v, Value.category] using hq) ?_
  refine jr_aload_n dX11_keep_0 rfl rfl ?_
  refine jr_iconst (v := 0) dX11_keep_1 (by decide) ?_
  refine jr_putI fl_RX11_110 (fun z => by cases z) dX11_keep_2 H (fun h1 H => ?_)
  refine jr_iload_n dX11_keep_5 rfl rfl ?_
  refine jr_iconst (v := 0) dX11_keep_6 (by decide) ?_
  refine jr_iconst (v := 1) dX11_keep_7 (by decide) ?_
  obtain ⟨v3, h2, Hc, H⟩ := j_b2_some H
  refine jr_callS [.int a1, .int 0, .int 1] my_X11_in ms_X11_in ml_RX11_116 dX11_keep_8 rfl rfl (Nat.le_of_ble_eq_true rfl) (c_X11_in l d F a1 0 1 h1 v3 h2 Hc) ?_
  refine jr_if_ne (tgt := 16) dX11_keep_11 (by decide) H (fun H => ?_) (fun H => ?_)
  · refine jr_iconst (v := 0) dX11_keep_14 (by decide) ?_
    exact jr_zret rfl rfl dX11_keep_15 H
  · refine jr_aload_n dX11_keep_16 rfl rfl ?_
    refine jr_getR fl_RX11_103 dX11_keep_17 H (fun v4 H => ?_)
    refine jr_iload_n dX11_keep_20 rfl rfl ?_
    refine jr_iconst (v := 1) dX11_keep_21 (by decide) ?_
    refine jr_zast rfl dX11_keep_22 H (fun h5 H => ?_)
    refine jr_aload_n dX11_keep_23 rfl rfl ?_
    refine jr_getR fl_RX11_107 dX11_keep_24 H (fun v6 H => ?_)
    refine jr_iload_n dX11_keep_27 rfl rfl ?_
    refine jr_aload_n dX11_keep_28 rfl rfl ?_
    refine jr_getI fl_RX11_174 (by decide) dX11_keep_29 H (fun v7 H => ?_)
    refine jr_iast dX11_keep_32 H (fun h8 H => ?_)
    refine jr_aload_n dX11_keep_33 rfl rfl ?_
    refine jr_getR fl_RX11_9 dX11_keep_34 H (fun v9 H => ?_)
    refine jr_aload_n dX11_keep_37 rfl rfl ?_
    refine jr_getR fl_RX11_100 dX11_keep_38 H (fun v10 H => ?_)
    refine jr_bipush (v := 44) dX11_keep_41 (by decide) ?_
    refine jr_iload_n dX11_keep_43 rfl rfl ?_
    refine jr_imul dX11_keep_44 ?_
    obtain ⟨h11, Hc, H⟩ := Option.bind_eq_some_iff.mp H
    refine jr_callS [.ref v9, .ref v10, .int ((44 : Int32) * a1)] my_X11_lay ms_X11_lay ml_RX11_267 dX11_keep_45 rfl rfl (Nat.le_of_ble_eq_true rfl) (c_X11_lay l d F v9 v10 ((44 : Int32) * a1) h8 h11 Hc) ?_
    refine jr_iconst (v := 1) dX11_keep_48 (by decide) ?_
    exact jr_zret rfl rfl dX11_keep_49 H
set_option maxRecDepth 100000 in
set_option maxHeartbeats 4000000 in
theorem s_X11_again_L40 (l : Launch) (d : Nat) (F : Nat) (x0 : Nat) (x1 : Int32) (k69 : jH → Option (Int32 × jH)) {rR : Int32} {hf : jH} (hk69 : ∀ (h : jH), k69 h = some (rR, hf) → jGo l (d + 1) none RX11 cX11_again 3 (some .boolean) false 69 [some (.ref x0), none, none] [] h (some (.int rR)) hf) : ∀ (n : Nat) (x2 : Int32) (h : jH), f_X11_again_L40 F x0 x1 k69 n x2 h = some (rR, hf) → jGo l (d + 1) none RX11 cX11_again 3 (some .boolean) false 40 [some (.ref x0), some (.int x1), some (.int x2)] [] h (some (.int rR)) hf := by
  intro n
  induction n with
  | zero =>
    intro x2 h H
    cases H
  | succ n ih =>
    intro x2 h H
    unfold f_X11_again_L40 at H
    refine jr_iload_n dX11_again_40 rfl rfl ?_
    refine jr_bipush (v := 44) dX11_again_41 (by decide) ?_
    refine jr_icmp_ge (tgt := 69) dX11_again_43 (by decide) H (fun H => ?_) (fun H => ?_)
    · refine jr_fgt 1 ?_
      refine jr_fgt 2 ?_
      exact hk69 _ H
    · refine jr_aload_n dX11_again_46 rfl rfl ?_
      refine jr_getR fl_RX11_9 dX11_again_47 H (fun v9 H => ?_)
      refine jr_iload_n dX11_again_50 rfl rfl ?_
      refine jr_aload_n dX11_again_51 rfl rfl ?_
      refine jr_getR fl_RX11_100 dX11_again_52 H (fun v10 H => ?_)
      refine jr_bipush (v := 44) dX11_again_55 (by decide) ?_
      refine jr_iload_n dX11_again_57 rfl rfl ?_
      refine jr_imul dX11_again_58 ?_
      refine jr_iload_n dX11_again_59 rfl rfl ?_
      refine jr_iadd dX11_again_60 ?_
      refine jr_iald dX11_again_61 H (fun v11 H => ?_)
      refine jr_iast dX11_again_62 H (fun h12 H => ?_)
      refine jr_iinc (v := (x2 + 1)) dX11_again_63 rfl rfl (by decide) rfl (Or.inl rfl) ?_
      refine jr_goto (tgt := 40) dX11_again_66 (by decide) ?_
      exact ih _ _ H
set_option maxRecDepth 100000 in
set_option maxHeartbeats 4000000 in
theorem c_X11_again (l : Launch) (d : Nat) (F : Nat) (a0 : Nat) (a1 : Int32) (h : jH) (rR : Int32) (hf : jH) (H : f_X11_again F a0 a1 h = some (rR, hf)) : jh_sh h a0 = (11, 0) ∧ jMet l (d + 1) yX11_again cX11_again 3 (some .boolean) [.ref a0, .int a1] h (some (.int rR)) hf := by
  unfold f_X11_again at H
  obtain ⟨hsh, H⟩ := j_gd_some H
  refine ⟨hsh, ?_⟩
  refine jMet.of false [some (.ref a0), some (.int a1), none] (by decide) (by decide) (Nat.le_of_ble_eq_true rfl) (fun S0 q hq => by simpa [j_l, lv_args, j_v, Value.category] using hq) ?_
  refine jr_aload_n dX11_again_0 rfl rfl ?_
  refine jr_iconst (v := 0) dX11_again_1 (by decide) ?_
  refine jr_putI fl_RX11_110 (fun z => by cases z) dX11_again_2 H (fun h1 H => ?_)
  refine jr_iload_n dX11_again_5 rfl rfl ?_
  refine jr_iconst (v := 0) dX11_again_6 (by decide) ?_
  refine jr_iconst (v := 1) dX11_again_7 (by decide) ?_
  obtain ⟨v3, h2, Hc, H⟩ := j_b2_some H
  refine jr_callS [.int a1, .int 0, .int 1] my_X11_in ms_X11_in ml_RX11_116 dX11_again_8 rfl rfl (Nat.le_of_ble_eq_true rfl) (c_X11_in l d F a1 0 1 h1 v3 h2 Hc) ?_
  refine jr_if_eq (tgt := 36) dX11_again_11 (by decide) H (fun H => ?_) (fun H => ?_)
  · refine jr_iconst (v := 0) dX11_again_36 (by decide) ?_
    exact jr_zret rfl rfl dX11_again_37 H
  · refine jr_aload_n dX11_again_14 rfl rfl ?_
    refine jr_getR fl_RX11_103 dX11_again_15 H (fun v4 H => ?_)
    refine jr_iload_n dX11_again_18 rfl rfl ?_
    refine jr_zald dX11_again_19 H (fun v5 H => ?_)
    refine jr_if_eq (tgt := 36) dX11_again_20 (by decide) H (fun H => ?_) (fun H => ?_)
    · refine jr_iconst (v := 0) dX11_again_36 (by decide) ?_
      exact jr_zret rfl rfl dX11_again_37 H
    · refine jr_aload_n dX11_again_23 rfl rfl ?_
      refine jr_getR fl_RX11_107 dX11_again_24 H (fun v6 H => ?_)
      refine jr_iload_n dX11_again_27 rfl rfl ?_
      refine jr_iald dX11_again_28 H (fun v7 H => ?_)
      refine jr_aload_n dX11_again_29 rfl rfl ?_
      refine jr_getI fl_RX11_174 (by decide) dX11_again_30 H (fun v8 H => ?_)
      refine jr_icmp_eq (tgt := 38) dX11_again_33 (by decide) H (fun H => ?_) (fun H => ?_)
      · refine jr_iconst (v := 0) dX11_again_38 (by decide) ?_
        refine jr_istore_n dX11_again_39 rfl (by decide) rfl (Or.inl rfl) ?_
        refine s_X11_again_L40 l d F a0 a1 _ (fun h13 H => ?_) F 0 h2 H
        · refine jr_aload_n dX11_again_69 rfl rfl ?_
          refine jr_iconst (v := 0) dX11_again_70 (by decide) ?_
          refine jr_putI fl_RX11_171 (fun z => by cases z) dX11_again_71 H (fun h14 H => ?_)
          refine jr_iconst (v := 1) dX11_again_74 (by decide) ?_
          exact jr_zret rfl rfl dX11_again_75 H
      · refine jr_iconst (v := 0) dX11_again_36 (by decide) ?_
        exact jr_zret rfl rfl dX11_again_37 H
set_option maxRecDepth 100000 in
set_option maxHeartbeats 4000000 in
theorem s_X11_sumOf_L5 (l : Launch) (d : Nat) (F : Nat) (x0 : Nat) (x1 : Int32) (x2 : Int32) {rR : Int32} {hf : jH} : ∀ (n : Nat) (x3 : Int32) (x4 : Int32) (h : jH), f_X11_sumOf_L5 F x0 x1 x2 n x3 x4 h = some (rR, hf) → jGo l (d + 0) none RX11 cX11_sumOf 5 (some .int) false 5 [some (.ref x0), some (.int x1), some (.int x2), some (.int x3), some (.int x4)] [] h (some (.int rR)) hf := by
  intro n
  induction n with
  | zero =>
    intro x3 x4 h H
    cases H
  | succ n ih =>
    intro x3 x4 h H
    unfold f_X11_sumOf_L5 at H
    refine jr_iload dX11_sumOf_5 rfl ?_
    refine jr_iload_n dX11_sumOf_7 rfl rfl ?_
    refine jr_icmp_ge (tgt := 29) dX11_sumOf_8 (by decide) H (fun H => ?_) (fun H => ?_)
    · refine jr_iload_n dX11_sumOf_29 rfl rfl ?_
      exact jr_iret rfl dX11_sumOf_30 H
    · refine jr_iload_n dX11_sumOf_11 rfl rfl ?_
      refine jr_aload_n dX11_sumOf_12 rfl rfl ?_
      refine jr_getR fl_RX11_9 dX11_sumOf_13 H (fun v1 H => ?_)
      refine jr_iload_n dX11_sumOf_16 rfl rfl ?_
      refine jr_iload dX11_sumOf_17 rfl ?_
      refine jr_iadd dX11_sumOf_19 ?_
      refine jr_iald dX11_sumOf_20 H (fun v2 H => ?_)
      refine jr_iadd dX11_sumOf_21 ?_
      refine jr_istore_n dX11_sumOf_22 rfl (by decide) rfl (Or.inl rfl) ?_
      refine jr_iinc (v := (x4 + 1)) dX11_sumOf_23 rfl rfl (by decide) rfl (Or.inl rfl) ?_
      refine jr_goto (tgt := 5) dX11_sumOf_26 (by decide) ?_
      exact ih _ _ _ H
set_option maxRecDepth 100000 in
set_option maxHeartbeats 4000000 in
theorem c_X11_sumOf (l : Launch) (d : Nat) (F : Nat) (a0 : Nat) (a1 : Int32) (a2 : Int32) (h : jH) (rR : Int32) (hf : jH) (H : f_X11_sumOf F a0 a1 a2 h = some (rR, hf)) : jh_sh h a0 = (11, 0) ∧ jMet l (d + 0) yX11_sumOf cX11_sumOf 5 (some .int) [.ref a0, .int a1, .int a2] h (some (.int rR)) hf := by
  unfold f_X11_sumOf at H
  obtain ⟨hsh, H⟩ := j_gd_some H
  refine ⟨hsh, ?_⟩
  refine jMet.of false [some (.ref a0), some (.int a1), some (.int a2), none, none] (by decide) (by decide) (Nat.le_of_ble_eq_true rfl) (fun S0 q hq => by simpa [j_l, lv_args, j_v, Value.category] using hq) ?_
  refine jr_iconst (v := 0) dX11_sumOf_0 (by decide) ?_
  refine jr_istore_n dX11_sumOf_1 rfl (by decide) rfl (Or.inl rfl) ?_
  refine jr_iconst (v := 0) dX11_sumOf_2 (by decide) ?_
  refine jr_istore dX11_sumOf_3 (by decide) rfl (Or.inl rfl) ?_
  exact s_X11_sumOf_L5 l d F a0 a1 a2 F 0 0 h H
set_option maxRecDepth 100000 in
set_option maxHeartbeats 4000000 in
theorem s_X11_count_L129 (l : Launch) (d : Nat) (F : Nat) (x0 : Nat) {rR : Int32} {hf : jH} : ∀ (n : Nat) (x2 : Int32) (x3 : Int32) (h : jH), f_X11_count_L129 F x0 n x2 x3 h = some (rR, hf) → jGo l (d + 1) none RX11 cX11_count 4 (some .int) false 129 [some (.ref x0), none, some (.int x2), some (.int x3)] [] h (some (.int rR)) hf := by
  intro n
  induction n with
  | zero =>
    intro x2 x3 h H
    cases H
  | succ n ih =>
    intro x2 x3 h H
    unfold f_X11_count_L129 at H
    refine jr_iload_n dX11_count_129 rfl rfl ?_
    refine jr_aload_n dX11_count_130 rfl rfl ?_
    refine jr_getI fl_RX11_120 (by decide) dX11_count_131 H (fun v15 H => ?_)
    refine jr_icmp_ge (tgt := 167) dX11_count_134 (by decide) H (fun H => ?_) (fun H => ?_)
    · refine jr_iload_n dX11_count_167 rfl rfl ?_
      exact jr_iret rfl dX11_count_168 H
    · refine jr_iload_n dX11_count_137 rfl rfl ?_
      refine jr_aload_n dX11_count_138 rfl rfl ?_
      refine jr_getR fl_RX11_24 dX11_count_139 H (fun v16 H => ?_)
      refine jr_iconst (v := 2) dX11_count_142 (by decide) ?_
      refine jr_iload_n dX11_count_143 rfl rfl ?_
      refine jr_imul dX11_count_144 ?_
      refine jr_iconst (v := 1) dX11_count_145 (by decide) ?_
      refine jr_iadd dX11_count_146 ?_
      refine jr_iald dX11_count_147 H (fun v17 H => ?_)
      refine jr_iconst (v := (-1)) dX11_count_148 (by decide) ?_
      refine jr_jn (fun J => ∀ (s18 : Int32) (s19 : Int32) (h20 : jH), J s18 s19 h20 = some (rR, hf) → jGo l (d + 1) none RX11 cX11_count 4 (some .int) false 159 [some (.ref x0), none, none, some (.int x3)] [.int s18, .int s19] h20 (some (.int rR)) hf) H (fun s18 s19 h20 H => ?_) (fun J159 hJ159 H => ?_)
      · refine jr_ior dX11_count_159 ?_
        refine jr_istore_n dX11_count_160 rfl (by decide) rfl (Or.inl rfl) ?_
        refine jr_iinc (v := (x3 + 1)) dX11_count_161 rfl rfl (by decide) rfl (Or.inl rfl) ?_
        refine jr_goto (tgt := 129) dX11_count_164 (by decide) ?_
        exact ih _ _ _ H
      · refine jr_icmp_ne (tgt := 156) dX11_count_149 (by decide) H (fun H => ?_) (fun H => ?_)
        · refine jr_iconst (v := 0) dX11_count_152 (by decide) ?_
          refine jr_goto (tgt := 159) dX11_count_153 (by decide) ?_
          refine jr_fgt 2 ?_
          exact hJ159 _ _ _ H
        · refine jr_iconst (v := 1) dX11_count_156 (by decide) ?_
          refine jr_iload_n dX11_count_157 rfl rfl ?_
          refine jr_ishl dX11_count_158 ?_
          refine jr_fgt 2 ?_
          exact hJ159 _ _ _ H
set_option maxRecDepth 100000 in
set_option maxHeartbeats 4000000 in
theorem c_X11_count (l : Launch) (d : Nat) (F : Nat) (a0 : Nat) (a1 : Int32) (h : jH) (rR : Int32) (hf : jH) (H : f_X11_count F a0 a1 h = some (rR, hf)) : jh_sh h a0 = (11, 0) ∧ jMet l (d + 1) yX11_count cX11_count 4 (some .int) [.ref a0, .int a1] h (some (.int rR)) hf := by
  unfold f_X11_count at H
  obtain ⟨hsh, H⟩ := j_gd_some H
  refine ⟨hsh, ?_⟩
  refine jMet.of false [some (.ref a0), some (.int a1), none, none] (by decide) (by decide) (Nat.le_of_ble_eq_true rfl) (fun S0 q hq => by simpa [j_l, lv_args, j_v, Value.category] using hq) ?_
  refine jr_aload_n dX11_count_0 rfl rfl ?_
  refine jr_iconst (v := 0) dX11_count_1 (by decide) ?_
  refine jr_putI fl_RX11_110 (fun z => by cases z) dX11_count_2 H (fun h1 H => ?_)
  refine jr_iconst (v := 0) dX11_count_5 (by decide) ?_
  refine jr_istore_n dX11_count_6 rfl (by decide) rfl (Or.inl rfl) ?_
  refine jr_iload_n dX11_count_7 rfl rfl ?_
  by_cases q0 : a1 = 0
  · rw [if_pos q0] at H
    refine jr_table (tgt := 72) dX11_count_8 (64) (by rw [q0]; decide) (by decide) (by decide) (by decide) ?_
    refine jr_aload_n dX11_count_72 rfl rfl ?_
    refine jr_getI fl_RX11_13 (by decide) dX11_count_73 H (fun v2 H => ?_)
    exact jr_iret rfl dX11_count_76 H
  rw [if_neg q0] at H
  by_cases q1 : a1 = 1
  · rw [if_pos q1] at H
    refine jr_table (tgt := 77) dX11_count_8 (69) (by rw [q1]; decide) (by decide) (by decide) (by decide) ?_
    refine jr_aload_n dX11_count_77 rfl rfl ?_
    refine jr_getI fl_RX11_120 (by decide) dX11_count_78 H (fun v3 H => ?_)
    exact jr_iret rfl dX11_count_81 H
  rw [if_neg q1] at H
  by_cases q2 : a1 = 2
  · rw [if_pos q2] at H
    refine jr_table (tgt := 82) dX11_count_8 (74) (by rw [q2]; decide) (by decide) (by decide) (by decide) ?_
    refine jr_aload_n dX11_count_82 rfl rfl ?_
    refine jr_getI fl_RX11_123 (by decide) dX11_count_83 H (fun v4 H => ?_)
    exact jr_iret rfl dX11_count_86 H
  rw [if_neg q2] at H
  by_cases q3 : a1 = 3
  · rw [if_pos q3] at H
    refine jr_table (tgt := 87) dX11_count_8 (79) (by rw [q3]; decide) (by decide) (by decide) (by decide) ?_
    refine jr_aload_n dX11_count_87 rfl rfl ?_
    refine jr_getI fl_RX11_168 (by decide) dX11_count_88 H (fun v5 H => ?_)
    exact jr_iret rfl dX11_count_91 H
  rw [if_neg q3] at H
  by_cases q4 : a1 = 4
  · rw [if_pos q4] at H
    refine jr_table (tgt := 92) dX11_count_8 (84) (by rw [q4]; decide) (by decide) (by decide) (by decide) ?_
    refine jr_aload_n dX11_count_92 rfl rfl ?_
    refine jr_getR fl_RX11_9 dX11_count_93 H (fun v6 H => ?_)
    refine jr_bipush (v := 12) dX11_count_96 (by decide) ?_
    refine jr_iald dX11_count_98 H (fun v7 H => ?_)
    exact jr_iret rfl dX11_count_99 H
  rw [if_neg q4] at H
  by_cases q5 : a1 = 5
  · rw [if_pos q5] at H
    refine jr_table (tgt := 100) dX11_count_8 (92) (by rw [q5]; decide) (by decide) (by decide) (by decide) ?_
    refine jr_aload_n dX11_count_100 rfl rfl ?_
    refine jr_getR fl_RX11_9 dX11_count_101 H (fun v8 H => ?_)
    refine jr_bipush (v := 13) dX11_count_104 (by decide) ?_
    refine jr_iald dX11_count_106 H (fun v9 H => ?_)
    exact jr_iret rfl dX11_count_107 H
  rw [if_neg q5] at H
  by_cases q6 : a1 = 6
  · rw [if_pos q6] at H
    refine jr_table (tgt := 108) dX11_count_8 (100) (by rw [q6]; decide) (by decide) (by decide) (by decide) ?_
    refine jr_aload_n dX11_count_108 rfl rfl ?_
    refine jr_bipush (v := 14) dX11_count_109 (by decide) ?_
    refine jr_bipush (v := 30) dX11_count_111 (by decide) ?_
    obtain ⟨v11, h10, Hc, H⟩ := j_b2_some H
    refine jr_callV (ci := 11) [.int 14, .int 30] my_X11_sumOf mv_X11_sumOf ml_RX11_411 dX11_count_113 rfl rfl (Nat.le_of_ble_eq_true rfl) rfl (c_X11_sumOf l d F a0 14 30 h1 v11 h10 Hc) ?_
    exact jr_iret rfl dX11_count_116 H
  rw [if_neg q6] at H
  by_cases q7 : a1 = 7
  · rw [if_pos q7] at H
    refine jr_table (tgt := 117) dX11_count_8 (109) (by rw [q7]; decide) (by decide) (by decide) (by decide) ?_
    refine jr_aload_n dX11_count_117 rfl rfl ?_
    refine jr_iconst (v := 4) dX11_count_118 (by decide) ?_
    refine jr_aload_n dX11_count_119 rfl rfl ?_
    refine jr_getI fl_RX11_123 (by decide) dX11_count_120 H (fun v12 H => ?_)
    obtain ⟨v14, h13, Hc, H⟩ := j_b2_some H
    refine jr_callV (ci := 11) [.int 4, .int v12] my_X11_sumOf mv_X11_sumOf ml_RX11_411 dX11_count_123 rfl rfl (Nat.le_of_ble_eq_true rfl) rfl (c_X11_sumOf l d F a0 4 v12 h1 v14 h13 Hc) ?_
    exact jr_iret rfl dX11_count_126 H
  rw [if_neg q7] at H
  by_cases q8 : a1 = 8
  · rw [if_pos q8] at H
    refine jr_table (tgt := 127) dX11_count_8 (119) (by rw [q8]; decide) (by decide) (by decide) (by decide) ?_
    refine jr_iconst (v := 0) dX11_count_127 (by decide) ?_
    refine jr_istore_n dX11_count_128 rfl (by decide) rfl (Or.inl rfl) ?_
    refine jr_fgt 1 ?_
    exact s_X11_count_L129 l d F a0 F 0 0 h1 H
  rw [if_neg q8] at H
  by_cases q9 : a1 = 9
  · rw [if_pos q9] at H
    refine jr_table (tgt := 169) dX11_count_8 (161) (by rw [q9]; decide) (by decide) (by decide) (by decide) ?_
    refine jr_aload_n dX11_count_169 rfl rfl ?_
    refine jr_getI fl_RX11_171 (by decide) dX11_count_170 H (fun v21 H => ?_)
    exact jr_iret rfl dX11_count_173 H
  rw [if_neg q9] at H
  by_cases q10 : a1 = 10
  · rw [if_pos q10] at H
    refine jr_table (tgt := 174) dX11_count_8 (166) (by rw [q10]; decide) (by decide) (by decide) (by decide) ?_
    refine jr_aload_n dX11_count_174 rfl rfl ?_
    refine jr_getI fl_RX11_113 (by decide) dX11_count_175 H (fun v22 H => ?_)
    exact jr_iret rfl dX11_count_178 H
  rw [if_neg q10] at H
  by_cases q11 : a1 = 11
  · rw [if_pos q11] at H
    refine jr_table (tgt := 179) dX11_count_8 (171) (by rw [q11]; decide) (by decide) (by decide) (by decide) ?_
    refine jr_aload_n dX11_count_179 rfl rfl ?_
    refine jr_getI fl_RX11_126 (by decide) dX11_count_180 H (fun v23 H => ?_)
    exact jr_iret rfl dX11_count_183 H
  rw [if_neg q11] at H
  have hdef : (if a1.toInt < 0 ∨ 11 < a1.toInt then (176 : Int) else (#[64, 69, 74, 79, 84, 92, 100, 109, 119, 161, 166, 171] : Array Int).getD (a1.toInt - 0).toNat 176) = 176 := by
    have w0 := lv_neT q0 (show (0 : Int32).toInt = 0 from rfl)
    have w1 := lv_neT q1 (show (1 : Int32).toInt = 1 from rfl)
    have w2 := lv_neT q2 (show (2 : Int32).toInt = 2 from rfl)
    have w3 := lv_neT q3 (show (3 : Int32).toInt = 3 from rfl)
    have w4 := lv_neT q4 (show (4 : Int32).toInt = 4 from rfl)
    have w5 := lv_neT q5 (show (5 : Int32).toInt = 5 from rfl)
    have w6 := lv_neT q6 (show (6 : Int32).toInt = 6 from rfl)
    have w7 := lv_neT q7 (show (7 : Int32).toInt = 7 from rfl)
    have w8 := lv_neT q8 (show (8 : Int32).toInt = 8 from rfl)
    have w9 := lv_neT q9 (show (9 : Int32).toInt = 9 from rfl)
    have w10 := lv_neT q10 (show (10 : Int32).toInt = 10 from rfl)
    have w11 := lv_neT q11 (show (11 : Int32).toInt = 11 from rfl)
    by_cases hx : a1.toInt < 0 ∨ 11 < a1.toInt
    · rw [if_pos hx]
    · rw [if_neg hx]
      omega
  refine jr_table (tgt := 184) dX11_count_8 (176) hdef (by decide) (by decide) (by decide) ?_
  refine jr_iconst (v := (-1)) dX11_count_184 (by decide) ?_
  exact jr_iret rfl dX11_count_185 H
set_option maxRecDepth 100000 in
set_option maxHeartbeats 4000000 in
theorem c_X11_row (l : Launch) (d : Nat) (F : Nat) (a0 : Nat) (a1 : Int32) (h : jH) (rR : Int64) (hf : jH) (H : f_X11_row F a0 a1 h = some (rR, hf)) : jh_sh h a0 = (11, 0) ∧ jMet l (d + 1) yX11_row cX11_row 2 (some .long) [.ref a0, .int a1] h (some (.long rR)) hf := by
  unfold f_X11_row at H
  obtain ⟨hsh, H⟩ := j_gd_some H
  refine ⟨hsh, ?_⟩
  refine jMet.of false [some (.ref a0), some (.int a1)] (by decide) (by decide) (Nat.le_of_ble_eq_true rfl) (fun S0 q hq => by simpa [j_l, lv_args, j_v, Value.category] using hq) ?_
  refine jr_aload_n dX11_row_0 rfl rfl ?_
  refine jr_iconst (v := 0) dX11_row_1 (by decide) ?_
  refine jr_putI fl_RX11_110 (fun z => by cases z) dX11_row_2 H (fun h1 H => ?_)
  refine jr_iload_n dX11_row_5 rfl rfl ?_
  refine jr_iconst (v := 0) dX11_row_6 (by decide) ?_
  refine jr_aload_n dX11_row_7 rfl rfl ?_
  refine jr_getI fl_RX11_113 (by decide) dX11_row_8 H (fun v2 H => ?_)
  refine jr_iconst (v := 1) dX11_row_11 (by decide) ?_
  refine jr_isub dX11_row_12 ?_
  obtain ⟨v4, h3, Hc, H⟩ := j_b2_some H
  refine jr_callS [.int a1, .int 0, .int (v2 - (1 : Int32))] my_X11_in ms_X11_in ml_RX11_116 dX11_row_13 rfl rfl (Nat.le_of_ble_eq_true rfl) (c_X11_in l d F a1 0 (v2 - (1 : Int32)) h1 v4 h3 Hc) ?_
  refine jr_if_eq (tgt := 28) dX11_row_16 (by decide) H (fun H => ?_) (fun H => ?_)
  · refine jr_aload_n dX11_row_28 rfl rfl ?_
    obtain ⟨v6, h5, Hc, H⟩ := j_b2_some H
    refine jr_callV (ci := 11) [] my_X11_lost mv_X11_lost ml_RX11_245 dX11_row_29 rfl rfl (Nat.le_of_ble_eq_true rfl) rfl (c_X11_lost l d F a0 h3 v6 h5 Hc) ?_
    refine jr_i2l dX11_row_32 ?_
    exact jr_lret rfl dX11_row_33 H
  · refine jr_aload_n dX11_row_19 rfl rfl ?_
    refine jr_getR fl_RX11_33 dX11_row_20 H (fun v7 H => ?_)
    refine jr_iload_n dX11_row_23 rfl rfl ?_
    refine jr_lald dX11_row_24 H (fun v8 H => ?_)
    refine jr_goto (tgt := 33) dX11_row_25 (by decide) ?_
    exact jr_lret rfl dX11_row_33 H
