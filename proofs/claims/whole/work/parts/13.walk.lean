set_option maxRecDepth 100000 in
set_option maxHeartbeats 4000000 in
theorem s_X11_words_L24 (l : Launch) (d : Nat) (F : Nat) (x0 : Nat) (k75 : Int32 → jH → Option (Int32 × jH)) {rR : Int32} {hf : jH} (hk75 : ∀ (y1 : Int32) (h : jH), k75 y1 h = some (rR, hf) → jGo l (d + 4) none RX11 cX11_words 5 (some .int) false 75 [some (.ref x0), some (.int y1), none, none, none] [] h (some (.int rR)) hf) : ∀ (n : Nat) (x1 : Int32) (x2 : Int32) (h : jH), f_X11_words_L24 F x0 k75 n x1 x2 h = some (rR, hf) → jGo l (d + 4) none RX11 cX11_words 5 (some .int) false 24 [some (.ref x0), some (.int x1), some (.int x2), none, none] [] h (some (.int rR)) hf := by
  intro n
  induction n with
  | zero =>
    intro x1 x2 h H
    cases H
  | succ n ih =>
    intro x1 x2 h H
    unfold f_X11_words_L24 at H
    refine jr_iload_n dX11_words_24 rfl rfl ?_
    refine jr_if_eq (tgt := 75) dX11_words_25 (by decide) H (fun H => ?_) (fun H => ?_)
    · refine jr_fgt 2 ?_
      exact hk75 _ _ H
    · refine jr_aload_n dX11_words_28 rfl rfl ?_
      obtain ⟨v5, h4, Hc, H⟩ := j_b2_some H
      refine jr_callV (ci := 11) [] my_X11_fine mv_X11_fine ml_RX11_148 dX11_words_29 rfl rfl (Nat.le_of_ble_eq_true rfl) rfl (c_X11_fine l (d + 3) F x0 h v5 h4 Hc) ?_
      refine jr_if_eq (tgt := 75) dX11_words_32 (by decide) H (fun H => ?_) (fun H => ?_)
      · refine jr_fgt 2 ?_
        exact hk75 _ _ H
      · refine jr_aload_n dX11_words_35 rfl rfl ?_
        refine jr_getI fl_RX11_120 (by decide) dX11_words_36 H (fun v6 H => ?_)
        refine jr_iload_n dX11_words_39 rfl rfl ?_
        refine jr_iadd dX11_words_40 ?_
        refine jr_bipush (v := 10) dX11_words_41 (by decide) ?_
        refine jr_jn (fun J => ∀ (h7 : jH), J h7 = some (rR, hf) → jGo l (d + 4) none RX11 cX11_words 5 (some .int) false 62 [some (.ref x0), some (.int x1), none, none, none] [] h7 (some (.int rR)) hf) H (fun h7 H => ?_) (fun J62 hJ62 H => ?_)
        · refine jr_iinc (v := (x1 + 1)) dX11_words_62 rfl rfl (by decide) rfl (Or.inl rfl) ?_
          refine jr_aload_n dX11_words_65 rfl rfl ?_
          refine jr_bipush (v := 59) dX11_words_66 (by decide) ?_
          obtain ⟨v9, h8, Hc, H⟩ := j_b2_some H
          refine jr_callV (ci := 11) [.int 59] my_X11_passes mv_X11_passes ml_RX11_156 dX11_words_68 rfl rfl (Nat.le_of_ble_eq_true rfl) rfl (c_X11_passes l (d + 2) F x0 59 h7 v9 h8 Hc) ?_
          refine jr_istore_n dX11_words_71 rfl (by decide) rfl (Or.inl rfl) ?_
          refine jr_goto (tgt := 24) dX11_words_72 (by decide) ?_
          exact ih _ _ _ H
        · refine jr_icmp_ne (tgt := 57) dX11_words_43 (by decide) H (fun H => ?_) (fun H => ?_)
          · refine jr_aload_n dX11_words_46 rfl rfl ?_
            refine jr_aload_n dX11_words_47 rfl rfl ?_
            refine jr_getI fl_RX11_138 (by decide) dX11_words_48 H (fun v10 H => ?_)
            obtain ⟨h11, Hc, H⟩ := Option.bind_eq_some_iff.mp H
            refine jr_callV (ci := 11) [.int v10] my_X11_fault mv_X11_fault ml_RX11_160 dX11_words_51 rfl rfl (Nat.le_of_ble_eq_true rfl) rfl (c_X11_fault l (d + 2) F x0 v10 h4 h11 Hc) ?_
            refine jr_goto (tgt := 62) dX11_words_54 (by decide) ?_
            refine jr_fgt 2 ?_
            exact hJ62 _ H
          · refine jr_aload_n dX11_words_57 rfl rfl ?_
            refine jr_iload_n dX11_words_58 rfl rfl ?_
            obtain ⟨h12, Hc, H⟩ := Option.bind_eq_some_iff.mp H
            refine jr_callV (ci := 11) [.int x1] my_X11_readWord mv_X11_readWord ml_RX11_180 dX11_words_59 rfl rfl (Nat.le_of_ble_eq_true rfl) rfl (c_X11_readWord l d F x0 x1 h4 h12 Hc) ?_
            refine jr_fgt 2 ?_
            exact hJ62 _ H
set_option maxRecDepth 100000 in
set_option maxHeartbeats 4000000 in
theorem s_X11_words_L99 (l : Launch) (d : Nat) (F : Nat) (x0 : Nat) (x1 : Int32) (x3 : Int32) (k139 : jH → Option (Int32 × jH)) {rR : Int32} {hf : jH} (hk139 : ∀ (h : jH), k139 h = some (rR, hf) → jGo l (d + 4) none RX11 cX11_words 5 (some .int) false 139 [some (.ref x0), some (.int x1), none, some (.int x3), none] [] h (some (.int rR)) hf) : ∀ (n : Nat) (x4 : Int32) (h : jH), f_X11_words_L99 F x0 x1 x3 k139 n x4 h = some (rR, hf) → jGo l (d + 4) none RX11 cX11_words 5 (some .int) false 99 [some (.ref x0), some (.int x1), none, some (.int x3), some (.int x4)] [] h (some (.int rR)) hf := by
  intro n
  induction n with
  | zero =>
    intro x4 h H
    cases H
  | succ n ih =>
    intro x4 h H
    unfold f_X11_words_L99 at H
    refine jr_iload dX11_words_99 rfl ?_
    refine jr_bipush (v := 6) dX11_words_101 (by decide) ?_
    refine jr_icmp_ge (tgt := 139) dX11_words_103 (by decide) H (fun H => ?_) (fun H => ?_)
    · refine jr_fgt 4 ?_
      exact hk139 _ H
    · refine jr_aload_n dX11_words_106 rfl rfl ?_
      refine jr_getR fl_RX11_17 dX11_words_107 H (fun v18 H => ?_)
      refine jr_bipush (v := 6) dX11_words_110 (by decide) ?_
      refine jr_aload_n dX11_words_112 rfl rfl ?_
      refine jr_getI fl_RX11_120 (by decide) dX11_words_113 H (fun v19 H => ?_)
      refine jr_imul dX11_words_116 ?_
      refine jr_iload dX11_words_117 rfl ?_
      refine jr_iadd dX11_words_119 ?_
      refine jr_aload_n dX11_words_120 rfl rfl ?_
      refine jr_getR fl_RX11_37 dX11_words_121 H (fun v20 H => ?_)
      refine jr_bipush (v := 6) dX11_words_124 (by decide) ?_
      refine jr_iload_n dX11_words_126 rfl rfl ?_
      refine jr_imul dX11_words_127 ?_
      refine jr_iload dX11_words_128 rfl ?_
      refine jr_iadd dX11_words_130 ?_
      refine jr_bald dX11_words_131 H (fun v21 H => ?_)
      refine jr_bast dX11_words_132 H (fun h22 H => ?_)
      refine jr_iinc (v := (x4 + 1)) dX11_words_133 rfl rfl (by decide) rfl (Or.inl rfl) ?_
      refine jr_goto (tgt := 99) dX11_words_136 (by decide) ?_
      exact ih _ _ H
set_option maxRecDepth 100000 in
set_option maxHeartbeats 4000000 in
theorem s_X11_words_L91 (l : Launch) (d : Nat) (F : Nat) (x0 : Nat) (x1 : Int32) (k212 : jH → Option (Int32 × jH)) {rR : Int32} {hf : jH} (hk212 : ∀ (h : jH), k212 h = some (rR, hf) → jGo l (d + 4) none RX11 cX11_words 5 (some .int) false 212 [some (.ref x0), some (.int x1), none, none, none] [] h (some (.int rR)) hf) : ∀ (n : Nat) (x3 : Int32) (h : jH), f_X11_words_L91 F x0 x1 k212 n x3 h = some (rR, hf) → jGo l (d + 4) none RX11 cX11_words 5 (some .int) false 91 [some (.ref x0), some (.int x1), none, some (.int x3), none] [] h (some (.int rR)) hf := by
  intro n
  induction n with
  | zero =>
    intro x3 h H
    cases H
  | succ n ih =>
    intro x3 h H
    unfold f_X11_words_L91 at H
    refine jr_iload_n dX11_words_91 rfl rfl ?_
    refine jr_iload_n dX11_words_92 rfl rfl ?_
    refine jr_icmp_ge (tgt := 212) dX11_words_93 (by decide) H (fun H => ?_) (fun H => ?_)
    · refine jr_fgt 3 ?_
      exact hk212 _ H
    · refine jr_iconst (v := 0) dX11_words_96 (by decide) ?_
      refine jr_istore dX11_words_97 (by decide) rfl (Or.inl rfl) ?_
      refine s_X11_words_L99 l d F x0 x1 x3 _ (fun h23 H => ?_) F 0 h H
      · refine jr_aload_n dX11_words_139 rfl rfl ?_
        refine jr_getR fl_RX11_21 dX11_words_140 H (fun v24 H => ?_)
        refine jr_aload_n dX11_words_143 rfl rfl ?_
        refine jr_getI fl_RX11_120 (by decide) dX11_words_144 H (fun v25 H => ?_)
        refine jr_aload_n dX11_words_147 rfl rfl ?_
        refine jr_getR fl_RX11_40 dX11_words_148 H (fun v26 H => ?_)
        refine jr_iload_n dX11_words_151 rfl rfl ?_
        refine jr_iald dX11_words_152 H (fun v27 H => ?_)
        refine jr_iast dX11_words_153 H (fun h28 H => ?_)
        refine jr_aload_n dX11_words_154 rfl rfl ?_
        refine jr_getR fl_RX11_24 dX11_words_155 H (fun v29 H => ?_)
        refine jr_iconst (v := 2) dX11_words_158 (by decide) ?_
        refine jr_aload_n dX11_words_159 rfl rfl ?_
        refine jr_getI fl_RX11_120 (by decide) dX11_words_160 H (fun v30 H => ?_)
        refine jr_imul dX11_words_163 ?_
        refine jr_aload_n dX11_words_164 rfl rfl ?_
        refine jr_getR fl_RX11_43 dX11_words_165 H (fun v31 H => ?_)
        refine jr_iconst (v := 2) dX11_words_168 (by decide) ?_
        refine jr_iload_n dX11_words_169 rfl rfl ?_
        refine jr_imul dX11_words_170 ?_
        refine jr_iald dX11_words_171 H (fun v32 H => ?_)
        refine jr_iast dX11_words_172 H (fun h33 H => ?_)
        refine jr_aload_n dX11_words_173 rfl rfl ?_
        refine jr_getR fl_RX11_24 dX11_words_174 H (fun v34 H => ?_)
        refine jr_iconst (v := 2) dX11_words_177 (by decide) ?_
        refine jr_aload_n dX11_words_178 rfl rfl ?_
        refine jr_getI fl_RX11_120 (by decide) dX11_words_179 H (fun v35 H => ?_)
        refine jr_imul dX11_words_182 ?_
        refine jr_iconst (v := 1) dX11_words_183 (by decide) ?_
        refine jr_iadd dX11_words_184 ?_
        refine jr_aload_n dX11_words_185 rfl rfl ?_
        refine jr_getR fl_RX11_43 dX11_words_186 H (fun v36 H => ?_)
        refine jr_iconst (v := 2) dX11_words_189 (by decide) ?_
        refine jr_iload_n dX11_words_190 rfl rfl ?_
        refine jr_imul dX11_words_191 ?_
        refine jr_iconst (v := 1) dX11_words_192 (by decide) ?_
        refine jr_iadd dX11_words_193 ?_
        refine jr_iald dX11_words_194 H (fun v37 H => ?_)
        refine jr_iast dX11_words_195 H (fun h38 H => ?_)
        refine jr_aload_n dX11_words_196 rfl rfl ?_
        refine jr_dup dX11_words_197 rfl ?_
        refine jr_getI fl_RX11_120 (by decide) dX11_words_198 H (fun v39 H => ?_)
        refine jr_iconst (v := 1) dX11_words_201 (by decide) ?_
        refine jr_iadd dX11_words_202 ?_
        refine jr_putI fl_RX11_120 (fun z => by cases z) dX11_words_203 H (fun h40 H => ?_)
        refine jr_iinc (v := (x3 + 1)) dX11_words_206 rfl rfl (by decide) rfl (Or.inl rfl) ?_
        refine jr_goto (tgt := 91) dX11_words_209 (by decide) ?_
        exact ih _ _ H
set_option maxRecDepth 100000 in
set_option maxHeartbeats 4000000 in
theorem c_X11_words (l : Launch) (d : Nat) (F : Nat) (a0 : Nat) (h : jH) (rR : Int32) (hf : jH) (H : f_X11_words F a0 h = some (rR, hf)) : jh_sh h a0 = (11, 0) ∧ jMet l (d + 4) yX11_words cX11_words 5 (some .int) [.ref a0] h (some (.int rR)) hf := by
  unfold f_X11_words at H
  obtain ⟨hsh, H⟩ := j_gd_some H
  refine ⟨hsh, ?_⟩
  refine jMet.of false [some (.ref a0), none, none, none, none] rfl (by decide) (by decide) (Nat.le_of_ble_eq_true rfl) (fun S0 q hq => by simpa [j_l, lv_args, j_v, Value.category] using hq) ?_
  refine jr_aload_n dX11_words_0 rfl rfl ?_
  refine jr_iconst (v := 0) dX11_words_1 (by decide) ?_
  refine jr_putI fl_RX11_110 (fun z => by cases z) dX11_words_2 H (fun h1 H => ?_)
  refine jr_aload_n dX11_words_5 rfl rfl ?_
  refine jr_bipush (v := 76) dX11_words_6 (by decide) ?_
  obtain ⟨h2, Hc, H⟩ := Option.bind_eq_some_iff.mp H
  refine jr_callV (ci := 11) [.int 76] my_X11_beginText mv_X11_beginText ml_RX11_177 dX11_words_8 rfl rfl (Nat.le_of_ble_eq_true rfl) rfl (c_X11_beginText l (d + 2) F a0 76 h1 h2 Hc) ?_
  refine jr_aload_n dX11_words_11 rfl rfl ?_
  refine jr_getI fl_RX11_132 (by decide) dX11_words_12 H (fun v3 H => ?_)
  refine jr_if_ne (tgt := 20) dX11_words_15 (by decide) H (fun H => ?_) (fun H => ?_)
  · refine jr_iconst (v := 0) dX11_words_18 (by decide) ?_
    exact jr_iret rfl dX11_words_19 H
  · refine jr_iconst (v := 0) dX11_words_20 (by decide) ?_
    refine jr_istore_n dX11_words_21 rfl (by decide) rfl (Or.inl rfl) ?_
    refine jr_iconst (v := 1) dX11_words_22 (by decide) ?_
    refine jr_istore_n dX11_words_23 rfl (by decide) rfl (Or.inl rfl) ?_
    refine s_X11_words_L24 l d F a0 _ (fun y13 h14 H => ?_) F 0 1 h2 H
    · refine jr_aload_n dX11_words_75 rfl rfl ?_
      obtain ⟨v16, h15, Hc, H⟩ := j_b2_some H
      refine jr_callV (ci := 11) [] my_X11_wasRight mv_X11_wasRight ml_RX11_183 dX11_words_76 rfl rfl (Nat.le_of_ble_eq_true rfl) rfl (c_X11_wasRight l (d + 1) F a0 h14 v16 h15 Hc) ?_
      refine jr_if_ne (tgt := 89) dX11_words_79 (by decide) H (fun H => ?_) (fun H => ?_)
      · refine jr_iconst (v := (-1)) dX11_words_82 (by decide) ?_
        refine jr_aload_n dX11_words_83 rfl rfl ?_
        refine jr_getI fl_RX11_141 (by decide) dX11_words_84 H (fun v17 H => ?_)
        refine jr_isub dX11_words_87 ?_
        exact jr_iret rfl dX11_words_88 H
      · refine jr_iconst (v := 0) dX11_words_89 (by decide) ?_
        refine jr_istore_n dX11_words_90 rfl (by decide) rfl (Or.inl rfl) ?_
        refine s_X11_words_L91 l d F a0 y13 _ (fun h41 H => ?_) F 0 h15 H
        · refine jr_aload_n dX11_words_212 rfl rfl ?_
          refine jr_iconst (v := 0) dX11_words_213 (by decide) ?_
          refine jr_putI fl_RX11_171 (fun z => by cases z) dX11_words_214 H (fun h42 H => ?_)
          refine jr_aload_n dX11_words_217 rfl rfl ?_
          refine jr_dup dX11_words_218 rfl ?_
          refine jr_getI fl_RX11_174 (by decide) dX11_words_219 H (fun v43 H => ?_)
          refine jr_iconst (v := 1) dX11_words_222 (by decide) ?_
          refine jr_iadd dX11_words_223 ?_
          refine jr_putI fl_RX11_174 (fun z => by cases z) dX11_words_224 H (fun h44 H => ?_)
          refine jr_iload_n dX11_words_227 rfl rfl ?_
          exact jr_iret rfl dX11_words_228 H
set_option maxRecDepth 100000 in
set_option maxHeartbeats 4000000 in
theorem s_X11_travellers_L24 (l : Launch) (d : Nat) (F : Nat) (x0 : Nat) (k108 : Int32 → jH → Option (Int32 × jH)) {rR : Int32} {hf : jH} (hk108 : ∀ (y1 : Int32) (h : jH), k108 y1 h = some (rR, hf) → jGo l (d + 4) none RX11 cX11_travellers 4 (some .int) false 108 [some (.ref x0), some (.int y1), none, none] [] h (some (.int rR)) hf) : ∀ (n : Nat) (x1 : Int32) (x2 : Int32) (h : jH), f_X11_travellers_L24 F x0 k108 n x1 x2 h = some (rR, hf) → jGo l (d + 4) none RX11 cX11_travellers 4 (some .int) false 24 [some (.ref x0), some (.int x1), some (.int x2), none] [] h (some (.int rR)) hf := by
  intro n
  induction n with
  | zero =>
    intro x1 x2 h H
    cases H
  | succ n ih =>
    intro x1 x2 h H
    unfold f_X11_travellers_L24 at H
    refine jr_iload_n dX11_travellers_24 rfl rfl ?_
    refine jr_if_eq (tgt := 108) dX11_travellers_25 (by decide) H (fun H => ?_) (fun H => ?_)
    · refine jr_fgt 2 ?_
      exact hk108 _ _ H
    · refine jr_aload_n dX11_travellers_28 rfl rfl ?_
      obtain ⟨v5, h4, Hc, H⟩ := j_b2_some H
      refine jr_callV (ci := 11) [] my_X11_fine mv_X11_fine ml_RX11_148 dX11_travellers_29 rfl rfl (Nat.le_of_ble_eq_true rfl) rfl (c_X11_fine l (d + 3) F x0 h v5 h4 Hc) ?_
      refine jr_if_eq (tgt := 108) dX11_travellers_32 (by decide) H (fun H => ?_) (fun H => ?_)
      · refine jr_fgt 2 ?_
        exact hk108 _ _ H
      · refine jr_aload_n dX11_travellers_35 rfl rfl ?_
        refine jr_getI fl_RX11_123 (by decide) dX11_travellers_36 H (fun v6 H => ?_)
        refine jr_iload_n dX11_travellers_39 rfl rfl ?_
        refine jr_iadd dX11_travellers_40 ?_
        refine jr_iconst (v := 4) dX11_travellers_41 (by decide) ?_
        refine jr_jn (fun J => ∀ (h7 : jH), J h7 = some (rR, hf) → jGo l (d + 4) none RX11 cX11_travellers 4 (some .int) false 95 [some (.ref x0), some (.int x1), none, none] [] h7 (some (.int rR)) hf) H (fun h7 H => ?_) (fun J95 hJ95 H => ?_)
        · refine jr_iinc (v := (x1 + 1)) dX11_travellers_95 rfl rfl (by decide) rfl (Or.inl rfl) ?_
          refine jr_aload_n dX11_travellers_98 rfl rfl ?_
          refine jr_bipush (v := 59) dX11_travellers_99 (by decide) ?_
          obtain ⟨v9, h8, Hc, H⟩ := j_b2_some H
          refine jr_callV (ci := 11) [.int 59] my_X11_passes mv_X11_passes ml_RX11_156 dX11_travellers_101 rfl rfl (Nat.le_of_ble_eq_true rfl) rfl (c_X11_passes l (d + 2) F x0 59 h7 v9 h8 Hc) ?_
          refine jr_istore_n dX11_travellers_104 rfl (by decide) rfl (Or.inl rfl) ?_
          refine jr_goto (tgt := 24) dX11_travellers_105 (by decide) ?_
          exact ih _ _ _ H
        · refine jr_icmp_ne (tgt := 56) dX11_travellers_42 (by decide) H (fun H => ?_) (fun H => ?_)
          · refine jr_aload_n dX11_travellers_45 rfl rfl ?_
            refine jr_aload_n dX11_travellers_46 rfl rfl ?_
            refine jr_getI fl_RX11_138 (by decide) dX11_travellers_47 H (fun v10 H => ?_)
            obtain ⟨h11, Hc, H⟩ := Option.bind_eq_some_iff.mp H
            refine jr_callV (ci := 11) [.int v10] my_X11_fault mv_X11_fault ml_RX11_160 dX11_travellers_50 rfl rfl (Nat.le_of_ble_eq_true rfl) rfl (c_X11_fault l (d + 2) F x0 v10 h4 h11 Hc) ?_
            refine jr_goto (tgt := 95) dX11_travellers_53 (by decide) ?_
            refine jr_fgt 2 ?_
            exact hJ95 _ H
          · refine jr_aload_n dX11_travellers_56 rfl rfl ?_
            refine jr_getR fl_RX11_43 dX11_travellers_57 H (fun v12 H => ?_)
            refine jr_iconst (v := 2) dX11_travellers_60 (by decide) ?_
            refine jr_iload_n dX11_travellers_61 rfl rfl ?_
            refine jr_imul dX11_travellers_62 ?_
            refine jr_aload_n dX11_travellers_63 rfl rfl ?_
            refine jr_bipush (v := 48) dX11_travellers_64 (by decide) ?_
            refine jr_aload_n dX11_travellers_66 rfl rfl ?_
            refine jr_getI fl_RX11_13 (by decide) dX11_travellers_67 H (fun v13 H => ?_)
            obtain ⟨v15, h14, Hc, H⟩ := j_b2_some H
            refine jr_callV (ci := 11) [.int 48, .int v13] my_X11_oneOf mv_X11_oneOf ml_RX11_164 dX11_travellers_70 rfl rfl (Nat.le_of_ble_eq_true rfl) rfl (c_X11_oneOf l (d + 1) F x0 48 v13 h4 v15 h14 Hc) ?_
            refine jr_iast dX11_travellers_73 H (fun h16 H => ?_)
            refine jr_aload_n dX11_travellers_74 rfl rfl ?_
            refine jr_bipush (v := 58) dX11_travellers_75 (by decide) ?_
            obtain ⟨h17, Hc, H⟩ := Option.bind_eq_some_iff.mp H
            refine jr_callV (ci := 11) [.int 58] my_X11_need mv_X11_need ml_RX11_186 dX11_travellers_77 rfl rfl (Nat.le_of_ble_eq_true rfl) rfl (c_X11_need l (d + 1) F x0 58 h16 h17 Hc) ?_
            refine jr_aload_n dX11_travellers_80 rfl rfl ?_
            refine jr_getR fl_RX11_43 dX11_travellers_81 H (fun v18 H => ?_)
            refine jr_iconst (v := 2) dX11_travellers_84 (by decide) ?_
            refine jr_iload_n dX11_travellers_85 rfl rfl ?_
            refine jr_imul dX11_travellers_86 ?_
            refine jr_iconst (v := 1) dX11_travellers_87 (by decide) ?_
            refine jr_iadd dX11_travellers_88 ?_
            refine jr_aload_n dX11_travellers_89 rfl rfl ?_
            refine jr_iconst (v := 3) dX11_travellers_90 (by decide) ?_
            obtain ⟨v20, h19, Hc, H⟩ := j_b2_some H
            refine jr_callV (ci := 11) [.int 3] my_X11_number mv_X11_number ml_RX11_190 dX11_travellers_91 rfl rfl (Nat.le_of_ble_eq_true rfl) rfl (c_X11_number l d F x0 3 h17 v20 h19 Hc) ?_
            refine jr_iast dX11_travellers_94 H (fun h21 H => ?_)
            refine jr_fgt 2 ?_
            exact hJ95 _ H
set_option maxRecDepth 100000 in
set_option maxHeartbeats 4000000 in
theorem s_X11_travellers_L124 (l : Launch) (d : Nat) (F : Nat) (x0 : Nat) (x1 : Int32) (k196 : jH → Option (Int32 × jH)) {rR : Int32} {hf : jH} (hk196 : ∀ (h : jH), k196 h = some (rR, hf) → jGo l (d + 4) none RX11 cX11_travellers 4 (some .int) false 196 [some (.ref x0), some (.int x1), none, none] [] h (some (.int rR)) hf) : ∀ (n : Nat) (x3 : Int32) (h : jH), f_X11_travellers_L124 F x0 x1 k196 n x3 h = some (rR, hf) → jGo l (d + 4) none RX11 cX11_travellers 4 (some .int) false 124 [some (.ref x0), some (.int x1), none, some (.int x3)] [] h (some (.int rR)) hf := by
  intro n
  induction n with
  | zero =>
    intro x3 h H
    cases H
  | succ n ih =>
    intro x3 h H
    unfold f_X11_travellers_L124 at H
    refine jr_iload_n dX11_travellers_124 rfl rfl ?_
    refine jr_iload_n dX11_travellers_125 rfl rfl ?_
    refine jr_icmp_ge (tgt := 196) dX11_travellers_126 (by decide) H (fun H => ?_) (fun H => ?_)
    · refine jr_fgt 3 ?_
      exact hk196 _ H
    · refine jr_aload_n dX11_travellers_129 rfl rfl ?_
      refine jr_getR fl_RX11_9 dX11_travellers_130 H (fun v27 H => ?_)
      refine jr_aload_n dX11_travellers_133 rfl rfl ?_
      refine jr_getI fl_RX11_123 (by decide) dX11_travellers_134 H (fun v28 H => ?_)
      refine jr_aload_n dX11_travellers_137 rfl rfl ?_
      refine jr_getR fl_RX11_43 dX11_travellers_138 H (fun v29 H => ?_)
      refine jr_iconst (v := 2) dX11_travellers_141 (by decide) ?_
      refine jr_iload_n dX11_travellers_142 rfl rfl ?_
      refine jr_imul dX11_travellers_143 ?_
      refine jr_iald dX11_travellers_144 H (fun v30 H => ?_)
      refine jr_iast dX11_travellers_145 H (fun h31 H => ?_)
      refine jr_aload_n dX11_travellers_146 rfl rfl ?_
      refine jr_getR fl_RX11_9 dX11_travellers_147 H (fun v32 H => ?_)
      refine jr_iconst (v := 4) dX11_travellers_150 (by decide) ?_
      refine jr_aload_n dX11_travellers_151 rfl rfl ?_
      refine jr_getI fl_RX11_123 (by decide) dX11_travellers_152 H (fun v33 H => ?_)
      refine jr_iadd dX11_travellers_155 ?_
      refine jr_aload_n dX11_travellers_156 rfl rfl ?_
      refine jr_getR fl_RX11_43 dX11_travellers_157 H (fun v34 H => ?_)
      refine jr_iconst (v := 2) dX11_travellers_160 (by decide) ?_
      refine jr_iload_n dX11_travellers_161 rfl rfl ?_
      refine jr_imul dX11_travellers_162 ?_
      refine jr_iconst (v := 1) dX11_travellers_163 (by decide) ?_
      refine jr_iadd dX11_travellers_164 ?_
      refine jr_iald dX11_travellers_165 H (fun v35 H => ?_)
      refine jr_iast dX11_travellers_166 H (fun h36 H => ?_)
      refine jr_aload_n dX11_travellers_167 rfl rfl ?_
      refine jr_getR fl_RX11_9 dX11_travellers_168 H (fun v37 H => ?_)
      refine jr_bipush (v := 8) dX11_travellers_171 (by decide) ?_
      refine jr_aload_n dX11_travellers_173 rfl rfl ?_
      refine jr_getI fl_RX11_123 (by decide) dX11_travellers_174 H (fun v38 H => ?_)
      refine jr_iadd dX11_travellers_177 ?_
      refine jr_iconst (v := 0) dX11_travellers_178 (by decide) ?_
      refine jr_iast dX11_travellers_179 H (fun h39 H => ?_)
      refine jr_aload_n dX11_travellers_180 rfl rfl ?_
      refine jr_dup dX11_travellers_181 rfl ?_
      refine jr_getI fl_RX11_123 (by decide) dX11_travellers_182 H (fun v40 H => ?_)
      refine jr_iconst (v := 1) dX11_travellers_185 (by decide) ?_
      refine jr_iadd dX11_travellers_186 ?_
      refine jr_putI fl_RX11_123 (fun z => by cases z) dX11_travellers_187 H (fun h41 H => ?_)
      refine jr_iinc (v := (x3 + 1)) dX11_travellers_190 rfl rfl (by decide) rfl (Or.inl rfl) ?_
      refine jr_goto (tgt := 124) dX11_travellers_193 (by decide) ?_
      exact ih _ _ H
set_option maxRecDepth 100000 in
set_option maxHeartbeats 4000000 in
theorem c_X11_travellers (l : Launch) (d : Nat) (F : Nat) (a0 : Nat) (h : jH) (rR : Int32) (hf : jH) (H : f_X11_travellers F a0 h = some (rR, hf)) : jh_sh h a0 = (11, 0) ∧ jMet l (d + 4) yX11_travellers cX11_travellers 4 (some .int) [.ref a0] h (some (.int rR)) hf := by
  unfold f_X11_travellers at H
  obtain ⟨hsh, H⟩ := j_gd_some H
  refine ⟨hsh, ?_⟩
  refine jMet.of false [some (.ref a0), none, none, none] rfl (by decide) (by decide) (Nat.le_of_ble_eq_true rfl) (fun S0 q hq => by simpa [j_l, lv_args, j_v, Value.category] using hq) ?_
  refine jr_aload_n dX11_travellers_0 rfl rfl ?_
  refine jr_iconst (v := 0) dX11_travellers_1 (by decide) ?_
  refine jr_putI fl_RX11_110 (fun z => by cases z) dX11_travellers_2 H (fun h1 H => ?_)
  refine jr_aload_n dX11_travellers_5 rfl rfl ?_
  refine jr_bipush (v := 40) dX11_travellers_6 (by decide) ?_
  obtain ⟨h2, Hc, H⟩ := Option.bind_eq_some_iff.mp H
  refine jr_callV (ci := 11) [.int 40] my_X11_beginText mv_X11_beginText ml_RX11_177 dX11_travellers_8 rfl rfl (Nat.le_of_ble_eq_true rfl) rfl (c_X11_beginText l (d + 2) F a0 40 h1 h2 Hc) ?_
  refine jr_aload_n dX11_travellers_11 rfl rfl ?_
  refine jr_getI fl_RX11_132 (by decide) dX11_travellers_12 H (fun v3 H => ?_)
  refine jr_if_ne (tgt := 20) dX11_travellers_15 (by decide) H (fun H => ?_) (fun H => ?_)
  · refine jr_iconst (v := 0) dX11_travellers_18 (by decide) ?_
    exact jr_iret rfl dX11_travellers_19 H
  · refine jr_iconst (v := 0) dX11_travellers_20 (by decide) ?_
    refine jr_istore_n dX11_travellers_21 rfl (by decide) rfl (Or.inl rfl) ?_
    refine jr_iconst (v := 1) dX11_travellers_22 (by decide) ?_
    refine jr_istore_n dX11_travellers_23 rfl (by decide) rfl (Or.inl rfl) ?_
    refine s_X11_travellers_L24 l d F a0 _ (fun y22 h23 H => ?_) F 0 1 h2 H
    · refine jr_aload_n dX11_travellers_108 rfl rfl ?_
      obtain ⟨v25, h24, Hc, H⟩ := j_b2_some H
      refine jr_callV (ci := 11) [] my_X11_wasRight mv_X11_wasRight ml_RX11_183 dX11_travellers_109 rfl rfl (Nat.le_of_ble_eq_true rfl) rfl (c_X11_wasRight l (d + 1) F a0 h23 v25 h24 Hc) ?_
      refine jr_if_ne (tgt := 122) dX11_travellers_112 (by decide) H (fun H => ?_) (fun H => ?_)
      · refine jr_iconst (v := (-1)) dX11_travellers_115 (by decide) ?_
        refine jr_aload_n dX11_travellers_116 rfl rfl ?_
        refine jr_getI fl_RX11_141 (by decide) dX11_travellers_117 H (fun v26 H => ?_)
        refine jr_isub dX11_travellers_120 ?_
        exact jr_iret rfl dX11_travellers_121 H
      · refine jr_iconst (v := 0) dX11_travellers_122 (by decide) ?_
        refine jr_istore_n dX11_travellers_123 rfl (by decide) rfl (Or.inl rfl) ?_
        refine s_X11_travellers_L124 l d F a0 y22 _ (fun h42 H => ?_) F 0 h24 H
        · refine jr_aload_n dX11_travellers_196 rfl rfl ?_
          refine jr_iconst (v := 0) dX11_travellers_197 (by decide) ?_
          refine jr_putI fl_RX11_171 (fun z => by cases z) dX11_travellers_198 H (fun h43 H => ?_)
          refine jr_aload_n dX11_travellers_201 rfl rfl ?_
          refine jr_dup dX11_travellers_202 rfl ?_
          refine jr_getI fl_RX11_174 (by decide) dX11_travellers_203 H (fun v44 H => ?_)
          refine jr_iconst (v := 1) dX11_travellers_206 (by decide) ?_
          refine jr_iadd dX11_travellers_207 ?_
          refine jr_putI fl_RX11_174 (fun z => by cases z) dX11_travellers_208 H (fun h45 H => ?_)
          refine jr_iload_n dX11_travellers_211 rfl rfl ?_
          exact jr_iret rfl dX11_travellers_212 H
set_option maxRecDepth 100000 in
set_option maxHeartbeats 4000000 in
theorem s_X11_errands_L24 (l : Launch) (d : Nat) (F : Nat) (x0 : Nat) (k147 : Int32 → jH → Option (Int32 × jH)) {rR : Int32} {hf : jH} (hk147 : ∀ (y1 : Int32) (h : jH), k147 y1 h = some (rR, hf) → jGo l (d + 4) none RX11 cX11_errands 4 (some .int) false 147 [some (.ref x0), some (.int y1), none, none] [] h (some (.int rR)) hf) : ∀ (n : Nat) (x1 : Int32) (x2 : Int32) (h : jH), f_X11_errands_L24 F x0 k147 n x1 x2 h = some (rR, hf) → jGo l (d + 4) none RX11 cX11_errands 4 (some .int) false 24 [some (.ref x0), some (.int x1), some (.int x2), none] [] h (some (.int rR)) hf := by
  intro n
  induction n with
  | zero =>
    intro x1 x2 h H
    cases H
  | succ n ih =>
    intro x1 x2 h H
    unfold f_X11_errands_L24 at H
    refine jr_iload_n dX11_errands_24 rfl rfl ?_
    refine jr_if_eq (tgt := 147) dX11_errands_25 (by decide) H (fun H => ?_) (fun H => ?_)
    · refine jr_fgt 2 ?_
      exact hk147 _ _ H
    · refine jr_aload_n dX11_errands_28 rfl rfl ?_
      obtain ⟨v5, h4, Hc, H⟩ := j_b2_some H
      refine jr_callV (ci := 11) [] my_X11_fine mv_X11_fine ml_RX11_148 dX11_errands_29 rfl rfl (Nat.le_of_ble_eq_true rfl) rfl (c_X11_fine l (d + 3) F x0 h v5 h4 Hc) ?_
      refine jr_if_eq (tgt := 147) dX11_errands_32 (by decide) H (fun H => ?_) (fun H => ?_)
      · refine jr_fgt 2 ?_
        exact hk147 _ _ H
      · refine jr_aload_n dX11_errands_35 rfl rfl ?_
        refine jr_getI fl_RX11_168 (by decide) dX11_errands_36 H (fun v6 H => ?_)
        refine jr_iload_n dX11_errands_39 rfl rfl ?_
        refine jr_iadd dX11_errands_40 ?_
        refine jr_bipush (v := 8) dX11_errands_41 (by decide) ?_
        refine jr_jn (fun J => ∀ (h7 : jH), J h7 = some (rR, hf) → jGo l (d + 4) none RX11 cX11_errands 4 (some .int) false 134 [some (.ref x0), some (.int x1), none, none] [] h7 (some (.int rR)) hf) H (fun h7 H => ?_) (fun J134 hJ134 H => ?_)
        · refine jr_iinc (v := (x1 + 1)) dX11_errands_134 rfl rfl (by decide) rfl (Or.inl rfl) ?_
          refine jr_aload_n dX11_errands_137 rfl rfl ?_
          refine jr_bipush (v := 59) dX11_errands_138 (by decide) ?_
          obtain ⟨v9, h8, Hc, H⟩ := j_b2_some H
          refine jr_callV (ci := 11) [.int 59] my_X11_passes mv_X11_passes ml_RX11_156 dX11_errands_140 rfl rfl (Nat.le_of_ble_eq_true rfl) rfl (c_X11_passes l (d + 2) F x0 59 h7 v9 h8 Hc) ?_
          refine jr_istore_n dX11_errands_143 rfl (by decide) rfl (Or.inl rfl) ?_
          refine jr_goto (tgt := 24) dX11_errands_144 (by decide) ?_
          exact ih _ _ _ H
        · refine jr_icmp_ne (tgt := 57) dX11_errands_43 (by decide) H (fun H => ?_) (fun H => ?_)
          · refine jr_aload_n dX11_errands_46 rfl rfl ?_
            refine jr_aload_n dX11_errands_47 rfl rfl ?_
            refine jr_getI fl_RX11_138 (by decide) dX11_errands_48 H (fun v10 H => ?_)
            obtain ⟨h11, Hc, H⟩ := Option.bind_eq_some_iff.mp H
            refine jr_callV (ci := 11) [.int v10] my_X11_fault mv_X11_fault ml_RX11_160 dX11_errands_51 rfl rfl (Nat.le_of_ble_eq_true rfl) rfl (c_X11_fault l (d + 2) F x0 v10 h4 h11 Hc) ?_
            refine jr_goto (tgt := 134) dX11_errands_54 (by decide) ?_
            refine jr_fgt 2 ?_
            exact hJ134 _ H
          · refine jr_aload_n dX11_errands_57 rfl rfl ?_
            refine jr_getR fl_RX11_43 dX11_errands_58 H (fun v12 H => ?_)
            refine jr_iconst (v := 4) dX11_errands_61 (by decide) ?_
            refine jr_iload_n dX11_errands_62 rfl rfl ?_
            refine jr_imul dX11_errands_63 ?_
            refine jr_aload_n dX11_errands_64 rfl rfl ?_
            refine jr_bipush (v := 97) dX11_errands_65 (by decide) ?_
            refine jr_aload_n dX11_errands_67 rfl rfl ?_
            refine jr_getI fl_RX11_123 (by decide) dX11_errands_68 H (fun v13 H => ?_)
            obtain ⟨v15, h14, Hc, H⟩ := j_b2_some H
            refine jr_callV (ci := 11) [.int 97, .int v13] my_X11_oneOf mv_X11_oneOf ml_RX11_164 dX11_errands_71 rfl rfl (Nat.le_of_ble_eq_true rfl) rfl (c_X11_oneOf l (d + 1) F x0 97 v13 h4 v15 h14 Hc) ?_
            refine jr_iast dX11_errands_74 H (fun h16 H => ?_)
            refine jr_aload_n dX11_errands_75 rfl rfl ?_
            refine jr_getR fl_RX11_43 dX11_errands_76 H (fun v17 H => ?_)
            refine jr_iconst (v := 4) dX11_errands_79 (by decide) ?_
            refine jr_iload_n dX11_errands_80 rfl rfl ?_
            refine jr_imul dX11_errands_81 ?_
            refine jr_iconst (v := 1) dX11_errands_82 (by decide) ?_
            refine jr_iadd dX11_errands_83 ?_
            refine jr_aload_n dX11_errands_84 rfl rfl ?_
            refine jr_bipush (v := 48) dX11_errands_85 (by decide) ?_
            refine jr_bipush (v := 10) dX11_errands_87 (by decide) ?_
            obtain ⟨v19, h18, Hc, H⟩ := j_b2_some H
            refine jr_callV (ci := 11) [.int 48, .int 10] my_X11_oneOf mv_X11_oneOf ml_RX11_164 dX11_errands_89 rfl rfl (Nat.le_of_ble_eq_true rfl) rfl (c_X11_oneOf l (d + 1) F x0 48 10 h16 v19 h18 Hc) ?_
            refine jr_iast dX11_errands_92 H (fun h20 H => ?_)
            refine jr_aload_n dX11_errands_93 rfl rfl ?_
            refine jr_getR fl_RX11_43 dX11_errands_94 H (fun v21 H => ?_)
            refine jr_iconst (v := 4) dX11_errands_97 (by decide) ?_
            refine jr_iload_n dX11_errands_98 rfl rfl ?_
            refine jr_imul dX11_errands_99 ?_
            refine jr_iconst (v := 2) dX11_errands_100 (by decide) ?_
            refine jr_iadd dX11_errands_101 ?_
            refine jr_aload_n dX11_errands_102 rfl rfl ?_
            refine jr_bipush (v := 48) dX11_errands_103 (by decide) ?_
            refine jr_aload_n dX11_errands_105 rfl rfl ?_
            refine jr_getI fl_RX11_13 (by decide) dX11_errands_106 H (fun v22 H => ?_)
            obtain ⟨v24, h23, Hc, H⟩ := j_b2_some H
            refine jr_callV (ci := 11) [.int 48, .int v22] my_X11_oneOf mv_X11_oneOf ml_RX11_164 dX11_errands_109 rfl rfl (Nat.le_of_ble_eq_true rfl) rfl (c_X11_oneOf l (d + 1) F x0 48 v22 h20 v24 h23 Hc) ?_
            refine jr_iast dX11_errands_112 H (fun h25 H => ?_)
            refine jr_aload_n dX11_errands_113 rfl rfl ?_
            refine jr_bipush (v := 61) dX11_errands_114 (by decide) ?_
            obtain ⟨h26, Hc, H⟩ := Option.bind_eq_some_iff.mp H
            refine jr_callV (ci := 11) [.int 61] my_X11_need mv_X11_need ml_RX11_186 dX11_errands_116 rfl rfl (Nat.le_of_ble_eq_true rfl) rfl (c_X11_need l (d + 1) F x0 61 h25 h26 Hc) ?_
            refine jr_aload_n dX11_errands_119 rfl rfl ?_
            refine jr_getR fl_RX11_43 dX11_errands_120 H (fun v27 H => ?_)
            refine jr_iconst (v := 4) dX11_errands_123 (by decide) ?_
            refine jr_iload_n dX11_errands_124 rfl rfl ?_
            refine jr_imul dX11_errands_125 ?_
            refine jr_iconst (v := 3) dX11_errands_126 (by decide) ?_
            refine jr_iadd dX11_errands_127 ?_
            refine jr_aload_n dX11_errands_128 rfl rfl ?_
            refine jr_iconst (v := 2) dX11_errands_129 (by decide) ?_
            obtain ⟨v29, h28, Hc, H⟩ := j_b2_some H
            refine jr_callV (ci := 11) [.int 2] my_X11_number mv_X11_number ml_RX11_190 dX11_errands_130 rfl rfl (Nat.le_of_ble_eq_true rfl) rfl (c_X11_number l d F x0 2 h26 v29 h28 Hc) ?_
            refine jr_iast dX11_errands_133 H (fun h30 H => ?_)
            refine jr_fgt 2 ?_
            exact hJ134 _ H
set_option maxRecDepth 100000 in
set_option maxHeartbeats 4000000 in
theorem s_X11_errands_L163 (l : Launch) (d : Nat) (F : Nat) (x0 : Nat) (x1 : Int32) (k195 : jH → Option (Int32 × jH)) {rR : Int32} {hf : jH} (hk195 : ∀ (h : jH), k195 h = some (rR, hf) → jGo l (d + 4) none RX11 cX11_errands 4 (some .int) false 195 [some (.ref x0), some (.int x1), none, none] [] h (some (.int rR)) hf) : ∀ (n : Nat) (x3 : Int32) (h : jH), f_X11_errands_L163 F x0 x1 k195 n x3 h = some (rR, hf) → jGo l (d + 4) none RX11 cX11_errands 4 (some .int) false 163 [some (.ref x0), some (.int x1), none, some (.int x3)] [] h (some (.int rR)) hf := by
  intro n
  induction n with
  | zero =>
    intro x3 h H
    cases H
  | succ n ih =>
    intro x3 h H
    unfold f_X11_errands_L163 at H
    refine jr_iload_n dX11_errands_163 rfl rfl ?_
    refine jr_iconst (v := 4) dX11_errands_164 (by decide) ?_
    refine jr_iload_n dX11_errands_165 rfl rfl ?_
    refine jr_imul dX11_errands_166 ?_
    refine jr_icmp_ge (tgt := 195) dX11_errands_167 (by decide) H (fun H => ?_) (fun H => ?_)
    · refine jr_fgt 3 ?_
      exact hk195 _ H
    · refine jr_aload_n dX11_errands_170 rfl rfl ?_
      refine jr_getR fl_RX11_27 dX11_errands_171 H (fun v36 H => ?_)
      refine jr_iconst (v := 4) dX11_errands_174 (by decide) ?_
      refine jr_aload_n dX11_errands_175 rfl rfl ?_
      refine jr_getI fl_RX11_168 (by decide) dX11_errands_176 H (fun v37 H => ?_)
      refine jr_imul dX11_errands_179 ?_
      refine jr_iload_n dX11_errands_180 rfl rfl ?_
      refine jr_iadd dX11_errands_181 ?_
      refine jr_aload_n dX11_errands_182 rfl rfl ?_
      refine jr_getR fl_RX11_43 dX11_errands_183 H (fun v38 H => ?_)
      refine jr_iload_n dX11_errands_186 rfl rfl ?_
      refine jr_iald dX11_errands_187 H (fun v39 H => ?_)
      refine jr_iast dX11_errands_188 H (fun h40 H => ?_)
      refine jr_iinc (v := (x3 + 1)) dX11_errands_189 rfl rfl (by decide) rfl (Or.inl rfl) ?_
      refine jr_goto (tgt := 163) dX11_errands_192 (by decide) ?_
      exact ih _ _ H
set_option maxRecDepth 100000 in
set_option maxHeartbeats 4000000 in
theorem c_X11_errands (l : Launch) (d : Nat) (F : Nat) (a0 : Nat) (h : jH) (rR : Int32) (hf : jH) (H : f_X11_errands F a0 h = some (rR, hf)) : jh_sh h a0 = (11, 0) ∧ jMet l (d + 4) yX11_errands cX11_errands 4 (some .int) [.ref a0] h (some (.int rR)) hf := by
  unfold f_X11_errands at H
  obtain ⟨hsh, H⟩ := j_gd_some H
  refine ⟨hsh, ?_⟩
  refine jMet.of false [some (.ref a0), none, none, none] rfl (by decide) (by decide) (Nat.le_of_ble_eq_true rfl) (fun S0 q hq => by simpa [j_l, lv_args, j_v, Value.category] using hq) ?_
  refine jr_aload_n dX11_errands_0 rfl rfl ?_
  refine jr_iconst (v := 0) dX11_errands_1 (by decide) ?_
  refine jr_putI fl_RX11_110 (fun z => by cases z) dX11_errands_2 H (fun h1 H => ?_)
  refine jr_aload_n dX11_errands_5 rfl rfl ?_
  refine jr_bipush (v := 76) dX11_errands_6 (by decide) ?_
  obtain ⟨h2, Hc, H⟩ := Option.bind_eq_some_iff.mp H
  refine jr_callV (ci := 11) [.int 76] my_X11_beginText mv_X11_beginText ml_RX11_177 dX11_errands_8 rfl rfl (Nat.le_of_ble_eq_true rfl) rfl (c_X11_beginText l (d + 2) F a0 76 h1 h2 Hc) ?_
  refine jr_aload_n dX11_errands_11 rfl rfl ?_
  refine jr_getI fl_RX11_132 (by decide) dX11_errands_12 H (fun v3 H => ?_)
  refine jr_if_ne (tgt := 20) dX11_errands_15 (by decide) H (fun H => ?_) (fun H => ?_)
  · refine jr_iconst (v := 0) dX11_errands_18 (by decide) ?_
    exact jr_iret rfl dX11_errands_19 H
  · refine jr_iconst (v := 0) dX11_errands_20 (by decide) ?_
    refine jr_istore_n dX11_errands_21 rfl (by decide) rfl (Or.inl rfl) ?_
    refine jr_iconst (v := 1) dX11_errands_22 (by decide) ?_
    refine jr_istore_n dX11_errands_23 rfl (by decide) rfl (Or.inl rfl) ?_
    refine s_X11_errands_L24 l d F a0 _ (fun y31 h32 H => ?_) F 0 1 h2 H
    · refine jr_aload_n dX11_errands_147 rfl rfl ?_
      obtain ⟨v34, h33, Hc, H⟩ := j_b2_some H
      refine jr_callV (ci := 11) [] my_X11_wasRight mv_X11_wasRight ml_RX11_183 dX11_errands_148 rfl rfl (Nat.le_of_ble_eq_true rfl) rfl (c_X11_wasRight l (d + 1) F a0 h32 v34 h33 Hc) ?_
      refine jr_if_ne (tgt := 161) dX11_errands_151 (by decide) H (fun H => ?_) (fun H => ?_)
      · refine jr_iconst (v := (-1)) dX11_errands_154 (by decide) ?_
        refine jr_aload_n dX11_errands_155 rfl rfl ?_
        refine jr_getI fl_RX11_141 (by decide) dX11_errands_156 H (fun v35 H => ?_)
        refine jr_isub dX11_errands_159 ?_
        exact jr_iret rfl dX11_errands_160 H
      · refine jr_iconst (v := 0) dX11_errands_161 (by decide) ?_
        refine jr_istore_n dX11_errands_162 rfl (by decide) rfl (Or.inl rfl) ?_
        refine s_X11_errands_L163 l d F a0 y31 _ (fun h41 H => ?_) F 0 h33 H
        · refine jr_aload_n dX11_errands_195 rfl rfl ?_
          refine jr_dup dX11_errands_196 rfl ?_
          refine jr_getI fl_RX11_168 (by decide) dX11_errands_197 H (fun v42 H => ?_)
          refine jr_iload_n dX11_errands_200 rfl rfl ?_
          refine jr_iadd dX11_errands_201 ?_
          refine jr_putI fl_RX11_168 (fun z => by cases z) dX11_errands_202 H (fun h43 H => ?_)
          refine jr_aload_n dX11_errands_205 rfl rfl ?_
          refine jr_iconst (v := 0) dX11_errands_206 (by decide) ?_
          refine jr_putI fl_RX11_171 (fun z => by cases z) dX11_errands_207 H (fun h44 H => ?_)
          refine jr_aload_n dX11_errands_210 rfl rfl ?_
          refine jr_dup dX11_errands_211 rfl ?_
          refine jr_getI fl_RX11_174 (by decide) dX11_errands_212 H (fun v45 H => ?_)
          refine jr_iconst (v := 1) dX11_errands_215 (by decide) ?_
          refine jr_iadd dX11_errands_216 ?_
          refine jr_putI fl_RX11_174 (fun z => by cases z) dX11_errands_217 H (fun h46 H => ?_)
          refine jr_iload_n dX11_errands_220 rfl rfl ?_
          exact jr_iret rfl dX11_errands_221 H
set_option maxRecDepth 100000 in
set_option maxHeartbeats 4000000 in
theorem c_X11_letterOf (l : Launch) (d : Nat) (F : Nat) (a0 : Int32) (h : jH) (rR : Int32) (hf : jH) (H : f_X11_letterOf F a0 h = some (rR, hf)) : jMet l (d + 0) yX11_letterOf cX11_letterOf 1 (some .int) [.int a0] h (some (.int rR)) hf := by
  unfold f_X11_letterOf at H
  refine jMet.of false [some (.int a0)] rfl (by decide) (by decide) (Nat.le_of_ble_eq_true rfl) (fun S0 q hq => by simpa [j_l, lv_args, j_v, Value.category] using hq) ?_
  refine jr_iload_n dX11_letterOf_0 rfl rfl ?_
  refine jr_bipush (v := 118) dX11_letterOf_1 (by decide) ?_
  refine jr_icmp_ne (tgt := 10) dX11_letterOf_3 (by decide) H (fun H => ?_) (fun H => ?_)
  · refine jr_iconst (v := 0) dX11_letterOf_6 (by decide) ?_
    refine jr_goto (tgt := 72) dX11_letterOf_7 (by decide) ?_
    exact jr_iret rfl dX11_letterOf_72 H
  · refine jr_iload_n dX11_letterOf_10 rfl rfl ?_
    refine jr_bipush (v := 115) dX11_letterOf_11 (by decide) ?_
    refine jr_icmp_ne (tgt := 20) dX11_letterOf_13 (by decide) H (fun H => ?_) (fun H => ?_)
    · refine jr_iconst (v := 1) dX11_letterOf_16 (by decide) ?_
      refine jr_goto (tgt := 72) dX11_letterOf_17 (by decide) ?_
      exact jr_iret rfl dX11_letterOf_72 H
    · refine jr_iload_n dX11_letterOf_20 rfl rfl ?_
      refine jr_bipush (v := 104) dX11_letterOf_21 (by decide) ?_
      refine jr_icmp_ne (tgt := 30) dX11_letterOf_23 (by decide) H (fun H => ?_) (fun H => ?_)
      · refine jr_iconst (v := 2) dX11_letterOf_26 (by decide) ?_
        refine jr_goto (tgt := 72) dX11_letterOf_27 (by decide) ?_
        exact jr_iret rfl dX11_letterOf_72 H
      · refine jr_iload_n dX11_letterOf_30 rfl rfl ?_
        refine jr_bipush (v := 108) dX11_letterOf_31 (by decide) ?_
        refine jr_icmp_ne (tgt := 40) dX11_letterOf_33 (by decide) H (fun H => ?_) (fun H => ?_)
        · refine jr_iconst (v := 3) dX11_letterOf_36 (by decide) ?_
          refine jr_goto (tgt := 72) dX11_letterOf_37 (by decide) ?_
          exact jr_iret rfl dX11_letterOf_72 H
        · refine jr_iload_n dX11_letterOf_40 rfl rfl ?_
          refine jr_bipush (v := 112) dX11_letterOf_41 (by decide) ?_
          refine jr_icmp_ne (tgt := 50) dX11_letterOf_43 (by decide) H (fun H => ?_) (fun H => ?_)
          · refine jr_iconst (v := 4) dX11_letterOf_46 (by decide) ?_
            refine jr_goto (tgt := 72) dX11_letterOf_47 (by decide) ?_
            exact jr_iret rfl dX11_letterOf_72 H
          · refine jr_iload_n dX11_letterOf_50 rfl rfl ?_
            refine jr_bipush (v := 110) dX11_letterOf_51 (by decide) ?_
            refine jr_icmp_ne (tgt := 60) dX11_letterOf_53 (by decide) H (fun H => ?_) (fun H => ?_)
            · refine jr_iconst (v := 5) dX11_letterOf_56 (by decide) ?_
              refine jr_goto (tgt := 72) dX11_letterOf_57 (by decide) ?_
              exact jr_iret rfl dX11_letterOf_72 H
            · refine jr_iload_n dX11_letterOf_60 rfl rfl ?_
              refine jr_bipush (v := 100) dX11_letterOf_61 (by decide) ?_
              refine jr_icmp_ne (tgt := 71) dX11_letterOf_63 (by decide) H (fun H => ?_) (fun H => ?_)
              · refine jr_bipush (v := 6) dX11_letterOf_66 (by decide) ?_
                refine jr_goto (tgt := 72) dX11_letterOf_68 (by decide) ?_
                exact jr_iret rfl dX11_letterOf_72 H
              · refine jr_iconst (v := (-1)) dX11_letterOf_71 (by decide) ?_
                exact jr_iret rfl dX11_letterOf_72 H
set_option maxRecDepth 100000 in
set_option maxHeartbeats 4000000 in
theorem c_b_X11_held (l : Launch) (d : Nat) (F : Nat) (rec : Nat → Nat → Int32 → jH → Option (Int32 × jH)) (hrec : (∀ (a0 : Nat) (a1 : Int32) (h : jH) (rv : Int32) (hv : jH), rec 0 a0 a1 h = some (rv, hv) → jh_sh h a0 = (11, 0) ∧ jMet l (d + 3) yX11_held cX11_held 3 (some .int) [.ref a0, .int a1] h (some (.int rv)) hv) ∧ (∀ (a0 : Nat) (a1 : Int32) (h : jH) (rv : Int32) (hv : jH), rec 1 a0 a1 h = some (rv, hv) → jh_sh h a0 = (11, 0) ∧ jMet l (d + 3) yX11_sum cX11_sum 5 (some .int) [.ref a0, .int a1] h (some (.int rv)) hv) ∧ (∀ (a0 : Nat) (a1 : Int32) (h : jH) (rv : Int32) (hv : jH), rec 2 a0 a1 h = some (rv, hv) → jh_sh h a0 = (11, 0) ∧ jMet l (d + 3) yX11_product cX11_product 5 (some .int) [.ref a0, .int a1] h (some (.int rv)) hv) ∧ (∀ (a0 : Nat) (a1 : Int32) (h : jH) (rv : Int32) (hv : jH), rec 3 a0 a1 h = some (rv, hv) → jh_sh h a0 = (11, 0) ∧ jMet l (d + 3) yX11_thing cX11_thing 4 (some .int) [.ref a0, .int a1] h (some (.int rv)) hv)) (a0 : Nat) (a1 : Int32) (h : jH) (rR : Int32) (hf : jH) (H : b_X11_held F rec a0 a1 h = some (rR, hf)) : jh_sh h a0 = (11, 0) ∧ jMet l (d + 4) yX11_held cX11_held 3 (some .int) [.ref a0, .int a1] h (some (.int rR)) hf := by
  unfold b_X11_held at H
  obtain ⟨hsh, H⟩ := j_gd_some H
  refine ⟨hsh, ?_⟩
  refine jMet.of false [some (.ref a0), some (.int a1), none] rfl (by decide) (by decide) (Nat.le_of_ble_eq_true rfl) (fun S0 q hq => by simpa [j_l, lv_args, j_v, Value.category] using hq) ?_
  refine jr_aload_n dX11_held_0 rfl rfl ?_
  refine jr_iload_n dX11_held_1 rfl rfl ?_
  obtain ⟨v2, h1, Hc, H⟩ := j_b2_some H
  refine jr_callV (ci := 11) [.int a1] my_X11_sum mv_X11_sum ml_RX11_194 dX11_held_2 rfl rfl (Nat.le_of_ble_eq_true rfl) rfl (hrec.2.1 a0 a1 h v2 h1 Hc) ?_
  refine jr_istore_n dX11_held_5 rfl (by decide) rfl (Or.inl rfl) ?_
  refine jr_aload_n dX11_held_6 rfl rfl ?_
  refine jr_bipush (v := 60) dX11_held_7 (by decide) ?_
  obtain ⟨v4, h3, Hc, H⟩ := j_b2_some H
  refine jr_callV (ci := 11) [.int 60] my_X11_passes mv_X11_passes ml_RX11_156 dX11_held_9 rfl rfl (Nat.le_of_ble_eq_true rfl) rfl (c_X11_passes l (d + 2) F a0 60 h1 v4 h3 Hc) ?_
  refine jr_if_eq (tgt := 30) dX11_held_12 (by decide) H (fun H => ?_) (fun H => ?_)
  · refine jr_aload_n dX11_held_30 rfl rfl ?_
    refine jr_bipush (v := 62) dX11_held_31 (by decide) ?_
    obtain ⟨v6, h5, Hc, H⟩ := j_b2_some H
    refine jr_callV (ci := 11) [.int 62] my_X11_passes mv_X11_passes ml_RX11_156 dX11_held_33 rfl rfl (Nat.le_of_ble_eq_true rfl) rfl (c_X11_passes l (d + 2) F a0 62 h3 v6 h5 Hc) ?_
    refine jr_if_eq (tgt := 54) dX11_held_36 (by decide) H (fun H => ?_) (fun H => ?_)
    · refine jr_aload_n dX11_held_54 rfl rfl ?_
      refine jr_bipush (v := 61) dX11_held_55 (by decide) ?_
      obtain ⟨v8, h7, Hc, H⟩ := j_b2_some H
      refine jr_callV (ci := 11) [.int 61] my_X11_passes mv_X11_passes ml_RX11_156 dX11_held_57 rfl rfl (Nat.le_of_ble_eq_true rfl) rfl (c_X11_passes l (d + 2) F a0 61 h5 v8 h7 Hc) ?_
      refine jr_if_eq (tgt := 78) dX11_held_60 (by decide) H (fun H => ?_) (fun H => ?_)
      · refine jr_iload_n dX11_held_78 rfl rfl ?_
        exact jr_iret rfl dX11_held_79 H
      · refine jr_iload_n dX11_held_63 rfl rfl ?_
        refine jr_aload_n dX11_held_64 rfl rfl ?_
        refine jr_iload_n dX11_held_65 rfl rfl ?_
        obtain ⟨v10, h9, Hc, H⟩ := j_b2_some H
        refine jr_callV (ci := 11) [.int a1] my_X11_sum mv_X11_sum ml_RX11_194 dX11_held_66 rfl rfl (Nat.le_of_ble_eq_true rfl) rfl (hrec.2.1 a0 a1 h7 v10 h9 Hc) ?_
        refine jr_icmp_ne (tgt := 76) dX11_held_69 (by decide) H (fun H => ?_) (fun H => ?_)
        · refine jr_iconst (v := 1) dX11_held_72 (by decide) ?_
          refine jr_goto (tgt := 77) dX11_held_73 (by decide) ?_
          exact jr_iret rfl dX11_held_77 H
        · refine jr_iconst (v := 0) dX11_held_76 (by decide) ?_
          exact jr_iret rfl dX11_held_77 H
    · refine jr_iload_n dX11_held_39 rfl rfl ?_
      refine jr_aload_n dX11_held_40 rfl rfl ?_
      refine jr_iload_n dX11_held_41 rfl rfl ?_
      obtain ⟨v12, h11, Hc, H⟩ := j_b2_some H
      refine jr_callV (ci := 11) [.int a1] my_X11_sum mv_X11_sum ml_RX11_194 dX11_held_42 rfl rfl (Nat.le_of_ble_eq_true rfl) rfl (hrec.2.1 a0 a1 h5 v12 h11 Hc) ?_
      refine jr_icmp_le (tgt := 52) dX11_held_45 (by decide) H (fun H => ?_) (fun H => ?_)
      · refine jr_iconst (v := 0) dX11_held_52 (by decide) ?_
        exact jr_iret rfl dX11_held_53 H
      · refine jr_iconst (v := 1) dX11_held_48 (by decide) ?_
        refine jr_goto (tgt := 53) dX11_held_49 (by decide) ?_
        exact jr_iret rfl dX11_held_53 H
  · refine jr_iload_n dX11_held_15 rfl rfl ?_
    refine jr_aload_n dX11_held_16 rfl rfl ?_
    refine jr_iload_n dX11_held_17 rfl rfl ?_
    obtain ⟨v14, h13, Hc, H⟩ := j_b2_some H
    refine jr_callV (ci := 11) [.int a1] my_X11_sum mv_X11_sum ml_RX11_194 dX11_held_18 rfl rfl (Nat.le_of_ble_eq_true rfl) rfl (hrec.2.1 a0 a1 h3 v14 h13 Hc) ?_
    refine jr_icmp_ge (tgt := 28) dX11_held_21 (by decide) H (fun H => ?_) (fun H => ?_)
    · refine jr_iconst (v := 0) dX11_held_28 (by decide) ?_
      exact jr_iret rfl dX11_held_29 H
    · refine jr_iconst (v := 1) dX11_held_24 (by decide) ?_
      refine jr_goto (tgt := 29) dX11_held_25 (by decide) ?_
      exact jr_iret rfl dX11_held_29 H
set_option maxRecDepth 100000 in
set_option maxHeartbeats 4000000 in
theorem s_X11_sum_L6 (l : Launch) (d : Nat) (F : Nat) (rec : Nat → Nat → Int32 → jH → Option (Int32 × jH)) (x0 : Nat) (x1 : Int32) (hrec : (∀ (a0 : Nat) (a1 : Int32) (h : jH) (rv : Int32) (hv : jH), rec 0 a0 a1 h = some (rv, hv) → jh_sh h a0 = (11, 0) ∧ jMet l (d + 3) yX11_held cX11_held 3 (some .int) [.ref a0, .int a1] h (some (.int rv)) hv) ∧ (∀ (a0 : Nat) (a1 : Int32) (h : jH) (rv : Int32) (hv : jH), rec 1 a0 a1 h = some (rv, hv) → jh_sh h a0 = (11, 0) ∧ jMet l (d + 3) yX11_sum cX11_sum 5 (some .int) [.ref a0, .int a1] h (some (.int rv)) hv) ∧ (∀ (a0 : Nat) (a1 : Int32) (h : jH) (rv : Int32) (hv : jH), rec 2 a0 a1 h = some (rv, hv) → jh_sh h a0 = (11, 0) ∧ jMet l (d + 3) yX11_product cX11_product 5 (some .int) [.ref a0, .int a1] h (some (.int rv)) hv) ∧ (∀ (a0 : Nat) (a1 : Int32) (h : jH) (rv : Int32) (hv : jH), rec 3 a0 a1 h = some (rv, hv) → jh_sh h a0 = (11, 0) ∧ jMet l (d + 3) yX11_thing cX11_thing 4 (some .int) [.ref a0, .int a1] h (some (.int rv)) hv)) {rR : Int32} {hf : jH} : ∀ (n : Nat) (x2 : Int32) (h : jH), f_X11_sum_L6 F rec x0 x1 n x2 h = some (rR, hf) → jGo l (d + 4) none RX11 cX11_sum 5 (some .int) false 6 [some (.ref x0), some (.int x1), some (.int x2), none, none] [] h (some (.int rR)) hf := by
  intro n
  induction n with
  | zero =>
    intro x2 h H
    cases H
  | succ n ih =>
    intro x2 h H
    unfold f_X11_sum_L6 at H
    refine jr_aload_n dX11_sum_6 rfl rfl ?_
    obtain ⟨v4, h3, Hc, H⟩ := j_b2_some H
    refine jr_callV (ci := 11) [] my_X11_fine mv_X11_fine ml_RX11_148 dX11_sum_7 rfl rfl (Nat.le_of_ble_eq_true rfl) rfl (c_X11_fine l (d + 3) F x0 h v4 h3 Hc) ?_
    refine jr_if_eq (tgt := 82) dX11_sum_10 (by decide) H (fun H => ?_) (fun H => ?_)
    · refine jr_iload_n dX11_sum_82 rfl rfl ?_
      exact jr_iret rfl dX11_sum_83 H
    · refine jr_aload_n dX11_sum_13 rfl rfl ?_
      obtain ⟨v6, h5, Hc, H⟩ := j_b2_some H
      refine jr_callV (ci := 11) [] my_X11_here mv_X11_here ml_RX11_152 dX11_sum_14 rfl rfl (Nat.le_of_ble_eq_true rfl) rfl (c_X11_here l (d + 3) F x0 h3 v6 h5 Hc) ?_
      refine jr_bipush (v := 43) dX11_sum_17 (by decide) ?_
      refine jr_jn (fun J => ∀ (h7 : jH), J h7 = some (rR, hf) → jGo l (d + 4) none RX11 cX11_sum 5 (some .int) false 31 [some (.ref x0), some (.int x1), some (.int x2), none, none] [] h7 (some (.int rR)) hf) H (fun h7 H => ?_) (fun J31 hJ31 H => ?_)
      · refine jr_aload_n dX11_sum_31 rfl rfl ?_
        obtain ⟨v9, h8, Hc, H⟩ := j_b2_some H
        refine jr_callV (ci := 11) [] my_X11_here mv_X11_here ml_RX11_152 dX11_sum_32 rfl rfl (Nat.le_of_ble_eq_true rfl) rfl (c_X11_here l (d + 3) F x0 h7 v9 h8 Hc) ?_
        refine jr_bipush (v := 43) dX11_sum_35 (by decide) ?_
        refine jr_jn (fun J => ∀ (s10 : Int32) (h11 : jH), J s10 h11 = some (rR, hf) → jGo l (d + 4) none RX11 cX11_sum 5 (some .int) false 45 [some (.ref x0), some (.int x1), some (.int x2), none, none] [.int s10] h11 (some (.int rR)) hf) H (fun s10 h11 H => ?_) (fun J45 hJ45 H => ?_)
        · refine jr_istore_n dX11_sum_45 rfl (by decide) rfl (Or.inl rfl) ?_
          refine jr_aload_n dX11_sum_46 rfl rfl ?_
          refine jr_dup dX11_sum_47 rfl ?_
          refine jr_getI fl_RX11_138 (by decide) dX11_sum_48 H (fun v12 H => ?_)
          refine jr_iconst (v := 1) dX11_sum_51 (by decide) ?_
          refine jr_iadd dX11_sum_52 ?_
          refine jr_putI fl_RX11_138 (fun z => by cases z) dX11_sum_53 H (fun h13 H => ?_)
          refine jr_aload_n dX11_sum_56 rfl rfl ?_
          refine jr_iload_n dX11_sum_57 rfl rfl ?_
          obtain ⟨v15, h14, Hc, H⟩ := j_b2_some H
          refine jr_callV (ci := 11) [.int x1] my_X11_product mv_X11_product ml_RX11_197 dX11_sum_58 rfl rfl (Nat.le_of_ble_eq_true rfl) rfl (hrec.2.2.1 x0 x1 h13 v15 h14 Hc) ?_
          refine jr_istore dX11_sum_61 (by decide) rfl (Or.inl rfl) ?_
          refine jr_iload_n dX11_sum_63 rfl rfl ?_
          refine jr_jn (fun J => ∀ (s16 : Int32) (h17 : jH), J s16 h17 = some (rR, hf) → jGo l (d + 4) none RX11 cX11_sum 5 (some .int) false 78 [some (.ref x0), some (.int x1), none, none, none] [.int s16] h17 (some (.int rR)) hf) H (fun s16 h17 H => ?_) (fun J78 hJ78 H => ?_)
          · refine jr_istore_n dX11_sum_78 rfl (by decide) rfl (Or.inl rfl) ?_
            refine jr_goto (tgt := 6) dX11_sum_79 (by decide) ?_
            exact ih _ _ H
          · refine jr_if_eq (tgt := 74) dX11_sum_64 (by decide) H (fun H => ?_) (fun H => ?_)
            · refine jr_iload_n dX11_sum_74 rfl rfl ?_
              refine jr_iload dX11_sum_75 rfl ?_
              refine jr_isub dX11_sum_77 ?_
              refine jr_fgt 2 ?_
              refine jr_fgt 3 ?_
              refine jr_fgt 4 ?_
              exact hJ78 _ _ H
            · refine jr_iload_n dX11_sum_67 rfl rfl ?_
              refine jr_iload dX11_sum_68 rfl ?_
              refine jr_iadd dX11_sum_70 ?_
              refine jr_goto (tgt := 78) dX11_sum_71 (by decide) ?_
              refine jr_fgt 2 ?_
              refine jr_fgt 3 ?_
              refine jr_fgt 4 ?_
              exact hJ78 _ _ H
        · refine jr_icmp_ne (tgt := 44) dX11_sum_37 (by decide) H (fun H => ?_) (fun H => ?_)
          · refine jr_iconst (v := 1) dX11_sum_40 (by decide) ?_
            refine jr_goto (tgt := 45) dX11_sum_41 (by decide) ?_
            exact hJ45 _ _ H
          · refine jr_iconst (v := 0) dX11_sum_44 (by decide) ?_
            exact hJ45 _ _ H
      · refine jr_icmp_eq (tgt := 31) dX11_sum_19 (by decide) H (fun H => ?_) (fun H => ?_)
        · exact hJ31 _ H
        · refine jr_aload_n dX11_sum_22 rfl rfl ?_
          obtain ⟨v19, h18, Hc, H⟩ := j_b2_some H
          refine jr_callV (ci := 11) [] my_X11_here mv_X11_here ml_RX11_152 dX11_sum_23 rfl rfl (Nat.le_of_ble_eq_true rfl) rfl (c_X11_here l (d + 3) F x0 h5 v19 h18 Hc) ?_
          refine jr_bipush (v := 45) dX11_sum_26 (by decide) ?_
          refine jr_icmp_ne (tgt := 82) dX11_sum_28 (by decide) H (fun H => ?_) (fun H => ?_)
          · exact hJ31 _ H
          · refine jr_iload_n dX11_sum_82 rfl rfl ?_
            exact jr_iret rfl dX11_sum_83 H
set_option maxRecDepth 100000 in
set_option maxHeartbeats 4000000 in
theorem c_b_X11_sum (l : Launch) (d : Nat) (F : Nat) (rec : Nat → Nat → Int32 → jH → Option (Int32 × jH)) (hrec : (∀ (a0 : Nat) (a1 : Int32) (h : jH) (rv : Int32) (hv : jH), rec 0 a0 a1 h = some (rv, hv) → jh_sh h a0 = (11, 0) ∧ jMet l (d + 3) yX11_held cX11_held 3 (some .int) [.ref a0, .int a1] h (some (.int rv)) hv) ∧ (∀ (a0 : Nat) (a1 : Int32) (h : jH) (rv : Int32) (hv : jH), rec 1 a0 a1 h = some (rv, hv) → jh_sh h a0 = (11, 0) ∧ jMet l (d + 3) yX11_sum cX11_sum 5 (some .int) [.ref a0, .int a1] h (some (.int rv)) hv) ∧ (∀ (a0 : Nat) (a1 : Int32) (h : jH) (rv : Int32) (hv : jH), rec 2 a0 a1 h = some (rv, hv) → jh_sh h a0 = (11, 0) ∧ jMet l (d + 3) yX11_product cX11_product 5 (some .int) [.ref a0, .int a1] h (some (.int rv)) hv) ∧ (∀ (a0 : Nat) (a1 : Int32) (h : jH) (rv : Int32) (hv : jH), rec 3 a0 a1 h = some (rv, hv) → jh_sh h a0 = (11, 0) ∧ jMet l (d + 3) yX11_thing cX11_thing 4 (some .int) [.ref a0, .int a1] h (some (.int rv)) hv)) (a0 : Nat) (a1 : Int32) (h : jH) (rR : Int32) (hf : jH) (H : b_X11_sum F rec a0 a1 h = some (rR, hf)) : jh_sh h a0 = (11, 0) ∧ jMet l (d + 4) yX11_sum cX11_sum 5 (some .int) [.ref a0, .int a1] h (some (.int rR)) hf := by
  unfold b_X11_sum at H
  obtain ⟨hsh, H⟩ := j_gd_some H
  refine ⟨hsh, ?_⟩
  refine jMet.of false [some (.ref a0), some (.int a1), none, none, none] rfl (by decide) (by decide) (Nat.le_of_ble_eq_true rfl) (fun S0 q hq => by simpa [j_l, lv_args, j_v, Value.category] using hq) ?_
  refine jr_aload_n dX11_sum_0 rfl rfl ?_
  refine jr_iload_n dX11_sum_1 rfl rfl ?_
  obtain ⟨v2, h1, Hc, H⟩ := j_b2_some H
  refine jr_callV (ci := 11) [.int a1] my_X11_product mv_X11_product ml_RX11_197 dX11_sum_2 rfl rfl (Nat.le_of_ble_eq_true rfl) rfl (hrec.2.2.1 a0 a1 h v2 h1 Hc) ?_
  refine jr_istore_n dX11_sum_5 rfl (by decide) rfl (Or.inl rfl) ?_
  exact s_X11_sum_L6 l d F rec a0 a1 hrec F v2 h1 H
set_option maxRecDepth 100000 in
set_option maxHeartbeats 4000000 in
theorem s_X11_product_L6 (l : Launch) (d : Nat) (F : Nat) (rec : Nat → Nat → Int32 → jH → Option (Int32 × jH)) (x0 : Nat) (x1 : Int32) (hrec : (∀ (a0 : Nat) (a1 : Int32) (h : jH) (rv : Int32) (hv : jH), rec 0 a0 a1 h = some (rv, hv) → jh_sh h a0 = (11, 0) ∧ jMet l (d + 3) yX11_held cX11_held 3 (some .int) [.ref a0, .int a1] h (some (.int rv)) hv) ∧ (∀ (a0 : Nat) (a1 : Int32) (h : jH) (rv : Int32) (hv : jH), rec 1 a0 a1 h = some (rv, hv) → jh_sh h a0 = (11, 0) ∧ jMet l (d + 3) yX11_sum cX11_sum 5 (some .int) [.ref a0, .int a1] h (some (.int rv)) hv) ∧ (∀ (a0 : Nat) (a1 : Int32) (h : jH) (rv : Int32) (hv : jH), rec 2 a0 a1 h = some (rv, hv) → jh_sh h a0 = (11, 0) ∧ jMet l (d + 3) yX11_product cX11_product 5 (some .int) [.ref a0, .int a1] h (some (.int rv)) hv) ∧ (∀ (a0 : Nat) (a1 : Int32) (h : jH) (rv : Int32) (hv : jH), rec 3 a0 a1 h = some (rv, hv) → jh_sh h a0 = (11, 0) ∧ jMet l (d + 3) yX11_thing cX11_thing 4 (some .int) [.ref a0, .int a1] h (some (.int rv)) hv)) {rR : Int32} {hf : jH} : ∀ (n : Nat) (x2 : Int32) (h : jH), f_X11_product_L6 F rec x0 x1 n x2 h = some (rR, hf) → jGo l (d + 4) none RX11 cX11_product 5 (some .int) false 6 [some (.ref x0), some (.int x1), some (.int x2), none, none] [] h (some (.int rR)) hf := by
  intro n
  induction n with
  | zero =>
    intro x2 h H
    cases H
  | succ n ih =>
    intro x2 h H
    unfold f_X11_product_L6 at H
    refine jr_aload_n dX11_product_6 rfl rfl ?_
    obtain ⟨v4, h3, Hc, H⟩ := j_b2_some H
    refine jr_callV (ci := 11) [] my_X11_fine mv_X11_fine ml_RX11_148 dX11_product_7 rfl rfl (Nat.le_of_ble_eq_true rfl) rfl (c_X11_fine l (d + 3) F x0 h v4 h3 Hc) ?_
    refine jr_if_eq (tgt := 91) dX11_product_10 (by decide) H (fun H => ?_) (fun H => ?_)
    · refine jr_iload_n dX11_product_91 rfl rfl ?_
      exact jr_iret rfl dX11_product_92 H
    · refine jr_aload_n dX11_product_13 rfl rfl ?_
      obtain ⟨v6, h5, Hc, H⟩ := j_b2_some H
      refine jr_callV (ci := 11) [] my_X11_here mv_X11_here ml_RX11_152 dX11_product_14 rfl rfl (Nat.le_of_ble_eq_true rfl) rfl (c_X11_here l (d + 3) F x0 h3 v6 h5 Hc) ?_
      refine jr_bipush (v := 42) dX11_product_17 (by decide) ?_
      refine jr_jn (fun J => ∀ (h7 : jH), J h7 = some (rR, hf) → jGo l (d + 4) none RX11 cX11_product 5 (some .int) false 31 [some (.ref x0), some (.int x1), some (.int x2), none, none] [] h7 (some (.int rR)) hf) H (fun h7 H => ?_) (fun J31 hJ31 H => ?_)
      · refine jr_aload_n dX11_product_31 rfl rfl ?_
        obtain ⟨v9, h8, Hc, H⟩ := j_b2_some H
        refine jr_callV (ci := 11) [] my_X11_here mv_X11_here ml_RX11_152 dX11_product_32 rfl rfl (Nat.le_of_ble_eq_true rfl) rfl (c_X11_here l (d + 3) F x0 h7 v9 h8 Hc) ?_
        refine jr_bipush (v := 42) dX11_product_35 (by decide) ?_
        refine jr_jn (fun J => ∀ (s10 : Int32) (h11 : jH), J s10 h11 = some (rR, hf) → jGo l (d + 4) none RX11 cX11_product 5 (some .int) false 45 [some (.ref x0), some (.int x1), some (.int x2), none, none] [.int s10] h11 (some (.int rR)) hf) H (fun s10 h11 H => ?_) (fun J45 hJ45 H => ?_)
        · refine jr_istore_n dX11_product_45 rfl (by decide) rfl (Or.inl rfl) ?_
          refine jr_aload_n dX11_product_46 rfl rfl ?_
          refine jr_dup dX11_product_47 rfl ?_
          refine jr_getI fl_RX11_138 (by decide) dX11_product_48 H (fun v12 H => ?_)
          refine jr_iconst (v := 1) dX11_product_51 (by decide) ?_
          refine jr_iadd dX11_product_52 ?_
          refine jr_putI fl_RX11_138 (fun z => by cases z) dX11_product_53 H (fun h13 H => ?_)
          refine jr_aload_n dX11_product_56 rfl rfl ?_
          refine jr_iload_n dX11_product_57 rfl rfl ?_
          obtain ⟨v15, h14, Hc, H⟩ := j_b2_some H
          refine jr_callV (ci := 11) [.int x1] my_X11_thing mv_X11_thing ml_RX11_200 dX11_product_58 rfl rfl (Nat.le_of_ble_eq_true rfl) rfl (hrec.2.2.2 x0 x1 h13 v15 h14 Hc) ?_
          refine jr_istore dX11_product_61 (by decide) rfl (Or.inl rfl) ?_
          refine jr_iload_n dX11_product_63 rfl rfl ?_
          refine jr_jn (fun J => ∀ (s16 : Int32) (h17 : jH), J s16 h17 = some (rR, hf) → jGo l (d + 4) none RX11 cX11_product 5 (some .int) false 87 [some (.ref x0), some (.int x1), none, none, none] [.int s16] h17 (some (.int rR)) hf) H (fun s16 h17 H => ?_) (fun J87 hJ87 H => ?_)
          · refine jr_istore_n dX11_product_87 rfl (by decide) rfl (Or.inl rfl) ?_
            refine jr_goto (tgt := 6) dX11_product_88 (by decide) ?_
            exact ih _ _ H
          · refine jr_if_eq (tgt := 74) dX11_product_64 (by decide) H (fun H => ?_) (fun H => ?_)
            · refine jr_iload dX11_product_74 rfl ?_
              refine jr_if_ne (tgt := 83) dX11_product_76 (by decide) H (fun H => ?_) (fun H => ?_)
              · refine jr_iconst (v := 0) dX11_product_79 (by decide) ?_
                refine jr_goto (tgt := 87) dX11_product_80 (by decide) ?_
                refine jr_fgt 2 ?_
                refine jr_fgt 3 ?_
                refine jr_fgt 4 ?_
                exact hJ87 _ _ H
              · refine jr_iload_n dX11_product_83 rfl rfl ?_
                refine jr_iload dX11_product_84 rfl ?_
                refine jr_idiv dX11_product_86 H (fun v18 H => ?_)
                refine jr_fgt 2 ?_
                refine jr_fgt 3 ?_
                refine jr_fgt 4 ?_
                exact hJ87 _ _ H
            · refine jr_iload_n dX11_product_67 rfl rfl ?_
              refine jr_iload dX11_product_68 rfl ?_
              refine jr_imul dX11_product_70 ?_
              refine jr_goto (tgt := 87) dX11_product_71 (by decide) ?_
              refine jr_fgt 2 ?_
              refine jr_fgt 3 ?_
              refine jr_fgt 4 ?_
              exact hJ87 _ _ H
        · refine jr_icmp_ne (tgt := 44) dX11_product_37 (by decide) H (fun H => ?_) (fun H => ?_)
          · refine jr_iconst (v := 1) dX11_product_40 (by decide) ?_
            refine jr_goto (tgt := 45) dX11_product_41 (by decide) ?_
            exact hJ45 _ _ H
          · refine jr_iconst (v := 0) dX11_product_44 (by decide) ?_
            exact hJ45 _ _ H
      · refine jr_icmp_eq (tgt := 31) dX11_product_19 (by decide) H (fun H => ?_) (fun H => ?_)
        · exact hJ31 _ H
        · refine jr_aload_n dX11_product_22 rfl rfl ?_
          obtain ⟨v20, h19, Hc, H⟩ := j_b2_some H
          refine jr_callV (ci := 11) [] my_X11_here mv_X11_here ml_RX11_152 dX11_product_23 rfl rfl (Nat.le_of_ble_eq_true rfl) rfl (c_X11_here l (d + 3) F x0 h5 v20 h19 Hc) ?_
          refine jr_bipush (v := 47) dX11_product_26 (by decide) ?_
          refine jr_icmp_ne (tgt := 91) dX11_product_28 (by decide) H (fun H => ?_) (fun H => ?_)
          · exact hJ31 _ H
          · refine jr_iload_n dX11_product_91 rfl rfl ?_
            exact jr_iret rfl dX11_product_92 H
set_option maxRecDepth 100000 in
set_option maxHeartbeats 4000000 in
theorem c_b_X11_product (l : Launch) (d : Nat) (F : Nat) (rec : Nat → Nat → Int32 → jH → Option (Int32 × jH)) (hrec : (∀ (a0 : Nat) (a1 : Int32) (h : jH) (rv : Int32) (hv : jH), rec 0 a0 a1 h = some (rv, hv) → jh_sh h a0 = (11, 0) ∧ jMet l (d + 3) yX11_held cX11_held 3 (some .int) [.ref a0, .int a1] h (some (.int rv)) hv) ∧ (∀ (a0 : Nat) (a1 : Int32) (h : jH) (rv : Int32) (hv : jH), rec 1 a0 a1 h = some (rv, hv) → jh_sh h a0 = (11, 0) ∧ jMet l (d + 3) yX11_sum cX11_sum 5 (some .int) [.ref a0, .int a1] h (some (.int rv)) hv) ∧ (∀ (a0 : Nat) (a1 : Int32) (h : jH) (rv : Int32) (hv : jH), rec 2 a0 a1 h = some (rv, hv) → jh_sh h a0 = (11, 0) ∧ jMet l (d + 3) yX11_product cX11_product 5 (some .int) [.ref a0, .int a1] h (some (.int rv)) hv) ∧ (∀ (a0 : Nat) (a1 : Int32) (h : jH) (rv : Int32) (hv : jH), rec 3 a0 a1 h = some (rv, hv) → jh_sh h a0 = (11, 0) ∧ jMet l (d + 3) yX11_thing cX11_thing 4 (some .int) [.ref a0, .int a1] h (some (.int rv)) hv)) (a0 : Nat) (a1 : Int32) (h : jH) (rR : Int32) (hf : jH) (H : b_X11_product F rec a0 a1 h = some (rR, hf)) : jh_sh h a0 = (11, 0) ∧ jMet l (d + 4) yX11_product cX11_product 5 (some .int) [.ref a0, .int a1] h (some (.int rR)) hf := by
  unfold b_X11_product at H
  obtain ⟨hsh, H⟩ := j_gd_some H
  refine ⟨hsh, ?_⟩
  refine jMet.of false [some (.ref a0), some (.int a1), none, none, none] rfl (by decide) (by decide) (Nat.le_of_ble_eq_true rfl) (fun S0 q hq => by simpa [j_l, lv_args, j_v, Value.category] using hq) ?_
  refine jr_aload_n dX11_product_0 rfl rfl ?_
  refine jr_iload_n dX11_product_1 rfl rfl ?_
  obtain ⟨v2, h1, Hc, H⟩ := j_b2_some H
  refine jr_callV (ci := 11) [.int a1] my_X11_thing mv_X11_thing ml_RX11_200 dX11_product_2 rfl rfl (Nat.le_of_ble_eq_true rfl) rfl (hrec.2.2.2 a0 a1 h v2 h1 Hc) ?_
  refine jr_istore_n dX11_product_5 rfl (by decide) rfl (Or.inl rfl) ?_
  exact s_X11_product_L6 l d F rec a0 a1 hrec F v2 h1 H
set_option maxRecDepth 100000 in
set_option maxHeartbeats 4000000 in
theorem c_b_X11_thing (l : Launch) (d : Nat) (F : Nat) (rec : Nat → Nat → Int32 → jH → Option (Int32 × jH)) (hrec : (∀ (a0 : Nat) (a1 : Int32) (h : jH) (rv : Int32) (hv : jH), rec 0 a0 a1 h = some (rv, hv) → jh_sh h a0 = (11, 0) ∧ jMet l (d + 3) yX11_held cX11_held 3 (some .int) [.ref a0, .int a1] h (some (.int rv)) hv) ∧ (∀ (a0 : Nat) (a1 : Int32) (h : jH) (rv : Int32) (hv : jH), rec 1 a0 a1 h = some (rv, hv) → jh_sh h a0 = (11, 0) ∧ jMet l (d + 3) yX11_sum cX11_sum 5 (some .int) [.ref a0, .int a1] h (some (.int rv)) hv) ∧ (∀ (a0 : Nat) (a1 : Int32) (h : jH) (rv : Int32) (hv : jH), rec 2 a0 a1 h = some (rv, hv) → jh_sh h a0 = (11, 0) ∧ jMet l (d + 3) yX11_product cX11_product 5 (some .int) [.ref a0, .int a1] h (some (.int rv)) hv) ∧ (∀ (a0 : Nat) (a1 : Int32) (h : jH) (rv : Int32) (hv : jH), rec 3 a0 a1 h = some (rv, hv) → jh_sh h a0 = (11, 0) ∧ jMet l (d + 3) yX11_thing cX11_thing 4 (some .int) [.ref a0, .int a1] h (some (.int rv)) hv)) (a0 : Nat) (a1 : Int32) (h : jH) (rR : Int32) (hf : jH) (H : b_X11_thing F rec a0 a1 h = some (rR, hf)) : jh_sh h a0 = (11, 0) ∧ jMet l (d + 4) yX11_thing cX11_thing 4 (some .int) [.ref a0, .int a1] h (some (.int rR)) hf := by
  unfold b_X11_thing at H
  obtain ⟨hsh, H⟩ := j_gd_some H
  refine ⟨hsh, ?_⟩
  refine jMet.of false [some (.ref a0), some (.int a1), none, none] rfl (by decide) (by decide) (Nat.le_of_ble_eq_true rfl) (fun S0 q hq => by simpa [j_l, lv_args, j_v, Value.category] using hq) ?_
  refine jr_aload_n dX11_thing_0 rfl rfl ?_
  refine jr_bipush (v := 45) dX11_thing_1 (by decide) ?_
  obtain ⟨v2, h1, Hc, H⟩ := j_b2_some H
  refine jr_callV (ci := 11) [.int 45] my_X11_passes mv_X11_passes ml_RX11_156 dX11_thing_3 rfl rfl (Nat.le_of_ble_eq_true rfl) rfl (c_X11_passes l (d + 2) F a0 45 h v2 h1 Hc) ?_
  refine jr_if_eq (tgt := 16) dX11_thing_6 (by decide) H (fun H => ?_) (fun H => ?_)
  · refine jr_aload_n dX11_thing_16 rfl rfl ?_
    obtain ⟨v4, h3, Hc, H⟩ := j_b2_some H
    refine jr_callV (ci := 11) [] my_X11_fine mv_X11_fine ml_RX11_148 dX11_thing_17 rfl rfl (Nat.le_of_ble_eq_true rfl) rfl (c_X11_fine l (d + 3) F a0 h1 v4 h3 Hc) ?_
    refine jr_if_ne (tgt := 25) dX11_thing_20 (by decide) H (fun H => ?_) (fun H => ?_)
    · refine jr_iconst (v := 0) dX11_thing_23 (by decide) ?_
      exact jr_iret rfl dX11_thing_24 H
    · refine jr_aload_n dX11_thing_25 rfl rfl ?_
      obtain ⟨v6, h5, Hc, H⟩ := j_b2_some H
      refine jr_callV (ci := 11) [] my_X11_here mv_X11_here ml_RX11_152 dX11_thing_26 rfl rfl (Nat.le_of_ble_eq_true rfl) rfl (c_X11_here l (d + 3) F a0 h3 v6 h5 Hc) ?_
      refine jr_istore_n dX11_thing_29 rfl (by decide) rfl (Or.inl rfl) ?_
      refine jr_iload_n dX11_thing_30 rfl rfl ?_
      refine jr_bipush (v := 40) dX11_thing_31 (by decide) ?_
      refine jr_jn (fun J => ∀ (h7 : jH), J h7 = some (rR, hf) → jGo l (d + 4) none RX11 cX11_thing 4 (some .int) false 67 [some (.ref a0), none, some (.int v6), none] [] h7 (some (.int rR)) hf) H (fun h7 H => ?_) (fun J67 hJ67 H => ?_)
      · refine jr_iload_n dX11_thing_67 rfl rfl ?_
        refine jr_bipush (v := 48) dX11_thing_68 (by decide) ?_
        refine jr_bipush (v := 57) dX11_thing_70 (by decide) ?_
        obtain ⟨v9, h8, Hc, H⟩ := j_b2_some H
        refine jr_callS [.int v6, .int 48, .int 57] my_X11_in ms_X11_in ml_RX11_116 dX11_thing_72 rfl rfl (Nat.le_of_ble_eq_true rfl) (c_X11_in l (d + 3) F v6 48 57 h7 v9 h8 Hc) ?_
        refine jr_if_eq (tgt := 84) dX11_thing_75 (by decide) H (fun H => ?_) (fun H => ?_)
        · refine jr_iload_n dX11_thing_84 rfl rfl ?_
          obtain ⟨v11, h10, Hc, H⟩ := j_b2_some H
          refine jr_callS [.int v6] my_X11_letterOf ms_X11_letterOf ml_RX11_206 dX11_thing_85 rfl rfl (Nat.le_of_ble_eq_true rfl) (c_X11_letterOf l (d + 3) F v6 h8 v11 h10 Hc) ?_
          refine jr_iconst (v := (-1)) dX11_thing_88 (by decide) ?_
          refine jr_icmp_ne (tgt := 102) dX11_thing_89 (by decide) H (fun H => ?_) (fun H => ?_)
          · refine jr_aload_n dX11_thing_92 rfl rfl ?_
            refine jr_aload_n dX11_thing_93 rfl rfl ?_
            refine jr_getI fl_RX11_138 (by decide) dX11_thing_94 H (fun v12 H => ?_)
            obtain ⟨h13, Hc, H⟩ := Option.bind_eq_some_iff.mp H
            refine jr_callV (ci := 11) [.int v12] my_X11_fault mv_X11_fault ml_RX11_160 dX11_thing_97 rfl rfl (Nat.le_of_ble_eq_true rfl) rfl (c_X11_fault l (d + 2) F a0 v12 h10 h13 Hc) ?_
            refine jr_iconst (v := 0) dX11_thing_100 (by decide) ?_
            exact jr_iret rfl dX11_thing_101 H
          · refine jr_aload_n dX11_thing_102 rfl rfl ?_
            refine jr_dup dX11_thing_103 rfl ?_
            refine jr_getI fl_RX11_138 (by decide) dX11_thing_104 H (fun v14 H => ?_)
            refine jr_iconst (v := 1) dX11_thing_107 (by decide) ?_
            refine jr_iadd dX11_thing_108 ?_
            refine jr_putI fl_RX11_138 (fun z => by cases z) dX11_thing_109 H (fun h15 H => ?_)
            refine jr_aload_n dX11_thing_112 rfl rfl ?_
            refine jr_getI fl_RX11_209 (by decide) dX11_thing_113 H (fun v16 H => ?_)
            refine jr_if_eq (tgt := 131) dX11_thing_116 (by decide) H (fun H => ?_) (fun H => ?_)
            · refine jr_iconst (v := 0) dX11_thing_131 (by decide) ?_
              exact jr_iret rfl dX11_thing_132 H
            · refine jr_aload_n dX11_thing_119 rfl rfl ?_
              refine jr_getR fl_RX11_52 dX11_thing_120 H (fun v17 H => ?_)
              refine jr_iload_n dX11_thing_123 rfl rfl ?_
              obtain ⟨v19, h18, Hc, H⟩ := j_b2_some H
              refine jr_callS [.int v6] my_X11_letterOf ms_X11_letterOf ml_RX11_206 dX11_thing_124 rfl rfl (Nat.le_of_ble_eq_true rfl) (c_X11_letterOf l (d + 3) F v6 h15 v19 h18 Hc) ?_
              refine jr_iald dX11_thing_127 H (fun v20 H => ?_)
              refine jr_goto (tgt := 132) dX11_thing_128 (by decide) ?_
              exact jr_iret rfl dX11_thing_132 H
        · refine jr_aload_n dX11_thing_78 rfl rfl ?_
          refine jr_iconst (v := 3) dX11_thing_79 (by decide) ?_
          obtain ⟨v22, h21, Hc, H⟩ := j_b2_some H
          refine jr_callV (ci := 11) [.int 3] my_X11_number mv_X11_number ml_RX11_190 dX11_thing_80 rfl rfl (Nat.le_of_ble_eq_true rfl) rfl (c_X11_number l d F a0 3 h8 v22 h21 Hc) ?_
          exact jr_iret rfl dX11_thing_83 H
      · refine jr_icmp_ne (tgt := 67) dX11_thing_33 (by decide) H (fun H => ?_) (fun H => ?_)
        · refine jr_iload_n dX11_thing_36 rfl rfl ?_
          refine jr_iconst (v := 4) dX11_thing_37 (by decide) ?_
          refine jr_icmp_ge (tgt := 67) dX11_thing_38 (by decide) H (fun H => ?_) (fun H => ?_)
          · refine jr_fgt 1 ?_
            exact hJ67 _ H
          · refine jr_aload_n dX11_thing_41 rfl rfl ?_
            refine jr_dup dX11_thing_42 rfl ?_
            refine jr_getI fl_RX11_138 (by decide) dX11_thing_43 H (fun v23 H => ?_)
            refine jr_iconst (v := 1) dX11_thing_46 (by decide) ?_
            refine jr_iadd dX11_thing_47 ?_
            refine jr_putI fl_RX11_138 (fun z => by cases z) dX11_thing_48 H (fun h24 H => ?_)
            refine jr_aload_n dX11_thing_51 rfl rfl ?_
            refine jr_iload_n dX11_thing_52 rfl rfl ?_
            refine jr_iconst (v := 1) dX11_thing_53 (by decide) ?_
            refine jr_iadd dX11_thing_54 ?_
            obtain ⟨v26, h25, Hc, H⟩ := j_b2_some H
            refine jr_callV (ci := 11) [.int (a1 + (1 : Int32))] my_X11_held mv_X11_held ml_RX11_203 dX11_thing_55 rfl rfl (Nat.le_of_ble_eq_true rfl) rfl (hrec.1 a0 (a1 + (1 : Int32)) h24 v26 h25 Hc) ?_
            refine jr_istore_n dX11_thing_58 rfl (by decide) rfl (Or.inl rfl) ?_
            refine jr_aload_n dX11_thing_59 rfl rfl ?_
            refine jr_bipush (v := 41) dX11_thing_60 (by decide) ?_
            obtain ⟨h27, Hc, H⟩ := Option.bind_eq_some_iff.mp H
            refine jr_callV (ci := 11) [.int 41] my_X11_need mv_X11_need ml_RX11_186 dX11_thing_62 rfl rfl (Nat.le_of_ble_eq_true rfl) rfl (c_X11_need l (d + 1) F a0 41 h25 h27 Hc) ?_
            refine jr_iload_n dX11_thing_65 rfl rfl ?_
            exact jr_iret rfl dX11_thing_66 H
        · refine jr_fgt 1 ?_
          exact hJ67 _ H
  · refine jr_aload_n dX11_thing_9 rfl rfl ?_
    refine jr_iload_n dX11_thing_10 rfl rfl ?_
    obtain ⟨v29, h28, Hc, H⟩ := j_b2_some H
    refine jr_callV (ci := 11) [.int a1] my_X11_thing mv_X11_thing ml_RX11_200 dX11_thing_11 rfl rfl (Nat.le_of_ble_eq_true rfl) rfl (hrec.2.2.2 a0 a1 h1 v29 h28 Hc) ?_
    refine jr_ineg dX11_thing_14 ?_
    exact jr_iret rfl dX11_thing_15 H
theorem c_gH (l : Launch) (d : Nat) (F : Nat) : ∀ n : Nat, (∀ (a0 : Nat) (a1 : Int32) (h : jH) (rv : Int32) (hv : jH), f_gH F n 0 a0 a1 h = some (rv, hv) → jh_sh h a0 = (11, 0) ∧ jMet l (d + n + 3) yX11_held cX11_held 3 (some .int) [.ref a0, .int a1] h (some (.int rv)) hv) ∧ (∀ (a0 : Nat) (a1 : Int32) (h : jH) (rv : Int32) (hv : jH), f_gH F n 1 a0 a1 h = some (rv, hv) → jh_sh h a0 = (11, 0) ∧ jMet l (d + n + 3) yX11_sum cX11_sum 5 (some .int) [.ref a0, .int a1] h (some (.int rv)) hv) ∧ (∀ (a0 : Nat) (a1 : Int32) (h : jH) (rv : Int32) (hv : jH), f_gH F n 2 a0 a1 h = some (rv, hv) → jh_sh h a0 = (11, 0) ∧ jMet l (d + n + 3) yX11_product cX11_product 5 (some .int) [.ref a0, .int a1] h (some (.int rv)) hv) ∧ (∀ (a0 : Nat) (a1 : Int32) (h : jH) (rv : Int32) (hv : jH), f_gH F n 3 a0 a1 h = some (rv, hv) → jh_sh h a0 = (11, 0) ∧ jMet l (d + n + 3) yX11_thing cX11_thing 4 (some .int) [.ref a0, .int a1] h (some (.int rv)) hv) := by
  intro n
  induction n with
  | zero => exact ⟨fun a0 a1 h rv hv H => (by cases H), fun a0 a1 h rv hv H => (by cases H), fun a0 a1 h rv hv H => (by cases H), fun a0 a1 h rv hv H => (by cases H)⟩
  | succ n ih => exact ⟨fun a0 a1 h rv hv H => j_dep (by omega) (c_b_X11_held l (d + n) F (f_gH F n) ih a0 a1 h rv hv H), fun a0 a1 h rv hv H => j_dep (by omega) (c_b_X11_sum l (d + n) F (f_gH F n) ih a0 a1 h rv hv H), fun a0 a1 h rv hv H => j_dep (by omega) (c_b_X11_product l (d + n) F (f_gH F n) ih a0 a1 h rv hv H), fun a0 a1 h rv hv H => j_dep (by omega) (c_b_X11_thing l (d + n) F (f_gH F n) ih a0 a1 h rv hv H)⟩
theorem c_X11_held (l : Launch) (d : Nat) (F : Nat) (a0 : Nat) (a1 : Int32) (h : jH) (rR : Int32) (hf : jH) (H : f_X11_held F a0 a1 h = some (rR, hf)) : jh_sh h a0 = (11, 0) ∧ jMet l (d + 403) yX11_held cX11_held 3 (some .int) [.ref a0, .int a1] h (some (.int rR)) hf := j_dep (by omega) ((c_gH l d F 400).1 a0 a1 h rR hf H)
theorem c_X11_sum (l : Launch) (d : Nat) (F : Nat) (a0 : Nat) (a1 : Int32) (h : jH) (rR : Int32) (hf : jH) (H : f_X11_sum F a0 a1 h = some (rR, hf)) : jh_sh h a0 = (11, 0) ∧ jMet l (d + 403) yX11_sum cX11_sum 5 (some .int) [.ref a0, .int a1] h (some (.int rR)) hf := j_dep (by omega) ((c_gH l d F 400).2.1 a0 a1 h rR hf H)
theorem c_X11_product (l : Launch) (d : Nat) (F : Nat) (a0 : Nat) (a1 : Int32) (h : jH) (rR : Int32) (hf : jH) (H : f_X11_product F a0 a1 h = some (rR, hf)) : jh_sh h a0 = (11, 0) ∧ jMet l (d + 403) yX11_product cX11_product 5 (some .int) [.ref a0, .int a1] h (some (.int rR)) hf := j_dep (by omega) ((c_gH l d F 400).2.2.1 a0 a1 h rR hf H)
theorem c_X11_thing (l : Launch) (d : Nat) (F : Nat) (a0 : Nat) (a1 : Int32) (h : jH) (rR : Int32) (hf : jH) (H : f_X11_thing F a0 a1 h = some (rR, hf)) : jh_sh h a0 = (11, 0) ∧ jMet l (d + 403) yX11_thing cX11_thing 4 (some .int) [.ref a0, .int a1] h (some (.int rR)) hf := j_dep (by omega) ((c_gH l d F 400).2.2.2 a0 a1 h rR hf H)
set_option maxRecDepth 100000 in
set_option maxHeartbeats 4000000 in
theorem c_X11_readRule (l : Launch) (d : Nat) (F : Nat) (a0 : Nat) (h : jH) (rR : Int32) (hf : jH) (H : f_X11_readRule F a0 h = some (rR, hf)) : jh_sh h a0 = (11, 0) ∧ jMet l (d + 404) yX11_readRule cX11_readRule 1 (some .boolean) [.ref a0] h (some (.int rR)) hf := by
  unfold f_X11_readRule at H
  obtain ⟨hsh, H⟩ := j_gd_some H
  refine ⟨hsh, ?_⟩
  refine jMet.of false [some (.ref a0)] rfl (by decide) (by decide) (Nat.le_of_ble_eq_true rfl) (fun S0 q hq => by simpa [j_l, lv_args, j_v, Value.category] using hq) ?_
  refine jr_aload_n dX11_readRule_0 rfl rfl ?_
  refine jr_bipush (v := 40) dX11_readRule_1 (by decide) ?_
  obtain ⟨h1, Hc, H⟩ := Option.bind_eq_some_iff.mp H
  refine jr_callV (ci := 11) [.int 40] my_X11_beginText mv_X11_beginText ml_RX11_177 dX11_readRule_3 rfl rfl (Nat.le_of_ble_eq_true rfl) rfl (c_X11_beginText l (d + 402) F a0 40 h h1 Hc) ?_
  refine jr_aload_n dX11_readRule_6 rfl rfl ?_
  refine jr_iconst (v := 0) dX11_readRule_7 (by decide) ?_
  refine jr_putZ fl_RX11_209 (fun z => by cases z) rfl rfl dX11_readRule_8 H (fun h2 H => ?_)
  refine jr_aload_n dX11_readRule_11 rfl rfl ?_
  refine jr_getI fl_RX11_132 (by decide) dX11_readRule_12 H (fun v3 H => ?_)
  refine jr_jn (fun J => ∀ (h4 : jH), J h4 = some (rR, hf) → jGo l (d + 404) none RX11 cX11_readRule 1 (some .boolean) false 24 [some (.ref a0)] [] h4 (some (.int rR)) hf) H (fun h4 H => ?_) (fun J24 hJ24 H => ?_)
  · refine jr_aload_n dX11_readRule_24 rfl rfl ?_
    obtain ⟨v6, h5, Hc, H⟩ := j_b2_some H
    refine jr_callV (ci := 11) [] my_X11_wasRight mv_X11_wasRight ml_RX11_183 dX11_readRule_25 rfl rfl (Nat.le_of_ble_eq_true rfl) rfl (c_X11_wasRight l (d + 401) F a0 h4 v6 h5 Hc) ?_
    exact jr_zrz rfl dX11_readRule_28 H
  · refine jr_if_le (tgt := 24) dX11_readRule_15 (by decide) H (fun H => ?_) (fun H => ?_)
    · exact hJ24 _ H
    · refine jr_aload_n dX11_readRule_18 rfl rfl ?_
      refine jr_iconst (v := 0) dX11_readRule_19 (by decide) ?_
      obtain ⟨v8, h7, Hc, H⟩ := j_b2_some H
      refine jr_callV (ci := 11) [.int 0] my_X11_held mv_X11_held ml_RX11_203 dX11_readRule_20 rfl rfl (Nat.le_of_ble_eq_true rfl) rfl (c_X11_held l d F a0 0 h2 v8 h7 Hc) ?_
      refine jr_pop dX11_readRule_23 rfl ?_
      exact hJ24 _ H
set_option maxRecDepth 100000 in
set_option maxHeartbeats 4000000 in
theorem s_X11_rule_L26 (l : Launch) (d : Nat) (F : Nat) (x0 : Nat) (x1 : Int32) (k49 : jH → Option (Int32 × jH)) {rR : Int32} {hf : jH} (hk49 : ∀ (h : jH), k49 h = some (rR, hf) → jGo l (d + 405) none RX11 cX11_rule 3 (some .int) false 49 [some (.ref x0), some (.int x1), none] [] h (some (.int rR)) hf) : ∀ (n : Nat) (x2 : Int32) (h : jH), f_X11_rule_L26 F x0 x1 k49 n x2 h = some (rR, hf) → jGo l (d + 405) none RX11 cX11_rule 3 (some .int) false 26 [some (.ref x0), some (.int x1), some (.int x2)] [] h (some (.int rR)) hf := by
  intro n
  induction n with
  | zero =>
    intro x2 h H
    cases H
  | succ n ih =>
    intro x2 h H
    unfold f_X11_rule_L26 at H
    refine jr_iload_n dX11_rule_26 rfl rfl ?_
    refine jr_iload_n dX11_rule_27 rfl rfl ?_
    refine jr_icmp_ge (tgt := 49) dX11_rule_28 (by decide) H (fun H => ?_) (fun H => ?_)
    · refine jr_fgt 2 ?_
      exact hk49 _ H
    · refine jr_aload_n dX11_rule_31 rfl rfl ?_
      refine jr_getR fl_RX11_46 dX11_rule_32 H (fun v6 H => ?_)
      refine jr_iload_n dX11_rule_35 rfl rfl ?_
      refine jr_aload_n dX11_rule_36 rfl rfl ?_
      refine jr_getR fl_RX11_30 dX11_rule_37 H (fun v7 H => ?_)
      refine jr_iload_n dX11_rule_40 rfl rfl ?_
      refine jr_bald dX11_rule_41 H (fun v8 H => ?_)
      refine jr_bast dX11_rule_42 H (fun h9 H => ?_)
      refine jr_iinc (v := (x2 + 1)) dX11_rule_43 rfl rfl (by decide) rfl (Or.inl rfl) ?_
      refine jr_goto (tgt := 26) dX11_rule_46 (by decide) ?_
      exact ih _ _ H
set_option maxRecDepth 100000 in
set_option maxHeartbeats 4000000 in
theorem c_X11_rule (l : Launch) (d : Nat) (F : Nat) (a0 : Nat) (h : jH) (rR : Int32) (hf : jH) (H : f_X11_rule F a0 h = some (rR, hf)) : jh_sh h a0 = (11, 0) ∧ jMet l (d + 405) yX11_rule cX11_rule 3 (some .int) [.ref a0] h (some (.int rR)) hf := by
  unfold f_X11_rule at H
  obtain ⟨hsh, H⟩ := j_gd_some H
  refine ⟨hsh, ?_⟩
  refine jMet.of false [some (.ref a0), none, none] rfl (by decide) (by decide) (Nat.le_of_ble_eq_true rfl) (fun S0 q hq => by simpa [j_l, lv_args, j_v, Value.category] using hq) ?_
  refine jr_aload_n dX11_rule_0 rfl rfl ?_
  refine jr_iconst (v := 0) dX11_rule_1 (by decide) ?_
  refine jr_putI fl_RX11_110 (fun z => by cases z) dX11_rule_2 H (fun h1 H => ?_)
  refine jr_aload_n dX11_rule_5 rfl rfl ?_
  refine jr_getI fl_RX11_126 (by decide) dX11_rule_6 H (fun v2 H => ?_)
  refine jr_istore_n dX11_rule_9 rfl (by decide) rfl (Or.inl rfl) ?_
  refine jr_aload_n dX11_rule_10 rfl rfl ?_
  obtain ⟨v4, h3, Hc, H⟩ := j_b2_some H
  refine jr_callV (ci := 11) [] my_X11_readRule mv_X11_readRule ml_RX11_213 dX11_rule_11 rfl rfl (Nat.le_of_ble_eq_true rfl) rfl (c_X11_readRule l d F a0 h1 v4 h3 Hc) ?_
  refine jr_if_ne (tgt := 24) dX11_rule_14 (by decide) H (fun H => ?_) (fun H => ?_)
  · refine jr_iconst (v := (-1)) dX11_rule_17 (by decide) ?_
    refine jr_aload_n dX11_rule_18 rfl rfl ?_
    refine jr_getI fl_RX11_141 (by decide) dX11_rule_19 H (fun v5 H => ?_)
    refine jr_isub dX11_rule_22 ?_
    exact jr_iret rfl dX11_rule_23 H
  · refine jr_iconst (v := 0) dX11_rule_24 (by decide) ?_
    refine jr_istore_n dX11_rule_25 rfl (by decide) rfl (Or.inl rfl) ?_
    refine s_X11_rule_L26 l d F a0 v2 _ (fun h10 H => ?_) F 0 h3 H
    · refine jr_aload_n dX11_rule_49 rfl rfl ?_
      refine jr_iload_n dX11_rule_50 rfl rfl ?_
      refine jr_putI fl_RX11_216 (fun z => by cases z) dX11_rule_51 H (fun h11 H => ?_)
      refine jr_iconst (v := 0) dX11_rule_54 (by decide) ?_
      exact jr_iret rfl dX11_rule_55 H
set_option maxRecDepth 100000 in
set_option maxHeartbeats 4000000 in
theorem c_X11_vowelOf (l : Launch) (d : Nat) (F : Nat) (a0 : Int32) (h : jH) (rR : Int32) (hf : jH) (H : f_X11_vowelOf F a0 h = some (rR, hf)) : jMet l (d + 0) yX11_vowelOf cX11_vowelOf 1 (some .int) [.int a0] h (some (.int rR)) hf := by
  unfold f_X11_vowelOf at H
  refine jMet.of false [some (.int a0)] rfl (by decide) (by decide) (Nat.le_of_ble_eq_true rfl) (fun S0 q hq => by simpa [j_l, lv_args, j_v, Value.category] using hq) ?_
  refine jr_iload_n dX11_vowelOf_0 rfl rfl ?_
  refine jr_if_ne (tgt := 8) dX11_vowelOf_1 (by decide) H (fun H => ?_) (fun H => ?_)
  · refine jr_iconst (v := 0) dX11_vowelOf_4 (by decide) ?_
    refine jr_goto (tgt := 48) dX11_vowelOf_5 (by decide) ?_
    exact jr_iret rfl dX11_vowelOf_48 H
  · refine jr_iload_n dX11_vowelOf_8 rfl rfl ?_
    refine jr_iconst (v := 4) dX11_vowelOf_9 (by decide) ?_
    refine jr_icmp_ne (tgt := 17) dX11_vowelOf_10 (by decide) H (fun H => ?_) (fun H => ?_)
    · refine jr_iconst (v := 1) dX11_vowelOf_13 (by decide) ?_
      refine jr_goto (tgt := 48) dX11_vowelOf_14 (by decide) ?_
      exact jr_iret rfl dX11_vowelOf_48 H
    · refine jr_iload_n dX11_vowelOf_17 rfl rfl ?_
      refine jr_bipush (v := 8) dX11_vowelOf_18 (by decide) ?_
      refine jr_icmp_ne (tgt := 27) dX11_vowelOf_20 (by decide) H (fun H => ?_) (fun H => ?_)
      · refine jr_iconst (v := 2) dX11_vowelOf_23 (by decide) ?_
        refine jr_goto (tgt := 48) dX11_vowelOf_24 (by decide) ?_
        exact jr_iret rfl dX11_vowelOf_48 H
      · refine jr_iload_n dX11_vowelOf_27 rfl rfl ?_
        refine jr_bipush (v := 14) dX11_vowelOf_28 (by decide) ?_
        refine jr_icmp_ne (tgt := 37) dX11_vowelOf_30 (by decide) H (fun H => ?_) (fun H => ?_)
        · refine jr_iconst (v := 3) dX11_vowelOf_33 (by decide) ?_
          refine jr_goto (tgt := 48) dX11_vowelOf_34 (by decide) ?_
          exact jr_iret rfl dX11_vowelOf_48 H
        · refine jr_iload_n dX11_vowelOf_37 rfl rfl ?_
          refine jr_bipush (v := 20) dX11_vowelOf_38 (by decide) ?_
          refine jr_icmp_ne (tgt := 47) dX11_vowelOf_40 (by decide) H (fun H => ?_) (fun H => ?_)
          · refine jr_iconst (v := 4) dX11_vowelOf_43 (by decide) ?_
            refine jr_goto (tgt := 48) dX11_vowelOf_44 (by decide) ?_
            exact jr_iret rfl dX11_vowelOf_48 H
          · refine jr_iconst (v := (-1)) dX11_vowelOf_47 (by decide) ?_
            exact jr_iret rfl dX11_vowelOf_48 H
set_option maxRecDepth 100000 in
set_option maxHeartbeats 4000000 in
theorem c_X11_letter (l : Launch) (d : Nat) (F : Nat) (a0 : Nat) (a1 : Int32) (a2 : Int32) (h : jH) (rR : Int32) (hf : jH) (H : f_X11_letter F a0 a1 a2 h = some (rR, hf)) : jh_sh h a0 = (11, 0) ∧ jMet l (d + 0) yX11_letter cX11_letter 3 (some .int) [.ref a0, .int a1, .int a2] h (some (.int rR)) hf := by
  unfold f_X11_letter at H
  obtain ⟨hsh, H⟩ := j_gd_some H
  refine ⟨hsh, ?_⟩
  refine jMet.of false [some (.ref a0), some (.int a1), some (.int a2)] rfl (by decide) (by decide) (Nat.le_of_ble_eq_true rfl) (fun S0 q hq => by simpa [j_l, lv_args, j_v, Value.category] using hq) ?_
  refine jr_aload_n dX11_letter_0 rfl rfl ?_
  refine jr_getR fl_RX11_17 dX11_letter_1 H (fun v1 H => ?_)
  refine jr_bipush (v := 6) dX11_letter_4 (by decide) ?_
  refine jr_iload_n dX11_letter_6 rfl rfl ?_
  refine jr_imul dX11_letter_7 ?_
  refine jr_iload_n dX11_letter_8 rfl rfl ?_
  refine jr_iadd dX11_letter_9 ?_
  refine jr_bald dX11_letter_10 H (fun v2 H => ?_)
  exact jr_iret rfl dX11_letter_11 H
set_option maxRecDepth 100000 in
set_option maxHeartbeats 4000000 in
theorem s_X11_tollOf_L9 (l : Launch) (d : Nat) (F : Nat) (x0 : Nat) (x1 : Int32) (x2 : Int32) (x3 : Int32) (x4 : Int32) (x5 : Int32) (k29 : jH → Option (Int32 × jH)) {rR : Int32} {hf : jH} (hk29 : ∀ (h : jH), k29 h = some (rR, hf) → jGo l (d + 404) none RX11 cX11_tollOf 9 (some .int) false 29 [some (.ref x0), some (.int x1), some (.int x2), some (.int x3), some (.int x4), some (.int x5), none, none, none] [] h (some (.int rR)) hf) : ∀ (n : Nat) (x6 : Int32) (h : jH), f_X11_tollOf_L9 F x0 x1 x2 x3 x4 x5 k29 n x6 h = some (rR, hf) → jGo l (d + 404) none RX11 cX11_tollOf 9 (some .int) false 9 [some (.ref x0), some (.int x1), some (.int x2), some (.int x3), some (.int x4), some (.int x5), some (.int x6), none, none] [] h (some (.int rR)) hf := by
  intro n
  induction n with
  | zero =>
    intro x6 h H
    cases H
  | succ n ih =>
    intro x6 h H
    unfold f_X11_tollOf_L9 at H
    refine jr_iload dX11_tollOf_9 rfl ?_
    refine jr_iconst (v := 5) dX11_tollOf_11 (by decide) ?_
    refine jr_icmp_ge (tgt := 29) dX11_tollOf_12 (by decide) H (fun H => ?_) (fun H => ?_)
    · refine jr_fgt 6 ?_
      exact hk29 _ H
    · refine jr_aload_n dX11_tollOf_15 rfl rfl ?_
      refine jr_getR fl_RX11_55 dX11_tollOf_16 H (fun v1 H => ?_)
      refine jr_iload dX11_tollOf_19 rfl ?_
      refine jr_iconst (v := 0) dX11_tollOf_21 (by decide) ?_
      refine jr_iast dX11_tollOf_22 H (fun h2 H => ?_)
      refine jr_iinc (v := (x6 + 1)) dX11_tollOf_23 rfl rfl (by decide) rfl (Or.inl rfl) ?_
      refine jr_goto (tgt := 9) dX11_tollOf_26 (by decide) ?_
      exact ih _ _ H
set_option maxRecDepth 100000 in
set_option maxHeartbeats 4000000 in
theorem s_X11_tollOf_L32 (l : Launch) (d : Nat) (F : Nat) (x0 : Nat) (x1 : Int32) (x2 : Int32) (x3 : Int32) {rR : Int32} {hf : jH} : ∀ (n : Nat) (x4 : Int32) (x5 : Int32) (x6 : Int32) (h : jH), f_X11_tollOf_L32 F x0 x1 x2 x3 n x4 x5 x6 h = some (rR, hf) → jGo l (d + 404) none RX11 cX11_tollOf 9 (some .int) false 32 [some (.ref x0), some (.int x1), some (.int x2), some (.int x3), some (.int x4), some (.int x5), some (.int x6), none, none] [] h (some (.int rR)) hf := by
  intro n
  induction n with
  | zero =>
    intro x4 x5 x6 h H
    cases H
  | succ n ih =>
    intro x4 x5 x6 h H
    unfold f_X11_tollOf_L32 at H
    refine jr_iload dX11_tollOf_32 rfl ?_
    refine jr_aload_n dX11_tollOf_34 rfl rfl ?_
    refine jr_getR fl_RX11_21 dX11_tollOf_35 H (fun v4 H => ?_)
    refine jr_iload_n dX11_tollOf_38 rfl rfl ?_
    refine jr_iald dX11_tollOf_39 H (fun v5 H => ?_)
    refine jr_icmp_ge (tgt := 238) dX11_tollOf_40 (by decide) H (fun H => ?_) (fun H => ?_)
    · refine jr_iload dX11_tollOf_238 rfl ?_
      exact jr_iret rfl dX11_tollOf_240 H
    · refine jr_aload_n dX11_tollOf_43 rfl rfl ?_
      refine jr_iload_n dX11_tollOf_44 rfl rfl ?_
      refine jr_iload dX11_tollOf_45 rfl ?_
      obtain ⟨v7, h6, Hc, H⟩ := j_b2_some H
      refine jr_callV (ci := 11) [.int x1, .int x6] my_X11_letter mv_X11_letter ml_RX11_219 dX11_tollOf_47 rfl rfl (Nat.le_of_ble_eq_true rfl) rfl (c_X11_letter l (d + 403) F x0 x1 x6 h v7 h6 Hc) ?_
      obtain ⟨v9, h8, Hc, H⟩ := j_b2_some H
      refine jr_callS [.int v7] my_X11_vowelOf ms_X11_vowelOf ml_RX11_223 dX11_tollOf_50 rfl rfl (Nat.le_of_ble_eq_true rfl) (c_X11_vowelOf l (d + 403) F v7 h6 v9 h8 Hc) ?_
      refine jr_istore dX11_tollOf_53 (by decide) rfl (Or.inl rfl) ?_
      refine jr_iload dX11_tollOf_55 rfl ?_
      refine jr_iconst (v := (-1)) dX11_tollOf_57 (by decide) ?_
      refine jr_jn (fun J => ∀ (z10 : Int32) (z11 : Int32) (h12 : jH), J z10 z11 h12 = some (rR, hf) → jGo l (d + 404) none RX11 cX11_tollOf 9 (some .int) false 232 [some (.ref x0), some (.int x1), some (.int x2), some (.int x3), some (.int z10), some (.int z11), some (.int x6), none, none] [] h12 (some (.int rR)) hf) H (fun z10 z11 h12 H => ?_) (fun J232 hJ232 H => ?_)
      · refine jr_iinc (v := (x6 + 1)) dX11_tollOf_232 rfl rfl (by decide) rfl (Or.inl rfl) ?_
        refine jr_goto (tgt := 32) dX11_tollOf_235 (by decide) ?_
        exact ih _ _ _ _ H
      · refine jr_icmp_ne (tgt := 64) dX11_tollOf_58 (by decide) H (fun H => ?_) (fun H => ?_)
        · refine jr_goto (tgt := 232) dX11_tollOf_61 (by decide) ?_
          refine jr_fgt 7 ?_
          exact hJ232 _ _ _ H
        · refine jr_iload dX11_tollOf_64 rfl ?_
          refine jr_iconst (v := 1) dX11_tollOf_66 (by decide) ?_
          refine jr_iadd dX11_tollOf_67 ?_
          refine jr_istore dX11_tollOf_68 (by decide) rfl (Or.inl rfl) ?_
          refine jr_aload_n dX11_tollOf_70 rfl rfl ?_
          refine jr_getI fl_RX11_216 (by decide) dX11_tollOf_71 H (fun v13 H => ?_)
          refine jr_jn (fun J => ∀ (z14 : Int32) (h15 : jH), J z14 h15 = some (rR, hf) → jGo l (d + 404) none RX11 cX11_tollOf 9 (some .int) false 197 [some (.ref x0), some (.int x1), some (.int x2), some (.int x3), some (.int x4), some (.int x5), some (.int x6), some (.int v9), some (.int z14)] [] h15 (some (.int rR)) hf) H (fun z14 h15 H => ?_) (fun J197 hJ197 H => ?_)
          · refine jr_iconst (v := 0) dX11_tollOf_197 (by decide) ?_
            refine jr_bipush (v := 99) dX11_tollOf_198 (by decide) ?_
            refine jr_iload dX11_tollOf_200 rfl ?_
            refine jr_mmin ml_RX11_226 mm_mmin_s mm_i mm_mmin_c dX11_tollOf_202 (Nat.le_of_ble_eq_true rfl) ?_
            refine jr_mmax ml_RX11_231 mm_mmax_s mm_i mm_mmax_c dX11_tollOf_205 (Nat.le_of_ble_eq_true rfl) ?_
            refine jr_istore dX11_tollOf_208 (by decide) rfl (Or.inl rfl) ?_
            refine jr_aload_n dX11_tollOf_210 rfl rfl ?_
            refine jr_getR fl_RX11_55 dX11_tollOf_211 H (fun v16 H => ?_)
            refine jr_iload dX11_tollOf_214 rfl ?_
            refine jr_dup2 dX11_tollOf_216 rfl rfl ?_
            refine jr_iald dX11_tollOf_217 H (fun v17 H => ?_)
            refine jr_iload dX11_tollOf_218 rfl ?_
            refine jr_iadd dX11_tollOf_220 ?_
            refine jr_iast dX11_tollOf_221 H (fun h18 H => ?_)
            refine jr_iload dX11_tollOf_222 rfl ?_
            refine jr_iload dX11_tollOf_224 rfl ?_
            refine jr_iadd dX11_tollOf_226 ?_
            refine jr_istore dX11_tollOf_227 (by decide) rfl (Or.inl rfl) ?_
            refine jr_iinc (v := (x4 + 1)) dX11_tollOf_229 rfl rfl (by decide) rfl (Or.inl rfl) ?_
            refine jr_fgt 7 ?_
            refine jr_fgt 8 ?_
            exact hJ232 _ _ _ H
          · refine jr_if_le (tgt := 197) dX11_tollOf_74 (by decide) H (fun H => ?_) (fun H => ?_)
            · exact hJ197 _ _ H
            · refine jr_aload_n dX11_tollOf_77 rfl rfl ?_
              refine jr_getR fl_RX11_52 dX11_tollOf_78 H (fun v19 H => ?_)
              refine jr_iconst (v := 0) dX11_tollOf_81 (by decide) ?_
              refine jr_iload dX11_tollOf_82 rfl ?_
              refine jr_iast dX11_tollOf_84 H (fun h20 H => ?_)
              refine jr_aload_n dX11_tollOf_85 rfl rfl ?_
              refine jr_getR fl_RX11_52 dX11_tollOf_86 H (fun v21 H => ?_)
              refine jr_iconst (v := 1) dX11_tollOf_89 (by decide) ?_
              refine jr_iload_n dX11_tollOf_90 rfl rfl ?_
              refine jr_iast dX11_tollOf_91 H (fun h22 H => ?_)
              refine jr_aload_n dX11_tollOf_92 rfl rfl ?_
              refine jr_getR fl_RX11_52 dX11_tollOf_93 H (fun v23 H => ?_)
              refine jr_iconst (v := 2) dX11_tollOf_96 (by decide) ?_
              refine jr_iload_n dX11_tollOf_97 rfl rfl ?_
              refine jr_bipush (v := 24) dX11_tollOf_98 (by decide) ?_
              refine jr_irem dX11_tollOf_100 H (fun v24 H => ?_)
              refine jr_iast dX11_tollOf_101 H (fun h25 H => ?_)
              refine jr_aload_n dX11_tollOf_102 rfl rfl ?_
              refine jr_getR fl_RX11_52 dX11_tollOf_103 H (fun v26 H => ?_)
              refine jr_iconst (v := 3) dX11_tollOf_106 (by decide) ?_
              refine jr_aload_n dX11_tollOf_107 rfl rfl ?_
              refine jr_getR fl_RX11_21 dX11_tollOf_108 H (fun v27 H => ?_)
              refine jr_iload_n dX11_tollOf_111 rfl rfl ?_
              refine jr_iald dX11_tollOf_112 H (fun v28 H => ?_)
              refine jr_iast dX11_tollOf_113 H (fun h29 H => ?_)
              refine jr_aload_n dX11_tollOf_114 rfl rfl ?_
              refine jr_getR fl_RX11_52 dX11_tollOf_115 H (fun v30 H => ?_)
              refine jr_iconst (v := 4) dX11_tollOf_118 (by decide) ?_
              refine jr_iload dX11_tollOf_119 rfl ?_
              refine jr_iast dX11_tollOf_121 H (fun h31 H => ?_)
              refine jr_aload_n dX11_tollOf_122 rfl rfl ?_
              refine jr_getR fl_RX11_52 dX11_tollOf_123 H (fun v32 H => ?_)
              refine jr_iconst (v := 5) dX11_tollOf_126 (by decide) ?_
              refine jr_iload dX11_tollOf_127 rfl ?_
              refine jr_iast dX11_tollOf_129 H (fun h33 H => ?_)
              refine jr_aload_n dX11_tollOf_130 rfl rfl ?_
              refine jr_getR fl_RX11_52 dX11_tollOf_131 H (fun v34 H => ?_)
              refine jr_bipush (v := 6) dX11_tollOf_134 (by decide) ?_
              refine jr_iload dX11_tollOf_136 rfl ?_
              refine jr_jn (fun J => ∀ (s35 : Int32) (s36 : Int32) (s37 : Nat) (h38 : jH), J s35 s36 s37 h38 = some (rR, hf) → jGo l (d + 404) none RX11 cX11_tollOf 9 (some .int) false 165 [some (.ref x0), some (.int x1), some (.int x2), some (.int x3), some (.int x4), some (.int x5), some (.int x6), some (.int v9), none] [.int s35, .int s36, .ref s37] h38 (some (.int rR)) hf) H (fun s35 s36 s37 h38 H => ?_) (fun J165 hJ165 H => ?_)
              · refine jr_iast dX11_tollOf_165 H (fun h39 H => ?_)
                refine jr_aload_n dX11_tollOf_166 rfl rfl ?_
                refine jr_aload_n dX11_tollOf_167 rfl rfl ?_
                refine jr_getR fl_RX11_46 dX11_tollOf_168 H (fun v40 H => ?_)
                refine jr_aload_n dX11_tollOf_171 rfl rfl ?_
                refine jr_getI fl_RX11_216 (by decide) dX11_tollOf_172 H (fun v41 H => ?_)
                refine jr_bipush (v := 40) dX11_tollOf_175 (by decide) ?_
                obtain ⟨h42, Hc, H⟩ := Option.bind_eq_some_iff.mp H
                refine jr_callV (ci := 11) [.ref v40, .int v41, .int 40] my_X11_begin mv_X11_begin ml_RX11_144 dX11_tollOf_177 rfl rfl (Nat.le_of_ble_eq_true rfl) rfl (c_X11_begin l (d + 403) F x0 v40 v41 40 h39 h42 Hc) ?_
                refine jr_aload_n dX11_tollOf_180 rfl rfl ?_
                refine jr_iconst (v := 1) dX11_tollOf_181 (by decide) ?_
                refine jr_putZ fl_RX11_209 (fun z => by cases z) rfl rfl dX11_tollOf_182 H (fun h43 H => ?_)
                refine jr_aload_n dX11_tollOf_185 rfl rfl ?_
                refine jr_iconst (v := 0) dX11_tollOf_186 (by decide) ?_
                obtain ⟨v45, h44, Hc, H⟩ := j_b2_some H
                refine jr_callV (ci := 11) [.int 0] my_X11_held mv_X11_held ml_RX11_203 dX11_tollOf_187 rfl rfl (Nat.le_of_ble_eq_true rfl) rfl (c_X11_held l d F x0 0 h43 v45 h44 Hc) ?_
                refine jr_istore dX11_tollOf_190 (by decide) rfl (Or.inl rfl) ?_
                refine jr_aload_n dX11_tollOf_192 rfl rfl ?_
                refine jr_iconst (v := 0) dX11_tollOf_193 (by decide) ?_
                refine jr_putZ fl_RX11_209 (fun z => by cases z) rfl rfl dX11_tollOf_194 H (fun h46 H => ?_)
                exact hJ197 _ _ H
              · refine jr_jn (fun J => ∀ (s47 : Int32) (s48 : Nat) (h49 : jH), J s47 s48 h49 = some (rR, hf) → jGo l (d + 404) none RX11 cX11_tollOf 9 (some .int) false 164 [some (.ref x0), some (.int x1), some (.int x2), some (.int x3), some (.int x4), some (.int x5), some (.int x6), some (.int v9), none] [.int s47, .ref s48] h49 (some (.int rR)) hf) H (fun s47 s48 h49 H => ?_) (fun J164 hJ164 H => ?_)
                · refine jr_iconst (v := 0) dX11_tollOf_164 (by decide) ?_
                  exact hJ165 _ _ _ _ H
                · refine jr_if_le (tgt := 164) dX11_tollOf_138 (by decide) H (fun H => ?_) (fun H => ?_)
                  · refine jr_fgt 8 ?_
                    exact hJ164 _ _ _ H
                  · refine jr_aload_n dX11_tollOf_141 rfl rfl ?_
                    refine jr_iload_n dX11_tollOf_142 rfl rfl ?_
                    refine jr_iload dX11_tollOf_143 rfl ?_
                    obtain ⟨v51, h50, Hc, H⟩ := j_b2_some H
                    refine jr_callV (ci := 11) [.int x1, .int x6] my_X11_letter mv_X11_letter ml_RX11_219 dX11_tollOf_145 rfl rfl (Nat.le_of_ble_eq_true rfl) rfl (c_X11_letter l (d + 403) F x0 x1 x6 h33 v51 h50 Hc) ?_
                    refine jr_aload_n dX11_tollOf_148 rfl rfl ?_
                    refine jr_iload_n dX11_tollOf_149 rfl rfl ?_
                    refine jr_iload dX11_tollOf_150 rfl ?_
                    refine jr_iconst (v := 1) dX11_tollOf_152 (by decide) ?_
                    refine jr_isub dX11_tollOf_153 ?_
                    obtain ⟨v53, h52, Hc, H⟩ := j_b2_some H
                    refine jr_callV (ci := 11) [.int x1, .int (x6 - (1 : Int32))] my_X11_letter mv_X11_letter ml_RX11_219 dX11_tollOf_154 rfl rfl (Nat.le_of_ble_eq_true rfl) rfl (c_X11_letter l (d + 403) F x0 x1 (x6 - (1 : Int32)) h50 v53 h52 Hc) ?_
                    refine jr_icmp_ne (tgt := 164) dX11_tollOf_157 (by decide) H (fun H => ?_) (fun H => ?_)
                    · refine jr_iconst (v := 1) dX11_tollOf_160 (by decide) ?_
                      refine jr_goto (tgt := 165) dX11_tollOf_161 (by decide) ?_
                      refine jr_fgt 8 ?_
                      exact hJ165 _ _ _ _ H
                    · refine jr_fgt 8 ?_
                      exact hJ164 _ _ _ H
set_option maxRecDepth 100000 in
set_option maxHeartbeats 4000000 in
theorem c_X11_tollOf (l : Launch) (d : Nat) (F : Nat) (a0 : Nat) (a1 : Int32) (a2 : Int32) (a3 : Int32) (h : jH) (rR : Int32) (hf : jH) (H : f_X11_tollOf F a0 a1 a2 a3 h = some (rR, hf)) : jh_sh h a0 = (11, 0) ∧ jMet l (d + 404) yX11_tollOf cX11_tollOf 9 (some .int) [.ref a0, .int a1, .int a2, .int a3] h (some (.int rR)) hf := by
  unfold f_X11_tollOf at H
  obtain ⟨hsh, H⟩ := j_gd_some H
  refine ⟨hsh, ?_⟩
  refine jMet.of false [some (.ref a0), some (.int a1), some (.int a2), some (.int a3), none, none, none, none, none] rfl (by decide) (by decide) (Nat.le_of_ble_eq_true rfl) (fun S0 q hq => by simpa [j_l, lv_args, j_v, Value.category] using hq) ?_
  refine jr_iconst (v := 0) dX11_tollOf_0 (by decide) ?_
  refine jr_istore dX11_tollOf_1 (by decide) rfl (Or.inl rfl) ?_
  refine jr_iconst (v := 0) dX11_tollOf_3 (by decide) ?_
  refine jr_istore dX11_tollOf_4 (by decide) rfl (Or.inl rfl) ?_
  refine jr_iconst (v := 0) dX11_tollOf_6 (by decide) ?_
  refine jr_istore dX11_tollOf_7 (by decide) rfl (Or.inl rfl) ?_
  refine s_X11_tollOf_L9 l d F a0 a1 a2 a3 0 0 _ (fun h3 H => ?_) F 0 h H
  · refine jr_iconst (v := 0) dX11_tollOf_29 (by decide) ?_
    refine jr_istore dX11_tollOf_30 (by decide) rfl (Or.inl rfl) ?_
    exact s_X11_tollOf_L32 l d F a0 a1 a2 a3 F 0 0 0 h3 H
set_option maxRecDepth 100000 in
set_option maxHeartbeats 4000000 in
theorem c_X11_tollNow (l : Launch) (d : Nat) (F : Nat) (a0 : Nat) (a1 : Int32) (a2 : Int32) (h : jH) (rR : Int32) (hf : jH) (H : f_X11_tollNow F a0 a1 a2 h = some (rR, hf)) : jh_sh h a0 = (11, 0) ∧ jMet l (d + 405) yX11_tollNow cX11_tollNow 3 (some .int) [.ref a0, .int a1, .int a2] h (some (.int rR)) hf := by
  unfold f_X11_tollNow at H
  obtain ⟨hsh, H⟩ := j_gd_some H
  refine ⟨hsh, ?_⟩
  refine jMet.of false [some (.ref a0), some (.int a1), some (.int a2)] rfl (by decide) (by decide) (Nat.le_of_ble_eq_true rfl) (fun S0 q hq => by simpa [j_l, lv_args, j_v, Value.category] using hq) ?_
  refine jr_aload_n dX11_tollNow_0 rfl rfl ?_
  refine jr_iload_n dX11_tollNow_1 rfl rfl ?_
  refine jr_iload_n dX11_tollNow_2 rfl rfl ?_
  refine jr_aload_n dX11_tollNow_3 rfl rfl ?_
  refine jr_getR fl_RX11_9 dX11_tollNow_4 H (fun v1 H => ?_)
  refine jr_bipush (v := 12) dX11_tollNow_7 (by decide) ?_
  refine jr_iald dX11_tollNow_9 H (fun v2 H => ?_)
  obtain ⟨v4, h3, Hc, H⟩ := j_b2_some H
  refine jr_callV (ci := 11) [.int a1, .int a2, .int v2] my_X11_tollOf mv_X11_tollOf ml_RX11_234 dX11_tollNow_10 rfl rfl (Nat.le_of_ble_eq_true rfl) rfl (c_X11_tollOf l d F a0 a1 a2 v2 h v4 h3 Hc) ?_
  exact jr_iret rfl dX11_tollNow_13 H
set_option maxRecDepth 100000 in
set_option maxHeartbeats 4000000 in
theorem s_X11_often_L5 (l : Launch) (d : Nat) (F : Nat) (x0 : Nat) (x1 : Int32) (x2 : Int32) {rR : Int32} {hf : jH} : ∀ (n : Nat) (x3 : Int32) (x4 : Int32) (h : jH), f_X11_often_L5 F x0 x1 x2 n x3 x4 h = some (rR, hf) → jGo l (d + 1) none RX11 cX11_often 5 (some .int) false 5 [some (.ref x0), some (.int x1), some (.int x2), some (.int x3), some (.int x4)] [] h (some (.int rR)) hf := by
  intro n
  induction n with
  | zero =>
    intro x3 x4 h H
    cases H
  | succ n ih =>
    intro x3 x4 h H
    unfold f_X11_often_L5 at H
    refine jr_iload dX11_often_5 rfl ?_
    refine jr_aload_n dX11_often_7 rfl rfl ?_
    refine jr_getR fl_RX11_21 dX11_often_8 H (fun v1 H => ?_)
    refine jr_iload_n dX11_often_11 rfl rfl ?_
    refine jr_iald dX11_often_12 H (fun v2 H => ?_)
    refine jr_icmp_ge (tgt := 44) dX11_often_13 (by decide) H (fun H => ?_) (fun H => ?_)
    · refine jr_iload_n dX11_often_44 rfl rfl ?_
      exact jr_iret rfl dX11_often_45 H
    · refine jr_iload_n dX11_often_16 rfl rfl ?_
      refine jr_aload_n dX11_often_17 rfl rfl ?_
      refine jr_iload_n dX11_often_18 rfl rfl ?_
      refine jr_iload dX11_often_19 rfl ?_
      obtain ⟨v4, h3, Hc, H⟩ := j_b2_some H
      refine jr_callV (ci := 11) [.int x1, .int x4] my_X11_letter mv_X11_letter ml_RX11_219 dX11_often_21 rfl rfl (Nat.le_of_ble_eq_true rfl) rfl (c_X11_letter l d F x0 x1 x4 h v4 h3 Hc) ?_
      obtain ⟨v6, h5, Hc, H⟩ := j_b2_some H
      refine jr_callS [.int v4] my_X11_vowelOf ms_X11_vowelOf ml_RX11_223 dX11_often_24 rfl rfl (Nat.le_of_ble_eq_true rfl) (c_X11_vowelOf l d F v4 h3 v6 h5 Hc) ?_
      refine jr_iload_n dX11_often_27 rfl rfl ?_
      refine jr_jn (fun J => ∀ (s7 : Int32) (s8 : Int32) (h9 : jH), J s7 s8 h9 = some (rR, hf) → jGo l (d + 1) none RX11 cX11_often 5 (some .int) false 36 [some (.ref x0), some (.int x1), some (.int x2), none, some (.int x4)] [.int s7, .int s8] h9 (some (.int rR)) hf) H (fun s7 s8 h9 H => ?_) (fun J36 hJ36 H => ?_)
      · refine jr_iadd dX11_often_36 ?_
        refine jr_istore_n dX11_often_37 rfl (by decide) rfl (Or.inl rfl) ?_
        refine jr_iinc (v := (x4 + 1)) dX11_often_38 rfl rfl (by decide) rfl (Or.inl rfl) ?_
        refine jr_goto (tgt := 5) dX11_often_41 (by decide) ?_
        exact ih _ _ _ H
      · refine jr_icmp_ne (tgt := 35) dX11_often_28 (by decide) H (fun H => ?_) (fun H => ?_)
        · refine jr_iconst (v := 1) dX11_often_31 (by decide) ?_
          refine jr_goto (tgt := 36) dX11_often_32 (by decide) ?_
          refine jr_fgt 3 ?_
          exact hJ36 _ _ _ H
        · refine jr_iconst (v := 0) dX11_often_35 (by decide) ?_
          refine jr_fgt 3 ?_
          exact hJ36 _ _ _ H
set_option maxRecDepth 100000 in
set_option maxHeartbeats 4000000 in
theorem c_X11_often (l : Launch) (d : Nat) (F : Nat) (a0 : Nat) (a1 : Int32) (a2 : Int32) (h : jH) (rR : Int32) (hf : jH) (H : f_X11_often F a0 a1 a2 h = some (rR, hf)) : jh_sh h a0 = (11, 0) ∧ jMet l (d + 1) yX11_often cX11_often 5 (some .int) [.ref a0, .int a1, .int a2] h (some (.int rR)) hf := by
  unfold f_X11_often at H
  obtain ⟨hsh, H⟩ := j_gd_some H
  refine ⟨hsh, ?_⟩
  refine jMet.of false [some (.ref a0), some (.int a1), some (.int a2), none, none] rfl (by decide) (by decide) (Nat.le_of_ble_eq_true rfl) (fun S0 q hq => by simpa [j_l, lv_args, j_v, Value.category] using hq) ?_
  refine jr_iconst (v := 0) dX11_often_0 (by decide) ?_
  refine jr_istore_n dX11_often_1 rfl (by decide) rfl (Or.inl rfl) ?_
  refine jr_iconst (v := 0) dX11_often_2 (by decide) ?_
  refine jr_istore dX11_often_3 (by decide) rfl (Or.inl rfl) ?_
  exact s_X11_often_L5 l d F a0 a1 a2 F 0 0 h H
set_option maxRecDepth 100000 in
set_option maxHeartbeats 4000000 in
theorem s_X11_vowelsIn_L4 (l : Launch) (d : Nat) (F : Nat) (x0 : Nat) (x1 : Int32) {rR : Int32} {hf : jH} : ∀ (n : Nat) (x2 : Int32) (x3 : Int32) (h : jH), f_X11_vowelsIn_L4 F x0 x1 n x2 x3 h = some (rR, hf) → jGo l (d + 2) none RX11 cX11_vowelsIn 4 (some .int) false 4 [some (.ref x0), some (.int x1), some (.int x2), some (.int x3)] [] h (some (.int rR)) hf := by
  intro n
  induction n with
  | zero =>
    intro x2 x3 h H
    cases H
  | succ n ih =>
    intro x2 x3 h H
    unfold f_X11_vowelsIn_L4 at H
    refine jr_iload_n dX11_vowelsIn_4 rfl rfl ?_
    refine jr_iconst (v := 5) dX11_vowelsIn_5 (by decide) ?_
    refine jr_icmp_ge (tgt := 24) dX11_vowelsIn_6 (by decide) H (fun H => ?_) (fun H => ?_)
    · refine jr_iload_n dX11_vowelsIn_24 rfl rfl ?_
      exact jr_iret rfl dX11_vowelsIn_25 H
    · refine jr_iload_n dX11_vowelsIn_9 rfl rfl ?_
      refine jr_aload_n dX11_vowelsIn_10 rfl rfl ?_
      refine jr_iload_n dX11_vowelsIn_11 rfl rfl ?_
      refine jr_iload_n dX11_vowelsIn_12 rfl rfl ?_
      obtain ⟨v2, h1, Hc, H⟩ := j_b2_some H
      refine jr_callV (ci := 11) [.int x1, .int x3] my_X11_often mv_X11_often ml_RX11_238 dX11_vowelsIn_13 rfl rfl (Nat.le_of_ble_eq_true rfl) rfl (c_X11_often l d F x0 x1 x3 h v2 h1 Hc) ?_
      refine jr_iadd dX11_vowelsIn_16 ?_
      refine jr_istore_n dX11_vowelsIn_17 rfl (by decide) rfl (Or.inl rfl) ?_
      refine jr_iinc (v := (x3 + 1)) dX11_vowelsIn_18 rfl rfl (by decide) rfl (Or.inl rfl) ?_
      refine jr_goto (tgt := 4) dX11_vowelsIn_21 (by decide) ?_
      exact ih _ _ _ H
set_option maxRecDepth 100000 in
set_option maxHeartbeats 4000000 in
theorem c_X11_vowelsIn (l : Launch) (d : Nat) (F : Nat) (a0 : Nat) (a1 : Int32) (h : jH) (rR : Int32) (hf : jH) (H : f_X11_vowelsIn F a0 a1 h = some (rR, hf)) : jh_sh h a0 = (11, 0) ∧ jMet l (d + 2) yX11_vowelsIn cX11_vowelsIn 4 (some .int) [.ref a0, .int a1] h (some (.int rR)) hf := by
  unfold f_X11_vowelsIn at H
  obtain ⟨hsh, H⟩ := j_gd_some H
  refine ⟨hsh, ?_⟩
  refine jMet.of false [some (.ref a0), some (.int a1), none, none] rfl (by decide) (by decide) (Nat.le_of_ble_eq_true rfl) (fun S0 q hq => by simpa [j_l, lv_args, j_v, Value.category] using hq) ?_
  refine jr_iconst (v := 0) dX11_vowelsIn_0 (by decide) ?_
  refine jr_istore_n dX11_vowelsIn_1 rfl (by decide) rfl (Or.inl rfl) ?_
  refine jr_iconst (v := 0) dX11_vowelsIn_2 (by decide) ?_
  refine jr_istore_n dX11_vowelsIn_3 rfl (by decide) rfl (Or.inl rfl) ?_
  exact s_X11_vowelsIn_L4 l d F a0 a1 F 0 0 h H
set_option maxRecDepth 100000 in
set_option maxHeartbeats 4000000 in
theorem c_X11_means (l : Launch) (d : Nat) (F : Nat) (a0 : Nat) (a1 : Int32) (a2 : Int32) (h : jH) (rR : Int32) (hf : jH) (H : f_X11_means F a0 a1 a2 h = some (rR, hf)) : jh_sh h a0 = (11, 0) ∧ jMet l (d + 0) yX11_means cX11_means 3 (some .boolean) [.ref a0, .int a1, .int a2] h (some (.int rR)) hf := by
  unfold f_X11_means at H
  obtain ⟨hsh, H⟩ := j_gd_some H
  refine ⟨hsh, ?_⟩
  refine jMet.of false [some (.ref a0), some (.int a1), some (.int a2)] rfl (by decide) (by decide) (Nat.le_of_ble_eq_true rfl) (fun S0 q hq => by simpa [j_l, lv_args, j_v, Value.category] using hq) ?_
  refine jr_aload_n dX11_means_0 rfl rfl ?_
  refine jr_getR fl_RX11_24 dX11_means_1 H (fun v1 H => ?_)
  refine jr_iconst (v := 2) dX11_means_4 (by decide) ?_
  refine jr_iload_n dX11_means_5 rfl rfl ?_
  refine jr_imul dX11_means_6 ?_
  refine jr_iald dX11_means_7 H (fun v2 H => ?_)
  refine jr_iload_n dX11_means_8 rfl rfl ?_
  refine jr_jn (fun J => ∀ (h3 : jH), J h3 = some (rR, hf) → jGo l (d + 0) none RX11 cX11_means 3 (some .boolean) false 26 [none, none, none] [] h3 (some (.int rR)) hf) H (fun h3 H => ?_) (fun J26 hJ26 H => ?_)
  · refine jr_iconst (v := 1) dX11_means_26 (by decide) ?_
    refine jr_goto (tgt := 31) dX11_means_27 (by decide) ?_
    exact jr_zret rfl rfl dX11_means_31 H
  · refine jr_icmp_eq (tgt := 26) dX11_means_9 (by decide) H (fun H => ?_) (fun H => ?_)
    · refine jr_fgt 0 ?_
      refine jr_fgt 1 ?_
      refine jr_fgt 2 ?_
      exact hJ26 _ H
    · refine jr_aload_n dX11_means_12 rfl rfl ?_
      refine jr_getR fl_RX11_24 dX11_means_13 H (fun v4 H => ?_)
      refine jr_iconst (v := 2) dX11_means_16 (by decide) ?_
      refine jr_iload_n dX11_means_17 rfl rfl ?_
      refine jr_imul dX11_means_18 ?_
      refine jr_iconst (v := 1) dX11_means_19 (by decide) ?_
      refine jr_iadd dX11_means_20 ?_
      refine jr_iald dX11_means_21 H (fun v5 H => ?_)
      refine jr_iload_n dX11_means_22 rfl rfl ?_
      refine jr_icmp_ne (tgt := 30) dX11_means_23 (by decide) H (fun H => ?_) (fun H => ?_)
      · refine jr_fgt 0 ?_
        refine jr_fgt 1 ?_
        refine jr_fgt 2 ?_
        exact hJ26 _ H
      · refine jr_iconst (v := 0) dX11_means_30 (by decide) ?_
        exact jr_zret rfl rfl dX11_means_31 H
set_option maxRecDepth 100000 in
set_option maxHeartbeats 4000000 in
theorem c_X11_word (l : Launch) (d : Nat) (F : Nat) (a0 : Nat) (a1 : Int32) (a2 : Int32) (h : jH) (rR : Int32) (hf : jH) (H : f_X11_word F a0 a1 a2 h = some (rR, hf)) : jh_sh h a0 = (11, 0) ∧ jMet l (d + 3) yX11_word cX11_word 3 (some .int) [.ref a0, .int a1, .int a2] h (some (.int rR)) hf := by
  unfold f_X11_word at H
  obtain ⟨hsh, H⟩ := j_gd_some H
  refine ⟨hsh, ?_⟩
  refine jMet.of false [some (.ref a0), some (.int a1), some (.int a2)] rfl (by decide) (by decide) (Nat.le_of_ble_eq_true rfl) (fun S0 q hq => by simpa [j_l, lv_args, j_v, Value.category] using hq) ?_
  refine jr_aload_n dX11_word_0 rfl rfl ?_
  refine jr_iconst (v := 0) dX11_word_1 (by decide) ?_
  refine jr_putI fl_RX11_110 (fun z => by cases z) dX11_word_2 H (fun h1 H => ?_)
  refine jr_aload_n dX11_word_5 rfl rfl ?_
  refine jr_iload_n dX11_word_6 rfl rfl ?_
  obtain ⟨v3, h2, Hc, H⟩ := j_b2_some H
  refine jr_callV (ci := 11) [.int a1] my_X11_isWord mv_X11_isWord ml_RX11_241 dX11_word_7 rfl rfl (Nat.le_of_ble_eq_true rfl) rfl (c_X11_isWord l (d + 1) F a0 a1 h1 v3 h2 Hc) ?_
  refine jr_jn (fun J => ∀ (h4 : jH), J h4 = some (rR, hf) → jGo l (d + 3) none RX11 cX11_word 3 (some .int) false 23 [some (.ref a0), none, none] [] h4 (some (.int rR)) hf) H (fun h4 H => ?_) (fun J23 hJ23 H => ?_)
  · refine jr_aload_n dX11_word_23 rfl rfl ?_
    obtain ⟨v6, h5, Hc, H⟩ := j_b2_some H
    refine jr_callV (ci := 11) [] my_X11_lost mv_X11_lost ml_RX11_245 dX11_word_24 rfl rfl (Nat.le_of_ble_eq_true rfl) rfl (c_X11_lost l (d + 2) F a0 h4 v6 h5 Hc) ?_
    exact jr_iret rfl dX11_word_27 H
  · refine jr_if_eq (tgt := 23) dX11_word_10 (by decide) H (fun H => ?_) (fun H => ?_)
    · refine jr_fgt 1 ?_
      refine jr_fgt 2 ?_
      exact hJ23 _ H
    · refine jr_iload_n dX11_word_13 rfl rfl ?_
      refine jr_iconst (v := 0) dX11_word_14 (by decide) ?_
      refine jr_bipush (v := 8) dX11_word_15 (by decide) ?_
      obtain ⟨v8, h7, Hc, H⟩ := j_b2_some H
      refine jr_callS [.int a2, .int 0, .int 8] my_X11_in ms_X11_in ml_RX11_116 dX11_word_17 rfl rfl (Nat.le_of_ble_eq_true rfl) (c_X11_in l (d + 2) F a2 0 8 h2 v8 h7 Hc) ?_
      refine jr_if_ne (tgt := 28) dX11_word_20 (by decide) H (fun H => ?_) (fun H => ?_)
      · refine jr_fgt 1 ?_
        refine jr_fgt 2 ?_
        exact hJ23 _ H
      · refine jr_iload_n dX11_word_28 rfl rfl ?_
        refine jr_if_ne (tgt := 41) dX11_word_29 (by decide) H (fun H => ?_) (fun H => ?_)
        · refine jr_aload_n dX11_word_32 rfl rfl ?_
          refine jr_getR fl_RX11_21 dX11_word_33 H (fun v9 H => ?_)
          refine jr_iload_n dX11_word_36 rfl rfl ?_
          refine jr_iald dX11_word_37 H (fun v10 H => ?_)
          refine jr_goto (tgt := 82) dX11_word_38 (by decide) ?_
          exact jr_iret rfl dX11_word_82 H
        · refine jr_iload_n dX11_word_41 rfl rfl ?_
          refine jr_iconst (v := 1) dX11_word_42 (by decide) ?_
          refine jr_icmp_ne (tgt := 54) dX11_word_43 (by decide) H (fun H => ?_) (fun H => ?_)
          · refine jr_aload_n dX11_word_46 rfl rfl ?_
            refine jr_iload_n dX11_word_47 rfl rfl ?_
            obtain ⟨v12, h11, Hc, H⟩ := j_b2_some H
            refine jr_callV (ci := 11) [.int a1] my_X11_vowelsIn mv_X11_vowelsIn ml_RX11_248 dX11_word_48 rfl rfl (Nat.le_of_ble_eq_true rfl) rfl (c_X11_vowelsIn l d F a0 a1 h7 v12 h11 Hc) ?_
            refine jr_goto (tgt := 82) dX11_word_51 (by decide) ?_
            exact jr_iret rfl dX11_word_82 H
          · refine jr_iload_n dX11_word_54 rfl rfl ?_
            refine jr_iconst (v := 4) dX11_word_55 (by decide) ?_
            refine jr_icmp_ge (tgt := 74) dX11_word_56 (by decide) H (fun H => ?_) (fun H => ?_)
            · refine jr_aload_n dX11_word_74 rfl rfl ?_
              refine jr_iload_n dX11_word_75 rfl rfl ?_
              refine jr_iload_n dX11_word_76 rfl rfl ?_
              refine jr_iconst (v := 4) dX11_word_77 (by decide) ?_
              refine jr_isub dX11_word_78 ?_
              obtain ⟨v14, h13, Hc, H⟩ := j_b2_some H
              refine jr_callV (ci := 11) [.int a1, .int (a2 - (4 : Int32))] my_X11_often mv_X11_often ml_RX11_238 dX11_word_79 rfl rfl (Nat.le_of_ble_eq_true rfl) rfl (c_X11_often l (d + 1) F a0 a1 (a2 - (4 : Int32)) h7 v14 h13 Hc) ?_
              exact jr_iret rfl dX11_word_82 H
            · refine jr_aload_n dX11_word_59 rfl rfl ?_
              refine jr_getR fl_RX11_24 dX11_word_60 H (fun v15 H => ?_)
              refine jr_iconst (v := 2) dX11_word_63 (by decide) ?_
              refine jr_iload_n dX11_word_64 rfl rfl ?_
              refine jr_imul dX11_word_65 ?_
              refine jr_iload_n dX11_word_66 rfl rfl ?_
              refine jr_iadd dX11_word_67 ?_
              refine jr_iconst (v := 2) dX11_word_68 (by decide) ?_
              refine jr_isub dX11_word_69 ?_
              refine jr_iald dX11_word_70 H (fun v16 H => ?_)
              refine jr_goto (tgt := 82) dX11_word_71 (by decide) ?_
              exact jr_iret rfl dX11_word_82 H
set_option maxRecDepth 100000 in
set_option maxHeartbeats 4000000 in
theorem c_X11_field (l : Launch) (d : Nat) (F : Nat) (a0 : Nat) (a1 : Int32) (a2 : Int32) (h : jH) (rR : Int32) (hf : jH) (H : f_X11_field F a0 a1 a2 h = some (rR, hf)) : jh_sh h a0 = (11, 0) ∧ jMet l (d + 0) yX11_field cX11_field 3 (some .int) [.ref a0, .int a1, .int a2] h (some (.int rR)) hf := by
  unfold f_X11_field at H
  obtain ⟨hsh, H⟩ := j_gd_some H
  refine ⟨hsh, ?_⟩
  refine jMet.of false [some (.ref a0), some (.int a1), some (.int a2)] rfl (by decide) (by decide) (Nat.le_of_ble_eq_true rfl) (fun S0 q hq => by simpa [j_l, lv_args, j_v, Value.category] using hq) ?_
  refine jr_aload_n dX11_field_0 rfl rfl ?_
  refine jr_getR fl_RX11_27 dX11_field_1 H (fun v1 H => ?_)
  refine jr_iconst (v := 4) dX11_field_4 (by decide) ?_
  refine jr_iload_n dX11_field_5 rfl rfl ?_
  refine jr_imul dX11_field_6 ?_
  refine jr_iload_n dX11_field_7 rfl rfl ?_
  refine jr_iadd dX11_field_8 ?_
  refine jr_iald dX11_field_9 H (fun v2 H => ?_)
  exact jr_iret rfl dX11_field_10 H
set_option maxRecDepth 100000 in
set_option maxHeartbeats 4000000 in
theorem s_X11_openOf_L4 (l : Launch) (d : Nat) (F : Nat) (x0 : Nat) (x1 : Int32) {rR : Int32} {hf : jH} : ∀ (n : Nat) (x2 : Int32) (x3 : Int32) (h : jH), f_X11_openOf_L4 F x0 x1 n x2 x3 h = some (rR, hf) → jGo l (d + 1) none RX11 cX11_openOf 4 (some .int) false 4 [some (.ref x0), some (.int x1), some (.int x2), some (.int x3)] [] h (some (.int rR)) hf := by
  intro n
  induction n with
  | zero =>
    intro x2 x3 h H
    cases H
  | succ n ih =>
    intro x2 x3 h H
    unfold f_X11_openOf_L4 at H
    refine jr_iload_n dX11_openOf_4 rfl rfl ?_
    refine jr_aload_n dX11_openOf_5 rfl rfl ?_
    refine jr_getI fl_RX11_168 (by decide) dX11_openOf_6 H (fun v1 H => ?_)
    refine jr_icmp_ge (tgt := 52) dX11_openOf_9 (by decide) H (fun H => ?_) (fun H => ?_)
    · refine jr_iload_n dX11_openOf_52 rfl rfl ?_
      exact jr_iret rfl dX11_openOf_53 H
    · refine jr_iload_n dX11_openOf_12 rfl rfl ?_
      refine jr_aload_n dX11_openOf_13 rfl rfl ?_
      refine jr_iload_n dX11_openOf_14 rfl rfl ?_
      refine jr_iconst (v := 0) dX11_openOf_15 (by decide) ?_
      obtain ⟨v3, h2, Hc, H⟩ := j_b2_some H
      refine jr_callV (ci := 11) [.int x3, .int 0] my_X11_field mv_X11_field ml_RX11_251 dX11_openOf_16 rfl rfl (Nat.le_of_ble_eq_true rfl) rfl (c_X11_field l d F x0 x3 0 h v3 h2 Hc) ?_
      refine jr_iload_n dX11_openOf_19 rfl rfl ?_
      refine jr_jn (fun J => ∀ (s4 : Int32) (s5 : Int32) (h6 : jH), J s4 s5 h6 = some (rR, hf) → jGo l (d + 1) none RX11 cX11_openOf 4 (some .int) false 44 [some (.ref x0), some (.int x1), none, some (.int x3)] [.int s4, .int s5] h6 (some (.int rR)) hf) H (fun s4 s5 h6 H => ?_) (fun J44 hJ44 H => ?_)
      · refine jr_ior dX11_openOf_44 ?_
        refine jr_istore_n dX11_openOf_45 rfl (by decide) rfl (Or.inl rfl) ?_
        refine jr_iinc (v := (x3 + 1)) dX11_openOf_46 rfl rfl (by decide) rfl (Or.inl rfl) ?_
        refine jr_goto (tgt := 4) dX11_openOf_49 (by decide) ?_
        exact ih _ _ _ H
      · refine jr_jn (fun J => ∀ (s7 : Int32) (h8 : jH), J s7 h8 = some (rR, hf) → jGo l (d + 1) none RX11 cX11_openOf 4 (some .int) false 43 [some (.ref x0), some (.int x1), none, some (.int x3)] [.int s7] h8 (some (.int rR)) hf) H (fun s7 h8 H => ?_) (fun J43 hJ43 H => ?_)
        · refine jr_iconst (v := 0) dX11_openOf_43 (by decide) ?_
          exact hJ44 _ _ _ H
        · refine jr_icmp_ne (tgt := 43) dX11_openOf_20 (by decide) H (fun H => ?_) (fun H => ?_)
          · refine jr_aload_n dX11_openOf_23 rfl rfl ?_
            refine jr_getR fl_RX11_9 dX11_openOf_24 H (fun v9 H => ?_)
            refine jr_bipush (v := 13) dX11_openOf_27 (by decide) ?_
            refine jr_iald dX11_openOf_29 H (fun v10 H => ?_)
            refine jr_iload_n dX11_openOf_30 rfl rfl ?_
            obtain ⟨v12, h11, Hc, H⟩ := j_b2_some H
            refine jr_callS [.int v10, .int x3] my_X11_has ms_X11_has ml_RX11_254 dX11_openOf_31 rfl rfl (Nat.le_of_ble_eq_true rfl) (c_X11_has l d F v10 x3 h2 v12 h11 Hc) ?_
            refine jr_if_ne (tgt := 43) dX11_openOf_34 (by decide) H (fun H => ?_) (fun H => ?_)
            · refine jr_iconst (v := 1) dX11_openOf_37 (by decide) ?_
              refine jr_iload_n dX11_openOf_38 rfl rfl ?_
              refine jr_ishl dX11_openOf_39 ?_
              refine jr_goto (tgt := 44) dX11_openOf_40 (by decide) ?_
              refine jr_fgt 2 ?_
              exact hJ44 _ _ _ H
            · refine jr_fgt 2 ?_
              exact hJ43 _ _ H
          · refine jr_fgt 2 ?_
            exact hJ43 _ _ H
set_option maxRecDepth 100000 in
set_option maxHeartbeats 4000000 in
theorem c_X11_openOf (l : Launch) (d : Nat) (F : Nat) (a0 : Nat) (a1 : Int32) (h : jH) (rR : Int32) (hf : jH) (H : f_X11_openOf F a0 a1 h = some (rR, hf)) : jh_sh h a0 = (11, 0) ∧ jMet l (d + 1) yX11_openOf cX11_openOf 4 (some .int) [.ref a0, .int a1] h (some (.int rR)) hf := by
  unfold f_X11_openOf at H
  obtain ⟨hsh, H⟩ := j_gd_some H
  refine ⟨hsh, ?_⟩
  refine jMet.of false [some (.ref a0), some (.int a1), none, none] rfl (by decide) (by decide) (Nat.le_of_ble_eq_true rfl) (fun S0 q hq => by simpa [j_l, lv_args, j_v, Value.category] using hq) ?_
  refine jr_iconst (v := 0) dX11_openOf_0 (by decide) ?_
  refine jr_istore_n dX11_openOf_1 rfl (by decide) rfl (Or.inl rfl) ?_
  refine jr_iconst (v := 0) dX11_openOf_2 (by decide) ?_
  refine jr_istore_n dX11_openOf_3 rfl (by decide) rfl (Or.inl rfl) ?_
  exact s_X11_openOf_L4 l d F a0 a1 F 0 0 h H
set_option maxRecDepth 100000 in
set_option maxHeartbeats 4000000 in
theorem s_X11_traveller_L59 (l : Launch) (d : Nat) (F : Nat) (x0 : Nat) (x1 : Int32) {rR : Int32} {hf : jH} : ∀ (n : Nat) (x3 : Int32) (x4 : Int32) (h : jH), f_X11_traveller_L59 F x0 x1 n x3 x4 h = some (rR, hf) → jGo l (d + 2) none RX11 cX11_traveller 5 (some .int) false 59 [some (.ref x0), some (.int x1), none, some (.int x3), some (.int x4)] [] h (some (.int rR)) hf := by
  intro n
  induction n with
  | zero =>
    intro x3 x4 h H
    cases H
  | succ n ih =>
    intro x3 x4 h H
    unfold f_X11_traveller_L59 at H
    refine jr_iload dX11_traveller_59 rfl ?_
    refine jr_aload_n dX11_traveller_61 rfl rfl ?_
    refine jr_getI fl_RX11_168 (by decide) dX11_traveller_62 H (fun v11 H => ?_)
    refine jr_icmp_ge (tgt := 114) dX11_traveller_65 (by decide) H (fun H => ?_) (fun H => ?_)
    · refine jr_iload_n dX11_traveller_114 rfl rfl ?_
      exact jr_iret rfl dX11_traveller_115 H
    · refine jr_iload_n dX11_traveller_68 rfl rfl ?_
      refine jr_aload_n dX11_traveller_69 rfl rfl ?_
      refine jr_iload dX11_traveller_70 rfl ?_
      refine jr_iconst (v := 0) dX11_traveller_72 (by decide) ?_
      obtain ⟨v13, h12, Hc, H⟩ := j_b2_some H
      refine jr_callV (ci := 11) [.int x4, .int 0] my_X11_field mv_X11_field ml_RX11_251 dX11_traveller_73 rfl rfl (Nat.le_of_ble_eq_true rfl) rfl (c_X11_field l (d + 1) F x0 x4 0 h v13 h12 Hc) ?_
      refine jr_iload_n dX11_traveller_76 rfl rfl ?_
      refine jr_jn (fun J => ∀ (s14 : Int32) (s15 : Int32) (h16 : jH), J s14 s15 h16 = some (rR, hf) → jGo l (d + 2) none RX11 cX11_traveller 5 (some .int) false 106 [some (.ref x0), some (.int x1), none, none, some (.int x4)] [.int s14, .int s15] h16 (some (.int rR)) hf) H (fun s14 s15 h16 H => ?_) (fun J106 hJ106 H => ?_)
      · refine jr_iadd dX11_traveller_106 ?_
        refine jr_istore_n dX11_traveller_107 rfl (by decide) rfl (Or.inl rfl) ?_
        refine jr_iinc (v := (x4 + 1)) dX11_traveller_108 rfl rfl (by decide) rfl (Or.inl rfl) ?_
        refine jr_goto (tgt := 59) dX11_traveller_111 (by decide) ?_
        exact ih _ _ _ H
      · refine jr_jn (fun J => ∀ (s17 : Int32) (h18 : jH), J s17 h18 = some (rR, hf) → jGo l (d + 2) none RX11 cX11_traveller 5 (some .int) false 105 [some (.ref x0), some (.int x1), none, none, some (.int x4)] [.int s17] h18 (some (.int rR)) hf) H (fun s17 h18 H => ?_) (fun J105 hJ105 H => ?_)
        · refine jr_iconst (v := 0) dX11_traveller_105 (by decide) ?_
          exact hJ106 _ _ _ H
        · refine jr_icmp_ne (tgt := 105) dX11_traveller_77 (by decide) H (fun H => ?_) (fun H => ?_)
          · refine jr_aload_n dX11_traveller_80 rfl rfl ?_
            refine jr_getR fl_RX11_9 dX11_traveller_81 H (fun v19 H => ?_)
            refine jr_bipush (v := 13) dX11_traveller_84 (by decide) ?_
            refine jr_iald dX11_traveller_86 H (fun v20 H => ?_)
            refine jr_iload dX11_traveller_87 rfl ?_
            obtain ⟨v22, h21, Hc, H⟩ := j_b2_some H
            refine jr_callS [.int v20, .int x4] my_X11_has ms_X11_has ml_RX11_254 dX11_traveller_89 rfl rfl (Nat.le_of_ble_eq_true rfl) (c_X11_has l (d + 1) F v20 x4 h12 v22 h21 Hc) ?_
            refine jr_if_eq (tgt := 105) dX11_traveller_92 (by decide) H (fun H => ?_) (fun H => ?_)
            · refine jr_fgt 3 ?_
              exact hJ105 _ _ H
            · refine jr_aload_n dX11_traveller_95 rfl rfl ?_
              refine jr_iload dX11_traveller_96 rfl ?_
              refine jr_iconst (v := 3) dX11_traveller_98 (by decide) ?_
              obtain ⟨v24, h23, Hc, H⟩ := j_b2_some H
              refine jr_callV (ci := 11) [.int x4, .int 3] my_X11_field mv_X11_field ml_RX11_251 dX11_traveller_99 rfl rfl (Nat.le_of_ble_eq_true rfl) rfl (c_X11_field l (d + 1) F x0 x4 3 h21 v24 h23 Hc) ?_
              refine jr_goto (tgt := 106) dX11_traveller_102 (by decide) ?_
              refine jr_fgt 3 ?_
              exact hJ106 _ _ _ H
          · refine jr_fgt 3 ?_
            exact hJ105 _ _ H
set_option maxRecDepth 100000 in
set_option maxHeartbeats 4000000 in
theorem c_X11_traveller (l : Launch) (d : Nat) (F : Nat) (a0 : Nat) (a1 : Int32) (a2 : Int32) (h : jH) (rR : Int32) (hf : jH) (H : f_X11_traveller F a0 a1 a2 h = some (rR, hf)) : jh_sh h a0 = (11, 0) ∧ jMet l (d + 2) yX11_traveller cX11_traveller 5 (some .int) [.ref a0, .int a1, .int a2] h (some (.int rR)) hf := by
  unfold f_X11_traveller at H
  obtain ⟨hsh, H⟩ := j_gd_some H
  refine ⟨hsh, ?_⟩
  refine jMet.of false [some (.ref a0), some (.int a1), some (.int a2), none, none] rfl (by decide) (by decide) (Nat.le_of_ble_eq_true rfl) (fun S0 q hq => by simpa [j_l, lv_args, j_v, Value.category] using hq) ?_
  refine jr_aload_n dX11_traveller_0 rfl rfl ?_
  refine jr_iconst (v := 0) dX11_traveller_1 (by decide) ?_
  refine jr_putI fl_RX11_110 (fun z => by cases z) dX11_traveller_2 H (fun h1 H => ?_)
  refine jr_aload_n dX11_traveller_5 rfl rfl ?_
  refine jr_iload_n dX11_traveller_6 rfl rfl ?_
  obtain ⟨v3, h2, Hc, H⟩ := j_b2_some H
  refine jr_callV (ci := 11) [.int a1] my_X11_isOne mv_X11_isOne ml_RX11_258 dX11_traveller_7 rfl rfl (Nat.le_of_ble_eq_true rfl) rfl (c_X11_isOne l d F a0 a1 h1 v3 h2 Hc) ?_
  refine jr_jn (fun J => ∀ (h4 : jH), J h4 = some (rR, hf) → jGo l (d + 2) none RX11 cX11_traveller 5 (some .int) false 22 [some (.ref a0), none, none, none, none] [] h4 (some (.int rR)) hf) H (fun h4 H => ?_) (fun J22 hJ22 H => ?_)
  · refine jr_aload_n dX11_traveller_22 rfl rfl ?_
    obtain ⟨v6, h5, Hc, H⟩ := j_b2_some H
    refine jr_callV (ci := 11) [] my_X11_lost mv_X11_lost ml_RX11_245 dX11_traveller_23 rfl rfl (Nat.le_of_ble_eq_true rfl) rfl (c_X11_lost l (d + 1) F a0 h4 v6 h5 Hc) ?_
    exact jr_iret rfl dX11_traveller_26 H
  · refine jr_if_eq (tgt := 22) dX11_traveller_10 (by decide) H (fun H => ?_) (fun H => ?_)
    · refine jr_fgt 1 ?_
      refine jr_fgt 2 ?_
      exact hJ22 _ H
    · refine jr_iload_n dX11_traveller_13 rfl rfl ?_
      refine jr_iconst (v := 0) dX11_traveller_14 (by decide) ?_
      refine jr_iconst (v := 4) dX11_traveller_15 (by decide) ?_
      obtain ⟨v8, h7, Hc, H⟩ := j_b2_some H
      refine jr_callS [.int a2, .int 0, .int 4] my_X11_in ms_X11_in ml_RX11_116 dX11_traveller_16 rfl rfl (Nat.le_of_ble_eq_true rfl) (c_X11_in l (d + 1) F a2 0 4 h2 v8 h7 Hc) ?_
      refine jr_if_ne (tgt := 27) dX11_traveller_19 (by decide) H (fun H => ?_) (fun H => ?_)
      · refine jr_fgt 1 ?_
        refine jr_fgt 2 ?_
        exact hJ22 _ H
      · refine jr_iload_n dX11_traveller_27 rfl rfl ?_
        refine jr_iconst (v := 3) dX11_traveller_28 (by decide) ?_
        refine jr_icmp_ge (tgt := 43) dX11_traveller_29 (by decide) H (fun H => ?_) (fun H => ?_)
        · refine jr_iload_n dX11_traveller_43 rfl rfl ?_
          refine jr_iconst (v := 3) dX11_traveller_44 (by decide) ?_
          refine jr_icmp_ne (tgt := 54) dX11_traveller_45 (by decide) H (fun H => ?_) (fun H => ?_)
          · refine jr_aload_n dX11_traveller_48 rfl rfl ?_
            refine jr_iload_n dX11_traveller_49 rfl rfl ?_
            obtain ⟨v10, h9, Hc, H⟩ := j_b2_some H
            refine jr_callV (ci := 11) [.int a1] my_X11_openOf mv_X11_openOf ml_RX11_261 dX11_traveller_50 rfl rfl (Nat.le_of_ble_eq_true rfl) rfl (c_X11_openOf l d F a0 a1 h7 v10 h9 Hc) ?_
            exact jr_iret rfl dX11_traveller_53 H
          · refine jr_iconst (v := 0) dX11_traveller_54 (by decide) ?_
            refine jr_istore_n dX11_traveller_55 rfl (by decide) rfl (Or.inl rfl) ?_
            refine jr_iconst (v := 0) dX11_traveller_56 (by decide) ?_
            refine jr_istore dX11_traveller_57 (by decide) rfl (Or.inl rfl) ?_
            refine jr_fgt 2 ?_
            exact s_X11_traveller_L59 l d F a0 a1 F 0 0 h7 H
        · refine jr_aload_n dX11_traveller_32 rfl rfl ?_
          refine jr_getR fl_RX11_9 dX11_traveller_33 H (fun v25 H => ?_)
          refine jr_iconst (v := 4) dX11_traveller_36 (by decide) ?_
          refine jr_iload_n dX11_traveller_37 rfl rfl ?_
          refine jr_imul dX11_traveller_38 ?_
          refine jr_iload_n dX11_traveller_39 rfl rfl ?_
          refine jr_iadd dX11_traveller_40 ?_
          refine jr_iald dX11_traveller_41 H (fun v26 H => ?_)
          exact jr_iret rfl dX11_traveller_42 H
set_option maxRecDepth 100000 in
set_option maxHeartbeats 4000000 in
theorem c_X11_errand (l : Launch) (d : Nat) (F : Nat) (a0 : Nat) (a1 : Int32) (a2 : Int32) (h : jH) (rR : Int32) (hf : jH) (H : f_X11_errand F a0 a1 a2 h = some (rR, hf)) : jh_sh h a0 = (11, 0) ∧ jMet l (d + 1) yX11_errand cX11_errand 3 (some .int) [.ref a0, .int a1, .int a2] h (some (.int rR)) hf := by
  unfold f_X11_errand at H
  obtain ⟨hsh, H⟩ := j_gd_some H
  refine ⟨hsh, ?_⟩
  refine jMet.of false [some (.ref a0), some (.int a1), some (.int a2)] rfl (by decide) (by decide) (Nat.le_of_ble_eq_true rfl) (fun S0 q hq => by simpa [j_l, lv_args, j_v, Value.category] using hq) ?_
  refine jr_aload_n dX11_errand_0 rfl rfl ?_
  refine jr_iconst (v := 0) dX11_errand_1 (by decide) ?_
  refine jr_putI fl_RX11_110 (fun z => by cases z) dX11_errand_2 H (fun h1 H => ?_)
  refine jr_iload_n dX11_errand_5 rfl rfl ?_
  refine jr_iconst (v := 0) dX11_errand_6 (by decide) ?_
  refine jr_aload_n dX11_errand_7 rfl rfl ?_
  refine jr_getI fl_RX11_168 (by decide) dX11_errand_8 H (fun v2 H => ?_)
  refine jr_iconst (v := 1) dX11_errand_11 (by decide) ?_
  refine jr_isub dX11_errand_12 ?_
  obtain ⟨v4, h3, Hc, H⟩ := j_b2_some H
  refine jr_callS [.int a1, .int 0, .int (v2 - (1 : Int32))] my_X11_in ms_X11_in ml_RX11_116 dX11_errand_13 rfl rfl (Nat.le_of_ble_eq_true rfl) (c_X11_in l d F a1 0 (v2 - (1 : Int32)) h1 v4 h3 Hc) ?_
  refine jr_jn (fun J => ∀ (h5 : jH), J h5 = some (rR, hf) → jGo l (d + 1) none RX11 cX11_errand 3 (some .int) false 28 [some (.ref a0), none, none] [] h5 (some (.int rR)) hf) H (fun h5 H => ?_) (fun J28 hJ28 H => ?_)
  · refine jr_aload_n dX11_errand_28 rfl rfl ?_
    obtain ⟨v7, h6, Hc, H⟩ := j_b2_some H
    refine jr_callV (ci := 11) [] my_X11_lost mv_X11_lost ml_RX11_245 dX11_errand_29 rfl rfl (Nat.le_of_ble_eq_true rfl) rfl (c_X11_lost l d F a0 h5 v7 h6 Hc) ?_
    exact jr_iret rfl dX11_errand_32 H
  · refine jr_if_eq (tgt := 28) dX11_errand_16 (by decide) H (fun H => ?_) (fun H => ?_)
    · refine jr_fgt 1 ?_
      refine jr_fgt 2 ?_
      exact hJ28 _ H
    · refine jr_iload_n dX11_errand_19 rfl rfl ?_
      refine jr_iconst (v := 0) dX11_errand_20 (by decide) ?_
      refine jr_iconst (v := 4) dX11_errand_21 (by decide) ?_
      obtain ⟨v9, h8, Hc, H⟩ := j_b2_some H
      refine jr_callS [.int a2, .int 0, .int 4] my_X11_in ms_X11_in ml_RX11_116 dX11_errand_22 rfl rfl (Nat.le_of_ble_eq_true rfl) (c_X11_in l d F a2 0 4 h3 v9 h8 Hc) ?_
      refine jr_if_ne (tgt := 33) dX11_errand_25 (by decide) H (fun H => ?_) (fun H => ?_)
      · refine jr_fgt 1 ?_
        refine jr_fgt 2 ?_
        exact hJ28 _ H
      · refine jr_iload_n dX11_errand_33 rfl rfl ?_
        refine jr_iconst (v := 4) dX11_errand_34 (by decide) ?_
        refine jr_icmp_ge (tgt := 47) dX11_errand_35 (by decide) H (fun H => ?_) (fun H => ?_)
        · refine jr_aload_n dX11_errand_47 rfl rfl ?_
          refine jr_getR fl_RX11_9 dX11_errand_48 H (fun v10 H => ?_)
          refine jr_bipush (v := 13) dX11_errand_51 (by decide) ?_
          refine jr_iald dX11_errand_53 H (fun v11 H => ?_)
          refine jr_iload_n dX11_errand_54 rfl rfl ?_
          refine jr_ishr dX11_errand_55 ?_
          refine jr_iconst (v := 1) dX11_errand_56 (by decide) ?_
          refine jr_iand dX11_errand_57 ?_
          exact jr_iret rfl dX11_errand_58 H
        · refine jr_aload_n dX11_errand_38 rfl rfl ?_
          refine jr_iload_n dX11_errand_39 rfl rfl ?_
          refine jr_iload_n dX11_errand_40 rfl rfl ?_
          obtain ⟨v13, h12, Hc, H⟩ := j_b2_some H
          refine jr_callV (ci := 11) [.int a1, .int a2] my_X11_field mv_X11_field ml_RX11_251 dX11_errand_41 rfl rfl (Nat.le_of_ble_eq_true rfl) rfl (c_X11_field l d F a0 a1 a2 h8 v13 h12 Hc) ?_
          refine jr_goto (tgt := 58) dX11_errand_44 (by decide) ?_
          exact jr_iret rfl dX11_errand_58 H
set_option maxRecDepth 100000 in
set_option maxHeartbeats 4000000 in
theorem c_X11_book (l : Launch) (d : Nat) (F : Nat) (a0 : Nat) (a1 : Int32) (a2 : Int32) (h : jH) (rR : Int32) (hf : jH) (H : f_X11_book F a0 a1 a2 h = some (rR, hf)) : jh_sh h a0 = (11, 0) ∧ jMet l (d + 2) yX11_book cX11_book 3 (some .int) [.ref a0, .int a1, .int a2] h (some (.int rR)) hf := by
  unfold f_X11_book at H
  obtain ⟨hsh, H⟩ := j_gd_some H
  refine ⟨hsh, ?_⟩
  refine jMet.of false [some (.ref a0), some (.int a1), some (.int a2)] rfl (by decide) (by decide) (Nat.le_of_ble_eq_true rfl) (fun S0 q hq => by simpa [j_l, lv_args, j_v, Value.category] using hq) ?_
  refine jr_aload_n dX11_book_0 rfl rfl ?_
  refine jr_iconst (v := 0) dX11_book_1 (by decide) ?_
  refine jr_putI fl_RX11_110 (fun z => by cases z) dX11_book_2 H (fun h1 H => ?_)
  refine jr_aload_n dX11_book_5 rfl rfl ?_
  refine jr_iload_n dX11_book_6 rfl rfl ?_
  obtain ⟨v3, h2, Hc, H⟩ := j_b2_some H
  refine jr_callV (ci := 11) [.int a1] my_X11_isStation mv_X11_isStation ml_RX11_264 dX11_book_7 rfl rfl (Nat.le_of_ble_eq_true rfl) rfl (c_X11_isStation l d F a0 a1 h1 v3 h2 Hc) ?_
  refine jr_jn (fun J => ∀ (h4 : jH), J h4 = some (rR, hf) → jGo l (d + 2) none RX11 cX11_book 3 (some .int) false 38 [some (.ref a0), none, none] [] h4 (some (.int rR)) hf) H (fun h4 H => ?_) (fun J38 hJ38 H => ?_)
  · refine jr_aload_n dX11_book_38 rfl rfl ?_
    obtain ⟨v6, h5, Hc, H⟩ := j_b2_some H
    refine jr_callV (ci := 11) [] my_X11_lost mv_X11_lost ml_RX11_245 dX11_book_39 rfl rfl (Nat.le_of_ble_eq_true rfl) rfl (c_X11_lost l (d + 1) F a0 h4 v6 h5 Hc) ?_
    exact jr_iret rfl dX11_book_42 H
  · refine jr_if_eq (tgt := 38) dX11_book_10 (by decide) H (fun H => ?_) (fun H => ?_)
    · refine jr_fgt 1 ?_
      refine jr_fgt 2 ?_
      exact hJ38 _ H
    · refine jr_iload_n dX11_book_13 rfl rfl ?_
      refine jr_iconst (v := 0) dX11_book_14 (by decide) ?_
      refine jr_iconst (v := 4) dX11_book_15 (by decide) ?_
      obtain ⟨v8, h7, Hc, H⟩ := j_b2_some H
      refine jr_callS [.int a2, .int 0, .int 4] my_X11_in ms_X11_in ml_RX11_116 dX11_book_16 rfl rfl (Nat.le_of_ble_eq_true rfl) (c_X11_in l (d + 1) F a2 0 4 h2 v8 h7 Hc) ?_
      refine jr_if_eq (tgt := 38) dX11_book_19 (by decide) H (fun H => ?_) (fun H => ?_)
      · refine jr_fgt 1 ?_
        refine jr_fgt 2 ?_
        exact hJ38 _ H
      · refine jr_aload_n dX11_book_22 rfl rfl ?_
        refine jr_getR fl_RX11_9 dX11_book_23 H (fun v9 H => ?_)
        refine jr_bipush (v := 14) dX11_book_26 (by decide) ?_
        refine jr_iconst (v := 5) dX11_book_28 (by decide) ?_
        refine jr_iload_n dX11_book_29 rfl rfl ?_
        refine jr_imul dX11_book_30 ?_
        refine jr_iadd dX11_book_31 ?_
        refine jr_iload_n dX11_book_32 rfl rfl ?_
        refine jr_iadd dX11_book_33 ?_
        refine jr_iald dX11_book_34 H (fun v10 H => ?_)
        refine jr_goto (tgt := 42) dX11_book_35 (by decide) ?_
        exact jr_iret rfl dX11_book_42 H
set_option maxRecDepth 100000 in
set_option maxHeartbeats 4000000 in
theorem s_X11_sheet_L42 (l : Launch) (d : Nat) (F : Nat) (x0 : Nat) (x1 : Int32) (x2 : Int32) (x4 : Int32) (k139 : Int32 → jH → Option (Int32 × jH)) {rR : Int32} {hf : jH} (hk139 : ∀ (y5 : Int32) (h : jH), k139 y5 h = some (rR, hf) → jGo l (d + 1) none RX11 cX11_sheet 9 (some .int) false 139 [none, some (.int x1), none, none, none, some (.int y5), none, none, none] [] h (some (.int rR)) hf) : ∀ (n : Nat) (x5 : Int32) (x6 : Int32) (x7 : Int32) (h : jH), f_X11_sheet_L42 F x0 x1 x2 x4 k139 n x5 x6 x7 h = some (rR, hf) → jGo l (d + 1) none RX11 cX11_sheet 9 (some .int) false 42 [some (.ref x0), some (.int x1), some (.int x2), none, some (.int x4), some (.int x5), some (.int x6), some (.int x7), none] [] h (some (.int rR)) hf := by
  intro n
  induction n with
  | zero =>
    intro x5 x6 x7 h H
    cases H
  | succ n ih =>
    intro x5 x6 x7 h H
    unfold f_X11_sheet_L42 at H
    refine jr_iload dX11_sheet_42 rfl ?_
    refine jr_aload_n dX11_sheet_44 rfl rfl ?_
    refine jr_getI fl_RX11_123 (by decide) dX11_sheet_45 H (fun v5 H => ?_)
    refine jr_icmp_ge (tgt := 139) dX11_sheet_48 (by decide) H (fun H => ?_) (fun H => ?_)
    · refine jr_fgt 0 ?_
      refine jr_fgt 2 ?_
      refine jr_fgt 4 ?_
      refine jr_fgt 6 ?_
      refine jr_fgt 7 ?_
      exact hk139 _ _ H
    · refine jr_iload_n dX11_sheet_51 rfl rfl ?_
      refine jr_jn (fun J => ∀ (s6 : Int32) (h7 : jH), J s6 h7 = some (rR, hf) → jGo l (d + 1) none RX11 cX11_sheet 9 (some .int) false 74 [some (.ref x0), some (.int x1), some (.int x2), none, some (.int x4), some (.int x5), some (.int x6), some (.int x7), none] [.int s6] h7 (some (.int rR)) hf) H (fun s6 h7 H => ?_) (fun J74 hJ74 H => ?_)
      · refine jr_istore dX11_sheet_74 (by decide) rfl (Or.inl rfl) ?_
        refine jr_aload_n dX11_sheet_76 rfl rfl ?_
        refine jr_getR fl_RX11_9 dX11_sheet_77 H (fun v8 H => ?_)
        refine jr_iconst (v := 4) dX11_sheet_80 (by decide) ?_
        refine jr_iload dX11_sheet_81 rfl ?_
        refine jr_iadd dX11_sheet_83 ?_
        refine jr_iload_n dX11_sheet_84 rfl rfl ?_
        refine jr_iconst (v := 3) dX11_sheet_85 (by decide) ?_
        refine jr_jn (fun J => ∀ (s9 : Int32) (s10 : Int32) (s11 : Nat) (h12 : jH), J s9 s10 s11 h12 = some (rR, hf) → jGo l (d + 1) none RX11 cX11_sheet 9 (some .int) false 111 [some (.ref x0), some (.int x1), some (.int x2), none, some (.int x4), some (.int x5), some (.int x6), some (.int x7), none] [.int s9, .int s10, .ref s11] h12 (some (.int rR)) hf) H (fun s9 s10 s11 h12 H => ?_) (fun J111 hJ111 H => ?_)
        · refine jr_iast dX11_sheet_111 H (fun h13 H => ?_)
          refine jr_iload dX11_sheet_112 rfl ?_
          refine jr_aload_n dX11_sheet_114 rfl rfl ?_
          refine jr_getR fl_RX11_9 dX11_sheet_115 H (fun v14 H => ?_)
          refine jr_iconst (v := 4) dX11_sheet_118 (by decide) ?_
          refine jr_iload dX11_sheet_119 rfl ?_
          refine jr_iadd dX11_sheet_121 ?_
          refine jr_iald dX11_sheet_122 H (fun v15 H => ?_)
          refine jr_iadd dX11_sheet_123 ?_
          refine jr_istore dX11_sheet_124 (by decide) rfl (Or.inl rfl) ?_
          refine jr_iload dX11_sheet_126 rfl ?_
          refine jr_iload dX11_sheet_128 rfl ?_
          refine jr_iadd dX11_sheet_130 ?_
          refine jr_istore dX11_sheet_131 (by decide) rfl (Or.inl rfl) ?_
          refine jr_iinc (v := (x7 + 1)) dX11_sheet_133 rfl rfl (by decide) rfl (Or.inl rfl) ?_
          refine jr_goto (tgt := 42) dX11_sheet_136 (by decide) ?_
          exact ih _ _ _ _ H
        · refine jr_jn (fun J => ∀ (s16 : Int32) (s17 : Nat) (h18 : jH), J s16 s17 h18 = some (rR, hf) → jGo l (d + 1) none RX11 cX11_sheet 9 (some .int) false 95 [some (.ref x0), some (.int x1), some (.int x2), none, some (.int x4), some (.int x5), some (.int x6), some (.int x7), none] [.int s16, .ref s17] h18 (some (.int rR)) hf) H (fun s16 s17 h18 H => ?_) (fun J95 hJ95 H => ?_)
          · refine jr_iconst (v := 0) dX11_sheet_95 (by decide) ?_
            refine jr_goto (tgt := 111) dX11_sheet_96 (by decide) ?_
            exact hJ111 _ _ _ _ H
          · refine jr_icmp_eq (tgt := 95) dX11_sheet_86 (by decide) H (fun H => ?_) (fun H => ?_)
            · refine jr_fgt 8 ?_
              exact hJ95 _ _ _ H
            · refine jr_iload dX11_sheet_89 rfl ?_
              refine jr_iload_n dX11_sheet_91 rfl rfl ?_
              refine jr_icmp_lt (tgt := 99) dX11_sheet_92 (by decide) H (fun H => ?_) (fun H => ?_)
              · refine jr_iconst (v := 0) dX11_sheet_99 (by decide) ?_
                refine jr_sipush (v := 9999) dX11_sheet_100 (by decide) ?_
                refine jr_iload dX11_sheet_103 rfl ?_
                refine jr_mmin ml_RX11_226 mm_mmin_s mm_i mm_mmin_c dX11_sheet_105 (Nat.le_of_ble_eq_true rfl) ?_
                refine jr_mmax ml_RX11_231 mm_mmax_s mm_i mm_mmax_c dX11_sheet_108 (Nat.le_of_ble_eq_true rfl) ?_
                refine jr_fgt 8 ?_
                exact hJ111 _ _ _ _ H
              · refine jr_fgt 8 ?_
                exact hJ95 _ _ _ H
      · refine jr_if_ne (tgt := 61) dX11_sheet_52 (by decide) H (fun H => ?_) (fun H => ?_)
        · refine jr_iload dX11_sheet_55 rfl ?_
          refine jr_i2b dX11_sheet_57 ?_
          refine jr_goto (tgt := 74) dX11_sheet_58 (by decide) ?_
          exact hJ74 _ _ H
        · refine jr_iload_n dX11_sheet_61 rfl rfl ?_
          refine jr_iconst (v := 1) dX11_sheet_62 (by decide) ?_
          refine jr_icmp_ne (tgt := 72) dX11_sheet_63 (by decide) H (fun H => ?_) (fun H => ?_)
          · refine jr_iload dX11_sheet_66 rfl ?_
            refine jr_i2s dX11_sheet_68 ?_
            refine jr_goto (tgt := 74) dX11_sheet_69 (by decide) ?_
            exact hJ74 _ _ H
          · refine jr_iload dX11_sheet_72 rfl ?_
            exact hJ74 _ _ H
set_option maxRecDepth 100000 in
set_option maxHeartbeats 4000000 in
theorem c_X11_sheet (l : Launch) (d : Nat) (F : Nat) (a0 : Nat) (a1 : Int32) (a2 : Int32) (a3 : Int32) (a4 : Int32) (h : jH) (rR : Int32) (hf : jH) (H : f_X11_sheet F a0 a1 a2 a3 a4 h = some (rR, hf)) : jh_sh h a0 = (11, 0) ∧ jMet l (d + 1) yX11_sheet cX11_sheet 9 (some .int) [.ref a0, .int a1, .int a2, .int a3, .int a4] h (some (.int rR)) hf := by
  unfold f_X11_sheet at H
  obtain ⟨hsh, H⟩ := j_gd_some H
  refine ⟨hsh, ?_⟩
  refine jMet.of false [some (.ref a0), some (.int a1), some (.int a2), some (.int a3), some (.int a4), none, none, none, none] rfl (by decide) (by decide) (Nat.le_of_ble_eq_true rfl) (fun S0 q hq => by simpa [j_l, lv_args, j_v, Value.category] using hq) ?_
  refine jr_aload_n dX11_sheet_0 rfl rfl ?_
  refine jr_iconst (v := 0) dX11_sheet_1 (by decide) ?_
  refine jr_putI fl_RX11_110 (fun z => by cases z) dX11_sheet_2 H (fun h1 H => ?_)
  refine jr_iload_n dX11_sheet_5 rfl rfl ?_
  refine jr_iconst (v := 0) dX11_sheet_6 (by decide) ?_
  refine jr_iconst (v := 3) dX11_sheet_7 (by decide) ?_
  obtain ⟨v3, h2, Hc, H⟩ := j_b2_some H
  refine jr_callS [.int a1, .int 0, .int 3] my_X11_in ms_X11_in ml_RX11_116 dX11_sheet_8 rfl rfl (Nat.le_of_ble_eq_true rfl) (c_X11_in l d F a1 0 3 h1 v3 h2 Hc) ?_
  refine jr_if_eq (tgt := 19) dX11_sheet_11 (by decide) H (fun H => ?_) (fun H => ?_)
  · refine jr_iconst (v := (-1)) dX11_sheet_19 (by decide) ?_
    exact jr_iret rfl dX11_sheet_20 H
  · refine jr_iload_n dX11_sheet_14 rfl rfl ?_
    refine jr_iconst (v := 4) dX11_sheet_15 (by decide) ?_
    refine jr_icmp_le (tgt := 21) dX11_sheet_16 (by decide) H (fun H => ?_) (fun H => ?_)
    · refine jr_iload_n dX11_sheet_21 rfl rfl ?_
      refine jr_iconst (v := 3) dX11_sheet_22 (by decide) ?_
      refine jr_jn (fun J => ∀ (h4 : jH), J h4 = some (rR, hf) → jGo l (d + 1) none RX11 cX11_sheet 9 (some .int) false 33 [some (.ref a0), some (.int a1), some (.int a2), some (.int a3), some (.int a4), none, none, none, none] [] h4 (some (.int rR)) hf) H (fun h4 H => ?_) (fun J33 hJ33 H => ?_)
      · refine jr_iconst (v := 0) dX11_sheet_33 (by decide) ?_
        refine jr_istore dX11_sheet_34 (by decide) rfl (Or.inl rfl) ?_
        refine jr_iload_n dX11_sheet_36 rfl rfl ?_
        refine jr_istore dX11_sheet_37 (by decide) rfl (Or.inl rfl) ?_
        refine jr_iconst (v := 0) dX11_sheet_39 (by decide) ?_
        refine jr_istore dX11_sheet_40 (by decide) rfl (Or.inl rfl) ?_
        refine jr_fgt 3 ?_
        refine s_X11_sheet_L42 l d F a0 a1 a2 a4 _ (fun y19 h20 H => ?_) F 0 a3 0 h4 H
        · refine jr_iload_n dX11_sheet_139 rfl rfl ?_
          refine jr_iconst (v := 3) dX11_sheet_140 (by decide) ?_
          refine jr_icmp_ne (tgt := 149) dX11_sheet_141 (by decide) H (fun H => ?_) (fun H => ?_)
          · refine jr_bipush (v := (-3)) dX11_sheet_144 (by decide) ?_
            refine jr_goto (tgt := 151) dX11_sheet_146 (by decide) ?_
            exact jr_iret rfl dX11_sheet_151 H
          · refine jr_iload dX11_sheet_149 rfl ?_
            exact jr_iret rfl dX11_sheet_151 H
      · refine jr_icmp_ge (tgt := 33) dX11_sheet_23 (by decide) H (fun H => ?_) (fun H => ?_)
        · exact hJ33 _ H
        · refine jr_iload_n dX11_sheet_26 rfl rfl ?_
          refine jr_if_ge (tgt := 33) dX11_sheet_27 (by decide) H (fun H => ?_) (fun H => ?_)
          · exact hJ33 _ H
          · refine jr_bipush (v := (-2)) dX11_sheet_30 (by decide) ?_
            exact jr_iret rfl dX11_sheet_32 H
    · refine jr_iconst (v := (-1)) dX11_sheet_19 (by decide) ?_
      exact jr_iret rfl dX11_sheet_20 H
set_option maxRecDepth 100000 in
set_option maxHeartbeats 4000000 in
theorem s_X11_lay_L2 (l : Launch) (d : Nat) (F : Nat) (x0 : Nat) (x1 : Nat) (x2 : Int32) {hf : jH} : ∀ (n : Nat) (x3 : Int32) (h : jH), f_X11_lay_L2 F x0 x1 x2 n x3 h = some hf → jGo l (d + 0) none RX11 cX11_lay 4 none false 2 [some (.ref x0), some (.ref x1), some (.int x2), some (.int x3)] [] h none hf := by
  intro n
  induction n with
  | zero =>
    intro x3 h H
    cases H
  | succ n ih =>
    intro x3 h H
    unfold f_X11_lay_L2 at H
    refine jr_iload_n dX11_lay_2 rfl rfl ?_
    refine jr_bipush (v := 44) dX11_lay_3 (by decide) ?_
    refine jr_icmp_ge (tgt := 22) dX11_lay_5 (by decide) H (fun H => ?_) (fun H => ?_)
    · exact jr_vret rfl dX11_lay_22 H
    · refine jr_aload_n dX11_lay_8 rfl rfl ?_
      refine jr_iload_n dX11_lay_9 rfl rfl ?_
      refine jr_iload_n dX11_lay_10 rfl rfl ?_
      refine jr_iadd dX11_lay_11 ?_
      refine jr_aload_n dX11_lay_12 rfl rfl ?_
      refine jr_iload_n dX11_lay_13 rfl rfl ?_
      refine jr_iald dX11_lay_14 H (fun v1 H => ?_)
      refine jr_iast dX11_lay_15 H (fun h2 H => ?_)
      refine jr_iinc (v := (x3 + 1)) dX11_lay_16 rfl rfl (by decide) rfl (Or.inl rfl) ?_
      refine jr_goto (tgt := 2) dX11_lay_19 (by decide) ?_
      exact ih _ _ H
set_option maxRecDepth 100000 in
set_option maxHeartbeats 4000000 in
theorem c_X11_lay (l : Launch) (d : Nat) (F : Nat) (a0 : Nat) (a1 : Nat) (a2 : Int32) (h : jH) (hf : jH) (H : f_X11_lay F a0 a1 a2 h = some hf) : jMet l (d + 0) yX11_lay cX11_lay 4 none [.ref a0, .ref a1, .int a2] h none hf := by
  unfold f_X11_lay at H
  refine jMet.of false [some (.ref a0), some (.ref a1), some (.int a2), none] rfl (by decide) (by decide) (Nat.le_of_ble_eq_true rfl) (fun S0 q hq => by simpa [j_l, lv_args, j_v, Value.category] using hq) ?_
  refine jr_iconst (v := 0) dX11_lay_0 (by decide) ?_
  refine jr_istore_n dX11_lay_1 rfl (by decide) rfl (Or.inl rfl) ?_
  exact s_X11_lay_L2 l d F a0 a1 a2 F 0 h H
set_option maxRecDepth 100000 in
set_option maxHeartbeats 4000000 in
theorem s_X11_remember_L11 (l : Launch) (d : Nat) (F : Nat) (x0 : Nat) (x1 : Nat) (k39 : jH → Option jH) {hf : jH} (hk39 : ∀ (h : jH), k39 h = some hf → jGo l (d + 1) none RX11 cX11_remember 3 none false 39 [some (.ref x0), some (.ref x1), none] [] h none hf) : ∀ (n : Nat) (x2 : Int32) (h : jH), f_X11_remember_L11 F x0 x1 k39 n x2 h = some hf → jGo l (d + 1) none RX11 cX11_remember 3 none false 11 [some (.ref x0), some (.ref x1), some (.int x2)] [] h none hf := by
  intro n
  induction n with
  | zero =>
    intro x2 h H
    cases H
  | succ n ih =>
    intro x2 h H
    unfold f_X11_remember_L11 at H
    refine jr_iload_n dX11_remember_11 rfl rfl ?_
    refine jr_sipush (v := 484) dX11_remember_12 (by decide) ?_
    refine jr_icmp_ge (tgt := 39) dX11_remember_15 (by decide) H (fun H => ?_) (fun H => ?_)
    · refine jr_fgt 2 ?_
      exact hk39 _ H
    · refine jr_aload_n dX11_remember_18 rfl rfl ?_
      refine jr_getR fl_RX11_58 dX11_remember_19 H (fun v8 H => ?_)
      refine jr_iload_n dX11_remember_22 rfl rfl ?_
      refine jr_aload_n dX11_remember_23 rfl rfl ?_
      refine jr_getR fl_RX11_58 dX11_remember_24 H (fun v9 H => ?_)
      refine jr_iload_n dX11_remember_27 rfl rfl ?_
      refine jr_bipush (v := 44) dX11_remember_28 (by decide) ?_
      refine jr_iadd dX11_remember_30 ?_
      refine jr_iald dX11_remember_31 H (fun v10 H => ?_)
      refine jr_iast dX11_remember_32 H (fun h11 H => ?_)
      refine jr_iinc (v := (x2 + 1)) dX11_remember_33 rfl rfl (by decide) rfl (Or.inl rfl) ?_
      refine jr_goto (tgt := 11) dX11_remember_36 (by decide) ?_
      exact ih _ _ H
set_option maxRecDepth 100000 in
set_option maxHeartbeats 4000000 in
theorem c_X11_remember (l : Launch) (d : Nat) (F : Nat) (a0 : Nat) (a1 : Nat) (h : jH) (hf : jH) (H : f_X11_remember F a0 a1 h = some hf) : jh_sh h a0 = (11, 0) ∧ jMet l (d + 1) yX11_remember cX11_remember 3 none [.ref a0, .ref a1] h none hf := by
  unfold f_X11_remember at H
  obtain ⟨hsh, H⟩ := j_gd_some H
  refine ⟨hsh, ?_⟩
  refine jMet.of false [some (.ref a0), some (.ref a1), none] rfl (by decide) (by decide) (Nat.le_of_ble_eq_true rfl) (fun S0 q hq => by simpa [j_l, lv_args, j_v, Value.category] using hq) ?_
  refine jr_aload_n dX11_remember_0 rfl rfl ?_
  refine jr_getI fl_RX11_171 (by decide) dX11_remember_1 H (fun v1 H => ?_)
  refine jr_bipush (v := 12) dX11_remember_4 (by decide) ?_
  refine jr_jn (fun J => ∀ (h2 : jH), J h2 = some hf → jGo l (d + 1) none RX11 cX11_remember 3 none false 49 [some (.ref a0), some (.ref a1), none] [] h2 none hf) H (fun h2 H => ?_) (fun J49 hJ49 H => ?_)
  · refine jr_aload_n dX11_remember_49 rfl rfl ?_
    refine jr_aload_n dX11_remember_50 rfl rfl ?_
    refine jr_getR fl_RX11_58 dX11_remember_51 H (fun v3 H => ?_)
    refine jr_bipush (v := 44) dX11_remember_54 (by decide) ?_
    refine jr_aload_n dX11_remember_56 rfl rfl ?_
    refine jr_getI fl_RX11_171 (by decide) dX11_remember_57 H (fun v4 H => ?_)
    refine jr_imul dX11_remember_60 ?_
    obtain ⟨h5, Hc, H⟩ := Option.bind_eq_some_iff.mp H
    refine jr_callS [.ref a1, .ref v3, .int ((44 : Int32) * v4)] my_X11_lay ms_X11_lay ml_RX11_267 dX11_remember_61 rfl rfl (Nat.le_of_ble_eq_true rfl) (c_X11_lay l d F a1 v3 ((44 : Int32) * v4) h2 h5 Hc) ?_
    refine jr_aload_n dX11_remember_64 rfl rfl ?_
    refine jr_dup dX11_remember_65 rfl ?_
    refine jr_getI fl_RX11_171 (by decide) dX11_remember_66 H (fun v6 H => ?_)
    refine jr_iconst (v := 1) dX11_remember_69 (by decide) ?_
    refine jr_iadd dX11_remember_70 ?_
    refine jr_putI fl_RX11_171 (fun z => by cases z) dX11_remember_71 H (fun h7 H => ?_)
    exact jr_vret rfl dX11_remember_74 H
  · refine jr_icmp_ne (tgt := 49) dX11_remember_6 (by decide) H (fun H => ?_) (fun H => ?_)
    · refine jr_iconst (v := 0) dX11_remember_9 (by decide) ?_
      refine jr_istore_n dX11_remember_10 rfl (by decide) rfl (Or.inl rfl) ?_
      refine s_X11_remember_L11 l d F a0 a1 _ (fun h12 H => ?_) F 0 h H
      · refine jr_aload_n dX11_remember_39 rfl rfl ?_
        refine jr_dup dX11_remember_40 rfl ?_
        refine jr_getI fl_RX11_171 (by decide) dX11_remember_41 H (fun v13 H => ?_)
        refine jr_iconst (v := 1) dX11_remember_44 (by decide) ?_
        refine jr_isub dX11_remember_45 ?_
        refine jr_putI fl_RX11_171 (fun z => by cases z) dX11_remember_46 H (fun h14 H => ?_)
        exact hJ49 _ H
    · exact hJ49 _ H
set_option maxRecDepth 100000 in
set_option maxHeartbeats 4000000 in
theorem s_X11_toll_L38 (l : Launch) (d : Nat) (F : Nat) (x0 : Nat) (x3 : Int32) {rR : Int32} {hf : jH} : ∀ (n : Nat) (x4 : Int32) (h : jH), f_X11_toll_L38 F x0 x3 n x4 h = some (rR, hf) → jGo l (d + 406) none RX11 cX11_toll 5 (some .int) false 38 [some (.ref x0), none, none, some (.int x3), some (.int x4)] [] h (some (.int rR)) hf := by
  intro n
  induction n with
  | zero =>
    intro x4 h H
    cases H
  | succ n ih =>
    intro x4 h H
    unfold f_X11_toll_L38 at H
    refine jr_iload dX11_toll_38 rfl ?_
    refine jr_iconst (v := 5) dX11_toll_40 (by decide) ?_
    refine jr_icmp_ge (tgt := 62) dX11_toll_41 (by decide) H (fun H => ?_) (fun H => ?_)
    · refine jr_iload_n dX11_toll_62 rfl rfl ?_
      exact jr_iret rfl dX11_toll_63 H
    · refine jr_aload_n dX11_toll_44 rfl rfl ?_
      refine jr_aload_n dX11_toll_45 rfl rfl ?_
      refine jr_getR fl_RX11_55 dX11_toll_46 H (fun v9 H => ?_)
      refine jr_iload dX11_toll_49 rfl ?_
      refine jr_iald dX11_toll_51 H (fun v10 H => ?_)
      refine jr_i2l dX11_toll_52 ?_
      obtain ⟨h11, Hc, H⟩ := Option.bind_eq_some_iff.mp H
      refine jr_callV (ci := 11) [.long (v10.toInt64)] my_X11_tell mv_X11_tell ml_RX11_274 dX11_toll_53 rfl rfl (Nat.le_of_ble_eq_true rfl) rfl (c_X11_tell l (d + 405) F x0 (v10.toInt64) h h11 Hc) ?_
      refine jr_iinc (v := (x4 + 1)) dX11_toll_56 rfl rfl (by decide) rfl (Or.inl rfl) ?_
      refine jr_goto (tgt := 38) dX11_toll_59 (by decide) ?_
      exact ih _ _ H
set_option maxRecDepth 100000 in
set_option maxHeartbeats 4000000 in
theorem c_X11_toll (l : Launch) (d : Nat) (F : Nat) (a0 : Nat) (a1 : Int32) (a2 : Int32) (h : jH) (rR : Int32) (hf : jH) (H : f_X11_toll F a0 a1 a2 h = some (rR, hf)) : jh_sh h a0 = (11, 0) ∧ jMet l (d + 406) yX11_toll cX11_toll 5 (some .int) [.ref a0, .int a1, .int a2] h (some (.int rR)) hf := by
  unfold f_X11_toll at H
  obtain ⟨hsh, H⟩ := j_gd_some H
  refine ⟨hsh, ?_⟩
  refine jMet.of false [some (.ref a0), some (.int a1), some (.int a2), none, none] rfl (by decide) (by decide) (Nat.le_of_ble_eq_true rfl) (fun S0 q hq => by simpa [j_l, lv_args, j_v, Value.category] using hq) ?_
  refine jr_aload_n dX11_toll_0 rfl rfl ?_
  refine jr_iconst (v := 0) dX11_toll_1 (by decide) ?_
  refine jr_putI fl_RX11_110 (fun z => by cases z) dX11_toll_2 H (fun h1 H => ?_)
  refine jr_aload_n dX11_toll_5 rfl rfl ?_
  refine jr_iload_n dX11_toll_6 rfl rfl ?_
  obtain ⟨v3, h2, Hc, H⟩ := j_b2_some H
  refine jr_callV (ci := 11) [.int a1] my_X11_isWord mv_X11_isWord ml_RX11_241 dX11_toll_7 rfl rfl (Nat.le_of_ble_eq_true rfl) rfl (c_X11_isWord l (d + 404) F a0 a1 h1 v3 h2 Hc) ?_
  refine jr_if_eq (tgt := 21) dX11_toll_10 (by decide) H (fun H => ?_) (fun H => ?_)
  · refine jr_iconst (v := (-1)) dX11_toll_21 (by decide) ?_
    exact jr_iret rfl dX11_toll_22 H
  · refine jr_aload_n dX11_toll_13 rfl rfl ?_
    refine jr_iload_n dX11_toll_14 rfl rfl ?_
    obtain ⟨v5, h4, Hc, H⟩ := j_b2_some H
    refine jr_callV (ci := 11) [.int a2] my_X11_isStation mv_X11_isStation ml_RX11_264 dX11_toll_15 rfl rfl (Nat.le_of_ble_eq_true rfl) rfl (c_X11_isStation l (d + 404) F a0 a2 h2 v5 h4 Hc) ?_
    refine jr_if_ne (tgt := 23) dX11_toll_18 (by decide) H (fun H => ?_) (fun H => ?_)
    · refine jr_iconst (v := (-1)) dX11_toll_21 (by decide) ?_
      exact jr_iret rfl dX11_toll_22 H
    · refine jr_aload_n dX11_toll_23 rfl rfl ?_
      refine jr_iload_n dX11_toll_24 rfl rfl ?_
      refine jr_iload_n dX11_toll_25 rfl rfl ?_
      obtain ⟨v7, h6, Hc, H⟩ := j_b2_some H
      refine jr_callV (ci := 11) [.int a1, .int a2] my_X11_tollNow mv_X11_tollNow ml_RX11_271 dX11_toll_26 rfl rfl (Nat.le_of_ble_eq_true rfl) rfl (c_X11_tollNow l d F a0 a1 a2 h4 v7 h6 Hc) ?_
      refine jr_istore_n dX11_toll_29 rfl (by decide) rfl (Or.inl rfl) ?_
      refine jr_aload_n dX11_toll_30 rfl rfl ?_
      refine jr_iconst (v := 0) dX11_toll_31 (by decide) ?_
      refine jr_putI fl_RX11_113 (fun z => by cases z) dX11_toll_32 H (fun h8 H => ?_)
      refine jr_iconst (v := 0) dX11_toll_35 (by decide) ?_
      refine jr_istore dX11_toll_36 (by decide) rfl (Or.inl rfl) ?_
      refine jr_fgt 1 ?_
      refine jr_fgt 2 ?_
      exact s_X11_toll_L38 l d F a0 v7 F 0 h8 H
set_option maxRecDepth 100000 in
set_option maxHeartbeats 4000000 in
theorem c_X11_refusesWalk (l : Launch) (d : Nat) (F : Nat) (a0 : Nat) (a1 : Nat) (a2 : Int32) (a3 : Int32) (h : jH) (rR : Int32) (hf : jH) (H : f_X11_refusesWalk F a0 a1 a2 a3 h = some (rR, hf)) : jh_sh h a0 = (11, 0) ∧ jMet l (d + 2) yX11_refusesWalk cX11_refusesWalk 4 (some .int) [.ref a0, .ref a1, .int a2, .int a3] h (some (.int rR)) hf := by
  unfold f_X11_refusesWalk at H
  obtain ⟨hsh, H⟩ := j_gd_some H
  refine ⟨hsh, ?_⟩
  refine jMet.of false [some (.ref a0), some (.ref a1), some (.int a2), some (.int a3)] rfl (by decide) (by decide) (Nat.le_of_ble_eq_true rfl) (fun S0 q hq => by simpa [j_l, lv_args, j_v, Value.category] using hq) ?_
  refine jr_aload_n dX11_refusesWalk_0 rfl rfl ?_
  refine jr_iload_n dX11_refusesWalk_1 rfl rfl ?_
  obtain ⟨v2, h1, Hc, H⟩ := j_b2_some H
  refine jr_callV (ci := 11) [.int a2] my_X11_isOne mv_X11_isOne ml_RX11_258 dX11_refusesWalk_2 rfl rfl (Nat.le_of_ble_eq_true rfl) rfl (c_X11_isOne l d F a0 a2 h v2 h1 Hc) ?_
  refine jr_if_eq (tgt := 17) dX11_refusesWalk_5 (by decide) H (fun H => ?_) (fun H => ?_)
  · refine jr_iconst (v := (-1)) dX11_refusesWalk_17 (by decide) ?_
    exact jr_iret rfl dX11_refusesWalk_18 H
  · refine jr_iload_n dX11_refusesWalk_8 rfl rfl ?_
    refine jr_iconst (v := 0) dX11_refusesWalk_9 (by decide) ?_
    refine jr_iconst (v := 1) dX11_refusesWalk_10 (by decide) ?_
    obtain ⟨v4, h3, Hc, H⟩ := j_b2_some H
    refine jr_callS [.int a3, .int 0, .int 1] my_X11_in ms_X11_in ml_RX11_116 dX11_refusesWalk_11 rfl rfl (Nat.le_of_ble_eq_true rfl) (c_X11_in l (d + 1) F a3 0 1 h1 v4 h3 Hc) ?_
    refine jr_if_ne (tgt := 19) dX11_refusesWalk_14 (by decide) H (fun H => ?_) (fun H => ?_)
    · refine jr_iconst (v := (-1)) dX11_refusesWalk_17 (by decide) ?_
      exact jr_iret rfl dX11_refusesWalk_18 H
    · refine jr_aload_n dX11_refusesWalk_19 rfl rfl ?_
      refine jr_aload_n dX11_refusesWalk_20 rfl rfl ?_
      refine jr_iload_n dX11_refusesWalk_21 rfl rfl ?_
      refine jr_iald dX11_refusesWalk_22 H (fun v5 H => ?_)
      refine jr_iconst (v := 2) dX11_refusesWalk_23 (by decide) ?_
      refine jr_iload_n dX11_refusesWalk_24 rfl rfl ?_
      refine jr_imul dX11_refusesWalk_25 ?_
      refine jr_iadd dX11_refusesWalk_26 ?_
      refine jr_iconst (v := 1) dX11_refusesWalk_27 (by decide) ?_
      refine jr_isub dX11_refusesWalk_28 ?_
      obtain ⟨v7, h6, Hc, H⟩ := j_b2_some H
      refine jr_callV (ci := 11) [.int ((v5 + ((2 : Int32) * a3)) - (1 : Int32))] my_X11_isStation mv_X11_isStation ml_RX11_264 dX11_refusesWalk_29 rfl rfl (Nat.le_of_ble_eq_true rfl) rfl (c_X11_isStation l d F a0 ((v5 + ((2 : Int32) * a3)) - (1 : Int32)) h3 v7 h6 Hc) ?_
      refine jr_if_eq (tgt := 39) dX11_refusesWalk_32 (by decide) H (fun H => ?_) (fun H => ?_)
      · refine jr_bipush (v := (-2)) dX11_refusesWalk_39 (by decide) ?_
        exact jr_iret rfl dX11_refusesWalk_41 H
      · refine jr_iconst (v := 0) dX11_refusesWalk_35 (by decide) ?_
        refine jr_goto (tgt := 41) dX11_refusesWalk_36 (by decide) ?_
        exact jr_iret rfl dX11_refusesWalk_41 H
set_option maxRecDepth 100000 in
set_option maxHeartbeats 4000000 in
theorem c_X11_goWalk (l : Launch) (d : Nat) (F : Nat) (a0 : Nat) (a1 : Int32) (a2 : Int32) (h : jH) (rR : Int32) (hf : jH) (H : f_X11_goWalk F a0 a1 a2 h = some (rR, hf)) : jMet l (d + 0) yX11_goWalk cX11_goWalk 3 (some .int) [.ref a0, .int a1, .int a2] h (some (.int rR)) hf := by
  unfold f_X11_goWalk at H
  refine jMet.of false [some (.ref a0), some (.int a1), some (.int a2)] rfl (by decide) (by decide) (Nat.le_of_ble_eq_true rfl) (fun S0 q hq => by simpa [j_l, lv_args, j_v, Value.category] using hq) ?_
  refine jr_aload_n dX11_goWalk_0 rfl rfl ?_
  refine jr_iload_n dX11_goWalk_1 rfl rfl ?_
  refine jr_dup2 dX11_goWalk_2 rfl rfl ?_
  refine jr_iald dX11_goWalk_3 H (fun v1 H => ?_)
  refine jr_iconst (v := 2) dX11_goWalk_4 (by decide) ?_
  refine jr_iload_n dX11_goWalk_5 rfl rfl ?_
  refine jr_imul dX11_goWalk_6 ?_
  refine jr_iconst (v := 1) dX11_goWalk_7 (by decide) ?_
  refine jr_isub dX11_goWalk_8 ?_
  refine jr_iadd dX11_goWalk_9 ?_
  refine jr_iast dX11_goWalk_10 H (fun h2 H => ?_)
  refine jr_aload_n dX11_goWalk_11 rfl rfl ?_
  refine jr_bipush (v := 12) dX11_goWalk_12 (by decide) ?_
  refine jr_dup2 dX11_goWalk_14 rfl rfl ?_
  refine jr_iald dX11_goWalk_15 H (fun v3 H => ?_)
  refine jr_iconst (v := 1) dX11_goWalk_16 (by decide) ?_
  refine jr_iadd dX11_goWalk_17 ?_
  refine jr_iast dX11_goWalk_18 H (fun h4 H => ?_)
  refine jr_aload_n dX11_goWalk_19 rfl rfl ?_
  refine jr_iload_n dX11_goWalk_20 rfl rfl ?_
  refine jr_iald dX11_goWalk_21 H (fun v5 H => ?_)
  exact jr_iret rfl dX11_goWalk_22 H
set_option maxRecDepth 100000 in
set_option maxHeartbeats 4000000 in
theorem c_X11_walk (l : Launch) (d : Nat) (F : Nat) (a0 : Nat) (a1 : Int32) (a2 : Int32) (h : jH) (rR : Int32) (hf : jH) (H : f_X11_walk F a0 a1 a2 h = some (rR, hf)) : jh_sh h a0 = (11, 0) ∧ jMet l (d + 3) yX11_walk cX11_walk 4 (some .int) [.ref a0, .int a1, .int a2] h (some (.int rR)) hf := by
  unfold f_X11_walk at H
  obtain ⟨hsh, H⟩ := j_gd_some H
  refine ⟨hsh, ?_⟩
  refine jMet.of false [some (.ref a0), some (.int a1), some (.int a2), none] rfl (by decide) (by decide) (Nat.le_of_ble_eq_true rfl) (fun S0 q hq => by simpa [j_l, lv_args, j_v, Value.category] using hq) ?_
  refine jr_aload_n dX11_walk_0 rfl rfl ?_
  refine jr_iconst (v := 0) dX11_walk_1 (by decide) ?_
  refine jr_putI fl_RX11_110 (fun z => by cases z) dX11_walk_2 H (fun h1 H => ?_)
  refine jr_aload_n dX11_walk_5 rfl rfl ?_
  refine jr_aload_n dX11_walk_6 rfl rfl ?_
  refine jr_getR fl_RX11_9 dX11_walk_7 H (fun v2 H => ?_)
  refine jr_iload_n dX11_walk_10 rfl rfl ?_
  refine jr_iload_n dX11_walk_11 rfl rfl ?_
  obtain ⟨v4, h3, Hc, H⟩ := j_b2_some H
  refine jr_callV (ci := 11) [.ref v2, .int a1, .int a2] my_X11_refusesWalk mv_X11_refusesWalk ml_RX11_278 dX11_walk_12 rfl rfl (Nat.le_of_ble_eq_true rfl) rfl (c_X11_refusesWalk l d F a0 v2 a1 a2 h1 v4 h3 Hc) ?_
  refine jr_istore_n dX11_walk_15 rfl (by decide) rfl (Or.inl rfl) ?_
  refine jr_iload_n dX11_walk_16 rfl rfl ?_
  refine jr_if_ge (tgt := 22) dX11_walk_17 (by decide) H (fun H => ?_) (fun H => ?_)
  · refine jr_aload_n dX11_walk_22 rfl rfl ?_
    refine jr_aload_n dX11_walk_23 rfl rfl ?_
    refine jr_getR fl_RX11_9 dX11_walk_24 H (fun v5 H => ?_)
    obtain ⟨h6, Hc, H⟩ := Option.bind_eq_some_iff.mp H
    refine jr_callV (ci := 11) [.ref v5] my_X11_remember mv_X11_remember ml_RX11_282 dX11_walk_27 rfl rfl (Nat.le_of_ble_eq_true rfl) rfl (c_X11_remember l (d + 1) F a0 v5 h3 h6 Hc) ?_
    refine jr_aload_n dX11_walk_30 rfl rfl ?_
    refine jr_getR fl_RX11_9 dX11_walk_31 H (fun v7 H => ?_)
    refine jr_iload_n dX11_walk_34 rfl rfl ?_
    refine jr_iload_n dX11_walk_35 rfl rfl ?_
    obtain ⟨v9, h8, Hc, H⟩ := j_b2_some H
    refine jr_callS [.ref v7, .int a1, .int a2] my_X11_goWalk ms_X11_goWalk ml_RX11_286 dX11_walk_36 rfl rfl (Nat.le_of_ble_eq_true rfl) (c_X11_goWalk l (d + 2) F v7 a1 a2 h6 v9 h8 Hc) ?_
    exact jr_iret rfl dX11_walk_39 H
  · refine jr_iload_n dX11_walk_20 rfl rfl ?_
    exact jr_iret rfl dX11_walk_21 H
set_option maxRecDepth 100000 in
set_option maxHeartbeats 4000000 in
theorem c_X11_pause (l : Launch) (d : Nat) (F : Nat) (a0 : Nat) (a1 : Int32) (h : jH) (rR : Int32) (hf : jH) (H : f_X11_pause F a0 a1 h = some (rR, hf)) : jh_sh h a0 = (11, 0) ∧ jMet l (d + 2) yX11_pause cX11_pause 2 (some .int) [.ref a0, .int a1] h (some (.int rR)) hf := by
  unfold f_X11_pause at H
  obtain ⟨hsh, H⟩ := j_gd_some H
  refine ⟨hsh, ?_⟩
  refine jMet.of false [some (.ref a0), some (.int a1)] rfl (by decide) (by decide) (Nat.le_of_ble_eq_true rfl) (fun S0 q hq => by simpa [j_l, lv_args, j_v, Value.category] using hq) ?_
  refine jr_aload_n dX11_pause_0 rfl rfl ?_
  refine jr_iconst (v := 0) dX11_pause_1 (by decide) ?_
  refine jr_putI fl_RX11_110 (fun z => by cases z) dX11_pause_2 H (fun h1 H => ?_)
  refine jr_iload_n dX11_pause_5 rfl rfl ?_
  refine jr_iconst (v := 0) dX11_pause_6 (by decide) ?_
  refine jr_bipush (v := 99) dX11_pause_7 (by decide) ?_
  obtain ⟨v3, h2, Hc, H⟩ := j_b2_some H
  refine jr_callS [.int a1, .int 0, .int 99] my_X11_in ms_X11_in ml_RX11_116 dX11_pause_9 rfl rfl (Nat.le_of_ble_eq_true rfl) (c_X11_in l (d + 1) F a1 0 99 h1 v3 h2 Hc) ?_
  refine jr_if_ne (tgt := 17) dX11_pause_12 (by decide) H (fun H => ?_) (fun H => ?_)
  · refine jr_iconst (v := (-1)) dX11_pause_15 (by decide) ?_
    exact jr_iret rfl dX11_pause_16 H
  · refine jr_iload_n dX11_pause_17 rfl rfl ?_
    refine jr_jn (fun J => ∀ (h4 : jH), J h4 = some (rR, hf) → jGo l (d + 2) none RX11 cX11_pause 2 (some .int) false 29 [some (.ref a0), some (.int a1)] [] h4 (some (.int rR)) hf) H (fun h4 H => ?_) (fun J29 hJ29 H => ?_)
    · refine jr_aload_n dX11_pause_29 rfl rfl ?_
      refine jr_getR fl_RX11_9 dX11_pause_30 H (fun v5 H => ?_)
      refine jr_bipush (v := 12) dX11_pause_33 (by decide) ?_
      refine jr_dup2 dX11_pause_35 rfl rfl ?_
      refine jr_iald dX11_pause_36 H (fun v6 H => ?_)
      refine jr_iload_n dX11_pause_37 rfl rfl ?_
      refine jr_iadd dX11_pause_38 ?_
      refine jr_iast dX11_pause_39 H (fun h7 H => ?_)
      refine jr_aload_n dX11_pause_40 rfl rfl ?_
      refine jr_getR fl_RX11_9 dX11_pause_41 H (fun v8 H => ?_)
      refine jr_bipush (v := 12) dX11_pause_44 (by decide) ?_
      refine jr_iald dX11_pause_46 H (fun v9 H => ?_)
      exact jr_iret rfl dX11_pause_47 H
    · refine jr_if_le (tgt := 29) dX11_pause_18 (by decide) H (fun H => ?_) (fun H => ?_)
      · exact hJ29 _ H
      · refine jr_aload_n dX11_pause_21 rfl rfl ?_
        refine jr_aload_n dX11_pause_22 rfl rfl ?_
        refine jr_getR fl_RX11_9 dX11_pause_23 H (fun v10 H => ?_)
        obtain ⟨h11, Hc, H⟩ := Option.bind_eq_some_iff.mp H
        refine jr_callV (ci := 11) [.ref v10] my_X11_remember mv_X11_remember ml_RX11_282 dX11_pause_26 rfl rfl (Nat.le_of_ble_eq_true rfl) rfl (c_X11_remember l d F a0 v10 h2 h11 Hc) ?_
        exact hJ29 _ H
set_option maxRecDepth 100000 in
set_option maxHeartbeats 4000000 in
theorem c_X11_refusesSay (l : Launch) (d : Nat) (F : Nat) (a0 : Nat) (a1 : Nat) (a2 : Int32) (a3 : Int32) (h : jH) (rR : Int32) (hf : jH) (H : f_X11_refusesSay F a0 a1 a2 a3 h = some (rR, hf)) : jh_sh h a0 = (11, 0) ∧ jMet l (d + 405) yX11_refusesSay cX11_refusesSay 4 (some .int) [.ref a0, .ref a1, .int a2, .int a3] h (some (.int rR)) hf := by
  unfold f_X11_refusesSay at H
  obtain ⟨hsh, H⟩ := j_gd_some H
  refine ⟨hsh, ?_⟩
  refine jMet.of false [some (.ref a0), some (.ref a1), some (.int a2), some (.int a3)] rfl (by decide) (by decide) (Nat.le_of_ble_eq_true rfl) (fun S0 q hq => by simpa [j_l, lv_args, j_v, Value.category] using hq) ?_
  refine jr_aload_n dX11_refusesSay_0 rfl rfl ?_
  refine jr_iload_n dX11_refusesSay_1 rfl rfl ?_
  obtain ⟨v2, h1, Hc, H⟩ := j_b2_some H
  refine jr_callV (ci := 11) [.int a2] my_X11_isOne mv_X11_isOne ml_RX11_258 dX11_refusesSay_2 rfl rfl (Nat.le_of_ble_eq_true rfl) rfl (c_X11_isOne l (d + 403) F a0 a2 h v2 h1 Hc) ?_
  refine jr_if_eq (tgt := 16) dX11_refusesSay_5 (by decide) H (fun H => ?_) (fun H => ?_)
  · refine jr_iconst (v := (-1)) dX11_refusesSay_16 (by decide) ?_
    exact jr_iret rfl dX11_refusesSay_17 H
  · refine jr_aload_n dX11_refusesSay_8 rfl rfl ?_
    refine jr_iload_n dX11_refusesSay_9 rfl rfl ?_
    obtain ⟨v4, h3, Hc, H⟩ := j_b2_some H
    refine jr_callV (ci := 11) [.int a3] my_X11_isWord mv_X11_isWord ml_RX11_241 dX11_refusesSay_10 rfl rfl (Nat.le_of_ble_eq_true rfl) rfl (c_X11_isWord l (d + 403) F a0 a3 h1 v4 h3 Hc) ?_
    refine jr_if_ne (tgt := 18) dX11_refusesSay_13 (by decide) H (fun H => ?_) (fun H => ?_)
    · refine jr_iconst (v := (-1)) dX11_refusesSay_16 (by decide) ?_
      exact jr_iret rfl dX11_refusesSay_17 H
    · refine jr_aload_n dX11_refusesSay_18 rfl rfl ?_
      refine jr_iconst (v := 4) dX11_refusesSay_19 (by decide) ?_
      refine jr_iload_n dX11_refusesSay_20 rfl rfl ?_
      refine jr_iadd dX11_refusesSay_21 ?_
      refine jr_iald dX11_refusesSay_22 H (fun v5 H => ?_)
      refine jr_aload_n dX11_refusesSay_23 rfl rfl ?_
      refine jr_iload_n dX11_refusesSay_24 rfl rfl ?_
      refine jr_aload_n dX11_refusesSay_25 rfl rfl ?_
      refine jr_iload_n dX11_refusesSay_26 rfl rfl ?_
      refine jr_iald dX11_refusesSay_27 H (fun v6 H => ?_)
      refine jr_aload_n dX11_refusesSay_28 rfl rfl ?_
      refine jr_bipush (v := 12) dX11_refusesSay_29 (by decide) ?_
      refine jr_iald dX11_refusesSay_31 H (fun v7 H => ?_)
      obtain ⟨v9, h8, Hc, H⟩ := j_b2_some H
      refine jr_callV (ci := 11) [.int a3, .int v6, .int v7] my_X11_tollOf mv_X11_tollOf ml_RX11_234 dX11_refusesSay_32 rfl rfl (Nat.le_of_ble_eq_true rfl) rfl (c_X11_tollOf l d F a0 a3 v6 v7 h3 v9 h8 Hc) ?_
      refine jr_icmp_ge (tgt := 43) dX11_refusesSay_35 (by decide) H (fun H => ?_) (fun H => ?_)
      · refine jr_iconst (v := 0) dX11_refusesSay_43 (by decide) ?_
        exact jr_iret rfl dX11_refusesSay_44 H
      · refine jr_bipush (v := (-2)) dX11_refusesSay_38 (by decide) ?_
        refine jr_goto (tgt := 44) dX11_refusesSay_40 (by decide) ?_
        exact jr_iret rfl dX11_refusesSay_44 H
set_option maxRecDepth 100000 in
set_option maxHeartbeats 4000000 in
theorem s_X11_goSay_L38 (l : Launch) (d : Nat) (F : Nat) (x0 : Nat) (x1 : Nat) (x2 : Int32) (x3 : Int32) (x4 : Int32) (k73 : jH → Option (Int32 × jH)) {rR : Int32} {hf : jH} (hk73 : ∀ (h : jH), k73 h = some (rR, hf) → jGo l (d + 405) none RX11 cX11_goSay 6 (some .int) false 73 [some (.ref x0), some (.ref x1), some (.int x2), some (.int x3), some (.int x4), none] [] h (some (.int rR)) hf) : ∀ (n : Nat) (x5 : Int32) (h : jH), f_X11_goSay_L38 F x0 x1 x2 x3 x4 k73 n x5 h = some (rR, hf) → jGo l (d + 405) none RX11 cX11_goSay 6 (some .int) false 38 [some (.ref x0), some (.ref x1), some (.int x2), some (.int x3), some (.int x4), some (.int x5)] [] h (some (.int rR)) hf := by
  intro n
  induction n with
  | zero =>
    intro x5 h H
    cases H
  | succ n ih =>
    intro x5 h H
    unfold f_X11_goSay_L38 at H
    refine jr_iload dX11_goSay_38 rfl ?_
    refine jr_iconst (v := 5) dX11_goSay_40 (by decide) ?_
    refine jr_icmp_ge (tgt := 73) dX11_goSay_41 (by decide) H (fun H => ?_) (fun H => ?_)
    · refine jr_fgt 5 ?_
      exact hk73 _ H
    · refine jr_aload_n dX11_goSay_44 rfl rfl ?_
      refine jr_bipush (v := 14) dX11_goSay_45 (by decide) ?_
      refine jr_iconst (v := 5) dX11_goSay_47 (by decide) ?_
      refine jr_aload_n dX11_goSay_48 rfl rfl ?_
      refine jr_iload_n dX11_goSay_49 rfl rfl ?_
      refine jr_iald dX11_goSay_50 H (fun v9 H => ?_)
      refine jr_imul dX11_goSay_51 ?_
      refine jr_iadd dX11_goSay_52 ?_
      refine jr_iload dX11_goSay_53 rfl ?_
      refine jr_iadd dX11_goSay_55 ?_
      refine jr_dup2 dX11_goSay_56 rfl rfl ?_
      refine jr_iald dX11_goSay_57 H (fun v10 H => ?_)
      refine jr_aload_n dX11_goSay_58 rfl rfl ?_
      refine jr_iload_n dX11_goSay_59 rfl rfl ?_
      refine jr_iload dX11_goSay_60 rfl ?_
      obtain ⟨v12, h11, Hc, H⟩ := j_b2_some H
      refine jr_callV (ci := 11) [.int x3, .int x5] my_X11_often mv_X11_often ml_RX11_238 dX11_goSay_62 rfl rfl (Nat.le_of_ble_eq_true rfl) rfl (c_X11_often l (d + 403) F x0 x3 x5 h v12 h11 Hc) ?_
      refine jr_iadd dX11_goSay_65 ?_
      refine jr_iast dX11_goSay_66 H (fun h13 H => ?_)
      refine jr_iinc (v := (x5 + 1)) dX11_goSay_67 rfl rfl (by decide) rfl (Or.inl rfl) ?_
      refine jr_goto (tgt := 38) dX11_goSay_70 (by decide) ?_
      exact ih _ _ H
set_option maxRecDepth 100000 in
set_option maxHeartbeats 4000000 in
theorem s_X11_goSay_L81 (l : Launch) (d : Nat) (F : Nat) (x0 : Nat) (x1 : Nat) (x2 : Int32) (x3 : Int32) (x4 : Int32) (k164 : jH → Option (Int32 × jH)) {rR : Int32} {hf : jH} (hk164 : ∀ (h : jH), k164 h = some (rR, hf) → jGo l (d + 405) none RX11 cX11_goSay 6 (some .int) false 164 [some (.ref x0), some (.ref x1), none, none, some (.int x4), none] [] h (some (.int rR)) hf) : ∀ (n : Nat) (x5 : Int32) (h : jH), f_X11_goSay_L81 F x0 x1 x2 x3 x4 k164 n x5 h = some (rR, hf) → jGo l (d + 405) none RX11 cX11_goSay 6 (some .int) false 81 [some (.ref x0), some (.ref x1), some (.int x2), some (.int x3), some (.int x4), some (.int x5)] [] h (some (.int rR)) hf := by
  intro n
  induction n with
  | zero =>
    intro x5 h H
    cases H
  | succ n ih =>
    intro x5 h H
    unfold f_X11_goSay_L81 at H
    refine jr_iload dX11_goSay_81 rfl ?_
    refine jr_aload_n dX11_goSay_83 rfl rfl ?_
    refine jr_getI fl_RX11_168 (by decide) dX11_goSay_84 H (fun v16 H => ?_)
    refine jr_icmp_ge (tgt := 164) dX11_goSay_87 (by decide) H (fun H => ?_) (fun H => ?_)
    · refine jr_fgt 2 ?_
      refine jr_fgt 3 ?_
      refine jr_fgt 5 ?_
      exact hk164 _ H
    · refine jr_aload_n dX11_goSay_90 rfl rfl ?_
      refine jr_dup dX11_goSay_91 rfl ?_
      refine jr_getI fl_RX11_289 (by decide) dX11_goSay_92 H (fun v17 H => ?_)
      refine jr_aload_n dX11_goSay_95 rfl rfl ?_
      refine jr_iload dX11_goSay_96 rfl ?_
      refine jr_iconst (v := 0) dX11_goSay_98 (by decide) ?_
      obtain ⟨v19, h18, Hc, H⟩ := j_b2_some H
      refine jr_callV (ci := 11) [.int x5, .int 0] my_X11_field mv_X11_field ml_RX11_251 dX11_goSay_99 rfl rfl (Nat.le_of_ble_eq_true rfl) rfl (c_X11_field l (d + 404) F x0 x5 0 h v19 h18 Hc) ?_
      refine jr_iload_n dX11_goSay_102 rfl rfl ?_
      refine jr_jn (fun J => ∀ (s20 : Int32) (s21 : Int32) (s22 : Nat) (h23 : jH), J s20 s21 s22 h23 = some (rR, hf) → jGo l (d + 405) none RX11 cX11_goSay 6 (some .int) false 154 [some (.ref x0), some (.ref x1), some (.int x2), some (.int x3), some (.int x4), some (.int x5)] [.int s20, .int s21, .ref s22] h23 (some (.int rR)) hf) H (fun s20 s21 s22 h23 H => ?_) (fun J154 hJ154 H => ?_)
      · refine jr_ior dX11_goSay_154 ?_
        refine jr_putI fl_RX11_289 (fun z => by cases z) dX11_goSay_155 H (fun h24 H => ?_)
        refine jr_iinc (v := (x5 + 1)) dX11_goSay_158 rfl rfl (by decide) rfl (Or.inl rfl) ?_
        refine jr_goto (tgt := 81) dX11_goSay_161 (by decide) ?_
        exact ih _ _ H
      · refine jr_jn (fun J => ∀ (s25 : Int32) (s26 : Nat) (h27 : jH), J s25 s26 h27 = some (rR, hf) → jGo l (d + 405) none RX11 cX11_goSay 6 (some .int) false 153 [some (.ref x0), some (.ref x1), some (.int x2), some (.int x3), some (.int x4), some (.int x5)] [.int s25, .ref s26] h27 (some (.int rR)) hf) H (fun s25 s26 h27 H => ?_) (fun J153 hJ153 H => ?_)
        · refine jr_iconst (v := 0) dX11_goSay_153 (by decide) ?_
          exact hJ154 _ _ _ _ H
        · refine jr_icmp_ne (tgt := 153) dX11_goSay_103 (by decide) H (fun H => ?_) (fun H => ?_)
          · refine jr_aload_n dX11_goSay_106 rfl rfl ?_
            refine jr_iload dX11_goSay_107 rfl ?_
            refine jr_iconst (v := 2) dX11_goSay_109 (by decide) ?_
            obtain ⟨v29, h28, Hc, H⟩ := j_b2_some H
            refine jr_callV (ci := 11) [.int x5, .int 2] my_X11_field mv_X11_field ml_RX11_251 dX11_goSay_110 rfl rfl (Nat.le_of_ble_eq_true rfl) rfl (c_X11_field l (d + 404) F x0 x5 2 h18 v29 h28 Hc) ?_
            refine jr_aload_n dX11_goSay_113 rfl rfl ?_
            refine jr_iload_n dX11_goSay_114 rfl rfl ?_
            refine jr_iald dX11_goSay_115 H (fun v30 H => ?_)
            refine jr_icmp_ne (tgt := 153) dX11_goSay_116 (by decide) H (fun H => ?_) (fun H => ?_)
            · refine jr_aload_n dX11_goSay_119 rfl rfl ?_
              refine jr_iload_n dX11_goSay_120 rfl rfl ?_
              refine jr_aload_n dX11_goSay_121 rfl rfl ?_
              refine jr_iload dX11_goSay_122 rfl ?_
              refine jr_iconst (v := 1) dX11_goSay_124 (by decide) ?_
              obtain ⟨v32, h31, Hc, H⟩ := j_b2_some H
              refine jr_callV (ci := 11) [.int x5, .int 1] my_X11_field mv_X11_field ml_RX11_251 dX11_goSay_125 rfl rfl (Nat.le_of_ble_eq_true rfl) rfl (c_X11_field l (d + 404) F x0 x5 1 h28 v32 h31 Hc) ?_
              obtain ⟨v34, h33, Hc, H⟩ := j_b2_some H
              refine jr_callV (ci := 11) [.int x3, .int v32] my_X11_means mv_X11_means ml_RX11_292 dX11_goSay_128 rfl rfl (Nat.le_of_ble_eq_true rfl) rfl (c_X11_means l (d + 404) F x0 x3 v32 h31 v34 h33 Hc) ?_
              refine jr_if_eq (tgt := 153) dX11_goSay_131 (by decide) H (fun H => ?_) (fun H => ?_)
              · exact hJ153 _ _ _ H
              · refine jr_aload_n dX11_goSay_134 rfl rfl ?_
                refine jr_bipush (v := 13) dX11_goSay_135 (by decide) ?_
                refine jr_iald dX11_goSay_137 H (fun v35 H => ?_)
                refine jr_iload dX11_goSay_138 rfl ?_
                obtain ⟨v37, h36, Hc, H⟩ := j_b2_some H
                refine jr_callS [.int v35, .int x5] my_X11_has ms_X11_has ml_RX11_254 dX11_goSay_140 rfl rfl (Nat.le_of_ble_eq_true rfl) (c_X11_has l (d + 404) F v35 x5 h33 v37 h36 Hc) ?_
                refine jr_if_ne (tgt := 153) dX11_goSay_143 (by decide) H (fun H => ?_) (fun H => ?_)
                · refine jr_iconst (v := 1) dX11_goSay_146 (by decide) ?_
                  refine jr_iload dX11_goSay_147 rfl ?_
                  refine jr_ishl dX11_goSay_149 ?_
                  refine jr_goto (tgt := 154) dX11_goSay_150 (by decide) ?_
                  exact hJ154 _ _ _ _ H
                · exact hJ153 _ _ _ H
            · exact hJ153 _ _ _ H
          · exact hJ153 _ _ _ H
set_option maxRecDepth 100000 in
set_option maxHeartbeats 4000000 in
theorem c_X11_goSay (l : Launch) (d : Nat) (F : Nat) (a0 : Nat) (a1 : Nat) (a2 : Int32) (a3 : Int32) (h : jH) (rR : Int32) (hf : jH) (H : f_X11_goSay F a0 a1 a2 a3 h = some (rR, hf)) : jh_sh h a0 = (11, 0) ∧ jMet l (d + 405) yX11_goSay cX11_goSay 6 (some .int) [.ref a0, .ref a1, .int a2, .int a3] h (some (.int rR)) hf := by
  unfold f_X11_goSay at H
  obtain ⟨hsh, H⟩ := j_gd_some H
  refine ⟨hsh, ?_⟩
  refine jMet.of false [some (.ref a0), some (.ref a1), some (.int a2), some (.int a3), none, none] rfl (by decide) (by decide) (Nat.le_of_ble_eq_true rfl) (fun S0 q hq => by simpa [j_l, lv_args, j_v, Value.category] using hq) ?_
  refine jr_aload_n dX11_goSay_0 rfl rfl ?_
  refine jr_iload_n dX11_goSay_1 rfl rfl ?_
  refine jr_aload_n dX11_goSay_2 rfl rfl ?_
  refine jr_iload_n dX11_goSay_3 rfl rfl ?_
  refine jr_iald dX11_goSay_4 H (fun v1 H => ?_)
  refine jr_aload_n dX11_goSay_5 rfl rfl ?_
  refine jr_bipush (v := 12) dX11_goSay_6 (by decide) ?_
  refine jr_iald dX11_goSay_8 H (fun v2 H => ?_)
  obtain ⟨v4, h3, Hc, H⟩ := j_b2_some H
  refine jr_callV (ci := 11) [.int a3, .int v1, .int v2] my_X11_tollOf mv_X11_tollOf ml_RX11_234 dX11_goSay_9 rfl rfl (Nat.le_of_ble_eq_true rfl) rfl (c_X11_tollOf l d F a0 a3 v1 v2 h v4 h3 Hc) ?_
  refine jr_istore dX11_goSay_12 (by decide) rfl (Or.inl rfl) ?_
  refine jr_aload_n dX11_goSay_14 rfl rfl ?_
  refine jr_iconst (v := 4) dX11_goSay_15 (by decide) ?_
  refine jr_iload_n dX11_goSay_16 rfl rfl ?_
  refine jr_iadd dX11_goSay_17 ?_
  refine jr_dup2 dX11_goSay_18 rfl rfl ?_
  refine jr_iald dX11_goSay_19 H (fun v5 H => ?_)
  refine jr_iload dX11_goSay_20 rfl ?_
  refine jr_isub dX11_goSay_22 ?_
  refine jr_iast dX11_goSay_23 H (fun h6 H => ?_)
  refine jr_aload_n dX11_goSay_24 rfl rfl ?_
  refine jr_bipush (v := 8) dX11_goSay_25 (by decide) ?_
  refine jr_iload_n dX11_goSay_27 rfl rfl ?_
  refine jr_iadd dX11_goSay_28 ?_
  refine jr_dup2 dX11_goSay_29 rfl rfl ?_
  refine jr_iald dX11_goSay_30 H (fun v7 H => ?_)
  refine jr_iload dX11_goSay_31 rfl ?_
  refine jr_iadd dX11_goSay_33 ?_
  refine jr_iast dX11_goSay_34 H (fun h8 H => ?_)
  refine jr_iconst (v := 0) dX11_goSay_35 (by decide) ?_
  refine jr_istore dX11_goSay_36 (by decide) rfl (Or.inl rfl) ?_
  refine s_X11_goSay_L38 l d F a0 a1 a2 a3 v4 _ (fun h14 H => ?_) F 0 h8 H
  · refine jr_aload_n dX11_goSay_73 rfl rfl ?_
    refine jr_iconst (v := 0) dX11_goSay_74 (by decide) ?_
    refine jr_putI fl_RX11_289 (fun z => by cases z) dX11_goSay_75 H (fun h15 H => ?_)
    refine jr_iconst (v := 0) dX11_goSay_78 (by decide) ?_
    refine jr_istore dX11_goSay_79 (by decide) rfl (Or.inl rfl) ?_
    refine s_X11_goSay_L81 l d F a0 a1 a2 a3 v4 _ (fun h38 H => ?_) F 0 h15 H
    · refine jr_aload_n dX11_goSay_164 rfl rfl ?_
      refine jr_bipush (v := 13) dX11_goSay_165 (by decide) ?_
      refine jr_dup2 dX11_goSay_167 rfl rfl ?_
      refine jr_iald dX11_goSay_168 H (fun v39 H => ?_)
      refine jr_aload_n dX11_goSay_169 rfl rfl ?_
      refine jr_getI fl_RX11_289 (by decide) dX11_goSay_170 H (fun v40 H => ?_)
      refine jr_ior dX11_goSay_173 ?_
      refine jr_iast dX11_goSay_174 H (fun h41 H => ?_)
      refine jr_iload dX11_goSay_175 rfl ?_
      exact jr_iret rfl dX11_goSay_177 H
set_option maxRecDepth 100000 in
set_option maxHeartbeats 4000000 in
theorem c_X11_say (l : Launch) (d : Nat) (F : Nat) (a0 : Nat) (a1 : Int32) (a2 : Int32) (h : jH) (rR : Int32) (hf : jH) (H : f_X11_say F a0 a1 a2 h = some (rR, hf)) : jh_sh h a0 = (11, 0) ∧ jMet l (d + 406) yX11_say cX11_say 5 (some .int) [.ref a0, .int a1, .int a2] h (some (.int rR)) hf := by
  unfold f_X11_say at H
  obtain ⟨hsh, H⟩ := j_gd_some H
  refine ⟨hsh, ?_⟩
  refine jMet.of false [some (.ref a0), some (.int a1), some (.int a2), none, none] rfl (by decide) (by decide) (Nat.le_of_ble_eq_true rfl) (fun S0 q hq => by simpa [j_l, lv_args, j_v, Value.category] using hq) ?_
  refine jr_aload_n dX11_say_0 rfl rfl ?_
  refine jr_iconst (v := 0) dX11_say_1 (by decide) ?_
  refine jr_putI fl_RX11_110 (fun z => by cases z) dX11_say_2 H (fun h1 H => ?_)
  refine jr_aload_n dX11_say_5 rfl rfl ?_
  refine jr_aload_n dX11_say_6 rfl rfl ?_
  refine jr_getR fl_RX11_9 dX11_say_7 H (fun v2 H => ?_)
  refine jr_iload_n dX11_say_10 rfl rfl ?_
  refine jr_iload_n dX11_say_11 rfl rfl ?_
  obtain ⟨v4, h3, Hc, H⟩ := j_b2_some H
  refine jr_callV (ci := 11) [.ref v2, .int a1, .int a2] my_X11_refusesSay mv_X11_refusesSay ml_RX11_295 dX11_say_12 rfl rfl (Nat.le_of_ble_eq_true rfl) rfl (c_X11_refusesSay l d F a0 v2 a1 a2 h1 v4 h3 Hc) ?_
  refine jr_istore_n dX11_say_15 rfl (by decide) rfl (Or.inl rfl) ?_
  refine jr_iload_n dX11_say_16 rfl rfl ?_
  refine jr_if_ge (tgt := 22) dX11_say_17 (by decide) H (fun H => ?_) (fun H => ?_)
  · refine jr_aload_n dX11_say_22 rfl rfl ?_
    refine jr_aload_n dX11_say_23 rfl rfl ?_
    refine jr_getR fl_RX11_9 dX11_say_24 H (fun v5 H => ?_)
    obtain ⟨h6, Hc, H⟩ := Option.bind_eq_some_iff.mp H
    refine jr_callV (ci := 11) [.ref v5] my_X11_remember mv_X11_remember ml_RX11_282 dX11_say_27 rfl rfl (Nat.le_of_ble_eq_true rfl) rfl (c_X11_remember l (d + 404) F a0 v5 h3 h6 Hc) ?_
    refine jr_aload_n dX11_say_30 rfl rfl ?_
    refine jr_aload_n dX11_say_31 rfl rfl ?_
    refine jr_getR fl_RX11_9 dX11_say_32 H (fun v7 H => ?_)
    refine jr_iload_n dX11_say_35 rfl rfl ?_
    refine jr_iload_n dX11_say_36 rfl rfl ?_
    obtain ⟨v9, h8, Hc, H⟩ := j_b2_some H
    refine jr_callV (ci := 11) [.ref v7, .int a1, .int a2] my_X11_goSay mv_X11_goSay ml_RX11_298 dX11_say_37 rfl rfl (Nat.le_of_ble_eq_true rfl) rfl (c_X11_goSay l d F a0 v7 a1 a2 h6 v9 h8 Hc) ?_
    refine jr_istore dX11_say_40 (by decide) rfl (Or.inl rfl) ?_
    refine jr_aload_n dX11_say_42 rfl rfl ?_
    refine jr_iconst (v := 0) dX11_say_43 (by decide) ?_
    refine jr_putI fl_RX11_113 (fun z => by cases z) dX11_say_44 H (fun h10 H => ?_)
    refine jr_aload_n dX11_say_47 rfl rfl ?_
    refine jr_aload_n dX11_say_48 rfl rfl ?_
    refine jr_getI fl_RX11_289 (by decide) dX11_say_49 H (fun v11 H => ?_)
    refine jr_i2l dX11_say_52 ?_
    obtain ⟨h12, Hc, H⟩ := Option.bind_eq_some_iff.mp H
    refine jr_callV (ci := 11) [.long (v11.toInt64)] my_X11_tell mv_X11_tell ml_RX11_274 dX11_say_53 rfl rfl (Nat.le_of_ble_eq_true rfl) rfl (c_X11_tell l (d + 405) F a0 (v11.toInt64) h10 h12 Hc) ?_
    refine jr_iload dX11_say_56 rfl ?_
    exact jr_iret rfl dX11_say_58 H
  · refine jr_iload_n dX11_say_20 rfl rfl ?_
    exact jr_iret rfl dX11_say_21 H
set_option maxRecDepth 100000 in
set_option maxHeartbeats 4000000 in
theorem c_X11_alms (l : Launch) (d : Nat) (F : Nat) (a0 : Nat) (a1 : Int32) (a2 : Int32) (a3 : Int32) (h : jH) (rR : Int32) (hf : jH) (H : f_X11_alms F a0 a1 a2 a3 h = some (rR, hf)) : jh_sh h a0 = (11, 0) ∧ jMet l (d + 2) yX11_alms cX11_alms 4 (some .int) [.ref a0, .int a1, .int a2, .int a3] h (some (.int rR)) hf := by
  unfold f_X11_alms at H
  obtain ⟨hsh, H⟩ := j_gd_some H
  refine ⟨hsh, ?_⟩
  refine jMet.of false [some (.ref a0), some (.int a1), some (.int a2), some (.int a3)] rfl (by decide) (by decide) (Nat.le_of_ble_eq_true rfl) (fun S0 q hq => by simpa [j_l, lv_args, j_v, Value.category] using hq) ?_
  refine jr_aload_n dX11_alms_0 rfl rfl ?_
  refine jr_iconst (v := 0) dX11_alms_1 (by decide) ?_
  refine jr_putI fl_RX11_110 (fun z => by cases z) dX11_alms_2 H (fun h1 H => ?_)
  refine jr_aload_n dX11_alms_5 rfl rfl ?_
  refine jr_iload_n dX11_alms_6 rfl rfl ?_
  obtain ⟨v3, h2, Hc, H⟩ := j_b2_some H
  refine jr_callV (ci := 11) [.int a1] my_X11_isOne mv_X11_isOne ml_RX11_258 dX11_alms_7 rfl rfl (Nat.le_of_ble_eq_true rfl) rfl (c_X11_isOne l d F a0 a1 h1 v3 h2 Hc) ?_
  refine jr_if_eq (tgt := 37) dX11_alms_10 (by decide) H (fun H => ?_) (fun H => ?_)
  · refine jr_iconst (v := (-1)) dX11_alms_37 (by decide) ?_
    exact jr_iret rfl dX11_alms_38 H
  · refine jr_aload_n dX11_alms_13 rfl rfl ?_
    refine jr_iload_n dX11_alms_14 rfl rfl ?_
    obtain ⟨v5, h4, Hc, H⟩ := j_b2_some H
    refine jr_callV (ci := 11) [.int a2] my_X11_isOne mv_X11_isOne ml_RX11_258 dX11_alms_15 rfl rfl (Nat.le_of_ble_eq_true rfl) rfl (c_X11_isOne l d F a0 a2 h2 v5 h4 Hc) ?_
    refine jr_if_eq (tgt := 37) dX11_alms_18 (by decide) H (fun H => ?_) (fun H => ?_)
    · refine jr_iconst (v := (-1)) dX11_alms_37 (by decide) ?_
      exact jr_iret rfl dX11_alms_38 H
    · refine jr_iload_n dX11_alms_21 rfl rfl ?_
      refine jr_iload_n dX11_alms_22 rfl rfl ?_
      refine jr_icmp_eq (tgt := 37) dX11_alms_23 (by decide) H (fun H => ?_) (fun H => ?_)
      · refine jr_iconst (v := (-1)) dX11_alms_37 (by decide) ?_
        exact jr_iret rfl dX11_alms_38 H
      · refine jr_iload_n dX11_alms_26 rfl rfl ?_
        refine jr_iconst (v := 1) dX11_alms_27 (by decide) ?_
        refine jr_sipush (v := 9999) dX11_alms_28 (by decide) ?_
        obtain ⟨v7, h6, Hc, H⟩ := j_b2_some H
        refine jr_callS [.int a3, .int 1, .int 9999] my_X11_in ms_X11_in ml_RX11_116 dX11_alms_31 rfl rfl (Nat.le_of_ble_eq_true rfl) (c_X11_in l (d + 1) F a3 1 9999 h4 v7 h6 Hc) ?_
        refine jr_if_ne (tgt := 39) dX11_alms_34 (by decide) H (fun H => ?_) (fun H => ?_)
        · refine jr_iconst (v := (-1)) dX11_alms_37 (by decide) ?_
          exact jr_iret rfl dX11_alms_38 H
        · refine jr_aload_n dX11_alms_39 rfl rfl ?_
          refine jr_getR fl_RX11_9 dX11_alms_40 H (fun v8 H => ?_)
          refine jr_iload_n dX11_alms_43 rfl rfl ?_
          refine jr_iald dX11_alms_44 H (fun v9 H => ?_)
          refine jr_aload_n dX11_alms_45 rfl rfl ?_
          refine jr_getR fl_RX11_9 dX11_alms_46 H (fun v10 H => ?_)
          refine jr_iload_n dX11_alms_49 rfl rfl ?_
          refine jr_iald dX11_alms_50 H (fun v11 H => ?_)
          refine jr_icmp_eq (tgt := 57) dX11_alms_51 (by decide) H (fun H => ?_) (fun H => ?_)
          · refine jr_aload_n dX11_alms_57 rfl rfl ?_
            refine jr_getR fl_RX11_9 dX11_alms_58 H (fun v12 H => ?_)
            refine jr_iconst (v := 4) dX11_alms_61 (by decide) ?_
            refine jr_iload_n dX11_alms_62 rfl rfl ?_
            refine jr_iadd dX11_alms_63 ?_
            refine jr_iald dX11_alms_64 H (fun v13 H => ?_)
            refine jr_iload_n dX11_alms_65 rfl rfl ?_
            refine jr_icmp_ge (tgt := 72) dX11_alms_66 (by decide) H (fun H => ?_) (fun H => ?_)
            · refine jr_aload_n dX11_alms_72 rfl rfl ?_
              refine jr_aload_n dX11_alms_73 rfl rfl ?_
              refine jr_getR fl_RX11_9 dX11_alms_74 H (fun v14 H => ?_)
              obtain ⟨h15, Hc, H⟩ := Option.bind_eq_some_iff.mp H
              refine jr_callV (ci := 11) [.ref v14] my_X11_remember mv_X11_remember ml_RX11_282 dX11_alms_77 rfl rfl (Nat.le_of_ble_eq_true rfl) rfl (c_X11_remember l d F a0 v14 h6 h15 Hc) ?_
              refine jr_aload_n dX11_alms_80 rfl rfl ?_
              refine jr_getR fl_RX11_9 dX11_alms_81 H (fun v16 H => ?_)
              refine jr_iconst (v := 4) dX11_alms_84 (by decide) ?_
              refine jr_iload_n dX11_alms_85 rfl rfl ?_
              refine jr_iadd dX11_alms_86 ?_
              refine jr_dup2 dX11_alms_87 rfl rfl ?_
              refine jr_iald dX11_alms_88 H (fun v17 H => ?_)
              refine jr_iload_n dX11_alms_89 rfl rfl ?_
              refine jr_isub dX11_alms_90 ?_
              refine jr_iast dX11_alms_91 H (fun h18 H => ?_)
              refine jr_aload_n dX11_alms_92 rfl rfl ?_
              refine jr_getR fl_RX11_9 dX11_alms_93 H (fun v19 H => ?_)
              refine jr_iconst (v := 4) dX11_alms_96 (by decide) ?_
              refine jr_iload_n dX11_alms_97 rfl rfl ?_
              refine jr_iadd dX11_alms_98 ?_
              refine jr_sipush (v := 9999) dX11_alms_99 (by decide) ?_
              refine jr_aload_n dX11_alms_102 rfl rfl ?_
              refine jr_getR fl_RX11_9 dX11_alms_103 H (fun v20 H => ?_)
              refine jr_iconst (v := 4) dX11_alms_106 (by decide) ?_
              refine jr_iload_n dX11_alms_107 rfl rfl ?_
              refine jr_iadd dX11_alms_108 ?_
              refine jr_iald dX11_alms_109 H (fun v21 H => ?_)
              refine jr_iload_n dX11_alms_110 rfl rfl ?_
              refine jr_iadd dX11_alms_111 ?_
              refine jr_mmin ml_RX11_226 mm_mmin_s mm_i mm_mmin_c dX11_alms_112 (Nat.le_of_ble_eq_true rfl) ?_
              refine jr_iast dX11_alms_115 H (fun h22 H => ?_)
              refine jr_aload_n dX11_alms_116 rfl rfl ?_
              refine jr_getR fl_RX11_9 dX11_alms_117 H (fun v23 H => ?_)
              refine jr_iconst (v := 4) dX11_alms_120 (by decide) ?_
              refine jr_iload_n dX11_alms_121 rfl rfl ?_
              refine jr_iadd dX11_alms_122 ?_
              refine jr_iald dX11_alms_123 H (fun v24 H => ?_)
              exact jr_iret rfl dX11_alms_124 H
            · refine jr_bipush (v := (-2)) dX11_alms_69 (by decide) ?_
              exact jr_iret rfl dX11_alms_71 H
          · refine jr_bipush (v := (-3)) dX11_alms_54 (by decide) ?_
            exact jr_iret rfl dX11_alms_56 H
set_option maxRecDepth 100000 in
set_option maxHeartbeats 4000000 in
theorem s_X11_cheapestOf_L5 (l : Launch) (d : Nat) (F : Nat) (x0 : Nat) (x1 : Int32) (x2 : Int32) {rR : Int32} {hf : jH} : ∀ (n : Nat) (x3 : Int32) (x4 : Int32) (h : jH), f_X11_cheapestOf_L5 F x0 x1 x2 n x3 x4 h = some (rR, hf) → jGo l (d + 406) none RX11 cX11_cheapestOf 5 (some .int) false 5 [some (.ref x0), some (.int x1), some (.int x2), some (.int x3), some (.int x4)] [] h (some (.int rR)) hf := by
  intro n
  induction n with
  | zero =>
    intro x3 x4 h H
    cases H
  | succ n ih =>
    intro x3 x4 h H
    unfold f_X11_cheapestOf_L5 at H
    refine jr_iload dX11_cheapestOf_5 rfl ?_
    refine jr_aload_n dX11_cheapestOf_7 rfl rfl ?_
    refine jr_getI fl_RX11_120 (by decide) dX11_cheapestOf_8 H (fun v1 H => ?_)
    refine jr_icmp_ge (tgt := 54) dX11_cheapestOf_11 (by decide) H (fun H => ?_) (fun H => ?_)
    · refine jr_iload_n dX11_cheapestOf_54 rfl rfl ?_
      exact jr_iret rfl dX11_cheapestOf_55 H
    · refine jr_aload_n dX11_cheapestOf_14 rfl rfl ?_
      refine jr_iload dX11_cheapestOf_15 rfl ?_
      refine jr_iload_n dX11_cheapestOf_17 rfl rfl ?_
      obtain ⟨v3, h2, Hc, H⟩ := j_b2_some H
      refine jr_callV (ci := 11) [.int x4, .int x1] my_X11_means mv_X11_means ml_RX11_292 dX11_cheapestOf_18 rfl rfl (Nat.le_of_ble_eq_true rfl) rfl (c_X11_means l (d + 405) F x0 x4 x1 h v3 h2 Hc) ?_
      refine jr_jn (fun J => ∀ (z4 : Int32) (h5 : jH), J z4 h5 = some (rR, hf) → jGo l (d + 406) none RX11 cX11_cheapestOf 5 (some .int) false 48 [some (.ref x0), some (.int x1), some (.int x2), some (.int z4), some (.int x4)] [] h5 (some (.int rR)) hf) H (fun z4 h5 H => ?_) (fun J48 hJ48 H => ?_)
      · refine jr_iinc (v := (x4 + 1)) dX11_cheapestOf_48 rfl rfl (by decide) rfl (Or.inl rfl) ?_
        refine jr_goto (tgt := 5) dX11_cheapestOf_51 (by decide) ?_
        exact ih _ _ _ H
      · refine jr_if_eq (tgt := 48) dX11_cheapestOf_21 (by decide) H (fun H => ?_) (fun H => ?_)
        · exact hJ48 _ _ H
        · refine jr_iload_n dX11_cheapestOf_24 rfl rfl ?_
          refine jr_iconst (v := (-1)) dX11_cheapestOf_25 (by decide) ?_
          refine jr_jn (fun J => ∀ (h6 : jH), J h6 = some (rR, hf) → jGo l (d + 406) none RX11 cX11_cheapestOf 5 (some .int) false 45 [some (.ref x0), some (.int x1), some (.int x2), none, some (.int x4)] [] h6 (some (.int rR)) hf) H (fun h6 H => ?_) (fun J45 hJ45 H => ?_)
          · refine jr_iload dX11_cheapestOf_45 rfl ?_
            refine jr_istore_n dX11_cheapestOf_47 rfl (by decide) rfl (Or.inl rfl) ?_
            exact hJ48 _ _ H
          · refine jr_icmp_eq (tgt := 45) dX11_cheapestOf_26 (by decide) H (fun H => ?_) (fun H => ?_)
            · refine jr_fgt 3 ?_
              exact hJ45 _ H
            · refine jr_aload_n dX11_cheapestOf_29 rfl rfl ?_
              refine jr_iload dX11_cheapestOf_30 rfl ?_
              refine jr_iload_n dX11_cheapestOf_32 rfl rfl ?_
              obtain ⟨v8, h7, Hc, H⟩ := j_b2_some H
              refine jr_callV (ci := 11) [.int x4, .int x2] my_X11_tollNow mv_X11_tollNow ml_RX11_271 dX11_cheapestOf_33 rfl rfl (Nat.le_of_ble_eq_true rfl) rfl (c_X11_tollNow l d F x0 x4 x2 h2 v8 h7 Hc) ?_
              refine jr_aload_n dX11_cheapestOf_36 rfl rfl ?_
              refine jr_iload_n dX11_cheapestOf_37 rfl rfl ?_
              refine jr_iload_n dX11_cheapestOf_38 rfl rfl ?_
              obtain ⟨v10, h9, Hc, H⟩ := j_b2_some H
              refine jr_callV (ci := 11) [.int x3, .int x2] my_X11_tollNow mv_X11_tollNow ml_RX11_271 dX11_cheapestOf_39 rfl rfl (Nat.le_of_ble_eq_true rfl) rfl (c_X11_tollNow l d F x0 x3 x2 h7 v10 h9 Hc) ?_
              refine jr_icmp_ge (tgt := 48) dX11_cheapestOf_42 (by decide) H (fun H => ?_) (fun H => ?_)
              · exact hJ48 _ _ H
              · refine jr_fgt 3 ?_
                exact hJ45 _ H
set_option maxRecDepth 100000 in
set_option maxHeartbeats 4000000 in
theorem c_X11_cheapestOf (l : Launch) (d : Nat) (F : Nat) (a0 : Nat) (a1 : Int32) (a2 : Int32) (h : jH) (rR : Int32) (hf : jH) (H : f_X11_cheapestOf F a0 a1 a2 h = some (rR, hf)) : jh_sh h a0 = (11, 0) ∧ jMet l (d + 406) yX11_cheapestOf cX11_cheapestOf 5 (some .int) [.ref a0, .int a1, .int a2] h (some (.int rR)) hf := by
  unfold f_X11_cheapestOf at H
  obtain ⟨hsh, H⟩ := j_gd_some H
  refine ⟨hsh, ?_⟩
  refine jMet.of false [some (.ref a0), some (.int a1), some (.int a2), none, none] rfl (by decide) (by decide) (Nat.le_of_ble_eq_true rfl) (fun S0 q hq => by simpa [j_l, lv_args, j_v, Value.category] using hq) ?_
  refine jr_iconst (v := (-1)) dX11_cheapestOf_0 (by decide) ?_
  refine jr_istore_n dX11_cheapestOf_1 rfl (by decide) rfl (Or.inl rfl) ?_
  refine jr_iconst (v := 0) dX11_cheapestOf_2 (by decide) ?_
  refine jr_istore dX11_cheapestOf_3 (by decide) rfl (Or.inl rfl) ?_
  exact s_X11_cheapestOf_L5 l d F a0 a1 a2 F (-1) 0 h H
set_option maxRecDepth 100000 in
set_option maxHeartbeats 4000000 in
theorem s_X11_wordFor_L2 (l : Launch) (d : Nat) (F : Nat) (x0 : Nat) (x1 : Int32) (k37 : Int32 → jH → Option (Int32 × jH)) {rR : Int32} {hf : jH} (hk37 : ∀ (y2 : Int32) (h : jH), k37 y2 h = some (rR, hf) → jGo l (d + 407) none RX11 cX11_wordFor 3 (some .int) false 37 [some (.ref x0), some (.int x1), some (.int y2)] [] h (some (.int rR)) hf) : ∀ (n : Nat) (x2 : Int32) (h : jH), f_X11_wordFor_L2 F x0 x1 k37 n x2 h = some (rR, hf) → jGo l (d + 407) none RX11 cX11_wordFor 3 (some .int) false 2 [some (.ref x0), some (.int x1), some (.int x2)] [] h (some (.int rR)) hf := by
  intro n
  induction n with
  | zero =>
    intro x2 h H
    cases H
  | succ n ih =>
    intro x2 h H
    unfold f_X11_wordFor_L2 at H
    refine jr_iload_n dX11_wordFor_2 rfl rfl ?_
    refine jr_aload_n dX11_wordFor_3 rfl rfl ?_
    refine jr_getI fl_RX11_168 (by decide) dX11_wordFor_4 H (fun v1 H => ?_)
    refine jr_icmp_ge (tgt := 60) dX11_wordFor_7 (by decide) H (fun H => ?_) (fun H => ?_)
    · refine jr_iconst (v := (-1)) dX11_wordFor_60 (by decide) ?_
      exact jr_iret rfl dX11_wordFor_61 H
    · refine jr_aload_n dX11_wordFor_10 rfl rfl ?_
      refine jr_iload_n dX11_wordFor_11 rfl rfl ?_
      obtain ⟨v3, h2, Hc, H⟩ := j_b2_some H
      refine jr_callV (ci := 11) [.int x1] my_X11_openOf mv_X11_openOf ml_RX11_261 dX11_wordFor_12 rfl rfl (Nat.le_of_ble_eq_true rfl) rfl (c_X11_openOf l (d + 405) F x0 x1 h v3 h2 Hc) ?_
      refine jr_iload_n dX11_wordFor_15 rfl rfl ?_
      obtain ⟨v5, h4, Hc, H⟩ := j_b2_some H
      refine jr_callS [.int v3, .int x2] my_X11_has ms_X11_has ml_RX11_254 dX11_wordFor_16 rfl rfl (Nat.le_of_ble_eq_true rfl) (c_X11_has l (d + 406) F v3 x2 h2 v5 h4 Hc) ?_
      refine jr_jn (fun J => ∀ (h6 : jH), J h6 = some (rR, hf) → jGo l (d + 407) none RX11 cX11_wordFor 3 (some .int) false 54 [some (.ref x0), some (.int x1), some (.int x2)] [] h6 (some (.int rR)) hf) H (fun h6 H => ?_) (fun J54 hJ54 H => ?_)
      · refine jr_iinc (v := (x2 + 1)) dX11_wordFor_54 rfl rfl (by decide) rfl (Or.inl rfl) ?_
        refine jr_goto (tgt := 2) dX11_wordFor_57 (by decide) ?_
        exact ih _ _ H
      · refine jr_if_eq (tgt := 54) dX11_wordFor_19 (by decide) H (fun H => ?_) (fun H => ?_)
        · exact hJ54 _ H
        · refine jr_aload_n dX11_wordFor_22 rfl rfl ?_
          refine jr_iload_n dX11_wordFor_23 rfl rfl ?_
          refine jr_iconst (v := 2) dX11_wordFor_24 (by decide) ?_
          obtain ⟨v8, h7, Hc, H⟩ := j_b2_some H
          refine jr_callV (ci := 11) [.int x2, .int 2] my_X11_field mv_X11_field ml_RX11_251 dX11_wordFor_25 rfl rfl (Nat.le_of_ble_eq_true rfl) rfl (c_X11_field l (d + 406) F x0 x2 2 h4 v8 h7 Hc) ?_
          refine jr_aload_n dX11_wordFor_28 rfl rfl ?_
          refine jr_getR fl_RX11_9 dX11_wordFor_29 H (fun v9 H => ?_)
          refine jr_iload_n dX11_wordFor_32 rfl rfl ?_
          refine jr_iald dX11_wordFor_33 H (fun v10 H => ?_)
          refine jr_icmp_ne (tgt := 54) dX11_wordFor_34 (by decide) H (fun H => ?_) (fun H => ?_)
          · exact hk37 _ _ H
          · exact hJ54 _ H
set_option maxRecDepth 100000 in
set_option maxHeartbeats 4000000 in
theorem c_X11_wordFor (l : Launch) (d : Nat) (F : Nat) (a0 : Nat) (a1 : Int32) (h : jH) (rR : Int32) (hf : jH) (H : f_X11_wordFor F a0 a1 h = some (rR, hf)) : jh_sh h a0 = (11, 0) ∧ jMet l (d + 407) yX11_wordFor cX11_wordFor 3 (some .int) [.ref a0, .int a1] h (some (.int rR)) hf := by
  unfold f_X11_wordFor at H
  obtain ⟨hsh, H⟩ := j_gd_some H
  refine ⟨hsh, ?_⟩
  refine jMet.of false [some (.ref a0), some (.int a1), none] rfl (by decide) (by decide) (Nat.le_of_ble_eq_true rfl) (fun S0 q hq => by simpa [j_l, lv_args, j_v, Value.category] using hq) ?_
  refine jr_iconst (v := 0) dX11_wordFor_0 (by decide) ?_
  refine jr_istore_n dX11_wordFor_1 rfl (by decide) rfl (Or.inl rfl) ?_
  refine s_X11_wordFor_L2 l d F a0 a1 _ (fun y11 h12 H => ?_) F 0 h H
  · refine jr_aload_n dX11_wordFor_37 rfl rfl ?_
    refine jr_aload_n dX11_wordFor_38 rfl rfl ?_
    refine jr_iload_n dX11_wordFor_39 rfl rfl ?_
    refine jr_iconst (v := 1) dX11_wordFor_40 (by decide) ?_
    obtain ⟨v14, h13, Hc, H⟩ := j_b2_some H
    refine jr_callV (ci := 11) [.int y11, .int 1] my_X11_field mv_X11_field ml_RX11_251 dX11_wordFor_41 rfl rfl (Nat.le_of_ble_eq_true rfl) rfl (c_X11_field l (d + 406) F a0 y11 1 h12 v14 h13 Hc) ?_
    refine jr_aload_n dX11_wordFor_44 rfl rfl ?_
    refine jr_getR fl_RX11_9 dX11_wordFor_45 H (fun v15 H => ?_)
    refine jr_iload_n dX11_wordFor_48 rfl rfl ?_
    refine jr_iald dX11_wordFor_49 H (fun v16 H => ?_)
    obtain ⟨v18, h17, Hc, H⟩ := j_b2_some H
    refine jr_callV (ci := 11) [.int v14, .int v16] my_X11_cheapestOf mv_X11_cheapestOf ml_RX11_313 dX11_wordFor_50 rfl rfl (Nat.le_of_ble_eq_true rfl) rfl (c_X11_cheapestOf l d F a0 v14 v16 h13 v18 h17 Hc) ?_
    exact jr_iret rfl dX11_wordFor_53 H
set_option maxRecDepth 100000 in
set_option maxHeartbeats 4000000 in
theorem c_X11_act (l : Launch) (d : Nat) (F : Nat) (a0 : Nat) (a1 : Int32) (a2 : Int32) (a3 : Int32) (h : jH) (rR : Int32) (hf : jH) (H : f_X11_act F a0 a1 a2 a3 h = some (rR, hf)) : jh_sh h a0 = (11, 0) ∧ jMet l (d + 408) yX11_act cX11_act 5 (some .boolean) [.ref a0, .int a1, .int a2, .int a3] h (some (.int rR)) hf := by
  unfold f_X11_act at H
  obtain ⟨hsh, H⟩ := j_gd_some H
  refine ⟨hsh, ?_⟩
  refine jMet.of false [some (.ref a0), some (.int a1), some (.int a2), some (.int a3), none] rfl (by decide) (by decide) (Nat.le_of_ble_eq_true rfl) (fun S0 q hq => by simpa [j_l, lv_args, j_v, Value.category] using hq) ?_
  refine jr_iload_n dX11_act_0 rfl rfl ?_
  refine jr_bipush (v := 119) dX11_act_1 (by decide) ?_
  refine jr_icmp_ne (tgt := 19) dX11_act_3 (by decide) H (fun H => ?_) (fun H => ?_)
  · refine jr_aload_n dX11_act_6 rfl rfl ?_
    refine jr_getR fl_RX11_9 dX11_act_7 H (fun v1 H => ?_)
    refine jr_bipush (v := 12) dX11_act_10 (by decide) ?_
    refine jr_dup2 dX11_act_12 rfl rfl ?_
    refine jr_iald dX11_act_13 H (fun v2 H => ?_)
    refine jr_iload_n dX11_act_14 rfl rfl ?_
    refine jr_iadd dX11_act_15 ?_
    refine jr_iast dX11_act_16 H (fun h3 H => ?_)
    refine jr_iconst (v := 1) dX11_act_17 (by decide) ?_
    exact jr_zret rfl rfl dX11_act_18 H
  · refine jr_aload_n dX11_act_19 rfl rfl ?_
    refine jr_iload_n dX11_act_20 rfl rfl ?_
    obtain ⟨v5, h4, Hc, H⟩ := j_b2_some H
    refine jr_callV (ci := 11) [.int a2] my_X11_isOne mv_X11_isOne ml_RX11_258 dX11_act_21 rfl rfl (Nat.le_of_ble_eq_true rfl) rfl (c_X11_isOne l (d + 406) F a0 a2 h v5 h4 Hc) ?_
    refine jr_if_ne (tgt := 29) dX11_act_24 (by decide) H (fun H => ?_) (fun H => ?_)
    · refine jr_iconst (v := 0) dX11_act_27 (by decide) ?_
      exact jr_zret rfl rfl dX11_act_28 H
    · refine jr_iload_n dX11_act_29 rfl rfl ?_
      refine jr_bipush (v := 62) dX11_act_30 (by decide) ?_
      refine jr_jn (fun J => ∀ (h6 : jH), J h6 = some (rR, hf) → jGo l (d + 408) none RX11 cX11_act 5 (some .boolean) false 41 [some (.ref a0), some (.int a1), some (.int a2), none, none] [] h6 (some (.int rR)) hf) H (fun h6 H => ?_) (fun J41 hJ41 H => ?_)
      · refine jr_iload_n dX11_act_41 rfl rfl ?_
        refine jr_bipush (v := 62) dX11_act_42 (by decide) ?_
        refine jr_jn (fun J => ∀ (s7 : Int32) (h8 : jH), J s7 h8 = some (rR, hf) → jGo l (d + 408) none RX11 cX11_act 5 (some .boolean) false 52 [some (.ref a0), none, some (.int a2), none, none] [.int s7] h8 (some (.int rR)) hf) H (fun s7 h8 H => ?_) (fun J52 hJ52 H => ?_)
        · refine jr_istore dX11_act_52 (by decide) rfl (Or.inl rfl) ?_
          refine jr_aload_n dX11_act_54 rfl rfl ?_
          refine jr_aload_n dX11_act_55 rfl rfl ?_
          refine jr_getR fl_RX11_9 dX11_act_56 H (fun v9 H => ?_)
          refine jr_iload_n dX11_act_59 rfl rfl ?_
          refine jr_iload dX11_act_60 rfl ?_
          obtain ⟨v11, h10, Hc, H⟩ := j_b2_some H
          refine jr_callV (ci := 11) [.ref v9, .int a2, .int s7] my_X11_refusesWalk mv_X11_refusesWalk ml_RX11_278 dX11_act_62 rfl rfl (Nat.le_of_ble_eq_true rfl) rfl (c_X11_refusesWalk l (d + 405) F a0 v9 a2 s7 h8 v11 h10 Hc) ?_
          refine jr_if_ge (tgt := 70) dX11_act_65 (by decide) H (fun H => ?_) (fun H => ?_)
          · refine jr_aload_n dX11_act_70 rfl rfl ?_
            refine jr_getR fl_RX11_9 dX11_act_71 H (fun v12 H => ?_)
            refine jr_iload_n dX11_act_74 rfl rfl ?_
            refine jr_iload dX11_act_75 rfl ?_
            obtain ⟨v14, h13, Hc, H⟩ := j_b2_some H
            refine jr_callS [.ref v12, .int a2, .int s7] my_X11_goWalk ms_X11_goWalk ml_RX11_286 dX11_act_77 rfl rfl (Nat.le_of_ble_eq_true rfl) (c_X11_goWalk l (d + 407) F v12 a2 s7 h10 v14 h13 Hc) ?_
            refine jr_pop dX11_act_80 rfl ?_
            refine jr_iconst (v := 1) dX11_act_81 (by decide) ?_
            exact jr_zret rfl rfl dX11_act_82 H
          · refine jr_iconst (v := 0) dX11_act_68 (by decide) ?_
            exact jr_zret rfl rfl dX11_act_69 H
        · refine jr_icmp_ne (tgt := 51) dX11_act_44 (by decide) H (fun H => ?_) (fun H => ?_)
          · refine jr_iconst (v := 1) dX11_act_47 (by decide) ?_
            refine jr_goto (tgt := 52) dX11_act_48 (by decide) ?_
            refine jr_fgt 1 ?_
            exact hJ52 _ _ H
          · refine jr_iconst (v := 0) dX11_act_51 (by decide) ?_
            refine jr_fgt 1 ?_
            exact hJ52 _ _ H
      · refine jr_icmp_eq (tgt := 41) dX11_act_32 (by decide) H (fun H => ?_) (fun H => ?_)
        · refine jr_fgt 3 ?_
          exact hJ41 _ H
        · refine jr_iload_n dX11_act_35 rfl rfl ?_
          refine jr_bipush (v := 60) dX11_act_36 (by decide) ?_
          refine jr_icmp_ne (tgt := 83) dX11_act_38 (by decide) H (fun H => ?_) (fun H => ?_)
          · refine jr_fgt 3 ?_
            exact hJ41 _ H
          · refine jr_iload_n dX11_act_83 rfl rfl ?_
            refine jr_bipush (v := 115) dX11_act_84 (by decide) ?_
            refine jr_jn (fun J => ∀ (s15 : Int32) (h16 : jH), J s15 h16 = some (rR, hf) → jGo l (d + 408) none RX11 cX11_act 5 (some .boolean) false 98 [some (.ref a0), none, some (.int a2), none, none] [.int s15] h16 (some (.int rR)) hf) H (fun s15 h16 H => ?_) (fun J98 hJ98 H => ?_)
            · refine jr_istore dX11_act_98 (by decide) rfl (Or.inl rfl) ?_
              refine jr_iload dX11_act_100 rfl ?_
              refine jr_if_lt (tgt := 119) dX11_act_102 (by decide) H (fun H => ?_) (fun H => ?_)
              · refine jr_iconst (v := 0) dX11_act_119 (by decide) ?_
                exact jr_zret rfl rfl dX11_act_120 H
              · refine jr_aload_n dX11_act_105 rfl rfl ?_
                refine jr_aload_n dX11_act_106 rfl rfl ?_
                refine jr_getR fl_RX11_9 dX11_act_107 H (fun v17 H => ?_)
                refine jr_iload_n dX11_act_110 rfl rfl ?_
                refine jr_iload dX11_act_111 rfl ?_
                obtain ⟨v19, h18, Hc, H⟩ := j_b2_some H
                refine jr_callV (ci := 11) [.ref v17, .int a2, .int s15] my_X11_refusesSay mv_X11_refusesSay ml_RX11_295 dX11_act_113 rfl rfl (Nat.le_of_ble_eq_true rfl) rfl (c_X11_refusesSay l (d + 2) F a0 v17 a2 s15 h16 v19 h18 Hc) ?_
                refine jr_if_ge (tgt := 121) dX11_act_116 (by decide) H (fun H => ?_) (fun H => ?_)
                · refine jr_aload_n dX11_act_121 rfl rfl ?_
                  refine jr_dup dX11_act_122 rfl ?_
                  refine jr_getI fl_RX11_304 (by decide) dX11_act_123 H (fun v20 H => ?_)
                  refine jr_aload_n dX11_act_126 rfl rfl ?_
                  refine jr_aload_n dX11_act_127 rfl rfl ?_
                  refine jr_getR fl_RX11_9 dX11_act_128 H (fun v21 H => ?_)
                  refine jr_iload_n dX11_act_131 rfl rfl ?_
                  refine jr_iload dX11_act_132 rfl ?_
                  obtain ⟨v23, h22, Hc, H⟩ := j_b2_some H
                  refine jr_callV (ci := 11) [.ref v21, .int a2, .int s15] my_X11_goSay mv_X11_goSay ml_RX11_298 dX11_act_134 rfl rfl (Nat.le_of_ble_eq_true rfl) rfl (c_X11_goSay l (d + 2) F a0 v21 a2 s15 h18 v23 h22 Hc) ?_
                  refine jr_iadd dX11_act_137 ?_
                  refine jr_putI fl_RX11_304 (fun z => by cases z) dX11_act_138 H (fun h24 H => ?_)
                  refine jr_iconst (v := 1) dX11_act_141 (by decide) ?_
                  exact jr_zret rfl rfl dX11_act_142 H
                · refine jr_iconst (v := 0) dX11_act_119 (by decide) ?_
                  exact jr_zret rfl rfl dX11_act_120 H
            · refine jr_icmp_ne (tgt := 93) dX11_act_86 (by decide) H (fun H => ?_) (fun H => ?_)
              · refine jr_iload_n dX11_act_89 rfl rfl ?_
                refine jr_goto (tgt := 98) dX11_act_90 (by decide) ?_
                refine jr_fgt 1 ?_
                refine jr_fgt 3 ?_
                exact hJ98 _ _ H
              · refine jr_aload_n dX11_act_93 rfl rfl ?_
                refine jr_iload_n dX11_act_94 rfl rfl ?_
                obtain ⟨v26, h25, Hc, H⟩ := j_b2_some H
                refine jr_callV (ci := 11) [.int a2] my_X11_wordFor mv_X11_wordFor ml_RX11_310 dX11_act_95 rfl rfl (Nat.le_of_ble_eq_true rfl) rfl (c_X11_wordFor l d F a0 a2 h4 v26 h25 Hc) ?_
                refine jr_fgt 1 ?_
                refine jr_fgt 3 ?_
                exact hJ98 _ _ H
set_option maxRecDepth 100000 in
set_option maxHeartbeats 4000000 in
theorem c_X11_readAct (l : Launch) (d : Nat) (F : Nat) (a0 : Nat) (a1 : Int32) (h : jH) (hf : jH) (H : f_X11_readAct F a0 a1 h = some hf) : jh_sh h a0 = (11, 0) ∧ jMet l (d + 4) yX11_readAct cX11_readAct 3 none [.ref a0, .int a1] h none hf := by
  unfold f_X11_readAct at H
  obtain ⟨hsh, H⟩ := j_gd_some H
  refine ⟨hsh, ?_⟩
  refine jMet.of false [some (.ref a0), some (.int a1), none] rfl (by decide) (by decide) (Nat.le_of_ble_eq_true rfl) (fun S0 q hq => by simpa [j_l, lv_args, j_v, Value.category] using hq) ?_
  refine jr_aload_n dX11_readAct_0 rfl rfl ?_
  refine jr_bipush (v := 119) dX11_readAct_1 (by decide) ?_
  obtain ⟨v2, h1, Hc, H⟩ := j_b2_some H
  refine jr_callV (ci := 11) [.int 119] my_X11_passes mv_X11_passes ml_RX11_156 dX11_readAct_3 rfl rfl (Nat.le_of_ble_eq_true rfl) rfl (c_X11_passes l (d + 2) F a0 119 h v2 h1 Hc) ?_
  refine jr_if_eq (tgt := 31) dX11_readAct_6 (by decide) H (fun H => ?_) (fun H => ?_)
  · refine jr_aload_n dX11_readAct_31 rfl rfl ?_
    refine jr_getR fl_RX11_64 dX11_readAct_32 H (fun v3 H => ?_)
    refine jr_iload_n dX11_readAct_35 rfl rfl ?_
    refine jr_iconst (v := 1) dX11_readAct_36 (by decide) ?_
    refine jr_iadd dX11_readAct_37 ?_
    refine jr_aload_n dX11_readAct_38 rfl rfl ?_
    refine jr_bipush (v := 97) dX11_readAct_39 (by decide) ?_
    refine jr_iconst (v := 4) dX11_readAct_41 (by decide) ?_
    obtain ⟨v5, h4, Hc, H⟩ := j_b2_some H
    refine jr_callV (ci := 11) [.int 97, .int 4] my_X11_oneOf mv_X11_oneOf ml_RX11_164 dX11_readAct_42 rfl rfl (Nat.le_of_ble_eq_true rfl) rfl (c_X11_oneOf l (d + 1) F a0 97 4 h1 v5 h4 Hc) ?_
    refine jr_iast dX11_readAct_45 H (fun h6 H => ?_)
    refine jr_aload_n dX11_readAct_46 rfl rfl ?_
    obtain ⟨v8, h7, Hc, H⟩ := j_b2_some H
    refine jr_callV (ci := 11) [] my_X11_here mv_X11_here ml_RX11_152 dX11_readAct_47 rfl rfl (Nat.le_of_ble_eq_true rfl) rfl (c_X11_here l (d + 3) F a0 h6 v8 h7 Hc) ?_
    refine jr_istore_n dX11_readAct_50 rfl (by decide) rfl (Or.inl rfl) ?_
    refine jr_aload_n dX11_readAct_51 rfl rfl ?_
    obtain ⟨v10, h9, Hc, H⟩ := j_b2_some H
    refine jr_callV (ci := 11) [] my_X11_fine mv_X11_fine ml_RX11_148 dX11_readAct_52 rfl rfl (Nat.le_of_ble_eq_true rfl) rfl (c_X11_fine l (d + 3) F a0 h7 v10 h9 Hc) ?_
    refine jr_jn (fun J => ∀ (h11 : jH), J h11 = some hf → jGo l (d + 4) none RX11 cX11_readAct 3 none false 95 [some (.ref a0), some (.int a1), some (.int v8)] [] h11 none hf) H (fun h11 H => ?_) (fun J95 hJ95 H => ?_)
    · refine jr_aload_n dX11_readAct_95 rfl rfl ?_
      refine jr_dup dX11_readAct_96 rfl ?_
      refine jr_getI fl_RX11_138 (by decide) dX11_readAct_97 H (fun v12 H => ?_)
      refine jr_iconst (v := 1) dX11_readAct_100 (by decide) ?_
      refine jr_iadd dX11_readAct_101 ?_
      refine jr_putI fl_RX11_138 (fun z => by cases z) dX11_readAct_102 H (fun h13 H => ?_)
      refine jr_aload_n dX11_readAct_105 rfl rfl ?_
      refine jr_getR fl_RX11_64 dX11_readAct_106 H (fun v14 H => ?_)
      refine jr_iload_n dX11_readAct_109 rfl rfl ?_
      refine jr_iload_n dX11_readAct_110 rfl rfl ?_
      refine jr_bipush (v := 48) dX11_readAct_111 (by decide) ?_
      refine jr_bipush (v := 57) dX11_readAct_113 (by decide) ?_
      obtain ⟨v16, h15, Hc, H⟩ := j_b2_some H
      refine jr_callS [.int v8, .int 48, .int 57] my_X11_in ms_X11_in ml_RX11_116 dX11_readAct_115 rfl rfl (Nat.le_of_ble_eq_true rfl) (c_X11_in l (d + 3) F v8 48 57 h13 v16 h15 Hc) ?_
      refine jr_jn (fun J => ∀ (s17 : Int32) (s18 : Int32) (s19 : Nat) (h20 : jH), J s17 s18 s19 h20 = some hf → jGo l (d + 4) none RX11 cX11_readAct 3 none false 127 [some (.ref a0), some (.int a1), some (.int v8)] [.int s17, .int s18, .ref s19] h20 none hf) H (fun s17 s18 s19 h20 H => ?_) (fun J127 hJ127 H => ?_)
      · refine jr_iast dX11_readAct_127 H (fun h21 H => ?_)
        refine jr_aload_n dX11_readAct_128 rfl rfl ?_
        refine jr_getR fl_RX11_64 dX11_readAct_129 H (fun v22 H => ?_)
        refine jr_iload_n dX11_readAct_132 rfl rfl ?_
        refine jr_iconst (v := 2) dX11_readAct_133 (by decide) ?_
        refine jr_iadd dX11_readAct_134 ?_
        refine jr_iload_n dX11_readAct_135 rfl rfl ?_
        refine jr_bipush (v := 48) dX11_readAct_136 (by decide) ?_
        refine jr_isub dX11_readAct_138 ?_
        refine jr_iast dX11_readAct_139 H (fun h23 H => ?_)
        exact jr_vret rfl dX11_readAct_140 H
      · refine jr_if_eq (tgt := 126) dX11_readAct_118 (by decide) H (fun H => ?_) (fun H => ?_)
        · refine jr_iload_n dX11_readAct_126 rfl rfl ?_
          exact hJ127 _ _ _ _ H
        · refine jr_bipush (v := 115) dX11_readAct_121 (by decide) ?_
          refine jr_goto (tgt := 127) dX11_readAct_123 (by decide) ?_
          exact hJ127 _ _ _ _ H
    · refine jr_if_eq (tgt := 95) dX11_readAct_55 (by decide) H (fun H => ?_) (fun H => ?_)
      · exact hJ95 _ H
      · refine jr_iload_n dX11_readAct_58 rfl rfl ?_
        refine jr_bipush (v := 62) dX11_readAct_59 (by decide) ?_
        refine jr_icmp_eq (tgt := 95) dX11_readAct_61 (by decide) H (fun H => ?_) (fun H => ?_)
        · exact hJ95 _ H
        · refine jr_iload_n dX11_readAct_64 rfl rfl ?_
          refine jr_bipush (v := 60) dX11_readAct_65 (by decide) ?_
          refine jr_icmp_eq (tgt := 95) dX11_readAct_67 (by decide) H (fun H => ?_) (fun H => ?_)
          · exact hJ95 _ H
          · refine jr_iload_n dX11_readAct_70 rfl rfl ?_
            refine jr_bipush (v := 33) dX11_readAct_71 (by decide) ?_
            refine jr_icmp_eq (tgt := 95) dX11_readAct_73 (by decide) H (fun H => ?_) (fun H => ?_)
            · exact hJ95 _ H
            · refine jr_iload_n dX11_readAct_76 rfl rfl ?_
              refine jr_bipush (v := 48) dX11_readAct_77 (by decide) ?_
              refine jr_bipush (v := 57) dX11_readAct_79 (by decide) ?_
              obtain ⟨v25, h24, Hc, H⟩ := j_b2_some H
              refine jr_callS [.int v8, .int 48, .int 57] my_X11_in ms_X11_in ml_RX11_116 dX11_readAct_81 rfl rfl (Nat.le_of_ble_eq_true rfl) (c_X11_in l (d + 3) F v8 48 57 h9 v25 h24 Hc) ?_
              refine jr_if_ne (tgt := 95) dX11_readAct_84 (by decide) H (fun H => ?_) (fun H => ?_)
              · refine jr_aload_n dX11_readAct_87 rfl rfl ?_
                refine jr_aload_n dX11_readAct_88 rfl rfl ?_
                refine jr_getI fl_RX11_138 (by decide) dX11_readAct_89 H (fun v26 H => ?_)
                obtain ⟨h27, Hc, H⟩ := Option.bind_eq_some_iff.mp H
                refine jr_callV (ci := 11) [.int v26] my_X11_fault mv_X11_fault ml_RX11_160 dX11_readAct_92 rfl rfl (Nat.le_of_ble_eq_true rfl) rfl (c_X11_fault l (d + 2) F a0 v26 h24 h27 Hc) ?_
                exact hJ95 _ H
              · exact hJ95 _ H
  · refine jr_aload_n dX11_readAct_9 rfl rfl ?_
    refine jr_getR fl_RX11_64 dX11_readAct_10 H (fun v28 H => ?_)
    refine jr_iload_n dX11_readAct_13 rfl rfl ?_
    refine jr_bipush (v := 119) dX11_readAct_14 (by decide) ?_
    refine jr_iast dX11_readAct_16 H (fun h29 H => ?_)
    refine jr_aload_n dX11_readAct_17 rfl rfl ?_
    refine jr_getR fl_RX11_64 dX11_readAct_18 H (fun v30 H => ?_)
    refine jr_iload_n dX11_readAct_21 rfl rfl ?_
    refine jr_iconst (v := 1) dX11_readAct_22 (by decide) ?_
    refine jr_iadd dX11_readAct_23 ?_
    refine jr_aload_n dX11_readAct_24 rfl rfl ?_
    refine jr_iconst (v := 2) dX11_readAct_25 (by decide) ?_
    obtain ⟨v32, h31, Hc, H⟩ := j_b2_some H
    refine jr_callV (ci := 11) [.int 2] my_X11_number mv_X11_number ml_RX11_190 dX11_readAct_26 rfl rfl (Nat.le_of_ble_eq_true rfl) rfl (c_X11_number l d F a0 2 h29 v32 h31 Hc) ?_
    refine jr_iast dX11_readAct_29 H (fun h33 H => ?_)
    exact jr_vret rfl dX11_readAct_30 H
set_option maxRecDepth 100000 in
set_option maxHeartbeats 4000000 in
theorem s_X11_journey_L26 (l : Launch) (d : Nat) (F : Nat) (x0 : Nat) (k57 : Int32 → jH → Option (Int32 × jH)) {rR : Int32} {hf : jH} (hk57 : ∀ (y1 : Int32) (h : jH), k57 y1 h = some (rR, hf) → jGo l (d + 409) none RX11 cX11_journey 4 (some .int) false 57 [some (.ref x0), some (.int y1), none, none] [] h (some (.int rR)) hf) : ∀ (n : Nat) (x1 : Int32) (x2 : Int32) (h : jH), f_X11_journey_L26 F x0 k57 n x1 x2 h = some (rR, hf) → jGo l (d + 409) none RX11 cX11_journey 4 (some .int) false 26 [some (.ref x0), some (.int x1), some (.int x2), none] [] h (some (.int rR)) hf := by
  intro n
  induction n with
  | zero =>
    intro x1 x2 h H
    cases H
  | succ n ih =>
    intro x1 x2 h H
    unfold f_X11_journey_L26 at H
    refine jr_iload_n dX11_journey_26 rfl rfl ?_
    refine jr_if_eq (tgt := 57) dX11_journey_27 (by decide) H (fun H => ?_) (fun H => ?_)
    · refine jr_fgt 2 ?_
      exact hk57 _ _ H
    · refine jr_aload_n dX11_journey_30 rfl rfl ?_
      obtain ⟨v7, h6, Hc, H⟩ := j_b2_some H
      refine jr_callV (ci := 11) [] my_X11_fine mv_X11_fine ml_RX11_148 dX11_journey_31 rfl rfl (Nat.le_of_ble_eq_true rfl) rfl (c_X11_fine l (d + 408) F x0 h v7 h6 Hc) ?_
      refine jr_if_eq (tgt := 57) dX11_journey_34 (by decide) H (fun H => ?_) (fun H => ?_)
      · refine jr_fgt 2 ?_
        exact hk57 _ _ H
      · refine jr_aload_n dX11_journey_37 rfl rfl ?_
        refine jr_iconst (v := 3) dX11_journey_38 (by decide) ?_
        refine jr_iload_n dX11_journey_39 rfl rfl ?_
        refine jr_imul dX11_journey_40 ?_
        obtain ⟨h8, Hc, H⟩ := Option.bind_eq_some_iff.mp H
        refine jr_callV (ci := 11) [.int ((3 : Int32) * x1)] my_X11_readAct mv_X11_readAct ml_RX11_301 dX11_journey_41 rfl rfl (Nat.le_of_ble_eq_true rfl) rfl (c_X11_readAct l (d + 404) F x0 ((3 : Int32) * x1) h6 h8 Hc) ?_
        refine jr_iinc (v := (x1 + 1)) dX11_journey_44 rfl rfl (by decide) rfl (Or.inl rfl) ?_
        refine jr_aload_n dX11_journey_47 rfl rfl ?_
        refine jr_bipush (v := 59) dX11_journey_48 (by decide) ?_
        obtain ⟨v10, h9, Hc, H⟩ := j_b2_some H
        refine jr_callV (ci := 11) [.int 59] my_X11_passes mv_X11_passes ml_RX11_156 dX11_journey_50 rfl rfl (Nat.le_of_ble_eq_true rfl) rfl (c_X11_passes l (d + 407) F x0 59 h8 v10 h9 Hc) ?_
        refine jr_istore_n dX11_journey_53 rfl (by decide) rfl (Or.inl rfl) ?_
        refine jr_goto (tgt := 26) dX11_journey_54 (by decide) ?_
        exact ih _ _ _ H
set_option maxRecDepth 100000 in
set_option maxHeartbeats 4000000 in
theorem s_X11_journey_L90 (l : Launch) (d : Nat) (F : Nat) (x0 : Nat) (x1 : Int32) (k136 : Int32 → jH → Option (Int32 × jH)) {rR : Int32} {hf : jH} (hk136 : ∀ (y3 : Int32) (h : jH), k136 y3 h = some (rR, hf) → jGo l (d + 409) none RX11 cX11_journey 4 (some .int) false 136 [some (.ref x0), some (.int x1), none, some (.int y3)] [] h (some (.int rR)) hf) : ∀ (n : Nat) (x3 : Int32) (h : jH), f_X11_journey_L90 F x0 x1 k136 n x3 h = some (rR, hf) → jGo l (d + 409) none RX11 cX11_journey 4 (some .int) false 90 [some (.ref x0), some (.int x1), none, some (.int x3)] [] h (some (.int rR)) hf := by
  intro n
  induction n with
  | zero =>
    intro x3 h H
    cases H
  | succ n ih =>
    intro x3 h H
    unfold f_X11_journey_L90 at H
    refine jr_iload_n dX11_journey_90 rfl rfl ?_
    refine jr_iload_n dX11_journey_91 rfl rfl ?_
    refine jr_icmp_ge (tgt := 136) dX11_journey_92 (by decide) H (fun H => ?_) (fun H => ?_)
    · exact hk136 _ _ H
    · refine jr_aload_n dX11_journey_95 rfl rfl ?_
      refine jr_aload_n dX11_journey_96 rfl rfl ?_
      refine jr_getR fl_RX11_64 dX11_journey_97 H (fun v20 H => ?_)
      refine jr_iconst (v := 3) dX11_journey_100 (by decide) ?_
      refine jr_iload_n dX11_journey_101 rfl rfl ?_
      refine jr_imul dX11_journey_102 ?_
      refine jr_iald dX11_journey_103 H (fun v21 H => ?_)
      refine jr_aload_n dX11_journey_104 rfl rfl ?_
      refine jr_getR fl_RX11_64 dX11_journey_105 H (fun v22 H => ?_)
      refine jr_iconst (v := 3) dX11_journey_108 (by decide) ?_
      refine jr_iload_n dX11_journey_109 rfl rfl ?_
      refine jr_imul dX11_journey_110 ?_
      refine jr_iconst (v := 1) dX11_journey_111 (by decide) ?_
      refine jr_iadd dX11_journey_112 ?_
      refine jr_iald dX11_journey_113 H (fun v23 H => ?_)
      refine jr_aload_n dX11_journey_114 rfl rfl ?_
      refine jr_getR fl_RX11_64 dX11_journey_115 H (fun v24 H => ?_)
      refine jr_iconst (v := 3) dX11_journey_118 (by decide) ?_
      refine jr_iload_n dX11_journey_119 rfl rfl ?_
      refine jr_imul dX11_journey_120 ?_
      refine jr_iconst (v := 2) dX11_journey_121 (by decide) ?_
      refine jr_iadd dX11_journey_122 ?_
      refine jr_iald dX11_journey_123 H (fun v25 H => ?_)
      obtain ⟨v27, h26, Hc, H⟩ := j_b2_some H
      refine jr_callV (ci := 11) [.int v21, .int v23, .int v25] my_X11_act mv_X11_act ml_RX11_307 dX11_journey_124 rfl rfl (Nat.le_of_ble_eq_true rfl) rfl (c_X11_act l d F x0 v21 v23 v25 h v27 h26 Hc) ?_
      refine jr_if_eq (tgt := 136) dX11_journey_127 (by decide) H (fun H => ?_) (fun H => ?_)
      · exact hk136 _ _ H
      · refine jr_iinc (v := (x3 + 1)) dX11_journey_130 rfl rfl (by decide) rfl (Or.inl rfl) ?_
        refine jr_goto (tgt := 90) dX11_journey_133 (by decide) ?_
        exact ih _ _ H
set_option maxRecDepth 100000 in
set_option maxHeartbeats 4000000 in
theorem c_X11_journey (l : Launch) (d : Nat) (F : Nat) (a0 : Nat) (h : jH) (rR : Int32) (hf : jH) (H : f_X11_journey F a0 h = some (rR, hf)) : jh_sh h a0 = (11, 0) ∧ jMet l (d + 409) yX11_journey cX11_journey 4 (some .int) [.ref a0] h (some (.int rR)) hf := by
  unfold f_X11_journey at H
  obtain ⟨hsh, H⟩ := j_gd_some H
  refine ⟨hsh, ?_⟩
  refine jMet.of false [some (.ref a0), none, none, none] rfl (by decide) (by decide) (Nat.le_of_ble_eq_true rfl) (fun S0 q hq => by simpa [j_l, lv_args, j_v, Value.category] using hq) ?_
  refine jr_aload_n dX11_journey_0 rfl rfl ?_
  refine jr_iconst (v := 0) dX11_journey_1 (by decide) ?_
  refine jr_putI fl_RX11_110 (fun z => by cases z) dX11_journey_2 H (fun h1 H => ?_)
  refine jr_aload_n dX11_journey_5 rfl rfl ?_
  refine jr_bipush (v := 60) dX11_journey_6 (by decide) ?_
  obtain ⟨h2, Hc, H⟩ := Option.bind_eq_some_iff.mp H
  refine jr_callV (ci := 11) [.int 60] my_X11_beginText mv_X11_beginText ml_RX11_177 dX11_journey_8 rfl rfl (Nat.le_of_ble_eq_true rfl) rfl (c_X11_beginText l (d + 407) F a0 60 h1 h2 Hc) ?_
  refine jr_iconst (v := 0) dX11_journey_11 (by decide) ?_
  refine jr_istore_n dX11_journey_12 rfl (by decide) rfl (Or.inl rfl) ?_
  refine jr_aload_n dX11_journey_13 rfl rfl ?_
  refine jr_getI fl_RX11_132 (by decide) dX11_journey_14 H (fun v3 H => ?_)
  refine jr_jn (fun J => ∀ (s4 : Int32) (h5 : jH), J s4 h5 = some (rR, hf) → jGo l (d + 409) none RX11 cX11_journey 4 (some .int) false 25 [some (.ref a0), some (.int 0), none, none] [.int s4] h5 (some (.int rR)) hf) H (fun s4 h5 H => ?_) (fun J25 hJ25 H => ?_)
  · refine jr_istore_n dX11_journey_25 rfl (by decide) rfl (Or.inl rfl) ?_
    refine s_X11_journey_L26 l d F a0 _ (fun y11 h12 H => ?_) F 0 s4 h5 H
    · refine jr_aload_n dX11_journey_57 rfl rfl ?_
      obtain ⟨v14, h13, Hc, H⟩ := j_b2_some H
      refine jr_callV (ci := 11) [] my_X11_wasRight mv_X11_wasRight ml_RX11_183 dX11_journey_58 rfl rfl (Nat.le_of_ble_eq_true rfl) rfl (c_X11_wasRight l (d + 406) F a0 h12 v14 h13 Hc) ?_
      refine jr_if_ne (tgt := 71) dX11_journey_61 (by decide) H (fun H => ?_) (fun H => ?_)
      · refine jr_iconst (v := (-1)) dX11_journey_64 (by decide) ?_
        refine jr_aload_n dX11_journey_65 rfl rfl ?_
        refine jr_getI fl_RX11_141 (by decide) dX11_journey_66 H (fun v15 H => ?_)
        refine jr_isub dX11_journey_69 ?_
        exact jr_iret rfl dX11_journey_70 H
      · refine jr_aload_n dX11_journey_71 rfl rfl ?_
        refine jr_getR fl_RX11_9 dX11_journey_72 H (fun v16 H => ?_)
        refine jr_aload_n dX11_journey_75 rfl rfl ?_
        refine jr_getR fl_RX11_61 dX11_journey_76 H (fun v17 H => ?_)
        refine jr_iconst (v := 0) dX11_journey_79 (by decide) ?_
        obtain ⟨h18, Hc, H⟩ := Option.bind_eq_some_iff.mp H
        refine jr_callS [.ref v16, .ref v17, .int 0] my_X11_lay ms_X11_lay ml_RX11_267 dX11_journey_80 rfl rfl (Nat.le_of_ble_eq_true rfl) (c_X11_lay l (d + 408) F v16 v17 0 h13 h18 Hc) ?_
        refine jr_aload_n dX11_journey_83 rfl rfl ?_
        refine jr_iconst (v := 0) dX11_journey_84 (by decide) ?_
        refine jr_putI fl_RX11_304 (fun z => by cases z) dX11_journey_85 H (fun h19 H => ?_)
        refine jr_iconst (v := 0) dX11_journey_88 (by decide) ?_
        refine jr_istore_n dX11_journey_89 rfl (by decide) rfl (Or.inl rfl) ?_
        refine s_X11_journey_L90 l d F a0 y11 _ (fun y28 h29 H => ?_) F 0 h19 H
        · refine jr_iload_n dX11_journey_136 rfl rfl ?_
          refine jr_jn (fun J => ∀ (h30 : jH), J h30 = some (rR, hf) → jGo l (d + 409) none RX11 cX11_journey 4 (some .int) false 148 [some (.ref a0), some (.int y11), none, some (.int y28)] [] h30 (some (.int rR)) hf) H (fun h30 H => ?_) (fun J148 hJ148 H => ?_)
          · refine jr_aload_n dX11_journey_148 rfl rfl ?_
            refine jr_iconst (v := 0) dX11_journey_149 (by decide) ?_
            refine jr_putI fl_RX11_113 (fun z => by cases z) dX11_journey_150 H (fun h31 H => ?_)
            refine jr_aload_n dX11_journey_153 rfl rfl ?_
            refine jr_iload_n dX11_journey_154 rfl rfl ?_
            refine jr_iload_n dX11_journey_155 rfl rfl ?_
            refine jr_jn (fun J => ∀ (s32 : Int64) (s33 : Nat) (h34 : jH), J s32 s33 h34 = some (rR, hf) → jGo l (d + 409) none RX11 cX11_journey 4 (some .int) false 164 [some (.ref a0), none, none, some (.int y28)] [.long s32, .ref s33] h34 (some (.int rR)) hf) H (fun s32 s33 h34 H => ?_) (fun J164 hJ164 H => ?_)
            · obtain ⟨h35, Hc, H⟩ := Option.bind_eq_some_iff.mp H
              refine jr_callV (ci := 11) [.long s32] my_X11_tell mv_X11_tell ml_RX11_274 dX11_journey_164 rfl rfl (Nat.le_of_ble_eq_true rfl) rfl (c_X11_tell l (d + 408) F s33 s32 h34 h35 Hc) ?_
              refine jr_aload_n dX11_journey_167 rfl rfl ?_
              refine jr_aload_n dX11_journey_168 rfl rfl ?_
              refine jr_getI fl_RX11_304 (by decide) dX11_journey_169 H (fun v36 H => ?_)
              refine jr_i2l dX11_journey_172 ?_
              obtain ⟨h37, Hc, H⟩ := Option.bind_eq_some_iff.mp H
              refine jr_callV (ci := 11) [.long (v36.toInt64)] my_X11_tell mv_X11_tell ml_RX11_274 dX11_journey_173 rfl rfl (Nat.le_of_ble_eq_true rfl) rfl (c_X11_tell l (d + 408) F a0 (v36.toInt64) h35 h37 Hc) ?_
              refine jr_iload_n dX11_journey_176 rfl rfl ?_
              exact jr_iret rfl dX11_journey_177 H
            · refine jr_icmp_ge (tgt := 163) dX11_journey_156 (by decide) H (fun H => ?_) (fun H => ?_)
              · refine jr_lconst (v := 0) dX11_journey_163 (by decide) ?_
                refine jr_fgt 1 ?_
                exact hJ164 _ _ _ H
              · refine jr_lconst (v := 1) dX11_journey_159 (by decide) ?_
                refine jr_goto (tgt := 164) dX11_journey_160 (by decide) ?_
                refine jr_fgt 1 ?_
                exact hJ164 _ _ _ H
          · refine jr_if_le (tgt := 148) dX11_journey_137 (by decide) H (fun H => ?_) (fun H => ?_)
            · exact hJ148 _ H
            · refine jr_aload_n dX11_journey_140 rfl rfl ?_
              refine jr_aload_n dX11_journey_141 rfl rfl ?_
              refine jr_getR fl_RX11_61 dX11_journey_142 H (fun v38 H => ?_)
              obtain ⟨h39, Hc, H⟩ := Option.bind_eq_some_iff.mp H
              refine jr_callV (ci := 11) [.ref v38] my_X11_remember mv_X11_remember ml_RX11_282 dX11_journey_145 rfl rfl (Nat.le_of_ble_eq_true rfl) rfl (c_X11_remember l (d + 407) F a0 v38 h29 h39 Hc) ?_
              exact hJ148 _ H
  · refine jr_if_le (tgt := 24) dX11_journey_17 (by decide) H (fun H => ?_) (fun H => ?_)
    · refine jr_iconst (v := 0) dX11_journey_24 (by decide) ?_
      exact hJ25 _ _ H
    · refine jr_iconst (v := 1) dX11_journey_20 (by decide) ?_
      refine jr_goto (tgt := 25) dX11_journey_21 (by decide) ?_
      exact hJ25 _ _ H
set_option maxRecDepth 100000 in
set_option maxHeartbeats 4000000 in
theorem s_X11_undo_L26 (l : Launch) (d : Nat) (F : Nat) (x0 : Nat) (k58 : jH → Option (Int32 × jH)) {rR : Int32} {hf : jH} (hk58 : ∀ (h : jH), k58 h = some (rR, hf) → jGo l (d + 0) none RX11 cX11_undo 2 (some .int) false 58 [some (.ref x0), none] [] h (some (.int rR)) hf) : ∀ (n : Nat) (x1 : Int32) (h : jH), f_X11_undo_L26 F x0 k58 n x1 h = some (rR, hf) → jGo l (d + 0) none RX11 cX11_undo 2 (some .int) false 26 [some (.ref x0), some (.int x1)] [] h (some (.int rR)) hf := by
  intro n
  induction n with
  | zero =>
    intro x1 h H
    cases H
  | succ n ih =>
    intro x1 h H
    unfold f_X11_undo_L26 at H
    refine jr_iload_n dX11_undo_26 rfl rfl ?_
    refine jr_bipush (v := 44) dX11_undo_27 (by decide) ?_
    refine jr_icmp_ge (tgt := 58) dX11_undo_29 (by decide) H (fun H => ?_) (fun H => ?_)
    · refine jr_fgt 1 ?_
      exact hk58 _ H
    · refine jr_aload_n dX11_undo_32 rfl rfl ?_
      refine jr_getR fl_RX11_9 dX11_undo_33 H (fun v5 H => ?_)
      refine jr_iload_n dX11_undo_36 rfl rfl ?_
      refine jr_aload_n dX11_undo_37 rfl rfl ?_
      refine jr_getR fl_RX11_58 dX11_undo_38 H (fun v6 H => ?_)
      refine jr_bipush (v := 44) dX11_undo_41 (by decide) ?_
      refine jr_aload_n dX11_undo_43 rfl rfl ?_
      refine jr_getI fl_RX11_171 (by decide) dX11_undo_44 H (fun v7 H => ?_)
      refine jr_imul dX11_undo_47 ?_
      refine jr_iload_n dX11_undo_48 rfl rfl ?_
      refine jr_iadd dX11_undo_49 ?_
      refine jr_iald dX11_undo_50 H (fun v8 H => ?_)
      refine jr_iast dX11_undo_51 H (fun h9 H => ?_)
      refine jr_iinc (v := (x1 + 1)) dX11_undo_52 rfl rfl (by decide) rfl (Or.inl rfl) ?_
      refine jr_goto (tgt := 26) dX11_undo_55 (by decide) ?_
      exact ih _ _ H
set_option maxRecDepth 100000 in
set_option maxHeartbeats 4000000 in
theorem c_X11_undo (l : Launch) (d : Nat) (F : Nat) (a0 : Nat) (h : jH) (rR : Int32) (hf : jH) (H : f_X11_undo F a0 h = some (rR, hf)) : jh_sh h a0 = (11, 0) ∧ jMet l (d + 0) yX11_undo cX11_undo 2 (some .int) [.ref a0] h (some (.int rR)) hf := by
  unfold f_X11_undo at H
  obtain ⟨hsh, H⟩ := j_gd_some H
  refine ⟨hsh, ?_⟩
  refine jMet.of false [some (.ref a0), none] rfl (by decide) (by decide) (Nat.le_of_ble_eq_true rfl) (fun S0 q hq => by simpa [j_l, lv_args, j_v, Value.category] using hq) ?_
  refine jr_aload_n dX11_undo_0 rfl rfl ?_
  refine jr_iconst (v := 0) dX11_undo_1 (by decide) ?_
  refine jr_putI fl_RX11_110 (fun z => by cases z) dX11_undo_2 H (fun h1 H => ?_)
  refine jr_aload_n dX11_undo_5 rfl rfl ?_
  refine jr_getI fl_RX11_171 (by decide) dX11_undo_6 H (fun v2 H => ?_)
  refine jr_if_ne (tgt := 14) dX11_undo_9 (by decide) H (fun H => ?_) (fun H => ?_)
  · refine jr_iconst (v := (-1)) dX11_undo_12 (by decide) ?_
    exact jr_iret rfl dX11_undo_13 H
  · refine jr_aload_n dX11_undo_14 rfl rfl ?_
    refine jr_dup dX11_undo_15 rfl ?_
    refine jr_getI fl_RX11_171 (by decide) dX11_undo_16 H (fun v3 H => ?_)
    refine jr_iconst (v := 1) dX11_undo_19 (by decide) ?_
    refine jr_isub dX11_undo_20 ?_
    refine jr_putI fl_RX11_171 (fun z => by cases z) dX11_undo_21 H (fun h4 H => ?_)
    refine jr_iconst (v := 0) dX11_undo_24 (by decide) ?_
    refine jr_istore_n dX11_undo_25 rfl (by decide) rfl (Or.inl rfl) ?_
    refine s_X11_undo_L26 l d F a0 _ (fun h10 H => ?_) F 0 h4 H
    · refine jr_aload_n dX11_undo_58 rfl rfl ?_
      refine jr_getI fl_RX11_171 (by decide) dX11_undo_59 H (fun v11 H => ?_)
      exact jr_iret rfl dX11_undo_62 H
set_option maxRecDepth 100000 in
set_option maxHeartbeats 4000000 in
theorem s_X11_cheapest_L43 (l : Launch) (d : Nat) (F : Nat) (x0 : Nat) (x1 : Int32) (x2 : Int32) (x3 : Int32) (k78 : Int32 → jH → Option (Int32 × jH)) {rR : Int32} {hf : jH} (hk78 : ∀ (y4 : Int32) (h : jH), k78 y4 h = some (rR, hf) → jGo l (d + 407) none RX11 cX11_cheapest 6 (some .int) false 78 [some (.ref x0), none, some (.int x2), some (.int x3), some (.int y4), none] [] h (some (.int rR)) hf) : ∀ (n : Nat) (x4 : Int32) (x5 : Int32) (h : jH), f_X11_cheapest_L43 F x0 x1 x2 x3 k78 n x4 x5 h = some (rR, hf) → jGo l (d + 407) none RX11 cX11_cheapest 6 (some .int) false 43 [some (.ref x0), some (.int x1), some (.int x2), some (.int x3), some (.int x4), some (.int x5)] [] h (some (.int rR)) hf := by
  intro n
  induction n with
  | zero =>
    intro x4 x5 h H
    cases H
  | succ n ih =>
    intro x4 x5 h H
    unfold f_X11_cheapest_L43 at H
    refine jr_iload dX11_cheapest_43 rfl ?_
    refine jr_aload_n dX11_cheapest_45 rfl rfl ?_
    refine jr_getI fl_RX11_120 (by decide) dX11_cheapest_46 H (fun v8 H => ?_)
    refine jr_icmp_ge (tgt := 78) dX11_cheapest_49 (by decide) H (fun H => ?_) (fun H => ?_)
    · refine jr_fgt 1 ?_
      refine jr_fgt 5 ?_
      exact hk78 _ _ H
    · refine jr_iload dX11_cheapest_52 rfl ?_
      refine jr_aload_n dX11_cheapest_54 rfl rfl ?_
      refine jr_iload dX11_cheapest_55 rfl ?_
      refine jr_iload_n dX11_cheapest_57 rfl rfl ?_
      obtain ⟨v10, h9, Hc, H⟩ := j_b2_some H
      refine jr_callV (ci := 11) [.int x5, .int x1] my_X11_means mv_X11_means ml_RX11_292 dX11_cheapest_58 rfl rfl (Nat.le_of_ble_eq_true rfl) rfl (c_X11_means l (d + 406) F x0 x5 x1 h v10 h9 Hc) ?_
      refine jr_jn (fun J => ∀ (s11 : Int32) (s12 : Int32) (h13 : jH), J s11 s12 h13 = some (rR, hf) → jGo l (d + 407) none RX11 cX11_cheapest 6 (some .int) false 69 [some (.ref x0), some (.int x1), some (.int x2), some (.int x3), none, some (.int x5)] [.int s11, .int s12] h13 (some (.int rR)) hf) H (fun s11 s12 h13 H => ?_) (fun J69 hJ69 H => ?_)
      · refine jr_iadd dX11_cheapest_69 ?_
        refine jr_istore dX11_cheapest_70 (by decide) rfl (Or.inl rfl) ?_
        refine jr_iinc (v := (x5 + 1)) dX11_cheapest_72 rfl rfl (by decide) rfl (Or.inl rfl) ?_
        refine jr_goto (tgt := 43) dX11_cheapest_75 (by decide) ?_
        exact ih _ _ _ H
      · refine jr_if_eq (tgt := 68) dX11_cheapest_61 (by decide) H (fun H => ?_) (fun H => ?_)
        · refine jr_iconst (v := 0) dX11_cheapest_68 (by decide) ?_
          refine jr_fgt 4 ?_
          exact hJ69 _ _ _ H
        · refine jr_iconst (v := 1) dX11_cheapest_64 (by decide) ?_
          refine jr_goto (tgt := 69) dX11_cheapest_65 (by decide) ?_
          refine jr_fgt 4 ?_
          exact hJ69 _ _ _ H
set_option maxRecDepth 100000 in
set_option maxHeartbeats 4000000 in
theorem c_X11_cheapest (l : Launch) (d : Nat) (F : Nat) (a0 : Nat) (a1 : Int32) (a2 : Int32) (h : jH) (rR : Int32) (hf : jH) (H : f_X11_cheapest F a0 a1 a2 h = some (rR, hf)) : jh_sh h a0 = (11, 0) ∧ jMet l (d + 407) yX11_cheapest cX11_cheapest 6 (some .int) [.ref a0, .int a1, .int a2] h (some (.int rR)) hf := by
  unfold f_X11_cheapest at H
  obtain ⟨hsh, H⟩ := j_gd_some H
  refine ⟨hsh, ?_⟩
  refine jMet.of false [some (.ref a0), some (.int a1), some (.int a2), none, none, none] rfl (by decide) (by decide) (Nat.le_of_ble_eq_true rfl) (fun S0 q hq => by simpa [j_l, lv_args, j_v, Value.category] using hq) ?_
  refine jr_aload_n dX11_cheapest_0 rfl rfl ?_
  refine jr_iconst (v := 0) dX11_cheapest_1 (by decide) ?_
  refine jr_putI fl_RX11_110 (fun z => by cases z) dX11_cheapest_2 H (fun h1 H => ?_)
  refine jr_iload_n dX11_cheapest_5 rfl rfl ?_
  obtain ⟨v3, h2, Hc, H⟩ := j_b2_some H
  refine jr_callS [.int a1] my_X11_isMeaning ms_X11_isMeaning ml_RX11_316 dX11_cheapest_6 rfl rfl (Nat.le_of_ble_eq_true rfl) (c_X11_isMeaning l (d + 405) F a1 h1 v3 h2 Hc) ?_
  refine jr_if_eq (tgt := 20) dX11_cheapest_9 (by decide) H (fun H => ?_) (fun H => ?_)
  · refine jr_iconst (v := (-1)) dX11_cheapest_20 (by decide) ?_
    exact jr_iret rfl dX11_cheapest_21 H
  · refine jr_aload_n dX11_cheapest_12 rfl rfl ?_
    refine jr_iload_n dX11_cheapest_13 rfl rfl ?_
    obtain ⟨v5, h4, Hc, H⟩ := j_b2_some H
    refine jr_callV (ci := 11) [.int a2] my_X11_isStation mv_X11_isStation ml_RX11_264 dX11_cheapest_14 rfl rfl (Nat.le_of_ble_eq_true rfl) rfl (c_X11_isStation l (d + 405) F a0 a2 h2 v5 h4 Hc) ?_
    refine jr_if_ne (tgt := 22) dX11_cheapest_17 (by decide) H (fun H => ?_) (fun H => ?_)
    · refine jr_iconst (v := (-1)) dX11_cheapest_20 (by decide) ?_
      exact jr_iret rfl dX11_cheapest_21 H
    · refine jr_aload_n dX11_cheapest_22 rfl rfl ?_
      refine jr_iload_n dX11_cheapest_23 rfl rfl ?_
      refine jr_iload_n dX11_cheapest_24 rfl rfl ?_
      obtain ⟨v7, h6, Hc, H⟩ := j_b2_some H
      refine jr_callV (ci := 11) [.int a1, .int a2] my_X11_cheapestOf mv_X11_cheapestOf ml_RX11_313 dX11_cheapest_25 rfl rfl (Nat.le_of_ble_eq_true rfl) rfl (c_X11_cheapestOf l d F a0 a1 a2 h4 v7 h6 Hc) ?_
      refine jr_istore_n dX11_cheapest_28 rfl (by decide) rfl (Or.inl rfl) ?_
      refine jr_iload_n dX11_cheapest_29 rfl rfl ?_
      refine jr_iconst (v := (-1)) dX11_cheapest_30 (by decide) ?_
      refine jr_icmp_ne (tgt := 37) dX11_cheapest_31 (by decide) H (fun H => ?_) (fun H => ?_)
      · refine jr_bipush (v := (-2)) dX11_cheapest_34 (by decide) ?_
        exact jr_iret rfl dX11_cheapest_36 H
      · refine jr_iconst (v := 0) dX11_cheapest_37 (by decide) ?_
        refine jr_istore dX11_cheapest_38 (by decide) rfl (Or.inl rfl) ?_
        refine jr_iconst (v := 0) dX11_cheapest_40 (by decide) ?_
        refine jr_istore dX11_cheapest_41 (by decide) rfl (Or.inl rfl) ?_
        refine s_X11_cheapest_L43 l d F a0 a1 a2 v7 _ (fun y14 h15 H => ?_) F 0 0 h6 H
        · refine jr_aload_n dX11_cheapest_78 rfl rfl ?_
          refine jr_iconst (v := 0) dX11_cheapest_79 (by decide) ?_
          refine jr_putI fl_RX11_113 (fun z => by cases z) dX11_cheapest_80 H (fun h16 H => ?_)
          refine jr_aload_n dX11_cheapest_83 rfl rfl ?_
          refine jr_aload_n dX11_cheapest_84 rfl rfl ?_
          refine jr_iload_n dX11_cheapest_85 rfl rfl ?_
          refine jr_iload_n dX11_cheapest_86 rfl rfl ?_
          obtain ⟨v18, h17, Hc, H⟩ := j_b2_some H
          refine jr_callV (ci := 11) [.int v7, .int a2] my_X11_tollNow mv_X11_tollNow ml_RX11_271 dX11_cheapest_87 rfl rfl (Nat.le_of_ble_eq_true rfl) rfl (c_X11_tollNow l (d + 1) F a0 v7 a2 h16 v18 h17 Hc) ?_
          refine jr_i2l dX11_cheapest_90 ?_
          obtain ⟨h19, Hc, H⟩ := Option.bind_eq_some_iff.mp H
          refine jr_callV (ci := 11) [.long (v18.toInt64)] my_X11_tell mv_X11_tell ml_RX11_274 dX11_cheapest_91 rfl rfl (Nat.le_of_ble_eq_true rfl) rfl (c_X11_tell l (d + 406) F a0 (v18.toInt64) h17 h19 Hc) ?_
          refine jr_aload_n dX11_cheapest_94 rfl rfl ?_
          refine jr_iload dX11_cheapest_95 rfl ?_
          refine jr_i2l dX11_cheapest_97 ?_
          obtain ⟨h20, Hc, H⟩ := Option.bind_eq_some_iff.mp H
          refine jr_callV (ci := 11) [.long (y14.toInt64)] my_X11_tell mv_X11_tell ml_RX11_274 dX11_cheapest_98 rfl rfl (Nat.le_of_ble_eq_true rfl) rfl (c_X11_tell l (d + 406) F a0 (y14.toInt64) h19 h20 Hc) ?_
          refine jr_iload_n dX11_cheapest_101 rfl rfl ?_
          exact jr_iret rfl dX11_cheapest_102 H
set_option maxRecDepth 100000 in
set_option maxHeartbeats 4000000 in
theorem c_X11_tells (l : Launch) (d : Nat) (F : Nat) (a0 : Nat) (a1 : Int32) (a2 : Int32) (a3 : Int32) (h : jH) (rR : Int32) (hf : jH) (H : f_X11_tells F a0 a1 a2 a3 h = some (rR, hf)) : jh_sh h a0 = (11, 0) ∧ jMet l (d + 0) yX11_tells cX11_tells 4 (some .int) [.ref a0, .int a1, .int a2, .int a3] h (some (.int rR)) hf := by
  unfold f_X11_tells at H
  obtain ⟨hsh, H⟩ := j_gd_some H
  refine ⟨hsh, ?_⟩
  refine jMet.of false [some (.ref a0), some (.int a1), some (.int a2), some (.int a3)] rfl (by decide) (by decide) (Nat.le_of_ble_eq_true rfl) (fun S0 q hq => by simpa [j_l, lv_args, j_v, Value.category] using hq) ?_
  refine jr_aload_n dX11_tells_0 rfl rfl ?_
  refine jr_getR fl_RX11_24 dX11_tells_1 H (fun v1 H => ?_)
  refine jr_iconst (v := 2) dX11_tells_4 (by decide) ?_
  refine jr_iload_n dX11_tells_5 rfl rfl ?_
  refine jr_imul dX11_tells_6 ?_
  refine jr_iald dX11_tells_7 H (fun v2 H => ?_)
  refine jr_aload_n dX11_tells_8 rfl rfl ?_
  refine jr_getR fl_RX11_30 dX11_tells_9 H (fun v3 H => ?_)
  refine jr_iload_n dX11_tells_12 rfl rfl ?_
  refine jr_bald dX11_tells_13 H (fun v4 H => ?_)
  refine jr_bipush (v := 48) dX11_tells_14 (by decide) ?_
  refine jr_isub dX11_tells_16 ?_
  refine jr_icmp_eq (tgt := 22) dX11_tells_17 (by decide) H (fun H => ?_) (fun H => ?_)
  · refine jr_aload_n dX11_tells_22 rfl rfl ?_
    refine jr_getR fl_RX11_24 dX11_tells_23 H (fun v5 H => ?_)
    refine jr_iconst (v := 2) dX11_tells_26 (by decide) ?_
    refine jr_iload_n dX11_tells_27 rfl rfl ?_
    refine jr_imul dX11_tells_28 ?_
    refine jr_iconst (v := 1) dX11_tells_29 (by decide) ?_
    refine jr_iadd dX11_tells_30 ?_
    refine jr_iald dX11_tells_31 H (fun v6 H => ?_)
    refine jr_iconst (v := (-1)) dX11_tells_32 (by decide) ?_
    refine jr_icmp_ne (tgt := 38) dX11_tells_33 (by decide) H (fun H => ?_) (fun H => ?_)
    · refine jr_iconst (v := 1) dX11_tells_36 (by decide) ?_
      exact jr_iret rfl dX11_tells_37 H
    · refine jr_iload_n dX11_tells_38 rfl rfl ?_
      refine jr_iconst (v := 1) dX11_tells_39 (by decide) ?_
      refine jr_iadd dX11_tells_40 ?_
      refine jr_iload_n dX11_tells_41 rfl rfl ?_
      refine jr_icmp_ge (tgt := 73) dX11_tells_42 (by decide) H (fun H => ?_) (fun H => ?_)
      · refine jr_iconst (v := 0) dX11_tells_73 (by decide) ?_
        exact jr_iret rfl dX11_tells_74 H
      · refine jr_aload_n dX11_tells_45 rfl rfl ?_
        refine jr_getR fl_RX11_24 dX11_tells_46 H (fun v7 H => ?_)
        refine jr_iconst (v := 2) dX11_tells_49 (by decide) ?_
        refine jr_iload_n dX11_tells_50 rfl rfl ?_
        refine jr_imul dX11_tells_51 ?_
        refine jr_iconst (v := 1) dX11_tells_52 (by decide) ?_
        refine jr_iadd dX11_tells_53 ?_
        refine jr_iald dX11_tells_54 H (fun v8 H => ?_)
        refine jr_aload_n dX11_tells_55 rfl rfl ?_
        refine jr_getR fl_RX11_30 dX11_tells_56 H (fun v9 H => ?_)
        refine jr_iload_n dX11_tells_59 rfl rfl ?_
        refine jr_iconst (v := 1) dX11_tells_60 (by decide) ?_
        refine jr_iadd dX11_tells_61 ?_
        refine jr_bald dX11_tells_62 H (fun v10 H => ?_)
        refine jr_bipush (v := 48) dX11_tells_63 (by decide) ?_
        refine jr_isub dX11_tells_65 ?_
        refine jr_icmp_ne (tgt := 73) dX11_tells_66 (by decide) H (fun H => ?_) (fun H => ?_)
        · refine jr_iconst (v := 2) dX11_tells_69 (by decide) ?_
          refine jr_goto (tgt := 74) dX11_tells_70 (by decide) ?_
          exact jr_iret rfl dX11_tells_74 H
        · refine jr_iconst (v := 0) dX11_tells_73 (by decide) ?_
          exact jr_iret rfl dX11_tells_74 H
  · refine jr_iconst (v := 0) dX11_tells_20 (by decide) ?_
    exact jr_iret rfl dX11_tells_21 H
set_option maxRecDepth 100000 in
set_option maxHeartbeats 4000000 in
theorem s_X11_sentence_L28 (l : Launch) (d : Nat) (F : Nat) (x0 : Nat) (x1 : Int32) (x2 : Int32) (k55 : Int32 → jH → Option (Int32 × jH)) (k65 : jH → Option (Int32 × jH)) {rR : Int32} {hf : jH} (hk55 : ∀ (y3 : Int32) (h : jH), k55 y3 h = some (rR, hf) → jGo l (d + 406) none RX11 cX11_sentence 5 (some .int) false 55 [none, none, none, some (.int y3), none] [] h (some (.int rR)) hf) (hk65 : ∀ (h : jH), k65 h = some (rR, hf) → jGo l (d + 406) none RX11 cX11_sentence 5 (some .int) false 65 [some (.ref x0), some (.int x1), some (.int x2), none, none] [] h (some (.int rR)) hf) : ∀ (n : Nat) (x3 : Int32) (h : jH), f_X11_sentence_L28 F x0 x1 x2 k55 k65 n x3 h = some (rR, hf) → jGo l (d + 406) none RX11 cX11_sentence 5 (some .int) false 28 [some (.ref x0), some (.int x1), some (.int x2), some (.int x3), none] [] h (some (.int rR)) hf := by
  intro n
  induction n with
  | zero =>
    intro x3 h H
    cases H
  | succ n ih =>
    intro x3 h H
    unfold f_X11_sentence_L28 at H
    refine jr_iload_n dX11_sentence_28 rfl rfl ?_
    refine jr_iload_n dX11_sentence_29 rfl rfl ?_
    refine jr_icmp_ge (tgt := 65) dX11_sentence_30 (by decide) H (fun H => ?_) (fun H => ?_)
    · refine jr_fgt 3 ?_
      exact hk65 _ H
    · refine jr_iload_n dX11_sentence_33 rfl rfl ?_
      refine jr_bipush (v := 12) dX11_sentence_34 (by decide) ?_
      refine jr_icmp_eq (tgt := 55) dX11_sentence_36 (by decide) H (fun H => ?_) (fun H => ?_)
      · refine jr_fgt 0 ?_
        refine jr_fgt 1 ?_
        refine jr_fgt 2 ?_
        exact hk55 _ _ H
      · refine jr_aload_n dX11_sentence_39 rfl rfl ?_
        refine jr_getR fl_RX11_30 dX11_sentence_40 H (fun v6 H => ?_)
        refine jr_iload_n dX11_sentence_43 rfl rfl ?_
        refine jr_bald dX11_sentence_44 H (fun v7 H => ?_)
        refine jr_bipush (v := 48) dX11_sentence_45 (by decide) ?_
        refine jr_bipush (v := 57) dX11_sentence_47 (by decide) ?_
        obtain ⟨v9, h8, Hc, H⟩ := j_b2_some H
        refine jr_callS [.int v7, .int 48, .int 57] my_X11_in ms_X11_in ml_RX11_116 dX11_sentence_49 rfl rfl (Nat.le_of_ble_eq_true rfl) (c_X11_in l (d + 405) F v7 48 57 h v9 h8 Hc) ?_
        refine jr_if_ne (tgt := 59) dX11_sentence_52 (by decide) H (fun H => ?_) (fun H => ?_)
        · refine jr_fgt 0 ?_
          refine jr_fgt 1 ?_
          refine jr_fgt 2 ?_
          exact hk55 _ _ H
        · refine jr_iinc (v := (x3 + 1)) dX11_sentence_59 rfl rfl (by decide) rfl (Or.inl rfl) ?_
          refine jr_goto (tgt := 28) dX11_sentence_62 (by decide) ?_
          exact ih _ _ H
set_option maxRecDepth 100000 in
set_option maxHeartbeats 4000000 in
theorem s_X11_sentence_L98 (l : Launch) (d : Nat) (F : Nat) (x0 : Nat) (x1 : Int32) (x2 : Int32) (x3 : Int32) (k162 : jH → Option (Int32 × jH)) {rR : Int32} {hf : jH} (hk162 : ∀ (h : jH), k162 h = some (rR, hf) → jGo l (d + 406) none RX11 cX11_sentence 5 (some .int) false 162 [some (.ref x0), some (.int x1), some (.int x2), some (.int x3), none] [] h (some (.int rR)) hf) : ∀ (n : Nat) (x4 : Int32) (h : jH), f_X11_sentence_L98 F x0 x1 x2 x3 k162 n x4 h = some (rR, hf) → jGo l (d + 406) none RX11 cX11_sentence 5 (some .int) false 98 [some (.ref x0), some (.int x1), some (.int x2), some (.int x3), some (.int x4)] [] h (some (.int rR)) hf := by
  intro n
  induction n with
  | zero =>
    intro x4 h H
    cases H
  | succ n ih =>
    intro x4 h H
    unfold f_X11_sentence_L98 at H
    refine jr_iload dX11_sentence_98 rfl ?_
    refine jr_aload_n dX11_sentence_100 rfl rfl ?_
    refine jr_getI fl_RX11_120 (by decide) dX11_sentence_101 H (fun v17 H => ?_)
    refine jr_icmp_ge (tgt := 162) dX11_sentence_104 (by decide) H (fun H => ?_) (fun H => ?_)
    · refine jr_fgt 4 ?_
      exact hk162 _ H
    · refine jr_aload_n dX11_sentence_107 rfl rfl ?_
      refine jr_iload dX11_sentence_108 rfl ?_
      refine jr_iload_n dX11_sentence_110 rfl rfl ?_
      refine jr_iload_n dX11_sentence_111 rfl rfl ?_
      obtain ⟨v19, h18, Hc, H⟩ := j_b2_some H
      refine jr_callV (ci := 11) [.int x4, .int x3, .int x2] my_X11_tells mv_X11_tells ml_RX11_320 dX11_sentence_112 rfl rfl (Nat.le_of_ble_eq_true rfl) rfl (c_X11_tells l (d + 405) F x0 x4 x3 x2 h v19 h18 Hc) ?_
      refine jr_jn (fun J => ∀ (h20 : jH), J h20 = some (rR, hf) → jGo l (d + 406) none RX11 cX11_sentence 5 (some .int) false 156 [some (.ref x0), some (.int x1), some (.int x2), some (.int x3), some (.int x4)] [] h20 (some (.int rR)) hf) H (fun h20 H => ?_) (fun J156 hJ156 H => ?_)
      · refine jr_iinc (v := (x4 + 1)) dX11_sentence_156 rfl rfl (by decide) rfl (Or.inl rfl) ?_
        refine jr_goto (tgt := 98) dX11_sentence_159 (by decide) ?_
        exact ih _ _ H
      · refine jr_if_le (tgt := 156) dX11_sentence_115 (by decide) H (fun H => ?_) (fun H => ?_)
        · exact hJ156 _ H
        · refine jr_aload_n dX11_sentence_118 rfl rfl ?_
          refine jr_getR fl_RX11_67 dX11_sentence_119 H (fun v21 H => ?_)
          refine jr_iload_n dX11_sentence_122 rfl rfl ?_
          refine jr_aload_n dX11_sentence_123 rfl rfl ?_
          refine jr_getR fl_RX11_67 dX11_sentence_124 H (fun v22 H => ?_)
          refine jr_iload_n dX11_sentence_127 rfl rfl ?_
          refine jr_iald dX11_sentence_128 H (fun v23 H => ?_)
          refine jr_aload_n dX11_sentence_129 rfl rfl ?_
          refine jr_iload dX11_sentence_130 rfl ?_
          refine jr_iload_n dX11_sentence_132 rfl rfl ?_
          obtain ⟨v25, h24, Hc, H⟩ := j_b2_some H
          refine jr_callV (ci := 11) [.int x4, .int x1] my_X11_tollNow mv_X11_tollNow ml_RX11_271 dX11_sentence_133 rfl rfl (Nat.le_of_ble_eq_true rfl) rfl (c_X11_tollNow l d F x0 x4 x1 h18 v25 h24 Hc) ?_
          refine jr_aload_n dX11_sentence_136 rfl rfl ?_
          refine jr_getR fl_RX11_67 dX11_sentence_137 H (fun v26 H => ?_)
          refine jr_iload_n dX11_sentence_140 rfl rfl ?_
          refine jr_aload_n dX11_sentence_141 rfl rfl ?_
          refine jr_iload dX11_sentence_142 rfl ?_
          refine jr_iload_n dX11_sentence_144 rfl rfl ?_
          refine jr_iload_n dX11_sentence_145 rfl rfl ?_
          obtain ⟨v28, h27, Hc, H⟩ := j_b2_some H
          refine jr_callV (ci := 11) [.int x4, .int x3, .int x2] my_X11_tells mv_X11_tells ml_RX11_320 dX11_sentence_146 rfl rfl (Nat.le_of_ble_eq_true rfl) rfl (c_X11_tells l (d + 405) F x0 x4 x3 x2 h24 v28 h27 Hc) ?_
          refine jr_iadd dX11_sentence_149 ?_
          refine jr_iald dX11_sentence_150 H (fun v29 H => ?_)
          refine jr_iadd dX11_sentence_151 ?_
          refine jr_mmin ml_RX11_226 mm_mmin_s mm_i mm_mmin_c dX11_sentence_152 (Nat.le_of_ble_eq_true rfl) ?_
          refine jr_iast dX11_sentence_155 H (fun h30 H => ?_)
          exact hJ156 _ H
set_option maxRecDepth 100000 in
set_option maxHeartbeats 4000000 in
theorem s_X11_sentence_L82 (l : Launch) (d : Nat) (F : Nat) (x0 : Nat) (x1 : Int32) (x2 : Int32) (k168 : jH → Option (Int32 × jH)) {rR : Int32} {hf : jH} (hk168 : ∀ (h : jH), k168 h = some (rR, hf) → jGo l (d + 406) none RX11 cX11_sentence 5 (some .int) false 168 [some (.ref x0), some (.int x1), some (.int x2), none, none] [] h (some (.int rR)) hf) : ∀ (n : Nat) (x3 : Int32) (h : jH), f_X11_sentence_L82 F x0 x1 x2 k168 n x3 h = some (rR, hf) → jGo l (d + 406) none RX11 cX11_sentence 5 (some .int) false 82 [some (.ref x0), some (.int x1), some (.int x2), some (.int x3), none] [] h (some (.int rR)) hf := by
  intro n
  induction n with
  | zero =>
    intro x3 h H
    cases H
  | succ n ih =>
    intro x3 h H
    unfold f_X11_sentence_L82 at H
    refine jr_iload_n dX11_sentence_82 rfl rfl ?_
    refine jr_if_lt (tgt := 168) dX11_sentence_83 (by decide) H (fun H => ?_) (fun H => ?_)
    · refine jr_fgt 3 ?_
      exact hk168 _ H
    · refine jr_aload_n dX11_sentence_86 rfl rfl ?_
      refine jr_getR fl_RX11_67 dX11_sentence_87 H (fun v15 H => ?_)
      refine jr_iload_n dX11_sentence_90 rfl rfl ?_
      refine jr_ldcw cn_RX11_319 dX11_sentence_91 ?_
      refine jr_iast dX11_sentence_94 H (fun h16 H => ?_)
      refine jr_iconst (v := 0) dX11_sentence_95 (by decide) ?_
      refine jr_istore dX11_sentence_96 (by decide) rfl (Or.inl rfl) ?_
      refine s_X11_sentence_L98 l d F x0 x1 x2 x3 _ (fun h31 H => ?_) F 0 h16 H
      · refine jr_iinc (v := (x3 + (-1))) dX11_sentence_162 rfl rfl (by decide) rfl (Or.inl rfl) ?_
        refine jr_goto (tgt := 82) dX11_sentence_165 (by decide) ?_
        exact ih _ _ H
set_option maxRecDepth 100000 in
set_option maxHeartbeats 4000000 in
theorem s_X11_sentence_L199 (l : Launch) (d : Nat) (F : Nat) (x0 : Nat) (x1 : Int32) (x2 : Int32) (x3 : Int32) (k248 : Int32 → jH → Option (Int32 × jH)) {rR : Int32} {hf : jH} (hk248 : ∀ (y4 : Int32) (h : jH), k248 y4 h = some (rR, hf) → jGo l (d + 406) none RX11 cX11_sentence 5 (some .int) false 248 [some (.ref x0), some (.int x1), some (.int x2), some (.int x3), some (.int y4)] [] h (some (.int rR)) hf) : ∀ (n : Nat) (x4 : Int32) (h : jH), f_X11_sentence_L199 F x0 x1 x2 x3 k248 n x4 h = some (rR, hf) → jGo l (d + 406) none RX11 cX11_sentence 5 (some .int) false 199 [some (.ref x0), some (.int x1), some (.int x2), some (.int x3), some (.int x4)] [] h (some (.int rR)) hf := by
  intro n
  induction n with
  | zero =>
    intro x4 h H
    cases H
  | succ n ih =>
    intro x4 h H
    unfold f_X11_sentence_L199 at H
    refine jr_aload_n dX11_sentence_199 rfl rfl ?_
    refine jr_iload dX11_sentence_200 rfl ?_
    refine jr_iload_n dX11_sentence_202 rfl rfl ?_
    refine jr_iload_n dX11_sentence_203 rfl rfl ?_
    obtain ⟨v37, h36, Hc, H⟩ := j_b2_some H
    refine jr_callV (ci := 11) [.int x4, .int x3, .int x2] my_X11_tells mv_X11_tells ml_RX11_320 dX11_sentence_204 rfl rfl (Nat.le_of_ble_eq_true rfl) rfl (c_X11_tells l (d + 405) F x0 x4 x3 x2 h v37 h36 Hc) ?_
    refine jr_jn (fun J => ∀ (h38 : jH), J h38 = some (rR, hf) → jGo l (d + 406) none RX11 cX11_sentence 5 (some .int) false 242 [some (.ref x0), some (.int x1), some (.int x2), some (.int x3), some (.int x4)] [] h38 (some (.int rR)) hf) H (fun h38 H => ?_) (fun J242 hJ242 H => ?_)
    · refine jr_iinc (v := (x4 + 1)) dX11_sentence_242 rfl rfl (by decide) rfl (Or.inl rfl) ?_
      refine jr_goto (tgt := 199) dX11_sentence_245 (by decide) ?_
      exact ih _ _ H
    · refine jr_if_eq (tgt := 242) dX11_sentence_207 (by decide) H (fun H => ?_) (fun H => ?_)
      · exact hJ242 _ H
      · refine jr_aload_n dX11_sentence_210 rfl rfl ?_
        refine jr_iload dX11_sentence_211 rfl ?_
        refine jr_iload_n dX11_sentence_213 rfl rfl ?_
        obtain ⟨v40, h39, Hc, H⟩ := j_b2_some H
        refine jr_callV (ci := 11) [.int x4, .int x1] my_X11_tollNow mv_X11_tollNow ml_RX11_271 dX11_sentence_214 rfl rfl (Nat.le_of_ble_eq_true rfl) rfl (c_X11_tollNow l d F x0 x4 x1 h36 v40 h39 Hc) ?_
        refine jr_aload_n dX11_sentence_217 rfl rfl ?_
        refine jr_getR fl_RX11_67 dX11_sentence_218 H (fun v41 H => ?_)
        refine jr_iload_n dX11_sentence_221 rfl rfl ?_
        refine jr_aload_n dX11_sentence_222 rfl rfl ?_
        refine jr_iload dX11_sentence_223 rfl ?_
        refine jr_iload_n dX11_sentence_225 rfl rfl ?_
        refine jr_iload_n dX11_sentence_226 rfl rfl ?_
        obtain ⟨v43, h42, Hc, H⟩ := j_b2_some H
        refine jr_callV (ci := 11) [.int x4, .int x3, .int x2] my_X11_tells mv_X11_tells ml_RX11_320 dX11_sentence_227 rfl rfl (Nat.le_of_ble_eq_true rfl) rfl (c_X11_tells l (d + 405) F x0 x4 x3 x2 h39 v43 h42 Hc) ?_
        refine jr_iadd dX11_sentence_230 ?_
        refine jr_iald dX11_sentence_231 H (fun v44 H => ?_)
        refine jr_iadd dX11_sentence_232 ?_
        refine jr_aload_n dX11_sentence_233 rfl rfl ?_
        refine jr_getR fl_RX11_67 dX11_sentence_234 H (fun v45 H => ?_)
        refine jr_iload_n dX11_sentence_237 rfl rfl ?_
        refine jr_iald dX11_sentence_238 H (fun v46 H => ?_)
        refine jr_icmp_eq (tgt := 248) dX11_sentence_239 (by decide) H (fun H => ?_) (fun H => ?_)
        · exact hk248 _ _ H
        · exact hJ242 _ H
set_option maxRecDepth 100000 in
set_option maxHeartbeats 4000000 in
theorem s_X11_sentence_L191 (l : Launch) (d : Nat) (F : Nat) (x0 : Nat) (x1 : Int32) (x2 : Int32) (k269 : jH → Option (Int32 × jH)) {rR : Int32} {hf : jH} (hk269 : ∀ (h : jH), k269 h = some (rR, hf) → jGo l (d + 406) none RX11 cX11_sentence 5 (some .int) false 269 [some (.ref x0), none, none, none, none] [] h (some (.int rR)) hf) : ∀ (n : Nat) (x3 : Int32) (h : jH), f_X11_sentence_L191 F x0 x1 x2 k269 n x3 h = some (rR, hf) → jGo l (d + 406) none RX11 cX11_sentence 5 (some .int) false 191 [some (.ref x0), some (.int x1), some (.int x2), some (.int x3), none] [] h (some (.int rR)) hf := by
  intro n
  induction n with
  | zero =>
    intro x3 h H
    cases H
  | succ n ih =>
    intro x3 h H
    unfold f_X11_sentence_L191 at H
    refine jr_iload_n dX11_sentence_191 rfl rfl ?_
    refine jr_iload_n dX11_sentence_192 rfl rfl ?_
    refine jr_icmp_ge (tgt := 269) dX11_sentence_193 (by decide) H (fun H => ?_) (fun H => ?_)
    · refine jr_fgt 1 ?_
      refine jr_fgt 2 ?_
      refine jr_fgt 3 ?_
      exact hk269 _ H
    · refine jr_iconst (v := 0) dX11_sentence_196 (by decide) ?_
      refine jr_istore dX11_sentence_197 (by decide) rfl (Or.inl rfl) ?_
      refine s_X11_sentence_L199 l d F x0 x1 x2 x3 _ (fun y47 h48 H => ?_) F 0 h H
      · refine jr_aload_n dX11_sentence_248 rfl rfl ?_
        refine jr_iload dX11_sentence_249 rfl ?_
        refine jr_i2l dX11_sentence_251 ?_
        obtain ⟨h49, Hc, H⟩ := Option.bind_eq_some_iff.mp H
        refine jr_callV (ci := 11) [.long (y47.toInt64)] my_X11_tell mv_X11_tell ml_RX11_274 dX11_sentence_252 rfl rfl (Nat.le_of_ble_eq_true rfl) rfl (c_X11_tell l (d + 405) F x0 (y47.toInt64) h48 h49 Hc) ?_
        refine jr_iload_n dX11_sentence_255 rfl rfl ?_
        refine jr_aload_n dX11_sentence_256 rfl rfl ?_
        refine jr_iload dX11_sentence_257 rfl ?_
        refine jr_iload_n dX11_sentence_259 rfl rfl ?_
        refine jr_iload_n dX11_sentence_260 rfl rfl ?_
        obtain ⟨v51, h50, Hc, H⟩ := j_b2_some H
        refine jr_callV (ci := 11) [.int y47, .int x3, .int x2] my_X11_tells mv_X11_tells ml_RX11_320 dX11_sentence_261 rfl rfl (Nat.le_of_ble_eq_true rfl) rfl (c_X11_tells l (d + 405) F x0 y47 x3 x2 h49 v51 h50 Hc) ?_
        refine jr_iadd dX11_sentence_264 ?_
        refine jr_istore_n dX11_sentence_265 rfl (by decide) rfl (Or.inl rfl) ?_
        refine jr_goto (tgt := 191) dX11_sentence_266 (by decide) ?_
        refine jr_fgt 4 ?_
        exact ih _ _ H
set_option maxRecDepth 100000 in
set_option maxHeartbeats 4000000 in
theorem c_X11_sentence (l : Launch) (d : Nat) (F : Nat) (a0 : Nat) (a1 : Int32) (h : jH) (rR : Int32) (hf : jH) (H : f_X11_sentence F a0 a1 h = some (rR, hf)) : jh_sh h a0 = (11, 0) ∧ jMet l (d + 406) yX11_sentence cX11_sentence 5 (some .int) [.ref a0, .int a1] h (some (.int rR)) hf := by
  unfold f_X11_sentence at H
  obtain ⟨hsh, H⟩ := j_gd_some H
  refine ⟨hsh, ?_⟩
  refine jMet.of false [some (.ref a0), some (.int a1), none, none, none] rfl (by decide) (by decide) (Nat.le_of_ble_eq_true rfl) (fun S0 q hq => by simpa [j_l, lv_args, j_v, Value.category] using hq) ?_
  refine jr_aload_n dX11_sentence_0 rfl rfl ?_
  refine jr_iconst (v := 0) dX11_sentence_1 (by decide) ?_
  refine jr_putI fl_RX11_110 (fun z => by cases z) dX11_sentence_2 H (fun h1 H => ?_)
  refine jr_aload_n dX11_sentence_5 rfl rfl ?_
  refine jr_getI fl_RX11_126 (by decide) dX11_sentence_6 H (fun v2 H => ?_)
  refine jr_istore_n dX11_sentence_9 rfl (by decide) rfl (Or.inl rfl) ?_
  refine jr_aload_n dX11_sentence_10 rfl rfl ?_
  refine jr_iconst (v := 0) dX11_sentence_11 (by decide) ?_
  refine jr_putI fl_RX11_126 (fun z => by cases z) dX11_sentence_12 H (fun h3 H => ?_)
  refine jr_aload_n dX11_sentence_15 rfl rfl ?_
  refine jr_iload_n dX11_sentence_16 rfl rfl ?_
  obtain ⟨v5, h4, Hc, H⟩ := j_b2_some H
  refine jr_callV (ci := 11) [.int a1] my_X11_isStation mv_X11_isStation ml_RX11_264 dX11_sentence_17 rfl rfl (Nat.le_of_ble_eq_true rfl) rfl (c_X11_isStation l (d + 404) F a0 a1 h3 v5 h4 Hc) ?_
  refine jr_if_ne (tgt := 26) dX11_sentence_20 (by decide) H (fun H => ?_) (fun H => ?_)
  · refine jr_bipush (v := (-100)) dX11_sentence_23 (by decide) ?_
    exact jr_iret rfl dX11_sentence_25 H
  · refine jr_iconst (v := 0) dX11_sentence_26 (by decide) ?_
    refine jr_istore_n dX11_sentence_27 rfl (by decide) rfl (Or.inl rfl) ?_
    refine s_X11_sentence_L28 l d F a0 a1 v2 _ _ (fun y10 h11 H => ?_) (fun h12 H => ?_) F 0 h4 H
    · refine jr_iconst (v := (-1)) dX11_sentence_55 (by decide) ?_
      refine jr_iload_n dX11_sentence_56 rfl rfl ?_
      refine jr_isub dX11_sentence_57 ?_
      exact jr_iret rfl dX11_sentence_58 H
    · refine jr_iload_n dX11_sentence_65 rfl rfl ?_
      refine jr_if_ne (tgt := 71) dX11_sentence_66 (by decide) H (fun H => ?_) (fun H => ?_)
      · refine jr_iconst (v := (-1)) dX11_sentence_69 (by decide) ?_
        exact jr_iret rfl dX11_sentence_70 H
      · refine jr_aload_n dX11_sentence_71 rfl rfl ?_
        refine jr_getR fl_RX11_67 dX11_sentence_72 H (fun v13 H => ?_)
        refine jr_iload_n dX11_sentence_75 rfl rfl ?_
        refine jr_iconst (v := 0) dX11_sentence_76 (by decide) ?_
        refine jr_iast dX11_sentence_77 H (fun h14 H => ?_)
        refine jr_iload_n dX11_sentence_78 rfl rfl ?_
        refine jr_iconst (v := 1) dX11_sentence_79 (by decide) ?_
        refine jr_isub dX11_sentence_80 ?_
        refine jr_istore_n dX11_sentence_81 rfl (by decide) rfl (Or.inl rfl) ?_
        refine s_X11_sentence_L82 l d F a0 a1 v2 _ (fun h32 H => ?_) F (v2 - (1 : Int32)) h14 H
        · refine jr_aload_n dX11_sentence_168 rfl rfl ?_
          refine jr_getR fl_RX11_67 dX11_sentence_169 H (fun v33 H => ?_)
          refine jr_iconst (v := 0) dX11_sentence_172 (by decide) ?_
          refine jr_iald dX11_sentence_173 H (fun v34 H => ?_)
          refine jr_ldcw cn_RX11_319 dX11_sentence_174 ?_
          refine jr_icmp_lt (tgt := 184) dX11_sentence_177 (by decide) H (fun H => ?_) (fun H => ?_)
          · refine jr_aload_n dX11_sentence_184 rfl rfl ?_
            refine jr_iconst (v := 0) dX11_sentence_185 (by decide) ?_
            refine jr_putI fl_RX11_113 (fun z => by cases z) dX11_sentence_186 H (fun h35 H => ?_)
            refine jr_iconst (v := 0) dX11_sentence_189 (by decide) ?_
            refine jr_istore_n dX11_sentence_190 rfl (by decide) rfl (Or.inl rfl) ?_
            refine s_X11_sentence_L191 l d F a0 a1 v2 _ (fun h52 H => ?_) F 0 h35 H
            · refine jr_aload_n dX11_sentence_269 rfl rfl ?_
              refine jr_getR fl_RX11_67 dX11_sentence_270 H (fun v53 H => ?_)
              refine jr_iconst (v := 0) dX11_sentence_273 (by decide) ?_
              refine jr_iald dX11_sentence_274 H (fun v54 H => ?_)
              exact jr_iret rfl dX11_sentence_275 H
          · refine jr_sipush (v := (-200)) dX11_sentence_180 (by decide) ?_
            exact jr_iret rfl dX11_sentence_183 H
set_option maxRecDepth 100000 in
set_option maxHeartbeats 4000000 in
theorem s_X11_when_L28 (l : Launch) (d : Nat) (F : Nat) (x0 : Nat) (x1 : Int32) (x2 : Int32) (k78 : Int32 → jH → Option (Int32 × jH)) {rR : Int32} {hf : jH} (hk78 : ∀ (y3 : Int32) (h : jH), k78 y3 h = some (rR, hf) → jGo l (d + 406) none RX11 cX11_when 5 (some .int) false 78 [some (.ref x0), some (.int x1), some (.int x2), some (.int y3), none] [] h (some (.int rR)) hf) : ∀ (n : Nat) (x3 : Int32) (x4 : Int32) (h : jH), f_X11_when_L28 F x0 x1 x2 k78 n x3 x4 h = some (rR, hf) → jGo l (d + 406) none RX11 cX11_when 5 (some .int) false 28 [some (.ref x0), some (.int x1), some (.int x2), some (.int x3), some (.int x4)] [] h (some (.int rR)) hf := by
  intro n
  induction n with
  | zero =>
    intro x3 x4 h H
    cases H
  | succ n ih =>
    intro x3 x4 h H
    unfold f_X11_when_L28 at H
    refine jr_iload dX11_when_28 rfl ?_
    refine jr_bipush (v := 24) dX11_when_30 (by decide) ?_
    refine jr_icmp_ge (tgt := 78) dX11_when_32 (by decide) H (fun H => ?_) (fun H => ?_)
    · refine jr_fgt 4 ?_
      exact hk78 _ _ H
    · refine jr_aload_n dX11_when_35 rfl rfl ?_
      refine jr_iload_n dX11_when_36 rfl rfl ?_
      refine jr_iload_n dX11_when_37 rfl rfl ?_
      refine jr_aload_n dX11_when_38 rfl rfl ?_
      refine jr_getR fl_RX11_9 dX11_when_39 H (fun v6 H => ?_)
      refine jr_bipush (v := 12) dX11_when_42 (by decide) ?_
      refine jr_iald dX11_when_44 H (fun v7 H => ?_)
      refine jr_iload dX11_when_45 rfl ?_
      refine jr_iadd dX11_when_47 ?_
      obtain ⟨v9, h8, Hc, H⟩ := j_b2_some H
      refine jr_callV (ci := 11) [.int x1, .int x2, .int (v7 + x4)] my_X11_tollOf mv_X11_tollOf ml_RX11_234 dX11_when_48 rfl rfl (Nat.le_of_ble_eq_true rfl) rfl (c_X11_tollOf l (d + 1) F x0 x1 x2 (v7 + x4) h v9 h8 Hc) ?_
      refine jr_aload_n dX11_when_51 rfl rfl ?_
      refine jr_iload_n dX11_when_52 rfl rfl ?_
      refine jr_iload_n dX11_when_53 rfl rfl ?_
      refine jr_aload_n dX11_when_54 rfl rfl ?_
      refine jr_getR fl_RX11_9 dX11_when_55 H (fun v10 H => ?_)
      refine jr_bipush (v := 12) dX11_when_58 (by decide) ?_
      refine jr_iald dX11_when_60 H (fun v11 H => ?_)
      refine jr_iload_n dX11_when_61 rfl rfl ?_
      refine jr_iadd dX11_when_62 ?_
      obtain ⟨v13, h12, Hc, H⟩ := j_b2_some H
      refine jr_callV (ci := 11) [.int x1, .int x2, .int (v11 + x3)] my_X11_tollOf mv_X11_tollOf ml_RX11_234 dX11_when_63 rfl rfl (Nat.le_of_ble_eq_true rfl) rfl (c_X11_tollOf l (d + 1) F x0 x1 x2 (v11 + x3) h8 v13 h12 Hc) ?_
      refine jr_jn (fun J => ∀ (z14 : Int32) (h15 : jH), J z14 h15 = some (rR, hf) → jGo l (d + 406) none RX11 cX11_when 5 (some .int) false 72 [some (.ref x0), some (.int x1), some (.int x2), some (.int z14), some (.int x4)] [] h15 (some (.int rR)) hf) H (fun z14 h15 H => ?_) (fun J72 hJ72 H => ?_)
      · refine jr_iinc (v := (x4 + 1)) dX11_when_72 rfl rfl (by decide) rfl (Or.inl rfl) ?_
        refine jr_goto (tgt := 28) dX11_when_75 (by decide) ?_
        exact ih _ _ _ H
      · refine jr_icmp_ge (tgt := 72) dX11_when_66 (by decide) H (fun H => ?_) (fun H => ?_)
        · exact hJ72 _ _ H
        · refine jr_iload dX11_when_69 rfl ?_
          refine jr_istore_n dX11_when_71 rfl (by decide) rfl (Or.inl rfl) ?_
          exact hJ72 _ _ H
set_option maxRecDepth 100000 in
set_option maxHeartbeats 4000000 in
theorem c_X11_when (l : Launch) (d : Nat) (F : Nat) (a0 : Nat) (a1 : Int32) (a2 : Int32) (h : jH) (rR : Int32) (hf : jH) (H : f_X11_when F a0 a1 a2 h = some (rR, hf)) : jh_sh h a0 = (11, 0) ∧ jMet l (d + 406) yX11_when cX11_when 5 (some .int) [.ref a0, .int a1, .int a2] h (some (.int rR)) hf := by
  unfold f_X11_when at H
  obtain ⟨hsh, H⟩ := j_gd_some H
  refine ⟨hsh, ?_⟩
  refine jMet.of false [some (.ref a0), some (.int a1), some (.int a2), none, none] rfl (by decide) (by decide) (Nat.le_of_ble_eq_true rfl) (fun S0 q hq => by simpa [j_l, lv_args, j_v, Value.category] using hq) ?_
  refine jr_aload_n dX11_when_0 rfl rfl ?_
  refine jr_iconst (v := 0) dX11_when_1 (by decide) ?_
  refine jr_putI fl_RX11_110 (fun z => by cases z) dX11_when_2 H (fun h1 H => ?_)
  refine jr_aload_n dX11_when_5 rfl rfl ?_
  refine jr_iload_n dX11_when_6 rfl rfl ?_
  obtain ⟨v3, h2, Hc, H⟩ := j_b2_some H
  refine jr_callV (ci := 11) [.int a1] my_X11_isWord mv_X11_isWord ml_RX11_241 dX11_when_7 rfl rfl (Nat.le_of_ble_eq_true rfl) rfl (c_X11_isWord l (d + 404) F a0 a1 h1 v3 h2 Hc) ?_
  refine jr_if_eq (tgt := 21) dX11_when_10 (by decide) H (fun H => ?_) (fun H => ?_)
  · refine jr_iconst (v := (-1)) dX11_when_21 (by decide) ?_
    exact jr_iret rfl dX11_when_22 H
  · refine jr_aload_n dX11_when_13 rfl rfl ?_
    refine jr_iload_n dX11_when_14 rfl rfl ?_
    obtain ⟨v5, h4, Hc, H⟩ := j_b2_some H
    refine jr_callV (ci := 11) [.int a2] my_X11_isStation mv_X11_isStation ml_RX11_264 dX11_when_15 rfl rfl (Nat.le_of_ble_eq_true rfl) rfl (c_X11_isStation l (d + 404) F a0 a2 h2 v5 h4 Hc) ?_
    refine jr_if_ne (tgt := 23) dX11_when_18 (by decide) H (fun H => ?_) (fun H => ?_)
    · refine jr_iconst (v := (-1)) dX11_when_21 (by decide) ?_
      exact jr_iret rfl dX11_when_22 H
    · refine jr_iconst (v := 0) dX11_when_23 (by decide) ?_
      refine jr_istore_n dX11_when_24 rfl (by decide) rfl (Or.inl rfl) ?_
      refine jr_iconst (v := 1) dX11_when_25 (by decide) ?_
      refine jr_istore dX11_when_26 (by decide) rfl (Or.inl rfl) ?_
      refine s_X11_when_L28 l d F a0 a1 a2 _ (fun y16 h17 H => ?_) F 0 1 h4 H
      · refine jr_aload_n dX11_when_78 rfl rfl ?_
        refine jr_iconst (v := 0) dX11_when_79 (by decide) ?_
        refine jr_putI fl_RX11_113 (fun z => by cases z) dX11_when_80 H (fun h18 H => ?_)
        refine jr_aload_n dX11_when_83 rfl rfl ?_
        refine jr_aload_n dX11_when_84 rfl rfl ?_
        refine jr_iload_n dX11_when_85 rfl rfl ?_
        refine jr_iload_n dX11_when_86 rfl rfl ?_
        refine jr_aload_n dX11_when_87 rfl rfl ?_
        refine jr_getR fl_RX11_9 dX11_when_88 H (fun v19 H => ?_)
        refine jr_bipush (v := 12) dX11_when_91 (by decide) ?_
        refine jr_iald dX11_when_93 H (fun v20 H => ?_)
        refine jr_iload_n dX11_when_94 rfl rfl ?_
        refine jr_iadd dX11_when_95 ?_
        obtain ⟨v22, h21, Hc, H⟩ := j_b2_some H
        refine jr_callV (ci := 11) [.int a1, .int a2, .int (v20 + y16)] my_X11_tollOf mv_X11_tollOf ml_RX11_234 dX11_when_96 rfl rfl (Nat.le_of_ble_eq_true rfl) rfl (c_X11_tollOf l (d + 1) F a0 a1 a2 (v20 + y16) h18 v22 h21 Hc) ?_
        refine jr_i2l dX11_when_99 ?_
        obtain ⟨h23, Hc, H⟩ := Option.bind_eq_some_iff.mp H
        refine jr_callV (ci := 11) [.long (v22.toInt64)] my_X11_tell mv_X11_tell ml_RX11_274 dX11_when_100 rfl rfl (Nat.le_of_ble_eq_true rfl) rfl (c_X11_tell l (d + 405) F a0 (v22.toInt64) h21 h23 Hc) ?_
        refine jr_aload_n dX11_when_103 rfl rfl ?_
        refine jr_aload_n dX11_when_104 rfl rfl ?_
        refine jr_iload_n dX11_when_105 rfl rfl ?_
        refine jr_iload_n dX11_when_106 rfl rfl ?_
        obtain ⟨v25, h24, Hc, H⟩ := j_b2_some H
        refine jr_callV (ci := 11) [.int a1, .int a2] my_X11_tollNow mv_X11_tollNow ml_RX11_271 dX11_when_107 rfl rfl (Nat.le_of_ble_eq_true rfl) rfl (c_X11_tollNow l d F a0 a1 a2 h23 v25 h24 Hc) ?_
        refine jr_i2l dX11_when_110 ?_
        obtain ⟨h26, Hc, H⟩ := Option.bind_eq_some_iff.mp H
        refine jr_callV (ci := 11) [.long (v25.toInt64)] my_X11_tell mv_X11_tell ml_RX11_274 dX11_when_111 rfl rfl (Nat.le_of_ble_eq_true rfl) rfl (c_X11_tell l (d + 405) F a0 (v25.toInt64) h24 h26 Hc) ?_
        refine jr_iload_n dX11_when_114 rfl rfl ?_
        exact jr_iret rfl dX11_when_115 H
set_option maxRecDepth 100000 in
set_option maxHeartbeats 4000000 in
theorem s_X11_shortest_L39 (l : Launch) (d : Nat) (F : Nat) (x0 : Nat) (x1 : Int32) (x2 : Int32) (x3 : Int32) (k139 : Int32 → jH → Option (Int32 × jH)) {rR : Int32} {hf : jH} (hk139 : ∀ (y4 : Int32) (h : jH), k139 y4 h = some (rR, hf) → jGo l (d + 406) none RX11 cX11_shortest 6 (some .int) false 139 [some (.ref x0), none, some (.int x2), none, some (.int y4), none] [] h (some (.int rR)) hf) : ∀ (n : Nat) (x4 : Int32) (x5 : Int32) (h : jH), f_X11_shortest_L39 F x0 x1 x2 x3 k139 n x4 x5 h = some (rR, hf) → jGo l (d + 406) none RX11 cX11_shortest 6 (some .int) false 39 [some (.ref x0), some (.int x1), some (.int x2), some (.int x3), some (.int x4), some (.int x5)] [] h (some (.int rR)) hf := by
  intro n
  induction n with
  | zero =>
    intro x4 x5 h H
    cases H
  | succ n ih =>
    intro x4 x5 h H
    unfold f_X11_shortest_L39 at H
    refine jr_iload dX11_shortest_39 rfl ?_
    refine jr_aload_n dX11_shortest_41 rfl rfl ?_
    refine jr_getI fl_RX11_120 (by decide) dX11_shortest_42 H (fun v8 H => ?_)
    refine jr_icmp_ge (tgt := 139) dX11_shortest_45 (by decide) H (fun H => ?_) (fun H => ?_)
    · refine jr_fgt 1 ?_
      refine jr_fgt 3 ?_
      refine jr_fgt 5 ?_
      exact hk139 _ _ H
    · refine jr_aload_n dX11_shortest_48 rfl rfl ?_
      refine jr_iload dX11_shortest_49 rfl ?_
      refine jr_iload_n dX11_shortest_51 rfl rfl ?_
      obtain ⟨v10, h9, Hc, H⟩ := j_b2_some H
      refine jr_callV (ci := 11) [.int x5, .int x1] my_X11_means mv_X11_means ml_RX11_292 dX11_shortest_52 rfl rfl (Nat.le_of_ble_eq_true rfl) rfl (c_X11_means l (d + 405) F x0 x5 x1 h v10 h9 Hc) ?_
      refine jr_jn (fun J => ∀ (z11 : Int32) (h12 : jH), J z11 h12 = some (rR, hf) → jGo l (d + 406) none RX11 cX11_shortest 6 (some .int) false 133 [some (.ref x0), some (.int x1), some (.int x2), some (.int x3), some (.int z11), some (.int x5)] [] h12 (some (.int rR)) hf) H (fun z11 h12 H => ?_) (fun J133 hJ133 H => ?_)
      · refine jr_iinc (v := (x5 + 1)) dX11_shortest_133 rfl rfl (by decide) rfl (Or.inl rfl) ?_
        refine jr_goto (tgt := 39) dX11_shortest_136 (by decide) ?_
        exact ih _ _ _ H
      · refine jr_if_eq (tgt := 133) dX11_shortest_55 (by decide) H (fun H => ?_) (fun H => ?_)
        · exact hJ133 _ _ H
        · refine jr_aload_n dX11_shortest_58 rfl rfl ?_
          refine jr_iload dX11_shortest_59 rfl ?_
          refine jr_iload_n dX11_shortest_61 rfl rfl ?_
          obtain ⟨v14, h13, Hc, H⟩ := j_b2_some H
          refine jr_callV (ci := 11) [.int x5, .int x2] my_X11_tollNow mv_X11_tollNow ml_RX11_271 dX11_shortest_62 rfl rfl (Nat.le_of_ble_eq_true rfl) rfl (c_X11_tollNow l d F x0 x5 x2 h9 v14 h13 Hc) ?_
          refine jr_iload_n dX11_shortest_65 rfl rfl ?_
          refine jr_icmp_le (tgt := 72) dX11_shortest_66 (by decide) H (fun H => ?_) (fun H => ?_)
          · refine jr_iload dX11_shortest_72 rfl ?_
            refine jr_iconst (v := (-1)) dX11_shortest_74 (by decide) ?_
            refine jr_jn (fun J => ∀ (h15 : jH), J h15 = some (rR, hf) → jGo l (d + 406) none RX11 cX11_shortest 6 (some .int) false 129 [some (.ref x0), some (.int x1), some (.int x2), some (.int x3), none, some (.int x5)] [] h15 (some (.int rR)) hf) H (fun h15 H => ?_) (fun J129 hJ129 H => ?_)
            · refine jr_iload dX11_shortest_129 rfl ?_
              refine jr_istore dX11_shortest_131 (by decide) rfl (Or.inl rfl) ?_
              exact hJ133 _ _ H
            · refine jr_icmp_eq (tgt := 129) dX11_shortest_75 (by decide) H (fun H => ?_) (fun H => ?_)
              · refine jr_fgt 4 ?_
                exact hJ129 _ H
              · refine jr_aload_n dX11_shortest_78 rfl rfl ?_
                refine jr_getR fl_RX11_21 dX11_shortest_79 H (fun v16 H => ?_)
                refine jr_iload dX11_shortest_82 rfl ?_
                refine jr_iald dX11_shortest_84 H (fun v17 H => ?_)
                refine jr_aload_n dX11_shortest_85 rfl rfl ?_
                refine jr_getR fl_RX11_21 dX11_shortest_86 H (fun v18 H => ?_)
                refine jr_iload dX11_shortest_89 rfl ?_
                refine jr_iald dX11_shortest_91 H (fun v19 H => ?_)
                refine jr_icmp_lt (tgt := 129) dX11_shortest_92 (by decide) H (fun H => ?_) (fun H => ?_)
                · refine jr_fgt 4 ?_
                  exact hJ129 _ H
                · refine jr_aload_n dX11_shortest_95 rfl rfl ?_
                  refine jr_getR fl_RX11_21 dX11_shortest_96 H (fun v20 H => ?_)
                  refine jr_iload dX11_shortest_99 rfl ?_
                  refine jr_iald dX11_shortest_101 H (fun v21 H => ?_)
                  refine jr_aload_n dX11_shortest_102 rfl rfl ?_
                  refine jr_getR fl_RX11_21 dX11_shortest_103 H (fun v22 H => ?_)
                  refine jr_iload dX11_shortest_106 rfl ?_
                  refine jr_iald dX11_shortest_108 H (fun v23 H => ?_)
                  refine jr_icmp_ne (tgt := 133) dX11_shortest_109 (by decide) H (fun H => ?_) (fun H => ?_)
                  · refine jr_aload_n dX11_shortest_112 rfl rfl ?_
                    refine jr_iload dX11_shortest_113 rfl ?_
                    refine jr_iload_n dX11_shortest_115 rfl rfl ?_
                    obtain ⟨v25, h24, Hc, H⟩ := j_b2_some H
                    refine jr_callV (ci := 11) [.int x5, .int x2] my_X11_tollNow mv_X11_tollNow ml_RX11_271 dX11_shortest_116 rfl rfl (Nat.le_of_ble_eq_true rfl) rfl (c_X11_tollNow l d F x0 x5 x2 h13 v25 h24 Hc) ?_
                    refine jr_aload_n dX11_shortest_119 rfl rfl ?_
                    refine jr_iload dX11_shortest_120 rfl ?_
                    refine jr_iload_n dX11_shortest_122 rfl rfl ?_
                    obtain ⟨v27, h26, Hc, H⟩ := j_b2_some H
                    refine jr_callV (ci := 11) [.int x4, .int x2] my_X11_tollNow mv_X11_tollNow ml_RX11_271 dX11_shortest_123 rfl rfl (Nat.le_of_ble_eq_true rfl) rfl (c_X11_tollNow l d F x0 x4 x2 h24 v27 h26 Hc) ?_
                    refine jr_icmp_ge (tgt := 133) dX11_shortest_126 (by decide) H (fun H => ?_) (fun H => ?_)
                    · exact hJ133 _ _ H
                    · refine jr_fgt 4 ?_
                      exact hJ129 _ H
                  · exact hJ133 _ _ H
          · refine jr_goto (tgt := 133) dX11_shortest_69 (by decide) ?_
            exact hJ133 _ _ H
set_option maxRecDepth 100000 in
set_option maxHeartbeats 4000000 in
theorem c_X11_shortest (l : Launch) (d : Nat) (F : Nat) (a0 : Nat) (a1 : Int32) (a2 : Int32) (a3 : Int32) (h : jH) (rR : Int32) (hf : jH) (H : f_X11_shortest F a0 a1 a2 a3 h = some (rR, hf)) : jh_sh h a0 = (11, 0) ∧ jMet l (d + 406) yX11_shortest cX11_shortest 6 (some .int) [.ref a0, .int a1, .int a2, .int a3] h (some (.int rR)) hf := by
  unfold f_X11_shortest at H
  obtain ⟨hsh, H⟩ := j_gd_some H
  refine ⟨hsh, ?_⟩
  refine jMet.of false [some (.ref a0), some (.int a1), some (.int a2), some (.int a3), none, none] rfl (by decide) (by decide) (Nat.le_of_ble_eq_true rfl) (fun S0 q hq => by simpa [j_l, lv_args, j_v, Value.category] using hq) ?_
  refine jr_aload_n dX11_shortest_0 rfl rfl ?_
  refine jr_iconst (v := 0) dX11_shortest_1 (by decide) ?_
  refine jr_putI fl_RX11_110 (fun z => by cases z) dX11_shortest_2 H (fun h1 H => ?_)
  refine jr_iload_n dX11_shortest_5 rfl rfl ?_
  obtain ⟨v3, h2, Hc, H⟩ := j_b2_some H
  refine jr_callS [.int a1] my_X11_isMeaning ms_X11_isMeaning ml_RX11_316 dX11_shortest_6 rfl rfl (Nat.le_of_ble_eq_true rfl) (c_X11_isMeaning l (d + 404) F a1 h1 v3 h2 Hc) ?_
  refine jr_if_eq (tgt := 31) dX11_shortest_9 (by decide) H (fun H => ?_) (fun H => ?_)
  · refine jr_iconst (v := (-1)) dX11_shortest_31 (by decide) ?_
    exact jr_iret rfl dX11_shortest_32 H
  · refine jr_aload_n dX11_shortest_12 rfl rfl ?_
    refine jr_iload_n dX11_shortest_13 rfl rfl ?_
    obtain ⟨v5, h4, Hc, H⟩ := j_b2_some H
    refine jr_callV (ci := 11) [.int a2] my_X11_isStation mv_X11_isStation ml_RX11_264 dX11_shortest_14 rfl rfl (Nat.le_of_ble_eq_true rfl) rfl (c_X11_isStation l (d + 404) F a0 a2 h2 v5 h4 Hc) ?_
    refine jr_if_eq (tgt := 31) dX11_shortest_17 (by decide) H (fun H => ?_) (fun H => ?_)
    · refine jr_iconst (v := (-1)) dX11_shortest_31 (by decide) ?_
      exact jr_iret rfl dX11_shortest_32 H
    · refine jr_iload_n dX11_shortest_20 rfl rfl ?_
      refine jr_iconst (v := 0) dX11_shortest_21 (by decide) ?_
      refine jr_sipush (v := 9999) dX11_shortest_22 (by decide) ?_
      obtain ⟨v7, h6, Hc, H⟩ := j_b2_some H
      refine jr_callS [.int a3, .int 0, .int 9999] my_X11_in ms_X11_in ml_RX11_116 dX11_shortest_25 rfl rfl (Nat.le_of_ble_eq_true rfl) (c_X11_in l (d + 405) F a3 0 9999 h4 v7 h6 Hc) ?_
      refine jr_if_ne (tgt := 33) dX11_shortest_28 (by decide) H (fun H => ?_) (fun H => ?_)
      · refine jr_iconst (v := (-1)) dX11_shortest_31 (by decide) ?_
        exact jr_iret rfl dX11_shortest_32 H
      · refine jr_iconst (v := (-1)) dX11_shortest_33 (by decide) ?_
        refine jr_istore dX11_shortest_34 (by decide) rfl (Or.inl rfl) ?_
        refine jr_iconst (v := 0) dX11_shortest_36 (by decide) ?_
        refine jr_istore dX11_shortest_37 (by decide) rfl (Or.inl rfl) ?_
        refine s_X11_shortest_L39 l d F a0 a1 a2 a3 _ (fun y28 h29 H => ?_) F (-1) 0 h6 H
        · refine jr_iload dX11_shortest_139 rfl ?_
          refine jr_iconst (v := (-1)) dX11_shortest_141 (by decide) ?_
          refine jr_icmp_ne (tgt := 148) dX11_shortest_142 (by decide) H (fun H => ?_) (fun H => ?_)
          · refine jr_bipush (v := (-2)) dX11_shortest_145 (by decide) ?_
            exact jr_iret rfl dX11_shortest_147 H
          · refine jr_aload_n dX11_shortest_148 rfl rfl ?_
            refine jr_iconst (v := 0) dX11_shortest_149 (by decide) ?_
            refine jr_putI fl_RX11_113 (fun z => by cases z) dX11_shortest_150 H (fun h30 H => ?_)
            refine jr_aload_n dX11_shortest_153 rfl rfl ?_
            refine jr_aload_n dX11_shortest_154 rfl rfl ?_
            refine jr_getR fl_RX11_21 dX11_shortest_155 H (fun v31 H => ?_)
            refine jr_iload dX11_shortest_158 rfl ?_
            refine jr_iald dX11_shortest_160 H (fun v32 H => ?_)
            refine jr_i2l dX11_shortest_161 ?_
            obtain ⟨h33, Hc, H⟩ := Option.bind_eq_some_iff.mp H
            refine jr_callV (ci := 11) [.long (v32.toInt64)] my_X11_tell mv_X11_tell ml_RX11_274 dX11_shortest_162 rfl rfl (Nat.le_of_ble_eq_true rfl) rfl (c_X11_tell l (d + 405) F a0 (v32.toInt64) h30 h33 Hc) ?_
            refine jr_aload_n dX11_shortest_165 rfl rfl ?_
            refine jr_aload_n dX11_shortest_166 rfl rfl ?_
            refine jr_iload dX11_shortest_167 rfl ?_
            refine jr_iload_n dX11_shortest_169 rfl rfl ?_
            obtain ⟨v35, h34, Hc, H⟩ := j_b2_some H
            refine jr_callV (ci := 11) [.int y28, .int a2] my_X11_tollNow mv_X11_tollNow ml_RX11_271 dX11_shortest_170 rfl rfl (Nat.le_of_ble_eq_true rfl) rfl (c_X11_tollNow l d F a0 y28 a2 h33 v35 h34 Hc) ?_
            refine jr_i2l dX11_shortest_173 ?_
            obtain ⟨h36, Hc, H⟩ := Option.bind_eq_some_iff.mp H
            refine jr_callV (ci := 11) [.long (v35.toInt64)] my_X11_tell mv_X11_tell ml_RX11_274 dX11_shortest_174 rfl rfl (Nat.le_of_ble_eq_true rfl) rfl (c_X11_tell l (d + 405) F a0 (v35.toInt64) h34 h36 Hc) ?_
            refine jr_iload dX11_shortest_177 rfl ?_
            exact jr_iret rfl dX11_shortest_179 H
set_option maxRecDepth 100000 in
set_option maxHeartbeats 4000000 in
theorem s_X11_changesOf_L15 (l : Launch) (d : Nat) (F : Nat) (x0 : Nat) (x1 : Int32) (x2 : Int32) (x3 : Int32) (x4 : Int32) (k152 : jH → Option (Int32 × jH)) {rR : Int32} {hf : jH} (hk152 : ∀ (h : jH), k152 h = some (rR, hf) → jGo l (d + 1) none RX11 cX11_changesOf 7 (some .int) false 152 [some (.ref x0), some (.int x1), some (.int x2), some (.int x3), some (.int x4), none, none] [] h (some (.int rR)) hf) : ∀ (n : Nat) (x5 : Int32) (h : jH), f_X11_changesOf_L15 F x0 x1 x2 x3 x4 k152 n x5 h = some (rR, hf) → jGo l (d + 1) none RX11 cX11_changesOf 7 (some .int) false 15 [some (.ref x0), some (.int x1), some (.int x2), some (.int x3), some (.int x4), some (.int x5), none] [] h (some (.int rR)) hf := by
  intro n
  induction n with
  | zero =>
    intro x5 h H
    cases H
  | succ n ih =>
    intro x5 h H
    unfold f_X11_changesOf_L15 at H
    refine jr_iload dX11_changesOf_15 rfl ?_
    refine jr_iload_n dX11_changesOf_17 rfl rfl ?_
    refine jr_icmp_gt (tgt := 152) dX11_changesOf_18 (by decide) H (fun H => ?_) (fun H => ?_)
    · refine jr_fgt 5 ?_
      exact hk152 _ H
    · refine jr_iload dX11_changesOf_21 rfl ?_
      refine jr_jn (fun J => ∀ (h1 : jH), J h1 = some (rR, hf) → jGo l (d + 1) none RX11 cX11_changesOf 7 (some .int) false 146 [some (.ref x0), some (.int x1), some (.int x2), some (.int x3), some (.int x4), some (.int x5), none] [] h1 (some (.int rR)) hf) H (fun h1 H => ?_) (fun J146 hJ146 H => ?_)
      · refine jr_iinc (v := (x5 + 1)) dX11_changesOf_146 rfl rfl (by decide) rfl (Or.inl rfl) ?_
        refine jr_goto (tgt := 15) dX11_changesOf_149 (by decide) ?_
        exact ih _ _ H
      · refine jr_jn (fun J => ∀ (h2 : jH), J h2 = some (rR, hf) → jGo l (d + 1) none RX11 cX11_changesOf 7 (some .int) false 31 [some (.ref x0), some (.int x1), some (.int x2), some (.int x3), some (.int x4), some (.int x5), none] [] h2 (some (.int rR)) hf) H (fun h2 H => ?_) (fun J31 hJ31 H => ?_)
        · refine jr_aload_n dX11_changesOf_31 rfl rfl ?_
          refine jr_getR fl_RX11_76 dX11_changesOf_32 H (fun v3 H => ?_)
          refine jr_iload_n dX11_changesOf_35 rfl rfl ?_
          refine jr_iload dX11_changesOf_36 rfl ?_
          refine jr_imul dX11_changesOf_38 ?_
          refine jr_iload dX11_changesOf_39 rfl ?_
          refine jr_iadd dX11_changesOf_41 ?_
          refine jr_iload dX11_changesOf_42 rfl ?_
          refine jr_iload dX11_changesOf_44 rfl ?_
          refine jr_iadd dX11_changesOf_46 ?_
          refine jr_iast dX11_changesOf_47 H (fun h4 H => ?_)
          refine jr_goto (tgt := 146) dX11_changesOf_48 (by decide) ?_
          exact hJ146 _ H
        · refine jr_if_eq (tgt := 31) dX11_changesOf_23 (by decide) H (fun H => ?_) (fun H => ?_)
          · exact hJ31 _ H
          · refine jr_iload dX11_changesOf_26 rfl ?_
            refine jr_if_ne (tgt := 51) dX11_changesOf_28 (by decide) H (fun H => ?_) (fun H => ?_)
            · exact hJ31 _ H
            · refine jr_aload_n dX11_changesOf_51 rfl rfl ?_
              refine jr_getR fl_RX11_76 dX11_changesOf_52 H (fun v5 H => ?_)
              refine jr_iload_n dX11_changesOf_55 rfl rfl ?_
              refine jr_iload dX11_changesOf_56 rfl ?_
              refine jr_iconst (v := 1) dX11_changesOf_58 (by decide) ?_
              refine jr_isub dX11_changesOf_59 ?_
              refine jr_imul dX11_changesOf_60 ?_
              refine jr_iload dX11_changesOf_61 rfl ?_
              refine jr_iadd dX11_changesOf_63 ?_
              refine jr_iconst (v := 1) dX11_changesOf_64 (by decide) ?_
              refine jr_isub dX11_changesOf_65 ?_
              refine jr_iald dX11_changesOf_66 H (fun v6 H => ?_)
              refine jr_aload_n dX11_changesOf_67 rfl rfl ?_
              refine jr_getR fl_RX11_70 dX11_changesOf_68 H (fun v7 H => ?_)
              refine jr_iload dX11_changesOf_71 rfl ?_
              refine jr_iconst (v := 1) dX11_changesOf_73 (by decide) ?_
              refine jr_isub dX11_changesOf_74 ?_
              refine jr_iald dX11_changesOf_75 H (fun v8 H => ?_)
              refine jr_aload_n dX11_changesOf_76 rfl rfl ?_
              refine jr_getR fl_RX11_73 dX11_changesOf_77 H (fun v9 H => ?_)
              refine jr_iload dX11_changesOf_80 rfl ?_
              refine jr_iconst (v := 1) dX11_changesOf_82 (by decide) ?_
              refine jr_isub dX11_changesOf_83 ?_
              refine jr_iald dX11_changesOf_84 H (fun v10 H => ?_)
              refine jr_jn (fun J => ∀ (s11 : Int32) (s12 : Int32) (h13 : jH), J s11 s12 h13 = some (rR, hf) → jGo l (d + 1) none RX11 cX11_changesOf 7 (some .int) false 93 [some (.ref x0), some (.int x1), some (.int x2), some (.int x3), some (.int x4), some (.int x5), none] [.int s11, .int s12] h13 (some (.int rR)) hf) H (fun s11 s12 h13 H => ?_) (fun J93 hJ93 H => ?_)
              · refine jr_iadd dX11_changesOf_93 ?_
                refine jr_istore dX11_changesOf_94 (by decide) rfl (Or.inl rfl) ?_
                refine jr_aload_n dX11_changesOf_96 rfl rfl ?_
                refine jr_getR fl_RX11_76 dX11_changesOf_97 H (fun v14 H => ?_)
                refine jr_iload_n dX11_changesOf_100 rfl rfl ?_
                refine jr_iload dX11_changesOf_101 rfl ?_
                refine jr_imul dX11_changesOf_103 ?_
                refine jr_iload dX11_changesOf_104 rfl ?_
                refine jr_iadd dX11_changesOf_106 ?_
                refine jr_iload dX11_changesOf_107 rfl ?_
                refine jr_iconst (v := 1) dX11_changesOf_109 (by decide) ?_
                refine jr_aload_n dX11_changesOf_110 rfl rfl ?_
                refine jr_getR fl_RX11_76 dX11_changesOf_111 H (fun v15 H => ?_)
                refine jr_iload_n dX11_changesOf_114 rfl rfl ?_
                refine jr_iload dX11_changesOf_115 rfl ?_
                refine jr_iconst (v := 1) dX11_changesOf_117 (by decide) ?_
                refine jr_isub dX11_changesOf_118 ?_
                refine jr_imul dX11_changesOf_119 ?_
                refine jr_iload dX11_changesOf_120 rfl ?_
                refine jr_iadd dX11_changesOf_122 ?_
                refine jr_iald dX11_changesOf_123 H (fun v16 H => ?_)
                refine jr_aload_n dX11_changesOf_124 rfl rfl ?_
                refine jr_getR fl_RX11_76 dX11_changesOf_125 H (fun v17 H => ?_)
                refine jr_iload_n dX11_changesOf_128 rfl rfl ?_
                refine jr_iload dX11_changesOf_129 rfl ?_
                refine jr_imul dX11_changesOf_131 ?_
                refine jr_iload dX11_changesOf_132 rfl ?_
                refine jr_iadd dX11_changesOf_134 ?_
                refine jr_iconst (v := 1) dX11_changesOf_135 (by decide) ?_
                refine jr_isub dX11_changesOf_136 ?_
                refine jr_iald dX11_changesOf_137 H (fun v18 H => ?_)
                refine jr_mmin ml_RX11_226 mm_mmin_s mm_i mm_mmin_c dX11_changesOf_138 (Nat.le_of_ble_eq_true rfl) ?_
                refine jr_iadd dX11_changesOf_141 ?_
                refine jr_mmin ml_RX11_226 mm_mmin_s mm_i mm_mmin_c dX11_changesOf_142 (Nat.le_of_ble_eq_true rfl) ?_
                refine jr_iast dX11_changesOf_145 H (fun h19 H => ?_)
                refine jr_fgt 6 ?_
                exact hJ146 _ H
              · refine jr_icmp_ne (tgt := 92) dX11_changesOf_85 (by decide) H (fun H => ?_) (fun H => ?_)
                · refine jr_iconst (v := 0) dX11_changesOf_88 (by decide) ?_
                  refine jr_goto (tgt := 93) dX11_changesOf_89 (by decide) ?_
                  exact hJ93 _ _ _ H
                · refine jr_iconst (v := 1) dX11_changesOf_92 (by decide) ?_
                  exact hJ93 _ _ _ H
set_option maxRecDepth 100000 in
set_option maxHeartbeats 4000000 in
theorem s_X11_changesOf_L6 (l : Launch) (d : Nat) (F : Nat) (x0 : Nat) (x1 : Int32) (x2 : Int32) (x3 : Int32) (k158 : jH → Option (Int32 × jH)) {rR : Int32} {hf : jH} (hk158 : ∀ (h : jH), k158 h = some (rR, hf) → jGo l (d + 1) none RX11 cX11_changesOf 7 (some .int) false 158 [some (.ref x0), some (.int x1), some (.int x2), some (.int x3), none, none, none] [] h (some (.int rR)) hf) : ∀ (n : Nat) (x4 : Int32) (h : jH), f_X11_changesOf_L6 F x0 x1 x2 x3 k158 n x4 h = some (rR, hf) → jGo l (d + 1) none RX11 cX11_changesOf 7 (some .int) false 6 [some (.ref x0), some (.int x1), some (.int x2), some (.int x3), some (.int x4), none, none] [] h (some (.int rR)) hf := by
  intro n
  induction n with
  | zero =>
    intro x4 h H
    cases H
  | succ n ih =>
    intro x4 h H
    unfold f_X11_changesOf_L6 at H
    refine jr_iload dX11_changesOf_6 rfl ?_
    refine jr_iload_n dX11_changesOf_8 rfl rfl ?_
    refine jr_icmp_gt (tgt := 158) dX11_changesOf_9 (by decide) H (fun H => ?_) (fun H => ?_)
    · refine jr_fgt 4 ?_
      exact hk158 _ H
    · refine jr_iconst (v := 0) dX11_changesOf_12 (by decide) ?_
      refine jr_istore dX11_changesOf_13 (by decide) rfl (Or.inl rfl) ?_
      refine s_X11_changesOf_L15 l d F x0 x1 x2 x3 x4 _ (fun h20 H => ?_) F 0 h H
      · refine jr_iinc (v := (x4 + 1)) dX11_changesOf_152 rfl rfl (by decide) rfl (Or.inl rfl) ?_
        refine jr_goto (tgt := 6) dX11_changesOf_155 (by decide) ?_
        exact ih _ _ H
set_option maxRecDepth 100000 in
set_option maxHeartbeats 4000000 in
theorem c_X11_changesOf (l : Launch) (d : Nat) (F : Nat) (a0 : Nat) (a1 : Int32) (a2 : Int32) (h : jH) (rR : Int32) (hf : jH) (H : f_X11_changesOf F a0 a1 a2 h = some (rR, hf)) : jh_sh h a0 = (11, 0) ∧ jMet l (d + 1) yX11_changesOf cX11_changesOf 7 (some .int) [.ref a0, .int a1, .int a2] h (some (.int rR)) hf := by
  unfold f_X11_changesOf at H
  obtain ⟨hsh, H⟩ := j_gd_some H
  refine ⟨hsh, ?_⟩
  refine jMet.of false [some (.ref a0), some (.int a1), some (.int a2), none, none, none, none] rfl (by decide) (by decide) (Nat.le_of_ble_eq_true rfl) (fun S0 q hq => by simpa [j_l, lv_args, j_v, Value.category] using hq) ?_
  refine jr_bipush (v := 7) dX11_changesOf_0 (by decide) ?_
  refine jr_istore_n dX11_changesOf_2 rfl (by decide) rfl (Or.inl rfl) ?_
  refine jr_iconst (v := 0) dX11_changesOf_3 (by decide) ?_
  refine jr_istore dX11_changesOf_4 (by decide) rfl (Or.inl rfl) ?_
  refine s_X11_changesOf_L6 l d F a0 a1 a2 7 _ (fun h21 H => ?_) F 0 h H
  · refine jr_aload_n dX11_changesOf_158 rfl rfl ?_
    refine jr_getR fl_RX11_76 dX11_changesOf_159 H (fun v22 H => ?_)
    refine jr_iload_n dX11_changesOf_162 rfl rfl ?_
    refine jr_iload_n dX11_changesOf_163 rfl rfl ?_
    refine jr_imul dX11_changesOf_164 ?_
    refine jr_iload_n dX11_changesOf_165 rfl rfl ?_
    refine jr_iadd dX11_changesOf_166 ?_
    refine jr_iald dX11_changesOf_167 H (fun v23 H => ?_)
    exact jr_iret rfl dX11_changesOf_168 H
set_option maxRecDepth 100000 in
set_option maxHeartbeats 4000000 in
theorem s_X11_layWord_L6 (l : Launch) (d : Nat) (F : Nat) (x0 : Nat) (x1 : Int32) (x2 : Nat) (x3 : Int32) {rR : Int32} {hf : jH} : ∀ (n : Nat) (x4 : Int32) (x5 : Int32) (h : jH), f_X11_layWord_L6 F x0 x1 x2 x3 n x4 x5 h = some (rR, hf) → jGo l (d + 1) none RX11 cX11_layWord 6 (some .int) false 6 [some (.ref x0), some (.int x1), some (.ref x2), some (.int x3), some (.int x4), some (.int x5)] [] h (some (.int rR)) hf := by
  intro n
  induction n with
  | zero =>
    intro x4 x5 h H
    cases H
  | succ n ih =>
    intro x4 x5 h H
    unfold f_X11_layWord_L6 at H
    refine jr_iload dX11_layWord_6 rfl ?_
    refine jr_aload_n dX11_layWord_8 rfl rfl ?_
    refine jr_getR fl_RX11_21 dX11_layWord_9 H (fun v1 H => ?_)
    refine jr_iload_n dX11_layWord_12 rfl rfl ?_
    refine jr_iald dX11_layWord_13 H (fun v2 H => ?_)
    refine jr_icmp_ge (tgt := 58) dX11_layWord_14 (by decide) H (fun H => ?_) (fun H => ?_)
    · refine jr_iload dX11_layWord_58 rfl ?_
      exact jr_iret rfl dX11_layWord_60 H
    · refine jr_iload_n dX11_layWord_17 rfl rfl ?_
      refine jr_jn (fun J => ∀ (z3 : Int32) (h4 : jH), J z3 h4 = some (rR, hf) → jGo l (d + 1) none RX11 cX11_layWord 6 (some .int) false 52 [some (.ref x0), some (.int x1), some (.ref x2), some (.int x3), some (.int z3), some (.int x5)] [] h4 (some (.int rR)) hf) H (fun z3 h4 H => ?_) (fun J52 hJ52 H => ?_)
      · refine jr_iinc (v := (x5 + 1)) dX11_layWord_52 rfl rfl (by decide) rfl (Or.inl rfl) ?_
        refine jr_goto (tgt := 6) dX11_layWord_55 (by decide) ?_
        exact ih _ _ _ H
      · refine jr_jn (fun J => ∀ (h5 : jH), J h5 = some (rR, hf) → jGo l (d + 1) none RX11 cX11_layWord 6 (some .int) false 38 [some (.ref x0), some (.int x1), some (.ref x2), some (.int x3), some (.int x4), some (.int x5)] [] h5 (some (.int rR)) hf) H (fun h5 H => ?_) (fun J38 hJ38 H => ?_)
        · refine jr_aload_n dX11_layWord_38 rfl rfl ?_
          refine jr_iload dX11_layWord_39 rfl ?_
          refine jr_aload_n dX11_layWord_41 rfl rfl ?_
          refine jr_iload_n dX11_layWord_42 rfl rfl ?_
          refine jr_iload dX11_layWord_43 rfl ?_
          obtain ⟨v7, h6, Hc, H⟩ := j_b2_some H
          refine jr_callV (ci := 11) [.int x1, .int x5] my_X11_letter mv_X11_letter ml_RX11_219 dX11_layWord_45 rfl rfl (Nat.le_of_ble_eq_true rfl) rfl (c_X11_letter l d F x0 x1 x5 h5 v7 h6 Hc) ?_
          refine jr_iast dX11_layWord_48 H (fun h8 H => ?_)
          refine jr_iinc (v := (x4 + 1)) dX11_layWord_49 rfl rfl (by decide) rfl (Or.inl rfl) ?_
          exact hJ52 _ _ H
        · refine jr_if_eq (tgt := 38) dX11_layWord_18 (by decide) H (fun H => ?_) (fun H => ?_)
          · exact hJ38 _ H
          · refine jr_aload_n dX11_layWord_21 rfl rfl ?_
            refine jr_iload_n dX11_layWord_22 rfl rfl ?_
            refine jr_iload dX11_layWord_23 rfl ?_
            obtain ⟨v10, h9, Hc, H⟩ := j_b2_some H
            refine jr_callV (ci := 11) [.int x1, .int x5] my_X11_letter mv_X11_letter ml_RX11_219 dX11_layWord_25 rfl rfl (Nat.le_of_ble_eq_true rfl) rfl (c_X11_letter l d F x0 x1 x5 h v10 h9 Hc) ?_
            obtain ⟨v12, h11, Hc, H⟩ := j_b2_some H
            refine jr_callS [.int v10] my_X11_vowelOf ms_X11_vowelOf ml_RX11_223 dX11_layWord_28 rfl rfl (Nat.le_of_ble_eq_true rfl) (c_X11_vowelOf l d F v10 h9 v12 h11 Hc) ?_
            refine jr_iconst (v := (-1)) dX11_layWord_31 (by decide) ?_
            refine jr_icmp_ne (tgt := 38) dX11_layWord_32 (by decide) H (fun H => ?_) (fun H => ?_)
            · refine jr_goto (tgt := 52) dX11_layWord_35 (by decide) ?_
              exact hJ52 _ _ H
            · exact hJ38 _ H
set_option maxRecDepth 100000 in
set_option maxHeartbeats 4000000 in
theorem c_X11_layWord (l : Launch) (d : Nat) (F : Nat) (a0 : Nat) (a1 : Int32) (a2 : Nat) (a3 : Int32) (h : jH) (rR : Int32) (hf : jH) (H : f_X11_layWord F a0 a1 a2 a3 h = some (rR, hf)) : jh_sh h a0 = (11, 0) ∧ jMet l (d + 1) yX11_layWord cX11_layWord 6 (some .int) [.ref a0, .int a1, .ref a2, .int a3] h (some (.int rR)) hf := by
  unfold f_X11_layWord at H
  obtain ⟨hsh, H⟩ := j_gd_some H
  refine ⟨hsh, ?_⟩
  refine jMet.of false [some (.ref a0), some (.int a1), some (.ref a2), some (.int a3), none, none] rfl (by decide) (by decide) (Nat.le_of_ble_eq_true rfl) (fun S0 q hq => by simpa [j_l, lv_args, j_v, Value.category] using hq) ?_
  refine jr_iconst (v := 0) dX11_layWord_0 (by decide) ?_
  refine jr_istore dX11_layWord_1 (by decide) rfl (Or.inl rfl) ?_
  refine jr_iconst (v := 0) dX11_layWord_3 (by decide) ?_
  refine jr_istore dX11_layWord_4 (by decide) rfl (Or.inl rfl) ?_
  exact s_X11_layWord_L6 l d F a0 a1 a2 a3 F 0 0 h H
set_option maxRecDepth 100000 in
set_option maxHeartbeats 4000000 in
theorem c_X11_differBy (l : Launch) (d : Nat) (F : Nat) (a0 : Nat) (a1 : Int32) (a2 : Int32) (a3 : Int32) (h : jH) (rR : Int32) (hf : jH) (H : f_X11_differBy F a0 a1 a2 a3 h = some (rR, hf)) : jh_sh h a0 = (11, 0) ∧ jMet l (d + 2) yX11_differBy cX11_differBy 4 (some .int) [.ref a0, .int a1, .int a2, .int a3] h (some (.int rR)) hf := by
  unfold f_X11_differBy at H
  obtain ⟨hsh, H⟩ := j_gd_some H
  refine ⟨hsh, ?_⟩
  refine jMet.of false [some (.ref a0), some (.int a1), some (.int a2), some (.int a3)] rfl (by decide) (by decide) (Nat.le_of_ble_eq_true rfl) (fun S0 q hq => by simpa [j_l, lv_args, j_v, Value.category] using hq) ?_
  refine jr_aload_n dX11_differBy_0 rfl rfl ?_
  refine jr_aload_n dX11_differBy_1 rfl rfl ?_
  refine jr_iload_n dX11_differBy_2 rfl rfl ?_
  refine jr_aload_n dX11_differBy_3 rfl rfl ?_
  refine jr_getR fl_RX11_70 dX11_differBy_4 H (fun v1 H => ?_)
  refine jr_iload_n dX11_differBy_7 rfl rfl ?_
  obtain ⟨v3, h2, Hc, H⟩ := j_b2_some H
  refine jr_callV (ci := 11) [.int a1, .ref v1, .int a3] my_X11_layWord mv_X11_layWord ml_RX11_323 dX11_differBy_8 rfl rfl (Nat.le_of_ble_eq_true rfl) rfl (c_X11_layWord l d F a0 a1 v1 a3 h v3 h2 Hc) ?_
  refine jr_aload_n dX11_differBy_11 rfl rfl ?_
  refine jr_iload_n dX11_differBy_12 rfl rfl ?_
  refine jr_aload_n dX11_differBy_13 rfl rfl ?_
  refine jr_getR fl_RX11_73 dX11_differBy_14 H (fun v4 H => ?_)
  refine jr_iload_n dX11_differBy_17 rfl rfl ?_
  obtain ⟨v6, h5, Hc, H⟩ := j_b2_some H
  refine jr_callV (ci := 11) [.int a2, .ref v4, .int a3] my_X11_layWord mv_X11_layWord ml_RX11_323 dX11_differBy_18 rfl rfl (Nat.le_of_ble_eq_true rfl) rfl (c_X11_layWord l d F a0 a2 v4 a3 h2 v6 h5 Hc) ?_
  obtain ⟨v8, h7, Hc, H⟩ := j_b2_some H
  refine jr_callV (ci := 11) [.int v3, .int v6] my_X11_changesOf mv_X11_changesOf ml_RX11_327 dX11_differBy_21 rfl rfl (Nat.le_of_ble_eq_true rfl) rfl (c_X11_changesOf l d F a0 v3 v6 h5 v8 h7 Hc) ?_
  exact jr_iret rfl dX11_differBy_24 H
set_option maxRecDepth 100000 in
set_option maxHeartbeats 4000000 in
theorem c_X11_differ (l : Launch) (d : Nat) (F : Nat) (a0 : Nat) (a1 : Int32) (a2 : Int32) (h : jH) (rR : Int32) (hf : jH) (H : f_X11_differ F a0 a1 a2 h = some (rR, hf)) : jh_sh h a0 = (11, 0) ∧ jMet l (d + 3) yX11_differ cX11_differ 3 (some .int) [.ref a0, .int a1, .int a2] h (some (.int rR)) hf := by
  unfold f_X11_differ at H
  obtain ⟨hsh, H⟩ := j_gd_some H
  refine ⟨hsh, ?_⟩
  refine jMet.of false [some (.ref a0), some (.int a1), some (.int a2)] rfl (by decide) (by decide) (Nat.le_of_ble_eq_true rfl) (fun S0 q hq => by simpa [j_l, lv_args, j_v, Value.category] using hq) ?_
  refine jr_aload_n dX11_differ_0 rfl rfl ?_
  refine jr_iconst (v := 0) dX11_differ_1 (by decide) ?_
  refine jr_putI fl_RX11_110 (fun z => by cases z) dX11_differ_2 H (fun h1 H => ?_)
  refine jr_aload_n dX11_differ_5 rfl rfl ?_
  refine jr_iload_n dX11_differ_6 rfl rfl ?_
  obtain ⟨v3, h2, Hc, H⟩ := j_b2_some H
  refine jr_callV (ci := 11) [.int a1] my_X11_isWord mv_X11_isWord ml_RX11_241 dX11_differ_7 rfl rfl (Nat.le_of_ble_eq_true rfl) rfl (c_X11_isWord l (d + 1) F a0 a1 h1 v3 h2 Hc) ?_
  refine jr_if_eq (tgt := 21) dX11_differ_10 (by decide) H (fun H => ?_) (fun H => ?_)
  · refine jr_iconst (v := (-1)) dX11_differ_21 (by decide) ?_
    exact jr_iret rfl dX11_differ_22 H
  · refine jr_aload_n dX11_differ_13 rfl rfl ?_
    refine jr_iload_n dX11_differ_14 rfl rfl ?_
    obtain ⟨v5, h4, Hc, H⟩ := j_b2_some H
    refine jr_callV (ci := 11) [.int a2] my_X11_isWord mv_X11_isWord ml_RX11_241 dX11_differ_15 rfl rfl (Nat.le_of_ble_eq_true rfl) rfl (c_X11_isWord l (d + 1) F a0 a2 h2 v5 h4 Hc) ?_
    refine jr_if_ne (tgt := 23) dX11_differ_18 (by decide) H (fun H => ?_) (fun H => ?_)
    · refine jr_iconst (v := (-1)) dX11_differ_21 (by decide) ?_
      exact jr_iret rfl dX11_differ_22 H
    · refine jr_aload_n dX11_differ_23 rfl rfl ?_
      refine jr_iconst (v := 0) dX11_differ_24 (by decide) ?_
      refine jr_putI fl_RX11_113 (fun z => by cases z) dX11_differ_25 H (fun h6 H => ?_)
      refine jr_aload_n dX11_differ_28 rfl rfl ?_
      refine jr_aload_n dX11_differ_29 rfl rfl ?_
      refine jr_iload_n dX11_differ_30 rfl rfl ?_
      refine jr_iload_n dX11_differ_31 rfl rfl ?_
      refine jr_iconst (v := 1) dX11_differ_32 (by decide) ?_
      obtain ⟨v8, h7, Hc, H⟩ := j_b2_some H
      refine jr_callV (ci := 11) [.int a1, .int a2, .int 1] my_X11_differBy mv_X11_differBy ml_RX11_330 dX11_differ_33 rfl rfl (Nat.le_of_ble_eq_true rfl) rfl (c_X11_differBy l d F a0 a1 a2 1 h6 v8 h7 Hc) ?_
      refine jr_i2l dX11_differ_36 ?_
      obtain ⟨h9, Hc, H⟩ := Option.bind_eq_some_iff.mp H
      refine jr_callV (ci := 11) [.long (v8.toInt64)] my_X11_tell mv_X11_tell ml_RX11_274 dX11_differ_37 rfl rfl (Nat.le_of_ble_eq_true rfl) rfl (c_X11_tell l (d + 2) F a0 (v8.toInt64) h7 h9 Hc) ?_
      refine jr_aload_n dX11_differ_40 rfl rfl ?_
      refine jr_iload_n dX11_differ_41 rfl rfl ?_
      refine jr_iload_n dX11_differ_42 rfl rfl ?_
      refine jr_iconst (v := 0) dX11_differ_43 (by decide) ?_
      obtain ⟨v11, h10, Hc, H⟩ := j_b2_some H
      refine jr_callV (ci := 11) [.int a1, .int a2, .int 0] my_X11_differBy mv_X11_differBy ml_RX11_330 dX11_differ_44 rfl rfl (Nat.le_of_ble_eq_true rfl) rfl (c_X11_differBy l d F a0 a1 a2 0 h9 v11 h10 Hc) ?_
      exact jr_iret rfl dX11_differ_47 H
set_option maxRecDepth 100000 in
set_option maxHeartbeats 4000000 in
theorem c_X11_share (l : Launch) (d : Nat) (F : Nat) (a0 : Nat) (a1 : Int32) (a2 : Int32) (h : jH) (rR : Int32) (hf : jH) (H : f_X11_share F a0 a1 a2 h = some (rR, hf)) : jh_sh h a0 = (11, 0) ∧ jMet l (d + 1) yX11_share cX11_share 3 (some .boolean) [.ref a0, .int a1, .int a2] h (some (.int rR)) hf := by
  unfold f_X11_share at H
  obtain ⟨hsh, H⟩ := j_gd_some H
  refine ⟨hsh, ?_⟩
  refine jMet.of false [some (.ref a0), some (.int a1), some (.int a2)] rfl (by decide) (by decide) (Nat.le_of_ble_eq_true rfl) (fun S0 q hq => by simpa [j_l, lv_args, j_v, Value.category] using hq) ?_
  refine jr_aload_n dX11_share_0 rfl rfl ?_
  refine jr_iload_n dX11_share_1 rfl rfl ?_
  refine jr_aload_n dX11_share_2 rfl rfl ?_
  refine jr_getR fl_RX11_24 dX11_share_3 H (fun v1 H => ?_)
  refine jr_iconst (v := 2) dX11_share_6 (by decide) ?_
  refine jr_iload_n dX11_share_7 rfl rfl ?_
  refine jr_imul dX11_share_8 ?_
  refine jr_iald dX11_share_9 H (fun v2 H => ?_)
  obtain ⟨v4, h3, Hc, H⟩ := j_b2_some H
  refine jr_callV (ci := 11) [.int a2, .int v2] my_X11_means mv_X11_means ml_RX11_292 dX11_share_10 rfl rfl (Nat.le_of_ble_eq_true rfl) rfl (c_X11_means l d F a0 a2 v2 h v4 h3 Hc) ?_
  refine jr_jn (fun J => ∀ (h5 : jH), J h5 = some (rR, hf) → jGo l (d + 1) none RX11 cX11_share 3 (some .boolean) false 48 [none, none, none] [] h5 (some (.int rR)) hf) H (fun h5 H => ?_) (fun J48 hJ48 H => ?_)
  · refine jr_iconst (v := 1) dX11_share_48 (by decide) ?_
    refine jr_goto (tgt := 53) dX11_share_49 (by decide) ?_
    exact jr_zret rfl rfl dX11_share_53 H
  · refine jr_if_ne (tgt := 48) dX11_share_13 (by decide) H (fun H => ?_) (fun H => ?_)
    · refine jr_aload_n dX11_share_16 rfl rfl ?_
      refine jr_getR fl_RX11_24 dX11_share_17 H (fun v6 H => ?_)
      refine jr_iconst (v := 2) dX11_share_20 (by decide) ?_
      refine jr_iload_n dX11_share_21 rfl rfl ?_
      refine jr_imul dX11_share_22 ?_
      refine jr_iconst (v := 1) dX11_share_23 (by decide) ?_
      refine jr_iadd dX11_share_24 ?_
      refine jr_iald dX11_share_25 H (fun v7 H => ?_)
      refine jr_iconst (v := (-1)) dX11_share_26 (by decide) ?_
      refine jr_icmp_eq (tgt := 52) dX11_share_27 (by decide) H (fun H => ?_) (fun H => ?_)
      · refine jr_iconst (v := 0) dX11_share_52 (by decide) ?_
        exact jr_zret rfl rfl dX11_share_53 H
      · refine jr_aload_n dX11_share_30 rfl rfl ?_
        refine jr_iload_n dX11_share_31 rfl rfl ?_
        refine jr_aload_n dX11_share_32 rfl rfl ?_
        refine jr_getR fl_RX11_24 dX11_share_33 H (fun v8 H => ?_)
        refine jr_iconst (v := 2) dX11_share_36 (by decide) ?_
        refine jr_iload_n dX11_share_37 rfl rfl ?_
        refine jr_imul dX11_share_38 ?_
        refine jr_iconst (v := 1) dX11_share_39 (by decide) ?_
        refine jr_iadd dX11_share_40 ?_
        refine jr_iald dX11_share_41 H (fun v9 H => ?_)
        obtain ⟨v11, h10, Hc, H⟩ := j_b2_some H
        refine jr_callV (ci := 11) [.int a2, .int v9] my_X11_means mv_X11_means ml_RX11_292 dX11_share_42 rfl rfl (Nat.le_of_ble_eq_true rfl) rfl (c_X11_means l d F a0 a2 v9 h3 v11 h10 Hc) ?_
        refine jr_if_eq (tgt := 52) dX11_share_45 (by decide) H (fun H => ?_) (fun H => ?_)
        · refine jr_iconst (v := 0) dX11_share_52 (by decide) ?_
          exact jr_zret rfl rfl dX11_share_53 H
        · refine jr_fgt 0 ?_
          refine jr_fgt 1 ?_
          refine jr_fgt 2 ?_
          exact hJ48 _ H
    · refine jr_fgt 0 ?_
      refine jr_fgt 1 ?_
      refine jr_fgt 2 ?_
      exact hJ48 _ H
set_option maxRecDepth 100000 in
set_option maxHeartbeats 4000000 in
theorem s_X11_near_L19 (l : Launch) (d : Nat) (F : Nat) (x0 : Nat) (x1 : Int32) (k62 : Int32 → jH → Option (Int32 × jH)) {rR : Int32} {hf : jH} (hk62 : ∀ (y2 : Int32) (h : jH), k62 y2 h = some (rR, hf) → jGo l (d + 3) none RX11 cX11_near 4 (some .int) false 62 [some (.ref x0), some (.int x1), some (.int y2), none] [] h (some (.int rR)) hf) : ∀ (n : Nat) (x2 : Int32) (x3 : Int32) (h : jH), f_X11_near_L19 F x0 x1 k62 n x2 x3 h = some (rR, hf) → jGo l (d + 3) none RX11 cX11_near 4 (some .int) false 19 [some (.ref x0), some (.int x1), some (.int x2), some (.int x3)] [] h (some (.int rR)) hf := by
  intro n
  induction n with
  | zero =>
    intro x2 x3 h H
    cases H
  | succ n ih =>
    intro x2 x3 h H
    unfold f_X11_near_L19 at H
    refine jr_iload_n dX11_near_19 rfl rfl ?_
    refine jr_aload_n dX11_near_20 rfl rfl ?_
    refine jr_getI fl_RX11_120 (by decide) dX11_near_21 H (fun v4 H => ?_)
    refine jr_icmp_ge (tgt := 62) dX11_near_24 (by decide) H (fun H => ?_) (fun H => ?_)
    · refine jr_fgt 3 ?_
      exact hk62 _ _ H
    · refine jr_iload_n dX11_near_27 rfl rfl ?_
      refine jr_iload_n dX11_near_28 rfl rfl ?_
      refine jr_jn (fun J => ∀ (z5 : Int32) (h6 : jH), J z5 h6 = some (rR, hf) → jGo l (d + 3) none RX11 cX11_near 4 (some .int) false 56 [some (.ref x0), some (.int x1), some (.int z5), some (.int x3)] [] h6 (some (.int rR)) hf) H (fun z5 h6 H => ?_) (fun J56 hJ56 H => ?_)
      · refine jr_iinc (v := (x3 + 1)) dX11_near_56 rfl rfl (by decide) rfl (Or.inl rfl) ?_
        refine jr_goto (tgt := 19) dX11_near_59 (by decide) ?_
        exact ih _ _ _ H
      · refine jr_icmp_eq (tgt := 56) dX11_near_29 (by decide) H (fun H => ?_) (fun H => ?_)
        · exact hJ56 _ _ H
        · refine jr_iload_n dX11_near_32 rfl rfl ?_
          refine jr_iconst (v := (-1)) dX11_near_33 (by decide) ?_
          refine jr_jn (fun J => ∀ (h7 : jH), J h7 = some (rR, hf) → jGo l (d + 3) none RX11 cX11_near 4 (some .int) false 54 [some (.ref x0), some (.int x1), none, some (.int x3)] [] h7 (some (.int rR)) hf) H (fun h7 H => ?_) (fun J54 hJ54 H => ?_)
          · refine jr_iload_n dX11_near_54 rfl rfl ?_
            refine jr_istore_n dX11_near_55 rfl (by decide) rfl (Or.inl rfl) ?_
            exact hJ56 _ _ H
          · refine jr_icmp_eq (tgt := 54) dX11_near_34 (by decide) H (fun H => ?_) (fun H => ?_)
            · refine jr_fgt 2 ?_
              exact hJ54 _ H
            · refine jr_aload_n dX11_near_37 rfl rfl ?_
              refine jr_iload_n dX11_near_38 rfl rfl ?_
              refine jr_iload_n dX11_near_39 rfl rfl ?_
              refine jr_iconst (v := 0) dX11_near_40 (by decide) ?_
              obtain ⟨v9, h8, Hc, H⟩ := j_b2_some H
              refine jr_callV (ci := 11) [.int x1, .int x3, .int 0] my_X11_differBy mv_X11_differBy ml_RX11_330 dX11_near_41 rfl rfl (Nat.le_of_ble_eq_true rfl) rfl (c_X11_differBy l d F x0 x1 x3 0 h v9 h8 Hc) ?_
              refine jr_aload_n dX11_near_44 rfl rfl ?_
              refine jr_iload_n dX11_near_45 rfl rfl ?_
              refine jr_iload_n dX11_near_46 rfl rfl ?_
              refine jr_iconst (v := 0) dX11_near_47 (by decide) ?_
              obtain ⟨v11, h10, Hc, H⟩ := j_b2_some H
              refine jr_callV (ci := 11) [.int x1, .int x2, .int 0] my_X11_differBy mv_X11_differBy ml_RX11_330 dX11_near_48 rfl rfl (Nat.le_of_ble_eq_true rfl) rfl (c_X11_differBy l d F x0 x1 x2 0 h8 v11 h10 Hc) ?_
              refine jr_icmp_ge (tgt := 56) dX11_near_51 (by decide) H (fun H => ?_) (fun H => ?_)
              · exact hJ56 _ _ H
              · refine jr_fgt 2 ?_
                exact hJ54 _ H
set_option maxRecDepth 100000 in
set_option maxHeartbeats 4000000 in
theorem c_X11_near (l : Launch) (d : Nat) (F : Nat) (a0 : Nat) (a1 : Int32) (h : jH) (rR : Int32) (hf : jH) (H : f_X11_near F a0 a1 h = some (rR, hf)) : jh_sh h a0 = (11, 0) ∧ jMet l (d + 3) yX11_near cX11_near 4 (some .int) [.ref a0, .int a1] h (some (.int rR)) hf := by
  unfold f_X11_near at H
  obtain ⟨hsh, H⟩ := j_gd_some H
  refine ⟨hsh, ?_⟩
  refine jMet.of false [some (.ref a0), some (.int a1), none, none] rfl (by decide) (by decide) (Nat.le_of_ble_eq_true rfl) (fun S0 q hq => by simpa [j_l, lv_args, j_v, Value.category] using hq) ?_
  refine jr_aload_n dX11_near_0 rfl rfl ?_
  refine jr_iconst (v := 0) dX11_near_1 (by decide) ?_
  refine jr_putI fl_RX11_110 (fun z => by cases z) dX11_near_2 H (fun h1 H => ?_)
  refine jr_aload_n dX11_near_5 rfl rfl ?_
  refine jr_iload_n dX11_near_6 rfl rfl ?_
  obtain ⟨v3, h2, Hc, H⟩ := j_b2_some H
  refine jr_callV (ci := 11) [.int a1] my_X11_isWord mv_X11_isWord ml_RX11_241 dX11_near_7 rfl rfl (Nat.le_of_ble_eq_true rfl) rfl (c_X11_isWord l (d + 1) F a0 a1 h1 v3 h2 Hc) ?_
  refine jr_if_ne (tgt := 15) dX11_near_10 (by decide) H (fun H => ?_) (fun H => ?_)
  · refine jr_iconst (v := (-1)) dX11_near_13 (by decide) ?_
    exact jr_iret rfl dX11_near_14 H
  · refine jr_iconst (v := (-1)) dX11_near_15 (by decide) ?_
    refine jr_istore_n dX11_near_16 rfl (by decide) rfl (Or.inl rfl) ?_
    refine jr_iconst (v := 0) dX11_near_17 (by decide) ?_
    refine jr_istore_n dX11_near_18 rfl (by decide) rfl (Or.inl rfl) ?_
    refine s_X11_near_L19 l d F a0 a1 _ (fun y12 h13 H => ?_) F (-1) 0 h2 H
    · refine jr_iload_n dX11_near_62 rfl rfl ?_
      refine jr_iconst (v := (-1)) dX11_near_63 (by decide) ?_
      refine jr_icmp_ne (tgt := 70) dX11_near_64 (by decide) H (fun H => ?_) (fun H => ?_)
      · refine jr_bipush (v := (-2)) dX11_near_67 (by decide) ?_
        exact jr_iret rfl dX11_near_69 H
      · refine jr_aload_n dX11_near_70 rfl rfl ?_
        refine jr_iconst (v := 0) dX11_near_71 (by decide) ?_
        refine jr_putI fl_RX11_113 (fun z => by cases z) dX11_near_72 H (fun h14 H => ?_)
        refine jr_aload_n dX11_near_75 rfl rfl ?_
        refine jr_aload_n dX11_near_76 rfl rfl ?_
        refine jr_iload_n dX11_near_77 rfl rfl ?_
        refine jr_iload_n dX11_near_78 rfl rfl ?_
        refine jr_iconst (v := 0) dX11_near_79 (by decide) ?_
        obtain ⟨v16, h15, Hc, H⟩ := j_b2_some H
        refine jr_callV (ci := 11) [.int a1, .int y12, .int 0] my_X11_differBy mv_X11_differBy ml_RX11_330 dX11_near_80 rfl rfl (Nat.le_of_ble_eq_true rfl) rfl (c_X11_differBy l d F a0 a1 y12 0 h14 v16 h15 Hc) ?_
        refine jr_i2l dX11_near_83 ?_
        obtain ⟨h17, Hc, H⟩ := Option.bind_eq_some_iff.mp H
        refine jr_callV (ci := 11) [.long (v16.toInt64)] my_X11_tell mv_X11_tell ml_RX11_274 dX11_near_84 rfl rfl (Nat.le_of_ble_eq_true rfl) rfl (c_X11_tell l (d + 2) F a0 (v16.toInt64) h15 h17 Hc) ?_
        refine jr_aload_n dX11_near_87 rfl rfl ?_
        refine jr_aload_n dX11_near_88 rfl rfl ?_
        refine jr_iload_n dX11_near_89 rfl rfl ?_
        refine jr_iload_n dX11_near_90 rfl rfl ?_
        obtain ⟨v19, h18, Hc, H⟩ := j_b2_some H
        refine jr_callV (ci := 11) [.int a1, .int y12] my_X11_share mv_X11_share ml_RX11_334 dX11_near_91 rfl rfl (Nat.le_of_ble_eq_true rfl) rfl (c_X11_share l (d + 1) F a0 a1 y12 h17 v19 h18 Hc) ?_
        refine jr_jn (fun J => ∀ (s20 : Int64) (s21 : Nat) (h22 : jH), J s20 s21 h22 = some (rR, hf) → jGo l (d + 3) none RX11 cX11_near 4 (some .int) false 102 [none, none, some (.int y12), none] [.long s20, .ref s21] h22 (some (.int rR)) hf) H (fun s20 s21 h22 H => ?_) (fun J102 hJ102 H => ?_)
        · obtain ⟨h23, Hc, H⟩ := Option.bind_eq_some_iff.mp H
          refine jr_callV (ci := 11) [.long s20] my_X11_tell mv_X11_tell ml_RX11_274 dX11_near_102 rfl rfl (Nat.le_of_ble_eq_true rfl) rfl (c_X11_tell l (d + 2) F s21 s20 h22 h23 Hc) ?_
          refine jr_iload_n dX11_near_105 rfl rfl ?_
          exact jr_iret rfl dX11_near_106 H
        · refine jr_if_eq (tgt := 101) dX11_near_94 (by decide) H (fun H => ?_) (fun H => ?_)
          · refine jr_lconst (v := 0) dX11_near_101 (by decide) ?_
            refine jr_fgt 0 ?_
            refine jr_fgt 1 ?_
            exact hJ102 _ _ _ H
          · refine jr_lconst (v := 1) dX11_near_97 (by decide) ?_
            refine jr_goto (tgt := 102) dX11_near_98 (by decide) ?_
            refine jr_fgt 0 ?_
            refine jr_fgt 1 ?_
            exact hJ102 _ _ _ H
set_option maxRecDepth 100000 in
set_option maxHeartbeats 4000000 in
theorem c_b_X11_common (l : Launch) (d : Nat) (F : Nat) (rec : Int64 → Int64 → jH → Option (Int64 × jH)) (hrec : (∀ (a0 : Int64) (a1 : Int64) (h : jH) (rv : Int64) (hv : jH), rec a0 a1 h = some (rv, hv) → jMet l (d + 0) yX11_common cX11_common 4 (some .long) [.long a0, .long a1] h (some (.long rv)) hv)) (a0 : Int64) (a1 : Int64) (h : jH) (rR : Int64) (hf : jH) (H : b_X11_common F rec a0 a1 h = some (rR, hf)) : jMet l (d + 1) yX11_common cX11_common 4 (some .long) [.long a0, .long a1] h (some (.long rR)) hf := by
  unfold b_X11_common at H
  refine jMet.of false [some (.long a0), none, some (.long a1), none] rfl (by decide) (by decide) (Nat.le_of_ble_eq_true rfl) (fun S0 q hq => by simpa [j_l, lv_args, j_v, Value.category] using hq) ?_
  refine jr_lload_n dX11_common_0 rfl rfl ?_
  refine jr_lconst (v := 0) dX11_common_1 (by decide) ?_
  refine jr_lcmp dX11_common_2 ?_
  refine jr_if_ne (tgt := 10) dX11_common_3 (by decide) H (fun H => ?_) (fun H => ?_)
  · refine jr_lload_n dX11_common_6 rfl rfl ?_
    refine jr_goto (tgt := 17) dX11_common_7 (by decide) ?_
    exact jr_lret rfl dX11_common_17 H
  · refine jr_lload_n dX11_common_10 rfl rfl ?_
    refine jr_lload_n dX11_common_11 rfl rfl ?_
    refine jr_lload_n dX11_common_12 rfl rfl ?_
    refine jr_lrem dX11_common_13 H (fun v1 H => ?_)
    obtain ⟨v3, h2, Hc, H⟩ := j_b2_some H
    refine jr_callS [.long a1, .long v1] my_X11_common ms_X11_common ml_RX11_337 dX11_common_14 rfl rfl (Nat.le_of_ble_eq_true rfl) (hrec a1 v1 h v3 h2 Hc) ?_
    exact jr_lret rfl dX11_common_17 H
theorem c_gC (l : Launch) (d : Nat) (F : Nat) : ∀ n : Nat, (∀ (a0 : Int64) (a1 : Int64) (h : jH) (rv : Int64) (hv : jH), f_gC F n a0 a1 h = some (rv, hv) → jMet l (d + n + 0) yX11_common cX11_common 4 (some .long) [.long a0, .long a1] h (some (.long rv)) hv) := by
  intro n
  induction n with
  | zero => exact fun a0 a1 h rv hv H => (by cases H)
  | succ n ih => exact fun a0 a1 h rv hv H => j_depS (by omega) (c_b_X11_common l (d + n) F (f_gC F n) ih a0 a1 h rv hv H)
theorem c_X11_common (l : Launch) (d : Nat) (F : Nat) (a0 : Int64) (a1 : Int64) (h : jH) (rR : Int64) (hf : jH) (H : f_X11_common F a0 a1 h = some (rR, hf)) : jMet l (d + 200) yX11_common cX11_common 4 (some .long) [.long a0, .long a1] h (some (.long rR)) hf := j_depS (by omega) ((c_gC l d F 200) a0 a1 h rR hf H)
set_option maxRecDepth 100000 in
set_option maxHeartbeats 4000000 in
theorem s_X11_power_L5 (l : Launch) (d : Nat) (F : Nat) (x0 : Int64) (x2 : Int32) {rR : Int64} {hf : jH} : ∀ (n : Nat) (x3 : Int64) (x5 : Int32) (h : jH), f_X11_power_L5 F x0 x2 n x3 x5 h = some (rR, hf) → jGo l (d + 0) none RX11 cX11_power 6 (some .long) false 5 [some (.long x0), none, some (.int x2), some (.long x3), none, some (.int x5)] [] h (some (.long rR)) hf := by
  intro n
  induction n with
  | zero =>
    intro x3 x5 h H
    cases H
  | succ n ih =>
    intro x3 x5 h H
    unfold f_X11_power_L5 at H
    refine jr_iload dX11_power_5 rfl ?_
    refine jr_iload_n dX11_power_7 rfl rfl ?_
    refine jr_icmp_ge (tgt := 21) dX11_power_8 (by decide) H (fun H => ?_) (fun H => ?_)
    · refine jr_lload_n dX11_power_21 rfl rfl ?_
      exact jr_lret rfl dX11_power_22 H
    · refine jr_lload_n dX11_power_11 rfl rfl ?_
      refine jr_lload_n dX11_power_12 rfl rfl ?_
      refine jr_lmul dX11_power_13 ?_
      refine jr_lstore_n dX11_power_14 rfl (by decide) rfl (Or.inl rfl) ?_
      refine jr_iinc (v := (x5 + 1)) dX11_power_15 rfl rfl (by decide) rfl (Or.inl rfl) ?_
      refine jr_goto (tgt := 5) dX11_power_18 (by decide) ?_
      exact ih _ _ _ H
set_option maxRecDepth 100000 in
set_option maxHeartbeats 4000000 in
theorem c_X11_power (l : Launch) (d : Nat) (F : Nat) (a0 : Int64) (a1 : Int32) (h : jH) (rR : Int64) (hf : jH) (H : f_X11_power F a0 a1 h = some (rR, hf)) : jMet l (d + 0) yX11_power cX11_power 6 (some .long) [.long a0, .int a1] h (some (.long rR)) hf := by
  unfold f_X11_power at H
  refine jMet.of false [some (.long a0), none, some (.int a1), none, none, none] rfl (by decide) (by decide) (Nat.le_of_ble_eq_true rfl) (fun S0 q hq => by simpa [j_l, lv_args, j_v, Value.category] using hq) ?_
  refine jr_lconst (v := 1) dX11_power_0 (by decide) ?_
  refine jr_lstore_n dX11_power_1 rfl (by decide) rfl (Or.inl rfl) ?_
  refine jr_iconst (v := 0) dX11_power_2 (by decide) ?_
  refine jr_istore dX11_power_3 (by decide) rfl (Or.inl rfl) ?_
  exact s_X11_power_L5 l d F a0 a1 F 1 0 h H
set_option maxRecDepth 100000 in
set_option maxHeartbeats 4000000 in
theorem s_X11_heard_L43 (l : Launch) (d : Nat) (F : Nat) (x0 : Nat) (x1 : Int32) (x2 : Int32) (x3 : Int32) (k118 : Int64 → jH → Option (Int32 × jH)) {rR : Int32} {hf : jH} (hk118 : ∀ (y4 : Int64) (h : jH), k118 y4 h = some (rR, hf) → jGo l (d + 201) none RX11 cX11_heard 12 (some .int) false 118 [some (.ref x0), some (.int x1), none, none, some (.long y4), none, none, none, none, none, none, none] [] h (some (.int rR)) hf) : ∀ (n : Nat) (x4 : Int64) (x6 : Int64) (x8 : Int32) (h : jH), f_X11_heard_L43 F x0 x1 x2 x3 k118 n x4 x6 x8 h = some (rR, hf) → jGo l (d + 201) none RX11 cX11_heard 12 (some .int) false 43 [some (.ref x0), some (.int x1), some (.int x2), some (.int x3), some (.long x4), none, some (.long x6), none, some (.int x8), none, none, none] [] h (some (.int rR)) hf := by
  intro n
  induction n with
  | zero =>
    intro x4 x6 x8 h H
    cases H
  | succ n ih =>
    intro x4 x6 x8 h H
    unfold f_X11_heard_L43 at H
    refine jr_iload dX11_heard_43 rfl ?_
    refine jr_iload_n dX11_heard_45 rfl rfl ?_
    refine jr_aload_n dX11_heard_46 rfl rfl ?_
    refine jr_getR fl_RX11_21 dX11_heard_47 H (fun v8 H => ?_)
    refine jr_iload_n dX11_heard_50 rfl rfl ?_
    refine jr_iald dX11_heard_51 H (fun v9 H => ?_)
    refine jr_mmin ml_RX11_226 mm_mmin_s mm_i mm_mmin_c dX11_heard_52 (Nat.le_of_ble_eq_true rfl) ?_
    refine jr_icmp_gt (tgt := 118) dX11_heard_55 (by decide) H (fun H => ?_) (fun H => ?_)
    · refine jr_fgt 2 ?_
      refine jr_fgt 3 ?_
      refine jr_fgt 6 ?_
      refine jr_fgt 8 ?_
      exact hk118 _ _ H
    · refine jr_lload dX11_heard_58 rfl ?_
      refine jr_lload dX11_heard_60 rfl ?_
      refine jr_bipush (v := 10) dX11_heard_62 (by decide) ?_
      refine jr_iload_n dX11_heard_64 rfl rfl ?_
      refine jr_isub dX11_heard_65 ?_
      refine jr_i2l dX11_heard_66 ?_
      refine jr_iload dX11_heard_67 rfl ?_
      obtain ⟨v11, h10, Hc, H⟩ := j_b2_some H
      refine jr_callS [.long (((10 : Int32) - x2).toInt64), .int x8] my_X11_power ms_X11_power ml_RX11_341 dX11_heard_69 rfl rfl (Nat.le_of_ble_eq_true rfl) (c_X11_power l (d + 200) F (((10 : Int32) - x2).toInt64) x8 h v11 h10 Hc) ?_
      refine jr_lmul dX11_heard_72 ?_
      refine jr_iload_n dX11_heard_73 rfl rfl ?_
      refine jr_i2l dX11_heard_74 ?_
      refine jr_aload_n dX11_heard_75 rfl rfl ?_
      refine jr_getR fl_RX11_21 dX11_heard_76 H (fun v12 H => ?_)
      refine jr_iload_n dX11_heard_79 rfl rfl ?_
      refine jr_iald dX11_heard_80 H (fun v13 H => ?_)
      refine jr_iload dX11_heard_81 rfl ?_
      refine jr_isub dX11_heard_83 ?_
      obtain ⟨v15, h14, Hc, H⟩ := j_b2_some H
      refine jr_callS [.long (x2.toInt64), .int (v13 - x8)] my_X11_power ms_X11_power ml_RX11_341 dX11_heard_84 rfl rfl (Nat.le_of_ble_eq_true rfl) (c_X11_power l (d + 200) F (x2.toInt64) (v13 - x8) h10 v15 h14 Hc) ?_
      refine jr_lmul dX11_heard_87 ?_
      refine jr_ladd dX11_heard_88 ?_
      refine jr_lstore dX11_heard_89 (by decide) rfl (Or.inl rfl) ?_
      refine jr_lload dX11_heard_91 rfl ?_
      refine jr_aload_n dX11_heard_93 rfl rfl ?_
      refine jr_getR fl_RX11_21 dX11_heard_94 H (fun v16 H => ?_)
      refine jr_iload_n dX11_heard_97 rfl rfl ?_
      refine jr_iald dX11_heard_98 H (fun v17 H => ?_)
      refine jr_iload dX11_heard_99 rfl ?_
      refine jr_isub dX11_heard_101 ?_
      refine jr_i2l dX11_heard_102 ?_
      refine jr_lmul dX11_heard_103 ?_
      refine jr_iload dX11_heard_104 rfl ?_
      refine jr_iconst (v := 1) dX11_heard_106 (by decide) ?_
      refine jr_iadd dX11_heard_107 ?_
      refine jr_i2l dX11_heard_108 ?_
      refine jr_ldiv dX11_heard_109 H (fun v18 H => ?_)
      refine jr_lstore dX11_heard_110 (by decide) rfl (Or.inl rfl) ?_
      refine jr_iinc (v := (x8 + 1)) dX11_heard_112 rfl rfl (by decide) rfl (Or.inl rfl) ?_
      refine jr_goto (tgt := 43) dX11_heard_115 (by decide) ?_
      exact ih _ _ _ _ H
set_option maxRecDepth 100000 in
set_option maxHeartbeats 4000000 in
theorem c_X11_heard (l : Launch) (d : Nat) (F : Nat) (a0 : Nat) (a1 : Int32) (a2 : Int32) (a3 : Int32) (h : jH) (rR : Int32) (hf : jH) (H : f_X11_heard F a0 a1 a2 a3 h = some (rR, hf)) : jh_sh h a0 = (11, 0) ∧ jMet l (d + 201) yX11_heard cX11_heard 12 (some .int) [.ref a0, .int a1, .int a2, .int a3] h (some (.int rR)) hf := by
  unfold f_X11_heard at H
  obtain ⟨hsh, H⟩ := j_gd_some H
  refine ⟨hsh, ?_⟩
  refine jMet.of false [some (.ref a0), some (.int a1), some (.int a2), some (.int a3), none, none, none, none, none, none, none, none] rfl (by decide) (by decide) (Nat.le_of_ble_eq_true rfl) (fun S0 q hq => by simpa [j_l, lv_args, j_v, Value.category] using hq) ?_
  refine jr_aload_n dX11_heard_0 rfl rfl ?_
  refine jr_iconst (v := 0) dX11_heard_1 (by decide) ?_
  refine jr_putI fl_RX11_110 (fun z => by cases z) dX11_heard_2 H (fun h1 H => ?_)
  refine jr_aload_n dX11_heard_5 rfl rfl ?_
  refine jr_iload_n dX11_heard_6 rfl rfl ?_
  obtain ⟨v3, h2, Hc, H⟩ := j_b2_some H
  refine jr_callV (ci := 11) [.int a1] my_X11_isWord mv_X11_isWord ml_RX11_241 dX11_heard_7 rfl rfl (Nat.le_of_ble_eq_true rfl) rfl (c_X11_isWord l (d + 199) F a0 a1 h1 v3 h2 Hc) ?_
  refine jr_if_eq (tgt := 32) dX11_heard_10 (by decide) H (fun H => ?_) (fun H => ?_)
  · refine jr_iconst (v := (-1)) dX11_heard_32 (by decide) ?_
    exact jr_iret rfl dX11_heard_33 H
  · refine jr_iload_n dX11_heard_13 rfl rfl ?_
    refine jr_iconst (v := 0) dX11_heard_14 (by decide) ?_
    refine jr_bipush (v := 10) dX11_heard_15 (by decide) ?_
    obtain ⟨v5, h4, Hc, H⟩ := j_b2_some H
    refine jr_callS [.int a2, .int 0, .int 10] my_X11_in ms_X11_in ml_RX11_116 dX11_heard_17 rfl rfl (Nat.le_of_ble_eq_true rfl) (c_X11_in l (d + 200) F a2 0 10 h2 v5 h4 Hc) ?_
    refine jr_if_eq (tgt := 32) dX11_heard_20 (by decide) H (fun H => ?_) (fun H => ?_)
    · refine jr_iconst (v := (-1)) dX11_heard_32 (by decide) ?_
      exact jr_iret rfl dX11_heard_33 H
    · refine jr_iload_n dX11_heard_23 rfl rfl ?_
      refine jr_iconst (v := 0) dX11_heard_24 (by decide) ?_
      refine jr_iconst (v := 2) dX11_heard_25 (by decide) ?_
      obtain ⟨v7, h6, Hc, H⟩ := j_b2_some H
      refine jr_callS [.int a3, .int 0, .int 2] my_X11_in ms_X11_in ml_RX11_116 dX11_heard_26 rfl rfl (Nat.le_of_ble_eq_true rfl) (c_X11_in l (d + 200) F a3 0 2 h4 v7 h6 Hc) ?_
      refine jr_if_ne (tgt := 34) dX11_heard_29 (by decide) H (fun H => ?_) (fun H => ?_)
      · refine jr_iconst (v := (-1)) dX11_heard_32 (by decide) ?_
        exact jr_iret rfl dX11_heard_33 H
      · refine jr_lconst (v := 0) dX11_heard_34 (by decide) ?_
        refine jr_lstore dX11_heard_35 (by decide) rfl (Or.inl rfl) ?_
        refine jr_lconst (v := 1) dX11_heard_37 (by decide) ?_
        refine jr_lstore dX11_heard_38 (by decide) rfl (Or.inl rfl) ?_
        refine jr_iconst (v := 0) dX11_heard_40 (by decide) ?_
        refine jr_istore dX11_heard_41 (by decide) rfl (Or.inl rfl) ?_
        refine s_X11_heard_L43 l d F a0 a1 a2 a3 _ (fun y19 h20 H => ?_) F 0 1 0 h6 H
        · refine jr_ldc2 cn_RX11_345 dX11_heard_118 ?_
          refine jr_aload_n dX11_heard_121 rfl rfl ?_
          refine jr_getR fl_RX11_21 dX11_heard_122 H (fun v21 H => ?_)
          refine jr_iload_n dX11_heard_125 rfl rfl ?_
          refine jr_iald dX11_heard_126 H (fun v22 H => ?_)
          obtain ⟨v24, h23, Hc, H⟩ := j_b2_some H
          refine jr_callS [.long 10, .int v22] my_X11_power ms_X11_power ml_RX11_341 dX11_heard_127 rfl rfl (Nat.le_of_ble_eq_true rfl) (c_X11_power l (d + 200) F 10 v22 h20 v24 h23 Hc) ?_
          refine jr_lstore dX11_heard_130 (by decide) rfl (Or.inl rfl) ?_
          refine jr_lload dX11_heard_132 rfl ?_
          refine jr_lload dX11_heard_134 rfl ?_
          obtain ⟨v26, h25, Hc, H⟩ := j_b2_some H
          refine jr_callS [.long y19, .long v24] my_X11_common ms_X11_common ml_RX11_337 dX11_heard_136 rfl rfl (Nat.le_of_ble_eq_true rfl) (c_X11_common l d F y19 v24 h23 v26 h25 Hc) ?_
          refine jr_lstore dX11_heard_139 (by decide) rfl (Or.inl rfl) ?_
          refine jr_aload_n dX11_heard_141 rfl rfl ?_
          refine jr_iconst (v := 0) dX11_heard_142 (by decide) ?_
          refine jr_putI fl_RX11_113 (fun z => by cases z) dX11_heard_143 H (fun h27 H => ?_)
          refine jr_aload_n dX11_heard_146 rfl rfl ?_
          refine jr_lload dX11_heard_147 rfl ?_
          refine jr_lload dX11_heard_149 rfl ?_
          refine jr_ldiv dX11_heard_151 H (fun v28 H => ?_)
          obtain ⟨h29, Hc, H⟩ := Option.bind_eq_some_iff.mp H
          refine jr_callV (ci := 11) [.long v28] my_X11_tell mv_X11_tell ml_RX11_274 dX11_heard_152 rfl rfl (Nat.le_of_ble_eq_true rfl) rfl (c_X11_tell l (d + 200) F a0 v28 h27 h29 Hc) ?_
          refine jr_aload_n dX11_heard_155 rfl rfl ?_
          refine jr_lload dX11_heard_156 rfl ?_
          refine jr_lload dX11_heard_158 rfl ?_
          refine jr_ldiv dX11_heard_160 H (fun v30 H => ?_)
          obtain ⟨h31, Hc, H⟩ := Option.bind_eq_some_iff.mp H
          refine jr_callV (ci := 11) [.long v30] my_X11_tell mv_X11_tell ml_RX11_274 dX11_heard_161 rfl rfl (Nat.le_of_ble_eq_true rfl) rfl (c_X11_tell l (d + 200) F a0 v30 h29 h31 Hc) ?_
          refine jr_iconst (v := 0) dX11_heard_164 (by decide) ?_
          exact jr_iret rfl dX11_heard_165 H
set_option maxRecDepth 100000 in
set_option maxHeartbeats 4000000 in
theorem s_X11_areApart_L13 (l : Launch) (d : Nat) (F : Nat) (x0 : Nat) (x1 : Int32) (x2 : Int32) (x3 : Int32) (k56 : jH → Option (Int32 × jH)) {rR : Int32} {hf : jH} (hk56 : ∀ (h : jH), k56 h = some (rR, hf) → jGo l (d + 3) none RX11 cX11_areApart 5 (some .boolean) false 56 [some (.ref x0), some (.int x1), some (.int x2), some (.int x3), none] [] h (some (.int rR)) hf) : ∀ (n : Nat) (x4 : Int32) (h : jH), f_X11_areApart_L13 F x0 x1 x2 x3 k56 n x4 h = some (rR, hf) → jGo l (d + 3) none RX11 cX11_areApart 5 (some .boolean) false 13 [some (.ref x0), some (.int x1), some (.int x2), some (.int x3), some (.int x4)] [] h (some (.int rR)) hf := by
  intro n
  induction n with
  | zero =>
    intro x4 h H
    cases H
  | succ n ih =>
    intro x4 h H
    unfold f_X11_areApart_L13 at H
    refine jr_iload dX11_areApart_13 rfl ?_
    refine jr_iload_n dX11_areApart_15 rfl rfl ?_
    refine jr_icmp_ge (tgt := 56) dX11_areApart_16 (by decide) H (fun H => ?_) (fun H => ?_)
    · refine jr_fgt 4 ?_
      exact hk56 _ H
    · refine jr_iload_n dX11_areApart_19 rfl rfl ?_
      refine jr_iload_n dX11_areApart_20 rfl rfl ?_
      obtain ⟨v3, h2, Hc, H⟩ := j_b2_some H
      refine jr_callS [.int x1, .int x3] my_X11_has ms_X11_has ml_RX11_254 dX11_areApart_21 rfl rfl (Nat.le_of_ble_eq_true rfl) (c_X11_has l (d + 2) F x1 x3 h v3 h2 Hc) ?_
      refine jr_jn (fun J => ∀ (h4 : jH), J h4 = some (rR, hf) → jGo l (d + 3) none RX11 cX11_areApart 5 (some .boolean) false 50 [some (.ref x0), some (.int x1), some (.int x2), some (.int x3), some (.int x4)] [] h4 (some (.int rR)) hf) H (fun h4 H => ?_) (fun J50 hJ50 H => ?_)
      · refine jr_iinc (v := (x4 + 1)) dX11_areApart_50 rfl rfl (by decide) rfl (Or.inl rfl) ?_
        refine jr_goto (tgt := 13) dX11_areApart_53 (by decide) ?_
        exact ih _ _ H
      · refine jr_if_eq (tgt := 50) dX11_areApart_24 (by decide) H (fun H => ?_) (fun H => ?_)
        · exact hJ50 _ H
        · refine jr_iload_n dX11_areApart_27 rfl rfl ?_
          refine jr_iload dX11_areApart_28 rfl ?_
          obtain ⟨v6, h5, Hc, H⟩ := j_b2_some H
          refine jr_callS [.int x1, .int x4] my_X11_has ms_X11_has ml_RX11_254 dX11_areApart_30 rfl rfl (Nat.le_of_ble_eq_true rfl) (c_X11_has l (d + 2) F x1 x4 h2 v6 h5 Hc) ?_
          refine jr_if_eq (tgt := 50) dX11_areApart_33 (by decide) H (fun H => ?_) (fun H => ?_)
          · exact hJ50 _ H
          · refine jr_aload_n dX11_areApart_36 rfl rfl ?_
            refine jr_iload_n dX11_areApart_37 rfl rfl ?_
            refine jr_iload dX11_areApart_38 rfl ?_
            refine jr_iconst (v := 0) dX11_areApart_40 (by decide) ?_
            obtain ⟨v8, h7, Hc, H⟩ := j_b2_some H
            refine jr_callV (ci := 11) [.int x3, .int x4, .int 0] my_X11_differBy mv_X11_differBy ml_RX11_330 dX11_areApart_41 rfl rfl (Nat.le_of_ble_eq_true rfl) rfl (c_X11_differBy l d F x0 x3 x4 0 h5 v8 h7 Hc) ?_
            refine jr_iload_n dX11_areApart_44 rfl rfl ?_
            refine jr_icmp_ge (tgt := 50) dX11_areApart_45 (by decide) H (fun H => ?_) (fun H => ?_)
            · exact hJ50 _ H
            · refine jr_iconst (v := 0) dX11_areApart_48 (by decide) ?_
              exact jr_zret rfl rfl dX11_areApart_49 H
set_option maxRecDepth 100000 in
set_option maxHeartbeats 4000000 in
theorem s_X11_areApart_L2 (l : Launch) (d : Nat) (F : Nat) (x0 : Nat) (x1 : Int32) (x2 : Int32) {rR : Int32} {hf : jH} : ∀ (n : Nat) (x3 : Int32) (h : jH), f_X11_areApart_L2 F x0 x1 x2 n x3 h = some (rR, hf) → jGo l (d + 3) none RX11 cX11_areApart 5 (some .boolean) false 2 [some (.ref x0), some (.int x1), some (.int x2), some (.int x3), none] [] h (some (.int rR)) hf := by
  intro n
  induction n with
  | zero =>
    intro x3 h H
    cases H
  | succ n ih =>
    intro x3 h H
    unfold f_X11_areApart_L2 at H
    refine jr_iload_n dX11_areApart_2 rfl rfl ?_
    refine jr_aload_n dX11_areApart_3 rfl rfl ?_
    refine jr_getI fl_RX11_120 (by decide) dX11_areApart_4 H (fun v1 H => ?_)
    refine jr_icmp_ge (tgt := 62) dX11_areApart_7 (by decide) H (fun H => ?_) (fun H => ?_)
    · refine jr_iconst (v := 1) dX11_areApart_62 (by decide) ?_
      exact jr_zret rfl rfl dX11_areApart_63 H
    · refine jr_iconst (v := 0) dX11_areApart_10 (by decide) ?_
      refine jr_istore dX11_areApart_11 (by decide) rfl (Or.inl rfl) ?_
      refine s_X11_areApart_L13 l d F x0 x1 x2 x3 _ (fun h9 H => ?_) F 0 h H
      · refine jr_iinc (v := (x3 + 1)) dX11_areApart_56 rfl rfl (by decide) rfl (Or.inl rfl) ?_
        refine jr_goto (tgt := 2) dX11_areApart_59 (by decide) ?_
        exact ih _ _ H
set_option maxRecDepth 100000 in
set_option maxHeartbeats 4000000 in
theorem c_X11_areApart (l : Launch) (d : Nat) (F : Nat) (a0 : Nat) (a1 : Int32) (a2 : Int32) (h : jH) (rR : Int32) (hf : jH) (H : f_X11_areApart F a0 a1 a2 h = some (rR, hf)) : jh_sh h a0 = (11, 0) ∧ jMet l (d + 3) yX11_areApart cX11_areApart 5 (some .boolean) [.ref a0, .int a1, .int a2] h (some (.int rR)) hf := by
  unfold f_X11_areApart at H
  obtain ⟨hsh, H⟩ := j_gd_some H
  refine ⟨hsh, ?_⟩
  refine jMet.of false [some (.ref a0), some (.int a1), some (.int a2), none, none] rfl (by decide) (by decide) (Nat.le_of_ble_eq_true rfl) (fun S0 q hq => by simpa [j_l, lv_args, j_v, Value.category] using hq) ?_
  refine jr_iconst (v := 0) dX11_areApart_0 (by decide) ?_
  refine jr_istore_n dX11_areApart_1 rfl (by decide) rfl (Or.inl rfl) ?_
  exact s_X11_areApart_L2 l d F a0 a1 a2 F 0 h H
set_option maxRecDepth 100000 in
set_option maxHeartbeats 4000000 in
theorem s_X11_tollsOf_L5 (l : Launch) (d : Nat) (F : Nat) (x0 : Nat) (x1 : Int32) (x2 : Int32) {rR : Int32} {hf : jH} : ∀ (n : Nat) (x3 : Int32) (x4 : Int32) (h : jH), f_X11_tollsOf_L5 F x0 x1 x2 n x3 x4 h = some (rR, hf) → jGo l (d + 406) none RX11 cX11_tollsOf 5 (some .int) false 5 [some (.ref x0), some (.int x1), some (.int x2), some (.int x3), some (.int x4)] [] h (some (.int rR)) hf := by
  intro n
  induction n with
  | zero =>
    intro x3 x4 h H
    cases H
  | succ n ih =>
    intro x3 x4 h H
    unfold f_X11_tollsOf_L5 at H
    refine jr_iload dX11_tollsOf_5 rfl ?_
    refine jr_aload_n dX11_tollsOf_7 rfl rfl ?_
    refine jr_getI fl_RX11_120 (by decide) dX11_tollsOf_8 H (fun v1 H => ?_)
    refine jr_icmp_ge (tgt := 43) dX11_tollsOf_11 (by decide) H (fun H => ?_) (fun H => ?_)
    · refine jr_iload_n dX11_tollsOf_43 rfl rfl ?_
      exact jr_iret rfl dX11_tollsOf_44 H
    · refine jr_iload_n dX11_tollsOf_14 rfl rfl ?_
      refine jr_iload_n dX11_tollsOf_15 rfl rfl ?_
      refine jr_iload dX11_tollsOf_16 rfl ?_
      obtain ⟨v3, h2, Hc, H⟩ := j_b2_some H
      refine jr_callS [.int x1, .int x4] my_X11_has ms_X11_has ml_RX11_254 dX11_tollsOf_18 rfl rfl (Nat.le_of_ble_eq_true rfl) (c_X11_has l (d + 405) F x1 x4 h v3 h2 Hc) ?_
      refine jr_jn (fun J => ∀ (s4 : Int32) (s5 : Int32) (h6 : jH), J s4 s5 h6 = some (rR, hf) → jGo l (d + 406) none RX11 cX11_tollsOf 5 (some .int) false 35 [some (.ref x0), some (.int x1), some (.int x2), none, some (.int x4)] [.int s4, .int s5] h6 (some (.int rR)) hf) H (fun s4 s5 h6 H => ?_) (fun J35 hJ35 H => ?_)
      · refine jr_iadd dX11_tollsOf_35 ?_
        refine jr_istore_n dX11_tollsOf_36 rfl (by decide) rfl (Or.inl rfl) ?_
        refine jr_iinc (v := (x4 + 1)) dX11_tollsOf_37 rfl rfl (by decide) rfl (Or.inl rfl) ?_
        refine jr_goto (tgt := 5) dX11_tollsOf_40 (by decide) ?_
        exact ih _ _ _ H
      · refine jr_if_eq (tgt := 34) dX11_tollsOf_21 (by decide) H (fun H => ?_) (fun H => ?_)
        · refine jr_iconst (v := 0) dX11_tollsOf_34 (by decide) ?_
          refine jr_fgt 3 ?_
          exact hJ35 _ _ _ H
        · refine jr_aload_n dX11_tollsOf_24 rfl rfl ?_
          refine jr_iload dX11_tollsOf_25 rfl ?_
          refine jr_iload_n dX11_tollsOf_27 rfl rfl ?_
          obtain ⟨v8, h7, Hc, H⟩ := j_b2_some H
          refine jr_callV (ci := 11) [.int x4, .int x2] my_X11_tollNow mv_X11_tollNow ml_RX11_271 dX11_tollsOf_28 rfl rfl (Nat.le_of_ble_eq_true rfl) rfl (c_X11_tollNow l d F x0 x4 x2 h2 v8 h7 Hc) ?_
          refine jr_goto (tgt := 35) dX11_tollsOf_31 (by decide) ?_
          refine jr_fgt 3 ?_
          exact hJ35 _ _ _ H
set_option maxRecDepth 100000 in
set_option maxHeartbeats 4000000 in
theorem c_X11_tollsOf (l : Launch) (d : Nat) (F : Nat) (a0 : Nat) (a1 : Int32) (a2 : Int32) (h : jH) (rR : Int32) (hf : jH) (H : f_X11_tollsOf F a0 a1 a2 h = some (rR, hf)) : jh_sh h a0 = (11, 0) ∧ jMet l (d + 406) yX11_tollsOf cX11_tollsOf 5 (some .int) [.ref a0, .int a1, .int a2] h (some (.int rR)) hf := by
  unfold f_X11_tollsOf at H
  obtain ⟨hsh, H⟩ := j_gd_some H
  refine ⟨hsh, ?_⟩
  refine jMet.of false [some (.ref a0), some (.int a1), some (.int a2), none, none] rfl (by decide) (by decide) (Nat.le_of_ble_eq_true rfl) (fun S0 q hq => by simpa [j_l, lv_args, j_v, Value.category] using hq) ?_
  refine jr_iconst (v := 0) dX11_tollsOf_0 (by decide) ?_
  refine jr_istore_n dX11_tollsOf_1 rfl (by decide) rfl (Or.inl rfl) ?_
  refine jr_iconst (v := 0) dX11_tollsOf_2 (by decide) ?_
  refine jr_istore dX11_tollsOf_3 (by decide) rfl (Or.inl rfl) ?_
  exact s_X11_tollsOf_L5 l d F a0 a1 a2 F 0 0 h H
set_option maxRecDepth 100000 in
set_option maxHeartbeats 4000000 in
theorem s_X11_code_L21 (l : Launch) (d : Nat) (F : Nat) (x0 : Nat) (x1 : Int32) (k87 : Int32 → jH → Option (Int32 × jH)) {rR : Int32} {hf : jH} (hk87 : ∀ (y2 : Int32) (h : jH), k87 y2 h = some (rR, hf) → jGo l (d + 407) none RX11 cX11_code 5 (some .int) false 87 [some (.ref x0), none, some (.int y2), none, none] [] h (some (.int rR)) hf) : ∀ (n : Nat) (x2 : Int32) (x3 : Int32) (h : jH), f_X11_code_L21 F x0 x1 k87 n x2 x3 h = some (rR, hf) → jGo l (d + 407) none RX11 cX11_code 5 (some .int) false 21 [some (.ref x0), some (.int x1), some (.int x2), some (.int x3), none] [] h (some (.int rR)) hf := by
  intro n
  induction n with
  | zero =>
    intro x2 x3 h H
    cases H
  | succ n ih =>
    intro x2 x3 h H
    unfold f_X11_code_L21 at H
    refine jr_iload_n dX11_code_21 rfl rfl ?_
    refine jr_iconst (v := 1) dX11_code_22 (by decide) ?_
    refine jr_aload_n dX11_code_23 rfl rfl ?_
    refine jr_getI fl_RX11_120 (by decide) dX11_code_24 H (fun v4 H => ?_)
    refine jr_ishl dX11_code_27 ?_
    refine jr_icmp_ge (tgt := 87) dX11_code_28 (by decide) H (fun H => ?_) (fun H => ?_)
    · refine jr_fgt 1 ?_
      refine jr_fgt 3 ?_
      exact hk87 _ _ H
    · refine jr_iload_n dX11_code_31 rfl rfl ?_
      obtain ⟨v6, h5, Hc, H⟩ := j_b2_some H
      refine jr_callS [.int x3] my_J6_bitCount_0f7a4 ms_J6_bitCount_0f7a4 ml_RX11_347 dX11_code_32 rfl rfl (Nat.le_of_ble_eq_true rfl) (c_J6_bitCount_0f7a4 l (d + 406) F x3 h v6 h5 Hc) ?_
      refine jr_iload_n dX11_code_35 rfl rfl ?_
      obtain ⟨v8, h7, Hc, H⟩ := j_b2_some H
      refine jr_callS [.int x2] my_J6_bitCount_0f7a4 ms_J6_bitCount_0f7a4 ml_RX11_347 dX11_code_36 rfl rfl (Nat.le_of_ble_eq_true rfl) (c_J6_bitCount_0f7a4 l (d + 406) F x2 h5 v8 h7 Hc) ?_
      refine jr_isub dX11_code_39 ?_
      refine jr_istore dX11_code_40 (by decide) rfl (Or.inl rfl) ?_
      refine jr_iload dX11_code_42 rfl ?_
      refine jr_jn (fun J => ∀ (z9 : Int32) (h10 : jH), J z9 h10 = some (rR, hf) → jGo l (d + 407) none RX11 cX11_code 5 (some .int) false 81 [some (.ref x0), some (.int x1), some (.int z9), some (.int x3), none] [] h10 (some (.int rR)) hf) H (fun z9 h10 H => ?_) (fun J81 hJ81 H => ?_)
      · refine jr_iinc (v := (x3 + 1)) dX11_code_81 rfl rfl (by decide) rfl (Or.inl rfl) ?_
        refine jr_goto (tgt := 21) dX11_code_84 (by decide) ?_
        exact ih _ _ _ H
      · refine jr_if_lt (tgt := 81) dX11_code_44 (by decide) H (fun H => ?_) (fun H => ?_)
        · refine jr_fgt 4 ?_
          exact hJ81 _ _ H
        · refine jr_iload dX11_code_47 rfl ?_
          refine jr_jn (fun J => ∀ (h11 : jH), J h11 = some (rR, hf) → jGo l (d + 407) none RX11 cX11_code 5 (some .int) false 67 [some (.ref x0), some (.int x1), some (.int x2), some (.int x3), none] [] h11 (some (.int rR)) hf) H (fun h11 H => ?_) (fun J67 hJ67 H => ?_)
          · refine jr_aload_n dX11_code_67 rfl rfl ?_
            refine jr_iload_n dX11_code_68 rfl rfl ?_
            refine jr_iload_n dX11_code_69 rfl rfl ?_
            obtain ⟨v13, h12, Hc, H⟩ := j_b2_some H
            refine jr_callV (ci := 11) [.int x3, .int x1] my_X11_areApart mv_X11_areApart ml_RX11_355 dX11_code_70 rfl rfl (Nat.le_of_ble_eq_true rfl) rfl (c_X11_areApart l (d + 403) F x0 x3 x1 h11 v13 h12 Hc) ?_
            refine jr_if_ne (tgt := 79) dX11_code_73 (by decide) H (fun H => ?_) (fun H => ?_)
            · refine jr_goto (tgt := 81) dX11_code_76 (by decide) ?_
              exact hJ81 _ _ H
            · refine jr_iload_n dX11_code_79 rfl rfl ?_
              refine jr_istore_n dX11_code_80 rfl (by decide) rfl (Or.inl rfl) ?_
              exact hJ81 _ _ H
          · refine jr_if_ne (tgt := 67) dX11_code_49 (by decide) H (fun H => ?_) (fun H => ?_)
            · refine jr_aload_n dX11_code_52 rfl rfl ?_
              refine jr_iload_n dX11_code_53 rfl rfl ?_
              refine jr_iconst (v := 0) dX11_code_54 (by decide) ?_
              obtain ⟨v15, h14, Hc, H⟩ := j_b2_some H
              refine jr_callV (ci := 11) [.int x3, .int 0] my_X11_tollsOf mv_X11_tollsOf ml_RX11_352 dX11_code_55 rfl rfl (Nat.le_of_ble_eq_true rfl) rfl (c_X11_tollsOf l d F x0 x3 0 h7 v15 h14 Hc) ?_
              refine jr_aload_n dX11_code_58 rfl rfl ?_
              refine jr_iload_n dX11_code_59 rfl rfl ?_
              refine jr_iconst (v := 0) dX11_code_60 (by decide) ?_
              obtain ⟨v17, h16, Hc, H⟩ := j_b2_some H
              refine jr_callV (ci := 11) [.int x2, .int 0] my_X11_tollsOf mv_X11_tollsOf ml_RX11_352 dX11_code_61 rfl rfl (Nat.le_of_ble_eq_true rfl) rfl (c_X11_tollsOf l d F x0 x2 0 h14 v17 h16 Hc) ?_
              refine jr_icmp_ge (tgt := 81) dX11_code_64 (by decide) H (fun H => ?_) (fun H => ?_)
              · refine jr_fgt 4 ?_
                exact hJ81 _ _ H
              · refine jr_fgt 4 ?_
                exact hJ67 _ H
            · refine jr_fgt 4 ?_
              exact hJ67 _ H
set_option maxRecDepth 100000 in
set_option maxHeartbeats 4000000 in
theorem c_X11_code (l : Launch) (d : Nat) (F : Nat) (a0 : Nat) (a1 : Int32) (h : jH) (rR : Int32) (hf : jH) (H : f_X11_code F a0 a1 h = some (rR, hf)) : jh_sh h a0 = (11, 0) ∧ jMet l (d + 407) yX11_code cX11_code 5 (some .int) [.ref a0, .int a1] h (some (.int rR)) hf := by
  unfold f_X11_code at H
  obtain ⟨hsh, H⟩ := j_gd_some H
  refine ⟨hsh, ?_⟩
  refine jMet.of false [some (.ref a0), some (.int a1), none, none, none] rfl (by decide) (by decide) (Nat.le_of_ble_eq_true rfl) (fun S0 q hq => by simpa [j_l, lv_args, j_v, Value.category] using hq) ?_
  refine jr_aload_n dX11_code_0 rfl rfl ?_
  refine jr_iconst (v := 0) dX11_code_1 (by decide) ?_
  refine jr_putI fl_RX11_110 (fun z => by cases z) dX11_code_2 H (fun h1 H => ?_)
  refine jr_iload_n dX11_code_5 rfl rfl ?_
  refine jr_iconst (v := 0) dX11_code_6 (by decide) ?_
  refine jr_bipush (v := 6) dX11_code_7 (by decide) ?_
  obtain ⟨v3, h2, Hc, H⟩ := j_b2_some H
  refine jr_callS [.int a1, .int 0, .int 6] my_X11_in ms_X11_in ml_RX11_116 dX11_code_9 rfl rfl (Nat.le_of_ble_eq_true rfl) (c_X11_in l (d + 406) F a1 0 6 h1 v3 h2 Hc) ?_
  refine jr_if_ne (tgt := 17) dX11_code_12 (by decide) H (fun H => ?_) (fun H => ?_)
  · refine jr_iconst (v := (-1)) dX11_code_15 (by decide) ?_
    exact jr_iret rfl dX11_code_16 H
  · refine jr_iconst (v := 0) dX11_code_17 (by decide) ?_
    refine jr_istore_n dX11_code_18 rfl (by decide) rfl (Or.inl rfl) ?_
    refine jr_iconst (v := 1) dX11_code_19 (by decide) ?_
    refine jr_istore_n dX11_code_20 rfl (by decide) rfl (Or.inl rfl) ?_
    refine s_X11_code_L21 l d F a0 a1 _ (fun y18 h19 H => ?_) F 0 1 h2 H
    · refine jr_aload_n dX11_code_87 rfl rfl ?_
      refine jr_iconst (v := 0) dX11_code_88 (by decide) ?_
      refine jr_putI fl_RX11_113 (fun z => by cases z) dX11_code_89 H (fun h20 H => ?_)
      refine jr_aload_n dX11_code_92 rfl rfl ?_
      refine jr_iload_n dX11_code_93 rfl rfl ?_
      refine jr_i2l dX11_code_94 ?_
      obtain ⟨h21, Hc, H⟩ := Option.bind_eq_some_iff.mp H
      refine jr_callV (ci := 11) [.long (y18.toInt64)] my_X11_tell mv_X11_tell ml_RX11_274 dX11_code_95 rfl rfl (Nat.le_of_ble_eq_true rfl) rfl (c_X11_tell l (d + 406) F a0 (y18.toInt64) h20 h21 Hc) ?_
      refine jr_iload_n dX11_code_98 rfl rfl ?_
      obtain ⟨v23, h22, Hc, H⟩ := j_b2_some H
      refine jr_callS [.int y18] my_J6_bitCount_0f7a4 ms_J6_bitCount_0f7a4 ml_RX11_347 dX11_code_99 rfl rfl (Nat.le_of_ble_eq_true rfl) (c_J6_bitCount_0f7a4 l (d + 406) F y18 h21 v23 h22 Hc) ?_
      exact jr_iret rfl dX11_code_102 H
set_option maxRecDepth 100000 in
set_option maxHeartbeats 4000000 in
theorem s_X11_does_L6 (l : Launch) (d : Nat) (F : Nat) (x0 : Nat) (x1 : Int32) (x2 : Int32) (x3 : Int32) {rR : Int32} {hf : jH} : ∀ (n : Nat) (x4 : Int32) (x5 : Int32) (h : jH), f_X11_does_L6 F x0 x1 x2 x3 n x4 x5 h = some (rR, hf) → jGo l (d + 1) none RX11 cX11_does 6 (some .int) false 6 [some (.ref x0), some (.int x1), some (.int x2), some (.int x3), some (.int x4), some (.int x5)] [] h (some (.int rR)) hf := by
  intro n
  induction n with
  | zero =>
    intro x4 x5 h H
    cases H
  | succ n ih =>
    intro x4 x5 h H
    unfold f_X11_does_L6 at H
    refine jr_iload dX11_does_6 rfl ?_
    refine jr_aload_n dX11_does_8 rfl rfl ?_
    refine jr_getI fl_RX11_168 (by decide) dX11_does_9 H (fun v1 H => ?_)
    refine jr_icmp_ge (tgt := 71) dX11_does_12 (by decide) H (fun H => ?_) (fun H => ?_)
    · refine jr_iload dX11_does_71 rfl ?_
      exact jr_iret rfl dX11_does_73 H
    · refine jr_iload dX11_does_15 rfl ?_
      refine jr_aload_n dX11_does_17 rfl rfl ?_
      refine jr_iload dX11_does_18 rfl ?_
      refine jr_iconst (v := 0) dX11_does_20 (by decide) ?_
      obtain ⟨v3, h2, Hc, H⟩ := j_b2_some H
      refine jr_callV (ci := 11) [.int x5, .int 0] my_X11_field mv_X11_field ml_RX11_251 dX11_does_21 rfl rfl (Nat.le_of_ble_eq_true rfl) rfl (c_X11_field l d F x0 x5 0 h v3 h2 Hc) ?_
      refine jr_iload_n dX11_does_24 rfl rfl ?_
      refine jr_jn (fun J => ∀ (s4 : Int32) (s5 : Int32) (h6 : jH), J s4 s5 h6 = some (rR, hf) → jGo l (d + 1) none RX11 cX11_does 6 (some .int) false 62 [some (.ref x0), some (.int x1), some (.int x2), some (.int x3), none, some (.int x5)] [.int s4, .int s5] h6 (some (.int rR)) hf) H (fun s4 s5 h6 H => ?_) (fun J62 hJ62 H => ?_)
      · refine jr_ior dX11_does_62 ?_
        refine jr_istore dX11_does_63 (by decide) rfl (Or.inl rfl) ?_
        refine jr_iinc (v := (x5 + 1)) dX11_does_65 rfl rfl (by decide) rfl (Or.inl rfl) ?_
        refine jr_goto (tgt := 6) dX11_does_68 (by decide) ?_
        exact ih _ _ _ H
      · refine jr_jn (fun J => ∀ (s7 : Int32) (h8 : jH), J s7 h8 = some (rR, hf) → jGo l (d + 1) none RX11 cX11_does 6 (some .int) false 61 [some (.ref x0), some (.int x1), some (.int x2), some (.int x3), none, some (.int x5)] [.int s7] h8 (some (.int rR)) hf) H (fun s7 h8 H => ?_) (fun J61 hJ61 H => ?_)
        · refine jr_iconst (v := 0) dX11_does_61 (by decide) ?_
          exact hJ62 _ _ _ H
        · refine jr_icmp_ne (tgt := 61) dX11_does_25 (by decide) H (fun H => ?_) (fun H => ?_)
          · refine jr_aload_n dX11_does_28 rfl rfl ?_
            refine jr_iload dX11_does_29 rfl ?_
            refine jr_iconst (v := 2) dX11_does_31 (by decide) ?_
            obtain ⟨v10, h9, Hc, H⟩ := j_b2_some H
            refine jr_callV (ci := 11) [.int x5, .int 2] my_X11_field mv_X11_field ml_RX11_251 dX11_does_32 rfl rfl (Nat.le_of_ble_eq_true rfl) rfl (c_X11_field l d F x0 x5 2 h2 v10 h9 Hc) ?_
            refine jr_iload_n dX11_does_35 rfl rfl ?_
            refine jr_icmp_ne (tgt := 61) dX11_does_36 (by decide) H (fun H => ?_) (fun H => ?_)
            · refine jr_aload_n dX11_does_39 rfl rfl ?_
              refine jr_iload_n dX11_does_40 rfl rfl ?_
              refine jr_aload_n dX11_does_41 rfl rfl ?_
              refine jr_iload dX11_does_42 rfl ?_
              refine jr_iconst (v := 1) dX11_does_44 (by decide) ?_
              obtain ⟨v12, h11, Hc, H⟩ := j_b2_some H
              refine jr_callV (ci := 11) [.int x5, .int 1] my_X11_field mv_X11_field ml_RX11_251 dX11_does_45 rfl rfl (Nat.le_of_ble_eq_true rfl) rfl (c_X11_field l d F x0 x5 1 h9 v12 h11 Hc) ?_
              obtain ⟨v14, h13, Hc, H⟩ := j_b2_some H
              refine jr_callV (ci := 11) [.int x2, .int v12] my_X11_means mv_X11_means ml_RX11_292 dX11_does_48 rfl rfl (Nat.le_of_ble_eq_true rfl) rfl (c_X11_means l d F x0 x2 v12 h11 v14 h13 Hc) ?_
              refine jr_if_eq (tgt := 61) dX11_does_51 (by decide) H (fun H => ?_) (fun H => ?_)
              · refine jr_fgt 4 ?_
                exact hJ61 _ _ H
              · refine jr_iconst (v := 1) dX11_does_54 (by decide) ?_
                refine jr_iload dX11_does_55 rfl ?_
                refine jr_ishl dX11_does_57 ?_
                refine jr_goto (tgt := 62) dX11_does_58 (by decide) ?_
                refine jr_fgt 4 ?_
                exact hJ62 _ _ _ H
            · refine jr_fgt 4 ?_
              exact hJ61 _ _ H
          · refine jr_fgt 4 ?_
            exact hJ61 _ _ H
set_option maxRecDepth 100000 in
set_option maxHeartbeats 4000000 in
theorem c_X11_does (l : Launch) (d : Nat) (F : Nat) (a0 : Nat) (a1 : Int32) (a2 : Int32) (a3 : Int32) (h : jH) (rR : Int32) (hf : jH) (H : f_X11_does F a0 a1 a2 a3 h = some (rR, hf)) : jh_sh h a0 = (11, 0) ∧ jMet l (d + 1) yX11_does cX11_does 6 (some .int) [.ref a0, .int a1, .int a2, .int a3] h (some (.int rR)) hf := by
  unfold f_X11_does at H
  obtain ⟨hsh, H⟩ := j_gd_some H
  refine ⟨hsh, ?_⟩
  refine jMet.of false [some (.ref a0), some (.int a1), some (.int a2), some (.int a3), none, none] rfl (by decide) (by decide) (Nat.le_of_ble_eq_true rfl) (fun S0 q hq => by simpa [j_l, lv_args, j_v, Value.category] using hq) ?_
  refine jr_iconst (v := 0) dX11_does_0 (by decide) ?_
  refine jr_istore dX11_does_1 (by decide) rfl (Or.inl rfl) ?_
  refine jr_iconst (v := 0) dX11_does_3 (by decide) ?_
  refine jr_istore dX11_does_4 (by decide) rfl (Or.inl rfl) ?_
  exact s_X11_does_L6 l d F a0 a1 a2 a3 F 0 0 h H
