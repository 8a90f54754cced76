/-! LINKS of the tables, by program -/
theorem j_dep {l : Launch} {a b : Nat} {y : MethodName} {cc : ByteArray} {nL : Nat} {ret : Option FieldType} {av : List Value} {h : jH} {r : Option Value} {hf : jH} {Q : Prop} (e : a = b) (H : Q ∧ jMet l a y cc nL ret av h r hf) : Q ∧ jMet l b y cc nL ret av h r hf := e ▸ H
theorem j_depS {l : Launch} {a b : Nat} {y : MethodName} {cc : ByteArray} {nL : Nat} {ret : Option FieldType} {av : List Value} {h : jH} {r : Option Value} {hf : jH} (e : a = b) (H : jMet l a y cc nL ret av h r hf) : jMet l b y cc nL ret av h r hf := e ▸ H
theorem in_t1 : ∀ w ∈ tables_1_1, w ∈ lw_tbl := fun _ h => List.mem_append_right _ (List.mem_append_left _ h)
theorem in_t2 : ∀ w ∈ tables_1_2, w ∈ lw_tbl := fun _ h => List.mem_append_right _ (List.mem_append_right _ (List.mem_append_left _ h))
theorem in_t3 : ∀ w ∈ tables_1_3, w ∈ lw_tbl := fun _ h => List.mem_append_right _ (List.mem_append_right _ (List.mem_append_right _ (List.mem_append_left _ h)))
theorem in_t4 : ∀ w ∈ tables_1_4, w ∈ lw_tbl := fun _ h => List.mem_append_right _ (List.mem_append_right _ (List.mem_append_right _ (List.mem_append_right _ (List.mem_append_left _ h))))
theorem in_t5 : ∀ w ∈ tables_1_5, w ∈ lw_tbl := fun _ h => List.mem_append_right _ (List.mem_append_right _ (List.mem_append_right _ (List.mem_append_right _ (List.mem_append_right _ (List.mem_append_left _ h)))))
theorem in_t6 : ∀ w ∈ tables_1_6, w ∈ lw_tbl := fun _ h => List.mem_append_right _ (List.mem_append_right _ (List.mem_append_right _ (List.mem_append_right _ (List.mem_append_right _ (List.mem_append_right _ (List.mem_append_left _ h))))))
theorem in_t7 : ∀ w ∈ tables_1_7, w ∈ lw_tbl := fun _ h => List.mem_append_right _ (List.mem_append_right _ (List.mem_append_right _ (List.mem_append_right _ (List.mem_append_right _ (List.mem_append_right _ (List.mem_append_right _ (h)))))))
theorem jcX0 : jCls 0 RX0 TX0 4 := ⟨rfl, fun w hw => List.mem_filter.mpr ⟨inX0 w hw, (show ∀ w ∈ u_ws RX0 TX0 4, j_w w = true by decide +kernel) w hw⟩, tyX0_ok, nmX0, by decide +kernel⟩
theorem jcX1 : jCls 1 RX1 TX1 1 := ⟨rfl, fun w hw => List.mem_filter.mpr ⟨inX1 w hw, (show ∀ w ∈ u_ws RX1 TX1 1, j_w w = true by decide +kernel) w hw⟩, tyX1_ok, nmX1, by decide +kernel⟩
theorem jcX2 : jCls 2 RX2 TX2 6 := ⟨rfl, fun w hw => List.mem_filter.mpr ⟨inX2 w hw, (show ∀ w ∈ u_ws RX2 TX2 6, j_w w = true by decide +kernel) w hw⟩, tyX2_ok, nmX2, by decide +kernel⟩
theorem jcX3 : jCls 3 RX3 TX3 8 := ⟨rfl, fun w hw => List.mem_filter.mpr ⟨inX3 w hw, (show ∀ w ∈ u_ws RX3 TX3 8, j_w w = true by decide +kernel) w hw⟩, tyX3_ok, nmX3, by decide +kernel⟩
theorem jcX4 : jCls 4 RX4 TX4 3 := ⟨rfl, fun w hw => List.mem_filter.mpr ⟨inX4 w hw, (show ∀ w ∈ u_ws RX4 TX4 3, j_w w = true by decide +kernel) w hw⟩, tyX4_ok, nmX4, by decide +kernel⟩
theorem jcX5 : jCls 5 RX5 TX5 9 := ⟨rfl, fun w hw => List.mem_filter.mpr ⟨inX5 w hw, (show ∀ w ∈ u_ws RX5 TX5 9, j_w w = true by decide +kernel) w hw⟩, tyX5_ok, nmX5, by decide +kernel⟩
theorem jcX6 : jCls 6 RX6 TX6 2 := ⟨rfl, fun w hw => List.mem_filter.mpr ⟨inX6 w hw, (show ∀ w ∈ u_ws RX6 TX6 2, j_w w = true by decide +kernel) w hw⟩, tyX6_ok, nmX6, by decide +kernel⟩
theorem jcX7 : jCls 7 RX7 TX7 6 := ⟨rfl, fun w hw => List.mem_filter.mpr ⟨inX7 w hw, (show ∀ w ∈ u_ws RX7 TX7 6, j_w w = true by decide +kernel) w hw⟩, tyX7_ok, nmX7, by decide +kernel⟩
theorem jcX8 : jCls 8 RX8 TX8 5 := ⟨rfl, fun w hw => List.mem_filter.mpr ⟨inX8 w hw, (show ∀ w ∈ u_ws RX8 TX8 5, j_w w = true by decide +kernel) w hw⟩, tyX8_ok, nmX8, by decide +kernel⟩
theorem jcX9 : jCls 9 RX9 TX9 4 := ⟨rfl, fun w hw => List.mem_filter.mpr ⟨inX9 w hw, (show ∀ w ∈ u_ws RX9 TX9 4, j_w w = true by decide +kernel) w hw⟩, tyX9_ok, nmX9, by decide +kernel⟩
theorem jcX10 : jCls 10 RX10 TX10 20 := ⟨rfl, fun w hw => List.mem_filter.mpr ⟨inX10 w hw, (show ∀ w ∈ u_ws RX10 TX10 20, j_w w = true by decide +kernel) w hw⟩, tyX10_ok, nmX10, by decide +kernel⟩
theorem jcX11 : jCls 11 RX11 TX11 56 := ⟨rfl, fun w hw => List.mem_filter.mpr ⟨inX11 w hw, (show ∀ w ∈ u_ws RX11 TX11 56, j_w w = true by decide +kernel) w hw⟩, tyX11_ok, nmX11, by decide +kernel⟩
theorem aw_I : Cond.arrayClass .int ∈ jTB := List.mem_filter.mpr ⟨in_t1 _ (List.mem_of_getElem? (i := 50) (by decide +kernel)), rfl⟩
theorem aw_B : Cond.arrayClass .byte ∈ jTB := List.mem_filter.mpr ⟨in_t6 _ (List.mem_of_getElem? (i := 3) (by decide +kernel)), rfl⟩
theorem aw_Z : Cond.arrayClass .boolean ∈ jTB := List.mem_filter.mpr ⟨in_t1 _ (List.mem_of_getElem? (i := 209) (by decide +kernel)), rfl⟩
theorem aw_L : Cond.arrayClass .long ∈ jTB := List.mem_filter.mpr ⟨in_t1 _ (List.mem_of_getElem? (i := 66) (by decide +kernel)), rfl⟩
theorem aw_R : Cond.arrayOver (.object RX7) ∈ jTB := List.mem_filter.mpr ⟨in_t1 _ (List.mem_of_getElem? (i := 177) (by decide +kernel)), rfl⟩
theorem oi_i : Cond.instanceMethod Lib.objectInit ∈ jTB := List.mem_filter.mpr ⟨in_t1 _ (List.mem_of_getElem? (i := 27) (by decide +kernel)), rfl⟩
theorem oi_c : Cond.code Lib.objectInit ⟨#[0xb1]⟩ 1 none ∈ jTB := List.mem_filter.mpr ⟨in_t1 _ (List.mem_of_getElem? (i := 28) rfl), rfl⟩
theorem ac_n : Cond.native arraycopyName ∈ jTB := List.mem_filter.mpr ⟨in_t3 _ (List.mem_of_getElem? (i := 93) (by decide +kernel)), rfl⟩
theorem ac_s : Cond.static arraycopyName ∈ jTB := List.mem_filter.mpr ⟨in_t3 _ (List.mem_of_getElem? (i := 92) (by decide +kernel)), rfl⟩
theorem ac_i : Cond.initialized "java/lang/System" ∈ jTB := List.mem_filter.mpr ⟨in_t1 _ (List.mem_of_getElem? (i := 18) (by decide +kernel)), rfl⟩
theorem mm_i : Cond.initialized "java/lang/Math" ∈ jTB := List.mem_filter.mpr ⟨in_t1 _ (List.mem_of_getElem? (i := 12) (by decide +kernel)), rfl⟩
theorem mm_mmax_s : Cond.static Lib.Math.max.name ∈ jTB := List.mem_filter.mpr ⟨in_t2 _ (List.mem_of_getElem? (i := 117) (by decide +kernel)), rfl⟩
theorem mm_mmax_c : Cond.code Lib.Math.max.name Lib.Math.max.code 2 (some .int) ∈ jTB := List.mem_filter.mpr ⟨in_t2 _ (List.mem_of_getElem? (i := 118) (by decide +kernel)), rfl⟩
theorem mm_mmin_s : Cond.static Lib.Math.min.name ∈ jTB := List.mem_filter.mpr ⟨in_t2 _ (List.mem_of_getElem? (i := 140) (by decide +kernel)), rfl⟩
theorem mm_mmin_c : Cond.code Lib.Math.min.name Lib.Math.min.code 2 (some .int) ∈ jTB := List.mem_filter.mpr ⟨in_t2 _ (List.mem_of_getElem? (i := 141) (by decide +kernel)), rfl⟩
theorem mm_mmaxl_s : Cond.static Lib.MathLoose.max_long.x ∈ jTB := List.mem_filter.mpr ⟨in_t4 _ (List.mem_of_getElem? (i := 47) (by decide +kernel)), rfl⟩
theorem mm_mmaxl_c : Cond.code Lib.MathLoose.max_long.x Lib.MathLoose.max_long.code 4 (some .long) ∈ jTB := List.mem_filter.mpr ⟨in_t4 _ (List.mem_of_getElem? (i := 48) (by decide +kernel)), rfl⟩
theorem ml_RX0_3 : Cond.methodLink RX0 3 Lib.objectInit ∈ jTB := List.mem_filter.mpr ⟨in_t1 _ (List.mem_of_getElem? (i := 195) (by decide +kernel)), rfl⟩
theorem fl_RX0_9 : jFL RX0 9 0 0 2 true := ⟨RX0, TX0, 4, jcX0, by decide, List.mem_filter.mpr ⟨in_t1 _ (List.mem_of_getElem? (i := 196) (by decide +kernel)), rfl⟩, rfl, rfl⟩
theorem fl_RX0_15 : jFL RX0 15 0 1 2 true := ⟨RX0, TX0, 4, jcX0, by decide, List.mem_filter.mpr ⟨in_t1 _ (List.mem_of_getElem? (i := 197) (by decide +kernel)), rfl⟩, rfl, rfl⟩
theorem fl_RX0_18 : jFL RX0 18 0 2 2 true := ⟨RX0, TX0, 4, jcX0, by decide, List.mem_filter.mpr ⟨in_t1 _ (List.mem_of_getElem? (i := 198) (by decide +kernel)), rfl⟩, rfl, rfl⟩
theorem fl_RX0_21 : jFL RX0 21 0 3 2 true := ⟨RX0, TX0, 4, jcX0, by decide, List.mem_filter.mpr ⟨in_t1 _ (List.mem_of_getElem? (i := 199) (by decide +kernel)), rfl⟩, rfl, rfl⟩
theorem ml_RX2_3 : Cond.methodLink RX2 3 Lib.objectInit ∈ jTB := List.mem_filter.mpr ⟨in_t1 _ (List.mem_of_getElem? (i := 113) (by decide +kernel)), rfl⟩
theorem fl_RX2_9 : jFL RX2 9 2 1 2 true := ⟨RX2, TX2, 6, jcX2, by decide, List.mem_filter.mpr ⟨in_t1 _ (List.mem_of_getElem? (i := 116) (by decide +kernel)), rfl⟩, rfl, rfl⟩
theorem fl_RX2_15 : jFL RX2 15 2 2 2 true := ⟨RX2, TX2, 6, jcX2, by decide, List.mem_filter.mpr ⟨in_t1 _ (List.mem_of_getElem? (i := 118) (by decide +kernel)), rfl⟩, rfl, rfl⟩
theorem fl_RX2_18 : jFL RX2 18 2 3 2 true := ⟨RX2, TX2, 6, jcX2, by decide, List.mem_filter.mpr ⟨in_t1 _ (List.mem_of_getElem? (i := 120) (by decide +kernel)), rfl⟩, rfl, rfl⟩
theorem fl_RX2_21 : jFL RX2 21 2 4 2 true := ⟨RX2, TX2, 6, jcX2, by decide, List.mem_filter.mpr ⟨in_t1 _ (List.mem_of_getElem? (i := 122) (by decide +kernel)), rfl⟩, rfl, rfl⟩
theorem fl_RX2_24 : jFL RX2 24 2 5 2 true := ⟨RX2, TX2, 6, jcX2, by decide, List.mem_filter.mpr ⟨in_t1 _ (List.mem_of_getElem? (i := 124) (by decide +kernel)), rfl⟩, rfl, rfl⟩
theorem ml_RX3_3 : Cond.methodLink RX3 3 Lib.objectInit ∈ jTB := List.mem_filter.mpr ⟨in_t1 _ (List.mem_of_getElem? (i := 72) (by decide +kernel)), rfl⟩
theorem fl_RX3_9 : jFL RX3 9 3 1 2 true := ⟨RX3, TX3, 8, jcX3, by decide, List.mem_filter.mpr ⟨in_t1 _ (List.mem_of_getElem? (i := 77) (by decide +kernel)), rfl⟩, rfl, rfl⟩
theorem fl_RX3_15 : jFL RX3 15 3 2 2 true := ⟨RX3, TX3, 8, jcX3, by decide, List.mem_filter.mpr ⟨in_t1 _ (List.mem_of_getElem? (i := 81) (by decide +kernel)), rfl⟩, rfl, rfl⟩
theorem fl_RX3_18 : jFL RX3 18 3 3 2 true := ⟨RX3, TX3, 8, jcX3, by decide, List.mem_filter.mpr ⟨in_t1 _ (List.mem_of_getElem? (i := 84) (by decide +kernel)), rfl⟩, rfl, rfl⟩
theorem fl_RX3_21 : jFL RX3 21 3 4 2 true := ⟨RX3, TX3, 8, jcX3, by decide, List.mem_filter.mpr ⟨in_t1 _ (List.mem_of_getElem? (i := 87) (by decide +kernel)), rfl⟩, rfl, rfl⟩
theorem fl_RX3_24 : jFL RX3 24 3 5 2 true := ⟨RX3, TX3, 8, jcX3, by decide, List.mem_filter.mpr ⟨in_t1 _ (List.mem_of_getElem? (i := 88) (by decide +kernel)), rfl⟩, rfl, rfl⟩
theorem fl_RX3_27 : jFL RX3 27 3 6 2 true := ⟨RX3, TX3, 8, jcX3, by decide, List.mem_filter.mpr ⟨in_t1 _ (List.mem_of_getElem? (i := 89) (by decide +kernel)), rfl⟩, rfl, rfl⟩
theorem fl_RX3_30 : jFL RX3 30 3 7 2 true := ⟨RX3, TX3, 8, jcX3, by decide, List.mem_filter.mpr ⟨in_t1 _ (List.mem_of_getElem? (i := 90) (by decide +kernel)), rfl⟩, rfl, rfl⟩
theorem ml_RX7_3 : Cond.methodLink RX7 3 Lib.objectInit ∈ jTB := List.mem_filter.mpr ⟨in_t1 _ (List.mem_of_getElem? (i := 144) (by decide +kernel)), rfl⟩
theorem fl_RX7_9 : jFL RX7 9 7 2 2 true := ⟨RX7, TX7, 6, jcX7, by decide, List.mem_filter.mpr ⟨in_t1 _ (List.mem_of_getElem? (i := 149) (by decide +kernel)), rfl⟩, rfl, rfl⟩
theorem fl_RX7_15 : jFL RX7 15 7 3 2 true := ⟨RX7, TX7, 6, jcX7, by decide, List.mem_filter.mpr ⟨in_t1 _ (List.mem_of_getElem? (i := 151) (by decide +kernel)), rfl⟩, rfl, rfl⟩
theorem fl_RX7_18 : jFL RX7 18 7 4 2 true := ⟨RX7, TX7, 6, jcX7, by decide, List.mem_filter.mpr ⟨in_t1 _ (List.mem_of_getElem? (i := 153) (by decide +kernel)), rfl⟩, rfl, rfl⟩
theorem fl_RX7_21 : jFL RX7 21 7 5 2 true := ⟨RX7, TX7, 6, jcX7, by decide, List.mem_filter.mpr ⟨in_t1 _ (List.mem_of_getElem? (i := 155) (by decide +kernel)), rfl⟩, rfl, rfl⟩
theorem ml_RX4_1 : Cond.methodLink RX4 1 Lib.objectInit ∈ jTB := List.mem_filter.mpr ⟨in_t1 _ (List.mem_of_getElem? (i := 175) (by decide +kernel)), rfl⟩
theorem cl_RX4_9 : Cond.classLink RX4 9 RX7 ∈ jTB := List.mem_filter.mpr ⟨in_t1 _ (List.mem_of_getElem? (i := 176) (by decide +kernel)), rfl⟩
theorem fl_RX4_11 : jFL RX4 11 4 0 2 true := ⟨RX4, TX4, 3, jcX4, by decide, List.mem_filter.mpr ⟨in_t1 _ (List.mem_of_getElem? (i := 179) (by decide +kernel)), rfl⟩, rfl, rfl⟩
theorem nw_RX4_9 : jNW RX4 9 7 6 := ⟨RX7, TX7, jcX7, List.mem_filter.mpr ⟨in_t1 _ (List.mem_of_getElem? (i := 176) (by decide +kernel)), rfl⟩, List.mem_filter.mpr ⟨in_t1 _ (List.mem_of_getElem? (i := 140) (by decide +kernel)), rfl⟩, List.mem_filter.mpr ⟨in_t1 _ (List.mem_of_getElem? (i := 6) (by decide +kernel)), rfl⟩, by decide +kernel⟩
theorem ml_RX4_15 : Cond.methodLinkNest RX4 15 yX7_init "TollOnVowels" ∈ jTB := List.mem_filter.mpr ⟨in_t1 _ (List.mem_of_getElem? (i := 178) (by decide +kernel)), rfl⟩
theorem ml_RX5_3 : Cond.methodLink RX5 3 Lib.objectInit ∈ jTB := List.mem_filter.mpr ⟨in_t1 _ (List.mem_of_getElem? (i := 215) (by decide +kernel)), rfl⟩
theorem fl_RX5_9 : jFL RX5 9 5 0 2 true := ⟨RX5, TX5, 9, jcX5, by decide, List.mem_filter.mpr ⟨in_t1 _ (List.mem_of_getElem? (i := 216) (by decide +kernel)), rfl⟩, rfl, rfl⟩
theorem fl_RX5_15 : jFL RX5 15 5 1 2 true := ⟨RX5, TX5, 9, jcX5, by decide, List.mem_filter.mpr ⟨in_t1 _ (List.mem_of_getElem? (i := 218) (by decide +kernel)), rfl⟩, rfl, rfl⟩
theorem fl_RX5_18 : jFL RX5 18 5 4 2 true := ⟨RX5, TX5, 9, jcX5, by decide, List.mem_filter.mpr ⟨in_t1 _ (List.mem_of_getElem? (i := 224) (by decide +kernel)), rfl⟩, rfl, rfl⟩
theorem fl_RX5_21 : jFL RX5 21 5 5 2 false := ⟨RX5, TX5, 9, jcX5, by decide, List.mem_filter.mpr ⟨in_t1 _ (List.mem_of_getElem? (i := 225) (by decide +kernel)), rfl⟩, rfl, rfl⟩
theorem fl_RX5_24 : jFL RX5 24 5 6 2 false := ⟨RX5, TX5, 9, jcX5, by decide, List.mem_filter.mpr ⟨in_t1 _ (List.mem_of_getElem? (i := 226) (by decide +kernel)), rfl⟩, rfl, rfl⟩
theorem ml_RX6_1 : Cond.methodLink RX6 1 Lib.objectInit ∈ jTB := List.mem_filter.mpr ⟨in_t1 _ (List.mem_of_getElem? (i := 56) (by decide +kernel)), rfl⟩
theorem fl_RX6_9 : jFL RX6 9 6 0 2 true := ⟨RX6, TX6, 2, jcX6, by decide, List.mem_filter.mpr ⟨in_t1 _ (List.mem_of_getElem? (i := 57) (by decide +kernel)), rfl⟩, rfl, rfl⟩
theorem fl_RX8_15 : jFL RX8 15 8 1 2 true := ⟨RX8, TX8, 5, jcX8, by decide, List.mem_filter.mpr ⟨in_t2 _ (List.mem_of_getElem? (i := 20) (by decide +kernel)), rfl⟩, rfl, rfl⟩
theorem fl_RX8_24 : jFL RX8 24 8 4 0 false := ⟨RX8, TX8, 5, jcX8, by decide, List.mem_filter.mpr ⟨in_t2 _ (List.mem_of_getElem? (i := 23) (by decide +kernel)), rfl⟩, rfl, rfl⟩
theorem ml_RX8_5 : Cond.methodLink RX8 5 Lib.objectInit ∈ jTB := List.mem_filter.mpr ⟨in_t2 _ (List.mem_of_getElem? (i := 13) (by decide +kernel)), rfl⟩
theorem fl_RX8_11 : jFL RX8 11 8 0 2 true := ⟨RX8, TX8, 5, jcX8, by decide, List.mem_filter.mpr ⟨in_t2 _ (List.mem_of_getElem? (i := 18) (by decide +kernel)), rfl⟩, rfl, rfl⟩
theorem fl_RX8_18 : jFL RX8 18 8 2 2 true := ⟨RX8, TX8, 5, jcX8, by decide, List.mem_filter.mpr ⟨in_t2 _ (List.mem_of_getElem? (i := 21) (by decide +kernel)), rfl⟩, rfl, rfl⟩
theorem fl_RX8_21 : jFL RX8 21 8 3 2 true := ⟨RX8, TX8, 5, jcX8, by decide, List.mem_filter.mpr ⟨in_t2 _ (List.mem_of_getElem? (i := 22) (by decide +kernel)), rfl⟩, rfl, rfl⟩
theorem ml_RX8_28 : Cond.methodLink RX8 28 yX8_becomeNone ∈ jTB := List.mem_filter.mpr ⟨in_t2 _ (List.mem_of_getElem? (i := 14) (by decide +kernel)), rfl⟩
theorem ml_RX9_3 : Cond.methodLink RX9 3 Lib.objectInit ∈ jTB := List.mem_filter.mpr ⟨in_t1 _ (List.mem_of_getElem? (i := 34) (by decide +kernel)), rfl⟩
theorem fl_RX9_11 : jFL RX9 11 9 0 2 true := ⟨RX9, TX9, 4, jcX9, by decide, List.mem_filter.mpr ⟨in_t1 _ (List.mem_of_getElem? (i := 35) (by decide +kernel)), rfl⟩, rfl, rfl⟩
theorem ml_RX10_1 : Cond.methodLink RX10 1 Lib.objectInit ∈ jTB := List.mem_filter.mpr ⟨in_t1 _ (List.mem_of_getElem? (i := 26) (by decide +kernel)), rfl⟩
theorem nw_RX10_7 : jNW RX10 7 9 4 := ⟨RX9, TX9, jcX9, List.mem_filter.mpr ⟨in_t1 _ (List.mem_of_getElem? (i := 29) (by decide +kernel)), rfl⟩, List.mem_filter.mpr ⟨in_t1 _ (List.mem_of_getElem? (i := 30) (by decide +kernel)), rfl⟩, List.mem_filter.mpr ⟨in_t1 _ (List.mem_of_getElem? (i := 2) (by decide +kernel)), rfl⟩, by decide +kernel⟩
theorem ml_RX10_9 : Cond.methodLinkNest RX10 9 yX9_init "TollOnVowels" ∈ jTB := List.mem_filter.mpr ⟨in_t1 _ (List.mem_of_getElem? (i := 31) (by decide +kernel)), rfl⟩
theorem fl_RX10_10 : jFL RX10 10 10 0 2 true := ⟨RX10, TX10, 20, jcX10, by decide, List.mem_filter.mpr ⟨in_t2 _ (List.mem_of_getElem? (i := 35) (by decide +kernel)), rfl⟩, rfl, rfl⟩
theorem nw_RX10_16 : jNW RX10 16 6 2 := ⟨RX6, TX6, jcX6, List.mem_filter.mpr ⟨in_t1 _ (List.mem_of_getElem? (i := 51) (by decide +kernel)), rfl⟩, List.mem_filter.mpr ⟨in_t1 _ (List.mem_of_getElem? (i := 52) (by decide +kernel)), rfl⟩, List.mem_filter.mpr ⟨in_t1 _ (List.mem_of_getElem? (i := 3) (by decide +kernel)), rfl⟩, by decide +kernel⟩
theorem ml_RX10_18 : Cond.methodLinkNest RX10 18 yX6_init "TollOnVowels" ∈ jTB := List.mem_filter.mpr ⟨in_t1 _ (List.mem_of_getElem? (i := 53) (by decide +kernel)), rfl⟩
theorem fl_RX10_19 : jFL RX10 19 10 1 2 true := ⟨RX10, TX10, 20, jcX10, by decide, List.mem_filter.mpr ⟨in_t2 _ (List.mem_of_getElem? (i := 36) (by decide +kernel)), rfl⟩, rfl, rfl⟩
theorem nw_RX10_23 : jNW RX10 23 3 8 := ⟨RX3, TX3, jcX3, List.mem_filter.mpr ⟨in_t1 _ (List.mem_of_getElem? (i := 67) (by decide +kernel)), rfl⟩, List.mem_filter.mpr ⟨in_t1 _ (List.mem_of_getElem? (i := 68) (by decide +kernel)), rfl⟩, List.mem_filter.mpr ⟨in_t1 _ (List.mem_of_getElem? (i := 4) (by decide +kernel)), rfl⟩, by decide +kernel⟩
theorem ml_RX10_25 : Cond.methodLinkNest RX10 25 yX3_init "TollOnVowels" ∈ jTB := List.mem_filter.mpr ⟨in_t1 _ (List.mem_of_getElem? (i := 69) (by decide +kernel)), rfl⟩
theorem fl_RX10_26 : jFL RX10 26 10 2 2 true := ⟨RX10, TX10, 20, jcX10, by decide, List.mem_filter.mpr ⟨in_t2 _ (List.mem_of_getElem? (i := 37) (by decide +kernel)), rfl⟩, rfl, rfl⟩
theorem nw_RX10_30 : jNW RX10 30 2 6 := ⟨RX2, TX2, jcX2, List.mem_filter.mpr ⟨in_t1 _ (List.mem_of_getElem? (i := 108) (by decide +kernel)), rfl⟩, List.mem_filter.mpr ⟨in_t1 _ (List.mem_of_getElem? (i := 109) (by decide +kernel)), rfl⟩, List.mem_filter.mpr ⟨in_t1 _ (List.mem_of_getElem? (i := 5) (by decide +kernel)), rfl⟩, by decide +kernel⟩
theorem ml_RX10_32 : Cond.methodLinkNest RX10 32 yX2_init "TollOnVowels" ∈ jTB := List.mem_filter.mpr ⟨in_t1 _ (List.mem_of_getElem? (i := 110) (by decide +kernel)), rfl⟩
theorem fl_RX10_33 : jFL RX10 33 10 3 2 true := ⟨RX10, TX10, 20, jcX10, by decide, List.mem_filter.mpr ⟨in_t2 _ (List.mem_of_getElem? (i := 38) (by decide +kernel)), rfl⟩, rfl, rfl⟩
theorem nw_RX10_37 : jNW RX10 37 7 6 := ⟨RX7, TX7, jcX7, List.mem_filter.mpr ⟨in_t1 _ (List.mem_of_getElem? (i := 139) (by decide +kernel)), rfl⟩, List.mem_filter.mpr ⟨in_t1 _ (List.mem_of_getElem? (i := 140) (by decide +kernel)), rfl⟩, List.mem_filter.mpr ⟨in_t1 _ (List.mem_of_getElem? (i := 6) (by decide +kernel)), rfl⟩, by decide +kernel⟩
theorem ml_RX10_39 : Cond.methodLinkNest RX10 39 yX7_init "TollOnVowels" ∈ jTB := List.mem_filter.mpr ⟨in_t1 _ (List.mem_of_getElem? (i := 141) (by decide +kernel)), rfl⟩
theorem fl_RX10_40 : jFL RX10 40 10 4 2 true := ⟨RX10, TX10, 20, jcX10, by decide, List.mem_filter.mpr ⟨in_t2 _ (List.mem_of_getElem? (i := 39) (by decide +kernel)), rfl⟩, rfl, rfl⟩
theorem nw_RX10_44 : jNW RX10 44 4 3 := ⟨RX4, TX4, jcX4, List.mem_filter.mpr ⟨in_t1 _ (List.mem_of_getElem? (i := 170) (by decide +kernel)), rfl⟩, List.mem_filter.mpr ⟨in_t1 _ (List.mem_of_getElem? (i := 171) (by decide +kernel)), rfl⟩, List.mem_filter.mpr ⟨in_t1 _ (List.mem_of_getElem? (i := 7) (by decide +kernel)), rfl⟩, by decide +kernel⟩
theorem ml_RX10_46 : Cond.methodLink RX10 46 yX4_init ∈ jTB := List.mem_filter.mpr ⟨in_t1 _ (List.mem_of_getElem? (i := 172) (by decide +kernel)), rfl⟩
theorem fl_RX10_47 : jFL RX10 47 10 5 2 true := ⟨RX10, TX10, 20, jcX10, by decide, List.mem_filter.mpr ⟨in_t2 _ (List.mem_of_getElem? (i := 40) (by decide +kernel)), rfl⟩, rfl, rfl⟩
theorem cl_RX10_37 : Cond.classLink RX10 37 RX7 ∈ jTB := List.mem_filter.mpr ⟨in_t1 _ (List.mem_of_getElem? (i := 139) (by decide +kernel)), rfl⟩
theorem fl_RX10_51 : jFL RX10 51 10 6 2 true := ⟨RX10, TX10, 20, jcX10, by decide, List.mem_filter.mpr ⟨in_t2 _ (List.mem_of_getElem? (i := 41) (by decide +kernel)), rfl⟩, rfl, rfl⟩
theorem fl_RX10_55 : jFL RX10 55 10 7 2 true := ⟨RX10, TX10, 20, jcX10, by decide, List.mem_filter.mpr ⟨in_t2 _ (List.mem_of_getElem? (i := 42) (by decide +kernel)), rfl⟩, rfl, rfl⟩
theorem nw_RX10_59 : jNW RX10 59 0 4 := ⟨RX0, TX0, jcX0, List.mem_filter.mpr ⟨in_t1 _ (List.mem_of_getElem? (i := 190) (by decide +kernel)), rfl⟩, List.mem_filter.mpr ⟨in_t1 _ (List.mem_of_getElem? (i := 191) (by decide +kernel)), rfl⟩, List.mem_filter.mpr ⟨in_t1 _ (List.mem_of_getElem? (i := 8) (by decide +kernel)), rfl⟩, by decide +kernel⟩
theorem ml_RX10_61 : Cond.methodLinkNest RX10 61 yX0_init "TollOnVowels" ∈ jTB := List.mem_filter.mpr ⟨in_t1 _ (List.mem_of_getElem? (i := 192) (by decide +kernel)), rfl⟩
theorem fl_RX10_62 : jFL RX10 62 10 8 2 true := ⟨RX10, TX10, 20, jcX10, by decide, List.mem_filter.mpr ⟨in_t2 _ (List.mem_of_getElem? (i := 43) (by decide +kernel)), rfl⟩, rfl, rfl⟩
theorem nw_RX10_66 : jNW RX10 66 5 9 := ⟨RX5, TX5, jcX5, List.mem_filter.mpr ⟨in_t1 _ (List.mem_of_getElem? (i := 210) (by decide +kernel)), rfl⟩, List.mem_filter.mpr ⟨in_t1 _ (List.mem_of_getElem? (i := 211) (by decide +kernel)), rfl⟩, List.mem_filter.mpr ⟨in_t1 _ (List.mem_of_getElem? (i := 9) (by decide +kernel)), rfl⟩, by decide +kernel⟩
theorem ml_RX10_68 : Cond.methodLinkNest RX10 68 yX5_init "TollOnVowels" ∈ jTB := List.mem_filter.mpr ⟨in_t1 _ (List.mem_of_getElem? (i := 212) (by decide +kernel)), rfl⟩
theorem fl_RX10_69 : jFL RX10 69 10 9 2 true := ⟨RX10, TX10, 20, jcX10, by decide, List.mem_filter.mpr ⟨in_t2 _ (List.mem_of_getElem? (i := 44) (by decide +kernel)), rfl⟩, rfl, rfl⟩
theorem fl_RX10_73 : jFL RX10 73 10 10 2 true := ⟨RX10, TX10, 20, jcX10, by decide, List.mem_filter.mpr ⟨in_t2 _ (List.mem_of_getElem? (i := 45) (by decide +kernel)), rfl⟩, rfl, rfl⟩
theorem fl_RX10_77 : jFL RX10 77 10 11 2 true := ⟨RX10, TX10, 20, jcX10, by decide, List.mem_filter.mpr ⟨in_t2 _ (List.mem_of_getElem? (i := 46) (by decide +kernel)), rfl⟩, rfl, rfl⟩
theorem fl_RX10_80 : jFL RX10 80 10 12 2 true := ⟨RX10, TX10, 20, jcX10, by decide, List.mem_filter.mpr ⟨in_t2 _ (List.mem_of_getElem? (i := 47) (by decide +kernel)), rfl⟩, rfl, rfl⟩
theorem fl_RX10_83 : jFL RX10 83 10 13 2 true := ⟨RX10, TX10, 20, jcX10, by decide, List.mem_filter.mpr ⟨in_t2 _ (List.mem_of_getElem? (i := 48) (by decide +kernel)), rfl⟩, rfl, rfl⟩
theorem fl_RX10_86 : jFL RX10 86 10 14 2 true := ⟨RX10, TX10, 20, jcX10, by decide, List.mem_filter.mpr ⟨in_t2 _ (List.mem_of_getElem? (i := 49) (by decide +kernel)), rfl⟩, rfl, rfl⟩
theorem nw_RX10_89 : jNW RX10 89 8 5 := ⟨RX8, TX8, jcX8, List.mem_filter.mpr ⟨in_t2 _ (List.mem_of_getElem? (i := 8) (by decide +kernel)), rfl⟩, List.mem_filter.mpr ⟨in_t2 _ (List.mem_of_getElem? (i := 9) (by decide +kernel)), rfl⟩, List.mem_filter.mpr ⟨in_t1 _ (List.mem_of_getElem? (i := 10) (by decide +kernel)), rfl⟩, by decide +kernel⟩
theorem ml_RX10_91 : Cond.methodLink RX10 91 yX8_init ∈ jTB := List.mem_filter.mpr ⟨in_t2 _ (List.mem_of_getElem? (i := 10) (by decide +kernel)), rfl⟩
theorem fl_RX10_92 : jFL RX10 92 10 15 2 false := ⟨RX10, TX10, 20, jcX10, by decide, List.mem_filter.mpr ⟨in_t2 _ (List.mem_of_getElem? (i := 50) (by decide +kernel)), rfl⟩, rfl, rfl⟩
theorem fl_RX10_96 : jFL RX10 96 10 16 2 false := ⟨RX10, TX10, 20, jcX10, by decide, List.mem_filter.mpr ⟨in_t2 _ (List.mem_of_getElem? (i := 51) (by decide +kernel)), rfl⟩, rfl, rfl⟩
theorem fl_RX10_99 : jFL RX10 99 10 17 0 false := ⟨RX10, TX10, 20, jcX10, by decide, List.mem_filter.mpr ⟨in_t2 _ (List.mem_of_getElem? (i := 52) (by decide +kernel)), rfl⟩, rfl, rfl⟩
theorem fl_RX10_103 : jFL RX10 103 10 18 0 false := ⟨RX10, TX10, 20, jcX10, by decide, List.mem_filter.mpr ⟨in_t2 _ (List.mem_of_getElem? (i := 53) (by decide +kernel)), rfl⟩, rfl, rfl⟩
theorem fl_RX10_106 : jFL RX10 106 10 19 0 false := ⟨RX10, TX10, 20, jcX10, by decide, List.mem_filter.mpr ⟨in_t2 _ (List.mem_of_getElem? (i := 54) (by decide +kernel)), rfl⟩, rfl, rfl⟩
theorem fl_RX9_15 : jFL RX9 15 9 1 0 false := ⟨RX9, TX9, 4, jcX9, by decide, List.mem_filter.mpr ⟨in_t1 _ (List.mem_of_getElem? (i := 37) (by decide +kernel)), rfl⟩, rfl, rfl⟩
theorem ml_RX10_109 : Cond.methodLink RX10 109 yX9_addFour ∈ jTB := List.mem_filter.mpr ⟨in_t2 _ (List.mem_of_getElem? (i := 100) (by decide +kernel)), rfl⟩
theorem fl_RX10_113 : jFL RX10 113 9 1 0 false := ⟨RX9, TX9, 4, jcX9, by decide, List.mem_filter.mpr ⟨in_t1 _ (List.mem_of_getElem? (i := 38) (by decide +kernel)), rfl⟩, rfl, rfl⟩
theorem fl_RX10_249 : jFL RX10 249 4 2 0 false := ⟨RX4, TX4, 3, jcX4, by decide, List.mem_filter.mpr ⟨in_t1 _ (List.mem_of_getElem? (i := 182) (by decide +kernel)), rfl⟩, rfl, rfl⟩
theorem fl_RX10_162 : jFL RX10 162 7 2 2 true := ⟨RX7, TX7, 6, jcX7, by decide, List.mem_filter.mpr ⟨in_t1 _ (List.mem_of_getElem? (i := 150) (by decide +kernel)), rfl⟩, rfl, rfl⟩
theorem ml_RX10_369 : Cond.methodLink RX10 369 Lib.Math.max.name ∈ jTB := List.mem_filter.mpr ⟨in_t2 _ (List.mem_of_getElem? (i := 116) (by decide +kernel)), rfl⟩
theorem fl_RX10_132 : jFL RX10 132 2 0 0 false := ⟨RX2, TX2, 6, jcX2, by decide, List.mem_filter.mpr ⟨in_t1 _ (List.mem_of_getElem? (i := 115) (by decide +kernel)), rfl⟩, rfl, rfl⟩
theorem fl_RX10_190 : jFL RX10 190 2 3 2 true := ⟨RX2, TX2, 6, jcX2, by decide, List.mem_filter.mpr ⟨in_t1 _ (List.mem_of_getElem? (i := 121) (by decide +kernel)), rfl⟩, rfl, rfl⟩
theorem ml_RX10_116 : Cond.methodLink RX10 116 yX10_stationsNeeded ∈ jTB := List.mem_filter.mpr ⟨in_t2 _ (List.mem_of_getElem? (i := 112) (by decide +kernel)), rfl⟩
theorem ml_RX10_120 : Cond.methodLink RX10 120 yX7_closeBooks ∈ jTB := List.mem_filter.mpr ⟨in_t2 _ (List.mem_of_getElem? (i := 119) (by decide +kernel)), rfl⟩
theorem ml_RX10_124 : Cond.methodLink RX10 124 yX10_forget ∈ jTB := List.mem_filter.mpr ⟨in_t2 _ (List.mem_of_getElem? (i := 123) (by decide +kernel)), rfl⟩
theorem fl_RX9_19 : jFL RX9 19 9 2 0 false := ⟨RX9, TX9, 4, jcX9, by decide, List.mem_filter.mpr ⟨in_t1 _ (List.mem_of_getElem? (i := 39) (by decide +kernel)), rfl⟩, rfl, rfl⟩
theorem fl_RX9_28 : jFL RX9 28 9 3 0 false := ⟨RX9, TX9, 4, jcX9, by decide, List.mem_filter.mpr ⟨in_t1 _ (List.mem_of_getElem? (i := 40) (by decide +kernel)), rfl⟩, rfl, rfl⟩
theorem ml_RX9_31 : Cond.methodLink RX9 31 yX9_peek ∈ jTB := List.mem_filter.mpr ⟨in_t2 _ (List.mem_of_getElem? (i := 178) (by decide +kernel)), rfl⟩
theorem ml_RX9_35 : Cond.methodLink RX9 35 yX9_takeFrom ∈ jTB := List.mem_filter.mpr ⟨in_t2 _ (List.mem_of_getElem? (i := 186) (by decide +kernel)), rfl⟩
theorem ml_RX10_387 : Cond.methodLink RX10 387 yX9_take ∈ jTB := List.mem_filter.mpr ⟨in_t2 _ (List.mem_of_getElem? (i := 198) (by decide +kernel)), rfl⟩
theorem ml_RX10_412 : Cond.methodLink RX10 412 yX9_takeFrom ∈ jTB := List.mem_filter.mpr ⟨in_t2 _ (List.mem_of_getElem? (i := 200) (by decide +kernel)), rfl⟩
theorem ml_RX10_409 : Cond.methodLink RX10 409 yX9_takeNumber ∈ jTB := List.mem_filter.mpr ⟨in_t2 _ (List.mem_of_getElem? (i := 199) (by decide +kernel)), rfl⟩
theorem ml_RX2_27 : Cond.methodLink RX2 27 yX9_takeFrom ∈ jTB := List.mem_filter.mpr ⟨in_t2 _ (List.mem_of_getElem? (i := 191) (by decide +kernel)), rfl⟩
theorem ml_RX2_33 : Cond.methodLink RX2 33 yX9_take ∈ jTB := List.mem_filter.mpr ⟨in_t2 _ (List.mem_of_getElem? (i := 192) (by decide +kernel)), rfl⟩
theorem ml_RX2_37 : Cond.methodLink RX2 37 yX9_takeNumber ∈ jTB := List.mem_filter.mpr ⟨in_t2 _ (List.mem_of_getElem? (i := 193) (by decide +kernel)), rfl⟩
theorem ml_RX3_43 : Cond.methodLink RX3 43 yX3_letter ∈ jTB := List.mem_filter.mpr ⟨in_t2 _ (List.mem_of_getElem? (i := 162) (by decide +kernel)), rfl⟩
theorem ml_RX3_46 : Cond.methodLink RX3 46 yX3_vowelOf ∈ jTB := List.mem_filter.mpr ⟨in_t2 _ (List.mem_of_getElem? (i := 166) (by decide +kernel)), rfl⟩
theorem ml_RX3_33 : Cond.methodLink RX3 33 yX9_takeFrom ∈ jTB := List.mem_filter.mpr ⟨in_t2 _ (List.mem_of_getElem? (i := 154) (by decide +kernel)), rfl⟩
theorem ml_RX3_39 : Cond.methodLink RX3 39 yX3_countVowels ∈ jTB := List.mem_filter.mpr ⟨in_t2 _ (List.mem_of_getElem? (i := 158) (by decide +kernel)), rfl⟩
theorem ml_RX7_37 : Cond.methodLink RX7 37 yX9_takeFrom ∈ jTB := List.mem_filter.mpr ⟨in_t2 _ (List.mem_of_getElem? (i := 173) (by decide +kernel)), rfl⟩
theorem ml_RX7_43 : Cond.methodLink RX7 43 yX9_take ∈ jTB := List.mem_filter.mpr ⟨in_t2 _ (List.mem_of_getElem? (i := 174) (by decide +kernel)), rfl⟩
theorem ml_RX7_47 : Cond.methodLink RX7 47 yX9_takeNumber ∈ jTB := List.mem_filter.mpr ⟨in_t2 _ (List.mem_of_getElem? (i := 182) (by decide +kernel)), rfl⟩
theorem ml_RX10_394 : Cond.methodLink RX10 394 yX3_readWord ∈ jTB := List.mem_filter.mpr ⟨in_t2 _ (List.mem_of_getElem? (i := 150) (by decide +kernel)), rfl⟩
theorem ml_RX10_398 : Cond.methodLink RX10 398 yX7_readTraveller ∈ jTB := List.mem_filter.mpr ⟨in_t2 _ (List.mem_of_getElem? (i := 169) (by decide +kernel)), rfl⟩
theorem ml_RX10_402 : Cond.methodLink RX10 402 yX2_readErrand ∈ jTB := List.mem_filter.mpr ⟨in_t2 _ (List.mem_of_getElem? (i := 187) (by decide +kernel)), rfl⟩
theorem ml_RX10_406 : Cond.methodLink RX10 406 yX10_readAct ∈ jTB := List.mem_filter.mpr ⟨in_t2 _ (List.mem_of_getElem? (i := 194) (by decide +kernel)), rfl⟩
theorem ml_RX10_381 : Cond.methodLink RX10 381 yX10_readLine ∈ jTB := List.mem_filter.mpr ⟨in_t2 _ (List.mem_of_getElem? (i := 146) (by decide +kernel)), rfl⟩
theorem ml_RX10_384 : Cond.methodLink RX10 384 yX9_fault ∈ jTB := List.mem_filter.mpr ⟨in_t2 _ (List.mem_of_getElem? (i := 201) (by decide +kernel)), rfl⟩
theorem ml_RX10_390 : Cond.methodLink RX10 390 yX9_isOver ∈ jTB := List.mem_filter.mpr ⟨in_t2 _ (List.mem_of_getElem? (i := 205) (by decide +kernel)), rfl⟩
theorem ml_RX9_22 : Cond.methodLink RX9 22 Lib.Math.min.name ∈ jTB := List.mem_filter.mpr ⟨in_t2 _ (List.mem_of_getElem? (i := 139) (by decide +kernel)), rfl⟩
theorem ml_RX10_263 : Cond.methodLink RX10 263 yX9_open ∈ jTB := List.mem_filter.mpr ⟨in_t2 _ (List.mem_of_getElem? (i := 135) (by decide +kernel)), rfl⟩
theorem ml_RX10_377 : Cond.methodLink RX10 377 yX10_linesUpTo ∈ jTB := List.mem_filter.mpr ⟨in_t2 _ (List.mem_of_getElem? (i := 142) (by decide +kernel)), rfl⟩
theorem fl_RX10_127 : jFL RX10 127 3 0 0 false := ⟨RX3, TX3, 8, jcX3, by decide, List.mem_filter.mpr ⟨in_t1 _ (List.mem_of_getElem? (i := 74) (by decide +kernel)), rfl⟩, rfl, rfl⟩
theorem ml_RX10_128 : Cond.methodLink RX10 128 yX10_readLines ∈ jTB := List.mem_filter.mpr ⟨in_t2 _ (List.mem_of_getElem? (i := 131) (by decide +kernel)), rfl⟩
theorem ml_RX8_58 : Cond.methodLink RX8 58 yX9_take ∈ jTB := List.mem_filter.mpr ⟨in_t3 _ (List.mem_of_getElem? (i := 6) (by decide +kernel)), rfl⟩
theorem ml_RX8_41 : Cond.methodLink RX8 41 yX8_readSum ∈ jTB := List.mem_filter.mpr ⟨in_t2 _ (List.mem_of_getElem? (i := 234) (by decide +kernel)), rfl⟩
theorem ml_RX8_44 : Cond.methodLink RX8 44 yX8_takeEither ∈ jTB := List.mem_filter.mpr ⟨in_t3 _ (List.mem_of_getElem? (i := 20) (by decide +kernel)), rfl⟩
theorem ml_RX8_48 : Cond.methodLink RX8 48 yX8_put ∈ jTB := List.mem_filter.mpr ⟨in_t3 _ (List.mem_of_getElem? (i := 12) (by decide +kernel)), rfl⟩
theorem ml_RX8_52 : Cond.methodLink RX8 52 yX8_readProduct ∈ jTB := List.mem_filter.mpr ⟨in_t2 _ (List.mem_of_getElem? (i := 238) (by decide +kernel)), rfl⟩
theorem ml_RX8_55 : Cond.methodLink RX8 55 yX8_readFactor ∈ jTB := List.mem_filter.mpr ⟨in_t3 _ (List.mem_of_getElem? (i := 2) (by decide +kernel)), rfl⟩
theorem ml_RX8_61 : Cond.methodLink RX8 61 yX8_readThing ∈ jTB := List.mem_filter.mpr ⟨in_t3 _ (List.mem_of_getElem? (i := 7) (by decide +kernel)), rfl⟩
theorem ml_RX8_64 : Cond.methodLink RX8 64 yX9_takeNumber ∈ jTB := List.mem_filter.mpr ⟨in_t3 _ (List.mem_of_getElem? (i := 11) (by decide +kernel)), rfl⟩
theorem ml_RX8_68 : Cond.methodLink RX8 68 yX9_peek ∈ jTB := List.mem_filter.mpr ⟨in_t3 _ (List.mem_of_getElem? (i := 16) (by decide +kernel)), rfl⟩
theorem ml_RX8_72 : Cond.methodLink RX8 72 yX8_factOf ∈ jTB := List.mem_filter.mpr ⟨in_t3 _ (List.mem_of_getElem? (i := 17) (by decide +kernel)), rfl⟩
theorem ml_RX8_37 : Cond.methodLink RX8 37 yX8_readComparison ∈ jTB := List.mem_filter.mpr ⟨in_t2 _ (List.mem_of_getElem? (i := 230) (by decide +kernel)), rfl⟩
theorem ml_RX8_31 : Cond.methodLink RX8 31 yX9_isOver ∈ jTB := List.mem_filter.mpr ⟨in_t2 _ (List.mem_of_getElem? (i := 229) (by decide +kernel)), rfl⟩
theorem ml_RX10_415 : Cond.methodLink RX10 415 yX8_read ∈ jTB := List.mem_filter.mpr ⟨in_t2 _ (List.mem_of_getElem? (i := 225) (by decide +kernel)), rfl⟩
theorem ml_RX10_133 : Cond.methodLink RX10 133 yX10_readSpareTariff ∈ jTB := List.mem_filter.mpr ⟨in_t2 _ (List.mem_of_getElem? (i := 221) (by decide +kernel)), rfl⟩
theorem ml_RX10_136 : Cond.methodLink RX10 136 yX10_isWord ∈ jTB := List.mem_filter.mpr ⟨in_t3 _ (List.mem_of_getElem? (i := 42) (by decide +kernel)), rfl⟩
theorem fl_RX10_142 : jFL RX10 142 3 1 2 true := ⟨RX3, TX3, 8, jcX3, by decide, List.mem_filter.mpr ⟨in_t1 _ (List.mem_of_getElem? (i := 79) (by decide +kernel)), rfl⟩, rfl, rfl⟩
theorem ml_RX10_145 : Cond.methodLink RX10 145 yX3_vowelsOf ∈ jTB := List.mem_filter.mpr ⟨in_t3 _ (List.mem_of_getElem? (i := 176) (by decide +kernel)), rfl⟩
theorem fl_RX10_149 : jFL RX10 149 3 2 2 true := ⟨RX3, TX3, 8, jcX3, by decide, List.mem_filter.mpr ⟨in_t1 _ (List.mem_of_getElem? (i := 83) (by decide +kernel)), rfl⟩, rfl, rfl⟩
theorem fl_RX10_152 : jFL RX10 152 3 3 2 true := ⟨RX3, TX3, 8, jcX3, by decide, List.mem_filter.mpr ⟨in_t1 _ (List.mem_of_getElem? (i := 86) (by decide +kernel)), rfl⟩, rfl, rfl⟩
theorem ml_RX10_155 : Cond.methodLink RX10 155 yX3_heardIn ∈ jTB := List.mem_filter.mpr ⟨in_t3 _ (List.mem_of_getElem? (i := 122) (by decide +kernel)), rfl⟩
theorem fl_RX2_41 : jFL RX2 41 2 0 0 false := ⟨RX2, TX2, 6, jcX2, by decide, List.mem_filter.mpr ⟨in_t1 _ (List.mem_of_getElem? (i := 114) (by decide +kernel)), rfl⟩, rfl, rfl⟩
theorem ml_RX10_159 : Cond.methodLink RX10 159 yX10_isTraveller ∈ jTB := List.mem_filter.mpr ⟨in_t3 _ (List.mem_of_getElem? (i := 102) (by decide +kernel)), rfl⟩
theorem fl_RX10_165 : jFL RX10 165 7 3 2 true := ⟨RX7, TX7, 6, jcX7, by decide, List.mem_filter.mpr ⟨in_t1 _ (List.mem_of_getElem? (i := 152) (by decide +kernel)), rfl⟩, rfl, rfl⟩
theorem fl_RX10_168 : jFL RX10 168 7 4 2 true := ⟨RX7, TX7, 6, jcX7, by decide, List.mem_filter.mpr ⟨in_t1 _ (List.mem_of_getElem? (i := 154) (by decide +kernel)), rfl⟩, rfl, rfl⟩
theorem ml_RX10_171 : Cond.methodLink RX10 171 yX2_of ∈ jTB := List.mem_filter.mpr ⟨in_t3 _ (List.mem_of_getElem? (i := 134) (by decide +kernel)), rfl⟩
theorem fl_RX10_174 : jFL RX10 174 7 1 0 false := ⟨RX7, TX7, 6, jcX7, by decide, List.mem_filter.mpr ⟨in_t1 _ (List.mem_of_getElem? (i := 148) (by decide +kernel)), rfl⟩, rfl, rfl⟩
theorem fl_RX10_177 : jFL RX10 177 2 4 2 true := ⟨RX2, TX2, 6, jcX2, by decide, List.mem_filter.mpr ⟨in_t1 _ (List.mem_of_getElem? (i := 123) (by decide +kernel)), rfl⟩, rfl, rfl⟩
theorem ml_RX10_180 : Cond.methodLink RX10 180 yX2_sumOf ∈ jTB := List.mem_filter.mpr ⟨in_t4 _ (List.mem_of_getElem? (i := 115) (by decide +kernel)), rfl⟩
theorem fl_RX10_184 : jFL RX10 184 2 1 2 true := ⟨RX2, TX2, 6, jcX2, by decide, List.mem_filter.mpr ⟨in_t1 _ (List.mem_of_getElem? (i := 117) (by decide +kernel)), rfl⟩, rfl, rfl⟩
theorem fl_RX10_187 : jFL RX10 187 2 2 2 true := ⟨RX2, TX2, 6, jcX2, by decide, List.mem_filter.mpr ⟨in_t1 _ (List.mem_of_getElem? (i := 119) (by decide +kernel)), rfl⟩, rfl, rfl⟩
theorem ml_RX10_191 : Cond.methodLink RX10 191 yX10_isStation ∈ jTB := List.mem_filter.mpr ⟨in_t3 _ (List.mem_of_getElem? (i := 46) (by decide +kernel)), rfl⟩
theorem fl_RX10_194 : jFL RX10 194 7 5 2 true := ⟨RX7, TX7, 6, jcX7, by decide, List.mem_filter.mpr ⟨in_t1 _ (List.mem_of_getElem? (i := 156) (by decide +kernel)), rfl⟩, rfl, rfl⟩
theorem ml_RX10_374 : Cond.methodLink RX10 374 Lib.Math.min.name ∈ jTB := List.mem_filter.mpr ⟨in_t3 _ (List.mem_of_getElem? (i := 33) (by decide +kernel)), rfl⟩
theorem ml_RX10_197 : Cond.methodLink RX10 197 yX10_entry ∈ jTB := List.mem_filter.mpr ⟨in_t3 _ (List.mem_of_getElem? (i := 27) (by decide +kernel)), rfl⟩
theorem ml_RX10_200 : Cond.methodLink RX10 200 yX10_between ∈ jTB := List.mem_filter.mpr ⟨in_t3 _ (List.mem_of_getElem? (i := 30) (by decide +kernel)), rfl⟩
theorem ml_RX10_203 : Cond.methodLink RX10 203 yX10_pursesInAll ∈ jTB := List.mem_filter.mpr ⟨in_t3 _ (List.mem_of_getElem? (i := 34) (by decide +kernel)), rfl⟩
theorem fl_RX6_13 : jFL RX6 13 6 1 0 false := ⟨RX6, TX6, 2, jcX6, by decide, List.mem_filter.mpr ⟨in_t1 _ (List.mem_of_getElem? (i := 59) (by decide +kernel)), rfl⟩, rfl, rfl⟩
theorem ml_RX8_99 : Cond.methodLink RX8 99 yX8_joined ∈ jTB := List.mem_filter.mpr ⟨in_t3 _ (List.mem_of_getElem? (i := 63) (by decide +kernel)), rfl⟩
theorem ml_RX8_75 : Cond.methodLink RX8 75 yJ7_fill_53178 ∈ jTB := List.mem_filter.mpr ⟨in_t3 _ (List.mem_of_getElem? (i := 54) (by decide +kernel)), rfl⟩
theorem fl_RX8_81 : jFL RX8 81 3 1 2 true := ⟨RX3, TX3, 8, jcX3, by decide, List.mem_filter.mpr ⟨in_t1 _ (List.mem_of_getElem? (i := 80) (by decide +kernel)), rfl⟩, rfl, rfl⟩
theorem ml_RX8_86 : Cond.methodLink RX8 86 yX3_letter ∈ jTB := List.mem_filter.mpr ⟨in_t3 _ (List.mem_of_getElem? (i := 57) (by decide +kernel)), rfl⟩
theorem ml_RX8_90 : Cond.methodLink RX8 90 yX3_vowelOf ∈ jTB := List.mem_filter.mpr ⟨in_t3 _ (List.mem_of_getElem? (i := 58) (by decide +kernel)), rfl⟩
theorem ml_RX8_93 : Cond.methodLink RX8 93 yX8_value ∈ jTB := List.mem_filter.mpr ⟨in_t3 _ (List.mem_of_getElem? (i := 59) (by decide +kernel)), rfl⟩
theorem ml_RX8_96 : Cond.methodLinkNest RX8 96 yX10_between "TollOnVowels" ∈ jTB := List.mem_filter.mpr ⟨in_t3 _ (List.mem_of_getElem? (i := 66) (by decide +kernel)), rfl⟩
theorem fl_RX10_206 : jFL RX10 206 7 0 0 false := ⟨RX7, TX7, 6, jcX7, by decide, List.mem_filter.mpr ⟨in_t1 _ (List.mem_of_getElem? (i := 146) (by decide +kernel)), rfl⟩, rfl, rfl⟩
theorem ml_RX10_209 : Cond.methodLink RX10 209 yX8_charge ∈ jTB := List.mem_filter.mpr ⟨in_t3 _ (List.mem_of_getElem? (i := 50) (by decide +kernel)), rfl⟩
theorem ml_RX10_213 : Cond.methodLink RX10 213 yX6_clear ∈ jTB := List.mem_filter.mpr ⟨in_t3 _ (List.mem_of_getElem? (i := 67) (by decide +kernel)), rfl⟩
theorem fl_RX10_216 : jFL RX10 216 8 0 2 true := ⟨RX8, TX8, 5, jcX8, by decide, List.mem_filter.mpr ⟨in_t2 _ (List.mem_of_getElem? (i := 19) (by decide +kernel)), rfl⟩, rfl, rfl⟩
theorem ml_RX10_219 : Cond.methodLink RX10 219 yX6_add ∈ jTB := List.mem_filter.mpr ⟨in_t3 _ (List.mem_of_getElem? (i := 71) (by decide +kernel)), rfl⟩
theorem ml_RX10_419 : Cond.methodLink RX10 419 yX10_move ∈ jTB := List.mem_filter.mpr ⟨in_t3 _ (List.mem_of_getElem? (i := 98) (by decide +kernel)), rfl⟩
theorem fl_RX4_16 : jFL RX4 16 4 1 0 false := ⟨RX4, TX4, 3, jcX4, by decide, List.mem_filter.mpr ⟨in_t1 _ (List.mem_of_getElem? (i := 180) (by decide +kernel)), rfl⟩, rfl, rfl⟩
theorem fl_RX4_20 : jFL RX4 20 4 2 0 false := ⟨RX4, TX4, 3, jcX4, by decide, List.mem_filter.mpr ⟨in_t1 _ (List.mem_of_getElem? (i := 181) (by decide +kernel)), rfl⟩, rfl, rfl⟩
theorem ml_RX4_23 : Cond.methodLink RX4 23 yX4_slot ∈ jTB := List.mem_filter.mpr ⟨in_t3 _ (List.mem_of_getElem? (i := 83) (by decide +kernel)), rfl⟩
theorem fl_RX7_24 : jFL RX7 24 7 0 0 false := ⟨RX7, TX7, 6, jcX7, by decide, List.mem_filter.mpr ⟨in_t1 _ (List.mem_of_getElem? (i := 145) (by decide +kernel)), rfl⟩, rfl, rfl⟩
theorem fl_RX7_28 : jFL RX7 28 7 1 0 false := ⟨RX7, TX7, 6, jcX7, by decide, List.mem_filter.mpr ⟨in_t1 _ (List.mem_of_getElem? (i := 147) (by decide +kernel)), rfl⟩, rfl, rfl⟩
theorem ml_RX7_31 : Cond.methodLink RX7 31 arraycopyName ∈ jTB := List.mem_filter.mpr ⟨in_t3 _ (List.mem_of_getElem? (i := 91) (by decide +kernel)), rfl⟩
theorem ml_RX4_27 : Cond.methodLink RX4 27 yX7_copy ∈ jTB := List.mem_filter.mpr ⟨in_t3 _ (List.mem_of_getElem? (i := 87) (by decide +kernel)), rfl⟩
theorem ml_RX10_223 : Cond.methodLink RX10 223 yX4_mark ∈ jTB := List.mem_filter.mpr ⟨in_t3 _ (List.mem_of_getElem? (i := 79) (by decide +kernel)), rfl⟩
theorem ml_RX10_227 : Cond.methodLink RX10 227 yX10_goes ∈ jTB := List.mem_filter.mpr ⟨in_t3 _ (List.mem_of_getElem? (i := 94) (by decide +kernel)), rfl⟩
theorem ml_RX10_230 : Cond.methodLink RX10 230 yX4_confirm ∈ jTB := List.mem_filter.mpr ⟨in_t3 _ (List.mem_of_getElem? (i := 106) (by decide +kernel)), rfl⟩
theorem ml_RX2_45 : Cond.methodLink RX2 45 yX3_means ∈ jTB := List.mem_filter.mpr ⟨in_t3 _ (List.mem_of_getElem? (i := 130) (by decide +kernel)), rfl⟩
theorem ml_RX10_422 : Cond.methodLink RX10 422 yX2_metBy ∈ jTB := List.mem_filter.mpr ⟨in_t3 _ (List.mem_of_getElem? (i := 126) (by decide +kernel)), rfl⟩
theorem ml_RX6_17 : Cond.methodLink RX6 17 yX6_clear ∈ jTB := List.mem_filter.mpr ⟨in_t3 _ (List.mem_of_getElem? (i := 142) (by decide +kernel)), rfl⟩
theorem ml_RX6_20 : Cond.methodLink RX6 20 yX6_add ∈ jTB := List.mem_filter.mpr ⟨in_t3 _ (List.mem_of_getElem? (i := 143) (by decide +kernel)), rfl⟩
theorem ml_RX10_233 : Cond.methodLink RX10 233 yX10_speak ∈ jTB := List.mem_filter.mpr ⟨in_t3 _ (List.mem_of_getElem? (i := 118) (by decide +kernel)), rfl⟩
theorem ml_RX10_236 : Cond.methodLink RX10 236 yX6_tell ∈ jTB := List.mem_filter.mpr ⟨in_t3 _ (List.mem_of_getElem? (i := 138) (by decide +kernel)), rfl⟩
theorem ml_RX10_279 : Cond.methodLink RX10 279 yX3_means ∈ jTB := List.mem_filter.mpr ⟨in_t3 _ (List.mem_of_getElem? (i := 180) (by decide +kernel)), rfl⟩
theorem ml_RX10_428 : Cond.methodLink RX10 428 yX2_at ∈ jTB := List.mem_filter.mpr ⟨in_t3 _ (List.mem_of_getElem? (i := 160) (by decide +kernel)), rfl⟩
theorem ml_RX10_253 : Cond.methodLink RX10 253 yX10_priceAll ∈ jTB := List.mem_filter.mpr ⟨in_t3 _ (List.mem_of_getElem? (i := 164) (by decide +kernel)), rfl⟩
theorem ml_RX10_431 : Cond.methodLink RX10 431 yX2_firstOf ∈ jTB := List.mem_filter.mpr ⟨in_t3 _ (List.mem_of_getElem? (i := 168) (by decide +kernel)), rfl⟩
theorem ml_RX10_257 : Cond.methodLink RX10 257 yX10_cheapestFor ∈ jTB := List.mem_filter.mpr ⟨in_t3 _ (List.mem_of_getElem? (i := 172) (by decide +kernel)), rfl⟩
theorem ml_RX10_425 : Cond.methodLink RX10 425 yX10_wordForErrand ∈ jTB := List.mem_filter.mpr ⟨in_t3 _ (List.mem_of_getElem? (i := 156) (by decide +kernel)), rfl⟩
theorem ml_RX10_239 : Cond.methodLink RX10 239 yX10_act ∈ jTB := List.mem_filter.mpr ⟨in_t3 _ (List.mem_of_getElem? (i := 152) (by decide +kernel)), rfl⟩
theorem ml_RX10_242 : Cond.methodLink RX10 242 yX6_tell_ ∈ jTB := List.mem_filter.mpr ⟨in_t3 _ (List.mem_of_getElem? (i := 181) (by decide +kernel)), rfl⟩
theorem ml_RX4_31 : Cond.methodLink RX4 31 yX4_backToMark ∈ jTB := List.mem_filter.mpr ⟨in_t3 _ (List.mem_of_getElem? (i := 193) (by decide +kernel)), rfl⟩
theorem ml_RX10_245 : Cond.methodLink RX10 245 yX4_takeBack ∈ jTB := List.mem_filter.mpr ⟨in_t3 _ (List.mem_of_getElem? (i := 189) (by decide +kernel)), rfl⟩
theorem fl_RX3_58 : jFL RX3 58 3 0 0 false := ⟨RX3, TX3, 8, jcX3, by decide, List.mem_filter.mpr ⟨in_t1 _ (List.mem_of_getElem? (i := 76) (by decide +kernel)), rfl⟩, rfl, rfl⟩
theorem ml_RX3_50 : Cond.methodLink RX3 50 yX3_means ∈ jTB := List.mem_filter.mpr ⟨in_t3 _ (List.mem_of_getElem? (i := 208) (by decide +kernel)), rfl⟩
theorem ml_RX10_250 : Cond.methodLink RX10 250 yX10_isMeaning ∈ jTB := List.mem_filter.mpr ⟨in_t3 _ (List.mem_of_getElem? (i := 201) (by decide +kernel)), rfl⟩
theorem ml_RX10_260 : Cond.methodLink RX10 260 yX3_meaningCount ∈ jTB := List.mem_filter.mpr ⟨in_t3 _ (List.mem_of_getElem? (i := 204) (by decide +kernel)), rfl⟩
theorem fl_RX10_437 : jFL RX10 437 5 0 2 true := ⟨RX5, TX5, 9, jcX5, by decide, List.mem_filter.mpr ⟨in_t1 _ (List.mem_of_getElem? (i := 217) (by decide +kernel)), rfl⟩, rfl, rfl⟩
theorem fl_RX10_440 : jFL RX10 440 5 1 2 true := ⟨RX5, TX5, 9, jcX5, by decide, List.mem_filter.mpr ⟨in_t1 _ (List.mem_of_getElem? (i := 219) (by decide +kernel)), rfl⟩, rfl, rfl⟩
theorem fl_RX5_38 : jFL RX5 38 3 2 2 true := ⟨RX3, TX3, 8, jcX3, by decide, List.mem_filter.mpr ⟨in_t1 _ (List.mem_of_getElem? (i := 82) (by decide +kernel)), rfl⟩, rfl, rfl⟩
theorem ml_RX5_41 : Cond.methodLink RX5 41 yX3_isCompound ∈ jTB := List.mem_filter.mpr ⟨in_t3 _ (List.mem_of_getElem? (i := 225) (by decide +kernel)), rfl⟩
theorem fl_RX5_45 : jFL RX5 45 3 3 2 true := ⟨RX3, TX3, 8, jcX3, by decide, List.mem_filter.mpr ⟨in_t1 _ (List.mem_of_getElem? (i := 85) (by decide +kernel)), rfl⟩, rfl, rfl⟩
theorem cn_RX5_27 : Cond.constant RX5 27 1000000 ∈ jTB := List.mem_filter.mpr ⟨in_t3 _ (List.mem_of_getElem? (i := 221) (by decide +kernel)), rfl⟩
theorem fl_RX5_28 : jFL RX5 28 3 0 0 false := ⟨RX3, TX3, 8, jcX3, by decide, List.mem_filter.mpr ⟨in_t1 _ (List.mem_of_getElem? (i := 73) (by decide +kernel)), rfl⟩, rfl, rfl⟩
theorem ml_RX5_34 : Cond.methodLink RX5 34 yX5_toldBy ∈ jTB := List.mem_filter.mpr ⟨in_t3 _ (List.mem_of_getElem? (i := 222) (by decide +kernel)), rfl⟩
theorem fl_RX10_269 : jFL RX10 269 9 0 2 true := ⟨RX9, TX9, 4, jcX9, by decide, List.mem_filter.mpr ⟨in_t1 _ (List.mem_of_getElem? (i := 36) (by decide +kernel)), rfl⟩, rfl, rfl⟩
theorem ml_RX10_272 : Cond.methodLink RX10 272 yX5_sentencePrice ∈ jTB := List.mem_filter.mpr ⟨in_t3 _ (List.mem_of_getElem? (i := 217) (by decide +kernel)), rfl⟩
theorem ml_RX10_276 : Cond.methodLink RX10 276 yX10_tellSentence ∈ jTB := List.mem_filter.mpr ⟨in_t3 _ (List.mem_of_getElem? (i := 229) (by decide +kernel)), rfl⟩
theorem ml_RX10_266 : Cond.methodLink RX10 266 yX10_readDigits ∈ jTB := List.mem_filter.mpr ⟨in_t3 _ (List.mem_of_getElem? (i := 213) (by decide +kernel)), rfl⟩
theorem ml_RX10_283 : Cond.methodLink RX10 283 yX10_isShorter ∈ jTB := List.mem_filter.mpr ⟨in_t4 _ (List.mem_of_getElem? (i := 1) (by decide +kernel)), rfl⟩
theorem ml_RX0_44 : Cond.methodLink RX0 44 Lib.Math.min.name ∈ jTB := List.mem_filter.mpr ⟨in_t4 _ (List.mem_of_getElem? (i := 22) (by decide +kernel)), rfl⟩
theorem fl_RX0_32 : jFL RX0 32 3 1 2 true := ⟨RX3, TX3, 8, jcX3, by decide, List.mem_filter.mpr ⟨in_t1 _ (List.mem_of_getElem? (i := 78) (by decide +kernel)), rfl⟩, rfl, rfl⟩
theorem ml_RX0_37 : Cond.methodLink RX0 37 yX3_letter ∈ jTB := List.mem_filter.mpr ⟨in_t4 _ (List.mem_of_getElem? (i := 16) (by decide +kernel)), rfl⟩
theorem ml_RX0_40 : Cond.methodLink RX0 40 yX3_vowelOf ∈ jTB := List.mem_filter.mpr ⟨in_t4 _ (List.mem_of_getElem? (i := 17) (by decide +kernel)), rfl⟩
theorem ml_RX0_24 : Cond.methodLink RX0 24 yX0_spell ∈ jTB := List.mem_filter.mpr ⟨in_t4 _ (List.mem_of_getElem? (i := 13) (by decide +kernel)), rfl⟩
theorem ml_RX0_28 : Cond.methodLink RX0 28 yX0_fewest ∈ jTB := List.mem_filter.mpr ⟨in_t4 _ (List.mem_of_getElem? (i := 18) (by decide +kernel)), rfl⟩
theorem ml_RX10_286 : Cond.methodLink RX10 286 yX0_ofVowels ∈ jTB := List.mem_filter.mpr ⟨in_t4 _ (List.mem_of_getElem? (i := 9) (by decide +kernel)), rfl⟩
theorem ml_RX10_290 : Cond.methodLink RX10 290 yX0_ofLetters ∈ jTB := List.mem_filter.mpr ⟨in_t4 _ (List.mem_of_getElem? (i := 23) (by decide +kernel)), rfl⟩
theorem ml_RX3_54 : Cond.methodLink RX3 54 yX3_isCompound ∈ jTB := List.mem_filter.mpr ⟨in_t4 _ (List.mem_of_getElem? (i := 35) (by decide +kernel)), rfl⟩
theorem ml_RX10_293 : Cond.methodLink RX10 293 yX3_shareMeaning ∈ jTB := List.mem_filter.mpr ⟨in_t4 _ (List.mem_of_getElem? (i := 31) (by decide +kernel)), rfl⟩
theorem ml_RX10_468 : Cond.methodLink RX10 468 Lib.MathLoose.max_long.x ∈ jTB := List.mem_filter.mpr ⟨in_t4 _ (List.mem_of_getElem? (i := 46) (by decide +kernel)), rfl⟩
theorem ml_RX10_296 : Cond.methodLink RX10 296 yX10_power ∈ jTB := List.mem_filter.mpr ⟨in_t4 _ (List.mem_of_getElem? (i := 40) (by decide +kernel)), rfl⟩
theorem ml_RX10_300 : Cond.methodLink RX10 300 yX10_commonDivisor ∈ jTB := List.mem_filter.mpr ⟨in_t4 _ (List.mem_of_getElem? (i := 43) (by decide +kernel)), rfl⟩
theorem cn_RJ6_265 : Cond.constant RJ6 265 1431655765 ∈ jTB := List.mem_filter.mpr ⟨in_t4 _ (List.mem_of_getElem? (i := 61) (by decide +kernel)), rfl⟩
theorem cn_RJ6_266 : Cond.constant RJ6 266 858993459 ∈ jTB := List.mem_filter.mpr ⟨in_t4 _ (List.mem_of_getElem? (i := 62) (by decide +kernel)), rfl⟩
theorem cn_RJ6_267 : Cond.constant RJ6 267 252645135 ∈ jTB := List.mem_filter.mpr ⟨in_t4 _ (List.mem_of_getElem? (i := 63) (by decide +kernel)), rfl⟩
theorem fl_RX0_49 : jFL RX0 49 3 0 0 false := ⟨RX3, TX3, 8, jcX3, by decide, List.mem_filter.mpr ⟨in_t1 _ (List.mem_of_getElem? (i := 75) (by decide +kernel)), rfl⟩, rfl, rfl⟩
theorem ml_RX0_53 : Cond.methodLink RX0 53 yX0_ofLetters ∈ jTB := List.mem_filter.mpr ⟨in_t4 _ (List.mem_of_getElem? (i := 57) (by decide +kernel)), rfl⟩
theorem ml_RX10_304 : Cond.methodLink RX10 304 yX0_markFar ∈ jTB := List.mem_filter.mpr ⟨in_t4 _ (List.mem_of_getElem? (i := 53) (by decide +kernel)), rfl⟩
theorem ml_RX10_308 : Cond.methodLink RX10 308 yJ6_bitCount_0f7a4 ∈ jTB := List.mem_filter.mpr ⟨in_t4 _ (List.mem_of_getElem? (i := 58) (by decide +kernel)), rfl⟩
theorem ml_RX10_313 : Cond.methodLink RX10 313 yX0_areFar ∈ jTB := List.mem_filter.mpr ⟨in_t4 _ (List.mem_of_getElem? (i := 64) (by decide +kernel)), rfl⟩
theorem ml_RX10_316 : Cond.methodLink RX10 316 yX10_priceOf ∈ jTB := List.mem_filter.mpr ⟨in_t4 _ (List.mem_of_getElem? (i := 68) (by decide +kernel)), rfl⟩
theorem fl_RX5_48 : jFL RX5 48 5 7 0 false := ⟨RX5, TX5, 9, jcX5, by decide, List.mem_filter.mpr ⟨in_t1 _ (List.mem_of_getElem? (i := 227) (by decide +kernel)), rfl⟩, rfl, rfl⟩
theorem ml_RX10_456 : Cond.methodLink RX10 456 yX5_sayAt ∈ jTB := List.mem_filter.mpr ⟨in_t4 _ (List.mem_of_getElem? (i := 95) (by decide +kernel)), rfl⟩
theorem ml_RX5_51 : Cond.methodLink RX5 51 yJ6_bitCount_0f7a4 ∈ jTB := List.mem_filter.mpr ⟨in_t4 _ (List.mem_of_getElem? (i := 84) (by decide +kernel)), rfl⟩
theorem fl_RX5_57 : jFL RX5 57 5 3 0 false := ⟨RX5, TX5, 9, jcX5, by decide, List.mem_filter.mpr ⟨in_t1 _ (List.mem_of_getElem? (i := 222) (by decide +kernel)), rfl⟩, rfl, rfl⟩
theorem fl_RX5_60 : jFL RX5 60 5 8 0 false := ⟨RX5, TX5, 9, jcX5, by decide, List.mem_filter.mpr ⟨in_t1 _ (List.mem_of_getElem? (i := 228) (by decide +kernel)), rfl⟩, rfl, rfl⟩
theorem fl_RX5_63 : jFL RX5 63 5 2 0 false := ⟨RX5, TX5, 9, jcX5, by decide, List.mem_filter.mpr ⟨in_t1 _ (List.mem_of_getElem? (i := 220) (by decide +kernel)), rfl⟩, rfl, rfl⟩
theorem ml_RX5_66 : Cond.methodLink RX5 66 yJ7_fill_53178 ∈ jTB := List.mem_filter.mpr ⟨in_t4 _ (List.mem_of_getElem? (i := 85) (by decide +kernel)), rfl⟩
theorem ml_RX5_72 : Cond.methodLink RX5 72 Lib.Math.min.name ∈ jTB := List.mem_filter.mpr ⟨in_t4 _ (List.mem_of_getElem? (i := 90) (by decide +kernel)), rfl⟩
theorem ml_RX10_443 : Cond.methodLink RX10 443 yX5_begin ∈ jTB := List.mem_filter.mpr ⟨in_t4 _ (List.mem_of_getElem? (i := 80) (by decide +kernel)), rfl⟩
theorem ml_RX10_450 : Cond.methodLink RX10 450 yX10_sayThere ∈ jTB := List.mem_filter.mpr ⟨in_t4 _ (List.mem_of_getElem? (i := 91) (by decide +kernel)), rfl⟩
theorem ml_RX10_453 : Cond.methodLink RX10 453 yX5_isCheaperNow ∈ jTB := List.mem_filter.mpr ⟨in_t4 _ (List.mem_of_getElem? (i := 99) (by decide +kernel)), rfl⟩
theorem ml_RX10_447 : Cond.methodLink RX10 447 yX5_walkOn ∈ jTB := List.mem_filter.mpr ⟨in_t4 _ (List.mem_of_getElem? (i := 86) (by decide +kernel)), rfl⟩
theorem ml_RX10_319 : Cond.methodLink RX10 319 yX10_soonest ∈ jTB := List.mem_filter.mpr ⟨in_t4 _ (List.mem_of_getElem? (i := 76) (by decide +kernel)), rfl⟩
theorem fl_RX10_323 : jFL RX10 323 5 3 0 false := ⟨RX5, TX5, 9, jcX5, by decide, List.mem_filter.mpr ⟨in_t1 _ (List.mem_of_getElem? (i := 223) (by decide +kernel)), rfl⟩, rfl, rfl⟩
theorem fl_RX10_326 : jFL RX10 326 5 2 0 false := ⟨RX5, TX5, 9, jcX5, by decide, List.mem_filter.mpr ⟨in_t1 _ (List.mem_of_getElem? (i := 221) (by decide +kernel)), rfl⟩, rfl, rfl⟩
theorem fl_RX10_332 : jFL RX10 332 2 5 2 true := ⟨RX2, TX2, 6, jcX2, by decide, List.mem_filter.mpr ⟨in_t1 _ (List.mem_of_getElem? (i := 125) (by decide +kernel)), rfl⟩, rfl, rfl⟩
theorem ml_RX10_329 : Cond.methodLink RX10 329 yX10_openFor ∈ jTB := List.mem_filter.mpr ⟨in_t4 _ (List.mem_of_getElem? (i := 111) (by decide +kernel)), rfl⟩
theorem ml_RX10_335 : Cond.methodLink RX10 335 yX10_incomeBy ∈ jTB := List.mem_filter.mpr ⟨in_t4 _ (List.mem_of_getElem? (i := 123) (by decide +kernel)), rfl⟩
theorem ml_RX10_459 : Cond.methodLink RX10 459 yX10_leavesNone ∈ jTB := List.mem_filter.mpr ⟨in_t4 _ (List.mem_of_getElem? (i := 143) (by decide +kernel)), rfl⟩
theorem ml_RX10_465 : Cond.methodLink RX10 465 yX10_pickNext ∈ jTB := List.mem_filter.mpr ⟨in_t4 _ (List.mem_of_getElem? (i := 151) (by decide +kernel)), rfl⟩
theorem fl_RX10_364 : jFL RX10 364 6 1 0 false := ⟨RX6, TX6, 2, jcX6, by decide, List.mem_filter.mpr ⟨in_t1 _ (List.mem_of_getElem? (i := 60) (by decide +kernel)), rfl⟩, rfl, rfl⟩
theorem ml_RX10_462 : Cond.methodLink RX10 462 yX10_tellPicked ∈ jTB := List.mem_filter.mpr ⟨in_t4 _ (List.mem_of_getElem? (i := 147) (by decide +kernel)), rfl⟩
theorem ml_RX10_338 : Cond.methodLink RX10 338 yX10_waysToSay ∈ jTB := List.mem_filter.mpr ⟨in_t4 _ (List.mem_of_getElem? (i := 139) (by decide +kernel)), rfl⟩
theorem ml_RX3_62 : Cond.methodLink RX3 62 yJ7_fill_53178 ∈ jTB := List.mem_filter.mpr ⟨in_t4 _ (List.mem_of_getElem? (i := 163) (by decide +kernel)), rfl⟩
theorem ml_RX3_68 : Cond.methodLink RX3 68 yX3_heardIn ∈ jTB := List.mem_filter.mpr ⟨in_t4 _ (List.mem_of_getElem? (i := 164) (by decide +kernel)), rfl⟩
theorem ml_RX3_71 : Cond.methodLink RX3 71 Lib.Math.max.name ∈ jTB := List.mem_filter.mpr ⟨in_t4 _ (List.mem_of_getElem? (i := 165) (by decide +kernel)), rfl⟩
theorem ml_RX10_341 : Cond.methodLink RX10 341 yX3_mostAlike ∈ jTB := List.mem_filter.mpr ⟨in_t4 _ (List.mem_of_getElem? (i := 159) (by decide +kernel)), rfl⟩
theorem fl_RX1_7 : jFL RX1 7 1 0 0 false := ⟨RX1, TX1, 1, jcX1, by decide, List.mem_filter.mpr ⟨in_t4 _ (List.mem_of_getElem? (i := 176) (by decide +kernel)), rfl⟩, rfl, rfl⟩
theorem cn_RX1_13 : Cond.constant RX1 13 1103515245 ∈ jTB := List.mem_filter.mpr ⟨in_t4 _ (List.mem_of_getElem? (i := 188) (by decide +kernel)), rfl⟩
theorem ml_RX10_434 : Cond.methodLink RX10 434 yX1_below ∈ jTB := List.mem_filter.mpr ⟨in_t4 _ (List.mem_of_getElem? (i := 184) (by decide +kernel)), rfl⟩
theorem ml_RX1_1 : Cond.methodLink RX1 1 Lib.objectInit ∈ jTB := List.mem_filter.mpr ⟨in_t4 _ (List.mem_of_getElem? (i := 175) (by decide +kernel)), rfl⟩
theorem nw_RX10_344 : jNW RX10 344 1 1 := ⟨RX1, TX1, jcX1, List.mem_filter.mpr ⟨in_t4 _ (List.mem_of_getElem? (i := 170) (by decide +kernel)), rfl⟩, List.mem_filter.mpr ⟨in_t4 _ (List.mem_of_getElem? (i := 171) (by decide +kernel)), rfl⟩, List.mem_filter.mpr ⟨in_t1 _ (List.mem_of_getElem? (i := 20) (by decide +kernel)), rfl⟩, by decide +kernel⟩
theorem ml_RX10_346 : Cond.methodLink RX10 346 yX1_init ∈ jTB := List.mem_filter.mpr ⟨in_t4 _ (List.mem_of_getElem? (i := 172) (by decide +kernel)), rfl⟩
theorem ml_RX10_348 : Cond.methodLink RX10 348 yX10_drawnAct ∈ jTB := List.mem_filter.mpr ⟨in_t4 _ (List.mem_of_getElem? (i := 180) (by decide +kernel)), rfl⟩
theorem ml_RX10_352 : Cond.methodLink RX10 352 yX4_backToMark ∈ jTB := List.mem_filter.mpr ⟨in_t4 _ (List.mem_of_getElem? (i := 189) (by decide +kernel)), rfl⟩
theorem ml_RX10_355 : Cond.methodLink RX10 355 yX7_copy ∈ jTB := List.mem_filter.mpr ⟨in_t4 _ (List.mem_of_getElem? (i := 194) (by decide +kernel)), rfl⟩
theorem ml_RX10_358 : Cond.methodLink RX10 358 yX7_vowelsInBooks ∈ jTB := List.mem_filter.mpr ⟨in_t4 _ (List.mem_of_getElem? (i := 203) (by decide +kernel)), rfl⟩
theorem ml_RX10_361 : Cond.methodLink RX10 361 yX3_compounds ∈ jTB := List.mem_filter.mpr ⟨in_t4 _ (List.mem_of_getElem? (i := 207) (by decide +kernel)), rfl⟩
theorem fl_RX10_365 : jFL RX10 365 6 0 2 true := ⟨RX6, TX6, 2, jcX6, by decide, List.mem_filter.mpr ⟨in_t1 _ (List.mem_of_getElem? (i := 58) (by decide +kernel)), rfl⟩, rfl, rfl⟩
theorem ml_RX11_3 : Cond.methodLink RX11 3 Lib.objectInit ∈ jTB := List.mem_filter.mpr ⟨in_t5 _ (List.mem_of_getElem? (i := 73) (by decide +kernel)), rfl⟩
theorem fl_RX11_9 : jFL RX11 9 11 0 2 true := ⟨RX11, TX11, 56, jcX11, by decide, List.mem_filter.mpr ⟨in_t5 _ (List.mem_of_getElem? (i := 74) (by decide +kernel)), rfl⟩, rfl, rfl⟩
theorem fl_RX11_13 : jFL RX11 13 11 1 0 false := ⟨RX11, TX11, 56, jcX11, by decide, List.mem_filter.mpr ⟨in_t5 _ (List.mem_of_getElem? (i := 75) (by decide +kernel)), rfl⟩, rfl, rfl⟩
theorem fl_RX11_17 : jFL RX11 17 11 3 2 true := ⟨RX11, TX11, 56, jcX11, by decide, List.mem_filter.mpr ⟨in_t5 _ (List.mem_of_getElem? (i := 77) (by decide +kernel)), rfl⟩, rfl, rfl⟩
theorem fl_RX11_21 : jFL RX11 21 11 4 2 true := ⟨RX11, TX11, 56, jcX11, by decide, List.mem_filter.mpr ⟨in_t5 _ (List.mem_of_getElem? (i := 78) (by decide +kernel)), rfl⟩, rfl, rfl⟩
theorem fl_RX11_24 : jFL RX11 24 11 5 2 true := ⟨RX11, TX11, 56, jcX11, by decide, List.mem_filter.mpr ⟨in_t5 _ (List.mem_of_getElem? (i := 79) (by decide +kernel)), rfl⟩, rfl, rfl⟩
theorem fl_RX11_27 : jFL RX11 27 11 8 2 true := ⟨RX11, TX11, 56, jcX11, by decide, List.mem_filter.mpr ⟨in_t5 _ (List.mem_of_getElem? (i := 82) (by decide +kernel)), rfl⟩, rfl, rfl⟩
theorem fl_RX11_30 : jFL RX11 30 11 9 2 true := ⟨RX11, TX11, 56, jcX11, by decide, List.mem_filter.mpr ⟨in_t5 _ (List.mem_of_getElem? (i := 83) (by decide +kernel)), rfl⟩, rfl, rfl⟩
theorem fl_RX11_33 : jFL RX11 33 11 11 2 true := ⟨RX11, TX11, 56, jcX11, by decide, List.mem_filter.mpr ⟨in_t5 _ (List.mem_of_getElem? (i := 85) (by decide +kernel)), rfl⟩, rfl, rfl⟩
theorem fl_RX11_37 : jFL RX11 37 11 19 2 true := ⟨RX11, TX11, 56, jcX11, by decide, List.mem_filter.mpr ⟨in_t5 _ (List.mem_of_getElem? (i := 93) (by decide +kernel)), rfl⟩, rfl, rfl⟩
theorem fl_RX11_40 : jFL RX11 40 11 20 2 true := ⟨RX11, TX11, 56, jcX11, by decide, List.mem_filter.mpr ⟨in_t5 _ (List.mem_of_getElem? (i := 94) (by decide +kernel)), rfl⟩, rfl, rfl⟩
theorem fl_RX11_43 : jFL RX11 43 11 21 2 true := ⟨RX11, TX11, 56, jcX11, by decide, List.mem_filter.mpr ⟨in_t5 _ (List.mem_of_getElem? (i := 95) (by decide +kernel)), rfl⟩, rfl, rfl⟩
theorem fl_RX11_46 : jFL RX11 46 11 22 2 false := ⟨RX11, TX11, 56, jcX11, by decide, List.mem_filter.mpr ⟨in_t5 _ (List.mem_of_getElem? (i := 96) (by decide +kernel)), rfl⟩, rfl, rfl⟩
theorem fl_RX11_49 : jFL RX11 49 11 23 2 false := ⟨RX11, TX11, 56, jcX11, by decide, List.mem_filter.mpr ⟨in_t5 _ (List.mem_of_getElem? (i := 97) (by decide +kernel)), rfl⟩, rfl, rfl⟩
theorem fl_RX11_52 : jFL RX11 52 11 26 2 true := ⟨RX11, TX11, 56, jcX11, by decide, List.mem_filter.mpr ⟨in_t5 _ (List.mem_of_getElem? (i := 100) (by decide +kernel)), rfl⟩, rfl, rfl⟩
theorem fl_RX11_55 : jFL RX11 55 11 27 2 true := ⟨RX11, TX11, 56, jcX11, by decide, List.mem_filter.mpr ⟨in_t5 _ (List.mem_of_getElem? (i := 101) (by decide +kernel)), rfl⟩, rfl, rfl⟩
theorem fl_RX11_58 : jFL RX11 58 11 28 2 true := ⟨RX11, TX11, 56, jcX11, by decide, List.mem_filter.mpr ⟨in_t5 _ (List.mem_of_getElem? (i := 102) (by decide +kernel)), rfl⟩, rfl, rfl⟩
theorem fl_RX11_61 : jFL RX11 61 11 30 2 true := ⟨RX11, TX11, 56, jcX11, by decide, List.mem_filter.mpr ⟨in_t5 _ (List.mem_of_getElem? (i := 104) (by decide +kernel)), rfl⟩, rfl, rfl⟩
theorem fl_RX11_64 : jFL RX11 64 11 32 2 true := ⟨RX11, TX11, 56, jcX11, by decide, List.mem_filter.mpr ⟨in_t5 _ (List.mem_of_getElem? (i := 106) (by decide +kernel)), rfl⟩, rfl, rfl⟩
theorem fl_RX11_67 : jFL RX11 67 11 34 2 true := ⟨RX11, TX11, 56, jcX11, by decide, List.mem_filter.mpr ⟨in_t5 _ (List.mem_of_getElem? (i := 108) (by decide +kernel)), rfl⟩, rfl, rfl⟩
theorem fl_RX11_70 : jFL RX11 70 11 35 2 true := ⟨RX11, TX11, 56, jcX11, by decide, List.mem_filter.mpr ⟨in_t5 _ (List.mem_of_getElem? (i := 109) (by decide +kernel)), rfl⟩, rfl, rfl⟩
theorem fl_RX11_73 : jFL RX11 73 11 36 2 true := ⟨RX11, TX11, 56, jcX11, by decide, List.mem_filter.mpr ⟨in_t5 _ (List.mem_of_getElem? (i := 110) (by decide +kernel)), rfl⟩, rfl, rfl⟩
theorem fl_RX11_76 : jFL RX11 76 11 37 2 true := ⟨RX11, TX11, 56, jcX11, by decide, List.mem_filter.mpr ⟨in_t5 _ (List.mem_of_getElem? (i := 111) (by decide +kernel)), rfl⟩, rfl, rfl⟩
theorem fl_RX11_79 : jFL RX11 79 11 38 2 true := ⟨RX11, TX11, 56, jcX11, by decide, List.mem_filter.mpr ⟨in_t5 _ (List.mem_of_getElem? (i := 112) (by decide +kernel)), rfl⟩, rfl, rfl⟩
theorem fl_RX11_82 : jFL RX11 82 11 39 2 true := ⟨RX11, TX11, 56, jcX11, by decide, List.mem_filter.mpr ⟨in_t5 _ (List.mem_of_getElem? (i := 113) (by decide +kernel)), rfl⟩, rfl, rfl⟩
theorem fl_RX11_85 : jFL RX11 85 11 44 2 true := ⟨RX11, TX11, 56, jcX11, by decide, List.mem_filter.mpr ⟨in_t5 _ (List.mem_of_getElem? (i := 118) (by decide +kernel)), rfl⟩, rfl, rfl⟩
theorem fl_RX11_88 : jFL RX11 88 11 45 2 true := ⟨RX11, TX11, 56, jcX11, by decide, List.mem_filter.mpr ⟨in_t5 _ (List.mem_of_getElem? (i := 119) (by decide +kernel)), rfl⟩, rfl, rfl⟩
theorem fl_RX11_91 : jFL RX11 91 11 46 2 true := ⟨RX11, TX11, 56, jcX11, by decide, List.mem_filter.mpr ⟨in_t5 _ (List.mem_of_getElem? (i := 120) (by decide +kernel)), rfl⟩, rfl, rfl⟩
theorem fl_RX11_94 : jFL RX11 94 11 47 2 true := ⟨RX11, TX11, 56, jcX11, by decide, List.mem_filter.mpr ⟨in_t5 _ (List.mem_of_getElem? (i := 121) (by decide +kernel)), rfl⟩, rfl, rfl⟩
theorem fl_RX11_97 : jFL RX11 97 11 51 2 true := ⟨RX11, TX11, 56, jcX11, by decide, List.mem_filter.mpr ⟨in_t5 _ (List.mem_of_getElem? (i := 125) (by decide +kernel)), rfl⟩, rfl, rfl⟩
theorem fl_RX11_100 : jFL RX11 100 11 53 2 true := ⟨RX11, TX11, 56, jcX11, by decide, List.mem_filter.mpr ⟨in_t5 _ (List.mem_of_getElem? (i := 127) (by decide +kernel)), rfl⟩, rfl, rfl⟩
theorem fl_RX11_103 : jFL RX11 103 11 54 2 true := ⟨RX11, TX11, 56, jcX11, by decide, List.mem_filter.mpr ⟨in_t5 _ (List.mem_of_getElem? (i := 128) (by decide +kernel)), rfl⟩, rfl, rfl⟩
theorem fl_RX11_107 : jFL RX11 107 11 55 2 true := ⟨RX11, TX11, 56, jcX11, by decide, List.mem_filter.mpr ⟨in_t5 _ (List.mem_of_getElem? (i := 129) (by decide +kernel)), rfl⟩, rfl, rfl⟩
theorem fl_RX11_110 : jFL RX11 110 11 13 0 false := ⟨RX11, TX11, 56, jcX11, by decide, List.mem_filter.mpr ⟨in_t5 _ (List.mem_of_getElem? (i := 87) (by decide +kernel)), rfl⟩, rfl, rfl⟩
theorem fl_RX11_113 : jFL RX11 113 11 12 0 false := ⟨RX11, TX11, 56, jcX11, by decide, List.mem_filter.mpr ⟨in_t5 _ (List.mem_of_getElem? (i := 86) (by decide +kernel)), rfl⟩, rfl, rfl⟩
theorem ml_RX11_116 : Cond.methodLink RX11 116 yX11_in ∈ jTB := List.mem_filter.mpr ⟨in_t6 _ (List.mem_of_getElem? (i := 16) (by decide +kernel)), rfl⟩
theorem fl_RX11_120 : jFL RX11 120 11 2 0 false := ⟨RX11, TX11, 56, jcX11, by decide, List.mem_filter.mpr ⟨in_t5 _ (List.mem_of_getElem? (i := 76) (by decide +kernel)), rfl⟩, rfl, rfl⟩
theorem fl_RX11_123 : jFL RX11 123 11 6 0 false := ⟨RX11, TX11, 56, jcX11, by decide, List.mem_filter.mpr ⟨in_t5 _ (List.mem_of_getElem? (i := 80) (by decide +kernel)), rfl⟩, rfl, rfl⟩
theorem fl_RX11_126 : jFL RX11 126 11 10 0 false := ⟨RX11, TX11, 56, jcX11, by decide, List.mem_filter.mpr ⟨in_t5 _ (List.mem_of_getElem? (i := 84) (by decide +kernel)), rfl⟩, rfl, rfl⟩
theorem fl_RX11_129 : jFL RX11 129 11 14 2 false := ⟨RX11, TX11, 56, jcX11, by decide, List.mem_filter.mpr ⟨in_t5 _ (List.mem_of_getElem? (i := 88) (by decide +kernel)), rfl⟩, rfl, rfl⟩
theorem fl_RX11_132 : jFL RX11 132 11 15 0 false := ⟨RX11, TX11, 56, jcX11, by decide, List.mem_filter.mpr ⟨in_t5 _ (List.mem_of_getElem? (i := 89) (by decide +kernel)), rfl⟩, rfl, rfl⟩
theorem fl_RX11_135 : jFL RX11 135 11 16 0 false := ⟨RX11, TX11, 56, jcX11, by decide, List.mem_filter.mpr ⟨in_t5 _ (List.mem_of_getElem? (i := 90) (by decide +kernel)), rfl⟩, rfl, rfl⟩
theorem fl_RX11_138 : jFL RX11 138 11 17 0 false := ⟨RX11, TX11, 56, jcX11, by decide, List.mem_filter.mpr ⟨in_t5 _ (List.mem_of_getElem? (i := 91) (by decide +kernel)), rfl⟩, rfl, rfl⟩
theorem fl_RX11_141 : jFL RX11 141 11 18 0 false := ⟨RX11, TX11, 56, jcX11, by decide, List.mem_filter.mpr ⟨in_t5 _ (List.mem_of_getElem? (i := 92) (by decide +kernel)), rfl⟩, rfl, rfl⟩
theorem ml_RX11_144 : Cond.methodLink RX11 144 yX11_begin ∈ jTB := List.mem_filter.mpr ⟨in_t6 _ (List.mem_of_getElem? (i := 31) (by decide +kernel)), rfl⟩
theorem ml_RX11_148 : Cond.methodLink RX11 148 yX11_fine ∈ jTB := List.mem_filter.mpr ⟨in_t6 _ (List.mem_of_getElem? (i := 35) (by decide +kernel)), rfl⟩
theorem ml_RX11_152 : Cond.methodLink RX11 152 yX11_here ∈ jTB := List.mem_filter.mpr ⟨in_t6 _ (List.mem_of_getElem? (i := 51) (by decide +kernel)), rfl⟩
theorem ml_RX11_156 : Cond.methodLink RX11 156 yX11_passes ∈ jTB := List.mem_filter.mpr ⟨in_t6 _ (List.mem_of_getElem? (i := 55) (by decide +kernel)), rfl⟩
theorem ml_RX11_160 : Cond.methodLink RX11 160 yX11_fault ∈ jTB := List.mem_filter.mpr ⟨in_t6 _ (List.mem_of_getElem? (i := 39) (by decide +kernel)), rfl⟩
theorem ml_RX11_164 : Cond.methodLink RX11 164 yX11_oneOf ∈ jTB := List.mem_filter.mpr ⟨in_t6 _ (List.mem_of_getElem? (i := 47) (by decide +kernel)), rfl⟩
theorem fl_RX11_168 : jFL RX11 168 11 7 0 false := ⟨RX11, TX11, 56, jcX11, by decide, List.mem_filter.mpr ⟨in_t5 _ (List.mem_of_getElem? (i := 81) (by decide +kernel)), rfl⟩, rfl, rfl⟩
theorem fl_RX11_171 : jFL RX11 171 11 29 0 false := ⟨RX11, TX11, 56, jcX11, by decide, List.mem_filter.mpr ⟨in_t5 _ (List.mem_of_getElem? (i := 103) (by decide +kernel)), rfl⟩, rfl, rfl⟩
theorem fl_RX11_174 : jFL RX11 174 11 52 0 false := ⟨RX11, TX11, 56, jcX11, by decide, List.mem_filter.mpr ⟨in_t5 _ (List.mem_of_getElem? (i := 126) (by decide +kernel)), rfl⟩, rfl, rfl⟩
theorem ml_RX11_177 : Cond.methodLink RX11 177 yX11_beginText ∈ jTB := List.mem_filter.mpr ⟨in_t6 _ (List.mem_of_getElem? (i := 27) (by decide +kernel)), rfl⟩
theorem ml_RX11_180 : Cond.methodLink RX11 180 yX11_readWord ∈ jTB := List.mem_filter.mpr ⟨in_t6 _ (List.mem_of_getElem? (i := 43) (by decide +kernel)), rfl⟩
theorem ml_RX11_183 : Cond.methodLink RX11 183 yX11_wasRight ∈ jTB := List.mem_filter.mpr ⟨in_t6 _ (List.mem_of_getElem? (i := 59) (by decide +kernel)), rfl⟩
theorem ml_RX11_186 : Cond.methodLink RX11 186 yX11_need ∈ jTB := List.mem_filter.mpr ⟨in_t6 _ (List.mem_of_getElem? (i := 67) (by decide +kernel)), rfl⟩
theorem ml_RX11_190 : Cond.methodLink RX11 190 yX11_number ∈ jTB := List.mem_filter.mpr ⟨in_t6 _ (List.mem_of_getElem? (i := 71) (by decide +kernel)), rfl⟩
theorem ml_RX11_194 : Cond.methodLink RX11 194 yX11_sum ∈ jTB := List.mem_filter.mpr ⟨in_t6 _ (List.mem_of_getElem? (i := 91) (by decide +kernel)), rfl⟩
theorem ml_RX11_197 : Cond.methodLink RX11 197 yX11_product ∈ jTB := List.mem_filter.mpr ⟨in_t6 _ (List.mem_of_getElem? (i := 95) (by decide +kernel)), rfl⟩
theorem ml_RX11_200 : Cond.methodLink RX11 200 yX11_thing ∈ jTB := List.mem_filter.mpr ⟨in_t6 _ (List.mem_of_getElem? (i := 99) (by decide +kernel)), rfl⟩
theorem ml_RX11_206 : Cond.methodLink RX11 206 yX11_letterOf ∈ jTB := List.mem_filter.mpr ⟨in_t6 _ (List.mem_of_getElem? (i := 103) (by decide +kernel)), rfl⟩
theorem fl_RX11_209 : jFL RX11 209 11 25 1 false := ⟨RX11, TX11, 56, jcX11, by decide, List.mem_filter.mpr ⟨in_t5 _ (List.mem_of_getElem? (i := 99) (by decide +kernel)), rfl⟩, rfl, rfl⟩
theorem ml_RX11_203 : Cond.methodLink RX11 203 yX11_held ∈ jTB := List.mem_filter.mpr ⟨in_t6 _ (List.mem_of_getElem? (i := 87) (by decide +kernel)), rfl⟩
theorem ml_RX11_213 : Cond.methodLink RX11 213 yX11_readRule ∈ jTB := List.mem_filter.mpr ⟨in_t6 _ (List.mem_of_getElem? (i := 83) (by decide +kernel)), rfl⟩
theorem fl_RX11_216 : jFL RX11 216 11 24 0 false := ⟨RX11, TX11, 56, jcX11, by decide, List.mem_filter.mpr ⟨in_t5 _ (List.mem_of_getElem? (i := 98) (by decide +kernel)), rfl⟩, rfl, rfl⟩
theorem ml_RX11_219 : Cond.methodLink RX11 219 yX11_letter ∈ jTB := List.mem_filter.mpr ⟨in_t6 _ (List.mem_of_getElem? (i := 126) (by decide +kernel)), rfl⟩
theorem ml_RX11_223 : Cond.methodLink RX11 223 yX11_vowelOf ∈ jTB := List.mem_filter.mpr ⟨in_t6 _ (List.mem_of_getElem? (i := 130) (by decide +kernel)), rfl⟩
theorem ml_RX11_226 : Cond.methodLink RX11 226 Lib.Math.min.name ∈ jTB := List.mem_filter.mpr ⟨in_t6 _ (List.mem_of_getElem? (i := 168) (by decide +kernel)), rfl⟩
theorem ml_RX11_231 : Cond.methodLink RX11 231 Lib.Math.max.name ∈ jTB := List.mem_filter.mpr ⟨in_t6 _ (List.mem_of_getElem? (i := 169) (by decide +kernel)), rfl⟩
theorem ml_RX11_234 : Cond.methodLink RX11 234 yX11_tollOf ∈ jTB := List.mem_filter.mpr ⟨in_t6 _ (List.mem_of_getElem? (i := 178) (by decide +kernel)), rfl⟩
theorem ml_RX11_238 : Cond.methodLink RX11 238 yX11_often ∈ jTB := List.mem_filter.mpr ⟨in_t6 _ (List.mem_of_getElem? (i := 122) (by decide +kernel)), rfl⟩
theorem ml_RX11_241 : Cond.methodLink RX11 241 yX11_isWord ∈ jTB := List.mem_filter.mpr ⟨in_t6 _ (List.mem_of_getElem? (i := 110) (by decide +kernel)), rfl⟩
theorem ml_RX11_245 : Cond.methodLink RX11 245 yX11_lost ∈ jTB := List.mem_filter.mpr ⟨in_t6 _ (List.mem_of_getElem? (i := 114) (by decide +kernel)), rfl⟩
theorem ml_RX11_248 : Cond.methodLink RX11 248 yX11_vowelsIn ∈ jTB := List.mem_filter.mpr ⟨in_t6 _ (List.mem_of_getElem? (i := 118) (by decide +kernel)), rfl⟩
theorem ml_RX11_251 : Cond.methodLink RX11 251 yX11_field ∈ jTB := List.mem_filter.mpr ⟨in_t6 _ (List.mem_of_getElem? (i := 145) (by decide +kernel)), rfl⟩
theorem ml_RX11_254 : Cond.methodLink RX11 254 yX11_has ∈ jTB := List.mem_filter.mpr ⟨in_t6 _ (List.mem_of_getElem? (i := 149) (by decide +kernel)), rfl⟩
theorem ml_RX11_258 : Cond.methodLink RX11 258 yX11_isOne ∈ jTB := List.mem_filter.mpr ⟨in_t6 _ (List.mem_of_getElem? (i := 137) (by decide +kernel)), rfl⟩
theorem ml_RX11_261 : Cond.methodLink RX11 261 yX11_openOf ∈ jTB := List.mem_filter.mpr ⟨in_t6 _ (List.mem_of_getElem? (i := 141) (by decide +kernel)), rfl⟩
theorem ml_RX11_264 : Cond.methodLink RX11 264 yX11_isStation ∈ jTB := List.mem_filter.mpr ⟨in_t6 _ (List.mem_of_getElem? (i := 160) (by decide +kernel)), rfl⟩
theorem ml_RX11_267 : Cond.methodLink RX11 267 yX11_lay ∈ jTB := List.mem_filter.mpr ⟨in_t6 _ (List.mem_of_getElem? (i := 198) (by decide +kernel)), rfl⟩
theorem ml_RX11_271 : Cond.methodLink RX11 271 yX11_tollNow ∈ jTB := List.mem_filter.mpr ⟨in_t6 _ (List.mem_of_getElem? (i := 174) (by decide +kernel)), rfl⟩
theorem ml_RX11_274 : Cond.methodLink RX11 274 yX11_tell ∈ jTB := List.mem_filter.mpr ⟨in_t6 _ (List.mem_of_getElem? (i := 182) (by decide +kernel)), rfl⟩
theorem ml_RX11_278 : Cond.methodLink RX11 278 yX11_refusesWalk ∈ jTB := List.mem_filter.mpr ⟨in_t6 _ (List.mem_of_getElem? (i := 190) (by decide +kernel)), rfl⟩
theorem ml_RX11_282 : Cond.methodLink RX11 282 yX11_remember ∈ jTB := List.mem_filter.mpr ⟨in_t6 _ (List.mem_of_getElem? (i := 194) (by decide +kernel)), rfl⟩
theorem ml_RX11_286 : Cond.methodLink RX11 286 yX11_goWalk ∈ jTB := List.mem_filter.mpr ⟨in_t6 _ (List.mem_of_getElem? (i := 201) (by decide +kernel)), rfl⟩
theorem fl_RX11_289 : jFL RX11 289 11 31 0 false := ⟨RX11, TX11, 56, jcX11, by decide, List.mem_filter.mpr ⟨in_t5 _ (List.mem_of_getElem? (i := 105) (by decide +kernel)), rfl⟩, rfl, rfl⟩
theorem ml_RX11_292 : Cond.methodLink RX11 292 yX11_means ∈ jTB := List.mem_filter.mpr ⟨in_t6 _ (List.mem_of_getElem? (i := 220) (by decide +kernel)), rfl⟩
theorem ml_RX11_295 : Cond.methodLink RX11 295 yX11_refusesSay ∈ jTB := List.mem_filter.mpr ⟨in_t6 _ (List.mem_of_getElem? (i := 212) (by decide +kernel)), rfl⟩
theorem ml_RX11_298 : Cond.methodLink RX11 298 yX11_goSay ∈ jTB := List.mem_filter.mpr ⟨in_t6 _ (List.mem_of_getElem? (i := 216) (by decide +kernel)), rfl⟩
theorem ml_RX11_313 : Cond.methodLink RX11 313 yX11_cheapestOf ∈ jTB := List.mem_filter.mpr ⟨in_t7 _ (List.mem_of_getElem? (i := 4) (by decide +kernel)), rfl⟩
theorem fl_RX11_304 : jFL RX11 304 11 33 0 false := ⟨RX11, TX11, 56, jcX11, by decide, List.mem_filter.mpr ⟨in_t5 _ (List.mem_of_getElem? (i := 107) (by decide +kernel)), rfl⟩, rfl, rfl⟩
theorem ml_RX11_310 : Cond.methodLink RX11 310 yX11_wordFor ∈ jTB := List.mem_filter.mpr ⟨in_t7 _ (List.mem_of_getElem? (i := 0) (by decide +kernel)), rfl⟩
theorem ml_RX11_301 : Cond.methodLink RX11 301 yX11_readAct ∈ jTB := List.mem_filter.mpr ⟨in_t6 _ (List.mem_of_getElem? (i := 232) (by decide +kernel)), rfl⟩
theorem ml_RX11_307 : Cond.methodLink RX11 307 yX11_act ∈ jTB := List.mem_filter.mpr ⟨in_t6 _ (List.mem_of_getElem? (i := 236) (by decide +kernel)), rfl⟩
theorem ml_RX11_316 : Cond.methodLink RX11 316 yX11_isMeaning ∈ jTB := List.mem_filter.mpr ⟨in_t7 _ (List.mem_of_getElem? (i := 16) (by decide +kernel)), rfl⟩
theorem cn_RX11_319 : Cond.constant RX11 319 100000000 ∈ jTB := List.mem_filter.mpr ⟨in_t7 _ (List.mem_of_getElem? (i := 23) (by decide +kernel)), rfl⟩
theorem ml_RX11_320 : Cond.methodLink RX11 320 yX11_tells ∈ jTB := List.mem_filter.mpr ⟨in_t7 _ (List.mem_of_getElem? (i := 24) (by decide +kernel)), rfl⟩
theorem ml_RX11_323 : Cond.methodLink RX11 323 yX11_layWord ∈ jTB := List.mem_filter.mpr ⟨in_t7 _ (List.mem_of_getElem? (i := 44) (by decide +kernel)), rfl⟩
theorem ml_RX11_327 : Cond.methodLink RX11 327 yX11_changesOf ∈ jTB := List.mem_filter.mpr ⟨in_t7 _ (List.mem_of_getElem? (i := 48) (by decide +kernel)), rfl⟩
theorem ml_RX11_330 : Cond.methodLink RX11 330 yX11_differBy ∈ jTB := List.mem_filter.mpr ⟨in_t7 _ (List.mem_of_getElem? (i := 40) (by decide +kernel)), rfl⟩
theorem ml_RX11_334 : Cond.methodLink RX11 334 yX11_share ∈ jTB := List.mem_filter.mpr ⟨in_t7 _ (List.mem_of_getElem? (i := 56) (by decide +kernel)), rfl⟩
theorem ml_RX11_337 : Cond.methodLink RX11 337 yX11_common ∈ jTB := List.mem_filter.mpr ⟨in_t7 _ (List.mem_of_getElem? (i := 68) (by decide +kernel)), rfl⟩
theorem ml_RX11_341 : Cond.methodLink RX11 341 yX11_power ∈ jTB := List.mem_filter.mpr ⟨in_t7 _ (List.mem_of_getElem? (i := 64) (by decide +kernel)), rfl⟩
theorem cn_RX11_345 : Cond.constantLong RX11 345 10 ∈ jTB := List.mem_filter.mpr ⟨in_t7 _ (List.mem_of_getElem? (i := 67) (by decide +kernel)), rfl⟩
theorem ml_RX11_347 : Cond.methodLink RX11 347 yJ6_bitCount_0f7a4 ∈ jTB := List.mem_filter.mpr ⟨in_t7 _ (List.mem_of_getElem? (i := 75) (by decide +kernel)), rfl⟩
theorem ml_RX11_355 : Cond.methodLink RX11 355 yX11_areApart ∈ jTB := List.mem_filter.mpr ⟨in_t7 _ (List.mem_of_getElem? (i := 80) (by decide +kernel)), rfl⟩
theorem ml_RX11_352 : Cond.methodLink RX11 352 yX11_tollsOf ∈ jTB := List.mem_filter.mpr ⟨in_t7 _ (List.mem_of_getElem? (i := 76) (by decide +kernel)), rfl⟩
theorem ml_RX11_358 : Cond.methodLink RX11 358 yX11_does ∈ jTB := List.mem_filter.mpr ⟨in_t7 _ (List.mem_of_getElem? (i := 100) (by decide +kernel)), rfl⟩
theorem fl_RX11_361 : jFL RX11 361 11 40 0 false := ⟨RX11, TX11, 56, jcX11, by decide, List.mem_filter.mpr ⟨in_t5 _ (List.mem_of_getElem? (i := 114) (by decide +kernel)), rfl⟩, rfl, rfl⟩
theorem fl_RX11_364 : jFL RX11 364 11 42 0 false := ⟨RX11, TX11, 56, jcX11, by decide, List.mem_filter.mpr ⟨in_t5 _ (List.mem_of_getElem? (i := 116) (by decide +kernel)), rfl⟩, rfl, rfl⟩
theorem ml_RX11_370 : Cond.methodLink RX11 370 yX11_speak ∈ jTB := List.mem_filter.mpr ⟨in_t7 _ (List.mem_of_getElem? (i := 96) (by decide +kernel)), rfl⟩
theorem fl_RX11_374 : jFL RX11 374 11 41 0 false := ⟨RX11, TX11, 56, jcX11, by decide, List.mem_filter.mpr ⟨in_t5 _ (List.mem_of_getElem? (i := 115) (by decide +kernel)), rfl⟩, rfl, rfl⟩
theorem ml_RX11_367 : Cond.methodLink RX11 367 yX11_move ∈ jTB := List.mem_filter.mpr ⟨in_t7 _ (List.mem_of_getElem? (i := 92) (by decide +kernel)), rfl⟩
theorem ml_RX11_377 : Cond.methodLink RX11 377 yX11_leastTrip ∈ jTB := List.mem_filter.mpr ⟨in_t7 _ (List.mem_of_getElem? (i := 88) (by decide +kernel)), rfl⟩
theorem fl_RX11_380 : jFL RX11 380 11 43 0 false := ⟨RX11, TX11, 56, jcX11, by decide, List.mem_filter.mpr ⟨in_t5 _ (List.mem_of_getElem? (i := 117) (by decide +kernel)), rfl⟩, rfl, rfl⟩
theorem ml_RX11_383 : Cond.methodLink RX11 383 yX11_takesBy ∈ jTB := List.mem_filter.mpr ⟨in_t7 _ (List.mem_of_getElem? (i := 116) (by decide +kernel)), rfl⟩
theorem fl_RX11_386 : jFL RX11 386 11 49 0 false := ⟨RX11, TX11, 56, jcX11, by decide, List.mem_filter.mpr ⟨in_t5 _ (List.mem_of_getElem? (i := 123) (by decide +kernel)), rfl⟩, rfl, rfl⟩
theorem fl_RX11_389 : jFL RX11 389 11 48 0 false := ⟨RX11, TX11, 56, jcX11, by decide, List.mem_filter.mpr ⟨in_t5 _ (List.mem_of_getElem? (i := 122) (by decide +kernel)), rfl⟩, rfl, rfl⟩
theorem ml_RX11_398 : Cond.methodLink RX11 398 yX11_take ∈ jTB := List.mem_filter.mpr ⟨in_t7 _ (List.mem_of_getElem? (i := 144) (by decide +kernel)), rfl⟩
theorem ml_RX11_401 : Cond.methodLink RX11 401 yX11_goSaid ∈ jTB := List.mem_filter.mpr ⟨in_t7 _ (List.mem_of_getElem? (i := 132) (by decide +kernel)), rfl⟩
theorem ml_RX11_392 : Cond.methodLink RX11 392 yX11_isAll ∈ jTB := List.mem_filter.mpr ⟨in_t7 _ (List.mem_of_getElem? (i := 136) (by decide +kernel)), rfl⟩
theorem ml_RX11_395 : Cond.methodLink RX11 395 yX11_isFirst ∈ jTB := List.mem_filter.mpr ⟨in_t7 _ (List.mem_of_getElem? (i := 140) (by decide +kernel)), rfl⟩
theorem fl_RX11_404 : jFL RX11 404 11 50 0 false := ⟨RX11, TX11, 56, jcX11, by decide, List.mem_filter.mpr ⟨in_t5 _ (List.mem_of_getElem? (i := 124) (by decide +kernel)), rfl⟩, rfl, rfl⟩
theorem cn_RX11_407 : Cond.constant RX11 407 1103515245 ∈ jTB := List.mem_filter.mpr ⟨in_t7 _ (List.mem_of_getElem? (i := 160) (by decide +kernel)), rfl⟩
theorem ml_RX11_408 : Cond.methodLink RX11 408 yX11_draw ∈ jTB := List.mem_filter.mpr ⟨in_t7 _ (List.mem_of_getElem? (i := 156) (by decide +kernel)), rfl⟩
theorem ml_RX11_411 : Cond.methodLink RX11 411 yX11_sumOf ∈ jTB := List.mem_filter.mpr ⟨in_t7 _ (List.mem_of_getElem? (i := 173) (by decide +kernel)), rfl⟩
theorem ml_RL_7 : Cond.methodLink RL 7 yX10_word ∈ jTB := List.mem_filter.mpr ⟨in_t4 _ (List.mem_of_getElem? (i := 215) (by decide +kernel)), rfl⟩
theorem ml_RL_15 : Cond.methodLink RL 15 yX10_traveller ∈ jTB := List.mem_filter.mpr ⟨in_t5 _ (List.mem_of_getElem? (i := 43) (by decide +kernel)), rfl⟩
theorem ml_RL_18 : Cond.methodLink RL 18 yX10_errand ∈ jTB := List.mem_filter.mpr ⟨in_t5 _ (List.mem_of_getElem? (i := 50) (by decide +kernel)), rfl⟩
theorem ml_RL_21 : Cond.methodLink RL 21 yX10_book ∈ jTB := List.mem_filter.mpr ⟨in_t5 _ (List.mem_of_getElem? (i := 57) (by decide +kernel)), rfl⟩
theorem ml_RL_24 : Cond.methodLink RL 24 yX10_row ∈ jTB := List.mem_filter.mpr ⟨in_t5 _ (List.mem_of_getElem? (i := 64) (by decide +kernel)), rfl⟩
theorem nw_RL_8 : jNW RL 8 10 20 := ⟨RX10, TX10, jcX10, List.mem_filter.mpr ⟨in_t1 _ (List.mem_of_getElem? (i := 21) (by decide +kernel)), rfl⟩, List.mem_filter.mpr ⟨in_t1 _ (List.mem_of_getElem? (i := 22) (by decide +kernel)), rfl⟩, List.mem_filter.mpr ⟨in_t1 _ (List.mem_of_getElem? (i := 1) (by decide +kernel)), rfl⟩, by decide +kernel⟩
theorem ml_RL_28 : Cond.methodLink RL 28 yX10_init ∈ jTB := List.mem_filter.mpr ⟨in_t1 _ (List.mem_of_getElem? (i := 23) (by decide +kernel)), rfl⟩
theorem nw_RL_29 : jNW RL 29 11 56 := ⟨RX11, TX11, jcX11, List.mem_filter.mpr ⟨in_t5 _ (List.mem_of_getElem? (i := 68) (by decide +kernel)), rfl⟩, List.mem_filter.mpr ⟨in_t5 _ (List.mem_of_getElem? (i := 69) (by decide +kernel)), rfl⟩, List.mem_filter.mpr ⟨in_t1 _ (List.mem_of_getElem? (i := 11) (by decide +kernel)), rfl⟩, by decide +kernel⟩
theorem ml_RL_31 : Cond.methodLink RL 31 yX11_init ∈ jTB := List.mem_filter.mpr ⟨in_t5 _ (List.mem_of_getElem? (i := 70) (by decide +kernel)), rfl⟩
theorem ml_RL_32 : Cond.methodLink RL 32 yX10_sign ∈ jTB := List.mem_filter.mpr ⟨in_t2 _ (List.mem_of_getElem? (i := 96) (by decide +kernel)), rfl⟩
theorem ml_RL_36 : Cond.methodLink RL 36 yX11_sign ∈ jTB := List.mem_filter.mpr ⟨in_t6 _ (List.mem_of_getElem? (i := 8) (by decide +kernel)), rfl⟩
theorem ml_RL_37 : Cond.methodLink RL 37 yX10_end ∈ jTB := List.mem_filter.mpr ⟨in_t2 _ (List.mem_of_getElem? (i := 104) (by decide +kernel)), rfl⟩
theorem ml_RL_41 : Cond.methodLink RL 41 yX11_end ∈ jTB := List.mem_filter.mpr ⟨in_t6 _ (List.mem_of_getElem? (i := 12) (by decide +kernel)), rfl⟩
theorem ml_RL_42 : Cond.methodLink RL 42 yX10_road ∈ jTB := List.mem_filter.mpr ⟨in_t2 _ (List.mem_of_getElem? (i := 108) (by decide +kernel)), rfl⟩
theorem ml_RL_45 : Cond.methodLink RL 45 yX11_road ∈ jTB := List.mem_filter.mpr ⟨in_t6 _ (List.mem_of_getElem? (i := 19) (by decide +kernel)), rfl⟩
theorem ml_RL_46 : Cond.methodLink RL 46 yX10_words ∈ jTB := List.mem_filter.mpr ⟨in_t2 _ (List.mem_of_getElem? (i := 127) (by decide +kernel)), rfl⟩
theorem ml_RL_50 : Cond.methodLink RL 50 yX11_words ∈ jTB := List.mem_filter.mpr ⟨in_t6 _ (List.mem_of_getElem? (i := 23) (by decide +kernel)), rfl⟩
theorem ml_RL_51 : Cond.methodLink RL 51 yX10_travellers ∈ jTB := List.mem_filter.mpr ⟨in_t2 _ (List.mem_of_getElem? (i := 209) (by decide +kernel)), rfl⟩
theorem ml_RL_54 : Cond.methodLink RL 54 yX11_travellers ∈ jTB := List.mem_filter.mpr ⟨in_t6 _ (List.mem_of_getElem? (i := 63) (by decide +kernel)), rfl⟩
theorem ml_RL_55 : Cond.methodLink RL 55 yX10_errands ∈ jTB := List.mem_filter.mpr ⟨in_t2 _ (List.mem_of_getElem? (i := 213) (by decide +kernel)), rfl⟩
theorem ml_RL_58 : Cond.methodLink RL 58 yX11_errands ∈ jTB := List.mem_filter.mpr ⟨in_t6 _ (List.mem_of_getElem? (i := 75) (by decide +kernel)), rfl⟩
theorem ml_RL_59 : Cond.methodLink RL 59 yX10_rule ∈ jTB := List.mem_filter.mpr ⟨in_t2 _ (List.mem_of_getElem? (i := 217) (by decide +kernel)), rfl⟩
theorem ml_RL_62 : Cond.methodLink RL 62 yX11_rule ∈ jTB := List.mem_filter.mpr ⟨in_t6 _ (List.mem_of_getElem? (i := 79) (by decide +kernel)), rfl⟩
theorem ml_RL_63 : Cond.methodLink RL 63 yL_word ∈ jTB := List.mem_filter.mpr ⟨in_t4 _ (List.mem_of_getElem? (i := 211) (by decide +kernel)), rfl⟩
theorem ml_RL_68 : Cond.methodLink RL 68 yX11_word ∈ jTB := List.mem_filter.mpr ⟨in_t6 _ (List.mem_of_getElem? (i := 106) (by decide +kernel)), rfl⟩
theorem ml_RL_69 : Cond.methodLink RL 69 yX11_thrown ∈ jTB := List.mem_filter.mpr ⟨in_t6 _ (List.mem_of_getElem? (i := 4) (by decide +kernel)), rfl⟩
theorem ml_RL_72 : Cond.methodLink RL 72 yL_traveller ∈ jTB := List.mem_filter.mpr ⟨in_t5 _ (List.mem_of_getElem? (i := 40) (by decide +kernel)), rfl⟩
theorem ml_RL_74 : Cond.methodLink RL 74 yX11_traveller ∈ jTB := List.mem_filter.mpr ⟨in_t6 _ (List.mem_of_getElem? (i := 133) (by decide +kernel)), rfl⟩
theorem ml_RL_75 : Cond.methodLink RL 75 yL_errand ∈ jTB := List.mem_filter.mpr ⟨in_t5 _ (List.mem_of_getElem? (i := 47) (by decide +kernel)), rfl⟩
theorem ml_RL_77 : Cond.methodLink RL 77 yX11_errand ∈ jTB := List.mem_filter.mpr ⟨in_t6 _ (List.mem_of_getElem? (i := 152) (by decide +kernel)), rfl⟩
theorem ml_RL_78 : Cond.methodLink RL 78 yL_book ∈ jTB := List.mem_filter.mpr ⟨in_t5 _ (List.mem_of_getElem? (i := 54) (by decide +kernel)), rfl⟩
theorem ml_RL_80 : Cond.methodLink RL 80 yX11_book ∈ jTB := List.mem_filter.mpr ⟨in_t6 _ (List.mem_of_getElem? (i := 156) (by decide +kernel)), rfl⟩
theorem ml_RL_81 : Cond.methodLink RL 81 yX10_sheet ∈ jTB := List.mem_filter.mpr ⟨in_t3 _ (List.mem_of_getElem? (i := 23) (by decide +kernel)), rfl⟩
theorem ml_RL_85 : Cond.methodLink RL 85 yX11_sheet ∈ jTB := List.mem_filter.mpr ⟨in_t6 _ (List.mem_of_getElem? (i := 164) (by decide +kernel)), rfl⟩
theorem ml_RL_86 : Cond.methodLink RL 86 yX10_toll ∈ jTB := List.mem_filter.mpr ⟨in_t3 _ (List.mem_of_getElem? (i := 38) (by decide +kernel)), rfl⟩
theorem ml_RL_89 : Cond.methodLink RL 89 yX11_toll ∈ jTB := List.mem_filter.mpr ⟨in_t6 _ (List.mem_of_getElem? (i := 170) (by decide +kernel)), rfl⟩
theorem ml_RL_90 : Cond.methodLink RL 90 yX10_walk ∈ jTB := List.mem_filter.mpr ⟨in_t3 _ (List.mem_of_getElem? (i := 75) (by decide +kernel)), rfl⟩
theorem ml_RL_93 : Cond.methodLink RL 93 yX11_walk ∈ jTB := List.mem_filter.mpr ⟨in_t6 _ (List.mem_of_getElem? (i := 186) (by decide +kernel)), rfl⟩
theorem ml_RL_94 : Cond.methodLink RL 94 yX10_pause ∈ jTB := List.mem_filter.mpr ⟨in_t3 _ (List.mem_of_getElem? (i := 110) (by decide +kernel)), rfl⟩
theorem ml_RL_97 : Cond.methodLink RL 97 yX11_pause ∈ jTB := List.mem_filter.mpr ⟨in_t6 _ (List.mem_of_getElem? (i := 204) (by decide +kernel)), rfl⟩
theorem ml_RL_98 : Cond.methodLink RL 98 yX10_say ∈ jTB := List.mem_filter.mpr ⟨in_t3 _ (List.mem_of_getElem? (i := 114) (by decide +kernel)), rfl⟩
theorem ml_RL_101 : Cond.methodLink RL 101 yX11_say ∈ jTB := List.mem_filter.mpr ⟨in_t6 _ (List.mem_of_getElem? (i := 208) (by decide +kernel)), rfl⟩
theorem ml_RL_102 : Cond.methodLink RL 102 yX10_alms ∈ jTB := List.mem_filter.mpr ⟨in_t3 _ (List.mem_of_getElem? (i := 144) (by decide +kernel)), rfl⟩
theorem ml_RL_106 : Cond.methodLink RL 106 yX11_alms ∈ jTB := List.mem_filter.mpr ⟨in_t6 _ (List.mem_of_getElem? (i := 224) (by decide +kernel)), rfl⟩
theorem ml_RL_107 : Cond.methodLink RL 107 yX10_journey ∈ jTB := List.mem_filter.mpr ⟨in_t3 _ (List.mem_of_getElem? (i := 148) (by decide +kernel)), rfl⟩
theorem ml_RL_110 : Cond.methodLink RL 110 yX11_journey ∈ jTB := List.mem_filter.mpr ⟨in_t6 _ (List.mem_of_getElem? (i := 228) (by decide +kernel)), rfl⟩
theorem ml_RL_111 : Cond.methodLink RL 111 yX10_undo ∈ jTB := List.mem_filter.mpr ⟨in_t3 _ (List.mem_of_getElem? (i := 185) (by decide +kernel)), rfl⟩
theorem ml_RL_114 : Cond.methodLink RL 114 yX11_undo ∈ jTB := List.mem_filter.mpr ⟨in_t7 _ (List.mem_of_getElem? (i := 8) (by decide +kernel)), rfl⟩
theorem ml_RL_115 : Cond.methodLink RL 115 yX10_cheapest ∈ jTB := List.mem_filter.mpr ⟨in_t3 _ (List.mem_of_getElem? (i := 197) (by decide +kernel)), rfl⟩
theorem ml_RL_118 : Cond.methodLink RL 118 yX11_cheapest ∈ jTB := List.mem_filter.mpr ⟨in_t7 _ (List.mem_of_getElem? (i := 12) (by decide +kernel)), rfl⟩
theorem ml_RL_119 : Cond.methodLink RL 119 yX10_sentence ∈ jTB := List.mem_filter.mpr ⟨in_t3 _ (List.mem_of_getElem? (i := 209) (by decide +kernel)), rfl⟩
theorem ml_RL_122 : Cond.methodLink RL 122 yX11_sentence ∈ jTB := List.mem_filter.mpr ⟨in_t7 _ (List.mem_of_getElem? (i := 19) (by decide +kernel)), rfl⟩
theorem ml_RL_123 : Cond.methodLink RL 123 yX10_when ∈ jTB := List.mem_filter.mpr ⟨in_t3 _ (List.mem_of_getElem? (i := 233) (by decide +kernel)), rfl⟩
theorem ml_RL_126 : Cond.methodLink RL 126 yX11_when ∈ jTB := List.mem_filter.mpr ⟨in_t7 _ (List.mem_of_getElem? (i := 28) (by decide +kernel)), rfl⟩
theorem ml_RL_127 : Cond.methodLink RL 127 yX10_shortest ∈ jTB := List.mem_filter.mpr ⟨in_t3 _ (List.mem_of_getElem? (i := 237) (by decide +kernel)), rfl⟩
theorem ml_RL_130 : Cond.methodLink RL 130 yX11_shortest ∈ jTB := List.mem_filter.mpr ⟨in_t7 _ (List.mem_of_getElem? (i := 32) (by decide +kernel)), rfl⟩
theorem ml_RL_131 : Cond.methodLink RL 131 yX10_differ ∈ jTB := List.mem_filter.mpr ⟨in_t4 _ (List.mem_of_getElem? (i := 5) (by decide +kernel)), rfl⟩
theorem ml_RL_134 : Cond.methodLink RL 134 yX11_differ ∈ jTB := List.mem_filter.mpr ⟨in_t7 _ (List.mem_of_getElem? (i := 36) (by decide +kernel)), rfl⟩
theorem ml_RL_135 : Cond.methodLink RL 135 yX10_near ∈ jTB := List.mem_filter.mpr ⟨in_t4 _ (List.mem_of_getElem? (i := 27) (by decide +kernel)), rfl⟩
theorem ml_RL_138 : Cond.methodLink RL 138 yX11_near ∈ jTB := List.mem_filter.mpr ⟨in_t7 _ (List.mem_of_getElem? (i := 52) (by decide +kernel)), rfl⟩
theorem ml_RL_139 : Cond.methodLink RL 139 yX10_heard ∈ jTB := List.mem_filter.mpr ⟨in_t4 _ (List.mem_of_getElem? (i := 36) (by decide +kernel)), rfl⟩
theorem ml_RL_142 : Cond.methodLink RL 142 yX11_heard ∈ jTB := List.mem_filter.mpr ⟨in_t7 _ (List.mem_of_getElem? (i := 60) (by decide +kernel)), rfl⟩
theorem ml_RL_143 : Cond.methodLink RL 143 yX10_code ∈ jTB := List.mem_filter.mpr ⟨in_t4 _ (List.mem_of_getElem? (i := 49) (by decide +kernel)), rfl⟩
theorem ml_RL_146 : Cond.methodLink RL 146 yX11_code ∈ jTB := List.mem_filter.mpr ⟨in_t7 _ (List.mem_of_getElem? (i := 71) (by decide +kernel)), rfl⟩
theorem ml_RL_147 : Cond.methodLink RL 147 yX10_trip ∈ jTB := List.mem_filter.mpr ⟨in_t4 _ (List.mem_of_getElem? (i := 72) (by decide +kernel)), rfl⟩
theorem ml_RL_150 : Cond.methodLink RL 150 yX11_trip ∈ jTB := List.mem_filter.mpr ⟨in_t7 _ (List.mem_of_getElem? (i := 84) (by decide +kernel)), rfl⟩
theorem ml_RL_151 : Cond.methodLink RL 151 yX10_haste ∈ jTB := List.mem_filter.mpr ⟨in_t4 _ (List.mem_of_getElem? (i := 103) (by decide +kernel)), rfl⟩
theorem ml_RL_154 : Cond.methodLink RL 154 yX11_haste ∈ jTB := List.mem_filter.mpr ⟨in_t7 _ (List.mem_of_getElem? (i := 104) (by decide +kernel)), rfl⟩
theorem ml_RL_155 : Cond.methodLink RL 155 yX10_best ∈ jTB := List.mem_filter.mpr ⟨in_t4 _ (List.mem_of_getElem? (i := 107) (by decide +kernel)), rfl⟩
theorem ml_RL_158 : Cond.methodLink RL 158 yX11_best ∈ jTB := List.mem_filter.mpr ⟨in_t7 _ (List.mem_of_getElem? (i := 108) (by decide +kernel)), rfl⟩
theorem ml_RL_159 : Cond.methodLink RL 159 yX10_takes ∈ jTB := List.mem_filter.mpr ⟨in_t4 _ (List.mem_of_getElem? (i := 119) (by decide +kernel)), rfl⟩
theorem ml_RL_162 : Cond.methodLink RL 162 yX11_takes ∈ jTB := List.mem_filter.mpr ⟨in_t7 _ (List.mem_of_getElem? (i := 112) (by decide +kernel)), rfl⟩
theorem ml_RL_163 : Cond.methodLink RL 163 yX10_greed ∈ jTB := List.mem_filter.mpr ⟨in_t4 _ (List.mem_of_getElem? (i := 127) (by decide +kernel)), rfl⟩
theorem ml_RL_166 : Cond.methodLink RL 166 yX11_greed ∈ jTB := List.mem_filter.mpr ⟨in_t7 _ (List.mem_of_getElem? (i := 120) (by decide +kernel)), rfl⟩
theorem ml_RL_167 : Cond.methodLink RL 167 yX10_law ∈ jTB := List.mem_filter.mpr ⟨in_t4 _ (List.mem_of_getElem? (i := 131) (by decide +kernel)), rfl⟩
theorem ml_RL_170 : Cond.methodLink RL 170 yX11_law ∈ jTB := List.mem_filter.mpr ⟨in_t7 _ (List.mem_of_getElem? (i := 124) (by decide +kernel)), rfl⟩
theorem ml_RL_171 : Cond.methodLink RL 171 yX10_said ∈ jTB := List.mem_filter.mpr ⟨in_t4 _ (List.mem_of_getElem? (i := 135) (by decide +kernel)), rfl⟩
theorem ml_RL_174 : Cond.methodLink RL 174 yX11_said ∈ jTB := List.mem_filter.mpr ⟨in_t7 _ (List.mem_of_getElem? (i := 128) (by decide +kernel)), rfl⟩
theorem ml_RL_175 : Cond.methodLink RL 175 yX10_ask ∈ jTB := List.mem_filter.mpr ⟨in_t4 _ (List.mem_of_getElem? (i := 155) (by decide +kernel)), rfl⟩
theorem ml_RL_178 : Cond.methodLink RL 178 yX11_ask ∈ jTB := List.mem_filter.mpr ⟨in_t7 _ (List.mem_of_getElem? (i := 148) (by decide +kernel)), rfl⟩
theorem ml_RL_179 : Cond.methodLink RL 179 yX10_years ∈ jTB := List.mem_filter.mpr ⟨in_t4 _ (List.mem_of_getElem? (i := 166) (by decide +kernel)), rfl⟩
theorem ml_RL_182 : Cond.methodLink RL 182 yX11_years ∈ jTB := List.mem_filter.mpr ⟨in_t7 _ (List.mem_of_getElem? (i := 152) (by decide +kernel)), rfl⟩
theorem ml_RL_183 : Cond.methodLink RL 183 yX10_keep ∈ jTB := List.mem_filter.mpr ⟨in_t4 _ (List.mem_of_getElem? (i := 190) (by decide +kernel)), rfl⟩
theorem ml_RL_186 : Cond.methodLink RL 186 yX11_keep ∈ jTB := List.mem_filter.mpr ⟨in_t7 _ (List.mem_of_getElem? (i := 161) (by decide +kernel)), rfl⟩
theorem ml_RL_187 : Cond.methodLink RL 187 yX10_again ∈ jTB := List.mem_filter.mpr ⟨in_t4 _ (List.mem_of_getElem? (i := 195) (by decide +kernel)), rfl⟩
theorem ml_RL_190 : Cond.methodLink RL 190 yX11_again ∈ jTB := List.mem_filter.mpr ⟨in_t7 _ (List.mem_of_getElem? (i := 165) (by decide +kernel)), rfl⟩
theorem ml_RL_191 : Cond.methodLink RL 191 yX10_count ∈ jTB := List.mem_filter.mpr ⟨in_t4 _ (List.mem_of_getElem? (i := 199) (by decide +kernel)), rfl⟩
theorem ml_RL_194 : Cond.methodLink RL 194 yX11_count ∈ jTB := List.mem_filter.mpr ⟨in_t7 _ (List.mem_of_getElem? (i := 169) (by decide +kernel)), rfl⟩
theorem ml_RL_195 : Cond.methodLink RL 195 yL_row ∈ jTB := List.mem_filter.mpr ⟨in_t5 _ (List.mem_of_getElem? (i := 61) (by decide +kernel)), rfl⟩
theorem ml_RL_198 : Cond.methodLink RL 198 yX11_row ∈ jTB := List.mem_filter.mpr ⟨in_t7 _ (List.mem_of_getElem? (i := 177) (by decide +kernel)), rfl⟩
theorem tw_k : Cond.classLink RX10 139 "java/util/NoSuchElementException" ∈ jTB := List.mem_filter.mpr ⟨in_t4 _ (List.mem_of_getElem? (i := 219) (by decide +kernel)), rfl⟩
theorem tw_i : Cond.initialized "java/util/NoSuchElementException" ∈ jTB := List.mem_filter.mpr ⟨in_t1 _ (List.mem_of_getElem? (i := 16) (by decide +kernel)), rfl⟩
theorem tw_a : ∀ w ∈ jTW, w ∈ jTB := by decide +kernel
theorem tw_g : ∀ w ∈ Cond.classLink RX10 139 "java/util/NoSuchElementException" :: Cond.initialized "java/util/NoSuchElementException" :: jTW, vx_ot w = true := by decide +kernel
theorem cl_nse : Cond.classLink RL 13 "java/util/NoSuchElementException" ∈ jTB := List.mem_filter.mpr ⟨in_t4 _ (List.mem_of_getElem? (i := 214) (by decide +kernel)), rfl⟩
theorem ca_nse : Cond.castable "java/util/NoSuchElementException" "java/util/NoSuchElementException" ∈ jTB := List.mem_filter.mpr ⟨in_t4 _ (List.mem_of_getElem? (i := 221) (by decide +kernel)), rfl⟩
set_option maxRecDepth 100000 in
theorem mh_L_book : Cond.codeWith yL_book cL_book 5 (some .int) [(0, 10, 13, 13)] ∈ jTB := List.mem_filter.mpr ⟨in_t5 _ (List.mem_of_getElem? (i := 56) (by decide +kernel)), rfl⟩
theorem mhi_L_book : Cond.initialized yL_book.cls ∈ jTB := List.mem_filter.mpr ⟨in_t1 _ (List.mem_of_getElem? (i := 0) (by decide +kernel)), rfl⟩
theorem mhn_L_book : yL_book.cls ≠ "java/lang/invoke/MethodHandle" ∧ yL_book.cls ≠ "java/lang/invoke/VarHandle" := by decide +kernel
theorem mhp_L_book : (parseMethodDescriptor yL_book.desc).map (fun d => d.parameters.length) = some 4 := by decide +kernel
theorem ms_L_book : Cond.static yL_book ∈ jTB := List.mem_filter.mpr ⟨in_t5 _ (List.mem_of_getElem? (i := 55) (by decide +kernel)), rfl⟩
set_option maxRecDepth 100000 in
theorem mh_L_errand : Cond.codeWith yL_errand cL_errand 5 (some .int) [(0, 10, 13, 13)] ∈ jTB := List.mem_filter.mpr ⟨in_t5 _ (List.mem_of_getElem? (i := 49) (by decide +kernel)), rfl⟩
theorem mhi_L_errand : Cond.initialized yL_errand.cls ∈ jTB := List.mem_filter.mpr ⟨in_t1 _ (List.mem_of_getElem? (i := 0) (by decide +kernel)), rfl⟩
theorem mhn_L_errand : yL_errand.cls ≠ "java/lang/invoke/MethodHandle" ∧ yL_errand.cls ≠ "java/lang/invoke/VarHandle" := by decide +kernel
theorem mhp_L_errand : (parseMethodDescriptor yL_errand.desc).map (fun d => d.parameters.length) = some 4 := by decide +kernel
theorem ms_L_errand : Cond.static yL_errand ∈ jTB := List.mem_filter.mpr ⟨in_t5 _ (List.mem_of_getElem? (i := 48) (by decide +kernel)), rfl⟩
set_option maxRecDepth 100000 in
theorem mh_L_row : Cond.codeWith yL_row cL_row 4 (some .int) [(0, 8, 11, 13)] ∈ jTB := List.mem_filter.mpr ⟨in_t5 _ (List.mem_of_getElem? (i := 63) (by decide +kernel)), rfl⟩
theorem mhi_L_row : Cond.initialized yL_row.cls ∈ jTB := List.mem_filter.mpr ⟨in_t1 _ (List.mem_of_getElem? (i := 0) (by decide +kernel)), rfl⟩
theorem mhn_L_row : yL_row.cls ≠ "java/lang/invoke/MethodHandle" ∧ yL_row.cls ≠ "java/lang/invoke/VarHandle" := by decide +kernel
theorem mhp_L_row : (parseMethodDescriptor yL_row.desc).map (fun d => d.parameters.length) = some 3 := by decide +kernel
theorem ms_L_row : Cond.static yL_row ∈ jTB := List.mem_filter.mpr ⟨in_t5 _ (List.mem_of_getElem? (i := 62) (by decide +kernel)), rfl⟩
set_option maxRecDepth 100000 in
theorem mh_L_traveller : Cond.codeWith yL_traveller cL_traveller 5 (some .int) [(0, 10, 13, 13)] ∈ jTB := List.mem_filter.mpr ⟨in_t5 _ (List.mem_of_getElem? (i := 42) (by decide +kernel)), rfl⟩
theorem mhi_L_traveller : Cond.initialized yL_traveller.cls ∈ jTB := List.mem_filter.mpr ⟨in_t1 _ (List.mem_of_getElem? (i := 0) (by decide +kernel)), rfl⟩
theorem mhn_L_traveller : yL_traveller.cls ≠ "java/lang/invoke/MethodHandle" ∧ yL_traveller.cls ≠ "java/lang/invoke/VarHandle" := by decide +kernel
theorem mhp_L_traveller : (parseMethodDescriptor yL_traveller.desc).map (fun d => d.parameters.length) = some 4 := by decide +kernel
theorem ms_L_traveller : Cond.static yL_traveller ∈ jTB := List.mem_filter.mpr ⟨in_t5 _ (List.mem_of_getElem? (i := 41) (by decide +kernel)), rfl⟩
set_option maxRecDepth 100000 in
theorem mh_L_word : Cond.codeWith yL_word cL_word 5 (some .int) [(0, 10, 13, 13)] ∈ jTB := List.mem_filter.mpr ⟨in_t4 _ (List.mem_of_getElem? (i := 213) (by decide +kernel)), rfl⟩
theorem mhi_L_word : Cond.initialized yL_word.cls ∈ jTB := List.mem_filter.mpr ⟨in_t1 _ (List.mem_of_getElem? (i := 0) (by decide +kernel)), rfl⟩
theorem mhn_L_word : yL_word.cls ≠ "java/lang/invoke/MethodHandle" ∧ yL_word.cls ≠ "java/lang/invoke/VarHandle" := by decide +kernel
theorem mhp_L_word : (parseMethodDescriptor yL_word.desc).map (fun d => d.parameters.length) = some 4 := by decide +kernel
theorem ms_L_word : Cond.static yL_word ∈ jTB := List.mem_filter.mpr ⟨in_t4 _ (List.mem_of_getElem? (i := 212) (by decide +kernel)), rfl⟩
set_option maxRecDepth 100000 in
theorem my_J6_bitCount_0f7a4 : jMy yJ6_bitCount_0f7a4 cJ6_bitCount_0f7a4 1 (some .int) 1 := ⟨List.mem_filter.mpr ⟨in_t4 _ (List.mem_of_getElem? (i := 60) rfl), rfl⟩, List.mem_filter.mpr ⟨in_t1 _ (List.mem_of_getElem? (i := 19) (by decide +kernel)), rfl⟩, by decide +kernel, by decide +kernel, by decide⟩
theorem ms_J6_bitCount_0f7a4 : Cond.static yJ6_bitCount_0f7a4 ∈ jTB := List.mem_filter.mpr ⟨in_t4 _ (List.mem_of_getElem? (i := 59) (by decide +kernel)), rfl⟩
set_option maxRecDepth 100000 in
theorem my_J7_fill_53178 : jMy yJ7_fill_53178 cJ7_fill_53178 4 none 2 := ⟨List.mem_filter.mpr ⟨in_t3 _ (List.mem_of_getElem? (i := 56) rfl), rfl⟩, List.mem_filter.mpr ⟨in_t1 _ (List.mem_of_getElem? (i := 17) (by decide +kernel)), rfl⟩, by decide +kernel, by decide +kernel, by decide⟩
theorem ms_J7_fill_53178 : Cond.static yJ7_fill_53178 ∈ jTB := List.mem_filter.mpr ⟨in_t3 _ (List.mem_of_getElem? (i := 55) (by decide +kernel)), rfl⟩
set_option maxRecDepth 100000 in
theorem my_X0_areFar : jMy yX0_areFar cX0_areFar 4 (some .boolean) 2 := ⟨List.mem_filter.mpr ⟨in_t4 _ (List.mem_of_getElem? (i := 67) rfl), rfl⟩, List.mem_filter.mpr ⟨in_t1 _ (List.mem_of_getElem? (i := 8) (by decide +kernel)), rfl⟩, by decide +kernel, by decide +kernel, by decide⟩
theorem mv_X0_areFar : jMyV yX0_areFar := ⟨List.mem_filter.mpr ⟨in_t4 _ (List.mem_of_getElem? (i := 65) (by decide +kernel)), rfl⟩, List.mem_filter.mpr ⟨in_t4 _ (List.mem_of_getElem? (i := 66) (by decide +kernel)), rfl⟩⟩
set_option maxRecDepth 100000 in
theorem my_X0_fewest : jMy yX0_fewest cX0_fewest 7 (some .int) 2 := ⟨List.mem_filter.mpr ⟨in_t4 _ (List.mem_of_getElem? (i := 21) rfl), rfl⟩, List.mem_filter.mpr ⟨in_t1 _ (List.mem_of_getElem? (i := 8) (by decide +kernel)), rfl⟩, by decide +kernel, by decide +kernel, by decide⟩
theorem mv_X0_fewest : jMyV yX0_fewest := ⟨List.mem_filter.mpr ⟨in_t4 _ (List.mem_of_getElem? (i := 20) (by decide +kernel)), rfl⟩, List.mem_filter.mpr ⟨List.mem_append_left _ (List.mem_of_getElem? (i := 31) (by decide +kernel)), rfl⟩⟩
set_option maxRecDepth 100000 in
theorem my_X0_init : jMy yX0_init cX0_init 1 none 0 := ⟨List.mem_filter.mpr ⟨in_t1 _ (List.mem_of_getElem? (i := 194) rfl), rfl⟩, List.mem_filter.mpr ⟨in_t1 _ (List.mem_of_getElem? (i := 8) (by decide +kernel)), rfl⟩, by decide +kernel, by decide +kernel, by decide⟩
theorem mi_X0_init : yX0_init.name = "<init>" ∧ Cond.instanceMethod yX0_init ∈ jTB := ⟨rfl, List.mem_filter.mpr ⟨in_t1 _ (List.mem_of_getElem? (i := 193) (by decide +kernel)), rfl⟩⟩
set_option maxRecDepth 100000 in
theorem my_X0_markFar : jMy yX0_markFar cX0_markFar 5 none 2 := ⟨List.mem_filter.mpr ⟨in_t4 _ (List.mem_of_getElem? (i := 56) rfl), rfl⟩, List.mem_filter.mpr ⟨in_t1 _ (List.mem_of_getElem? (i := 8) (by decide +kernel)), rfl⟩, by decide +kernel, by decide +kernel, by decide⟩
theorem mv_X0_markFar : jMyV yX0_markFar := ⟨List.mem_filter.mpr ⟨in_t4 _ (List.mem_of_getElem? (i := 54) (by decide +kernel)), rfl⟩, List.mem_filter.mpr ⟨in_t4 _ (List.mem_of_getElem? (i := 55) (by decide +kernel)), rfl⟩⟩
set_option maxRecDepth 100000 in
theorem my_X0_ofLetters : jMy yX0_ofLetters cX0_ofLetters 4 (some .int) 3 := ⟨List.mem_filter.mpr ⟨in_t4 _ (List.mem_of_getElem? (i := 26) rfl), rfl⟩, List.mem_filter.mpr ⟨in_t1 _ (List.mem_of_getElem? (i := 8) (by decide +kernel)), rfl⟩, by decide +kernel, by decide +kernel, by decide⟩
theorem mv_X0_ofLetters : jMyV yX0_ofLetters := ⟨List.mem_filter.mpr ⟨in_t4 _ (List.mem_of_getElem? (i := 24) (by decide +kernel)), rfl⟩, List.mem_filter.mpr ⟨in_t4 _ (List.mem_of_getElem? (i := 25) (by decide +kernel)), rfl⟩⟩
set_option maxRecDepth 100000 in
theorem my_X0_ofVowels : jMy yX0_ofVowels cX0_ofVowels 4 (some .int) 3 := ⟨List.mem_filter.mpr ⟨in_t4 _ (List.mem_of_getElem? (i := 12) rfl), rfl⟩, List.mem_filter.mpr ⟨in_t1 _ (List.mem_of_getElem? (i := 8) (by decide +kernel)), rfl⟩, by decide +kernel, by decide +kernel, by decide⟩
theorem mv_X0_ofVowels : jMyV yX0_ofVowels := ⟨List.mem_filter.mpr ⟨in_t4 _ (List.mem_of_getElem? (i := 10) (by decide +kernel)), rfl⟩, List.mem_filter.mpr ⟨in_t4 _ (List.mem_of_getElem? (i := 11) (by decide +kernel)), rfl⟩⟩
set_option maxRecDepth 100000 in
theorem my_X0_spell : jMy yX0_spell cX0_spell 7 (some .int) 4 := ⟨List.mem_filter.mpr ⟨in_t4 _ (List.mem_of_getElem? (i := 15) rfl), rfl⟩, List.mem_filter.mpr ⟨in_t1 _ (List.mem_of_getElem? (i := 8) (by decide +kernel)), rfl⟩, by decide +kernel, by decide +kernel, by decide⟩
theorem ms_X0_spell : Cond.static yX0_spell ∈ jTB := List.mem_filter.mpr ⟨in_t4 _ (List.mem_of_getElem? (i := 14) (by decide +kernel)), rfl⟩
set_option maxRecDepth 100000 in
theorem my_X10_act : jMy yX10_act cX10_act 4 (some .int) 1 := ⟨List.mem_filter.mpr ⟨in_t3 _ (List.mem_of_getElem? (i := 155) rfl), rfl⟩, List.mem_filter.mpr ⟨in_t1 _ (List.mem_of_getElem? (i := 1) (by decide +kernel)), rfl⟩, by decide +kernel, by decide +kernel, by decide⟩
theorem mv_X10_act : jMyV yX10_act := ⟨List.mem_filter.mpr ⟨in_t3 _ (List.mem_of_getElem? (i := 154) (by decide +kernel)), rfl⟩, List.mem_filter.mpr ⟨List.mem_append_left _ (List.mem_of_getElem? (i := 24) (by decide +kernel)), rfl⟩⟩
set_option maxRecDepth 100000 in
theorem my_X10_again : jMy yX10_again cX10_again 2 (some .boolean) 1 := ⟨List.mem_filter.mpr ⟨in_t4 _ (List.mem_of_getElem? (i := 198) rfl), rfl⟩, List.mem_filter.mpr ⟨in_t1 _ (List.mem_of_getElem? (i := 1) (by decide +kernel)), rfl⟩, by decide +kernel, by decide +kernel, by decide⟩
theorem mv_X10_again : jMyV yX10_again := ⟨List.mem_filter.mpr ⟨in_t4 _ (List.mem_of_getElem? (i := 196) (by decide +kernel)), rfl⟩, List.mem_filter.mpr ⟨in_t4 _ (List.mem_of_getElem? (i := 197) (by decide +kernel)), rfl⟩⟩
set_option maxRecDepth 100000 in
theorem my_X10_alms : jMy yX10_alms cX10_alms 4 (some .int) 3 := ⟨List.mem_filter.mpr ⟨in_t3 _ (List.mem_of_getElem? (i := 147) rfl), rfl⟩, List.mem_filter.mpr ⟨in_t1 _ (List.mem_of_getElem? (i := 1) (by decide +kernel)), rfl⟩, by decide +kernel, by decide +kernel, by decide⟩
theorem mv_X10_alms : jMyV yX10_alms := ⟨List.mem_filter.mpr ⟨in_t3 _ (List.mem_of_getElem? (i := 145) (by decide +kernel)), rfl⟩, List.mem_filter.mpr ⟨in_t3 _ (List.mem_of_getElem? (i := 146) (by decide +kernel)), rfl⟩⟩
set_option maxRecDepth 100000 in
theorem my_X10_ask : jMy yX10_ask cX10_ask 5 (some .int) 0 := ⟨List.mem_filter.mpr ⟨in_t4 _ (List.mem_of_getElem? (i := 158) rfl), rfl⟩, List.mem_filter.mpr ⟨in_t1 _ (List.mem_of_getElem? (i := 1) (by decide +kernel)), rfl⟩, by decide +kernel, by decide +kernel, by decide⟩
theorem mv_X10_ask : jMyV yX10_ask := ⟨List.mem_filter.mpr ⟨in_t4 _ (List.mem_of_getElem? (i := 156) (by decide +kernel)), rfl⟩, List.mem_filter.mpr ⟨in_t4 _ (List.mem_of_getElem? (i := 157) (by decide +kernel)), rfl⟩⟩
set_option maxRecDepth 100000 in
theorem my_X10_best : jMy yX10_best cX10_best 9 (some .int) 1 := ⟨List.mem_filter.mpr ⟨in_t4 _ (List.mem_of_getElem? (i := 110) rfl), rfl⟩, List.mem_filter.mpr ⟨in_t1 _ (List.mem_of_getElem? (i := 1) (by decide +kernel)), rfl⟩, by decide +kernel, by decide +kernel, by decide⟩
theorem mv_X10_best : jMyV yX10_best := ⟨List.mem_filter.mpr ⟨in_t4 _ (List.mem_of_getElem? (i := 108) (by decide +kernel)), rfl⟩, List.mem_filter.mpr ⟨in_t4 _ (List.mem_of_getElem? (i := 109) (by decide +kernel)), rfl⟩⟩
set_option maxRecDepth 100000 in
theorem my_X10_between : jMy yX10_between cX10_between 2 (some .int) 2 := ⟨List.mem_filter.mpr ⟨in_t3 _ (List.mem_of_getElem? (i := 32) rfl), rfl⟩, List.mem_filter.mpr ⟨in_t1 _ (List.mem_of_getElem? (i := 1) (by decide +kernel)), rfl⟩, by decide +kernel, by decide +kernel, by decide⟩
theorem ms_X10_between : Cond.static yX10_between ∈ jTB := List.mem_filter.mpr ⟨in_t3 _ (List.mem_of_getElem? (i := 31) (by decide +kernel)), rfl⟩
set_option maxRecDepth 100000 in
theorem my_X10_book : jMy yX10_book cX10_book 3 (some .int) 2 := ⟨List.mem_filter.mpr ⟨in_t5 _ (List.mem_of_getElem? (i := 60) rfl), rfl⟩, List.mem_filter.mpr ⟨in_t1 _ (List.mem_of_getElem? (i := 1) (by decide +kernel)), rfl⟩, by decide +kernel, by decide +kernel, by decide⟩
theorem mv_X10_book : jMyV yX10_book := ⟨List.mem_filter.mpr ⟨in_t5 _ (List.mem_of_getElem? (i := 58) (by decide +kernel)), rfl⟩, List.mem_filter.mpr ⟨in_t5 _ (List.mem_of_getElem? (i := 59) (by decide +kernel)), rfl⟩⟩
set_option maxRecDepth 100000 in
theorem my_X10_cheapest : jMy yX10_cheapest cX10_cheapest 4 (some .int) 2 := ⟨List.mem_filter.mpr ⟨in_t3 _ (List.mem_of_getElem? (i := 200) rfl), rfl⟩, List.mem_filter.mpr ⟨in_t1 _ (List.mem_of_getElem? (i := 1) (by decide +kernel)), rfl⟩, by decide +kernel, by decide +kernel, by decide⟩
theorem mv_X10_cheapest : jMyV yX10_cheapest := ⟨List.mem_filter.mpr ⟨in_t3 _ (List.mem_of_getElem? (i := 198) (by decide +kernel)), rfl⟩, List.mem_filter.mpr ⟨in_t3 _ (List.mem_of_getElem? (i := 199) (by decide +kernel)), rfl⟩⟩
set_option maxRecDepth 100000 in
theorem my_X10_cheapestFor : jMy yX10_cheapestFor cX10_cheapestFor 7 (some .int) 2 := ⟨List.mem_filter.mpr ⟨in_t3 _ (List.mem_of_getElem? (i := 175) rfl), rfl⟩, List.mem_filter.mpr ⟨in_t1 _ (List.mem_of_getElem? (i := 1) (by decide +kernel)), rfl⟩, by decide +kernel, by decide +kernel, by decide⟩
theorem mv_X10_cheapestFor : jMyV yX10_cheapestFor := ⟨List.mem_filter.mpr ⟨in_t3 _ (List.mem_of_getElem? (i := 174) (by decide +kernel)), rfl⟩, List.mem_filter.mpr ⟨List.mem_append_left _ (List.mem_of_getElem? (i := 27) (by decide +kernel)), rfl⟩⟩
set_option maxRecDepth 100000 in
theorem my_X10_code : jMy yX10_code cX10_code 5 (some .int) 1 := ⟨List.mem_filter.mpr ⟨in_t4 _ (List.mem_of_getElem? (i := 52) rfl), rfl⟩, List.mem_filter.mpr ⟨in_t1 _ (List.mem_of_getElem? (i := 1) (by decide +kernel)), rfl⟩, by decide +kernel, by decide +kernel, by decide⟩
theorem mv_X10_code : jMyV yX10_code := ⟨List.mem_filter.mpr ⟨in_t4 _ (List.mem_of_getElem? (i := 50) (by decide +kernel)), rfl⟩, List.mem_filter.mpr ⟨in_t4 _ (List.mem_of_getElem? (i := 51) (by decide +kernel)), rfl⟩⟩
set_option maxRecDepth 100000 in
theorem my_X10_commonDivisor : jMy yX10_commonDivisor cX10_commonDivisor 11 (some .long) 2 := ⟨List.mem_filter.mpr ⟨in_t4 _ (List.mem_of_getElem? (i := 45) rfl), rfl⟩, List.mem_filter.mpr ⟨in_t1 _ (List.mem_of_getElem? (i := 1) (by decide +kernel)), rfl⟩, by decide +kernel, by decide +kernel, by decide⟩
theorem ms_X10_commonDivisor : Cond.static yX10_commonDivisor ∈ jTB := List.mem_filter.mpr ⟨in_t4 _ (List.mem_of_getElem? (i := 44) (by decide +kernel)), rfl⟩
set_option maxRecDepth 100000 in
theorem my_X10_count : jMy yX10_count cX10_count 2 (some .int) 1 := ⟨List.mem_filter.mpr ⟨in_t4 _ (List.mem_of_getElem? (i := 202) rfl), rfl⟩, List.mem_filter.mpr ⟨in_t1 _ (List.mem_of_getElem? (i := 1) (by decide +kernel)), rfl⟩, by decide +kernel, by decide +kernel, by decide⟩
theorem mv_X10_count : jMyV yX10_count := ⟨List.mem_filter.mpr ⟨in_t4 _ (List.mem_of_getElem? (i := 200) (by decide +kernel)), rfl⟩, List.mem_filter.mpr ⟨in_t4 _ (List.mem_of_getElem? (i := 201) (by decide +kernel)), rfl⟩⟩
set_option maxRecDepth 100000 in
theorem my_X10_differ : jMy yX10_differ cX10_differ 3 (some .int) 2 := ⟨List.mem_filter.mpr ⟨in_t4 _ (List.mem_of_getElem? (i := 8) rfl), rfl⟩, List.mem_filter.mpr ⟨in_t1 _ (List.mem_of_getElem? (i := 1) (by decide +kernel)), rfl⟩, by decide +kernel, by decide +kernel, by decide⟩
theorem mv_X10_differ : jMyV yX10_differ := ⟨List.mem_filter.mpr ⟨in_t4 _ (List.mem_of_getElem? (i := 6) (by decide +kernel)), rfl⟩, List.mem_filter.mpr ⟨in_t4 _ (List.mem_of_getElem? (i := 7) (by decide +kernel)), rfl⟩⟩
set_option maxRecDepth 100000 in
theorem my_X10_drawnAct : jMy yX10_drawnAct cX10_drawnAct 4 (some .int) 1 := ⟨List.mem_filter.mpr ⟨in_t4 _ (List.mem_of_getElem? (i := 183) rfl), rfl⟩, List.mem_filter.mpr ⟨in_t1 _ (List.mem_of_getElem? (i := 1) (by decide +kernel)), rfl⟩, by decide +kernel, by decide +kernel, by decide⟩
theorem mv_X10_drawnAct : jMyV yX10_drawnAct := ⟨List.mem_filter.mpr ⟨in_t4 _ (List.mem_of_getElem? (i := 182) (by decide +kernel)), rfl⟩, List.mem_filter.mpr ⟨List.mem_append_left _ (List.mem_of_getElem? (i := 41) (by decide +kernel)), rfl⟩⟩
set_option maxRecDepth 100000 in
theorem my_X10_end : jMy yX10_end cX10_end 2 (some .boolean) 1 := ⟨List.mem_filter.mpr ⟨in_t2 _ (List.mem_of_getElem? (i := 107) rfl), rfl⟩, List.mem_filter.mpr ⟨in_t1 _ (List.mem_of_getElem? (i := 1) (by decide +kernel)), rfl⟩, by decide +kernel, by decide +kernel, by decide⟩
theorem mv_X10_end : jMyV yX10_end := ⟨List.mem_filter.mpr ⟨in_t2 _ (List.mem_of_getElem? (i := 105) (by decide +kernel)), rfl⟩, List.mem_filter.mpr ⟨in_t2 _ (List.mem_of_getElem? (i := 106) (by decide +kernel)), rfl⟩⟩
set_option maxRecDepth 100000 in
theorem my_X10_entry : jMy yX10_entry cX10_entry 2 (some .int) 2 := ⟨List.mem_filter.mpr ⟨in_t3 _ (List.mem_of_getElem? (i := 29) rfl), rfl⟩, List.mem_filter.mpr ⟨in_t1 _ (List.mem_of_getElem? (i := 1) (by decide +kernel)), rfl⟩, by decide +kernel, by decide +kernel, by decide⟩
theorem ms_X10_entry : Cond.static yX10_entry ∈ jTB := List.mem_filter.mpr ⟨in_t3 _ (List.mem_of_getElem? (i := 28) (by decide +kernel)), rfl⟩
set_option maxRecDepth 100000 in
theorem my_X10_errand : jMy yX10_errand cX10_errand 3 (some .int) 2 := ⟨List.mem_filter.mpr ⟨in_t5 _ (List.mem_of_getElem? (i := 53) rfl), rfl⟩, List.mem_filter.mpr ⟨in_t1 _ (List.mem_of_getElem? (i := 1) (by decide +kernel)), rfl⟩, by decide +kernel, by decide +kernel, by decide⟩
theorem mv_X10_errand : jMyV yX10_errand := ⟨List.mem_filter.mpr ⟨in_t5 _ (List.mem_of_getElem? (i := 51) (by decide +kernel)), rfl⟩, List.mem_filter.mpr ⟨in_t5 _ (List.mem_of_getElem? (i := 52) (by decide +kernel)), rfl⟩⟩
set_option maxRecDepth 100000 in
theorem my_X10_errands : jMy yX10_errands cX10_errands 2 (some .int) 0 := ⟨List.mem_filter.mpr ⟨in_t2 _ (List.mem_of_getElem? (i := 216) rfl), rfl⟩, List.mem_filter.mpr ⟨in_t1 _ (List.mem_of_getElem? (i := 1) (by decide +kernel)), rfl⟩, by decide +kernel, by decide +kernel, by decide⟩
theorem mv_X10_errands : jMyV yX10_errands := ⟨List.mem_filter.mpr ⟨in_t2 _ (List.mem_of_getElem? (i := 214) (by decide +kernel)), rfl⟩, List.mem_filter.mpr ⟨in_t2 _ (List.mem_of_getElem? (i := 215) (by decide +kernel)), rfl⟩⟩
set_option maxRecDepth 100000 in
theorem my_X10_forget : jMy yX10_forget cX10_forget 2 none 0 := ⟨List.mem_filter.mpr ⟨in_t2 _ (List.mem_of_getElem? (i := 126) rfl), rfl⟩, List.mem_filter.mpr ⟨in_t1 _ (List.mem_of_getElem? (i := 1) (by decide +kernel)), rfl⟩, by decide +kernel, by decide +kernel, by decide⟩
theorem mv_X10_forget : jMyV yX10_forget := ⟨List.mem_filter.mpr ⟨in_t2 _ (List.mem_of_getElem? (i := 125) (by decide +kernel)), rfl⟩, List.mem_filter.mpr ⟨List.mem_append_left _ (List.mem_of_getElem? (i := 2) (by decide +kernel)), rfl⟩⟩
set_option maxRecDepth 100000 in
theorem my_X10_goes : jMy yX10_goes cX10_goes 4 (some .int) 2 := ⟨List.mem_filter.mpr ⟨in_t3 _ (List.mem_of_getElem? (i := 97) rfl), rfl⟩, List.mem_filter.mpr ⟨in_t1 _ (List.mem_of_getElem? (i := 1) (by decide +kernel)), rfl⟩, by decide +kernel, by decide +kernel, by decide⟩
theorem mv_X10_goes : jMyV yX10_goes := ⟨List.mem_filter.mpr ⟨in_t3 _ (List.mem_of_getElem? (i := 96) (by decide +kernel)), rfl⟩, List.mem_filter.mpr ⟨List.mem_append_left _ (List.mem_of_getElem? (i := 20) (by decide +kernel)), rfl⟩⟩
set_option maxRecDepth 100000 in
theorem my_X10_greed : jMy yX10_greed cX10_greed 7 (some .int) 1 := ⟨List.mem_filter.mpr ⟨in_t4 _ (List.mem_of_getElem? (i := 130) rfl), rfl⟩, List.mem_filter.mpr ⟨in_t1 _ (List.mem_of_getElem? (i := 1) (by decide +kernel)), rfl⟩, by decide +kernel, by decide +kernel, by decide⟩
theorem mv_X10_greed : jMyV yX10_greed := ⟨List.mem_filter.mpr ⟨in_t4 _ (List.mem_of_getElem? (i := 128) (by decide +kernel)), rfl⟩, List.mem_filter.mpr ⟨in_t4 _ (List.mem_of_getElem? (i := 129) (by decide +kernel)), rfl⟩⟩
set_option maxRecDepth 100000 in
theorem my_X10_haste : jMy yX10_haste cX10_haste 3 (some .int) 1 := ⟨List.mem_filter.mpr ⟨in_t4 _ (List.mem_of_getElem? (i := 106) rfl), rfl⟩, List.mem_filter.mpr ⟨in_t1 _ (List.mem_of_getElem? (i := 1) (by decide +kernel)), rfl⟩, by decide +kernel, by decide +kernel, by decide⟩
theorem mv_X10_haste : jMyV yX10_haste := ⟨List.mem_filter.mpr ⟨in_t4 _ (List.mem_of_getElem? (i := 104) (by decide +kernel)), rfl⟩, List.mem_filter.mpr ⟨in_t4 _ (List.mem_of_getElem? (i := 105) (by decide +kernel)), rfl⟩⟩
set_option maxRecDepth 100000 in
theorem my_X10_heard : jMy yX10_heard cX10_heard 13 (some .int) 3 := ⟨List.mem_filter.mpr ⟨in_t4 _ (List.mem_of_getElem? (i := 39) rfl), rfl⟩, List.mem_filter.mpr ⟨in_t1 _ (List.mem_of_getElem? (i := 1) (by decide +kernel)), rfl⟩, by decide +kernel, by decide +kernel, by decide⟩
theorem mv_X10_heard : jMyV yX10_heard := ⟨List.mem_filter.mpr ⟨in_t4 _ (List.mem_of_getElem? (i := 37) (by decide +kernel)), rfl⟩, List.mem_filter.mpr ⟨in_t4 _ (List.mem_of_getElem? (i := 38) (by decide +kernel)), rfl⟩⟩
set_option maxRecDepth 100000 in
theorem my_X10_incomeBy : jMy yX10_incomeBy cX10_incomeBy 8 (some .int) 2 := ⟨List.mem_filter.mpr ⟨in_t4 _ (List.mem_of_getElem? (i := 126) rfl), rfl⟩, List.mem_filter.mpr ⟨in_t1 _ (List.mem_of_getElem? (i := 1) (by decide +kernel)), rfl⟩, by decide +kernel, by decide +kernel, by decide⟩
theorem mv_X10_incomeBy : jMyV yX10_incomeBy := ⟨List.mem_filter.mpr ⟨in_t4 _ (List.mem_of_getElem? (i := 125) (by decide +kernel)), rfl⟩, List.mem_filter.mpr ⟨List.mem_append_left _ (List.mem_of_getElem? (i := 36) (by decide +kernel)), rfl⟩⟩
set_option maxRecDepth 100000 in
theorem my_X10_init : jMy yX10_init cX10_init 1 none 0 := ⟨List.mem_filter.mpr ⟨in_t1 _ (List.mem_of_getElem? (i := 25) rfl), rfl⟩, List.mem_filter.mpr ⟨in_t1 _ (List.mem_of_getElem? (i := 1) (by decide +kernel)), rfl⟩, by decide +kernel, by decide +kernel, by decide⟩
theorem mi_X10_init : yX10_init.name = "<init>" ∧ Cond.instanceMethod yX10_init ∈ jTB := ⟨rfl, List.mem_filter.mpr ⟨in_t1 _ (List.mem_of_getElem? (i := 24) (by decide +kernel)), rfl⟩⟩
set_option maxRecDepth 100000 in
theorem my_X10_isMeaning : jMy yX10_isMeaning cX10_isMeaning 1 (some .boolean) 1 := ⟨List.mem_filter.mpr ⟨in_t3 _ (List.mem_of_getElem? (i := 203) rfl), rfl⟩, List.mem_filter.mpr ⟨in_t1 _ (List.mem_of_getElem? (i := 1) (by decide +kernel)), rfl⟩, by decide +kernel, by decide +kernel, by decide⟩
theorem ms_X10_isMeaning : Cond.static yX10_isMeaning ∈ jTB := List.mem_filter.mpr ⟨in_t3 _ (List.mem_of_getElem? (i := 202) (by decide +kernel)), rfl⟩
set_option maxRecDepth 100000 in
theorem my_X10_isShorter : jMy yX10_isShorter cX10_isShorter 4 (some .boolean) 2 := ⟨List.mem_filter.mpr ⟨in_t4 _ (List.mem_of_getElem? (i := 4) rfl), rfl⟩, List.mem_filter.mpr ⟨in_t1 _ (List.mem_of_getElem? (i := 1) (by decide +kernel)), rfl⟩, by decide +kernel, by decide +kernel, by decide⟩
theorem mv_X10_isShorter : jMyV yX10_isShorter := ⟨List.mem_filter.mpr ⟨in_t4 _ (List.mem_of_getElem? (i := 3) (by decide +kernel)), rfl⟩, List.mem_filter.mpr ⟨List.mem_append_left _ (List.mem_of_getElem? (i := 30) (by decide +kernel)), rfl⟩⟩
set_option maxRecDepth 100000 in
theorem my_X10_isStation : jMy yX10_isStation cX10_isStation 2 (some .boolean) 1 := ⟨List.mem_filter.mpr ⟨in_t3 _ (List.mem_of_getElem? (i := 49) rfl), rfl⟩, List.mem_filter.mpr ⟨in_t1 _ (List.mem_of_getElem? (i := 1) (by decide +kernel)), rfl⟩, by decide +kernel, by decide +kernel, by decide⟩
theorem mv_X10_isStation : jMyV yX10_isStation := ⟨List.mem_filter.mpr ⟨in_t3 _ (List.mem_of_getElem? (i := 48) (by decide +kernel)), rfl⟩, List.mem_filter.mpr ⟨List.mem_append_left _ (List.mem_of_getElem? (i := 17) (by decide +kernel)), rfl⟩⟩
set_option maxRecDepth 100000 in
theorem my_X10_isTraveller : jMy yX10_isTraveller cX10_isTraveller 2 (some .boolean) 1 := ⟨List.mem_filter.mpr ⟨in_t3 _ (List.mem_of_getElem? (i := 105) rfl), rfl⟩, List.mem_filter.mpr ⟨in_t1 _ (List.mem_of_getElem? (i := 1) (by decide +kernel)), rfl⟩, by decide +kernel, by decide +kernel, by decide⟩
theorem mv_X10_isTraveller : jMyV yX10_isTraveller := ⟨List.mem_filter.mpr ⟨in_t3 _ (List.mem_of_getElem? (i := 104) (by decide +kernel)), rfl⟩, List.mem_filter.mpr ⟨List.mem_append_left _ (List.mem_of_getElem? (i := 22) (by decide +kernel)), rfl⟩⟩
set_option maxRecDepth 100000 in
theorem my_X10_isWord : jMy yX10_isWord cX10_isWord 2 (some .boolean) 1 := ⟨List.mem_filter.mpr ⟨in_t3 _ (List.mem_of_getElem? (i := 45) rfl), rfl⟩, List.mem_filter.mpr ⟨in_t1 _ (List.mem_of_getElem? (i := 1) (by decide +kernel)), rfl⟩, by decide +kernel, by decide +kernel, by decide⟩
theorem mv_X10_isWord : jMyV yX10_isWord := ⟨List.mem_filter.mpr ⟨in_t3 _ (List.mem_of_getElem? (i := 44) (by decide +kernel)), rfl⟩, List.mem_filter.mpr ⟨List.mem_append_left _ (List.mem_of_getElem? (i := 16) (by decide +kernel)), rfl⟩⟩
set_option maxRecDepth 100000 in
theorem my_X10_journey : jMy yX10_journey cX10_journey 6 (some .int) 0 := ⟨List.mem_filter.mpr ⟨in_t3 _ (List.mem_of_getElem? (i := 151) rfl), rfl⟩, List.mem_filter.mpr ⟨in_t1 _ (List.mem_of_getElem? (i := 1) (by decide +kernel)), rfl⟩, by decide +kernel, by decide +kernel, by decide⟩
theorem mv_X10_journey : jMyV yX10_journey := ⟨List.mem_filter.mpr ⟨in_t3 _ (List.mem_of_getElem? (i := 149) (by decide +kernel)), rfl⟩, List.mem_filter.mpr ⟨in_t3 _ (List.mem_of_getElem? (i := 150) (by decide +kernel)), rfl⟩⟩
set_option maxRecDepth 100000 in
theorem my_X10_keep : jMy yX10_keep cX10_keep 2 (some .boolean) 1 := ⟨List.mem_filter.mpr ⟨in_t4 _ (List.mem_of_getElem? (i := 193) rfl), rfl⟩, List.mem_filter.mpr ⟨in_t1 _ (List.mem_of_getElem? (i := 1) (by decide +kernel)), rfl⟩, by decide +kernel, by decide +kernel, by decide⟩
theorem mv_X10_keep : jMyV yX10_keep := ⟨List.mem_filter.mpr ⟨in_t4 _ (List.mem_of_getElem? (i := 191) (by decide +kernel)), rfl⟩, List.mem_filter.mpr ⟨in_t4 _ (List.mem_of_getElem? (i := 192) (by decide +kernel)), rfl⟩⟩
set_option maxRecDepth 100000 in
theorem my_X10_law : jMy yX10_law cX10_law 8 (some .int) 1 := ⟨List.mem_filter.mpr ⟨in_t4 _ (List.mem_of_getElem? (i := 134) rfl), rfl⟩, List.mem_filter.mpr ⟨in_t1 _ (List.mem_of_getElem? (i := 1) (by decide +kernel)), rfl⟩, by decide +kernel, by decide +kernel, by decide⟩
theorem mv_X10_law : jMyV yX10_law := ⟨List.mem_filter.mpr ⟨in_t4 _ (List.mem_of_getElem? (i := 132) (by decide +kernel)), rfl⟩, List.mem_filter.mpr ⟨in_t4 _ (List.mem_of_getElem? (i := 133) (by decide +kernel)), rfl⟩⟩
set_option maxRecDepth 100000 in
theorem my_X10_leavesNone : jMy yX10_leavesNone cX10_leavesNone 5 (some .boolean) 1 := ⟨List.mem_filter.mpr ⟨in_t4 _ (List.mem_of_getElem? (i := 146) rfl), rfl⟩, List.mem_filter.mpr ⟨in_t1 _ (List.mem_of_getElem? (i := 1) (by decide +kernel)), rfl⟩, by decide +kernel, by decide +kernel, by decide⟩
theorem mv_X10_leavesNone : jMyV yX10_leavesNone := ⟨List.mem_filter.mpr ⟨in_t4 _ (List.mem_of_getElem? (i := 145) (by decide +kernel)), rfl⟩, List.mem_filter.mpr ⟨List.mem_append_left _ (List.mem_of_getElem? (i := 38) (by decide +kernel)), rfl⟩⟩
set_option maxRecDepth 100000 in
theorem my_X10_linesUpTo : jMy yX10_linesUpTo cX10_linesUpTo 5 (some .int) 3 := ⟨List.mem_filter.mpr ⟨in_t2 _ (List.mem_of_getElem? (i := 145) rfl), rfl⟩, List.mem_filter.mpr ⟨in_t1 _ (List.mem_of_getElem? (i := 1) (by decide +kernel)), rfl⟩, by decide +kernel, by decide +kernel, by decide⟩
theorem mv_X10_linesUpTo : jMyV yX10_linesUpTo := ⟨List.mem_filter.mpr ⟨in_t2 _ (List.mem_of_getElem? (i := 144) (by decide +kernel)), rfl⟩, List.mem_filter.mpr ⟨List.mem_append_left _ (List.mem_of_getElem? (i := 4) (by decide +kernel)), rfl⟩⟩
set_option maxRecDepth 100000 in
theorem my_X10_move : jMy yX10_move cX10_move 4 (some .int) 2 := ⟨List.mem_filter.mpr ⟨in_t3 _ (List.mem_of_getElem? (i := 101) rfl), rfl⟩, List.mem_filter.mpr ⟨in_t1 _ (List.mem_of_getElem? (i := 1) (by decide +kernel)), rfl⟩, by decide +kernel, by decide +kernel, by decide⟩
theorem mv_X10_move : jMyV yX10_move := ⟨List.mem_filter.mpr ⟨in_t3 _ (List.mem_of_getElem? (i := 100) (by decide +kernel)), rfl⟩, List.mem_filter.mpr ⟨List.mem_append_left _ (List.mem_of_getElem? (i := 21) (by decide +kernel)), rfl⟩⟩
set_option maxRecDepth 100000 in
theorem my_X10_near : jMy yX10_near cX10_near 6 (some .int) 1 := ⟨List.mem_filter.mpr ⟨in_t4 _ (List.mem_of_getElem? (i := 30) rfl), rfl⟩, List.mem_filter.mpr ⟨in_t1 _ (List.mem_of_getElem? (i := 1) (by decide +kernel)), rfl⟩, by decide +kernel, by decide +kernel, by decide⟩
theorem mv_X10_near : jMyV yX10_near := ⟨List.mem_filter.mpr ⟨in_t4 _ (List.mem_of_getElem? (i := 28) (by decide +kernel)), rfl⟩, List.mem_filter.mpr ⟨in_t4 _ (List.mem_of_getElem? (i := 29) (by decide +kernel)), rfl⟩⟩
set_option maxRecDepth 100000 in
theorem my_X10_openFor : jMy yX10_openFor cX10_openFor 6 (some .int) 1 := ⟨List.mem_filter.mpr ⟨in_t4 _ (List.mem_of_getElem? (i := 114) rfl), rfl⟩, List.mem_filter.mpr ⟨in_t1 _ (List.mem_of_getElem? (i := 1) (by decide +kernel)), rfl⟩, by decide +kernel, by decide +kernel, by decide⟩
theorem mv_X10_openFor : jMyV yX10_openFor := ⟨List.mem_filter.mpr ⟨in_t4 _ (List.mem_of_getElem? (i := 113) (by decide +kernel)), rfl⟩, List.mem_filter.mpr ⟨List.mem_append_left _ (List.mem_of_getElem? (i := 35) (by decide +kernel)), rfl⟩⟩
set_option maxRecDepth 100000 in
theorem my_X10_pause : jMy yX10_pause cX10_pause 2 (some .int) 1 := ⟨List.mem_filter.mpr ⟨in_t3 _ (List.mem_of_getElem? (i := 113) rfl), rfl⟩, List.mem_filter.mpr ⟨in_t1 _ (List.mem_of_getElem? (i := 1) (by decide +kernel)), rfl⟩, by decide +kernel, by decide +kernel, by decide⟩
theorem mv_X10_pause : jMyV yX10_pause := ⟨List.mem_filter.mpr ⟨in_t3 _ (List.mem_of_getElem? (i := 111) (by decide +kernel)), rfl⟩, List.mem_filter.mpr ⟨in_t3 _ (List.mem_of_getElem? (i := 112) (by decide +kernel)), rfl⟩⟩
set_option maxRecDepth 100000 in
theorem my_X10_pickNext : jMy yX10_pickNext cX10_pickNext 5 (some .boolean) 1 := ⟨List.mem_filter.mpr ⟨in_t4 _ (List.mem_of_getElem? (i := 154) rfl), rfl⟩, List.mem_filter.mpr ⟨in_t1 _ (List.mem_of_getElem? (i := 1) (by decide +kernel)), rfl⟩, by decide +kernel, by decide +kernel, by decide⟩
theorem mv_X10_pickNext : jMyV yX10_pickNext := ⟨List.mem_filter.mpr ⟨in_t4 _ (List.mem_of_getElem? (i := 153) (by decide +kernel)), rfl⟩, List.mem_filter.mpr ⟨List.mem_append_left _ (List.mem_of_getElem? (i := 40) (by decide +kernel)), rfl⟩⟩
set_option maxRecDepth 100000 in
theorem my_X10_power : jMy yX10_power cX10_power 5 (some .long) 2 := ⟨List.mem_filter.mpr ⟨in_t4 _ (List.mem_of_getElem? (i := 42) rfl), rfl⟩, List.mem_filter.mpr ⟨in_t1 _ (List.mem_of_getElem? (i := 1) (by decide +kernel)), rfl⟩, by decide +kernel, by decide +kernel, by decide⟩
theorem ms_X10_power : Cond.static yX10_power ∈ jTB := List.mem_filter.mpr ⟨in_t4 _ (List.mem_of_getElem? (i := 41) (by decide +kernel)), rfl⟩
set_option maxRecDepth 100000 in
theorem my_X10_priceAll : jMy yX10_priceAll cX10_priceAll 5 none 3 := ⟨List.mem_filter.mpr ⟨in_t3 _ (List.mem_of_getElem? (i := 167) rfl), rfl⟩, List.mem_filter.mpr ⟨in_t1 _ (List.mem_of_getElem? (i := 1) (by decide +kernel)), rfl⟩, by decide +kernel, by decide +kernel, by decide⟩
theorem mv_X10_priceAll : jMyV yX10_priceAll := ⟨List.mem_filter.mpr ⟨in_t3 _ (List.mem_of_getElem? (i := 166) (by decide +kernel)), rfl⟩, List.mem_filter.mpr ⟨List.mem_append_left _ (List.mem_of_getElem? (i := 26) (by decide +kernel)), rfl⟩⟩
set_option maxRecDepth 100000 in
theorem my_X10_priceOf : jMy yX10_priceOf cX10_priceOf 4 (some .int) 1 := ⟨List.mem_filter.mpr ⟨in_t4 _ (List.mem_of_getElem? (i := 71) rfl), rfl⟩, List.mem_filter.mpr ⟨in_t1 _ (List.mem_of_getElem? (i := 1) (by decide +kernel)), rfl⟩, by decide +kernel, by decide +kernel, by decide⟩
theorem mv_X10_priceOf : jMyV yX10_priceOf := ⟨List.mem_filter.mpr ⟨in_t4 _ (List.mem_of_getElem? (i := 70) (by decide +kernel)), rfl⟩, List.mem_filter.mpr ⟨List.mem_append_left _ (List.mem_of_getElem? (i := 32) (by decide +kernel)), rfl⟩⟩
set_option maxRecDepth 100000 in
theorem my_X10_pursesInAll : jMy yX10_pursesInAll cX10_pursesInAll 3 (some .int) 0 := ⟨List.mem_filter.mpr ⟨in_t3 _ (List.mem_of_getElem? (i := 37) rfl), rfl⟩, List.mem_filter.mpr ⟨in_t1 _ (List.mem_of_getElem? (i := 1) (by decide +kernel)), rfl⟩, by decide +kernel, by decide +kernel, by decide⟩
theorem mv_X10_pursesInAll : jMyV yX10_pursesInAll := ⟨List.mem_filter.mpr ⟨in_t3 _ (List.mem_of_getElem? (i := 36) (by decide +kernel)), rfl⟩, List.mem_filter.mpr ⟨List.mem_append_left _ (List.mem_of_getElem? (i := 15) (by decide +kernel)), rfl⟩⟩
set_option maxRecDepth 100000 in
theorem my_X10_readAct : jMy yX10_readAct cX10_readAct 4 (some .boolean) 1 := ⟨List.mem_filter.mpr ⟨in_t2 _ (List.mem_of_getElem? (i := 197) rfl), rfl⟩, List.mem_filter.mpr ⟨in_t1 _ (List.mem_of_getElem? (i := 1) (by decide +kernel)), rfl⟩, by decide +kernel, by decide +kernel, by decide⟩
theorem mv_X10_readAct : jMyV yX10_readAct := ⟨List.mem_filter.mpr ⟨in_t2 _ (List.mem_of_getElem? (i := 196) (by decide +kernel)), rfl⟩, List.mem_filter.mpr ⟨List.mem_append_left _ (List.mem_of_getElem? (i := 7) (by decide +kernel)), rfl⟩⟩
set_option maxRecDepth 100000 in
theorem my_X10_readDigits : jMy yX10_readDigits cX10_readDigits 4 (some .int) 2 := ⟨List.mem_filter.mpr ⟨in_t3 _ (List.mem_of_getElem? (i := 216) rfl), rfl⟩, List.mem_filter.mpr ⟨in_t1 _ (List.mem_of_getElem? (i := 1) (by decide +kernel)), rfl⟩, by decide +kernel, by decide +kernel, by decide⟩
theorem mv_X10_readDigits : jMyV yX10_readDigits := ⟨List.mem_filter.mpr ⟨in_t3 _ (List.mem_of_getElem? (i := 215) (by decide +kernel)), rfl⟩, List.mem_filter.mpr ⟨List.mem_append_left _ (List.mem_of_getElem? (i := 28) (by decide +kernel)), rfl⟩⟩
set_option maxRecDepth 100000 in
theorem my_X10_readLine : jMy yX10_readLine cX10_readLine 3 (some .boolean) 2 := ⟨List.mem_filter.mpr ⟨in_t2 _ (List.mem_of_getElem? (i := 149) rfl), rfl⟩, List.mem_filter.mpr ⟨in_t1 _ (List.mem_of_getElem? (i := 1) (by decide +kernel)), rfl⟩, by decide +kernel, by decide +kernel, by decide⟩
theorem mv_X10_readLine : jMyV yX10_readLine := ⟨List.mem_filter.mpr ⟨in_t2 _ (List.mem_of_getElem? (i := 148) (by decide +kernel)), rfl⟩, List.mem_filter.mpr ⟨List.mem_append_left _ (List.mem_of_getElem? (i := 5) (by decide +kernel)), rfl⟩⟩
set_option maxRecDepth 100000 in
theorem my_X10_readLines : jMy yX10_readLines cX10_readLines 6 (some .int) 4 := ⟨List.mem_filter.mpr ⟨in_t2 _ (List.mem_of_getElem? (i := 134) rfl), rfl⟩, List.mem_filter.mpr ⟨in_t1 _ (List.mem_of_getElem? (i := 1) (by decide +kernel)), rfl⟩, by decide +kernel, by decide +kernel, by decide⟩
theorem mv_X10_readLines : jMyV yX10_readLines := ⟨List.mem_filter.mpr ⟨in_t2 _ (List.mem_of_getElem? (i := 133) (by decide +kernel)), rfl⟩, List.mem_filter.mpr ⟨List.mem_append_left _ (List.mem_of_getElem? (i := 3) (by decide +kernel)), rfl⟩⟩
set_option maxRecDepth 100000 in
theorem my_X10_readSpareTariff : jMy yX10_readSpareTariff cX10_readSpareTariff 2 (some .int) 0 := ⟨List.mem_filter.mpr ⟨in_t2 _ (List.mem_of_getElem? (i := 224) rfl), rfl⟩, List.mem_filter.mpr ⟨in_t1 _ (List.mem_of_getElem? (i := 1) (by decide +kernel)), rfl⟩, by decide +kernel, by decide +kernel, by decide⟩
theorem mv_X10_readSpareTariff : jMyV yX10_readSpareTariff := ⟨List.mem_filter.mpr ⟨in_t2 _ (List.mem_of_getElem? (i := 223) (by decide +kernel)), rfl⟩, List.mem_filter.mpr ⟨List.mem_append_left _ (List.mem_of_getElem? (i := 8) (by decide +kernel)), rfl⟩⟩
set_option maxRecDepth 100000 in
theorem my_X10_road : jMy yX10_road cX10_road 3 (some .int) 1 := ⟨List.mem_filter.mpr ⟨in_t2 _ (List.mem_of_getElem? (i := 111) rfl), rfl⟩, List.mem_filter.mpr ⟨in_t1 _ (List.mem_of_getElem? (i := 1) (by decide +kernel)), rfl⟩, by decide +kernel, by decide +kernel, by decide⟩
theorem mv_X10_road : jMyV yX10_road := ⟨List.mem_filter.mpr ⟨in_t2 _ (List.mem_of_getElem? (i := 109) (by decide +kernel)), rfl⟩, List.mem_filter.mpr ⟨in_t2 _ (List.mem_of_getElem? (i := 110) (by decide +kernel)), rfl⟩⟩
set_option maxRecDepth 100000 in
theorem my_X10_row : jMy yX10_row cX10_row 2 (some .long) 1 := ⟨List.mem_filter.mpr ⟨in_t5 _ (List.mem_of_getElem? (i := 67) rfl), rfl⟩, List.mem_filter.mpr ⟨in_t1 _ (List.mem_of_getElem? (i := 1) (by decide +kernel)), rfl⟩, by decide +kernel, by decide +kernel, by decide⟩
theorem mv_X10_row : jMyV yX10_row := ⟨List.mem_filter.mpr ⟨in_t5 _ (List.mem_of_getElem? (i := 65) (by decide +kernel)), rfl⟩, List.mem_filter.mpr ⟨in_t5 _ (List.mem_of_getElem? (i := 66) (by decide +kernel)), rfl⟩⟩
set_option maxRecDepth 100000 in
theorem my_X10_rule : jMy yX10_rule cX10_rule 3 (some .int) 0 := ⟨List.mem_filter.mpr ⟨in_t2 _ (List.mem_of_getElem? (i := 220) rfl), rfl⟩, List.mem_filter.mpr ⟨in_t1 _ (List.mem_of_getElem? (i := 1) (by decide +kernel)), rfl⟩, by decide +kernel, by decide +kernel, by decide⟩
theorem mv_X10_rule : jMyV yX10_rule := ⟨List.mem_filter.mpr ⟨in_t2 _ (List.mem_of_getElem? (i := 218) (by decide +kernel)), rfl⟩, List.mem_filter.mpr ⟨in_t2 _ (List.mem_of_getElem? (i := 219) (by decide +kernel)), rfl⟩⟩
set_option maxRecDepth 100000 in
theorem my_X10_said : jMy yX10_said cX10_said 4 (some .int) 0 := ⟨List.mem_filter.mpr ⟨in_t4 _ (List.mem_of_getElem? (i := 138) rfl), rfl⟩, List.mem_filter.mpr ⟨in_t1 _ (List.mem_of_getElem? (i := 1) (by decide +kernel)), rfl⟩, by decide +kernel, by decide +kernel, by decide⟩
theorem mv_X10_said : jMyV yX10_said := ⟨List.mem_filter.mpr ⟨in_t4 _ (List.mem_of_getElem? (i := 136) (by decide +kernel)), rfl⟩, List.mem_filter.mpr ⟨in_t4 _ (List.mem_of_getElem? (i := 137) (by decide +kernel)), rfl⟩⟩
set_option maxRecDepth 100000 in
theorem my_X10_say : jMy yX10_say cX10_say 4 (some .int) 2 := ⟨List.mem_filter.mpr ⟨in_t3 _ (List.mem_of_getElem? (i := 117) rfl), rfl⟩, List.mem_filter.mpr ⟨in_t1 _ (List.mem_of_getElem? (i := 1) (by decide +kernel)), rfl⟩, by decide +kernel, by decide +kernel, by decide⟩
theorem mv_X10_say : jMyV yX10_say := ⟨List.mem_filter.mpr ⟨in_t3 _ (List.mem_of_getElem? (i := 115) (by decide +kernel)), rfl⟩, List.mem_filter.mpr ⟨in_t3 _ (List.mem_of_getElem? (i := 116) (by decide +kernel)), rfl⟩⟩
set_option maxRecDepth 100000 in
theorem my_X10_sayThere : jMy yX10_sayThere cX10_sayThere 6 none 3 := ⟨List.mem_filter.mpr ⟨in_t4 _ (List.mem_of_getElem? (i := 94) rfl), rfl⟩, List.mem_filter.mpr ⟨in_t1 _ (List.mem_of_getElem? (i := 1) (by decide +kernel)), rfl⟩, by decide +kernel, by decide +kernel, by decide⟩
theorem mv_X10_sayThere : jMyV yX10_sayThere := ⟨List.mem_filter.mpr ⟨in_t4 _ (List.mem_of_getElem? (i := 93) (by decide +kernel)), rfl⟩, List.mem_filter.mpr ⟨List.mem_append_left _ (List.mem_of_getElem? (i := 34) (by decide +kernel)), rfl⟩⟩
set_option maxRecDepth 100000 in
theorem my_X10_sentence : jMy yX10_sentence cX10_sentence 5 (some .int) 1 := ⟨List.mem_filter.mpr ⟨in_t3 _ (List.mem_of_getElem? (i := 212) rfl), rfl⟩, List.mem_filter.mpr ⟨in_t1 _ (List.mem_of_getElem? (i := 1) (by decide +kernel)), rfl⟩, by decide +kernel, by decide +kernel, by decide⟩
theorem mv_X10_sentence : jMyV yX10_sentence := ⟨List.mem_filter.mpr ⟨in_t3 _ (List.mem_of_getElem? (i := 210) (by decide +kernel)), rfl⟩, List.mem_filter.mpr ⟨in_t3 _ (List.mem_of_getElem? (i := 211) (by decide +kernel)), rfl⟩⟩
set_option maxRecDepth 100000 in
theorem my_X10_sheet : jMy yX10_sheet cX10_sheet 7 (some .int) 4 := ⟨List.mem_filter.mpr ⟨in_t3 _ (List.mem_of_getElem? (i := 26) rfl), rfl⟩, List.mem_filter.mpr ⟨in_t1 _ (List.mem_of_getElem? (i := 1) (by decide +kernel)), rfl⟩, by decide +kernel, by decide +kernel, by decide⟩
theorem mv_X10_sheet : jMyV yX10_sheet := ⟨List.mem_filter.mpr ⟨in_t3 _ (List.mem_of_getElem? (i := 24) (by decide +kernel)), rfl⟩, List.mem_filter.mpr ⟨in_t3 _ (List.mem_of_getElem? (i := 25) (by decide +kernel)), rfl⟩⟩
set_option maxRecDepth 100000 in
theorem my_X10_shortest : jMy yX10_shortest cX10_shortest 6 (some .int) 3 := ⟨List.mem_filter.mpr ⟨in_t4 _ (List.mem_of_getElem? (i := 0) rfl), rfl⟩, List.mem_filter.mpr ⟨in_t1 _ (List.mem_of_getElem? (i := 1) (by decide +kernel)), rfl⟩, by decide +kernel, by decide +kernel, by decide⟩
theorem mv_X10_shortest : jMyV yX10_shortest := ⟨List.mem_filter.mpr ⟨in_t3 _ (List.mem_of_getElem? (i := 238) (by decide +kernel)), rfl⟩, List.mem_filter.mpr ⟨in_t3 _ (List.mem_of_getElem? (i := 239) (by decide +kernel)), rfl⟩⟩
set_option maxRecDepth 100000 in
theorem my_X10_sign : jMy yX10_sign cX10_sign 2 (some .int) 1 := ⟨List.mem_filter.mpr ⟨in_t2 _ (List.mem_of_getElem? (i := 99) rfl), rfl⟩, List.mem_filter.mpr ⟨in_t1 _ (List.mem_of_getElem? (i := 1) (by decide +kernel)), rfl⟩, by decide +kernel, by decide +kernel, by decide⟩
theorem mv_X10_sign : jMyV yX10_sign := ⟨List.mem_filter.mpr ⟨in_t2 _ (List.mem_of_getElem? (i := 97) (by decide +kernel)), rfl⟩, List.mem_filter.mpr ⟨in_t2 _ (List.mem_of_getElem? (i := 98) (by decide +kernel)), rfl⟩⟩
set_option maxRecDepth 100000 in
theorem my_X10_soonest : jMy yX10_soonest cX10_soonest 9 (some .int) 3 := ⟨List.mem_filter.mpr ⟨in_t4 _ (List.mem_of_getElem? (i := 79) rfl), rfl⟩, List.mem_filter.mpr ⟨in_t1 _ (List.mem_of_getElem? (i := 1) (by decide +kernel)), rfl⟩, by decide +kernel, by decide +kernel, by decide⟩
theorem mv_X10_soonest : jMyV yX10_soonest := ⟨List.mem_filter.mpr ⟨in_t4 _ (List.mem_of_getElem? (i := 78) (by decide +kernel)), rfl⟩, List.mem_filter.mpr ⟨List.mem_append_left _ (List.mem_of_getElem? (i := 33) (by decide +kernel)), rfl⟩⟩
set_option maxRecDepth 100000 in
theorem my_X10_speak : jMy yX10_speak cX10_speak 6 (some .int) 2 := ⟨List.mem_filter.mpr ⟨in_t3 _ (List.mem_of_getElem? (i := 121) rfl), rfl⟩, List.mem_filter.mpr ⟨in_t1 _ (List.mem_of_getElem? (i := 1) (by decide +kernel)), rfl⟩, by decide +kernel, by decide +kernel, by decide⟩
theorem mv_X10_speak : jMyV yX10_speak := ⟨List.mem_filter.mpr ⟨in_t3 _ (List.mem_of_getElem? (i := 120) (by decide +kernel)), rfl⟩, List.mem_filter.mpr ⟨List.mem_append_left _ (List.mem_of_getElem? (i := 23) (by decide +kernel)), rfl⟩⟩
set_option maxRecDepth 100000 in
theorem my_X10_stationsNeeded : jMy yX10_stationsNeeded cX10_stationsNeeded 3 (some .int) 0 := ⟨List.mem_filter.mpr ⟨in_t2 _ (List.mem_of_getElem? (i := 115) rfl), rfl⟩, List.mem_filter.mpr ⟨in_t1 _ (List.mem_of_getElem? (i := 1) (by decide +kernel)), rfl⟩, by decide +kernel, by decide +kernel, by decide⟩
theorem mv_X10_stationsNeeded : jMyV yX10_stationsNeeded := ⟨List.mem_filter.mpr ⟨in_t2 _ (List.mem_of_getElem? (i := 114) (by decide +kernel)), rfl⟩, List.mem_filter.mpr ⟨List.mem_append_left _ (List.mem_of_getElem? (i := 1) (by decide +kernel)), rfl⟩⟩
set_option maxRecDepth 100000 in
theorem my_X10_takes : jMy yX10_takes cX10_takes 4 (some .int) 2 := ⟨List.mem_filter.mpr ⟨in_t4 _ (List.mem_of_getElem? (i := 122) rfl), rfl⟩, List.mem_filter.mpr ⟨in_t1 _ (List.mem_of_getElem? (i := 1) (by decide +kernel)), rfl⟩, by decide +kernel, by decide +kernel, by decide⟩
theorem mv_X10_takes : jMyV yX10_takes := ⟨List.mem_filter.mpr ⟨in_t4 _ (List.mem_of_getElem? (i := 120) (by decide +kernel)), rfl⟩, List.mem_filter.mpr ⟨in_t4 _ (List.mem_of_getElem? (i := 121) (by decide +kernel)), rfl⟩⟩
set_option maxRecDepth 100000 in
theorem my_X10_tellPicked : jMy yX10_tellPicked cX10_tellPicked 3 none 1 := ⟨List.mem_filter.mpr ⟨in_t4 _ (List.mem_of_getElem? (i := 150) rfl), rfl⟩, List.mem_filter.mpr ⟨in_t1 _ (List.mem_of_getElem? (i := 1) (by decide +kernel)), rfl⟩, by decide +kernel, by decide +kernel, by decide⟩
theorem mv_X10_tellPicked : jMyV yX10_tellPicked := ⟨List.mem_filter.mpr ⟨in_t4 _ (List.mem_of_getElem? (i := 149) (by decide +kernel)), rfl⟩, List.mem_filter.mpr ⟨List.mem_append_left _ (List.mem_of_getElem? (i := 39) (by decide +kernel)), rfl⟩⟩
set_option maxRecDepth 100000 in
theorem my_X10_tellSentence : jMy yX10_tellSentence cX10_tellSentence 4 none 1 := ⟨List.mem_filter.mpr ⟨in_t3 _ (List.mem_of_getElem? (i := 232) rfl), rfl⟩, List.mem_filter.mpr ⟨in_t1 _ (List.mem_of_getElem? (i := 1) (by decide +kernel)), rfl⟩, by decide +kernel, by decide +kernel, by decide⟩
theorem mv_X10_tellSentence : jMyV yX10_tellSentence := ⟨List.mem_filter.mpr ⟨in_t3 _ (List.mem_of_getElem? (i := 231) (by decide +kernel)), rfl⟩, List.mem_filter.mpr ⟨List.mem_append_left _ (List.mem_of_getElem? (i := 29) (by decide +kernel)), rfl⟩⟩
set_option maxRecDepth 100000 in
theorem my_X10_toll : jMy yX10_toll cX10_toll 5 (some .int) 2 := ⟨List.mem_filter.mpr ⟨in_t3 _ (List.mem_of_getElem? (i := 41) rfl), rfl⟩, List.mem_filter.mpr ⟨in_t1 _ (List.mem_of_getElem? (i := 1) (by decide +kernel)), rfl⟩, by decide +kernel, by decide +kernel, by decide⟩
theorem mv_X10_toll : jMyV yX10_toll := ⟨List.mem_filter.mpr ⟨in_t3 _ (List.mem_of_getElem? (i := 39) (by decide +kernel)), rfl⟩, List.mem_filter.mpr ⟨in_t3 _ (List.mem_of_getElem? (i := 40) (by decide +kernel)), rfl⟩⟩
set_option maxRecDepth 100000 in
theorem my_X10_traveller : jMy yX10_traveller cX10_traveller 3 (some .int) 2 := ⟨List.mem_filter.mpr ⟨in_t5 _ (List.mem_of_getElem? (i := 46) rfl), rfl⟩, List.mem_filter.mpr ⟨in_t1 _ (List.mem_of_getElem? (i := 1) (by decide +kernel)), rfl⟩, by decide +kernel, by decide +kernel, by decide⟩
theorem mv_X10_traveller : jMyV yX10_traveller := ⟨List.mem_filter.mpr ⟨in_t5 _ (List.mem_of_getElem? (i := 44) (by decide +kernel)), rfl⟩, List.mem_filter.mpr ⟨in_t5 _ (List.mem_of_getElem? (i := 45) (by decide +kernel)), rfl⟩⟩
set_option maxRecDepth 100000 in
theorem my_X10_travellers : jMy yX10_travellers cX10_travellers 2 (some .int) 0 := ⟨List.mem_filter.mpr ⟨in_t2 _ (List.mem_of_getElem? (i := 212) rfl), rfl⟩, List.mem_filter.mpr ⟨in_t1 _ (List.mem_of_getElem? (i := 1) (by decide +kernel)), rfl⟩, by decide +kernel, by decide +kernel, by decide⟩
theorem mv_X10_travellers : jMyV yX10_travellers := ⟨List.mem_filter.mpr ⟨in_t2 _ (List.mem_of_getElem? (i := 210) (by decide +kernel)), rfl⟩, List.mem_filter.mpr ⟨in_t2 _ (List.mem_of_getElem? (i := 211) (by decide +kernel)), rfl⟩⟩
set_option maxRecDepth 100000 in
theorem my_X10_trip : jMy yX10_trip cX10_trip 4 (some .int) 2 := ⟨List.mem_filter.mpr ⟨in_t4 _ (List.mem_of_getElem? (i := 75) rfl), rfl⟩, List.mem_filter.mpr ⟨in_t1 _ (List.mem_of_getElem? (i := 1) (by decide +kernel)), rfl⟩, by decide +kernel, by decide +kernel, by decide⟩
theorem mv_X10_trip : jMyV yX10_trip := ⟨List.mem_filter.mpr ⟨in_t4 _ (List.mem_of_getElem? (i := 73) (by decide +kernel)), rfl⟩, List.mem_filter.mpr ⟨in_t4 _ (List.mem_of_getElem? (i := 74) (by decide +kernel)), rfl⟩⟩
set_option maxRecDepth 100000 in
theorem my_X10_undo : jMy yX10_undo cX10_undo 1 (some .int) 0 := ⟨List.mem_filter.mpr ⟨in_t3 _ (List.mem_of_getElem? (i := 188) rfl), rfl⟩, List.mem_filter.mpr ⟨in_t1 _ (List.mem_of_getElem? (i := 1) (by decide +kernel)), rfl⟩, by decide +kernel, by decide +kernel, by decide⟩
theorem mv_X10_undo : jMyV yX10_undo := ⟨List.mem_filter.mpr ⟨in_t3 _ (List.mem_of_getElem? (i := 186) (by decide +kernel)), rfl⟩, List.mem_filter.mpr ⟨in_t3 _ (List.mem_of_getElem? (i := 187) (by decide +kernel)), rfl⟩⟩
set_option maxRecDepth 100000 in
theorem my_X10_walk : jMy yX10_walk cX10_walk 4 (some .int) 2 := ⟨List.mem_filter.mpr ⟨in_t3 _ (List.mem_of_getElem? (i := 78) rfl), rfl⟩, List.mem_filter.mpr ⟨in_t1 _ (List.mem_of_getElem? (i := 1) (by decide +kernel)), rfl⟩, by decide +kernel, by decide +kernel, by decide⟩
theorem mv_X10_walk : jMyV yX10_walk := ⟨List.mem_filter.mpr ⟨in_t3 _ (List.mem_of_getElem? (i := 76) (by decide +kernel)), rfl⟩, List.mem_filter.mpr ⟨in_t3 _ (List.mem_of_getElem? (i := 77) (by decide +kernel)), rfl⟩⟩
set_option maxRecDepth 100000 in
theorem my_X10_waysToSay : jMy yX10_waysToSay cX10_waysToSay 5 (some .int) 1 := ⟨List.mem_filter.mpr ⟨in_t4 _ (List.mem_of_getElem? (i := 142) rfl), rfl⟩, List.mem_filter.mpr ⟨in_t1 _ (List.mem_of_getElem? (i := 1) (by decide +kernel)), rfl⟩, by decide +kernel, by decide +kernel, by decide⟩
theorem mv_X10_waysToSay : jMyV yX10_waysToSay := ⟨List.mem_filter.mpr ⟨in_t4 _ (List.mem_of_getElem? (i := 141) (by decide +kernel)), rfl⟩, List.mem_filter.mpr ⟨List.mem_append_left _ (List.mem_of_getElem? (i := 37) (by decide +kernel)), rfl⟩⟩
set_option maxRecDepth 100000 in
theorem my_X10_when : jMy yX10_when cX10_when 8 (some .int) 2 := ⟨List.mem_filter.mpr ⟨in_t3 _ (List.mem_of_getElem? (i := 236) rfl), rfl⟩, List.mem_filter.mpr ⟨in_t1 _ (List.mem_of_getElem? (i := 1) (by decide +kernel)), rfl⟩, by decide +kernel, by decide +kernel, by decide⟩
theorem mv_X10_when : jMyV yX10_when := ⟨List.mem_filter.mpr ⟨in_t3 _ (List.mem_of_getElem? (i := 234) (by decide +kernel)), rfl⟩, List.mem_filter.mpr ⟨in_t3 _ (List.mem_of_getElem? (i := 235) (by decide +kernel)), rfl⟩⟩
set_option maxRecDepth 100000 in
theorem my_X10_word : jMy yX10_word cX10_word 3 (some .int) 2 := ⟨List.mem_filter.mpr ⟨in_t4 _ (List.mem_of_getElem? (i := 218) rfl), rfl⟩, List.mem_filter.mpr ⟨in_t1 _ (List.mem_of_getElem? (i := 1) (by decide +kernel)), rfl⟩, by decide +kernel, by decide +kernel, by decide⟩
theorem mv_X10_word : jMyV yX10_word := ⟨List.mem_filter.mpr ⟨in_t4 _ (List.mem_of_getElem? (i := 216) (by decide +kernel)), rfl⟩, List.mem_filter.mpr ⟨in_t4 _ (List.mem_of_getElem? (i := 217) (by decide +kernel)), rfl⟩⟩
set_option maxRecDepth 100000 in
theorem my_X10_wordForErrand : jMy yX10_wordForErrand cX10_wordForErrand 4 (some .int) 1 := ⟨List.mem_filter.mpr ⟨in_t3 _ (List.mem_of_getElem? (i := 159) rfl), rfl⟩, List.mem_filter.mpr ⟨in_t1 _ (List.mem_of_getElem? (i := 1) (by decide +kernel)), rfl⟩, by decide +kernel, by decide +kernel, by decide⟩
theorem mv_X10_wordForErrand : jMyV yX10_wordForErrand := ⟨List.mem_filter.mpr ⟨in_t3 _ (List.mem_of_getElem? (i := 158) (by decide +kernel)), rfl⟩, List.mem_filter.mpr ⟨List.mem_append_left _ (List.mem_of_getElem? (i := 25) (by decide +kernel)), rfl⟩⟩
set_option maxRecDepth 100000 in
theorem my_X10_words : jMy yX10_words cX10_words 2 (some .int) 0 := ⟨List.mem_filter.mpr ⟨in_t2 _ (List.mem_of_getElem? (i := 130) rfl), rfl⟩, List.mem_filter.mpr ⟨in_t1 _ (List.mem_of_getElem? (i := 1) (by decide +kernel)), rfl⟩, by decide +kernel, by decide +kernel, by decide⟩
theorem mv_X10_words : jMyV yX10_words := ⟨List.mem_filter.mpr ⟨in_t2 _ (List.mem_of_getElem? (i := 128) (by decide +kernel)), rfl⟩, List.mem_filter.mpr ⟨in_t2 _ (List.mem_of_getElem? (i := 129) (by decide +kernel)), rfl⟩⟩
set_option maxRecDepth 100000 in
theorem my_X10_years : jMy yX10_years cX10_years 9 (some .int) 2 := ⟨List.mem_filter.mpr ⟨in_t4 _ (List.mem_of_getElem? (i := 169) rfl), rfl⟩, List.mem_filter.mpr ⟨in_t1 _ (List.mem_of_getElem? (i := 1) (by decide +kernel)), rfl⟩, by decide +kernel, by decide +kernel, by decide⟩
theorem mv_X10_years : jMyV yX10_years := ⟨List.mem_filter.mpr ⟨in_t4 _ (List.mem_of_getElem? (i := 167) (by decide +kernel)), rfl⟩, List.mem_filter.mpr ⟨in_t4 _ (List.mem_of_getElem? (i := 168) (by decide +kernel)), rfl⟩⟩
set_option maxRecDepth 100000 in
theorem my_X11_act : jMy yX11_act cX11_act 5 (some .boolean) 3 := ⟨List.mem_filter.mpr ⟨in_t6 _ (List.mem_of_getElem? (i := 239) rfl), rfl⟩, List.mem_filter.mpr ⟨in_t1 _ (List.mem_of_getElem? (i := 11) (by decide +kernel)), rfl⟩, by decide +kernel, by decide +kernel, by decide⟩
theorem mv_X11_act : jMyV yX11_act := ⟨List.mem_filter.mpr ⟨in_t6 _ (List.mem_of_getElem? (i := 238) (by decide +kernel)), rfl⟩, List.mem_filter.mpr ⟨List.mem_append_left _ (List.mem_of_getElem? (i := 77) (by decide +kernel)), rfl⟩⟩
set_option maxRecDepth 100000 in
theorem my_X11_again : jMy yX11_again cX11_again 3 (some .boolean) 1 := ⟨List.mem_filter.mpr ⟨in_t7 _ (List.mem_of_getElem? (i := 168) rfl), rfl⟩, List.mem_filter.mpr ⟨in_t1 _ (List.mem_of_getElem? (i := 11) (by decide +kernel)), rfl⟩, by decide +kernel, by decide +kernel, by decide⟩
theorem mv_X11_again : jMyV yX11_again := ⟨List.mem_filter.mpr ⟨in_t7 _ (List.mem_of_getElem? (i := 166) (by decide +kernel)), rfl⟩, List.mem_filter.mpr ⟨in_t7 _ (List.mem_of_getElem? (i := 167) (by decide +kernel)), rfl⟩⟩
set_option maxRecDepth 100000 in
theorem my_X11_alms : jMy yX11_alms cX11_alms 4 (some .int) 3 := ⟨List.mem_filter.mpr ⟨in_t6 _ (List.mem_of_getElem? (i := 227) rfl), rfl⟩, List.mem_filter.mpr ⟨in_t1 _ (List.mem_of_getElem? (i := 11) (by decide +kernel)), rfl⟩, by decide +kernel, by decide +kernel, by decide⟩
theorem mv_X11_alms : jMyV yX11_alms := ⟨List.mem_filter.mpr ⟨in_t6 _ (List.mem_of_getElem? (i := 225) (by decide +kernel)), rfl⟩, List.mem_filter.mpr ⟨in_t6 _ (List.mem_of_getElem? (i := 226) (by decide +kernel)), rfl⟩⟩
set_option maxRecDepth 100000 in
theorem my_X11_areApart : jMy yX11_areApart cX11_areApart 5 (some .boolean) 2 := ⟨List.mem_filter.mpr ⟨in_t7 _ (List.mem_of_getElem? (i := 83) rfl), rfl⟩, List.mem_filter.mpr ⟨in_t1 _ (List.mem_of_getElem? (i := 11) (by decide +kernel)), rfl⟩, by decide +kernel, by decide +kernel, by decide⟩
theorem mv_X11_areApart : jMyV yX11_areApart := ⟨List.mem_filter.mpr ⟨in_t7 _ (List.mem_of_getElem? (i := 82) (by decide +kernel)), rfl⟩, List.mem_filter.mpr ⟨List.mem_append_left _ (List.mem_of_getElem? (i := 86) (by decide +kernel)), rfl⟩⟩
set_option maxRecDepth 100000 in
theorem my_X11_ask : jMy yX11_ask cX11_ask 8 (some .int) 0 := ⟨List.mem_filter.mpr ⟨in_t7 _ (List.mem_of_getElem? (i := 151) rfl), rfl⟩, List.mem_filter.mpr ⟨in_t1 _ (List.mem_of_getElem? (i := 11) (by decide +kernel)), rfl⟩, by decide +kernel, by decide +kernel, by decide⟩
theorem mv_X11_ask : jMyV yX11_ask := ⟨List.mem_filter.mpr ⟨in_t7 _ (List.mem_of_getElem? (i := 149) (by decide +kernel)), rfl⟩, List.mem_filter.mpr ⟨in_t7 _ (List.mem_of_getElem? (i := 150) (by decide +kernel)), rfl⟩⟩
set_option maxRecDepth 100000 in
theorem my_X11_begin : jMy yX11_begin cX11_begin 4 none 3 := ⟨List.mem_filter.mpr ⟨in_t6 _ (List.mem_of_getElem? (i := 34) rfl), rfl⟩, List.mem_filter.mpr ⟨in_t1 _ (List.mem_of_getElem? (i := 11) (by decide +kernel)), rfl⟩, by decide +kernel, by decide +kernel, by decide⟩
theorem mv_X11_begin : jMyV yX11_begin := ⟨List.mem_filter.mpr ⟨in_t6 _ (List.mem_of_getElem? (i := 33) (by decide +kernel)), rfl⟩, List.mem_filter.mpr ⟨List.mem_append_left _ (List.mem_of_getElem? (i := 44) (by decide +kernel)), rfl⟩⟩
set_option maxRecDepth 100000 in
theorem my_X11_beginText : jMy yX11_beginText cX11_beginText 2 none 1 := ⟨List.mem_filter.mpr ⟨in_t6 _ (List.mem_of_getElem? (i := 30) rfl), rfl⟩, List.mem_filter.mpr ⟨in_t1 _ (List.mem_of_getElem? (i := 11) (by decide +kernel)), rfl⟩, by decide +kernel, by decide +kernel, by decide⟩
theorem mv_X11_beginText : jMyV yX11_beginText := ⟨List.mem_filter.mpr ⟨in_t6 _ (List.mem_of_getElem? (i := 29) (by decide +kernel)), rfl⟩, List.mem_filter.mpr ⟨List.mem_append_left _ (List.mem_of_getElem? (i := 43) (by decide +kernel)), rfl⟩⟩
set_option maxRecDepth 100000 in
theorem my_X11_best : jMy yX11_best cX11_best 10 (some .int) 1 := ⟨List.mem_filter.mpr ⟨in_t7 _ (List.mem_of_getElem? (i := 111) rfl), rfl⟩, List.mem_filter.mpr ⟨in_t1 _ (List.mem_of_getElem? (i := 11) (by decide +kernel)), rfl⟩, by decide +kernel, by decide +kernel, by decide⟩
theorem mv_X11_best : jMyV yX11_best := ⟨List.mem_filter.mpr ⟨in_t7 _ (List.mem_of_getElem? (i := 109) (by decide +kernel)), rfl⟩, List.mem_filter.mpr ⟨in_t7 _ (List.mem_of_getElem? (i := 110) (by decide +kernel)), rfl⟩⟩
set_option maxRecDepth 100000 in
theorem my_X11_book : jMy yX11_book cX11_book 3 (some .int) 2 := ⟨List.mem_filter.mpr ⟨in_t6 _ (List.mem_of_getElem? (i := 159) rfl), rfl⟩, List.mem_filter.mpr ⟨in_t1 _ (List.mem_of_getElem? (i := 11) (by decide +kernel)), rfl⟩, by decide +kernel, by decide +kernel, by decide⟩
theorem mv_X11_book : jMyV yX11_book := ⟨List.mem_filter.mpr ⟨in_t6 _ (List.mem_of_getElem? (i := 157) (by decide +kernel)), rfl⟩, List.mem_filter.mpr ⟨in_t6 _ (List.mem_of_getElem? (i := 158) (by decide +kernel)), rfl⟩⟩
set_option maxRecDepth 100000 in
theorem my_X11_changesOf : jMy yX11_changesOf cX11_changesOf 7 (some .int) 2 := ⟨List.mem_filter.mpr ⟨in_t7 _ (List.mem_of_getElem? (i := 51) rfl), rfl⟩, List.mem_filter.mpr ⟨in_t1 _ (List.mem_of_getElem? (i := 11) (by decide +kernel)), rfl⟩, by decide +kernel, by decide +kernel, by decide⟩
theorem mv_X11_changesOf : jMyV yX11_changesOf := ⟨List.mem_filter.mpr ⟨in_t7 _ (List.mem_of_getElem? (i := 50) (by decide +kernel)), rfl⟩, List.mem_filter.mpr ⟨List.mem_append_left _ (List.mem_of_getElem? (i := 83) (by decide +kernel)), rfl⟩⟩
set_option maxRecDepth 100000 in
theorem my_X11_cheapest : jMy yX11_cheapest cX11_cheapest 6 (some .int) 2 := ⟨List.mem_filter.mpr ⟨in_t7 _ (List.mem_of_getElem? (i := 15) rfl), rfl⟩, List.mem_filter.mpr ⟨in_t1 _ (List.mem_of_getElem? (i := 11) (by decide +kernel)), rfl⟩, by decide +kernel, by decide +kernel, by decide⟩
theorem mv_X11_cheapest : jMyV yX11_cheapest := ⟨List.mem_filter.mpr ⟨in_t7 _ (List.mem_of_getElem? (i := 13) (by decide +kernel)), rfl⟩, List.mem_filter.mpr ⟨in_t7 _ (List.mem_of_getElem? (i := 14) (by decide +kernel)), rfl⟩⟩
set_option maxRecDepth 100000 in
theorem my_X11_cheapestOf : jMy yX11_cheapestOf cX11_cheapestOf 5 (some .int) 2 := ⟨List.mem_filter.mpr ⟨in_t7 _ (List.mem_of_getElem? (i := 7) rfl), rfl⟩, List.mem_filter.mpr ⟨in_t1 _ (List.mem_of_getElem? (i := 11) (by decide +kernel)), rfl⟩, by decide +kernel, by decide +kernel, by decide⟩
theorem mv_X11_cheapestOf : jMyV yX11_cheapestOf := ⟨List.mem_filter.mpr ⟨in_t7 _ (List.mem_of_getElem? (i := 6) (by decide +kernel)), rfl⟩, List.mem_filter.mpr ⟨List.mem_append_left _ (List.mem_of_getElem? (i := 79) (by decide +kernel)), rfl⟩⟩
set_option maxRecDepth 100000 in
theorem my_X11_code : jMy yX11_code cX11_code 5 (some .int) 1 := ⟨List.mem_filter.mpr ⟨in_t7 _ (List.mem_of_getElem? (i := 74) rfl), rfl⟩, List.mem_filter.mpr ⟨in_t1 _ (List.mem_of_getElem? (i := 11) (by decide +kernel)), rfl⟩, by decide +kernel, by decide +kernel, by decide⟩
theorem mv_X11_code : jMyV yX11_code := ⟨List.mem_filter.mpr ⟨in_t7 _ (List.mem_of_getElem? (i := 72) (by decide +kernel)), rfl⟩, List.mem_filter.mpr ⟨in_t7 _ (List.mem_of_getElem? (i := 73) (by decide +kernel)), rfl⟩⟩
set_option maxRecDepth 100000 in
theorem my_X11_common : jMy yX11_common cX11_common 4 (some .long) 2 := ⟨List.mem_filter.mpr ⟨in_t7 _ (List.mem_of_getElem? (i := 70) rfl), rfl⟩, List.mem_filter.mpr ⟨in_t1 _ (List.mem_of_getElem? (i := 11) (by decide +kernel)), rfl⟩, by decide +kernel, by decide +kernel, by decide⟩
theorem ms_X11_common : Cond.static yX11_common ∈ jTB := List.mem_filter.mpr ⟨in_t7 _ (List.mem_of_getElem? (i := 69) (by decide +kernel)), rfl⟩
set_option maxRecDepth 100000 in
theorem my_X11_count : jMy yX11_count cX11_count 4 (some .int) 1 := ⟨List.mem_filter.mpr ⟨in_t7 _ (List.mem_of_getElem? (i := 172) rfl), rfl⟩, List.mem_filter.mpr ⟨in_t1 _ (List.mem_of_getElem? (i := 11) (by decide +kernel)), rfl⟩, by decide +kernel, by decide +kernel, by decide⟩
theorem mv_X11_count : jMyV yX11_count := ⟨List.mem_filter.mpr ⟨in_t7 _ (List.mem_of_getElem? (i := 170) (by decide +kernel)), rfl⟩, List.mem_filter.mpr ⟨in_t7 _ (List.mem_of_getElem? (i := 171) (by decide +kernel)), rfl⟩⟩
set_option maxRecDepth 100000 in
theorem my_X11_differ : jMy yX11_differ cX11_differ 3 (some .int) 2 := ⟨List.mem_filter.mpr ⟨in_t7 _ (List.mem_of_getElem? (i := 39) rfl), rfl⟩, List.mem_filter.mpr ⟨in_t1 _ (List.mem_of_getElem? (i := 11) (by decide +kernel)), rfl⟩, by decide +kernel, by decide +kernel, by decide⟩
theorem mv_X11_differ : jMyV yX11_differ := ⟨List.mem_filter.mpr ⟨in_t7 _ (List.mem_of_getElem? (i := 37) (by decide +kernel)), rfl⟩, List.mem_filter.mpr ⟨in_t7 _ (List.mem_of_getElem? (i := 38) (by decide +kernel)), rfl⟩⟩
set_option maxRecDepth 100000 in
theorem my_X11_differBy : jMy yX11_differBy cX11_differBy 4 (some .int) 3 := ⟨List.mem_filter.mpr ⟨in_t7 _ (List.mem_of_getElem? (i := 43) rfl), rfl⟩, List.mem_filter.mpr ⟨in_t1 _ (List.mem_of_getElem? (i := 11) (by decide +kernel)), rfl⟩, by decide +kernel, by decide +kernel, by decide⟩
theorem mv_X11_differBy : jMyV yX11_differBy := ⟨List.mem_filter.mpr ⟨in_t7 _ (List.mem_of_getElem? (i := 42) (by decide +kernel)), rfl⟩, List.mem_filter.mpr ⟨List.mem_append_left _ (List.mem_of_getElem? (i := 81) (by decide +kernel)), rfl⟩⟩
set_option maxRecDepth 100000 in
theorem my_X11_does : jMy yX11_does cX11_does 6 (some .int) 3 := ⟨List.mem_filter.mpr ⟨in_t7 _ (List.mem_of_getElem? (i := 103) rfl), rfl⟩, List.mem_filter.mpr ⟨in_t1 _ (List.mem_of_getElem? (i := 11) (by decide +kernel)), rfl⟩, by decide +kernel, by decide +kernel, by decide⟩
theorem mv_X11_does : jMyV yX11_does := ⟨List.mem_filter.mpr ⟨in_t7 _ (List.mem_of_getElem? (i := 102) (by decide +kernel)), rfl⟩, List.mem_filter.mpr ⟨List.mem_append_left _ (List.mem_of_getElem? (i := 90) (by decide +kernel)), rfl⟩⟩
set_option maxRecDepth 100000 in
theorem my_X11_draw : jMy yX11_draw cX11_draw 2 (some .int) 1 := ⟨List.mem_filter.mpr ⟨in_t7 _ (List.mem_of_getElem? (i := 159) rfl), rfl⟩, List.mem_filter.mpr ⟨in_t1 _ (List.mem_of_getElem? (i := 11) (by decide +kernel)), rfl⟩, by decide +kernel, by decide +kernel, by decide⟩
theorem mv_X11_draw : jMyV yX11_draw := ⟨List.mem_filter.mpr ⟨in_t7 _ (List.mem_of_getElem? (i := 158) (by decide +kernel)), rfl⟩, List.mem_filter.mpr ⟨List.mem_append_left _ (List.mem_of_getElem? (i := 96) (by decide +kernel)), rfl⟩⟩
set_option maxRecDepth 100000 in
theorem my_X11_end : jMy yX11_end cX11_end 2 (some .boolean) 1 := ⟨List.mem_filter.mpr ⟨in_t6 _ (List.mem_of_getElem? (i := 15) rfl), rfl⟩, List.mem_filter.mpr ⟨in_t1 _ (List.mem_of_getElem? (i := 11) (by decide +kernel)), rfl⟩, by decide +kernel, by decide +kernel, by decide⟩
theorem mv_X11_end : jMyV yX11_end := ⟨List.mem_filter.mpr ⟨in_t6 _ (List.mem_of_getElem? (i := 13) (by decide +kernel)), rfl⟩, List.mem_filter.mpr ⟨in_t6 _ (List.mem_of_getElem? (i := 14) (by decide +kernel)), rfl⟩⟩
set_option maxRecDepth 100000 in
theorem my_X11_errand : jMy yX11_errand cX11_errand 3 (some .int) 2 := ⟨List.mem_filter.mpr ⟨in_t6 _ (List.mem_of_getElem? (i := 155) rfl), rfl⟩, List.mem_filter.mpr ⟨in_t1 _ (List.mem_of_getElem? (i := 11) (by decide +kernel)), rfl⟩, by decide +kernel, by decide +kernel, by decide⟩
theorem mv_X11_errand : jMyV yX11_errand := ⟨List.mem_filter.mpr ⟨in_t6 _ (List.mem_of_getElem? (i := 153) (by decide +kernel)), rfl⟩, List.mem_filter.mpr ⟨in_t6 _ (List.mem_of_getElem? (i := 154) (by decide +kernel)), rfl⟩⟩
set_option maxRecDepth 100000 in
theorem my_X11_errands : jMy yX11_errands cX11_errands 4 (some .int) 0 := ⟨List.mem_filter.mpr ⟨in_t6 _ (List.mem_of_getElem? (i := 78) rfl), rfl⟩, List.mem_filter.mpr ⟨in_t1 _ (List.mem_of_getElem? (i := 11) (by decide +kernel)), rfl⟩, by decide +kernel, by decide +kernel, by decide⟩
theorem mv_X11_errands : jMyV yX11_errands := ⟨List.mem_filter.mpr ⟨in_t6 _ (List.mem_of_getElem? (i := 76) (by decide +kernel)), rfl⟩, List.mem_filter.mpr ⟨in_t6 _ (List.mem_of_getElem? (i := 77) (by decide +kernel)), rfl⟩⟩
set_option maxRecDepth 100000 in
theorem my_X11_fault : jMy yX11_fault cX11_fault 2 none 1 := ⟨List.mem_filter.mpr ⟨in_t6 _ (List.mem_of_getElem? (i := 42) rfl), rfl⟩, List.mem_filter.mpr ⟨in_t1 _ (List.mem_of_getElem? (i := 11) (by decide +kernel)), rfl⟩, by decide +kernel, by decide +kernel, by decide⟩
theorem mv_X11_fault : jMyV yX11_fault := ⟨List.mem_filter.mpr ⟨in_t6 _ (List.mem_of_getElem? (i := 41) (by decide +kernel)), rfl⟩, List.mem_filter.mpr ⟨List.mem_append_left _ (List.mem_of_getElem? (i := 46) (by decide +kernel)), rfl⟩⟩
set_option maxRecDepth 100000 in
theorem my_X11_field : jMy yX11_field cX11_field 3 (some .int) 2 := ⟨List.mem_filter.mpr ⟨in_t6 _ (List.mem_of_getElem? (i := 148) rfl), rfl⟩, List.mem_filter.mpr ⟨in_t1 _ (List.mem_of_getElem? (i := 11) (by decide +kernel)), rfl⟩, by decide +kernel, by decide +kernel, by decide⟩
theorem mv_X11_field : jMyV yX11_field := ⟨List.mem_filter.mpr ⟨in_t6 _ (List.mem_of_getElem? (i := 147) (by decide +kernel)), rfl⟩, List.mem_filter.mpr ⟨List.mem_append_left _ (List.mem_of_getElem? (i := 66) (by decide +kernel)), rfl⟩⟩
set_option maxRecDepth 100000 in
theorem my_X11_fine : jMy yX11_fine cX11_fine 1 (some .boolean) 0 := ⟨List.mem_filter.mpr ⟨in_t6 _ (List.mem_of_getElem? (i := 38) rfl), rfl⟩, List.mem_filter.mpr ⟨in_t1 _ (List.mem_of_getElem? (i := 11) (by decide +kernel)), rfl⟩, by decide +kernel, by decide +kernel, by decide⟩
theorem mv_X11_fine : jMyV yX11_fine := ⟨List.mem_filter.mpr ⟨in_t6 _ (List.mem_of_getElem? (i := 37) (by decide +kernel)), rfl⟩, List.mem_filter.mpr ⟨List.mem_append_left _ (List.mem_of_getElem? (i := 45) (by decide +kernel)), rfl⟩⟩
set_option maxRecDepth 100000 in
theorem my_X11_goSaid : jMy yX11_goSaid cX11_goSaid 4 none 2 := ⟨List.mem_filter.mpr ⟨in_t7 _ (List.mem_of_getElem? (i := 135) rfl), rfl⟩, List.mem_filter.mpr ⟨in_t1 _ (List.mem_of_getElem? (i := 11) (by decide +kernel)), rfl⟩, by decide +kernel, by decide +kernel, by decide⟩
theorem mv_X11_goSaid : jMyV yX11_goSaid := ⟨List.mem_filter.mpr ⟨in_t7 _ (List.mem_of_getElem? (i := 134) (by decide +kernel)), rfl⟩, List.mem_filter.mpr ⟨List.mem_append_left _ (List.mem_of_getElem? (i := 92) (by decide +kernel)), rfl⟩⟩
set_option maxRecDepth 100000 in
theorem my_X11_goSay : jMy yX11_goSay cX11_goSay 6 (some .int) 3 := ⟨List.mem_filter.mpr ⟨in_t6 _ (List.mem_of_getElem? (i := 219) rfl), rfl⟩, List.mem_filter.mpr ⟨in_t1 _ (List.mem_of_getElem? (i := 11) (by decide +kernel)), rfl⟩, by decide +kernel, by decide +kernel, by decide⟩
theorem mv_X11_goSay : jMyV yX11_goSay := ⟨List.mem_filter.mpr ⟨in_t6 _ (List.mem_of_getElem? (i := 218) (by decide +kernel)), rfl⟩, List.mem_filter.mpr ⟨List.mem_append_left _ (List.mem_of_getElem? (i := 74) (by decide +kernel)), rfl⟩⟩
set_option maxRecDepth 100000 in
theorem my_X11_goWalk : jMy yX11_goWalk cX11_goWalk 3 (some .int) 3 := ⟨List.mem_filter.mpr ⟨in_t6 _ (List.mem_of_getElem? (i := 203) rfl), rfl⟩, List.mem_filter.mpr ⟨in_t1 _ (List.mem_of_getElem? (i := 11) (by decide +kernel)), rfl⟩, by decide +kernel, by decide +kernel, by decide⟩
theorem ms_X11_goWalk : Cond.static yX11_goWalk ∈ jTB := List.mem_filter.mpr ⟨in_t6 _ (List.mem_of_getElem? (i := 202) (by decide +kernel)), rfl⟩
set_option maxRecDepth 100000 in
theorem my_X11_greed : jMy yX11_greed cX11_greed 7 (some .int) 1 := ⟨List.mem_filter.mpr ⟨in_t7 _ (List.mem_of_getElem? (i := 123) rfl), rfl⟩, List.mem_filter.mpr ⟨in_t1 _ (List.mem_of_getElem? (i := 11) (by decide +kernel)), rfl⟩, by decide +kernel, by decide +kernel, by decide⟩
theorem mv_X11_greed : jMyV yX11_greed := ⟨List.mem_filter.mpr ⟨in_t7 _ (List.mem_of_getElem? (i := 121) (by decide +kernel)), rfl⟩, List.mem_filter.mpr ⟨in_t7 _ (List.mem_of_getElem? (i := 122) (by decide +kernel)), rfl⟩⟩
set_option maxRecDepth 100000 in
theorem my_X11_has : jMy yX11_has cX11_has 2 (some .boolean) 2 := ⟨List.mem_filter.mpr ⟨in_t6 _ (List.mem_of_getElem? (i := 151) rfl), rfl⟩, List.mem_filter.mpr ⟨in_t1 _ (List.mem_of_getElem? (i := 11) (by decide +kernel)), rfl⟩, by decide +kernel, by decide +kernel, by decide⟩
theorem ms_X11_has : Cond.static yX11_has ∈ jTB := List.mem_filter.mpr ⟨in_t6 _ (List.mem_of_getElem? (i := 150) (by decide +kernel)), rfl⟩
set_option maxRecDepth 100000 in
theorem my_X11_haste : jMy yX11_haste cX11_haste 2 (some .int) 1 := ⟨List.mem_filter.mpr ⟨in_t7 _ (List.mem_of_getElem? (i := 107) rfl), rfl⟩, List.mem_filter.mpr ⟨in_t1 _ (List.mem_of_getElem? (i := 11) (by decide +kernel)), rfl⟩, by decide +kernel, by decide +kernel, by decide⟩
theorem mv_X11_haste : jMyV yX11_haste := ⟨List.mem_filter.mpr ⟨in_t7 _ (List.mem_of_getElem? (i := 105) (by decide +kernel)), rfl⟩, List.mem_filter.mpr ⟨in_t7 _ (List.mem_of_getElem? (i := 106) (by decide +kernel)), rfl⟩⟩
set_option maxRecDepth 100000 in
theorem my_X11_heard : jMy yX11_heard cX11_heard 12 (some .int) 3 := ⟨List.mem_filter.mpr ⟨in_t7 _ (List.mem_of_getElem? (i := 63) rfl), rfl⟩, List.mem_filter.mpr ⟨in_t1 _ (List.mem_of_getElem? (i := 11) (by decide +kernel)), rfl⟩, by decide +kernel, by decide +kernel, by decide⟩
theorem mv_X11_heard : jMyV yX11_heard := ⟨List.mem_filter.mpr ⟨in_t7 _ (List.mem_of_getElem? (i := 61) (by decide +kernel)), rfl⟩, List.mem_filter.mpr ⟨in_t7 _ (List.mem_of_getElem? (i := 62) (by decide +kernel)), rfl⟩⟩
set_option maxRecDepth 100000 in
theorem my_X11_held : jMy yX11_held cX11_held 3 (some .int) 1 := ⟨List.mem_filter.mpr ⟨in_t6 _ (List.mem_of_getElem? (i := 90) rfl), rfl⟩, List.mem_filter.mpr ⟨in_t1 _ (List.mem_of_getElem? (i := 11) (by decide +kernel)), rfl⟩, by decide +kernel, by decide +kernel, by decide⟩
theorem mv_X11_held : jMyV yX11_held := ⟨List.mem_filter.mpr ⟨in_t6 _ (List.mem_of_getElem? (i := 89) (by decide +kernel)), rfl⟩, List.mem_filter.mpr ⟨List.mem_append_left _ (List.mem_of_getElem? (i := 55) (by decide +kernel)), rfl⟩⟩
set_option maxRecDepth 100000 in
theorem my_X11_here : jMy yX11_here cX11_here 1 (some .int) 0 := ⟨List.mem_filter.mpr ⟨in_t6 _ (List.mem_of_getElem? (i := 54) rfl), rfl⟩, List.mem_filter.mpr ⟨in_t1 _ (List.mem_of_getElem? (i := 11) (by decide +kernel)), rfl⟩, by decide +kernel, by decide +kernel, by decide⟩
theorem mv_X11_here : jMyV yX11_here := ⟨List.mem_filter.mpr ⟨in_t6 _ (List.mem_of_getElem? (i := 53) (by decide +kernel)), rfl⟩, List.mem_filter.mpr ⟨List.mem_append_left _ (List.mem_of_getElem? (i := 49) (by decide +kernel)), rfl⟩⟩
set_option maxRecDepth 100000 in
theorem my_X11_in : jMy yX11_in cX11_in 3 (some .boolean) 3 := ⟨List.mem_filter.mpr ⟨in_t6 _ (List.mem_of_getElem? (i := 18) rfl), rfl⟩, List.mem_filter.mpr ⟨in_t1 _ (List.mem_of_getElem? (i := 11) (by decide +kernel)), rfl⟩, by decide +kernel, by decide +kernel, by decide⟩
theorem ms_X11_in : Cond.static yX11_in ∈ jTB := List.mem_filter.mpr ⟨in_t6 _ (List.mem_of_getElem? (i := 17) (by decide +kernel)), rfl⟩
set_option maxRecDepth 100000 in
theorem my_X11_init : jMy yX11_init cX11_init 1 none 0 := ⟨List.mem_filter.mpr ⟨in_t5 _ (List.mem_of_getElem? (i := 72) rfl), rfl⟩, List.mem_filter.mpr ⟨in_t1 _ (List.mem_of_getElem? (i := 11) (by decide +kernel)), rfl⟩, by decide +kernel, by decide +kernel, by decide⟩
theorem mi_X11_init : yX11_init.name = "<init>" ∧ Cond.instanceMethod yX11_init ∈ jTB := ⟨rfl, List.mem_filter.mpr ⟨in_t5 _ (List.mem_of_getElem? (i := 71) (by decide +kernel)), rfl⟩⟩
set_option maxRecDepth 100000 in
theorem my_X11_isAll : jMy yX11_isAll cX11_isAll 5 (some .boolean) 0 := ⟨List.mem_filter.mpr ⟨in_t7 _ (List.mem_of_getElem? (i := 139) rfl), rfl⟩, List.mem_filter.mpr ⟨in_t1 _ (List.mem_of_getElem? (i := 11) (by decide +kernel)), rfl⟩, by decide +kernel, by decide +kernel, by decide⟩
theorem mv_X11_isAll : jMyV yX11_isAll := ⟨List.mem_filter.mpr ⟨in_t7 _ (List.mem_of_getElem? (i := 138) (by decide +kernel)), rfl⟩, List.mem_filter.mpr ⟨List.mem_append_left _ (List.mem_of_getElem? (i := 93) (by decide +kernel)), rfl⟩⟩
set_option maxRecDepth 100000 in
theorem my_X11_isFirst : jMy yX11_isFirst cX11_isFirst 3 (some .boolean) 1 := ⟨List.mem_filter.mpr ⟨in_t7 _ (List.mem_of_getElem? (i := 143) rfl), rfl⟩, List.mem_filter.mpr ⟨in_t1 _ (List.mem_of_getElem? (i := 11) (by decide +kernel)), rfl⟩, by decide +kernel, by decide +kernel, by decide⟩
theorem mv_X11_isFirst : jMyV yX11_isFirst := ⟨List.mem_filter.mpr ⟨in_t7 _ (List.mem_of_getElem? (i := 142) (by decide +kernel)), rfl⟩, List.mem_filter.mpr ⟨List.mem_append_left _ (List.mem_of_getElem? (i := 94) (by decide +kernel)), rfl⟩⟩
set_option maxRecDepth 100000 in
theorem my_X11_isMeaning : jMy yX11_isMeaning cX11_isMeaning 1 (some .boolean) 1 := ⟨List.mem_filter.mpr ⟨in_t7 _ (List.mem_of_getElem? (i := 18) rfl), rfl⟩, List.mem_filter.mpr ⟨in_t1 _ (List.mem_of_getElem? (i := 11) (by decide +kernel)), rfl⟩, by decide +kernel, by decide +kernel, by decide⟩
theorem ms_X11_isMeaning : Cond.static yX11_isMeaning ∈ jTB := List.mem_filter.mpr ⟨in_t7 _ (List.mem_of_getElem? (i := 17) (by decide +kernel)), rfl⟩
set_option maxRecDepth 100000 in
theorem my_X11_isOne : jMy yX11_isOne cX11_isOne 2 (some .boolean) 1 := ⟨List.mem_filter.mpr ⟨in_t6 _ (List.mem_of_getElem? (i := 140) rfl), rfl⟩, List.mem_filter.mpr ⟨in_t1 _ (List.mem_of_getElem? (i := 11) (by decide +kernel)), rfl⟩, by decide +kernel, by decide +kernel, by decide⟩
theorem mv_X11_isOne : jMyV yX11_isOne := ⟨List.mem_filter.mpr ⟨in_t6 _ (List.mem_of_getElem? (i := 139) (by decide +kernel)), rfl⟩, List.mem_filter.mpr ⟨List.mem_append_left _ (List.mem_of_getElem? (i := 64) (by decide +kernel)), rfl⟩⟩
set_option maxRecDepth 100000 in
theorem my_X11_isStation : jMy yX11_isStation cX11_isStation 2 (some .boolean) 1 := ⟨List.mem_filter.mpr ⟨in_t6 _ (List.mem_of_getElem? (i := 163) rfl), rfl⟩, List.mem_filter.mpr ⟨in_t1 _ (List.mem_of_getElem? (i := 11) (by decide +kernel)), rfl⟩, by decide +kernel, by decide +kernel, by decide⟩
theorem mv_X11_isStation : jMyV yX11_isStation := ⟨List.mem_filter.mpr ⟨in_t6 _ (List.mem_of_getElem? (i := 162) (by decide +kernel)), rfl⟩, List.mem_filter.mpr ⟨List.mem_append_left _ (List.mem_of_getElem? (i := 67) (by decide +kernel)), rfl⟩⟩
set_option maxRecDepth 100000 in
theorem my_X11_isWord : jMy yX11_isWord cX11_isWord 2 (some .boolean) 1 := ⟨List.mem_filter.mpr ⟨in_t6 _ (List.mem_of_getElem? (i := 113) rfl), rfl⟩, List.mem_filter.mpr ⟨in_t1 _ (List.mem_of_getElem? (i := 11) (by decide +kernel)), rfl⟩, by decide +kernel, by decide +kernel, by decide⟩
theorem mv_X11_isWord : jMyV yX11_isWord := ⟨List.mem_filter.mpr ⟨in_t6 _ (List.mem_of_getElem? (i := 112) (by decide +kernel)), rfl⟩, List.mem_filter.mpr ⟨List.mem_append_left _ (List.mem_of_getElem? (i := 59) (by decide +kernel)), rfl⟩⟩
set_option maxRecDepth 100000 in
theorem my_X11_journey : jMy yX11_journey cX11_journey 4 (some .int) 0 := ⟨List.mem_filter.mpr ⟨in_t6 _ (List.mem_of_getElem? (i := 231) rfl), rfl⟩, List.mem_filter.mpr ⟨in_t1 _ (List.mem_of_getElem? (i := 11) (by decide +kernel)), rfl⟩, by decide +kernel, by decide +kernel, by decide⟩
theorem mv_X11_journey : jMyV yX11_journey := ⟨List.mem_filter.mpr ⟨in_t6 _ (List.mem_of_getElem? (i := 229) (by decide +kernel)), rfl⟩, List.mem_filter.mpr ⟨in_t6 _ (List.mem_of_getElem? (i := 230) (by decide +kernel)), rfl⟩⟩
set_option maxRecDepth 100000 in
theorem my_X11_keep : jMy yX11_keep cX11_keep 2 (some .boolean) 1 := ⟨List.mem_filter.mpr ⟨in_t7 _ (List.mem_of_getElem? (i := 164) rfl), rfl⟩, List.mem_filter.mpr ⟨in_t1 _ (List.mem_of_getElem? (i := 11) (by decide +kernel)), rfl⟩, by decide +kernel, by decide +kernel, by decide⟩
theorem mv_X11_keep : jMyV yX11_keep := ⟨List.mem_filter.mpr ⟨in_t7 _ (List.mem_of_getElem? (i := 162) (by decide +kernel)), rfl⟩, List.mem_filter.mpr ⟨in_t7 _ (List.mem_of_getElem? (i := 163) (by decide +kernel)), rfl⟩⟩
set_option maxRecDepth 100000 in
theorem my_X11_law : jMy yX11_law cX11_law 10 (some .int) 1 := ⟨List.mem_filter.mpr ⟨in_t7 _ (List.mem_of_getElem? (i := 127) rfl), rfl⟩, List.mem_filter.mpr ⟨in_t1 _ (List.mem_of_getElem? (i := 11) (by decide +kernel)), rfl⟩, by decide +kernel, by decide +kernel, by decide⟩
theorem mv_X11_law : jMyV yX11_law := ⟨List.mem_filter.mpr ⟨in_t7 _ (List.mem_of_getElem? (i := 125) (by decide +kernel)), rfl⟩, List.mem_filter.mpr ⟨in_t7 _ (List.mem_of_getElem? (i := 126) (by decide +kernel)), rfl⟩⟩
set_option maxRecDepth 100000 in
theorem my_X11_lay : jMy yX11_lay cX11_lay 4 none 3 := ⟨List.mem_filter.mpr ⟨in_t6 _ (List.mem_of_getElem? (i := 200) rfl), rfl⟩, List.mem_filter.mpr ⟨in_t1 _ (List.mem_of_getElem? (i := 11) (by decide +kernel)), rfl⟩, by decide +kernel, by decide +kernel, by decide⟩
theorem ms_X11_lay : Cond.static yX11_lay ∈ jTB := List.mem_filter.mpr ⟨in_t6 _ (List.mem_of_getElem? (i := 199) (by decide +kernel)), rfl⟩
set_option maxRecDepth 100000 in
theorem my_X11_layWord : jMy yX11_layWord cX11_layWord 6 (some .int) 3 := ⟨List.mem_filter.mpr ⟨in_t7 _ (List.mem_of_getElem? (i := 47) rfl), rfl⟩, List.mem_filter.mpr ⟨in_t1 _ (List.mem_of_getElem? (i := 11) (by decide +kernel)), rfl⟩, by decide +kernel, by decide +kernel, by decide⟩
theorem mv_X11_layWord : jMyV yX11_layWord := ⟨List.mem_filter.mpr ⟨in_t7 _ (List.mem_of_getElem? (i := 46) (by decide +kernel)), rfl⟩, List.mem_filter.mpr ⟨List.mem_append_left _ (List.mem_of_getElem? (i := 82) (by decide +kernel)), rfl⟩⟩
set_option maxRecDepth 100000 in
theorem my_X11_leastTrip : jMy yX11_leastTrip cX11_leastTrip 8 (some .int) 2 := ⟨List.mem_filter.mpr ⟨in_t7 _ (List.mem_of_getElem? (i := 91) rfl), rfl⟩, List.mem_filter.mpr ⟨in_t1 _ (List.mem_of_getElem? (i := 11) (by decide +kernel)), rfl⟩, by decide +kernel, by decide +kernel, by decide⟩
theorem mv_X11_leastTrip : jMyV yX11_leastTrip := ⟨List.mem_filter.mpr ⟨in_t7 _ (List.mem_of_getElem? (i := 90) (by decide +kernel)), rfl⟩, List.mem_filter.mpr ⟨List.mem_append_left _ (List.mem_of_getElem? (i := 87) (by decide +kernel)), rfl⟩⟩
set_option maxRecDepth 100000 in
theorem my_X11_letter : jMy yX11_letter cX11_letter 3 (some .int) 2 := ⟨List.mem_filter.mpr ⟨in_t6 _ (List.mem_of_getElem? (i := 129) rfl), rfl⟩, List.mem_filter.mpr ⟨in_t1 _ (List.mem_of_getElem? (i := 11) (by decide +kernel)), rfl⟩, by decide +kernel, by decide +kernel, by decide⟩
theorem mv_X11_letter : jMyV yX11_letter := ⟨List.mem_filter.mpr ⟨in_t6 _ (List.mem_of_getElem? (i := 128) (by decide +kernel)), rfl⟩, List.mem_filter.mpr ⟨List.mem_append_left _ (List.mem_of_getElem? (i := 63) (by decide +kernel)), rfl⟩⟩
set_option maxRecDepth 100000 in
theorem my_X11_letterOf : jMy yX11_letterOf cX11_letterOf 1 (some .int) 1 := ⟨List.mem_filter.mpr ⟨in_t6 _ (List.mem_of_getElem? (i := 105) rfl), rfl⟩, List.mem_filter.mpr ⟨in_t1 _ (List.mem_of_getElem? (i := 11) (by decide +kernel)), rfl⟩, by decide +kernel, by decide +kernel, by decide⟩
theorem ms_X11_letterOf : Cond.static yX11_letterOf ∈ jTB := List.mem_filter.mpr ⟨in_t6 _ (List.mem_of_getElem? (i := 104) (by decide +kernel)), rfl⟩
set_option maxRecDepth 100000 in
theorem my_X11_lost : jMy yX11_lost cX11_lost 1 (some .int) 0 := ⟨List.mem_filter.mpr ⟨in_t6 _ (List.mem_of_getElem? (i := 117) rfl), rfl⟩, List.mem_filter.mpr ⟨in_t1 _ (List.mem_of_getElem? (i := 11) (by decide +kernel)), rfl⟩, by decide +kernel, by decide +kernel, by decide⟩
theorem mv_X11_lost : jMyV yX11_lost := ⟨List.mem_filter.mpr ⟨in_t6 _ (List.mem_of_getElem? (i := 116) (by decide +kernel)), rfl⟩, List.mem_filter.mpr ⟨List.mem_append_left _ (List.mem_of_getElem? (i := 60) (by decide +kernel)), rfl⟩⟩
set_option maxRecDepth 100000 in
theorem my_X11_means : jMy yX11_means cX11_means 3 (some .boolean) 2 := ⟨List.mem_filter.mpr ⟨in_t6 _ (List.mem_of_getElem? (i := 223) rfl), rfl⟩, List.mem_filter.mpr ⟨in_t1 _ (List.mem_of_getElem? (i := 11) (by decide +kernel)), rfl⟩, by decide +kernel, by decide +kernel, by decide⟩
theorem mv_X11_means : jMyV yX11_means := ⟨List.mem_filter.mpr ⟨in_t6 _ (List.mem_of_getElem? (i := 222) (by decide +kernel)), rfl⟩, List.mem_filter.mpr ⟨List.mem_append_left _ (List.mem_of_getElem? (i := 75) (by decide +kernel)), rfl⟩⟩
set_option maxRecDepth 100000 in
theorem my_X11_move : jMy yX11_move cX11_move 4 none 0 := ⟨List.mem_filter.mpr ⟨in_t7 _ (List.mem_of_getElem? (i := 95) rfl), rfl⟩, List.mem_filter.mpr ⟨in_t1 _ (List.mem_of_getElem? (i := 11) (by decide +kernel)), rfl⟩, by decide +kernel, by decide +kernel, by decide⟩
theorem mv_X11_move : jMyV yX11_move := ⟨List.mem_filter.mpr ⟨in_t7 _ (List.mem_of_getElem? (i := 94) (by decide +kernel)), rfl⟩, List.mem_filter.mpr ⟨List.mem_append_left _ (List.mem_of_getElem? (i := 88) (by decide +kernel)), rfl⟩⟩
set_option maxRecDepth 100000 in
theorem my_X11_near : jMy yX11_near cX11_near 4 (some .int) 1 := ⟨List.mem_filter.mpr ⟨in_t7 _ (List.mem_of_getElem? (i := 55) rfl), rfl⟩, List.mem_filter.mpr ⟨in_t1 _ (List.mem_of_getElem? (i := 11) (by decide +kernel)), rfl⟩, by decide +kernel, by decide +kernel, by decide⟩
theorem mv_X11_near : jMyV yX11_near := ⟨List.mem_filter.mpr ⟨in_t7 _ (List.mem_of_getElem? (i := 53) (by decide +kernel)), rfl⟩, List.mem_filter.mpr ⟨in_t7 _ (List.mem_of_getElem? (i := 54) (by decide +kernel)), rfl⟩⟩
set_option maxRecDepth 100000 in
theorem my_X11_need : jMy yX11_need cX11_need 2 none 1 := ⟨List.mem_filter.mpr ⟨in_t6 _ (List.mem_of_getElem? (i := 70) rfl), rfl⟩, List.mem_filter.mpr ⟨in_t1 _ (List.mem_of_getElem? (i := 11) (by decide +kernel)), rfl⟩, by decide +kernel, by decide +kernel, by decide⟩
theorem mv_X11_need : jMyV yX11_need := ⟨List.mem_filter.mpr ⟨in_t6 _ (List.mem_of_getElem? (i := 69) (by decide +kernel)), rfl⟩, List.mem_filter.mpr ⟨List.mem_append_left _ (List.mem_of_getElem? (i := 52) (by decide +kernel)), rfl⟩⟩
set_option maxRecDepth 100000 in
theorem my_X11_number : jMy yX11_number cX11_number 4 (some .int) 1 := ⟨List.mem_filter.mpr ⟨in_t6 _ (List.mem_of_getElem? (i := 74) rfl), rfl⟩, List.mem_filter.mpr ⟨in_t1 _ (List.mem_of_getElem? (i := 11) (by decide +kernel)), rfl⟩, by decide +kernel, by decide +kernel, by decide⟩
theorem mv_X11_number : jMyV yX11_number := ⟨List.mem_filter.mpr ⟨in_t6 _ (List.mem_of_getElem? (i := 73) (by decide +kernel)), rfl⟩, List.mem_filter.mpr ⟨List.mem_append_left _ (List.mem_of_getElem? (i := 53) (by decide +kernel)), rfl⟩⟩
set_option maxRecDepth 100000 in
theorem my_X11_often : jMy yX11_often cX11_often 5 (some .int) 2 := ⟨List.mem_filter.mpr ⟨in_t6 _ (List.mem_of_getElem? (i := 125) rfl), rfl⟩, List.mem_filter.mpr ⟨in_t1 _ (List.mem_of_getElem? (i := 11) (by decide +kernel)), rfl⟩, by decide +kernel, by decide +kernel, by decide⟩
theorem mv_X11_often : jMyV yX11_often := ⟨List.mem_filter.mpr ⟨in_t6 _ (List.mem_of_getElem? (i := 124) (by decide +kernel)), rfl⟩, List.mem_filter.mpr ⟨List.mem_append_left _ (List.mem_of_getElem? (i := 62) (by decide +kernel)), rfl⟩⟩
set_option maxRecDepth 100000 in
theorem my_X11_oneOf : jMy yX11_oneOf cX11_oneOf 3 (some .int) 2 := ⟨List.mem_filter.mpr ⟨in_t6 _ (List.mem_of_getElem? (i := 50) rfl), rfl⟩, List.mem_filter.mpr ⟨in_t1 _ (List.mem_of_getElem? (i := 11) (by decide +kernel)), rfl⟩, by decide +kernel, by decide +kernel, by decide⟩
theorem mv_X11_oneOf : jMyV yX11_oneOf := ⟨List.mem_filter.mpr ⟨in_t6 _ (List.mem_of_getElem? (i := 49) (by decide +kernel)), rfl⟩, List.mem_filter.mpr ⟨List.mem_append_left _ (List.mem_of_getElem? (i := 48) (by decide +kernel)), rfl⟩⟩
set_option maxRecDepth 100000 in
theorem my_X11_openOf : jMy yX11_openOf cX11_openOf 4 (some .int) 1 := ⟨List.mem_filter.mpr ⟨in_t6 _ (List.mem_of_getElem? (i := 144) rfl), rfl⟩, List.mem_filter.mpr ⟨in_t1 _ (List.mem_of_getElem? (i := 11) (by decide +kernel)), rfl⟩, by decide +kernel, by decide +kernel, by decide⟩
theorem mv_X11_openOf : jMyV yX11_openOf := ⟨List.mem_filter.mpr ⟨in_t6 _ (List.mem_of_getElem? (i := 143) (by decide +kernel)), rfl⟩, List.mem_filter.mpr ⟨List.mem_append_left _ (List.mem_of_getElem? (i := 65) (by decide +kernel)), rfl⟩⟩
set_option maxRecDepth 100000 in
theorem my_X11_passes : jMy yX11_passes cX11_passes 2 (some .boolean) 1 := ⟨List.mem_filter.mpr ⟨in_t6 _ (List.mem_of_getElem? (i := 58) rfl), rfl⟩, List.mem_filter.mpr ⟨in_t1 _ (List.mem_of_getElem? (i := 11) (by decide +kernel)), rfl⟩, by decide +kernel, by decide +kernel, by decide⟩
theorem mv_X11_passes : jMyV yX11_passes := ⟨List.mem_filter.mpr ⟨in_t6 _ (List.mem_of_getElem? (i := 57) (by decide +kernel)), rfl⟩, List.mem_filter.mpr ⟨List.mem_append_left _ (List.mem_of_getElem? (i := 50) (by decide +kernel)), rfl⟩⟩
set_option maxRecDepth 100000 in
theorem my_X11_pause : jMy yX11_pause cX11_pause 2 (some .int) 1 := ⟨List.mem_filter.mpr ⟨in_t6 _ (List.mem_of_getElem? (i := 207) rfl), rfl⟩, List.mem_filter.mpr ⟨in_t1 _ (List.mem_of_getElem? (i := 11) (by decide +kernel)), rfl⟩, by decide +kernel, by decide +kernel, by decide⟩
theorem mv_X11_pause : jMyV yX11_pause := ⟨List.mem_filter.mpr ⟨in_t6 _ (List.mem_of_getElem? (i := 205) (by decide +kernel)), rfl⟩, List.mem_filter.mpr ⟨in_t6 _ (List.mem_of_getElem? (i := 206) (by decide +kernel)), rfl⟩⟩
set_option maxRecDepth 100000 in
theorem my_X11_power : jMy yX11_power cX11_power 6 (some .long) 2 := ⟨List.mem_filter.mpr ⟨in_t7 _ (List.mem_of_getElem? (i := 66) rfl), rfl⟩, List.mem_filter.mpr ⟨in_t1 _ (List.mem_of_getElem? (i := 11) (by decide +kernel)), rfl⟩, by decide +kernel, by decide +kernel, by decide⟩
theorem ms_X11_power : Cond.static yX11_power ∈ jTB := List.mem_filter.mpr ⟨in_t7 _ (List.mem_of_getElem? (i := 65) (by decide +kernel)), rfl⟩
set_option maxRecDepth 100000 in
theorem my_X11_product : jMy yX11_product cX11_product 5 (some .int) 1 := ⟨List.mem_filter.mpr ⟨in_t6 _ (List.mem_of_getElem? (i := 98) rfl), rfl⟩, List.mem_filter.mpr ⟨in_t1 _ (List.mem_of_getElem? (i := 11) (by decide +kernel)), rfl⟩, by decide +kernel, by decide +kernel, by decide⟩
theorem mv_X11_product : jMyV yX11_product := ⟨List.mem_filter.mpr ⟨in_t6 _ (List.mem_of_getElem? (i := 97) (by decide +kernel)), rfl⟩, List.mem_filter.mpr ⟨List.mem_append_left _ (List.mem_of_getElem? (i := 57) (by decide +kernel)), rfl⟩⟩
set_option maxRecDepth 100000 in
theorem my_X11_readAct : jMy yX11_readAct cX11_readAct 3 none 1 := ⟨List.mem_filter.mpr ⟨in_t6 _ (List.mem_of_getElem? (i := 235) rfl), rfl⟩, List.mem_filter.mpr ⟨in_t1 _ (List.mem_of_getElem? (i := 11) (by decide +kernel)), rfl⟩, by decide +kernel, by decide +kernel, by decide⟩
theorem mv_X11_readAct : jMyV yX11_readAct := ⟨List.mem_filter.mpr ⟨in_t6 _ (List.mem_of_getElem? (i := 234) (by decide +kernel)), rfl⟩, List.mem_filter.mpr ⟨List.mem_append_left _ (List.mem_of_getElem? (i := 76) (by decide +kernel)), rfl⟩⟩
set_option maxRecDepth 100000 in
theorem my_X11_readRule : jMy yX11_readRule cX11_readRule 1 (some .boolean) 0 := ⟨List.mem_filter.mpr ⟨in_t6 _ (List.mem_of_getElem? (i := 86) rfl), rfl⟩, List.mem_filter.mpr ⟨in_t1 _ (List.mem_of_getElem? (i := 11) (by decide +kernel)), rfl⟩, by decide +kernel, by decide +kernel, by decide⟩
theorem mv_X11_readRule : jMyV yX11_readRule := ⟨List.mem_filter.mpr ⟨in_t6 _ (List.mem_of_getElem? (i := 85) (by decide +kernel)), rfl⟩, List.mem_filter.mpr ⟨List.mem_append_left _ (List.mem_of_getElem? (i := 54) (by decide +kernel)), rfl⟩⟩
set_option maxRecDepth 100000 in
theorem my_X11_readWord : jMy yX11_readWord cX11_readWord 2 none 1 := ⟨List.mem_filter.mpr ⟨in_t6 _ (List.mem_of_getElem? (i := 46) rfl), rfl⟩, List.mem_filter.mpr ⟨in_t1 _ (List.mem_of_getElem? (i := 11) (by decide +kernel)), rfl⟩, by decide +kernel, by decide +kernel, by decide⟩
theorem mv_X11_readWord : jMyV yX11_readWord := ⟨List.mem_filter.mpr ⟨in_t6 _ (List.mem_of_getElem? (i := 45) (by decide +kernel)), rfl⟩, List.mem_filter.mpr ⟨List.mem_append_left _ (List.mem_of_getElem? (i := 47) (by decide +kernel)), rfl⟩⟩
set_option maxRecDepth 100000 in
theorem my_X11_refusesSay : jMy yX11_refusesSay cX11_refusesSay 4 (some .int) 3 := ⟨List.mem_filter.mpr ⟨in_t6 _ (List.mem_of_getElem? (i := 215) rfl), rfl⟩, List.mem_filter.mpr ⟨in_t1 _ (List.mem_of_getElem? (i := 11) (by decide +kernel)), rfl⟩, by decide +kernel, by decide +kernel, by decide⟩
theorem mv_X11_refusesSay : jMyV yX11_refusesSay := ⟨List.mem_filter.mpr ⟨in_t6 _ (List.mem_of_getElem? (i := 214) (by decide +kernel)), rfl⟩, List.mem_filter.mpr ⟨List.mem_append_left _ (List.mem_of_getElem? (i := 73) (by decide +kernel)), rfl⟩⟩
set_option maxRecDepth 100000 in
theorem my_X11_refusesWalk : jMy yX11_refusesWalk cX11_refusesWalk 4 (some .int) 3 := ⟨List.mem_filter.mpr ⟨in_t6 _ (List.mem_of_getElem? (i := 193) rfl), rfl⟩, List.mem_filter.mpr ⟨in_t1 _ (List.mem_of_getElem? (i := 11) (by decide +kernel)), rfl⟩, by decide +kernel, by decide +kernel, by decide⟩
theorem mv_X11_refusesWalk : jMyV yX11_refusesWalk := ⟨List.mem_filter.mpr ⟨in_t6 _ (List.mem_of_getElem? (i := 192) (by decide +kernel)), rfl⟩, List.mem_filter.mpr ⟨List.mem_append_left _ (List.mem_of_getElem? (i := 71) (by decide +kernel)), rfl⟩⟩
set_option maxRecDepth 100000 in
theorem my_X11_remember : jMy yX11_remember cX11_remember 3 none 1 := ⟨List.mem_filter.mpr ⟨in_t6 _ (List.mem_of_getElem? (i := 197) rfl), rfl⟩, List.mem_filter.mpr ⟨in_t1 _ (List.mem_of_getElem? (i := 11) (by decide +kernel)), rfl⟩, by decide +kernel, by decide +kernel, by decide⟩
theorem mv_X11_remember : jMyV yX11_remember := ⟨List.mem_filter.mpr ⟨in_t6 _ (List.mem_of_getElem? (i := 196) (by decide +kernel)), rfl⟩, List.mem_filter.mpr ⟨List.mem_append_left _ (List.mem_of_getElem? (i := 72) (by decide +kernel)), rfl⟩⟩
set_option maxRecDepth 100000 in
theorem my_X11_road : jMy yX11_road cX11_road 4 (some .int) 1 := ⟨List.mem_filter.mpr ⟨in_t6 _ (List.mem_of_getElem? (i := 22) rfl), rfl⟩, List.mem_filter.mpr ⟨in_t1 _ (List.mem_of_getElem? (i := 11) (by decide +kernel)), rfl⟩, by decide +kernel, by decide +kernel, by decide⟩
theorem mv_X11_road : jMyV yX11_road := ⟨List.mem_filter.mpr ⟨in_t6 _ (List.mem_of_getElem? (i := 20) (by decide +kernel)), rfl⟩, List.mem_filter.mpr ⟨in_t6 _ (List.mem_of_getElem? (i := 21) (by decide +kernel)), rfl⟩⟩
set_option maxRecDepth 100000 in
theorem my_X11_row : jMy yX11_row cX11_row 2 (some .long) 1 := ⟨List.mem_filter.mpr ⟨in_t7 _ (List.mem_of_getElem? (i := 180) rfl), rfl⟩, List.mem_filter.mpr ⟨in_t1 _ (List.mem_of_getElem? (i := 11) (by decide +kernel)), rfl⟩, by decide +kernel, by decide +kernel, by decide⟩
theorem mv_X11_row : jMyV yX11_row := ⟨List.mem_filter.mpr ⟨in_t7 _ (List.mem_of_getElem? (i := 178) (by decide +kernel)), rfl⟩, List.mem_filter.mpr ⟨in_t7 _ (List.mem_of_getElem? (i := 179) (by decide +kernel)), rfl⟩⟩
set_option maxRecDepth 100000 in
theorem my_X11_rule : jMy yX11_rule cX11_rule 3 (some .int) 0 := ⟨List.mem_filter.mpr ⟨in_t6 _ (List.mem_of_getElem? (i := 82) rfl), rfl⟩, List.mem_filter.mpr ⟨in_t1 _ (List.mem_of_getElem? (i := 11) (by decide +kernel)), rfl⟩, by decide +kernel, by decide +kernel, by decide⟩
theorem mv_X11_rule : jMyV yX11_rule := ⟨List.mem_filter.mpr ⟨in_t6 _ (List.mem_of_getElem? (i := 80) (by decide +kernel)), rfl⟩, List.mem_filter.mpr ⟨in_t6 _ (List.mem_of_getElem? (i := 81) (by decide +kernel)), rfl⟩⟩
set_option maxRecDepth 100000 in
theorem my_X11_said : jMy yX11_said cX11_said 2 (some .int) 0 := ⟨List.mem_filter.mpr ⟨in_t7 _ (List.mem_of_getElem? (i := 131) rfl), rfl⟩, List.mem_filter.mpr ⟨in_t1 _ (List.mem_of_getElem? (i := 11) (by decide +kernel)), rfl⟩, by decide +kernel, by decide +kernel, by decide⟩
theorem mv_X11_said : jMyV yX11_said := ⟨List.mem_filter.mpr ⟨in_t7 _ (List.mem_of_getElem? (i := 129) (by decide +kernel)), rfl⟩, List.mem_filter.mpr ⟨in_t7 _ (List.mem_of_getElem? (i := 130) (by decide +kernel)), rfl⟩⟩
set_option maxRecDepth 100000 in
theorem my_X11_say : jMy yX11_say cX11_say 5 (some .int) 2 := ⟨List.mem_filter.mpr ⟨in_t6 _ (List.mem_of_getElem? (i := 211) rfl), rfl⟩, List.mem_filter.mpr ⟨in_t1 _ (List.mem_of_getElem? (i := 11) (by decide +kernel)), rfl⟩, by decide +kernel, by decide +kernel, by decide⟩
theorem mv_X11_say : jMyV yX11_say := ⟨List.mem_filter.mpr ⟨in_t6 _ (List.mem_of_getElem? (i := 209) (by decide +kernel)), rfl⟩, List.mem_filter.mpr ⟨in_t6 _ (List.mem_of_getElem? (i := 210) (by decide +kernel)), rfl⟩⟩
set_option maxRecDepth 100000 in
theorem my_X11_sentence : jMy yX11_sentence cX11_sentence 5 (some .int) 1 := ⟨List.mem_filter.mpr ⟨in_t7 _ (List.mem_of_getElem? (i := 22) rfl), rfl⟩, List.mem_filter.mpr ⟨in_t1 _ (List.mem_of_getElem? (i := 11) (by decide +kernel)), rfl⟩, by decide +kernel, by decide +kernel, by decide⟩
theorem mv_X11_sentence : jMyV yX11_sentence := ⟨List.mem_filter.mpr ⟨in_t7 _ (List.mem_of_getElem? (i := 20) (by decide +kernel)), rfl⟩, List.mem_filter.mpr ⟨in_t7 _ (List.mem_of_getElem? (i := 21) (by decide +kernel)), rfl⟩⟩
set_option maxRecDepth 100000 in
theorem my_X11_share : jMy yX11_share cX11_share 3 (some .boolean) 2 := ⟨List.mem_filter.mpr ⟨in_t7 _ (List.mem_of_getElem? (i := 59) rfl), rfl⟩, List.mem_filter.mpr ⟨in_t1 _ (List.mem_of_getElem? (i := 11) (by decide +kernel)), rfl⟩, by decide +kernel, by decide +kernel, by decide⟩
theorem mv_X11_share : jMyV yX11_share := ⟨List.mem_filter.mpr ⟨in_t7 _ (List.mem_of_getElem? (i := 58) (by decide +kernel)), rfl⟩, List.mem_filter.mpr ⟨List.mem_append_left _ (List.mem_of_getElem? (i := 84) (by decide +kernel)), rfl⟩⟩
set_option maxRecDepth 100000 in
theorem my_X11_sheet : jMy yX11_sheet cX11_sheet 9 (some .int) 4 := ⟨List.mem_filter.mpr ⟨in_t6 _ (List.mem_of_getElem? (i := 167) rfl), rfl⟩, List.mem_filter.mpr ⟨in_t1 _ (List.mem_of_getElem? (i := 11) (by decide +kernel)), rfl⟩, by decide +kernel, by decide +kernel, by decide⟩
theorem mv_X11_sheet : jMyV yX11_sheet := ⟨List.mem_filter.mpr ⟨in_t6 _ (List.mem_of_getElem? (i := 165) (by decide +kernel)), rfl⟩, List.mem_filter.mpr ⟨in_t6 _ (List.mem_of_getElem? (i := 166) (by decide +kernel)), rfl⟩⟩
set_option maxRecDepth 100000 in
theorem my_X11_shortest : jMy yX11_shortest cX11_shortest 6 (some .int) 3 := ⟨List.mem_filter.mpr ⟨in_t7 _ (List.mem_of_getElem? (i := 35) rfl), rfl⟩, List.mem_filter.mpr ⟨in_t1 _ (List.mem_of_getElem? (i := 11) (by decide +kernel)), rfl⟩, by decide +kernel, by decide +kernel, by decide⟩
theorem mv_X11_shortest : jMyV yX11_shortest := ⟨List.mem_filter.mpr ⟨in_t7 _ (List.mem_of_getElem? (i := 33) (by decide +kernel)), rfl⟩, List.mem_filter.mpr ⟨in_t7 _ (List.mem_of_getElem? (i := 34) (by decide +kernel)), rfl⟩⟩
set_option maxRecDepth 100000 in
theorem my_X11_sign : jMy yX11_sign cX11_sign 3 (some .int) 1 := ⟨List.mem_filter.mpr ⟨in_t6 _ (List.mem_of_getElem? (i := 11) rfl), rfl⟩, List.mem_filter.mpr ⟨in_t1 _ (List.mem_of_getElem? (i := 11) (by decide +kernel)), rfl⟩, by decide +kernel, by decide +kernel, by decide⟩
theorem mv_X11_sign : jMyV yX11_sign := ⟨List.mem_filter.mpr ⟨in_t6 _ (List.mem_of_getElem? (i := 9) (by decide +kernel)), rfl⟩, List.mem_filter.mpr ⟨in_t6 _ (List.mem_of_getElem? (i := 10) (by decide +kernel)), rfl⟩⟩
set_option maxRecDepth 100000 in
theorem my_X11_speak : jMy yX11_speak cX11_speak 8 none 2 := ⟨List.mem_filter.mpr ⟨in_t7 _ (List.mem_of_getElem? (i := 99) rfl), rfl⟩, List.mem_filter.mpr ⟨in_t1 _ (List.mem_of_getElem? (i := 11) (by decide +kernel)), rfl⟩, by decide +kernel, by decide +kernel, by decide⟩
theorem mv_X11_speak : jMyV yX11_speak := ⟨List.mem_filter.mpr ⟨in_t7 _ (List.mem_of_getElem? (i := 98) (by decide +kernel)), rfl⟩, List.mem_filter.mpr ⟨List.mem_append_left _ (List.mem_of_getElem? (i := 89) (by decide +kernel)), rfl⟩⟩
set_option maxRecDepth 100000 in
theorem my_X11_sum : jMy yX11_sum cX11_sum 5 (some .int) 1 := ⟨List.mem_filter.mpr ⟨in_t6 _ (List.mem_of_getElem? (i := 94) rfl), rfl⟩, List.mem_filter.mpr ⟨in_t1 _ (List.mem_of_getElem? (i := 11) (by decide +kernel)), rfl⟩, by decide +kernel, by decide +kernel, by decide⟩
theorem mv_X11_sum : jMyV yX11_sum := ⟨List.mem_filter.mpr ⟨in_t6 _ (List.mem_of_getElem? (i := 93) (by decide +kernel)), rfl⟩, List.mem_filter.mpr ⟨List.mem_append_left _ (List.mem_of_getElem? (i := 56) (by decide +kernel)), rfl⟩⟩
set_option maxRecDepth 100000 in
theorem my_X11_sumOf : jMy yX11_sumOf cX11_sumOf 5 (some .int) 2 := ⟨List.mem_filter.mpr ⟨in_t7 _ (List.mem_of_getElem? (i := 176) rfl), rfl⟩, List.mem_filter.mpr ⟨in_t1 _ (List.mem_of_getElem? (i := 11) (by decide +kernel)), rfl⟩, by decide +kernel, by decide +kernel, by decide⟩
theorem mv_X11_sumOf : jMyV yX11_sumOf := ⟨List.mem_filter.mpr ⟨in_t7 _ (List.mem_of_getElem? (i := 175) (by decide +kernel)), rfl⟩, List.mem_filter.mpr ⟨List.mem_append_left _ (List.mem_of_getElem? (i := 97) (by decide +kernel)), rfl⟩⟩
set_option maxRecDepth 100000 in
theorem my_X11_take : jMy yX11_take cX11_take 4 none 2 := ⟨List.mem_filter.mpr ⟨in_t7 _ (List.mem_of_getElem? (i := 147) rfl), rfl⟩, List.mem_filter.mpr ⟨in_t1 _ (List.mem_of_getElem? (i := 11) (by decide +kernel)), rfl⟩, by decide +kernel, by decide +kernel, by decide⟩
theorem mv_X11_take : jMyV yX11_take := ⟨List.mem_filter.mpr ⟨in_t7 _ (List.mem_of_getElem? (i := 146) (by decide +kernel)), rfl⟩, List.mem_filter.mpr ⟨List.mem_append_left _ (List.mem_of_getElem? (i := 95) (by decide +kernel)), rfl⟩⟩
set_option maxRecDepth 100000 in
theorem my_X11_takes : jMy yX11_takes cX11_takes 4 (some .int) 2 := ⟨List.mem_filter.mpr ⟨in_t7 _ (List.mem_of_getElem? (i := 115) rfl), rfl⟩, List.mem_filter.mpr ⟨in_t1 _ (List.mem_of_getElem? (i := 11) (by decide +kernel)), rfl⟩, by decide +kernel, by decide +kernel, by decide⟩
theorem mv_X11_takes : jMyV yX11_takes := ⟨List.mem_filter.mpr ⟨in_t7 _ (List.mem_of_getElem? (i := 113) (by decide +kernel)), rfl⟩, List.mem_filter.mpr ⟨in_t7 _ (List.mem_of_getElem? (i := 114) (by decide +kernel)), rfl⟩⟩
set_option maxRecDepth 100000 in
theorem my_X11_takesBy : jMy yX11_takesBy cX11_takesBy 7 (some .int) 2 := ⟨List.mem_filter.mpr ⟨in_t7 _ (List.mem_of_getElem? (i := 119) rfl), rfl⟩, List.mem_filter.mpr ⟨in_t1 _ (List.mem_of_getElem? (i := 11) (by decide +kernel)), rfl⟩, by decide +kernel, by decide +kernel, by decide⟩
theorem mv_X11_takesBy : jMyV yX11_takesBy := ⟨List.mem_filter.mpr ⟨in_t7 _ (List.mem_of_getElem? (i := 118) (by decide +kernel)), rfl⟩, List.mem_filter.mpr ⟨List.mem_append_left _ (List.mem_of_getElem? (i := 91) (by decide +kernel)), rfl⟩⟩
set_option maxRecDepth 100000 in
theorem my_X11_tell : jMy yX11_tell cX11_tell 3 none 1 := ⟨List.mem_filter.mpr ⟨in_t6 _ (List.mem_of_getElem? (i := 185) rfl), rfl⟩, List.mem_filter.mpr ⟨in_t1 _ (List.mem_of_getElem? (i := 11) (by decide +kernel)), rfl⟩, by decide +kernel, by decide +kernel, by decide⟩
theorem mv_X11_tell : jMyV yX11_tell := ⟨List.mem_filter.mpr ⟨in_t6 _ (List.mem_of_getElem? (i := 184) (by decide +kernel)), rfl⟩, List.mem_filter.mpr ⟨List.mem_append_left _ (List.mem_of_getElem? (i := 70) (by decide +kernel)), rfl⟩⟩
set_option maxRecDepth 100000 in
theorem my_X11_tells : jMy yX11_tells cX11_tells 4 (some .int) 3 := ⟨List.mem_filter.mpr ⟨in_t7 _ (List.mem_of_getElem? (i := 27) rfl), rfl⟩, List.mem_filter.mpr ⟨in_t1 _ (List.mem_of_getElem? (i := 11) (by decide +kernel)), rfl⟩, by decide +kernel, by decide +kernel, by decide⟩
theorem mv_X11_tells : jMyV yX11_tells := ⟨List.mem_filter.mpr ⟨in_t7 _ (List.mem_of_getElem? (i := 26) (by decide +kernel)), rfl⟩, List.mem_filter.mpr ⟨List.mem_append_left _ (List.mem_of_getElem? (i := 80) (by decide +kernel)), rfl⟩⟩
set_option maxRecDepth 100000 in
theorem my_X11_thing : jMy yX11_thing cX11_thing 4 (some .int) 1 := ⟨List.mem_filter.mpr ⟨in_t6 _ (List.mem_of_getElem? (i := 102) rfl), rfl⟩, List.mem_filter.mpr ⟨in_t1 _ (List.mem_of_getElem? (i := 11) (by decide +kernel)), rfl⟩, by decide +kernel, by decide +kernel, by decide⟩
theorem mv_X11_thing : jMyV yX11_thing := ⟨List.mem_filter.mpr ⟨in_t6 _ (List.mem_of_getElem? (i := 101) (by decide +kernel)), rfl⟩, List.mem_filter.mpr ⟨List.mem_append_left _ (List.mem_of_getElem? (i := 58) (by decide +kernel)), rfl⟩⟩
set_option maxRecDepth 100000 in
theorem my_X11_thrown : jMy yX11_thrown cX11_thrown 1 (some .int) 0 := ⟨List.mem_filter.mpr ⟨in_t6 _ (List.mem_of_getElem? (i := 7) rfl), rfl⟩, List.mem_filter.mpr ⟨in_t1 _ (List.mem_of_getElem? (i := 11) (by decide +kernel)), rfl⟩, by decide +kernel, by decide +kernel, by decide⟩
theorem mv_X11_thrown : jMyV yX11_thrown := ⟨List.mem_filter.mpr ⟨in_t6 _ (List.mem_of_getElem? (i := 5) (by decide +kernel)), rfl⟩, List.mem_filter.mpr ⟨in_t6 _ (List.mem_of_getElem? (i := 6) (by decide +kernel)), rfl⟩⟩
set_option maxRecDepth 100000 in
theorem my_X11_toll : jMy yX11_toll cX11_toll 5 (some .int) 2 := ⟨List.mem_filter.mpr ⟨in_t6 _ (List.mem_of_getElem? (i := 173) rfl), rfl⟩, List.mem_filter.mpr ⟨in_t1 _ (List.mem_of_getElem? (i := 11) (by decide +kernel)), rfl⟩, by decide +kernel, by decide +kernel, by decide⟩
theorem mv_X11_toll : jMyV yX11_toll := ⟨List.mem_filter.mpr ⟨in_t6 _ (List.mem_of_getElem? (i := 171) (by decide +kernel)), rfl⟩, List.mem_filter.mpr ⟨in_t6 _ (List.mem_of_getElem? (i := 172) (by decide +kernel)), rfl⟩⟩
set_option maxRecDepth 100000 in
theorem my_X11_tollNow : jMy yX11_tollNow cX11_tollNow 3 (some .int) 2 := ⟨List.mem_filter.mpr ⟨in_t6 _ (List.mem_of_getElem? (i := 177) rfl), rfl⟩, List.mem_filter.mpr ⟨in_t1 _ (List.mem_of_getElem? (i := 11) (by decide +kernel)), rfl⟩, by decide +kernel, by decide +kernel, by decide⟩
theorem mv_X11_tollNow : jMyV yX11_tollNow := ⟨List.mem_filter.mpr ⟨in_t6 _ (List.mem_of_getElem? (i := 176) (by decide +kernel)), rfl⟩, List.mem_filter.mpr ⟨List.mem_append_left _ (List.mem_of_getElem? (i := 68) (by decide +kernel)), rfl⟩⟩
set_option maxRecDepth 100000 in
theorem my_X11_tollOf : jMy yX11_tollOf cX11_tollOf 9 (some .int) 3 := ⟨List.mem_filter.mpr ⟨in_t6 _ (List.mem_of_getElem? (i := 181) rfl), rfl⟩, List.mem_filter.mpr ⟨in_t1 _ (List.mem_of_getElem? (i := 11) (by decide +kernel)), rfl⟩, by decide +kernel, by decide +kernel, by decide⟩
theorem mv_X11_tollOf : jMyV yX11_tollOf := ⟨List.mem_filter.mpr ⟨in_t6 _ (List.mem_of_getElem? (i := 180) (by decide +kernel)), rfl⟩, List.mem_filter.mpr ⟨List.mem_append_left _ (List.mem_of_getElem? (i := 69) (by decide +kernel)), rfl⟩⟩
set_option maxRecDepth 100000 in
theorem my_X11_tollsOf : jMy yX11_tollsOf cX11_tollsOf 5 (some .int) 2 := ⟨List.mem_filter.mpr ⟨in_t7 _ (List.mem_of_getElem? (i := 79) rfl), rfl⟩, List.mem_filter.mpr ⟨in_t1 _ (List.mem_of_getElem? (i := 11) (by decide +kernel)), rfl⟩, by decide +kernel, by decide +kernel, by decide⟩
theorem mv_X11_tollsOf : jMyV yX11_tollsOf := ⟨List.mem_filter.mpr ⟨in_t7 _ (List.mem_of_getElem? (i := 78) (by decide +kernel)), rfl⟩, List.mem_filter.mpr ⟨List.mem_append_left _ (List.mem_of_getElem? (i := 85) (by decide +kernel)), rfl⟩⟩
set_option maxRecDepth 100000 in
theorem my_X11_traveller : jMy yX11_traveller cX11_traveller 5 (some .int) 2 := ⟨List.mem_filter.mpr ⟨in_t6 _ (List.mem_of_getElem? (i := 136) rfl), rfl⟩, List.mem_filter.mpr ⟨in_t1 _ (List.mem_of_getElem? (i := 11) (by decide +kernel)), rfl⟩, by decide +kernel, by decide +kernel, by decide⟩
theorem mv_X11_traveller : jMyV yX11_traveller := ⟨List.mem_filter.mpr ⟨in_t6 _ (List.mem_of_getElem? (i := 134) (by decide +kernel)), rfl⟩, List.mem_filter.mpr ⟨in_t6 _ (List.mem_of_getElem? (i := 135) (by decide +kernel)), rfl⟩⟩
set_option maxRecDepth 100000 in
theorem my_X11_travellers : jMy yX11_travellers cX11_travellers 4 (some .int) 0 := ⟨List.mem_filter.mpr ⟨in_t6 _ (List.mem_of_getElem? (i := 66) rfl), rfl⟩, List.mem_filter.mpr ⟨in_t1 _ (List.mem_of_getElem? (i := 11) (by decide +kernel)), rfl⟩, by decide +kernel, by decide +kernel, by decide⟩
theorem mv_X11_travellers : jMyV yX11_travellers := ⟨List.mem_filter.mpr ⟨in_t6 _ (List.mem_of_getElem? (i := 64) (by decide +kernel)), rfl⟩, List.mem_filter.mpr ⟨in_t6 _ (List.mem_of_getElem? (i := 65) (by decide +kernel)), rfl⟩⟩
set_option maxRecDepth 100000 in
theorem my_X11_trip : jMy yX11_trip cX11_trip 4 (some .int) 2 := ⟨List.mem_filter.mpr ⟨in_t7 _ (List.mem_of_getElem? (i := 87) rfl), rfl⟩, List.mem_filter.mpr ⟨in_t1 _ (List.mem_of_getElem? (i := 11) (by decide +kernel)), rfl⟩, by decide +kernel, by decide +kernel, by decide⟩
theorem mv_X11_trip : jMyV yX11_trip := ⟨List.mem_filter.mpr ⟨in_t7 _ (List.mem_of_getElem? (i := 85) (by decide +kernel)), rfl⟩, List.mem_filter.mpr ⟨in_t7 _ (List.mem_of_getElem? (i := 86) (by decide +kernel)), rfl⟩⟩
set_option maxRecDepth 100000 in
theorem my_X11_undo : jMy yX11_undo cX11_undo 2 (some .int) 0 := ⟨List.mem_filter.mpr ⟨in_t7 _ (List.mem_of_getElem? (i := 11) rfl), rfl⟩, List.mem_filter.mpr ⟨in_t1 _ (List.mem_of_getElem? (i := 11) (by decide +kernel)), rfl⟩, by decide +kernel, by decide +kernel, by decide⟩
theorem mv_X11_undo : jMyV yX11_undo := ⟨List.mem_filter.mpr ⟨in_t7 _ (List.mem_of_getElem? (i := 9) (by decide +kernel)), rfl⟩, List.mem_filter.mpr ⟨in_t7 _ (List.mem_of_getElem? (i := 10) (by decide +kernel)), rfl⟩⟩
set_option maxRecDepth 100000 in
theorem my_X11_vowelOf : jMy yX11_vowelOf cX11_vowelOf 1 (some .int) 1 := ⟨List.mem_filter.mpr ⟨in_t6 _ (List.mem_of_getElem? (i := 132) rfl), rfl⟩, List.mem_filter.mpr ⟨in_t1 _ (List.mem_of_getElem? (i := 11) (by decide +kernel)), rfl⟩, by decide +kernel, by decide +kernel, by decide⟩
theorem ms_X11_vowelOf : Cond.static yX11_vowelOf ∈ jTB := List.mem_filter.mpr ⟨in_t6 _ (List.mem_of_getElem? (i := 131) (by decide +kernel)), rfl⟩
set_option maxRecDepth 100000 in
theorem my_X11_vowelsIn : jMy yX11_vowelsIn cX11_vowelsIn 4 (some .int) 1 := ⟨List.mem_filter.mpr ⟨in_t6 _ (List.mem_of_getElem? (i := 121) rfl), rfl⟩, List.mem_filter.mpr ⟨in_t1 _ (List.mem_of_getElem? (i := 11) (by decide +kernel)), rfl⟩, by decide +kernel, by decide +kernel, by decide⟩
theorem mv_X11_vowelsIn : jMyV yX11_vowelsIn := ⟨List.mem_filter.mpr ⟨in_t6 _ (List.mem_of_getElem? (i := 120) (by decide +kernel)), rfl⟩, List.mem_filter.mpr ⟨List.mem_append_left _ (List.mem_of_getElem? (i := 61) (by decide +kernel)), rfl⟩⟩
set_option maxRecDepth 100000 in
theorem my_X11_walk : jMy yX11_walk cX11_walk 4 (some .int) 2 := ⟨List.mem_filter.mpr ⟨in_t6 _ (List.mem_of_getElem? (i := 189) rfl), rfl⟩, List.mem_filter.mpr ⟨in_t1 _ (List.mem_of_getElem? (i := 11) (by decide +kernel)), rfl⟩, by decide +kernel, by decide +kernel, by decide⟩
theorem mv_X11_walk : jMyV yX11_walk := ⟨List.mem_filter.mpr ⟨in_t6 _ (List.mem_of_getElem? (i := 187) (by decide +kernel)), rfl⟩, List.mem_filter.mpr ⟨in_t6 _ (List.mem_of_getElem? (i := 188) (by decide +kernel)), rfl⟩⟩
set_option maxRecDepth 100000 in
theorem my_X11_wasRight : jMy yX11_wasRight cX11_wasRight 1 (some .boolean) 0 := ⟨List.mem_filter.mpr ⟨in_t6 _ (List.mem_of_getElem? (i := 62) rfl), rfl⟩, List.mem_filter.mpr ⟨in_t1 _ (List.mem_of_getElem? (i := 11) (by decide +kernel)), rfl⟩, by decide +kernel, by decide +kernel, by decide⟩
theorem mv_X11_wasRight : jMyV yX11_wasRight := ⟨List.mem_filter.mpr ⟨in_t6 _ (List.mem_of_getElem? (i := 61) (by decide +kernel)), rfl⟩, List.mem_filter.mpr ⟨List.mem_append_left _ (List.mem_of_getElem? (i := 51) (by decide +kernel)), rfl⟩⟩
set_option maxRecDepth 100000 in
theorem my_X11_when : jMy yX11_when cX11_when 5 (some .int) 2 := ⟨List.mem_filter.mpr ⟨in_t7 _ (List.mem_of_getElem? (i := 31) rfl), rfl⟩, List.mem_filter.mpr ⟨in_t1 _ (List.mem_of_getElem? (i := 11) (by decide +kernel)), rfl⟩, by decide +kernel, by decide +kernel, by decide⟩
theorem mv_X11_when : jMyV yX11_when := ⟨List.mem_filter.mpr ⟨in_t7 _ (List.mem_of_getElem? (i := 29) (by decide +kernel)), rfl⟩, List.mem_filter.mpr ⟨in_t7 _ (List.mem_of_getElem? (i := 30) (by decide +kernel)), rfl⟩⟩
set_option maxRecDepth 100000 in
theorem my_X11_word : jMy yX11_word cX11_word 3 (some .int) 2 := ⟨List.mem_filter.mpr ⟨in_t6 _ (List.mem_of_getElem? (i := 109) rfl), rfl⟩, List.mem_filter.mpr ⟨in_t1 _ (List.mem_of_getElem? (i := 11) (by decide +kernel)), rfl⟩, by decide +kernel, by decide +kernel, by decide⟩
theorem mv_X11_word : jMyV yX11_word := ⟨List.mem_filter.mpr ⟨in_t6 _ (List.mem_of_getElem? (i := 107) (by decide +kernel)), rfl⟩, List.mem_filter.mpr ⟨in_t6 _ (List.mem_of_getElem? (i := 108) (by decide +kernel)), rfl⟩⟩
set_option maxRecDepth 100000 in
theorem my_X11_wordFor : jMy yX11_wordFor cX11_wordFor 3 (some .int) 1 := ⟨List.mem_filter.mpr ⟨in_t7 _ (List.mem_of_getElem? (i := 3) rfl), rfl⟩, List.mem_filter.mpr ⟨in_t1 _ (List.mem_of_getElem? (i := 11) (by decide +kernel)), rfl⟩, by decide +kernel, by decide +kernel, by decide⟩
theorem mv_X11_wordFor : jMyV yX11_wordFor := ⟨List.mem_filter.mpr ⟨in_t7 _ (List.mem_of_getElem? (i := 2) (by decide +kernel)), rfl⟩, List.mem_filter.mpr ⟨List.mem_append_left _ (List.mem_of_getElem? (i := 78) (by decide +kernel)), rfl⟩⟩
set_option maxRecDepth 100000 in
theorem my_X11_words : jMy yX11_words cX11_words 5 (some .int) 0 := ⟨List.mem_filter.mpr ⟨in_t6 _ (List.mem_of_getElem? (i := 26) rfl), rfl⟩, List.mem_filter.mpr ⟨in_t1 _ (List.mem_of_getElem? (i := 11) (by decide +kernel)), rfl⟩, by decide +kernel, by decide +kernel, by decide⟩
theorem mv_X11_words : jMyV yX11_words := ⟨List.mem_filter.mpr ⟨in_t6 _ (List.mem_of_getElem? (i := 24) (by decide +kernel)), rfl⟩, List.mem_filter.mpr ⟨in_t6 _ (List.mem_of_getElem? (i := 25) (by decide +kernel)), rfl⟩⟩
set_option maxRecDepth 100000 in
theorem my_X11_years : jMy yX11_years cX11_years 11 (some .int) 2 := ⟨List.mem_filter.mpr ⟨in_t7 _ (List.mem_of_getElem? (i := 155) rfl), rfl⟩, List.mem_filter.mpr ⟨in_t1 _ (List.mem_of_getElem? (i := 11) (by decide +kernel)), rfl⟩, by decide +kernel, by decide +kernel, by decide⟩
theorem mv_X11_years : jMyV yX11_years := ⟨List.mem_filter.mpr ⟨in_t7 _ (List.mem_of_getElem? (i := 153) (by decide +kernel)), rfl⟩, List.mem_filter.mpr ⟨in_t7 _ (List.mem_of_getElem? (i := 154) (by decide +kernel)), rfl⟩⟩
set_option maxRecDepth 100000 in
theorem my_X1_below : jMy yX1_below cX1_below 2 (some .int) 1 := ⟨List.mem_filter.mpr ⟨in_t4 _ (List.mem_of_getElem? (i := 187) rfl), rfl⟩, List.mem_filter.mpr ⟨in_t1 _ (List.mem_of_getElem? (i := 20) (by decide +kernel)), rfl⟩, by decide +kernel, by decide +kernel, by decide⟩
theorem mv_X1_below : jMyV yX1_below := ⟨List.mem_filter.mpr ⟨in_t4 _ (List.mem_of_getElem? (i := 185) (by decide +kernel)), rfl⟩, List.mem_filter.mpr ⟨in_t4 _ (List.mem_of_getElem? (i := 186) (by decide +kernel)), rfl⟩⟩
set_option maxRecDepth 100000 in
theorem my_X1_init : jMy yX1_init cX1_init 2 none 1 := ⟨List.mem_filter.mpr ⟨in_t4 _ (List.mem_of_getElem? (i := 174) rfl), rfl⟩, List.mem_filter.mpr ⟨in_t1 _ (List.mem_of_getElem? (i := 20) (by decide +kernel)), rfl⟩, by decide +kernel, by decide +kernel, by decide⟩
theorem mi_X1_init : yX1_init.name = "<init>" ∧ Cond.instanceMethod yX1_init ∈ jTB := ⟨rfl, List.mem_filter.mpr ⟨in_t4 _ (List.mem_of_getElem? (i := 173) (by decide +kernel)), rfl⟩⟩
set_option maxRecDepth 100000 in
theorem my_X2_at : jMy yX2_at cX2_at 4 (some .int) 1 := ⟨List.mem_filter.mpr ⟨in_t3 _ (List.mem_of_getElem? (i := 163) rfl), rfl⟩, List.mem_filter.mpr ⟨in_t1 _ (List.mem_of_getElem? (i := 5) (by decide +kernel)), rfl⟩, by decide +kernel, by decide +kernel, by decide⟩
theorem mv_X2_at : jMyV yX2_at := ⟨List.mem_filter.mpr ⟨in_t3 _ (List.mem_of_getElem? (i := 161) (by decide +kernel)), rfl⟩, List.mem_filter.mpr ⟨in_t3 _ (List.mem_of_getElem? (i := 162) (by decide +kernel)), rfl⟩⟩
set_option maxRecDepth 100000 in
theorem my_X2_firstOf : jMy yX2_firstOf cX2_firstOf 3 (some .int) 1 := ⟨List.mem_filter.mpr ⟨in_t3 _ (List.mem_of_getElem? (i := 171) rfl), rfl⟩, List.mem_filter.mpr ⟨in_t1 _ (List.mem_of_getElem? (i := 5) (by decide +kernel)), rfl⟩, by decide +kernel, by decide +kernel, by decide⟩
theorem mv_X2_firstOf : jMyV yX2_firstOf := ⟨List.mem_filter.mpr ⟨in_t3 _ (List.mem_of_getElem? (i := 169) (by decide +kernel)), rfl⟩, List.mem_filter.mpr ⟨in_t3 _ (List.mem_of_getElem? (i := 170) (by decide +kernel)), rfl⟩⟩
set_option maxRecDepth 100000 in
theorem my_X2_init : jMy yX2_init cX2_init 1 none 0 := ⟨List.mem_filter.mpr ⟨in_t1 _ (List.mem_of_getElem? (i := 112) rfl), rfl⟩, List.mem_filter.mpr ⟨in_t1 _ (List.mem_of_getElem? (i := 5) (by decide +kernel)), rfl⟩, by decide +kernel, by decide +kernel, by decide⟩
theorem mi_X2_init : yX2_init.name = "<init>" ∧ Cond.instanceMethod yX2_init ∈ jTB := ⟨rfl, List.mem_filter.mpr ⟨in_t1 _ (List.mem_of_getElem? (i := 111) (by decide +kernel)), rfl⟩⟩
set_option maxRecDepth 100000 in
theorem my_X2_metBy : jMy yX2_metBy cX2_metBy 6 (some .int) 3 := ⟨List.mem_filter.mpr ⟨in_t3 _ (List.mem_of_getElem? (i := 129) rfl), rfl⟩, List.mem_filter.mpr ⟨in_t1 _ (List.mem_of_getElem? (i := 5) (by decide +kernel)), rfl⟩, by decide +kernel, by decide +kernel, by decide⟩
theorem mv_X2_metBy : jMyV yX2_metBy := ⟨List.mem_filter.mpr ⟨in_t3 _ (List.mem_of_getElem? (i := 127) (by decide +kernel)), rfl⟩, List.mem_filter.mpr ⟨in_t3 _ (List.mem_of_getElem? (i := 128) (by decide +kernel)), rfl⟩⟩
set_option maxRecDepth 100000 in
theorem my_X2_of : jMy yX2_of cX2_of 4 (some .int) 1 := ⟨List.mem_filter.mpr ⟨in_t3 _ (List.mem_of_getElem? (i := 137) rfl), rfl⟩, List.mem_filter.mpr ⟨in_t1 _ (List.mem_of_getElem? (i := 5) (by decide +kernel)), rfl⟩, by decide +kernel, by decide +kernel, by decide⟩
theorem mv_X2_of : jMyV yX2_of := ⟨List.mem_filter.mpr ⟨in_t3 _ (List.mem_of_getElem? (i := 135) (by decide +kernel)), rfl⟩, List.mem_filter.mpr ⟨in_t3 _ (List.mem_of_getElem? (i := 136) (by decide +kernel)), rfl⟩⟩
set_option maxRecDepth 100000 in
theorem my_X2_readErrand : jMy yX2_readErrand cX2_readErrand 5 (some .boolean) 4 := ⟨List.mem_filter.mpr ⟨in_t2 _ (List.mem_of_getElem? (i := 190) rfl), rfl⟩, List.mem_filter.mpr ⟨in_t1 _ (List.mem_of_getElem? (i := 5) (by decide +kernel)), rfl⟩, by decide +kernel, by decide +kernel, by decide⟩
theorem mv_X2_readErrand : jMyV yX2_readErrand := ⟨List.mem_filter.mpr ⟨in_t2 _ (List.mem_of_getElem? (i := 188) (by decide +kernel)), rfl⟩, List.mem_filter.mpr ⟨in_t2 _ (List.mem_of_getElem? (i := 189) (by decide +kernel)), rfl⟩⟩
set_option maxRecDepth 100000 in
theorem my_X2_sumOf : jMy yX2_sumOf cX2_sumOf 5 (some .int) 2 := ⟨List.mem_filter.mpr ⟨in_t4 _ (List.mem_of_getElem? (i := 118) rfl), rfl⟩, List.mem_filter.mpr ⟨in_t1 _ (List.mem_of_getElem? (i := 5) (by decide +kernel)), rfl⟩, by decide +kernel, by decide +kernel, by decide⟩
theorem mv_X2_sumOf : jMyV yX2_sumOf := ⟨List.mem_filter.mpr ⟨in_t4 _ (List.mem_of_getElem? (i := 116) (by decide +kernel)), rfl⟩, List.mem_filter.mpr ⟨in_t4 _ (List.mem_of_getElem? (i := 117) (by decide +kernel)), rfl⟩⟩
set_option maxRecDepth 100000 in
theorem my_X3_compounds : jMy yX3_compounds cX3_compounds 3 (some .int) 0 := ⟨List.mem_filter.mpr ⟨in_t4 _ (List.mem_of_getElem? (i := 210) rfl), rfl⟩, List.mem_filter.mpr ⟨in_t1 _ (List.mem_of_getElem? (i := 4) (by decide +kernel)), rfl⟩, by decide +kernel, by decide +kernel, by decide⟩
theorem mv_X3_compounds : jMyV yX3_compounds := ⟨List.mem_filter.mpr ⟨in_t4 _ (List.mem_of_getElem? (i := 208) (by decide +kernel)), rfl⟩, List.mem_filter.mpr ⟨in_t4 _ (List.mem_of_getElem? (i := 209) (by decide +kernel)), rfl⟩⟩
set_option maxRecDepth 100000 in
theorem my_X3_countVowels : jMy yX3_countVowels cX3_countVowels 4 none 1 := ⟨List.mem_filter.mpr ⟨in_t2 _ (List.mem_of_getElem? (i := 161) rfl), rfl⟩, List.mem_filter.mpr ⟨in_t1 _ (List.mem_of_getElem? (i := 4) (by decide +kernel)), rfl⟩, by decide +kernel, by decide +kernel, by decide⟩
theorem mv_X3_countVowels : jMyV yX3_countVowels := ⟨List.mem_filter.mpr ⟨in_t2 _ (List.mem_of_getElem? (i := 160) (by decide +kernel)), rfl⟩, List.mem_filter.mpr ⟨List.mem_append_left _ (List.mem_of_getElem? (i := 6) (by decide +kernel)), rfl⟩⟩
set_option maxRecDepth 100000 in
theorem my_X3_heardIn : jMy yX3_heardIn cX3_heardIn 3 (some .int) 2 := ⟨List.mem_filter.mpr ⟨in_t3 _ (List.mem_of_getElem? (i := 125) rfl), rfl⟩, List.mem_filter.mpr ⟨in_t1 _ (List.mem_of_getElem? (i := 4) (by decide +kernel)), rfl⟩, by decide +kernel, by decide +kernel, by decide⟩
theorem mv_X3_heardIn : jMyV yX3_heardIn := ⟨List.mem_filter.mpr ⟨in_t3 _ (List.mem_of_getElem? (i := 123) (by decide +kernel)), rfl⟩, List.mem_filter.mpr ⟨in_t3 _ (List.mem_of_getElem? (i := 124) (by decide +kernel)), rfl⟩⟩
set_option maxRecDepth 100000 in
theorem my_X3_init : jMy yX3_init cX3_init 1 none 0 := ⟨List.mem_filter.mpr ⟨in_t1 _ (List.mem_of_getElem? (i := 71) rfl), rfl⟩, List.mem_filter.mpr ⟨in_t1 _ (List.mem_of_getElem? (i := 4) (by decide +kernel)), rfl⟩, by decide +kernel, by decide +kernel, by decide⟩
theorem mi_X3_init : yX3_init.name = "<init>" ∧ Cond.instanceMethod yX3_init ∈ jTB := ⟨rfl, List.mem_filter.mpr ⟨in_t1 _ (List.mem_of_getElem? (i := 70) (by decide +kernel)), rfl⟩⟩
set_option maxRecDepth 100000 in
theorem my_X3_isCompound : jMy yX3_isCompound cX3_isCompound 2 (some .boolean) 1 := ⟨List.mem_filter.mpr ⟨in_t3 _ (List.mem_of_getElem? (i := 228) rfl), rfl⟩, List.mem_filter.mpr ⟨in_t1 _ (List.mem_of_getElem? (i := 4) (by decide +kernel)), rfl⟩, by decide +kernel, by decide +kernel, by decide⟩
theorem mv_X3_isCompound : jMyV yX3_isCompound := ⟨List.mem_filter.mpr ⟨in_t3 _ (List.mem_of_getElem? (i := 226) (by decide +kernel)), rfl⟩, List.mem_filter.mpr ⟨in_t3 _ (List.mem_of_getElem? (i := 227) (by decide +kernel)), rfl⟩⟩
set_option maxRecDepth 100000 in
theorem my_X3_letter : jMy yX3_letter cX3_letter 3 (some .int) 2 := ⟨List.mem_filter.mpr ⟨in_t2 _ (List.mem_of_getElem? (i := 165) rfl), rfl⟩, List.mem_filter.mpr ⟨in_t1 _ (List.mem_of_getElem? (i := 4) (by decide +kernel)), rfl⟩, by decide +kernel, by decide +kernel, by decide⟩
theorem mv_X3_letter : jMyV yX3_letter := ⟨List.mem_filter.mpr ⟨in_t2 _ (List.mem_of_getElem? (i := 163) (by decide +kernel)), rfl⟩, List.mem_filter.mpr ⟨in_t2 _ (List.mem_of_getElem? (i := 164) (by decide +kernel)), rfl⟩⟩
set_option maxRecDepth 100000 in
theorem my_X3_meaningCount : jMy yX3_meaningCount cX3_meaningCount 4 (some .int) 1 := ⟨List.mem_filter.mpr ⟨in_t3 _ (List.mem_of_getElem? (i := 207) rfl), rfl⟩, List.mem_filter.mpr ⟨in_t1 _ (List.mem_of_getElem? (i := 4) (by decide +kernel)), rfl⟩, by decide +kernel, by decide +kernel, by decide⟩
theorem mv_X3_meaningCount : jMyV yX3_meaningCount := ⟨List.mem_filter.mpr ⟨in_t3 _ (List.mem_of_getElem? (i := 205) (by decide +kernel)), rfl⟩, List.mem_filter.mpr ⟨in_t3 _ (List.mem_of_getElem? (i := 206) (by decide +kernel)), rfl⟩⟩
set_option maxRecDepth 100000 in
theorem my_X3_means : jMy yX3_means cX3_means 3 (some .boolean) 2 := ⟨List.mem_filter.mpr ⟨in_t3 _ (List.mem_of_getElem? (i := 133) rfl), rfl⟩, List.mem_filter.mpr ⟨in_t1 _ (List.mem_of_getElem? (i := 4) (by decide +kernel)), rfl⟩, by decide +kernel, by decide +kernel, by decide⟩
theorem mv_X3_means : jMyV yX3_means := ⟨List.mem_filter.mpr ⟨in_t3 _ (List.mem_of_getElem? (i := 131) (by decide +kernel)), rfl⟩, List.mem_filter.mpr ⟨in_t3 _ (List.mem_of_getElem? (i := 132) (by decide +kernel)), rfl⟩⟩
set_option maxRecDepth 100000 in
theorem my_X3_mostAlike : jMy yX3_mostAlike cX3_mostAlike 5 (some .int) 1 := ⟨List.mem_filter.mpr ⟨in_t4 _ (List.mem_of_getElem? (i := 162) rfl), rfl⟩, List.mem_filter.mpr ⟨in_t1 _ (List.mem_of_getElem? (i := 4) (by decide +kernel)), rfl⟩, by decide +kernel, by decide +kernel, by decide⟩
theorem mv_X3_mostAlike : jMyV yX3_mostAlike := ⟨List.mem_filter.mpr ⟨in_t4 _ (List.mem_of_getElem? (i := 160) (by decide +kernel)), rfl⟩, List.mem_filter.mpr ⟨in_t4 _ (List.mem_of_getElem? (i := 161) (by decide +kernel)), rfl⟩⟩
set_option maxRecDepth 100000 in
theorem my_X3_readWord : jMy yX3_readWord cX3_readWord 6 (some .boolean) 2 := ⟨List.mem_filter.mpr ⟨in_t2 _ (List.mem_of_getElem? (i := 153) rfl), rfl⟩, List.mem_filter.mpr ⟨in_t1 _ (List.mem_of_getElem? (i := 4) (by decide +kernel)), rfl⟩, by decide +kernel, by decide +kernel, by decide⟩
theorem mv_X3_readWord : jMyV yX3_readWord := ⟨List.mem_filter.mpr ⟨in_t2 _ (List.mem_of_getElem? (i := 151) (by decide +kernel)), rfl⟩, List.mem_filter.mpr ⟨in_t2 _ (List.mem_of_getElem? (i := 152) (by decide +kernel)), rfl⟩⟩
set_option maxRecDepth 100000 in
theorem my_X3_shareMeaning : jMy yX3_shareMeaning cX3_shareMeaning 3 (some .boolean) 2 := ⟨List.mem_filter.mpr ⟨in_t4 _ (List.mem_of_getElem? (i := 34) rfl), rfl⟩, List.mem_filter.mpr ⟨in_t1 _ (List.mem_of_getElem? (i := 4) (by decide +kernel)), rfl⟩, by decide +kernel, by decide +kernel, by decide⟩
theorem mv_X3_shareMeaning : jMyV yX3_shareMeaning := ⟨List.mem_filter.mpr ⟨in_t4 _ (List.mem_of_getElem? (i := 32) (by decide +kernel)), rfl⟩, List.mem_filter.mpr ⟨in_t4 _ (List.mem_of_getElem? (i := 33) (by decide +kernel)), rfl⟩⟩
set_option maxRecDepth 100000 in
theorem my_X3_vowelOf : jMy yX3_vowelOf cX3_vowelOf 1 (some .int) 1 := ⟨List.mem_filter.mpr ⟨in_t2 _ (List.mem_of_getElem? (i := 168) rfl), rfl⟩, List.mem_filter.mpr ⟨in_t1 _ (List.mem_of_getElem? (i := 4) (by decide +kernel)), rfl⟩, by decide +kernel, by decide +kernel, by decide⟩
theorem ms_X3_vowelOf : Cond.static yX3_vowelOf ∈ jTB := List.mem_filter.mpr ⟨in_t2 _ (List.mem_of_getElem? (i := 167) (by decide +kernel)), rfl⟩
set_option maxRecDepth 100000 in
theorem my_X3_vowelsOf : jMy yX3_vowelsOf cX3_vowelsOf 2 (some .int) 1 := ⟨List.mem_filter.mpr ⟨in_t3 _ (List.mem_of_getElem? (i := 179) rfl), rfl⟩, List.mem_filter.mpr ⟨in_t1 _ (List.mem_of_getElem? (i := 4) (by decide +kernel)), rfl⟩, by decide +kernel, by decide +kernel, by decide⟩
theorem mv_X3_vowelsOf : jMyV yX3_vowelsOf := ⟨List.mem_filter.mpr ⟨in_t3 _ (List.mem_of_getElem? (i := 177) (by decide +kernel)), rfl⟩, List.mem_filter.mpr ⟨in_t3 _ (List.mem_of_getElem? (i := 178) (by decide +kernel)), rfl⟩⟩
set_option maxRecDepth 100000 in
theorem my_X4_backToMark : jMy yX4_backToMark cX4_backToMark 2 none 1 := ⟨List.mem_filter.mpr ⟨in_t3 _ (List.mem_of_getElem? (i := 196) rfl), rfl⟩, List.mem_filter.mpr ⟨in_t1 _ (List.mem_of_getElem? (i := 7) (by decide +kernel)), rfl⟩, by decide +kernel, by decide +kernel, by decide⟩
theorem mv_X4_backToMark : jMyV yX4_backToMark := ⟨List.mem_filter.mpr ⟨in_t3 _ (List.mem_of_getElem? (i := 194) (by decide +kernel)), rfl⟩, List.mem_filter.mpr ⟨in_t3 _ (List.mem_of_getElem? (i := 195) (by decide +kernel)), rfl⟩⟩
set_option maxRecDepth 100000 in
theorem my_X4_confirm : jMy yX4_confirm cX4_confirm 1 none 0 := ⟨List.mem_filter.mpr ⟨in_t3 _ (List.mem_of_getElem? (i := 109) rfl), rfl⟩, List.mem_filter.mpr ⟨in_t1 _ (List.mem_of_getElem? (i := 7) (by decide +kernel)), rfl⟩, by decide +kernel, by decide +kernel, by decide⟩
theorem mv_X4_confirm : jMyV yX4_confirm := ⟨List.mem_filter.mpr ⟨in_t3 _ (List.mem_of_getElem? (i := 107) (by decide +kernel)), rfl⟩, List.mem_filter.mpr ⟨in_t3 _ (List.mem_of_getElem? (i := 108) (by decide +kernel)), rfl⟩⟩
set_option maxRecDepth 100000 in
theorem my_X4_init : jMy yX4_init cX4_init 2 none 0 := ⟨List.mem_filter.mpr ⟨in_t1 _ (List.mem_of_getElem? (i := 174) rfl), rfl⟩, List.mem_filter.mpr ⟨in_t1 _ (List.mem_of_getElem? (i := 7) (by decide +kernel)), rfl⟩, by decide +kernel, by decide +kernel, by decide⟩
theorem mi_X4_init : yX4_init.name = "<init>" ∧ Cond.instanceMethod yX4_init ∈ jTB := ⟨rfl, List.mem_filter.mpr ⟨in_t1 _ (List.mem_of_getElem? (i := 173) (by decide +kernel)), rfl⟩⟩
set_option maxRecDepth 100000 in
theorem my_X4_mark : jMy yX4_mark cX4_mark 2 none 1 := ⟨List.mem_filter.mpr ⟨in_t3 _ (List.mem_of_getElem? (i := 82) rfl), rfl⟩, List.mem_filter.mpr ⟨in_t1 _ (List.mem_of_getElem? (i := 7) (by decide +kernel)), rfl⟩, by decide +kernel, by decide +kernel, by decide⟩
theorem mv_X4_mark : jMyV yX4_mark := ⟨List.mem_filter.mpr ⟨in_t3 _ (List.mem_of_getElem? (i := 80) (by decide +kernel)), rfl⟩, List.mem_filter.mpr ⟨in_t3 _ (List.mem_of_getElem? (i := 81) (by decide +kernel)), rfl⟩⟩
set_option maxRecDepth 100000 in
theorem my_X4_slot : jMy yX4_slot cX4_slot 2 (some .int) 1 := ⟨List.mem_filter.mpr ⟨in_t3 _ (List.mem_of_getElem? (i := 86) rfl), rfl⟩, List.mem_filter.mpr ⟨in_t1 _ (List.mem_of_getElem? (i := 7) (by decide +kernel)), rfl⟩, by decide +kernel, by decide +kernel, by decide⟩
theorem mv_X4_slot : jMyV yX4_slot := ⟨List.mem_filter.mpr ⟨in_t3 _ (List.mem_of_getElem? (i := 85) (by decide +kernel)), rfl⟩, List.mem_filter.mpr ⟨List.mem_append_left _ (List.mem_of_getElem? (i := 19) (by decide +kernel)), rfl⟩⟩
set_option maxRecDepth 100000 in
theorem my_X4_takeBack : jMy yX4_takeBack cX4_takeBack 2 (some .boolean) 1 := ⟨List.mem_filter.mpr ⟨in_t3 _ (List.mem_of_getElem? (i := 192) rfl), rfl⟩, List.mem_filter.mpr ⟨in_t1 _ (List.mem_of_getElem? (i := 7) (by decide +kernel)), rfl⟩, by decide +kernel, by decide +kernel, by decide⟩
theorem mv_X4_takeBack : jMyV yX4_takeBack := ⟨List.mem_filter.mpr ⟨in_t3 _ (List.mem_of_getElem? (i := 190) (by decide +kernel)), rfl⟩, List.mem_filter.mpr ⟨in_t3 _ (List.mem_of_getElem? (i := 191) (by decide +kernel)), rfl⟩⟩
set_option maxRecDepth 100000 in
theorem my_X5_begin : jMy yX5_begin cX5_begin 4 none 3 := ⟨List.mem_filter.mpr ⟨in_t4 _ (List.mem_of_getElem? (i := 83) rfl), rfl⟩, List.mem_filter.mpr ⟨in_t1 _ (List.mem_of_getElem? (i := 9) (by decide +kernel)), rfl⟩, by decide +kernel, by decide +kernel, by decide⟩
theorem mv_X5_begin : jMyV yX5_begin := ⟨List.mem_filter.mpr ⟨in_t4 _ (List.mem_of_getElem? (i := 81) (by decide +kernel)), rfl⟩, List.mem_filter.mpr ⟨in_t4 _ (List.mem_of_getElem? (i := 82) (by decide +kernel)), rfl⟩⟩
set_option maxRecDepth 100000 in
theorem my_X5_init : jMy yX5_init cX5_init 1 none 0 := ⟨List.mem_filter.mpr ⟨in_t1 _ (List.mem_of_getElem? (i := 214) rfl), rfl⟩, List.mem_filter.mpr ⟨in_t1 _ (List.mem_of_getElem? (i := 9) (by decide +kernel)), rfl⟩, by decide +kernel, by decide +kernel, by decide⟩
theorem mi_X5_init : yX5_init.name = "<init>" ∧ Cond.instanceMethod yX5_init ∈ jTB := ⟨rfl, List.mem_filter.mpr ⟨in_t1 _ (List.mem_of_getElem? (i := 213) (by decide +kernel)), rfl⟩⟩
set_option maxRecDepth 100000 in
theorem my_X5_isCheaperNow : jMy yX5_isCheaperNow cX5_isCheaperNow 3 (some .boolean) 0 := ⟨List.mem_filter.mpr ⟨in_t4 _ (List.mem_of_getElem? (i := 102) rfl), rfl⟩, List.mem_filter.mpr ⟨in_t1 _ (List.mem_of_getElem? (i := 9) (by decide +kernel)), rfl⟩, by decide +kernel, by decide +kernel, by decide⟩
theorem mv_X5_isCheaperNow : jMyV yX5_isCheaperNow := ⟨List.mem_filter.mpr ⟨in_t4 _ (List.mem_of_getElem? (i := 100) (by decide +kernel)), rfl⟩, List.mem_filter.mpr ⟨in_t4 _ (List.mem_of_getElem? (i := 101) (by decide +kernel)), rfl⟩⟩
set_option maxRecDepth 100000 in
theorem my_X5_sayAt : jMy yX5_sayAt cX5_sayAt 7 none 3 := ⟨List.mem_filter.mpr ⟨in_t4 _ (List.mem_of_getElem? (i := 98) rfl), rfl⟩, List.mem_filter.mpr ⟨in_t1 _ (List.mem_of_getElem? (i := 9) (by decide +kernel)), rfl⟩, by decide +kernel, by decide +kernel, by decide⟩
theorem mv_X5_sayAt : jMyV yX5_sayAt := ⟨List.mem_filter.mpr ⟨in_t4 _ (List.mem_of_getElem? (i := 96) (by decide +kernel)), rfl⟩, List.mem_filter.mpr ⟨in_t4 _ (List.mem_of_getElem? (i := 97) (by decide +kernel)), rfl⟩⟩
set_option maxRecDepth 100000 in
theorem my_X5_sentencePrice : jMy yX5_sentencePrice cX5_sentencePrice 8 (some .int) 4 := ⟨List.mem_filter.mpr ⟨in_t3 _ (List.mem_of_getElem? (i := 220) rfl), rfl⟩, List.mem_filter.mpr ⟨in_t1 _ (List.mem_of_getElem? (i := 9) (by decide +kernel)), rfl⟩, by decide +kernel, by decide +kernel, by decide⟩
theorem mv_X5_sentencePrice : jMyV yX5_sentencePrice := ⟨List.mem_filter.mpr ⟨in_t3 _ (List.mem_of_getElem? (i := 218) (by decide +kernel)), rfl⟩, List.mem_filter.mpr ⟨in_t3 _ (List.mem_of_getElem? (i := 219) (by decide +kernel)), rfl⟩⟩
set_option maxRecDepth 100000 in
theorem my_X5_toldBy : jMy yX5_toldBy cX5_toldBy 5 (some .int) 5 := ⟨List.mem_filter.mpr ⟨in_t3 _ (List.mem_of_getElem? (i := 224) rfl), rfl⟩, List.mem_filter.mpr ⟨in_t1 _ (List.mem_of_getElem? (i := 9) (by decide +kernel)), rfl⟩, by decide +kernel, by decide +kernel, by decide⟩
theorem ms_X5_toldBy : Cond.static yX5_toldBy ∈ jTB := List.mem_filter.mpr ⟨in_t3 _ (List.mem_of_getElem? (i := 223) (by decide +kernel)), rfl⟩
set_option maxRecDepth 100000 in
theorem my_X5_walkOn : jMy yX5_walkOn cX5_walkOn 4 none 0 := ⟨List.mem_filter.mpr ⟨in_t4 _ (List.mem_of_getElem? (i := 89) rfl), rfl⟩, List.mem_filter.mpr ⟨in_t1 _ (List.mem_of_getElem? (i := 9) (by decide +kernel)), rfl⟩, by decide +kernel, by decide +kernel, by decide⟩
theorem mv_X5_walkOn : jMyV yX5_walkOn := ⟨List.mem_filter.mpr ⟨in_t4 _ (List.mem_of_getElem? (i := 87) (by decide +kernel)), rfl⟩, List.mem_filter.mpr ⟨in_t4 _ (List.mem_of_getElem? (i := 88) (by decide +kernel)), rfl⟩⟩
set_option maxRecDepth 100000 in
theorem my_X6_add : jMy yX6_add cX6_add 3 none 1 := ⟨List.mem_filter.mpr ⟨in_t3 _ (List.mem_of_getElem? (i := 74) rfl), rfl⟩, List.mem_filter.mpr ⟨in_t1 _ (List.mem_of_getElem? (i := 3) (by decide +kernel)), rfl⟩, by decide +kernel, by decide +kernel, by decide⟩
theorem mv_X6_add : jMyV yX6_add := ⟨List.mem_filter.mpr ⟨in_t3 _ (List.mem_of_getElem? (i := 72) (by decide +kernel)), rfl⟩, List.mem_filter.mpr ⟨in_t3 _ (List.mem_of_getElem? (i := 73) (by decide +kernel)), rfl⟩⟩
set_option maxRecDepth 100000 in
theorem my_X6_clear : jMy yX6_clear cX6_clear 1 none 0 := ⟨List.mem_filter.mpr ⟨in_t3 _ (List.mem_of_getElem? (i := 70) rfl), rfl⟩, List.mem_filter.mpr ⟨in_t1 _ (List.mem_of_getElem? (i := 3) (by decide +kernel)), rfl⟩, by decide +kernel, by decide +kernel, by decide⟩
theorem mv_X6_clear : jMyV yX6_clear := ⟨List.mem_filter.mpr ⟨in_t3 _ (List.mem_of_getElem? (i := 68) (by decide +kernel)), rfl⟩, List.mem_filter.mpr ⟨in_t3 _ (List.mem_of_getElem? (i := 69) (by decide +kernel)), rfl⟩⟩
set_option maxRecDepth 100000 in
theorem my_X6_init : jMy yX6_init cX6_init 1 none 0 := ⟨List.mem_filter.mpr ⟨in_t1 _ (List.mem_of_getElem? (i := 55) rfl), rfl⟩, List.mem_filter.mpr ⟨in_t1 _ (List.mem_of_getElem? (i := 3) (by decide +kernel)), rfl⟩, by decide +kernel, by decide +kernel, by decide⟩
theorem mi_X6_init : yX6_init.name = "<init>" ∧ Cond.instanceMethod yX6_init ∈ jTB := ⟨rfl, List.mem_filter.mpr ⟨in_t1 _ (List.mem_of_getElem? (i := 54) (by decide +kernel)), rfl⟩⟩
set_option maxRecDepth 100000 in
theorem my_X6_tell : jMy yX6_tell cX6_tell 3 none 1 := ⟨List.mem_filter.mpr ⟨in_t3 _ (List.mem_of_getElem? (i := 141) rfl), rfl⟩, List.mem_filter.mpr ⟨in_t1 _ (List.mem_of_getElem? (i := 3) (by decide +kernel)), rfl⟩, by decide +kernel, by decide +kernel, by decide⟩
theorem mv_X6_tell : jMyV yX6_tell := ⟨List.mem_filter.mpr ⟨in_t3 _ (List.mem_of_getElem? (i := 139) (by decide +kernel)), rfl⟩, List.mem_filter.mpr ⟨in_t3 _ (List.mem_of_getElem? (i := 140) (by decide +kernel)), rfl⟩⟩
set_option maxRecDepth 100000 in
theorem my_X6_tell_ : jMy yX6_tell_ cX6_tell_ 5 none 2 := ⟨List.mem_filter.mpr ⟨in_t3 _ (List.mem_of_getElem? (i := 184) rfl), rfl⟩, List.mem_filter.mpr ⟨in_t1 _ (List.mem_of_getElem? (i := 3) (by decide +kernel)), rfl⟩, by decide +kernel, by decide +kernel, by decide⟩
theorem mv_X6_tell_ : jMyV yX6_tell_ := ⟨List.mem_filter.mpr ⟨in_t3 _ (List.mem_of_getElem? (i := 182) (by decide +kernel)), rfl⟩, List.mem_filter.mpr ⟨in_t3 _ (List.mem_of_getElem? (i := 183) (by decide +kernel)), rfl⟩⟩
set_option maxRecDepth 100000 in
theorem my_X7_closeBooks : jMy yX7_closeBooks cX7_closeBooks 3 none 1 := ⟨List.mem_filter.mpr ⟨in_t2 _ (List.mem_of_getElem? (i := 122) rfl), rfl⟩, List.mem_filter.mpr ⟨in_t1 _ (List.mem_of_getElem? (i := 6) (by decide +kernel)), rfl⟩, by decide +kernel, by decide +kernel, by decide⟩
theorem mv_X7_closeBooks : jMyV yX7_closeBooks := ⟨List.mem_filter.mpr ⟨in_t2 _ (List.mem_of_getElem? (i := 120) (by decide +kernel)), rfl⟩, List.mem_filter.mpr ⟨in_t2 _ (List.mem_of_getElem? (i := 121) (by decide +kernel)), rfl⟩⟩
set_option maxRecDepth 100000 in
theorem my_X7_copy : jMy yX7_copy cX7_copy 2 none 1 := ⟨List.mem_filter.mpr ⟨in_t3 _ (List.mem_of_getElem? (i := 90) rfl), rfl⟩, List.mem_filter.mpr ⟨in_t1 _ (List.mem_of_getElem? (i := 6) (by decide +kernel)), rfl⟩, by decide +kernel, by decide +kernel, by decide⟩
theorem mv_X7_copy : jMyV yX7_copy := ⟨List.mem_filter.mpr ⟨in_t3 _ (List.mem_of_getElem? (i := 88) (by decide +kernel)), rfl⟩, List.mem_filter.mpr ⟨in_t3 _ (List.mem_of_getElem? (i := 89) (by decide +kernel)), rfl⟩⟩
set_option maxRecDepth 100000 in
theorem my_X7_init : jMy yX7_init cX7_init 1 none 0 := ⟨List.mem_filter.mpr ⟨in_t1 _ (List.mem_of_getElem? (i := 143) rfl), rfl⟩, List.mem_filter.mpr ⟨in_t1 _ (List.mem_of_getElem? (i := 6) (by decide +kernel)), rfl⟩, by decide +kernel, by decide +kernel, by decide⟩
theorem mi_X7_init : yX7_init.name = "<init>" ∧ Cond.instanceMethod yX7_init ∈ jTB := ⟨rfl, List.mem_filter.mpr ⟨in_t1 _ (List.mem_of_getElem? (i := 142) (by decide +kernel)), rfl⟩⟩
set_option maxRecDepth 100000 in
theorem my_X7_readTraveller : jMy yX7_readTraveller cX7_readTraveller 4 (some .boolean) 3 := ⟨List.mem_filter.mpr ⟨in_t2 _ (List.mem_of_getElem? (i := 172) rfl), rfl⟩, List.mem_filter.mpr ⟨in_t1 _ (List.mem_of_getElem? (i := 6) (by decide +kernel)), rfl⟩, by decide +kernel, by decide +kernel, by decide⟩
theorem mv_X7_readTraveller : jMyV yX7_readTraveller := ⟨List.mem_filter.mpr ⟨in_t2 _ (List.mem_of_getElem? (i := 170) (by decide +kernel)), rfl⟩, List.mem_filter.mpr ⟨in_t2 _ (List.mem_of_getElem? (i := 171) (by decide +kernel)), rfl⟩⟩
set_option maxRecDepth 100000 in
theorem my_X7_vowelsInBooks : jMy yX7_vowelsInBooks cX7_vowelsInBooks 3 (some .int) 0 := ⟨List.mem_filter.mpr ⟨in_t4 _ (List.mem_of_getElem? (i := 206) rfl), rfl⟩, List.mem_filter.mpr ⟨in_t1 _ (List.mem_of_getElem? (i := 6) (by decide +kernel)), rfl⟩, by decide +kernel, by decide +kernel, by decide⟩
theorem mv_X7_vowelsInBooks : jMyV yX7_vowelsInBooks := ⟨List.mem_filter.mpr ⟨in_t4 _ (List.mem_of_getElem? (i := 204) (by decide +kernel)), rfl⟩, List.mem_filter.mpr ⟨in_t4 _ (List.mem_of_getElem? (i := 205) (by decide +kernel)), rfl⟩⟩
set_option maxRecDepth 100000 in
theorem my_X8_becomeNone : jMy yX8_becomeNone cX8_becomeNone 1 none 0 := ⟨List.mem_filter.mpr ⟨in_t2 _ (List.mem_of_getElem? (i := 17) rfl), rfl⟩, List.mem_filter.mpr ⟨in_t1 _ (List.mem_of_getElem? (i := 10) (by decide +kernel)), rfl⟩, by decide +kernel, by decide +kernel, by decide⟩
theorem mv_X8_becomeNone : jMyV yX8_becomeNone := ⟨List.mem_filter.mpr ⟨in_t2 _ (List.mem_of_getElem? (i := 16) (by decide +kernel)), rfl⟩, List.mem_filter.mpr ⟨List.mem_append_left _ (List.mem_of_getElem? (i := 0) (by decide +kernel)), rfl⟩⟩
set_option maxRecDepth 100000 in
theorem my_X8_charge : jMy yX8_charge cX8_charge 11 (some .int) 4 := ⟨List.mem_filter.mpr ⟨in_t3 _ (List.mem_of_getElem? (i := 53) rfl), rfl⟩, List.mem_filter.mpr ⟨in_t1 _ (List.mem_of_getElem? (i := 10) (by decide +kernel)), rfl⟩, by decide +kernel, by decide +kernel, by decide⟩
theorem mv_X8_charge : jMyV yX8_charge := ⟨List.mem_filter.mpr ⟨in_t3 _ (List.mem_of_getElem? (i := 51) (by decide +kernel)), rfl⟩, List.mem_filter.mpr ⟨in_t3 _ (List.mem_of_getElem? (i := 52) (by decide +kernel)), rfl⟩⟩
set_option maxRecDepth 100000 in
theorem my_X8_factOf : jMy yX8_factOf cX8_factOf 1 (some .int) 1 := ⟨List.mem_filter.mpr ⟨in_t3 _ (List.mem_of_getElem? (i := 19) rfl), rfl⟩, List.mem_filter.mpr ⟨in_t1 _ (List.mem_of_getElem? (i := 10) (by decide +kernel)), rfl⟩, by decide +kernel, by decide +kernel, by decide⟩
theorem ms_X8_factOf : Cond.static yX8_factOf ∈ jTB := List.mem_filter.mpr ⟨in_t3 _ (List.mem_of_getElem? (i := 18) (by decide +kernel)), rfl⟩
set_option maxRecDepth 100000 in
theorem my_X8_init : jMy yX8_init cX8_init 1 none 0 := ⟨List.mem_filter.mpr ⟨in_t2 _ (List.mem_of_getElem? (i := 12) rfl), rfl⟩, List.mem_filter.mpr ⟨in_t1 _ (List.mem_of_getElem? (i := 10) (by decide +kernel)), rfl⟩, by decide +kernel, by decide +kernel, by decide⟩
theorem mi_X8_init : yX8_init.name = "<init>" ∧ Cond.instanceMethod yX8_init ∈ jTB := ⟨rfl, List.mem_filter.mpr ⟨in_t2 _ (List.mem_of_getElem? (i := 11) (by decide +kernel)), rfl⟩⟩
set_option maxRecDepth 100000 in
theorem my_X8_joined : jMy yX8_joined cX8_joined 3 (some .int) 3 := ⟨List.mem_filter.mpr ⟨in_t3 _ (List.mem_of_getElem? (i := 65) rfl), rfl⟩, List.mem_filter.mpr ⟨in_t1 _ (List.mem_of_getElem? (i := 10) (by decide +kernel)), rfl⟩, by decide +kernel, by decide +kernel, by decide⟩
theorem ms_X8_joined : Cond.static yX8_joined ∈ jTB := List.mem_filter.mpr ⟨in_t3 _ (List.mem_of_getElem? (i := 64) (by decide +kernel)), rfl⟩
set_option maxRecDepth 100000 in
theorem my_X8_put : jMy yX8_put cX8_put 2 (some .boolean) 1 := ⟨List.mem_filter.mpr ⟨in_t3 _ (List.mem_of_getElem? (i := 15) rfl), rfl⟩, List.mem_filter.mpr ⟨in_t1 _ (List.mem_of_getElem? (i := 10) (by decide +kernel)), rfl⟩, by decide +kernel, by decide +kernel, by decide⟩
theorem mv_X8_put : jMyV yX8_put := ⟨List.mem_filter.mpr ⟨in_t3 _ (List.mem_of_getElem? (i := 14) (by decide +kernel)), rfl⟩, List.mem_filter.mpr ⟨List.mem_append_left _ (List.mem_of_getElem? (i := 14) (by decide +kernel)), rfl⟩⟩
set_option maxRecDepth 100000 in
theorem my_X8_read : jMy yX8_read cX8_read 2 (some .boolean) 1 := ⟨List.mem_filter.mpr ⟨in_t2 _ (List.mem_of_getElem? (i := 228) rfl), rfl⟩, List.mem_filter.mpr ⟨in_t1 _ (List.mem_of_getElem? (i := 10) (by decide +kernel)), rfl⟩, by decide +kernel, by decide +kernel, by decide⟩
theorem mv_X8_read : jMyV yX8_read := ⟨List.mem_filter.mpr ⟨in_t2 _ (List.mem_of_getElem? (i := 226) (by decide +kernel)), rfl⟩, List.mem_filter.mpr ⟨in_t2 _ (List.mem_of_getElem? (i := 227) (by decide +kernel)), rfl⟩⟩
set_option maxRecDepth 100000 in
theorem my_X8_readComparison : jMy yX8_readComparison cX8_readComparison 4 (some .boolean) 2 := ⟨List.mem_filter.mpr ⟨in_t2 _ (List.mem_of_getElem? (i := 233) rfl), rfl⟩, List.mem_filter.mpr ⟨in_t1 _ (List.mem_of_getElem? (i := 10) (by decide +kernel)), rfl⟩, by decide +kernel, by decide +kernel, by decide⟩
theorem mv_X8_readComparison : jMyV yX8_readComparison := ⟨List.mem_filter.mpr ⟨in_t2 _ (List.mem_of_getElem? (i := 232) (by decide +kernel)), rfl⟩, List.mem_filter.mpr ⟨List.mem_append_left _ (List.mem_of_getElem? (i := 9) (by decide +kernel)), rfl⟩⟩
set_option maxRecDepth 100000 in
theorem my_X8_readFactor : jMy yX8_readFactor cX8_readFactor 4 (some .boolean) 2 := ⟨List.mem_filter.mpr ⟨in_t3 _ (List.mem_of_getElem? (i := 5) rfl), rfl⟩, List.mem_filter.mpr ⟨in_t1 _ (List.mem_of_getElem? (i := 10) (by decide +kernel)), rfl⟩, by decide +kernel, by decide +kernel, by decide⟩
theorem mv_X8_readFactor : jMyV yX8_readFactor := ⟨List.mem_filter.mpr ⟨in_t3 _ (List.mem_of_getElem? (i := 4) (by decide +kernel)), rfl⟩, List.mem_filter.mpr ⟨List.mem_append_left _ (List.mem_of_getElem? (i := 12) (by decide +kernel)), rfl⟩⟩
set_option maxRecDepth 100000 in
theorem my_X8_readProduct : jMy yX8_readProduct cX8_readProduct 6 (some .boolean) 2 := ⟨List.mem_filter.mpr ⟨in_t3 _ (List.mem_of_getElem? (i := 1) rfl), rfl⟩, List.mem_filter.mpr ⟨in_t1 _ (List.mem_of_getElem? (i := 10) (by decide +kernel)), rfl⟩, by decide +kernel, by decide +kernel, by decide⟩
theorem mv_X8_readProduct : jMyV yX8_readProduct := ⟨List.mem_filter.mpr ⟨in_t3 _ (List.mem_of_getElem? (i := 0) (by decide +kernel)), rfl⟩, List.mem_filter.mpr ⟨List.mem_append_left _ (List.mem_of_getElem? (i := 11) (by decide +kernel)), rfl⟩⟩
set_option maxRecDepth 100000 in
theorem my_X8_readSum : jMy yX8_readSum cX8_readSum 6 (some .boolean) 2 := ⟨List.mem_filter.mpr ⟨in_t2 _ (List.mem_of_getElem? (i := 237) rfl), rfl⟩, List.mem_filter.mpr ⟨in_t1 _ (List.mem_of_getElem? (i := 10) (by decide +kernel)), rfl⟩, by decide +kernel, by decide +kernel, by decide⟩
theorem mv_X8_readSum : jMyV yX8_readSum := ⟨List.mem_filter.mpr ⟨in_t2 _ (List.mem_of_getElem? (i := 236) (by decide +kernel)), rfl⟩, List.mem_filter.mpr ⟨List.mem_append_left _ (List.mem_of_getElem? (i := 10) (by decide +kernel)), rfl⟩⟩
set_option maxRecDepth 100000 in
theorem my_X8_readThing : jMy yX8_readThing cX8_readThing 5 (some .boolean) 2 := ⟨List.mem_filter.mpr ⟨in_t3 _ (List.mem_of_getElem? (i := 10) rfl), rfl⟩, List.mem_filter.mpr ⟨in_t1 _ (List.mem_of_getElem? (i := 10) (by decide +kernel)), rfl⟩, by decide +kernel, by decide +kernel, by decide⟩
theorem mv_X8_readThing : jMyV yX8_readThing := ⟨List.mem_filter.mpr ⟨in_t3 _ (List.mem_of_getElem? (i := 9) (by decide +kernel)), rfl⟩, List.mem_filter.mpr ⟨List.mem_append_left _ (List.mem_of_getElem? (i := 13) (by decide +kernel)), rfl⟩⟩
set_option maxRecDepth 100000 in
theorem my_X8_takeEither : jMy yX8_takeEither cX8_takeEither 3 (some .int) 3 := ⟨List.mem_filter.mpr ⟨in_t3 _ (List.mem_of_getElem? (i := 22) rfl), rfl⟩, List.mem_filter.mpr ⟨in_t1 _ (List.mem_of_getElem? (i := 10) (by decide +kernel)), rfl⟩, by decide +kernel, by decide +kernel, by decide⟩
theorem ms_X8_takeEither : Cond.static yX8_takeEither ∈ jTB := List.mem_filter.mpr ⟨in_t3 _ (List.mem_of_getElem? (i := 21) (by decide +kernel)), rfl⟩
set_option maxRecDepth 100000 in
theorem my_X8_value : jMy yX8_value cX8_value 4 (some .int) 0 := ⟨List.mem_filter.mpr ⟨in_t3 _ (List.mem_of_getElem? (i := 62) rfl), rfl⟩, List.mem_filter.mpr ⟨in_t1 _ (List.mem_of_getElem? (i := 10) (by decide +kernel)), rfl⟩, by decide +kernel, by decide +kernel, by decide⟩
theorem mv_X8_value : jMyV yX8_value := ⟨List.mem_filter.mpr ⟨in_t3 _ (List.mem_of_getElem? (i := 61) (by decide +kernel)), rfl⟩, List.mem_filter.mpr ⟨List.mem_append_left _ (List.mem_of_getElem? (i := 18) (by decide +kernel)), rfl⟩⟩
set_option maxRecDepth 100000 in
theorem my_X9_addFour : jMy yX9_addFour cX9_addFour 3 (some .boolean) 1 := ⟨List.mem_filter.mpr ⟨in_t2 _ (List.mem_of_getElem? (i := 103) rfl), rfl⟩, List.mem_filter.mpr ⟨in_t1 _ (List.mem_of_getElem? (i := 2) (by decide +kernel)), rfl⟩, by decide +kernel, by decide +kernel, by decide⟩
theorem mv_X9_addFour : jMyV yX9_addFour := ⟨List.mem_filter.mpr ⟨in_t2 _ (List.mem_of_getElem? (i := 101) (by decide +kernel)), rfl⟩, List.mem_filter.mpr ⟨in_t2 _ (List.mem_of_getElem? (i := 102) (by decide +kernel)), rfl⟩⟩
set_option maxRecDepth 100000 in
theorem my_X9_fault : jMy yX9_fault cX9_fault 1 (some .int) 0 := ⟨List.mem_filter.mpr ⟨in_t2 _ (List.mem_of_getElem? (i := 204) rfl), rfl⟩, List.mem_filter.mpr ⟨in_t1 _ (List.mem_of_getElem? (i := 2) (by decide +kernel)), rfl⟩, by decide +kernel, by decide +kernel, by decide⟩
theorem mv_X9_fault : jMyV yX9_fault := ⟨List.mem_filter.mpr ⟨in_t2 _ (List.mem_of_getElem? (i := 202) (by decide +kernel)), rfl⟩, List.mem_filter.mpr ⟨in_t2 _ (List.mem_of_getElem? (i := 203) (by decide +kernel)), rfl⟩⟩
set_option maxRecDepth 100000 in
theorem my_X9_init : jMy yX9_init cX9_init 1 none 0 := ⟨List.mem_filter.mpr ⟨in_t1 _ (List.mem_of_getElem? (i := 33) rfl), rfl⟩, List.mem_filter.mpr ⟨in_t1 _ (List.mem_of_getElem? (i := 2) (by decide +kernel)), rfl⟩, by decide +kernel, by decide +kernel, by decide⟩
theorem mi_X9_init : yX9_init.name = "<init>" ∧ Cond.instanceMethod yX9_init ∈ jTB := ⟨rfl, List.mem_filter.mpr ⟨in_t1 _ (List.mem_of_getElem? (i := 32) (by decide +kernel)), rfl⟩⟩
set_option maxRecDepth 100000 in
theorem my_X9_isOver : jMy yX9_isOver cX9_isOver 1 (some .boolean) 0 := ⟨List.mem_filter.mpr ⟨in_t2 _ (List.mem_of_getElem? (i := 208) rfl), rfl⟩, List.mem_filter.mpr ⟨in_t1 _ (List.mem_of_getElem? (i := 2) (by decide +kernel)), rfl⟩, by decide +kernel, by decide +kernel, by decide⟩
theorem mv_X9_isOver : jMyV yX9_isOver := ⟨List.mem_filter.mpr ⟨in_t2 _ (List.mem_of_getElem? (i := 206) (by decide +kernel)), rfl⟩, List.mem_filter.mpr ⟨in_t2 _ (List.mem_of_getElem? (i := 207) (by decide +kernel)), rfl⟩⟩
set_option maxRecDepth 100000 in
theorem my_X9_open : jMy yX9_open cX9_open 2 none 1 := ⟨List.mem_filter.mpr ⟨in_t2 _ (List.mem_of_getElem? (i := 138) rfl), rfl⟩, List.mem_filter.mpr ⟨in_t1 _ (List.mem_of_getElem? (i := 2) (by decide +kernel)), rfl⟩, by decide +kernel, by decide +kernel, by decide⟩
theorem mv_X9_open : jMyV yX9_open := ⟨List.mem_filter.mpr ⟨in_t2 _ (List.mem_of_getElem? (i := 136) (by decide +kernel)), rfl⟩, List.mem_filter.mpr ⟨in_t2 _ (List.mem_of_getElem? (i := 137) (by decide +kernel)), rfl⟩⟩
set_option maxRecDepth 100000 in
theorem my_X9_peek : jMy yX9_peek cX9_peek 1 (some .int) 0 := ⟨List.mem_filter.mpr ⟨in_t2 _ (List.mem_of_getElem? (i := 181) rfl), rfl⟩, List.mem_filter.mpr ⟨in_t1 _ (List.mem_of_getElem? (i := 2) (by decide +kernel)), rfl⟩, by decide +kernel, by decide +kernel, by decide⟩
theorem mv_X9_peek : jMyV yX9_peek := ⟨List.mem_filter.mpr ⟨in_t2 _ (List.mem_of_getElem? (i := 179) (by decide +kernel)), rfl⟩, List.mem_filter.mpr ⟨in_t2 _ (List.mem_of_getElem? (i := 180) (by decide +kernel)), rfl⟩⟩
set_option maxRecDepth 100000 in
theorem my_X9_take : jMy yX9_take cX9_take 2 (some .boolean) 1 := ⟨List.mem_filter.mpr ⟨in_t2 _ (List.mem_of_getElem? (i := 177) rfl), rfl⟩, List.mem_filter.mpr ⟨in_t1 _ (List.mem_of_getElem? (i := 2) (by decide +kernel)), rfl⟩, by decide +kernel, by decide +kernel, by decide⟩
theorem mv_X9_take : jMyV yX9_take := ⟨List.mem_filter.mpr ⟨in_t2 _ (List.mem_of_getElem? (i := 175) (by decide +kernel)), rfl⟩, List.mem_filter.mpr ⟨in_t2 _ (List.mem_of_getElem? (i := 176) (by decide +kernel)), rfl⟩⟩
set_option maxRecDepth 100000 in
theorem my_X9_takeFrom : jMy yX9_takeFrom cX9_takeFrom 4 (some .int) 2 := ⟨List.mem_filter.mpr ⟨in_t2 _ (List.mem_of_getElem? (i := 157) rfl), rfl⟩, List.mem_filter.mpr ⟨in_t1 _ (List.mem_of_getElem? (i := 2) (by decide +kernel)), rfl⟩, by decide +kernel, by decide +kernel, by decide⟩
theorem mv_X9_takeFrom : jMyV yX9_takeFrom := ⟨List.mem_filter.mpr ⟨in_t2 _ (List.mem_of_getElem? (i := 155) (by decide +kernel)), rfl⟩, List.mem_filter.mpr ⟨in_t2 _ (List.mem_of_getElem? (i := 156) (by decide +kernel)), rfl⟩⟩
set_option maxRecDepth 100000 in
theorem my_X9_takeNumber : jMy yX9_takeNumber cX9_takeNumber 5 (some .int) 1 := ⟨List.mem_filter.mpr ⟨in_t2 _ (List.mem_of_getElem? (i := 185) rfl), rfl⟩, List.mem_filter.mpr ⟨in_t1 _ (List.mem_of_getElem? (i := 2) (by decide +kernel)), rfl⟩, by decide +kernel, by decide +kernel, by decide⟩
theorem mv_X9_takeNumber : jMyV yX9_takeNumber := ⟨List.mem_filter.mpr ⟨in_t2 _ (List.mem_of_getElem? (i := 183) (by decide +kernel)), rfl⟩, List.mem_filter.mpr ⟨in_t2 _ (List.mem_of_getElem? (i := 184) (by decide +kernel)), rfl⟩⟩
