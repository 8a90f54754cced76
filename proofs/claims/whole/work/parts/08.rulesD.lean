/-! WHAT IS NEW, COPIES, RETURNS, CALLS -/
/-- what an instruction 'new' needs: kind ci -/
def jNW (own : String) (idx ci N : Nat) : Prop := ∃ (C : String) (T : u_T), jCls ci C T N ∧ Cond.classLink own idx C ∈ jTB ∧ Cond.instantiable C N ∈ jTB ∧ Cond.initialized C ∈ jTB ∧ ∀ k, k < N → j_kd (j_ty ci k) < 3
theorem j_fv_0 {S0 : Nat} {ty : FieldType} (h : j_kd ty < 3) : defaultValue ty = j_fv S0 ty 0 none := by
  cases ty <;> first | rfl | (simp [j_kd] at h)
/-- the picture behind a new cell -/
theorem j_rel_new {S0 : Nat} {D : va_G} {cA : Nat → ClassId} {h : jH} {H H' : Heap} {sh : Nat × Nat} {N : Nat} (hR : jRel S0 D cA h H) (z : H'.size = H.size + 1) (oq : ∀ q, q < H.size → H'[q]? = H[q]?) (hc : j_cell S0 D cA (js_N h sh N) (jh_n h) H') : jRel S0 D cA (js_N h sh N) H' := by
  refine ⟨by rw [z, hR.1]; rfl, fun b => ?_⟩
  by_cases hb : b = jh_n h
  · subst hb; exact hc
  · have hb2 : b ≠ h.1.1 := hb
    have e1 : jh_sh (js_N h sh N) b = jh_sh h b := if_neg hb2
    have e2 : jh_I (js_N h sh N) b = jh_I h b := j_row_ne hb2
    have e3 : jh_L (js_N h sh N) b = jh_L h b := j_row_ne hb2
    have e4 : jh_R (js_N h sh N) b = jh_R h b := j_row_ne hb2
    by_cases hlt : b < jh_n h
    · exact (hR.2 b).kept e1 e2 e3 e4 (oq _ (by rw [hR.1]; omega))
    · obtain ⟨g1, g2, g3, g4⟩ := hR.2 b
      have no : ∀ x : Cell, H[S0 + b]? ≠ some x := fun x q => by
        have := (Array.getElem?_eq_some_iff.mp q).1
        rw [hR.1] at this
        omega
      refine ⟨fun c q hcq hq => ?_, fun t ht ho => ?_, fun ht => ?_, fun ht => ?_⟩
      · rw [e1] at hcq
        obtain ⟨cell, a1, -⟩ := g1 c q hcq hq
        exact absurd a1 (no _)
      · rw [e1] at ht
        exact absurd (g2 t ht ho) (no _)
      · rw [e1] at ht
        exact absurd (g3 ht) (no _)
      · rw [e1] at ht
        exact absurd (g4 ht) (no _)
theorem j_N_sh (h : jH) (sh : Nat × Nat) (N : Nat) : jh_sh (js_N h sh N) (jh_n h) = sh := if_pos rfl
theorem j_N_I (h : jH) (sh : Nat × Nat) (N : Nat) : jh_I (js_N h sh N) (jh_n h) = fun _ => 0 := j_row_same _ _ _
theorem j_N_L (h : jH) (sh : Nat × Nat) (N : Nat) : jh_L (js_N h sh N) (jh_n h) = fun _ => 0 := j_row_same _ _ _
theorem j_N_R (h : jH) (sh : Nat × Nat) (N : Nat) : jh_R (js_N h sh N) (jh_n h) = fun _ => none := j_row_same _ _ _
theorem j_S_new {S0 : Nat} {H0 H H1 : Heap} {locs : List Loc} (hS : va_S (fun q => S0 ≤ q) H0 H locs) (z : H1.size = H.size + 1) (oq : ∀ q, q < H.size → H1[q]? = H[q]?) : va_S (fun q => S0 ≤ q) H0 H1 locs :=
  ⟨Nat.le_trans hS.1 (by omega), fun q h1 h2 => (oq q (Nat.lt_of_lt_of_le h1 hS.1)).trans (hS.2.1 q h1 h2), hS.2.2⟩
section
variable {l : Launch} {d : Nat} {E : jE} {own : String} {cc : ByteArray} {nL : Nat} {ret : Option FieldType} {ini : Bool} {pc : Nat} {ls : List (Option Value)} {st : List Value} {h : jH} {r : Option Value} {hf : jH}
theorem jr_new {idx ci N : Nat} {β : Type} {f : Nat → jH → Option β} {res : β} (F : jNW own idx ci N) (hdg : decode cc pc = .ok (.new idx, 3)) (Hq : j_b2 (jn_O ci N h) f = some res) (K : ∀ (a : Nat) (h1 : jH), f a h1 = some res → jGo l d E own cc nL ret ini (pc + 3) ls (.ref a :: st) h1 r hf) : jGo l d E own cc nL ret ini pc ls st h r hf := by
  obtain ⟨K0, K⟩ := K (jh_n h) (js_N h (ci, 0) N) Hq
  have k1 : jh_n h + 1 ≤ jh_n hf := K0.1
  have k2 : jh_s h + N ≤ jh_s hf := K0.2
  refine ⟨⟨by omega, by omega⟩, fun S0 D cA p e s m args below meth c h0 H locs lsA x0 C g0 hR hS hl => ?_⟩
  obtain ⟨Cn, T, ⟨hc, hin, hty, hnm, hdc⟩, hcl, hins, hini, hkd⟩ := F
  obtain ⟨hx, hb, -, -, -, hown, hts, hK, -⟩ := id C
  have hKn := hK.1 ci _ hc
  refine W.newcK hx hb hown (hts _ hcl) (hts _ hins) (hts _ hini) rfl hdg (show _ + 1 ≤ jh_n hf - jh_n h0 by omega) (show _ + N ≤ jh_s hf - jh_s h0 by omega) hKn.2.1 hR.1 (fun H1 kC hkC e1 z1 o1 => ?_)
  have z2 : H1.size = H.size + 1 := by rw [z1, hR.1]
  have o2 : ∀ q, q < H.size → H1[q]? = H[q]? := fun q hq => o1 q (by rw [hR.1] at hq; exact hq)
  have k := K S0 D cA p e s m args below meth c h0 H1 locs lsA x0 C ⟨Nat.le_trans g0.1 (Nat.le_succ _), Nat.le_trans g0.2 (Nat.le_add_right _ _)⟩ (j_rel_new hR z2 o2 ⟨fun c q hcq hq => ?_, fun t ht ho => ?_, fun ht => ?_, fun ht => ?_⟩) (j_S_new hS z2 o2) hl
  · have e3 : jh_n (js_N h (ci, 0) N) - jh_n h0 = jh_n h - jh_n h0 + 1 := by show jh_n h + 1 - _ = _; omega
    have e4 : jh_s (js_N h (ci, 0) N) - jh_s h0 = jh_s h - jh_s h0 + N := by show jh_s h + N - _ = _; omega
    rw [e3, e4] at k
    exact k
  · rw [j_N_sh] at hcq
    cases hcq
    cases hc.symm.trans hq
    refine (u_born (j_ty ci) hts hin hKn hkC e1 hty).to (fun j hj => ?_)
    unfold j_fs
    rw [j_N_I, j_N_R]
    exact j_fv_0 (hkd j hj)
  · rw [j_N_sh] at ht
    have := j_big hc
    simp only at ht
    omega
  · rw [j_N_sh] at ht
    have := j_big hc
    simp only at ht
    omega
  · rw [j_N_sh] at ht
    have := j_big hc
    simp only at ht
    omega
theorem jr_newI {i : Int32} {β : Type} {f : Nat → jH → Option β} {res : β} (hw : Cond.arrayClass .int ∈ jTB) (hdg : decode cc pc = .ok (.newarray .int, 2)) (Hq : j_b2 (jn_A 100 h i) f = some res) (K : ∀ (a : Nat) (h1 : jH), f a h1 = some res → jGo l d E own cc nL ret ini (pc + 2) ls (.ref a :: st) h1 r hf) : jGo l d E own cc nL ret ini pc ls (.int i :: st) h r hf := by
  obtain ⟨w, w2, h1, h2⟩ := j_b2_some Hq
  unfold jn_A at h1
  split at h1
  · rename_i hi
    cases h1
    obtain ⟨K0, K⟩ := K _ _ h2
    have k1 : jh_n h + 1 ≤ jh_n hf := K0.1
    have k2 : jh_s h + i.toNatClampNeg ≤ jh_s hf := K0.2
    refine ⟨⟨by omega, by omega⟩, fun S0 D cA p e s m args below meth c h0 H locs lsA x0 C g0 hR hS hl => ?_⟩
    obtain ⟨hx, hb, -, -, -, hown, hts, hK, -⟩ := id C
    have hbyt : i.toNatClampNeg * componentBytes (newarray.typeOf .int) ≤ 536870912 := by
      have : componentBytes (newarray.typeOf .int) ≤ 8 := by decide
      have := Nat.mul_le_mul hi.2 this
      omega
    refine va_newaK (atype := .int) hx hb (hts _ hw) rfl hdg rfl hi.1 rfl hbyt (show _ + 1 ≤ jh_n hf - jh_n h0 by omega) (show _ + i.toNatClampNeg ≤ jh_s hf - jh_s h0 by omega) hR.1 (fun H1 cX e1 z1 o1 hAr hNm => ?_)
    have cA2 : cX = cA 100 := Option.some.inj (hNm.symm.trans (hK.2 0 _ rfl).2)
    have z2 : H1.size = H.size + 1 := by rw [z1, hR.1]
    have o2 : ∀ q, q < H.size → H1[q]? = H[q]? := fun q hq => o1 q (by rw [hR.1] at hq; exact hq)
    have k := K S0 D cA p e s m args below meth c h0 H1 locs lsA x0 C ⟨Nat.le_trans g0.1 (Nat.le_succ _), Nat.le_trans g0.2 (Nat.le_add_right _ _)⟩ (j_rel_new hR z2 o2 ⟨fun c q hcq hq => ?_, fun t ht ho => ?_, fun ht => ?_, fun ht => ?_⟩) (j_S_new hS z2 o2) hl
    · have e3 : jh_n (js_N h (100, i.toNatClampNeg) i.toNatClampNeg) - jh_n h0 = jh_n h - jh_n h0 + 1 := by show jh_n h + 1 - _ = _; omega
      have e4 : jh_s (js_N h (100, i.toNatClampNeg) i.toNatClampNeg) - jh_s h0 = jh_s h - jh_s h0 + i.toNatClampNeg := by show jh_s h + i.toNatClampNeg - _ = _; omega
      rw [e3, e4] at k
      exact k
    · rw [j_N_sh] at hcq
      have := j_big hq
      have hc1 := congrArg Prod.fst hcq
      simp only at hc1
      omega
    · rw [j_N_sh] at ht ⊢
      simp only at ht
      subst ht
      rw [j_N_I, e1, cA2]
      rfl
    · rw [j_N_sh] at ht
      simp at ht
    · rw [j_N_sh] at ht
      simp at ht
  · cases h1
theorem jr_newB {i : Int32} {β : Type} {f : Nat → jH → Option β} {res : β} (hw : Cond.arrayClass .byte ∈ jTB) (hdg : decode cc pc = .ok (.newarray .byte, 2)) (Hq : j_b2 (jn_A 101 h i) f = some res) (K : ∀ (a : Nat) (h1 : jH), f a h1 = some res → jGo l d E own cc nL ret ini (pc + 2) ls (.ref a :: st) h1 r hf) : jGo l d E own cc nL ret ini pc ls (.int i :: st) h r hf := by
  obtain ⟨w, w2, h1, h2⟩ := j_b2_some Hq
  unfold jn_A at h1
  split at h1
  · rename_i hi
    cases h1
    obtain ⟨K0, K⟩ := K _ _ h2
    have k1 : jh_n h + 1 ≤ jh_n hf := K0.1
    have k2 : jh_s h + i.toNatClampNeg ≤ jh_s hf := K0.2
    refine ⟨⟨by omega, by omega⟩, fun S0 D cA p e s m args below meth c h0 H locs lsA x0 C g0 hR hS hl => ?_⟩
    obtain ⟨hx, hb, -, -, -, hown, hts, hK, -⟩ := id C
    have hbyt : i.toNatClampNeg * componentBytes (newarray.typeOf .byte) ≤ 536870912 := by
      have : componentBytes (newarray.typeOf .byte) ≤ 8 := by decide
      have := Nat.mul_le_mul hi.2 this
      omega
    refine va_newaK (atype := .byte) hx hb (hts _ hw) rfl hdg rfl hi.1 rfl hbyt (show _ + 1 ≤ jh_n hf - jh_n h0 by omega) (show _ + i.toNatClampNeg ≤ jh_s hf - jh_s h0 by omega) hR.1 (fun H1 cX e1 z1 o1 hAr hNm => ?_)
    have cA2 : cX = cA 101 := Option.some.inj (hNm.symm.trans (hK.2 1 _ rfl).2)
    have z2 : H1.size = H.size + 1 := by rw [z1, hR.1]
    have o2 : ∀ q, q < H.size → H1[q]? = H[q]? := fun q hq => o1 q (by rw [hR.1] at hq; exact hq)
    have k := K S0 D cA p e s m args below meth c h0 H1 locs lsA x0 C ⟨Nat.le_trans g0.1 (Nat.le_succ _), Nat.le_trans g0.2 (Nat.le_add_right _ _)⟩ (j_rel_new hR z2 o2 ⟨fun c q hcq hq => ?_, fun t ht ho => ?_, fun ht => ?_, fun ht => ?_⟩) (j_S_new hS z2 o2) hl
    · have e3 : jh_n (js_N h (101, i.toNatClampNeg) i.toNatClampNeg) - jh_n h0 = jh_n h - jh_n h0 + 1 := by show jh_n h + 1 - _ = _; omega
      have e4 : jh_s (js_N h (101, i.toNatClampNeg) i.toNatClampNeg) - jh_s h0 = jh_s h - jh_s h0 + i.toNatClampNeg := by show jh_s h + i.toNatClampNeg - _ = _; omega
      rw [e3, e4] at k
      exact k
    · rw [j_N_sh] at hcq
      have := j_big hq
      have hc1 := congrArg Prod.fst hcq
      simp only at hc1
      omega
    · rw [j_N_sh] at ht ⊢
      simp only at ht
      subst ht
      rw [j_N_I, e1, cA2]
      rfl
    · rw [j_N_sh] at ht
      simp at ht
    · rw [j_N_sh] at ht
      simp at ht
  · cases h1
theorem jr_newZ {i : Int32} {β : Type} {f : Nat → jH → Option β} {res : β} (hw : Cond.arrayClass .boolean ∈ jTB) (hdg : decode cc pc = .ok (.newarray .boolean, 2)) (Hq : j_b2 (jn_A 102 h i) f = some res) (K : ∀ (a : Nat) (h1 : jH), f a h1 = some res → jGo l d E own cc nL ret ini (pc + 2) ls (.ref a :: st) h1 r hf) : jGo l d E own cc nL ret ini pc ls (.int i :: st) h r hf := by
  obtain ⟨w, w2, h1, h2⟩ := j_b2_some Hq
  unfold jn_A at h1
  split at h1
  · rename_i hi
    cases h1
    obtain ⟨K0, K⟩ := K _ _ h2
    have k1 : jh_n h + 1 ≤ jh_n hf := K0.1
    have k2 : jh_s h + i.toNatClampNeg ≤ jh_s hf := K0.2
    refine ⟨⟨by omega, by omega⟩, fun S0 D cA p e s m args below meth c h0 H locs lsA x0 C g0 hR hS hl => ?_⟩
    obtain ⟨hx, hb, -, -, -, hown, hts, hK, -⟩ := id C
    have hbyt : i.toNatClampNeg * componentBytes (newarray.typeOf .boolean) ≤ 536870912 := by
      have : componentBytes (newarray.typeOf .boolean) ≤ 8 := by decide
      have := Nat.mul_le_mul hi.2 this
      omega
    refine va_newaK (atype := .boolean) hx hb (hts _ hw) rfl hdg rfl hi.1 rfl hbyt (show _ + 1 ≤ jh_n hf - jh_n h0 by omega) (show _ + i.toNatClampNeg ≤ jh_s hf - jh_s h0 by omega) hR.1 (fun H1 cX e1 z1 o1 hAr hNm => ?_)
    have cA2 : cX = cA 102 := Option.some.inj (hNm.symm.trans (hK.2 2 _ rfl).2)
    have z2 : H1.size = H.size + 1 := by rw [z1, hR.1]
    have o2 : ∀ q, q < H.size → H1[q]? = H[q]? := fun q hq => o1 q (by rw [hR.1] at hq; exact hq)
    have k := K S0 D cA p e s m args below meth c h0 H1 locs lsA x0 C ⟨Nat.le_trans g0.1 (Nat.le_succ _), Nat.le_trans g0.2 (Nat.le_add_right _ _)⟩ (j_rel_new hR z2 o2 ⟨fun c q hcq hq => ?_, fun t ht ho => ?_, fun ht => ?_, fun ht => ?_⟩) (j_S_new hS z2 o2) hl
    · have e3 : jh_n (js_N h (102, i.toNatClampNeg) i.toNatClampNeg) - jh_n h0 = jh_n h - jh_n h0 + 1 := by show jh_n h + 1 - _ = _; omega
      have e4 : jh_s (js_N h (102, i.toNatClampNeg) i.toNatClampNeg) - jh_s h0 = jh_s h - jh_s h0 + i.toNatClampNeg := by show jh_s h + i.toNatClampNeg - _ = _; omega
      rw [e3, e4] at k
      exact k
    · rw [j_N_sh] at hcq
      have := j_big hq
      have hc1 := congrArg Prod.fst hcq
      simp only at hc1
      omega
    · rw [j_N_sh] at ht ⊢
      simp only at ht
      subst ht
      rw [j_N_I, e1, cA2]
      rfl
    · rw [j_N_sh] at ht
      simp at ht
    · rw [j_N_sh] at ht
      simp at ht
  · cases h1
theorem jr_newL {i : Int32} {β : Type} {f : Nat → jH → Option β} {res : β} (hw : Cond.arrayClass .long ∈ jTB) (hdg : decode cc pc = .ok (.newarray .long, 2)) (Hq : j_b2 (jn_A 103 h i) f = some res) (K : ∀ (a : Nat) (h1 : jH), f a h1 = some res → jGo l d E own cc nL ret ini (pc + 2) ls (.ref a :: st) h1 r hf) : jGo l d E own cc nL ret ini pc ls (.int i :: st) h r hf := by
  obtain ⟨w, w2, h1, h2⟩ := j_b2_some Hq
  unfold jn_A at h1
  split at h1
  · rename_i hi
    cases h1
    obtain ⟨K0, K⟩ := K _ _ h2
    have k1 : jh_n h + 1 ≤ jh_n hf := K0.1
    have k2 : jh_s h + i.toNatClampNeg ≤ jh_s hf := K0.2
    refine ⟨⟨by omega, by omega⟩, fun S0 D cA p e s m args below meth c h0 H locs lsA x0 C g0 hR hS hl => ?_⟩
    obtain ⟨hx, hb, -, -, -, hown, hts, hK, -⟩ := id C
    have hbyt : i.toNatClampNeg * componentBytes (newarray.typeOf .long) ≤ 536870912 := by
      have : componentBytes (newarray.typeOf .long) ≤ 8 := by decide
      have := Nat.mul_le_mul hi.2 this
      omega
    refine va_newaK (atype := .long) hx hb (hts _ hw) rfl hdg rfl hi.1 rfl hbyt (show _ + 1 ≤ jh_n hf - jh_n h0 by omega) (show _ + i.toNatClampNeg ≤ jh_s hf - jh_s h0 by omega) hR.1 (fun H1 cX e1 z1 o1 hAr hNm => ?_)
    have cA2 : cX = cA 103 := Option.some.inj (hNm.symm.trans (hK.2 3 _ rfl).2)
    have z2 : H1.size = H.size + 1 := by rw [z1, hR.1]
    have o2 : ∀ q, q < H.size → H1[q]? = H[q]? := fun q hq => o1 q (by rw [hR.1] at hq; exact hq)
    have k := K S0 D cA p e s m args below meth c h0 H1 locs lsA x0 C ⟨Nat.le_trans g0.1 (Nat.le_succ _), Nat.le_trans g0.2 (Nat.le_add_right _ _)⟩ (j_rel_new hR z2 o2 ⟨fun c q hcq hq => ?_, fun t ht ho => ?_, fun ht => ?_, fun ht => ?_⟩) (j_S_new hS z2 o2) hl
    · have e3 : jh_n (js_N h (103, i.toNatClampNeg) i.toNatClampNeg) - jh_n h0 = jh_n h - jh_n h0 + 1 := by show jh_n h + 1 - _ = _; omega
      have e4 : jh_s (js_N h (103, i.toNatClampNeg) i.toNatClampNeg) - jh_s h0 = jh_s h - jh_s h0 + i.toNatClampNeg := by show jh_s h + i.toNatClampNeg - _ = _; omega
      rw [e3, e4] at k
      exact k
    · rw [j_N_sh] at hcq
      have := j_big hq
      have hc1 := congrArg Prod.fst hcq
      simp only at hc1
      omega
    · rw [j_N_sh] at ht
      simp only at ht
      omega
    · rw [j_N_sh, j_N_L, e1, cA2]
      rfl
    · rw [j_N_sh] at ht
      simp at ht
  · cases h1
theorem jr_newR {idx : Nat} {i : Int32} {β : Type} {f : Nat → jH → Option β} {res : β} (hw : Cond.arrayOver (.object RX7) ∈ jTB) (hcl : Cond.classLink own idx RX7 ∈ jTB) (hdg : decode cc pc = .ok (.anewarray idx, 3)) (Hq : j_b2 (jn_A 104 h i) f = some res) (K : ∀ (a : Nat) (h1 : jH), f a h1 = some res → jGo l d E own cc nL ret ini (pc + 3) ls (.ref a :: st) h1 r hf) : jGo l d E own cc nL ret ini pc ls (.int i :: st) h r hf := by
  obtain ⟨w, w2, h1, h2⟩ := j_b2_some Hq
  unfold jn_A at h1
  split at h1
  · rename_i hi
    cases h1
    obtain ⟨K0, K⟩ := K _ _ h2
    have k1 : jh_n h + 1 ≤ jh_n hf := K0.1
    have k2 : jh_s h + i.toNatClampNeg ≤ jh_s hf := K0.2
    refine ⟨⟨by omega, by omega⟩, fun S0 D cA p e s m args below meth c h0 H locs lsA x0 C g0 hR hS hl => ?_⟩
    obtain ⟨hx, hb, -, -, -, hown, hts, hK, -⟩ := id C
    have hbyt : i.toNatClampNeg * 4 ≤ 536870912 := by omega
    refine W.anew hx hb hown (hts _ hcl) (hts _ hw) rfl hdg rfl hi.1 hbyt (show _ + 1 ≤ jh_n hf - jh_n h0 by omega) (show _ + i.toNatClampNeg ≤ jh_s hf - jh_s h0 by omega) (fun cX kA comp f1 f2 f3 f4 => ?_)
    have cA2 : cX = cA 104 := by
      obtain ⟨kA', comp', -, -, -, k4⟩ := (hK.2 4 _ rfl).2
      exact Option.some.inj (f1.symm.trans k4)
    generalize hH1 : H.push ({ cls := cX, slots := Array.replicate i.toNatClampNeg .null, vm := .none } : Cell) = H1
    have z2 : H1.size = H.size + 1 := by rw [← hH1, Array.size_push]
    have e1 : H1[H.size]? = some (arrV cX i.toNatClampNeg (fun _ => .null)) := by rw [← hH1, Array.getElem?_push_size, ← arrV_new]
    have o2 : ∀ q : Nat, q < H.size → H1[q]? = H[q]? := fun q hq => by rw [← hH1, Array.getElem?_push, if_neg (Nat.ne_of_lt hq)]
    rw [hR.1] at e1
    have k := K S0 D cA p e s m args below meth c h0 H1 locs lsA x0 C ⟨Nat.le_trans g0.1 (Nat.le_succ _), Nat.le_trans g0.2 (Nat.le_add_right _ _)⟩ (j_rel_new hR z2 o2 ⟨fun c q hcq hq => ?_, fun t ht ho => ?_, fun ht => ?_, fun ht => ?_⟩) (j_S_new hS z2 o2) hl
    · have e3 : jh_n (js_N h (104, i.toNatClampNeg) i.toNatClampNeg) - jh_n h0 = jh_n h - jh_n h0 + 1 := by show jh_n h + 1 - _ = _; omega
      have e4 : jh_s (js_N h (104, i.toNatClampNeg) i.toNatClampNeg) - jh_s h0 = jh_s h - jh_s h0 + i.toNatClampNeg := by show jh_s h + i.toNatClampNeg - _ = _; omega
      rw [e3, e4] at k
      rw [hR.1]
      exact k
    · rw [j_N_sh] at hcq
      have := j_big hq
      have hc1 := congrArg Prod.fst hcq
      simp only at hc1
      omega
    · rw [j_N_sh] at ht
      simp only at ht
      omega
    · rw [j_N_sh] at ht
      simp at ht
    · rw [j_N_sh, j_N_R, e1, cA2]
      rfl
  · cases h1
theorem jr_objInit {idx a : Nat} (hl0 : Cond.methodLink own idx Lib.objectInit ∈ jTB) (hi0 : Cond.instanceMethod Lib.objectInit ∈ jTB) (hc0 : Cond.code Lib.objectInit ⟨#[0xb1]⟩ 1 none ∈ jTB) (hdg : decode cc pc = .ok (.invokespecial idx, 3)) (hst : (st.map fun v => v.category).sum ≤ 8) (K : jGo l (d + 1) E own cc nL ret ini (pc + 3) ls st h r hf) : jGo l (d + 1) E own cc nL ret ini pc ls (.ref a :: st) h r hf := by
  refine ⟨K.1, fun S0 D cA p e s m args below meth c h0 H locs lsA x0 C g0 hR hS hl => ?_⟩
  obtain ⟨hx, hb, hml, -, -, hown, hts, hK, -⟩ := id C
  have hcat : ((st.map (j_v S0)).map fun v => v.category) = (st.map fun v => v.category) := by
    rw [List.map_map]
    apply List.map_congr_left
    intro v _
    exact j_v_cat S0 v
  refine W.objInit hx hb hown (hts _ hl0) (hts _ hi0) (hts _ hc0) rfl (by rw [hml]; exact hl.1) rfl hdg (show 1 ≤ d + 1 by omega) ?_ (K.2 S0 D cA p e s m args below meth c h0 H locs lsA x0 C g0 hR hS hl)
  show 2 * 0 + ((st.map (j_v S0)).map fun v => v.category).sum + 12 ≤ 100 * (d + 1)
  rw [hcat]
  omega
theorem jr_copy {idx a0 a : Nat} {sp dp n : Int32} {β : Type} {f : jH → Option β} {res : β} (hl0 : Cond.methodLink own idx arraycopyName ∈ jTB) (hn0 : Cond.native arraycopyName ∈ jTB) (hs0 : Cond.static arraycopyName ∈ jTB) (hi0 : Cond.initialized "java/lang/System" ∈ jTB) (hdg : decode cc pc = .ok (.invokestatic idx, 3)) (hst : (st.map fun v => v.category).sum ≤ 8)
    (Hq : (j_copy h a0 sp a dp n).bind f = some res) (K : ∀ h1 : jH, f h1 = some res → jGo l (d + 1) E own cc nL ret ini (pc + 3) ls st h1 r hf) : jGo l (d + 1) E own cc nL ret ini pc ls (.int n :: .int dp :: .ref a :: .int sp :: .ref a0 :: st) h r hf := by
  obtain ⟨w, h1, h2⟩ := Option.bind_eq_some_iff.mp Hq
  unfold j_copy at h1
  split at h1
  · rename_i hi
    cases h1
    have K := K _ h2
    refine ⟨K.1, fun S0 D cA p e s m args below meth c h0 H locs lsA x0 C g0 hR hS hl => ?_⟩
    obtain ⟨hx, hb, hml, -, -, hown, hts, hK, -⟩ := id C
    obtain ⟨t0, t1, i1, i2, i3, i4, i5⟩ := hi
    have hcat : ((st.map (j_v S0)).map fun v => v.category) = (st.map fun v => v.category) := by
      rw [List.map_map]
      apply List.map_congr_left
      intro v _
      exact j_v_cat S0 v
    have nn : ∀ z : Int32, ¬ z < 0 → z.toInt = (z.toNatClampNeg : Int) := by
      intro z hz
      have hz0 : (0 : Int) ≤ z.toInt := by
        have := Int32.not_lt.mp hz
        simpa using Int32.le_iff_toInt_le.mp this
      show z.toInt = ((z.toInt.toNat : Nat) : Int)
      omega
    intro T hT X
    have hc0 : H[S0 + a0]? = some (arrV (cA 100) (jh_sh h a0).2 (fun j => .int (jh_I h a0 j))) := (hR.2 a0).2.1 100 t0 (Or.inl rfl)
    have hc1 : H[S0 + a]? = some (arrV (cA 100) (jh_sh h a).2 (fun j => .int (jh_I h a j))) := (hR.2 a).2.1 100 t1 (Or.inl rfl)
    obtain ⟨-, k0, hk0, cm0, hkk0⟩ := (hK.2 0 _ rfl).1 (jh_sh h a0).2 (fun j => .int (jh_I h a0 j))
    obtain ⟨-, k1, hk1, cm1, hkk1⟩ := (hK.2 0 _ rfl).1 (jh_sh h a).2 (fun j => .int (jh_I h a j))
    obtain ⟨vm', X', step⟩ := X.arraycopy hx hown (hts _ hl0) (hts _ hn0) (hts _ hs0) (hts _ hi0) (src := S0 + a0) (dst := S0 + a) (cs := arrV (cA 100) (jh_sh h a0).2 (fun j => .int (jh_I h a0 j))) (cd := arrV (cA 100) (jh_sh h a).2 (fun j => .int (jh_I h a j))) (srcPos := sp) (destPos := dp) (n := n) (by rw [hT]; exact hc0) (by rw [hT]; exact hc1)
      (fun _ h => by cases h) (fun _ h => by cases h) (fun h => by cases h) (fun h => by cases h) hk0 hk1 hkk0 hkk1 (by simp [show refKind FieldType.int = false from rfl]) i1 i2 i3
      (by rw [nn sp i1, nn n i3, arrV_size]; omega)
      (by rw [nn dp i2, nn n i3, arrV_size]; omega)
      (fun vm₁ _ i hi => by
        have e : (arrV (cA 100) (jh_sh h a0).2 (fun j => .int (jh_I h a0 j))).slots.getD (sp.toNatClampNeg + i) .null = .int (jh_I h a0 (sp.toNatClampNeg + i)) := by
          rw [Array.getD_eq_getD_getElem?, arrV_read _ _ (by omega)]
          rfl
        refine ⟨?_, ?_⟩
        · rw [e]
          rfl
        · rw [e]
          exact trivial)
      (g := F0 m pc lsA (.int n :: .int dp :: .ref (S0 + a) :: .int sp :: .ref (S0 + a0) :: st.map (j_v S0))) rfl (by rw [hml]; exact hl.1) (rest := st.map (j_v S0)) rfl (by rw [hb]; exact hdg) (show 1 ≤ d + 1 by omega) (by
        show 2 * 0 + ((st.map (j_v S0)).map fun v => v.category).sum + _ ≤ 100 * (d + 1)
        rw [hcat]
        have : nativeFrameWords "java/lang/System" "arraycopy" 5 + 11 ≤ 92 := by decide +kernel
        omega)
    have e1 : copied (arrV (cA 100) (jh_sh h a0).2 (fun j => .int (jh_I h a0 j))) (arrV (cA 100) (jh_sh h a).2 (fun j => .int (jh_I h a j))) sp dp n = arrV (cA 100) (jh_sh h a).2 (fun j => .int (va_cpy (jh_I h a0) (jh_I h a) sp.toNatClampNeg dp.toNatClampNeg n.toNatClampNeg j)) := va_copied (fun z => .int z) (cA 100) (cA 100) (jh_I h a0) (jh_I h a) i4
    rw [e1] at X' step
    generalize hcn : arrV (cA 100) (jh_sh h a).2 (fun j => .int (va_cpy (jh_I h a0) (jh_I h a) sp.toNatClampNeg dp.toNatClampNeg n.toNatClampNeg j)) = cn at X' step
    have hlt : S0 + a < H.size := (Array.getElem?_eq_some_iff.mp hc1).1
    have hheap : ((T.setVm vm').setCell (S0 + a) cn).heap = H.setIfInBounds (S0 + a) cn := by rw [← hT]; rfl
    have oq : ∀ q : Nat, q ≠ S0 + a → (H.setIfInBounds (S0 + a) cn)[q]? = H[q]? := fun q hq => by simp [Array.getElem?_setIfInBounds, Ne.symm hq]
    have es : (H.setIfInBounds (S0 + a) cn)[S0 + a]? = some cn := by simp [Array.getElem?_setIfInBounds, hlt]
    have ez : (H.setIfInBounds (S0 + a) cn).size = H.size := by simp
    have hR' : jRel S0 D cA (js_C h a (va_cpy (jh_I h a0) (jh_I h a) sp.toNatClampNeg dp.toNatClampNeg n.toNatClampNeg)) (H.setIfInBounds (S0 + a) cn) := by
      refine j_rel_set (a := a) hR rfl rfl (fun b hb => ⟨j_row_ne hb, rfl, rfl⟩) ez oq ⟨fun c q hc hq => ?_, fun t ht ho => ?_, fun ht => ?_, fun ht => ?_⟩
      · have hc2 : jh_sh h a = (c, 0) := hc
        have := j_big hq
        rw [hc2] at t1
        simp only at t1
        omega
      · have ht2 : (jh_sh h a).1 = t := ht
        rw [t1] at ht2
        subst ht2
        rw [es, ← hcn]
        show some (arrV _ _ _) = some (arrV _ (jh_sh h a).2 (fun j => .int (j_row (jh_I h) a (va_cpy (jh_I h a0) (jh_I h a) sp.toNatClampNeg dp.toNatClampNeg n.toNatClampNeg) a j)))
        rw [j_row_same]
      · have ht2 : (jh_sh h a).1 = 103 := ht
        rw [t1] at ht2
        cases ht2
      · have ht2 : (jh_sh h a).1 = 104 := ht
        rw [t1] at ht2
        cases ht2
    have hS' : ∀ L : List Loc, (∀ q ∈ L, q.base = S0 + a) → va_S (fun q => S0 ≤ q) s.heap (H.setIfInBounds (S0 + a) cn) (locs ++ L) := by
      intro L hL
      refine ⟨by rw [ez]; exact hS.1, fun q g1 g2 => ?_, fun q hq => ?_⟩
      · rw [oq q (fun e => g2 (by rw [e]; exact Nat.le_add_right S0 a))]
        exact hS.2.1 q g1 g2
      · rcases List.mem_append.mp hq with z | z
        · exact hS.2.2 q z
        · show S0 ≤ q.base
          rw [hL q z]
          exact Nat.le_add_right S0 a
    obtain ⟨t, b1, b2⟩ := K.2 S0 D cA p e s m args below meth c h0 _ _ lsA x0 C g0 hR' (hS' _ (fun q hq => by
      obtain ⟨z, -, hz⟩ := List.mem_map.mp hq
      rw [← hz])) hl _ hheap X'
    exact ⟨t, step t b1, b2⟩
  · cases h1
theorem jr_iret {v R : Int32}  (hret : ret = some .int) (hdg : decode cc pc = .ok (.ireturn, 1)) (Hq : some (v, h) = some (R, hf)) : jGo l d E own cc nL ret ini pc ls ([.int v]) h (some (.int R)) hf := by
  cases Hq
  refine ⟨⟨Nat.le_refl _, Nat.le_refl _⟩, fun S0 D cA p e s m args below meth c h0 H locs lsA x0 C g0 hR hS hl => ?_⟩
  exact W.iret C.1 C.2.1 (by rw [C.2.2.2.1, hret])  (fun t ht hW => ⟨rfl, by rw [ht]; exact hR, fun q hq => by rw [ht]; exact hS.2.1 q (Nat.lt_of_lt_of_le hq C.2.2.2.2.2.2.2.2.1) (Nat.not_le.mpr hq)⟩) hS.2.2 hdg (hlocks := C.2.2.2.2.1)
theorem jr_lret {v R : Int64}  (hret : ret = some .long) (hdg : decode cc pc = .ok (.lreturn, 1)) (Hq : some (v, h) = some (R, hf)) : jGo l d E own cc nL ret ini pc ls ([.long v]) h (some (.long R)) hf := by
  cases Hq
  refine ⟨⟨Nat.le_refl _, Nat.le_refl _⟩, fun S0 D cA p e s m args below meth c h0 H locs lsA x0 C g0 hR hS hl => ?_⟩
  exact W.lret C.1 C.2.1 (by rw [C.2.2.2.1, hret])  (fun t ht hW => ⟨rfl, by rw [ht]; exact hR, fun q hq => by rw [ht]; exact hS.2.1 q (Nat.lt_of_lt_of_le hq C.2.2.2.2.2.2.2.2.1) (Nat.not_le.mpr hq)⟩) hS.2.2 hdg (hlocks := C.2.2.2.2.1)
theorem jr_zret {v R : Int32} (hz : narrow .boolean (.int v) = .int v) (hret : ret = some .boolean) (hdg : decode cc pc = .ok (.ireturn, 1)) (Hq : some (v, h) = some (R, hf)) : jGo l d E own cc nL ret ini pc ls ([.int v]) h (some (.int R)) hf := by
  cases Hq
  refine ⟨⟨Nat.le_refl _, Nat.le_refl _⟩, fun S0 D cA p e s m args below meth c h0 H locs lsA x0 C g0 hR hS hl => ?_⟩
  exact W.zret C.1 C.2.1 (by rw [C.2.2.2.1, hret]) hz (fun t ht hW => ⟨rfl, by rw [ht]; exact hR, fun q hq => by rw [ht]; exact hS.2.1 q (Nat.lt_of_lt_of_le hq C.2.2.2.2.2.2.2.2.1) (Nat.not_le.mpr hq)⟩) hS.2.2 hdg (hlocks := C.2.2.2.2.1)
theorem jr_vret (hret : ret = none) (hdg : decode cc pc = .ok (.return_, 1)) (Hq : some h = some hf) : jGo l d E own cc nL ret ini pc ls ([]) h none hf := by
  cases Hq
  refine ⟨⟨Nat.le_refl _, Nat.le_refl _⟩, fun S0 D cA p e s m args below meth c h0 H locs lsA x0 C g0 hR hS hl => ?_⟩
  exact W.vret C.1 C.2.1 (by rw [C.2.2.2.1, hret]) (fun t ht hW => ⟨rfl, by rw [ht]; exact hR, fun q hq => by rw [ht]; exact hS.2.1 q (Nat.lt_of_lt_of_le hq C.2.2.2.2.2.2.2.2.1) (Nat.not_le.mpr hq)⟩) hS.2.2 hdg (hlocks := C.2.2.2.2.1)
/-- behind a call: the road goes on over what the callee left -/
theorem j_after {S0 : Nat} {D : va_G} {cA : Nat → ClassId} {p : Program} {e : Env} {s : State} {m : MethodId} {args : Array Value} {below : List Frame} {meth : Method} {c : Code} {h0 : jH} {H : Heap} {locs : List Loc} {lsA : Array Slot} {x0 : List (Nat × Value)} {h' : jH} {rv : Option Value} {aa : Array Value} {stk : List Value}
    (C : jC E S0 D cA own cc nL ret ini p s m args meth c x0) (g0 : jh_n h0 ≤ jh_n h ∧ jh_s h0 ≤ jh_s h) (hm : jh_n h ≤ jh_n h' ∧ jh_s h ≤ jh_s h') (hR : jRel S0 D cA h H) (hS : va_S (fun q => S0 ≤ q) s.heap H locs) (hl : lv_has lsA nL (x0 ++ j_l S0 0 ls))
    (hr : va_Run p l e (jRoom (d + 1) (jh_n hf - jh_n h0) (jh_s hf - jh_s h0)) s m args below meth c H locs (jh_n h - jh_n h0) (jh_s h - jh_s h0) (jh_n h' - jh_n h) (jh_s h' - jh_s h) (F0 m pc lsA stk) (st.map (j_v S0)) (jQ S0 D cA (rv.map (j_v S0)) h' aa) (fun q => S0 ≤ q))
    (K : jGo l (d + 1) E own cc nL ret ini (pc + 3) ls (rv.toList ++ st) h' r hf) :
    W p l e (jRoom (d + 1) (jh_n hf - jh_n h0) (jh_s hf - jh_s h0)) s m args below meth c H locs (jh_n h - jh_n h0) (jh_s h - jh_s h0) (jF S0 D cA below r hf args s (jh_n hf - jh_n h0) (jh_s hf - jh_s h0)) (F0 m pc lsA stk) := by
  intro T hT X
  obtain ⟨v, st₀, t, T', L, e0, X', hL, e1, e2, ⟨hv, hR', hlow⟩, goes⟩ := hr T hT X
  cases hv
  have hsz : H.size ≤ T'.heap.size := by
    rw [e1, hR.1, hR'.1]
    omega
  have hS' : va_S (fun q => S0 ≤ q) s.heap t.heap (locs ++ L) := by
    refine ⟨by rw [← e1]; exact Nat.le_trans hS.1 hsz, fun q h1 h2 => ?_, fun q hq => ?_⟩
    · rw [hlow q (Nat.not_le.mp h2), e0]
      exact hS.2.1 q h1 h2
    · rcases List.mem_append.mp hq with z | z
      · exact hS.2.2 q z
      · exact hL q z
  have k := K.2 S0 D cA p e s m args below meth c h0 t.heap (locs ++ L) lsA x0 C ⟨by omega, by omega⟩ hR' hS' hl
  have c1 : jh_n h' - jh_n h0 = jh_n h - jh_n h0 + (jh_n h' - jh_n h) := by omega
  have c2 : jh_s h' - jh_s h0 = jh_s h - jh_s h0 + (jh_s h' - jh_s h) := by omega
  rw [c1, c2] at k
  obtain ⟨t2, a1, b1⟩ := k T' e1 X'
  refine ⟨t2, goes t2 ?_, b1⟩
  have hst : (Option.map (j_v S0) rv).toList ++ List.map (j_v S0) st = List.map (j_v S0) (rv.toList ++ st) := by
    cases rv <;> simp
  show Steps p.tables e below (T'.setTop (F0 m (pc + 3) lsA ((Option.map (j_v S0) rv).toList ++ List.map (j_v S0) st))) t2
  rw [hst]
  exact a1
theorem j_cats (S0 : Nat) (st : List Value) : ((st.map (j_v S0)).map fun v => v.category) = (st.map fun v => v.category) := by
  rw [List.map_map]
  apply List.map_congr_left
  intro v _
  exact j_v_cat S0 v
/-- a callee's own facts -/
def jMy (y : MethodName) (cc : ByteArray) (nL : Nat) (ret : Option FieldType) (n : Nat) : Prop := Cond.code y cc nL ret ∈ jTB ∧ Cond.initialized y.cls ∈ jTB ∧ (y.cls ≠ "java/lang/invoke/MethodHandle" ∧ y.cls ≠ "java/lang/invoke/VarHandle") ∧ (parseMethodDescriptor y.desc).map (fun d => d.parameters.length) = some n ∧ nL ≤ 40
def jMyV (y : MethodName) : Prop := Cond.instanceMethod y ∈ jTB ∧ Cond.selects y.cls y y ∈ jTB
theorem j_blind {S0 : Nat} {D : va_G} {cA : Nat → ClassId} {av : List Value} : FrameBlind (jPc S0 D cA h av) := by
  intro a U g mk q
  obtain ⟨q0, q1, q2, q3⟩ := q
  exact ⟨q0, q1, va_K.moved (u := U) (U := U.calling g mk a) (Vm.Alike.refl U.vm) q2, q3⟩
theorem j_room {d mc ms mc2 ms2 nLc : Nat} (h : nLc ≤ 40) : (jRoom d mc ms).frames + 1 ≤ (jRoom (d + 1) mc2 ms2).frames ∧ 8 + (nLc + 11) + (jRoom d mc ms).locals ≤ (jRoom (d + 1) mc2 ms2).locals := by
  constructor
  · exact Nat.le_refl _
  · show 8 + (nLc + 11) + 100 * d ≤ 100 * (d + 1)
    omega
theorem jr_callV {idx : Nat} {y : MethodName} {ccc : ByteArray} {nLc n ci : Nat} {retc : Option FieldType} {a : Nat} {stk : List Value} {rv : Option Value} {h' : jH} (As : List Value) (M : jMy y ccc nLc retc n) (MV : jMyV y) (hlk : Cond.methodLink own idx y ∈ jTB) (hdg : decode cc pc = .ok (.invokevirtual idx, 3)) (hn : As.length = n) (hstk : stk = As.reverse ++ .ref a :: st) (hst : (st.map fun v => v.category).sum ≤ 8)
    (hci : (vwCl[ci]?).map (fun q => q.1) = some y.cls) (hM : jh_sh h a = (ci, 0) ∧ jMet l d y ccc nLc retc (.ref a :: As) h rv h') (K : jGo l (d + 1) E own cc nL ret ini (pc + 3) ls (rv.toList ++ st) h' r hf) : jGo l (d + 1) E own cc nL ret ini pc ls stk h r hf := by
  obtain ⟨hsh, hm, hM⟩ := hM
  refine ⟨⟨Nat.le_trans hm.1 K.1.1, Nat.le_trans hm.2 K.1.2⟩, fun S0 D cA p e s m args below meth c h0 H locs lsA x0 C g0 hR hS hl => ?_⟩
  obtain ⟨hx, hb, hml, -, -, hown, hts, hK, hS0, -, -⟩ := id C
  obtain ⟨q, hq, hqc⟩ := Option.map_eq_some_iff.mp hci
  obtain ⟨cell, q1, q2, q3, -⟩ := (hR.2 a).1 ci q hsh hq
  have hfc : s.vm.findClass y.cls = some cell.cls := by rw [← hqc, q2]; exact (hK.1 ci q hq).2.1
  refine j_after (aa := (Value.ref (S0 + a) :: As.map (j_v S0)).toArray) C g0 hm hR hS hl ?_ K
  subst hstk
  refine va_runV (As := As.map (j_v S0)) (b := S0 + a) (C := y.cls) (n := n) ⟨hx, hb, hml, hown, hts⟩ (hM S0 D cA) ⟨⟨rfl, rfl, (j_room M.2.2.2.2).1, (j_room M.2.2.2.2).2, j_tb_warm hts M.1, List.mem_cons_self, hts _ M.1, hts _ M.2.1, M.2.2.1, fun sig hsg => ?_, hts _ hlk⟩, hts _ MV.1, hts _ MV.2⟩ ⟨j_blind, ⟨cell, q1, by rw [q3]; rfl, hfc⟩, fun U hU hW => ⟨rfl, by rw [hU]; exact Nat.le_trans hS0 hS.1, va_K.moved hW.alike hK, by rw [hU]; exact hR⟩⟩ rfl (by rw [List.length_map]; exact hn) hl.1 ?_ ?_ hdg ⟨show _ ≤ jh_n hf - jh_n h0 from by have := K.1.1; omega, show _ ≤ jh_s hf - jh_s h0 from by have := K.1.2; omega⟩
  · have := M.2.2.2.1
    rw [hsg] at this
    exact (Option.some.inj this).symm
  · show List.map (j_v S0) (As.reverse ++ .ref a :: st) = _
    rw [List.map_append, List.map_reverse]
    rfl
  · show 2 * 0 + _ ≤ 8
    rw [j_cats]
    omega
theorem jr_callS {idx : Nat} {y : MethodName} {ccc : ByteArray} {nLc n : Nat} {retc : Option FieldType} {stk : List Value} {rv : Option Value} {h' : jH} (As : List Value) (M : jMy y ccc nLc retc n) (MS : Cond.static y ∈ jTB) (hlk : Cond.methodLink own idx y ∈ jTB) (hdg : decode cc pc = .ok (.invokestatic idx, 3)) (hn : As.length = n) (hstk : stk = As.reverse ++ st) (hst : (st.map fun v => v.category).sum ≤ 8)
    (hM : jMet l d y ccc nLc retc As h rv h') (K : jGo l (d + 1) E own cc nL ret ini (pc + 3) ls (rv.toList ++ st) h' r hf) : jGo l (d + 1) E own cc nL ret ini pc ls stk h r hf := by
  obtain ⟨hm, hM⟩ := hM
  refine ⟨⟨Nat.le_trans hm.1 K.1.1, Nat.le_trans hm.2 K.1.2⟩, fun S0 D cA p e s m args below meth c h0 H locs lsA x0 C g0 hR hS hl => ?_⟩
  obtain ⟨hx, hb, hml, -, -, hown, hts, hK, hS0, -, -⟩ := id C
  refine j_after (aa := (As.map (j_v S0)).toArray) C g0 hm hR hS hl ?_ K
  subst hstk
  refine va_runS (As := As.map (j_v S0)) (n := n) ⟨hx, hb, hml, hown, hts⟩ (hM S0 D cA) ⟨⟨rfl, rfl, (j_room M.2.2.2.2).1, (j_room M.2.2.2.2).2, j_tb_warm hts M.1, List.mem_cons_self, hts _ M.1, hts _ M.2.1, M.2.2.1, fun sig hsg => ?_, hts _ hlk⟩, hts _ MS⟩ ⟨j_blind, fun U hU hW => ⟨rfl, by rw [hU]; exact Nat.le_trans hS0 hS.1, va_K.moved hW.alike hK, by rw [hU]; exact hR⟩⟩ rfl (by rw [List.length_map]; exact hn) hl.1 ?_ ?_ hdg ⟨show _ ≤ jh_n hf - jh_n h0 from by have := K.1.1; omega, show _ ≤ jh_s hf - jh_s h0 from by have := K.1.2; omega⟩
  · have := M.2.2.2.1
    rw [hsg] at this
    exact (Option.some.inj this).symm
  · show List.map (j_v S0) (As.reverse ++ st) = _
    rw [List.map_append, List.map_reverse]
  · show 2 * 0 + _ ≤ 8
    rw [j_cats]
    omega
theorem jr_callI {idx : Nat} {y : MethodName} {ccc : ByteArray} {nLc n : Nat} {a : Nat} {stk : List Value} {h' : jH} (As : List Value) (M : jMy y ccc nLc none n) (MI : y.name = "<init>" ∧ Cond.instanceMethod y ∈ jTB) (hlk : Cond.methodLink own idx y ∈ jTB) (hdg : decode cc pc = .ok (.invokespecial idx, 3)) (hn : As.length = n) (hstk : stk = As.reverse ++ .ref a :: st) (hst : (st.map fun v => v.category).sum ≤ 8)
    (hM : jMet l d y ccc nLc none (.ref a :: As) h none h') (K : jGo l (d + 1) E own cc nL ret ini (pc + 3) ls st h' r hf) : jGo l (d + 1) E own cc nL ret ini pc ls stk h r hf := by
  obtain ⟨hm, hM⟩ := hM
  refine ⟨⟨Nat.le_trans hm.1 K.1.1, Nat.le_trans hm.2 K.1.2⟩, fun S0 D cA p e s m args below meth c h0 H locs lsA x0 C g0 hR hS hl => ?_⟩
  obtain ⟨hx, hb, hml, -, -, hown, hts, hK, hS0, -, -⟩ := id C
  refine j_after (rv := none) (aa := (Value.ref (S0 + a) :: As.map (j_v S0)).toArray) C g0 hm hR hS hl ?_ K
  subst hstk
  refine va_runI (As := As.map (j_v S0)) (b := S0 + a) (n := n) ⟨hx, hb, hml, hown, hts⟩ (hM S0 D cA) ⟨⟨rfl, rfl, (j_room M.2.2.2.2).1, (j_room M.2.2.2.2).2, j_tb_warm hts M.1, List.mem_cons_self, hts _ M.1, hts _ M.2.1, M.2.2.1, fun sig hsg => ?_, hts _ hlk⟩, MI.1, hts _ MI.2⟩ ⟨j_blind, fun U hU hW => ⟨rfl, by rw [hU]; exact Nat.le_trans hS0 hS.1, va_K.moved hW.alike hK, by rw [hU]; exact hR⟩⟩ rfl (by rw [List.length_map]; exact hn) hl.1 ?_ ?_ hdg ⟨show _ ≤ jh_n hf - jh_n h0 from by have := K.1.1; omega, show _ ≤ jh_s hf - jh_s h0 from by have := K.1.2; omega⟩
  · have := M.2.2.2.1
    rw [hsg] at this
    exact (Option.some.inj this).symm
  · show List.map (j_v S0) (As.reverse ++ .ref a :: st) = _
    rw [List.map_append, List.map_reverse]
    rfl
  · show 2 * 0 + _ ≤ 8
    rw [j_cats]
    omega
theorem jr_callN {idx : Nat} {y : MethodName} {ccc : ByteArray} {nLc n : Nat} {host : String} {a : Nat} {stk : List Value} {h' : jH} (As : List Value) (M : jMy y ccc nLc none n) (MI : y.name = "<init>" ∧ Cond.instanceMethod y ∈ jTB) (hlk : Cond.methodLinkNest own idx y host ∈ jTB) (hdg : decode cc pc = .ok (.invokespecial idx, 3)) (hn : As.length = n) (hstk : stk = As.reverse ++ .ref a :: st) (hst : (st.map fun v => v.category).sum ≤ 8)
    (hM : jMet l d y ccc nLc none (.ref a :: As) h none h') (K : jGo l (d + 1) E own cc nL ret ini (pc + 3) ls st h' r hf) : jGo l (d + 1) E own cc nL ret ini pc ls stk h r hf := by
  obtain ⟨hm, hM⟩ := hM
  refine ⟨⟨Nat.le_trans hm.1 K.1.1, Nat.le_trans hm.2 K.1.2⟩, fun S0 D cA p e s m args below meth c h0 H locs lsA x0 C g0 hR hS hl => ?_⟩
  obtain ⟨hx, hb, hml, -, -, hown, hts, hK, hS0, -, -⟩ := id C
  refine j_after (rv := none) (aa := (Value.ref (S0 + a) :: As.map (j_v S0)).toArray) C g0 hm hR hS hl ?_ K
  subst hstk
  refine va_runIN (As := As.map (j_v S0)) (b := S0 + a) (n := n) (host := host) ⟨hx, hb, hml, hown, hts⟩ (hM S0 D cA) ⟨⟨⟨rfl, rfl, (j_room M.2.2.2.2).1, (j_room M.2.2.2.2).2, j_tb_warm hts M.1, List.mem_cons_self⟩, hts _ M.1, hts _ M.2.1, M.2.2.1, fun sig hsg => ?_, hts _ hlk⟩, MI.1, hts _ MI.2⟩ ⟨j_blind, fun U hU hW => ⟨rfl, by rw [hU]; exact Nat.le_trans hS0 hS.1, va_K.moved hW.alike hK, by rw [hU]; exact hR⟩⟩ rfl (by rw [List.length_map]; exact hn) hl.1 ?_ ?_ hdg ⟨show _ ≤ jh_n hf - jh_n h0 from by have := K.1.1; omega, show _ ≤ jh_s hf - jh_s h0 from by have := K.1.2; omega⟩
  · have := M.2.2.2.1
    rw [hsg] at this
    exact (Option.some.inj this).symm
  · show List.map (j_v S0) (As.reverse ++ .ref a :: st) = _
    rw [List.map_append, List.map_reverse]
    rfl
  · show 2 * 0 + _ ≤ 8
    rw [j_cats]
    omega
theorem jr_callSN {idx : Nat} {y : MethodName} {ccc : ByteArray} {nLc n : Nat} {host : String} {retc : Option FieldType} {stk : List Value} {rv : Option Value} {h' : jH} (As : List Value) (M : jMy y ccc nLc retc n) (MS : Cond.static y ∈ jTB) (hlk : Cond.methodLinkNest own idx y host ∈ jTB) (hdg : decode cc pc = .ok (.invokestatic idx, 3)) (hn : As.length = n) (hstk : stk = As.reverse ++ st) (hst : (st.map fun v => v.category).sum ≤ 8)
    (hM : jMet l d y ccc nLc retc As h rv h') (K : jGo l (d + 1) E own cc nL ret ini (pc + 3) ls (rv.toList ++ st) h' r hf) : jGo l (d + 1) E own cc nL ret ini pc ls stk h r hf := by
  obtain ⟨hm, hM⟩ := hM
  refine ⟨⟨Nat.le_trans hm.1 K.1.1, Nat.le_trans hm.2 K.1.2⟩, fun S0 D cA p e s m args below meth c h0 H locs lsA x0 C g0 hR hS hl => ?_⟩
  obtain ⟨hx, hb, hml, -, -, hown, hts, hK, hS0, -, -⟩ := id C
  refine j_after (aa := (As.map (j_v S0)).toArray) C g0 hm hR hS hl ?_ K
  subst hstk
  refine va_runSN (As := As.map (j_v S0)) (n := n) (host := host) ⟨hx, hb, hml, hown, hts⟩ (hM S0 D cA) ⟨⟨⟨rfl, rfl, (j_room M.2.2.2.2).1, (j_room M.2.2.2.2).2, j_tb_warm hts M.1, List.mem_cons_self⟩, hts _ M.1, hts _ M.2.1, M.2.2.1, fun sig hsg => ?_, hts _ hlk⟩, hts _ MS, trivial⟩ ⟨j_blind, fun U hU hW => ⟨rfl, by rw [hU]; exact Nat.le_trans hS0 hS.1, va_K.moved hW.alike hK, by rw [hU]; exact hR⟩⟩ rfl (by rw [List.length_map]; exact hn) hl.1 ?_ ?_ hdg ⟨show _ ≤ jh_n hf - jh_n h0 from by have := K.1.1; omega, show _ ≤ jh_s hf - jh_s h0 from by have := K.1.2; omega⟩
  · have := M.2.2.2.1
    rw [hsg] at this
    exact (Option.some.inj this).symm
  · show List.map (j_v S0) (As.reverse ++ st) = _
    rw [List.map_append, List.map_reverse]
  · show 2 * 0 + _ ≤ 8
    rw [j_cats]
    omega
theorem jr_zrz {v R : Int32} (hret : ret = some .boolean) (hdg : decode cc pc = .ok (.ireturn, 1)) (Hq : j_rz v h = some (R, hf)) : jGo l d E own cc nL ret ini pc ls [.int v] h (some (.int R)) hf := by
  unfold j_rz at Hq
  split at Hq
  · rename_i hv
    exact jr_zret (by rcases hv with e | e <;> rw [e] <;> rfl) hret hdg Hq
  · cases Hq
theorem jr_mmax {idx : Nat} {x y : Int32} (hlk : Cond.methodLink own idx Lib.Math.max.name ∈ jTB) (hst0 : Cond.static Lib.Math.max.name ∈ jTB) (hi0 : Cond.initialized "java/lang/Math" ∈ jTB) (hc0 : Cond.code Lib.Math.max.name Lib.Math.max.code 2 (some .int) ∈ jTB) (hdg : decode cc pc = .ok (.invokestatic idx, 3)) (hst : (st.map fun v => v.category).sum ≤ 8)
    (K : jGo l (d + 1) E own cc nL ret ini (pc + 3) ls (.int (j_max x y) :: st) h r hf) : jGo l (d + 1) E own cc nL ret ini pc ls (.int y :: .int x :: st) h r hf := by
  refine ⟨K.1, fun S0 D cA p e s m args below meth c h0 H locs lsA x0 C g0 hR hS hl => ?_⟩
  obtain ⟨hx, hb, hml, -, -, hown, hts, hK, hS0, -, -⟩ := id C
  refine va_mmax hx hb (by rw [hml]; exact hl.1.symm) hown (hts _ hlk) (hts _ hst0) (hts _ hi0) (hts _ hc0) (show 1 ≤ d + 1 by omega) ?_ (show _ ≤ jh_n hf - jh_n h0 from by have := K.1.1; omega) (show _ ≤ jh_s hf - jh_s h0 from by have := K.1.2; omega) hdg (K.2 S0 D cA p e s m args below meth c h0 H locs lsA x0 C g0 hR hS hl)
  show _ ≤ 100 * (d + 1)
  rw [j_cats]
  omega
theorem jr_mmin {idx : Nat} {x y : Int32} (hlk : Cond.methodLink own idx Lib.Math.min.name ∈ jTB) (hst0 : Cond.static Lib.Math.min.name ∈ jTB) (hi0 : Cond.initialized "java/lang/Math" ∈ jTB) (hc0 : Cond.code Lib.Math.min.name Lib.Math.min.code 2 (some .int) ∈ jTB) (hdg : decode cc pc = .ok (.invokestatic idx, 3)) (hst : (st.map fun v => v.category).sum ≤ 8)
    (K : jGo l (d + 1) E own cc nL ret ini (pc + 3) ls (.int (j_min x y) :: st) h r hf) : jGo l (d + 1) E own cc nL ret ini pc ls (.int y :: .int x :: st) h r hf := by
  refine ⟨K.1, fun S0 D cA p e s m args below meth c h0 H locs lsA x0 C g0 hR hS hl => ?_⟩
  obtain ⟨hx, hb, hml, -, -, hown, hts, hK, hS0, -, -⟩ := id C
  refine va_mmin hx hb (by rw [hml]; exact hl.1.symm) hown (hts _ hlk) (hts _ hst0) (hts _ hi0) (hts _ hc0) (show 1 ≤ d + 1 by omega) ?_ (show _ ≤ jh_n hf - jh_n h0 from by have := K.1.1; omega) (show _ ≤ jh_s hf - jh_s h0 from by have := K.1.2; omega) hdg (K.2 S0 D cA p e s m args below meth c h0 H locs lsA x0 C g0 hR hS hl)
  show _ ≤ 100 * (d + 1)
  rw [j_cats]
  omega
theorem jr_mmaxl {idx : Nat} {x y : Int64} (hlk : Cond.methodLink own idx Lib.MathLoose.max_long.x ∈ jTB) (hst0 : Cond.static Lib.MathLoose.max_long.x ∈ jTB) (hi0 : Cond.initialized "java/lang/Math" ∈ jTB) (hc0 : Cond.code Lib.MathLoose.max_long.x Lib.MathLoose.max_long.code 4 (some .long) ∈ jTB) (hdg : decode cc pc = .ok (.invokestatic idx, 3)) (hst : (st.map fun v => v.category).sum ≤ 8)
    (K : jGo l (d + 1) E own cc nL ret ini (pc + 3) ls (.long (j_maxl x y) :: st) h r hf) : jGo l (d + 1) E own cc nL ret ini pc ls (.long y :: .long x :: st) h r hf := by
  refine ⟨K.1, fun S0 D cA p e s m args below meth c h0 H locs lsA x0 C g0 hR hS hl => ?_⟩
  obtain ⟨hx, hb, hml, -, -, hown, hts, hK, hS0, -, -⟩ := id C
  refine va_mmax_long hx hb (by rw [hml]; exact hl.1.symm) hown (hts _ hlk) (hts _ hst0) (hts _ hi0) (hts _ hc0) (show 1 ≤ d + 1 by omega) ?_ (show _ ≤ jh_n hf - jh_n h0 from by have := K.1.1; omega) (show _ ≤ jh_s hf - jh_s h0 from by have := K.1.2; omega) hdg (K.2 S0 D cA p e s m args below meth c h0 H locs lsA x0 C g0 hR hS hl)
  show _ ≤ 100 * (d + 1)
  rw [j_cats]
  omega
end
