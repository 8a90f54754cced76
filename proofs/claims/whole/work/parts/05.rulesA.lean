section
variable {l : Launch} {d : Nat} {E : jE} {own : String} {cc : ByteArray} {nL : Nat} {ret : Option FieldType} {ini : Bool} {pc : Nat} {ls : List (Option Value)} {st : List Value} {h : jH} {r : Option Value} {hf : jH}
theorem jr_iconst {n : Int} {v : Int32} (hdg : decode cc pc = .ok (.iconst n, 1)) (hv : Int32.ofInt n = v) (K : jGo l d E own cc nL ret ini (pc + 1) ls (.int v :: st) h r hf) : jGo l d E own cc nL ret ini pc ls st h r hf :=
  ⟨K.1, fun S0 D cA p e s m args below meth c h0 H locs lsA x0 C g0 hR hS hl => lv_iconst C.1 C.2.1 hdg hv (K.2 S0 D cA p e s m args below meth c h0 H locs lsA x0 C g0 hR hS hl)⟩
theorem jr_bipush {n : Int} {v : Int32} (hdg : decode cc pc = .ok (.bipush n, 2)) (hv : (Int8.ofInt n).toInt32 = v) (K : jGo l d E own cc nL ret ini (pc + 2) ls (.int v :: st) h r hf) : jGo l d E own cc nL ret ini pc ls st h r hf :=
  ⟨K.1, fun S0 D cA p e s m args below meth c h0 H locs lsA x0 C g0 hR hS hl => lv_bipush C.1 C.2.1 hdg hv (K.2 S0 D cA p e s m args below meth c h0 H locs lsA x0 C g0 hR hS hl)⟩
theorem jr_sipush {n : Int} {v : Int32} (hdg : decode cc pc = .ok (.sipush n, 3)) (hv : (Int16.ofInt n).toInt32 = v) (K : jGo l d E own cc nL ret ini (pc + 3) ls (.int v :: st) h r hf) : jGo l d E own cc nL ret ini pc ls st h r hf :=
  ⟨K.1, fun S0 D cA p e s m args below meth c h0 H locs lsA x0 C g0 hR hS hl => lv_sipush C.1 C.2.1 hdg hv (K.2 S0 D cA p e s m args below meth c h0 H locs lsA x0 C g0 hR hS hl)⟩
theorem jr_lconst {n : Fin 2} {v : Int64} (hdg : decode cc pc = .ok (.lconst n, 1)) (hv : Int64.ofNat (n : Nat) = v) (K : jGo l d E own cc nL ret ini (pc + 1) ls (.long v :: st) h r hf) : jGo l d E own cc nL ret ini pc ls st h r hf :=
  ⟨K.1, fun S0 D cA p e s m args below meth c h0 H locs lsA x0 C g0 hR hS hl => lv_lconst C.1 C.2.1 hdg hv (K.2 S0 D cA p e s m args below meth c h0 H locs lsA x0 C g0 hR hS hl)⟩
theorem jr_ldc {idx : Nat} {v : Int32} (hc : Cond.constant own idx v ∈ jTB) (hdg : decode cc pc = .ok (.ldc idx, 2)) (K : jGo l d E own cc nL ret ini (pc + 2) ls (.int v :: st) h r hf) : jGo l d E own cc nL ret ini pc ls st h r hf :=
  ⟨K.1, fun S0 D cA p e s m args below meth c h0 H locs lsA x0 C g0 hR hS hl => lv_ldc C.1 C.2.1 C.2.2.2.2.2.1 (C.2.2.2.2.2.2.1 _ hc) hdg (K.2 S0 D cA p e s m args below meth c h0 H locs lsA x0 C g0 hR hS hl)⟩
theorem jr_ldcw {idx : Nat} {v : Int32} (hc : Cond.constant own idx v ∈ jTB) (hdg : decode cc pc = .ok (.ldc_w idx, 3)) (K : jGo l d E own cc nL ret ini (pc + 3) ls (.int v :: st) h r hf) : jGo l d E own cc nL ret ini pc ls st h r hf :=
  ⟨K.1, fun S0 D cA p e s m args below meth c h0 H locs lsA x0 C g0 hR hS hl => lv_ldcw C.1 C.2.1 C.2.2.2.2.2.1 (C.2.2.2.2.2.2.1 _ hc) hdg (K.2 S0 D cA p e s m args below meth c h0 H locs lsA x0 C g0 hR hS hl)⟩
theorem jr_ldc2 {idx : Nat} {v : Int64} (hc : Cond.constantLong own idx v ∈ jTB) (hdg : decode cc pc = .ok (.ldc2_w idx, 3)) (K : jGo l d E own cc nL ret ini (pc + 3) ls (.long v :: st) h r hf) : jGo l d E own cc nL ret ini pc ls st h r hf :=
  ⟨K.1, fun S0 D cA p e s m args below meth c h0 H locs lsA x0 C g0 hR hS hl => lv_ldc2 C.1 C.2.1 C.2.2.2.2.2.1 (C.2.2.2.2.2.2.1 _ hc) hdg (K.2 S0 D cA p e s m args below meth c h0 H locs lsA x0 C g0 hR hS hl)⟩
theorem j_loc {S0 : Nat} {lsA : Array Slot} {x0 : List (Nat × Value)} {i : Nat} {v : Value} (hl : lv_has lsA nL (x0 ++ j_l S0 0 ls)) (hi : ls[i]? = some (some v)) : lsA[i]? = some (.val (j_v S0 v)) := by
  have h := j_l_mem (S0 := S0) (b := 0) hi
  rw [Nat.zero_add] at h
  exact hl.2.2 (i, j_v S0 v) (List.mem_append_right _ h)
theorem jr_iload_n {k : Fin 4} {i : Nat} {x : Int32} (hdg : decode cc pc = .ok (.iload_n k, 1)) (hi : (k : Nat) = i) (hl0 : ls[i]? = some (some (.int x))) (K : jGo l d E own cc nL ret ini (pc + 1) ls (.int x :: st) h r hf) : jGo l d E own cc nL ret ini pc ls st h r hf :=
  ⟨K.1, fun S0 D cA p e s m args below meth c h0 H locs lsA x0 C g0 hR hS hl => lv_iload_n C.1 C.2.1 hdg hi (j_loc hl hl0) (K.2 S0 D cA p e s m args below meth c h0 H locs lsA x0 C g0 hR hS hl)⟩
theorem jr_iload {i : Nat} {x : Int32} (hdg : decode cc pc = .ok (.iload i, 2)) (hl0 : ls[i]? = some (some (.int x))) (K : jGo l d E own cc nL ret ini (pc + 2) ls (.int x :: st) h r hf) : jGo l d E own cc nL ret ini pc ls st h r hf :=
  ⟨K.1, fun S0 D cA p e s m args below meth c h0 H locs lsA x0 C g0 hR hS hl => lv_iload C.1 C.2.1 hdg (j_loc hl hl0) (K.2 S0 D cA p e s m args below meth c h0 H locs lsA x0 C g0 hR hS hl)⟩
theorem jr_lload_n {k : Fin 4} {i : Nat} {x : Int64} (hdg : decode cc pc = .ok (.lload_n k, 1)) (hi : (k : Nat) = i) (hl0 : ls[i]? = some (some (.long x))) (K : jGo l d E own cc nL ret ini (pc + 1) ls (.long x :: st) h r hf) : jGo l d E own cc nL ret ini pc ls st h r hf :=
  ⟨K.1, fun S0 D cA p e s m args below meth c h0 H locs lsA x0 C g0 hR hS hl => lv_lload_n C.1 C.2.1 hdg hi (j_loc hl hl0) (K.2 S0 D cA p e s m args below meth c h0 H locs lsA x0 C g0 hR hS hl)⟩
theorem jr_lload {i : Nat} {x : Int64} (hdg : decode cc pc = .ok (.lload i, 2)) (hl0 : ls[i]? = some (some (.long x))) (K : jGo l d E own cc nL ret ini (pc + 2) ls (.long x :: st) h r hf) : jGo l d E own cc nL ret ini pc ls st h r hf :=
  ⟨K.1, fun S0 D cA p e s m args below meth c h0 H locs lsA x0 C g0 hR hS hl => lv_lload C.1 C.2.1 hdg (j_loc hl hl0) (K.2 S0 D cA p e s m args below meth c h0 H locs lsA x0 C g0 hR hS hl)⟩
theorem jr_aload_n {k : Fin 4} {i : Nat} {x : Nat} (hdg : decode cc pc = .ok (.aload_n k, 1)) (hi : (k : Nat) = i) (hl0 : ls[i]? = some (some (.ref x))) (K : jGo l d E own cc nL ret ini (pc + 1) ls (.ref x :: st) h r hf) : jGo l d E own cc nL ret ini pc ls st h r hf :=
  ⟨K.1, fun S0 D cA p e s m args below meth c h0 H locs lsA x0 C g0 hR hS hl => lv_aload_n C.1 C.2.1 hdg hi (j_loc hl hl0) (K.2 S0 D cA p e s m args below meth c h0 H locs lsA x0 C g0 hR hS hl)⟩
theorem jr_aload {i : Nat} {x : Nat} (hdg : decode cc pc = .ok (.aload i, 2)) (hl0 : ls[i]? = some (some (.ref x))) (K : jGo l d E own cc nL ret ini (pc + 2) ls (.ref x :: st) h r hf) : jGo l d E own cc nL ret ini pc ls st h r hf :=
  ⟨K.1, fun S0 D cA p e s m args below meth c h0 H locs lsA x0 C g0 hR hS hl => lv_aload C.1 C.2.1 hdg (j_loc hl hl0) (K.2 S0 D cA p e s m args below meth c h0 H locs lsA x0 C g0 hR hS hl)⟩
theorem j_x0 {S0 : Nat} {s : State} {c : Code} {x0 : List (Nat × Value)} {i : Nat} (hX : jX E S0 s c x0) (hz : jEl E = false ∨ i ≠ 0) : ∀ q ∈ x0, q.1 ≠ i ∧ q.1 + 1 ≠ i ∨ (q.1 ≠ i ∧ q.2.category = 1) := by
  intro q hq
  rcases E with _ | hh | z
  · rw [show x0 = [] from hX] at hq; cases hq
  · rw [hX.1] at hq; cases hq
  · obtain ⟨⟨b, e0, -⟩, -⟩ := hX
    rw [e0] at hq
    rcases List.mem_cons.mp hq with e1 | e1
    · rcases hz with hz | hz
      · cases hz
      · subst e1
        exact Or.inr ⟨Ne.symm hz, rfl⟩
    · cases e1
theorem j_set1 {S0 : Nat} {lsA : Array Slot} {x0 : List (Nat × Value)} {i : Nat} {v : Value} {s : State} {c : Code} (hX : jX E S0 s c x0) (hz : jEl E = false ∨ i ≠ 0) (hok : j_ok ls i = true) (ls' : Array Slot) (hl : lv_has ls' nL ((i, j_v S0 v) :: (x0 ++ j_l S0 0 ls).filter (fun q => !(q.1 == i) && !(q.1 + 1 == i && q.2.category == 2)))) : lv_has ls' nL (x0 ++ j_l S0 0 (ls.set i (some v))) := by
  refine ⟨hl.1, hl.2.1, fun q hq => hl.2.2 q ?_⟩
  rcases List.mem_append.mp hq with hq | hq
  · refine List.mem_cons_of_mem _ (List.mem_filter.mpr ⟨List.mem_append_left _ hq, ?_⟩)
    rcases j_x0 hX hz q hq with ⟨a1, a2⟩ | ⟨a1, a2⟩ <;> simp [a1, a2]
  · obtain ⟨j, w, e1, e2⟩ := j_l_of hq
    rw [Nat.zero_add] at e1
    by_cases hj : j = i
    · subst hj
      have : w = v := by
        rw [List.getElem?_set] at e2
        simp at e2
        exact e2.2.symm
      subst this
      rw [e1]
      exact List.mem_cons_self
    · rw [List.getElem?_set_ne (Ne.symm hj)] at e2
      have hm := j_l_mem (S0 := S0) (b := 0) e2
      rw [Nat.zero_add] at hm
      refine List.mem_cons_of_mem _ (List.mem_filter.mpr ⟨List.mem_append_right _ (by rw [e1]; exact hm), ?_⟩)
      rw [e1]
      simp only [Bool.and_eq_true, Bool.not_eq_true', beq_eq_false_iff_ne, ne_eq, Bool.and_eq_false_iff, beq_eq_false_iff_ne]
      refine ⟨hj, ?_⟩
      by_cases h2 : j + 1 = i
      · right
        subst h2
        simp only [j_ok, e2, bne_iff_ne, ne_eq] at hok
        rw [j_v_cat]
        exact hok
      · exact Or.inl h2
theorem j_set2 {S0 : Nat} {lsA : Array Slot} {x0 : List (Nat × Value)} {i : Nat} {v : Value} {s : State} {c : Code} (hX : jX E S0 s c x0) (hz : jEl E = false ∨ i ≠ 0) (hok : j_ok ls i = true) (ls' : Array Slot) (hl : lv_has ls' nL ((i, j_v S0 v) :: (x0 ++ j_l S0 0 ls).filter (fun q => !(q.1 == i) && (!(q.1 == i + 1) && !(q.1 + 1 == i && q.2.category == 2))))) : lv_has ls' nL (x0 ++ j_l S0 0 ((ls.set (i + 1) none).set i (some v))) := by
  refine ⟨hl.1, hl.2.1, fun q hq => hl.2.2 q ?_⟩
  rcases List.mem_append.mp hq with hq | hq
  · refine List.mem_cons_of_mem _ (List.mem_filter.mpr ⟨List.mem_append_left _ hq, ?_⟩)
    have h0 : q.1 = 0 := by
      rcases E with _ | hh | z
      · rw [show x0 = [] from hX] at hq; cases hq
      · rw [hX.1] at hq; cases hq
      · obtain ⟨⟨b, e0, -⟩, -⟩ := hX
        rw [e0] at hq
        rcases List.mem_cons.mp hq with e1 | e1
        · rw [e1]
        · cases e1
    have h1 : ¬ 0 = i + 1 := by omega
    rcases j_x0 hX hz q hq with ⟨a1, a2⟩ | ⟨a1, a2⟩ <;> rw [h0] at a1 <;> simp [a1, a2, h0]
    rw [h0] at a2
    exact Or.inl (fun z => a2 (by omega))
  · obtain ⟨j, w, e1, e2⟩ := j_l_of hq
    rw [Nat.zero_add] at e1
    by_cases hj : j = i
    · subst hj
      have : w = v := by
        rw [List.getElem?_set] at e2
        simp at e2
        exact e2.2.symm
      subst this
      rw [e1]
      exact List.mem_cons_self
    · rw [List.getElem?_set_ne (Ne.symm hj)] at e2
      by_cases hj2 : j = i + 1
      · subst hj2
        rw [List.getElem?_set] at e2
        simp at e2
      rw [List.getElem?_set_ne (Ne.symm hj2)] at e2
      have hm := j_l_mem (S0 := S0) (b := 0) e2
      rw [Nat.zero_add] at hm
      refine List.mem_cons_of_mem _ (List.mem_filter.mpr ⟨List.mem_append_right _ (by rw [e1]; exact hm), ?_⟩)
      rw [e1]
      simp only [Bool.and_eq_true, Bool.not_eq_true', beq_eq_false_iff_ne, ne_eq, Bool.and_eq_false_iff, beq_eq_false_iff_ne]
      refine ⟨hj, hj2, ?_⟩
      by_cases h2 : j + 1 = i
      · right
        subst h2
        simp only [j_ok, e2, bne_iff_ne, ne_eq] at hok
        rw [j_v_cat]
        exact hok
      · exact Or.inl h2
theorem jr_istore_n {k : Fin 4} {i : Nat} {x : Int32} (hdg : decode cc pc = .ok (.istore_n k, 1)) (hi : (k : Nat) = i) (hn : i < nL) (hok : j_ok ls i = true) (hz : jEl E = false ∨ i ≠ 0) (K : jGo l d E own cc nL ret ini (pc + 1) (ls.set i (some (.int x))) st h r hf) : jGo l d E own cc nL ret ini pc ls (.int x :: st) h r hf :=
  ⟨K.1, fun S0 D cA p e s m args below meth c h0 H locs lsA x0 C g0 hR hS hl => lv_istore_n C.1 C.2.1 hdg hi hl hn rfl (fun ls2 hl2 => K.2 S0 D cA p e s m args below meth c h0 H locs ls2 x0 C g0 hR hS (j_set1 (v := .int x) (lsA := lsA) C.2.2.2.2.2.2.2.2.2.2 hz hok ls2 hl2))⟩
theorem jr_istore {i : Nat} {x : Int32} (hdg : decode cc pc = .ok (.istore i, 2))  (hn : i < nL) (hok : j_ok ls i = true) (hz : jEl E = false ∨ i ≠ 0) (K : jGo l d E own cc nL ret ini (pc + 2) (ls.set i (some (.int x))) st h r hf) : jGo l d E own cc nL ret ini pc ls (.int x :: st) h r hf :=
  ⟨K.1, fun S0 D cA p e s m args below meth c h0 H locs lsA x0 C g0 hR hS hl => lv_istore C.1 C.2.1 hdg  hl hn rfl (fun ls2 hl2 => K.2 S0 D cA p e s m args below meth c h0 H locs ls2 x0 C g0 hR hS (j_set1 (v := .int x) (lsA := lsA) C.2.2.2.2.2.2.2.2.2.2 hz hok ls2 hl2))⟩
theorem jr_astore_n {k : Fin 4} {i : Nat} {x : Nat} (hdg : decode cc pc = .ok (.astore_n k, 1)) (hi : (k : Nat) = i) (hn : i < nL) (hok : j_ok ls i = true) (hz : jEl E = false ∨ i ≠ 0) (K : jGo l d E own cc nL ret ini (pc + 1) (ls.set i (some (.ref x))) st h r hf) : jGo l d E own cc nL ret ini pc ls (.ref x :: st) h r hf :=
  ⟨K.1, fun S0 D cA p e s m args below meth c h0 H locs lsA x0 C g0 hR hS hl => lv_astore_n C.1 C.2.1 hdg hi hl hn rfl (fun ls2 hl2 => K.2 S0 D cA p e s m args below meth c h0 H locs ls2 x0 C g0 hR hS (j_set1 (v := .ref x) (lsA := lsA) C.2.2.2.2.2.2.2.2.2.2 hz hok ls2 hl2))⟩
theorem jr_astore {i : Nat} {x : Nat} (hdg : decode cc pc = .ok (.astore i, 2))  (hn : i < nL) (hok : j_ok ls i = true) (hz : jEl E = false ∨ i ≠ 0) (K : jGo l d E own cc nL ret ini (pc + 2) (ls.set i (some (.ref x))) st h r hf) : jGo l d E own cc nL ret ini pc ls (.ref x :: st) h r hf :=
  ⟨K.1, fun S0 D cA p e s m args below meth c h0 H locs lsA x0 C g0 hR hS hl => lv_astore C.1 C.2.1 hdg  hl hn rfl (fun ls2 hl2 => K.2 S0 D cA p e s m args below meth c h0 H locs ls2 x0 C g0 hR hS (j_set1 (v := .ref x) (lsA := lsA) C.2.2.2.2.2.2.2.2.2.2 hz hok ls2 hl2))⟩
theorem jr_lstore_n {k : Fin 4} {i : Nat} {x : Int64} (hdg : decode cc pc = .ok (.lstore_n k, 1)) (hi : (k : Nat) = i) (hn : i + 1 < nL) (hok : j_ok ls i = true) (hz : jEl E = false ∨ i ≠ 0) (K : jGo l d E own cc nL ret ini (pc + 1) ((ls.set (i + 1) none).set i (some (.long x))) st h r hf) : jGo l d E own cc nL ret ini pc ls (.long x :: st) h r hf :=
  ⟨K.1, fun S0 D cA p e s m args below meth c h0 H locs lsA x0 C g0 hR hS hl => lv_lstore_n C.1 C.2.1 hdg hi hl hn rfl (fun ls2 hl2 => K.2 S0 D cA p e s m args below meth c h0 H locs ls2 x0 C g0 hR hS (j_set2 (v := .long x) (lsA := lsA) C.2.2.2.2.2.2.2.2.2.2 hz hok ls2 hl2))⟩
theorem jr_lstore {i : Nat} {x : Int64} (hdg : decode cc pc = .ok (.lstore i, 2))  (hn : i + 1 < nL) (hok : j_ok ls i = true) (hz : jEl E = false ∨ i ≠ 0) (K : jGo l d E own cc nL ret ini (pc + 2) ((ls.set (i + 1) none).set i (some (.long x))) st h r hf) : jGo l d E own cc nL ret ini pc ls (.long x :: st) h r hf :=
  ⟨K.1, fun S0 D cA p e s m args below meth c h0 H locs lsA x0 C g0 hR hS hl => lv_lstore C.1 C.2.1 hdg  hl hn rfl (fun ls2 hl2 => K.2 S0 D cA p e s m args below meth c h0 H locs ls2 x0 C g0 hR hS (j_set2 (v := .long x) (lsA := lsA) C.2.2.2.2.2.2.2.2.2.2 hz hok ls2 hl2))⟩
theorem jr_iinc {i : Nat} {n : Int} {x v : Int32} (hdg : decode cc pc = .ok (.iinc i n, 3)) (hl0 : ls[i]? = some (some (.int x))) (hv : x + Int32.ofInt n = v) (hn : i < nL) (hok : j_ok ls i = true) (hz : jEl E = false ∨ i ≠ 0) (K : jGo l d E own cc nL ret ini (pc + 3) (ls.set i (some (.int v))) st h r hf) : jGo l d E own cc nL ret ini pc ls st h r hf := by
  refine ⟨K.1, fun S0 D cA p e s m args below meth c h0 H locs lsA x0 C g0 hR hS hl => ?_⟩
  have hm := j_l_mem (S0 := S0) (b := 0) hl0
  rw [Nat.zero_add] at hm
  obtain ⟨k, hk⟩ := List.getElem?_of_mem (List.mem_append_right x0 hm)
  exact lv_iinc C.1 C.2.1 hdg hl hk hv hn rfl (fun ls2 hl2 => K.2 S0 D cA p e s m args below meth c h0 H locs ls2 x0 C g0 hR hS (j_set1 (v := .int v) (lsA := lsA) C.2.2.2.2.2.2.2.2.2.2 hz hok ls2 hl2))
theorem jr_fgt (i : Nat) (K : jGo l d E own cc nL ret ini pc (ls.set i none) st h r hf) : jGo l d E own cc nL ret ini pc ls st h r hf := by
  refine ⟨K.1, fun S0 D cA p e s m args below meth c h0 H locs lsA x0 C g0 hR hS hl => K.2 S0 D cA p e s m args below meth c h0 H locs lsA x0 C g0 hR hS ⟨hl.1, hl.2.1, fun q hq => hl.2.2 q ?_⟩⟩
  rcases List.mem_append.mp hq with hq | hq
  · exact List.mem_append_left _ hq
  · obtain ⟨j, w, e1, e2⟩ := j_l_of hq
    by_cases hj : j = i
    · subst hj
      rw [List.getElem?_set] at e2
      simp at e2
    · rw [List.getElem?_set_ne (Ne.symm hj)] at e2
      have hm := j_l_mem (S0 := S0) (b := 0) e2
      rw [e1]
      exact List.mem_append_right _ hm
theorem jr_iadd {x y : Int32} (hdg : decode cc pc = .ok (.iadd, 1))  (K : jGo l d E own cc nL ret ini (pc + 1) ls (.int (x + y) :: st) h r hf) : jGo l d E own cc nL ret ini pc ls (.int y :: .int x :: st) h r hf :=
  ⟨K.1, fun S0 D cA p e s m args below meth c h0 H locs lsA x0 C g0 hR hS hl => lv_iadd C.1 C.2.1 hdg  (K.2 S0 D cA p e s m args below meth c h0 H locs lsA x0 C g0 hR hS hl)⟩
theorem jr_isub {x y : Int32} (hdg : decode cc pc = .ok (.isub, 1))  (K : jGo l d E own cc nL ret ini (pc + 1) ls (.int (x - y) :: st) h r hf) : jGo l d E own cc nL ret ini pc ls (.int y :: .int x :: st) h r hf :=
  ⟨K.1, fun S0 D cA p e s m args below meth c h0 H locs lsA x0 C g0 hR hS hl => lv_isub C.1 C.2.1 hdg  (K.2 S0 D cA p e s m args below meth c h0 H locs lsA x0 C g0 hR hS hl)⟩
theorem jr_imul {x y : Int32} (hdg : decode cc pc = .ok (.imul, 1))  (K : jGo l d E own cc nL ret ini (pc + 1) ls (.int (x * y) :: st) h r hf) : jGo l d E own cc nL ret ini pc ls (.int y :: .int x :: st) h r hf :=
  ⟨K.1, fun S0 D cA p e s m args below meth c h0 H locs lsA x0 C g0 hR hS hl => lv_imul C.1 C.2.1 hdg  (K.2 S0 D cA p e s m args below meth c h0 H locs lsA x0 C g0 hR hS hl)⟩
theorem jr_iand {x y : Int32} (hdg : decode cc pc = .ok (.iand, 1))  (K : jGo l d E own cc nL ret ini (pc + 1) ls (.int (x &&& y) :: st) h r hf) : jGo l d E own cc nL ret ini pc ls (.int y :: .int x :: st) h r hf :=
  ⟨K.1, fun S0 D cA p e s m args below meth c h0 H locs lsA x0 C g0 hR hS hl => lv_iand C.1 C.2.1 hdg  (K.2 S0 D cA p e s m args below meth c h0 H locs lsA x0 C g0 hR hS hl)⟩
theorem jr_ior {x y : Int32} (hdg : decode cc pc = .ok (.ior, 1))  (K : jGo l d E own cc nL ret ini (pc + 1) ls (.int (x ||| y) :: st) h r hf) : jGo l d E own cc nL ret ini pc ls (.int y :: .int x :: st) h r hf :=
  ⟨K.1, fun S0 D cA p e s m args below meth c h0 H locs lsA x0 C g0 hR hS hl => lv_ior C.1 C.2.1 hdg  (K.2 S0 D cA p e s m args below meth c h0 H locs lsA x0 C g0 hR hS hl)⟩
theorem jr_ixor {x y : Int32} (hdg : decode cc pc = .ok (.ixor, 1))  (K : jGo l d E own cc nL ret ini (pc + 1) ls (.int (x ^^^ y) :: st) h r hf) : jGo l d E own cc nL ret ini pc ls (.int y :: .int x :: st) h r hf :=
  ⟨K.1, fun S0 D cA p e s m args below meth c h0 H locs lsA x0 C g0 hR hS hl => lv_ixor C.1 C.2.1 hdg  (K.2 S0 D cA p e s m args below meth c h0 H locs lsA x0 C g0 hR hS hl)⟩
theorem jr_ishl {x y : Int32} (hdg : decode cc pc = .ok (.ishl, 1))  (K : jGo l d E own cc nL ret ini (pc + 1) ls (.int (x <<< (y &&& 31)) :: st) h r hf) : jGo l d E own cc nL ret ini pc ls (.int y :: .int x :: st) h r hf :=
  ⟨K.1, fun S0 D cA p e s m args below meth c h0 H locs lsA x0 C g0 hR hS hl => lv_ishl C.1 C.2.1 hdg  (K.2 S0 D cA p e s m args below meth c h0 H locs lsA x0 C g0 hR hS hl)⟩
theorem jr_ishr {x y : Int32} (hdg : decode cc pc = .ok (.ishr, 1))  (K : jGo l d E own cc nL ret ini (pc + 1) ls (.int (x >>> (y &&& 31)) :: st) h r hf) : jGo l d E own cc nL ret ini pc ls (.int y :: .int x :: st) h r hf :=
  ⟨K.1, fun S0 D cA p e s m args below meth c h0 H locs lsA x0 C g0 hR hS hl => lv_ishr C.1 C.2.1 hdg  (K.2 S0 D cA p e s m args below meth c h0 H locs lsA x0 C g0 hR hS hl)⟩
theorem jr_iushr {x y : Int32} (hdg : decode cc pc = .ok (.iushr, 1))  (K : jGo l d E own cc nL ret ini (pc + 1) ls (.int (x.toUInt32 >>> (y.toUInt32 &&& Int32.toUInt32 31)).toInt32 :: st) h r hf) : jGo l d E own cc nL ret ini pc ls (.int y :: .int x :: st) h r hf :=
  ⟨K.1, fun S0 D cA p e s m args below meth c h0 H locs lsA x0 C g0 hR hS hl => lv_iushr C.1 C.2.1 hdg rfl (K.2 S0 D cA p e s m args below meth c h0 H locs lsA x0 C g0 hR hS hl)⟩
theorem jr_ineg {x : Int32} (hdg : decode cc pc = .ok (.ineg, 1))  (K : jGo l d E own cc nL ret ini (pc + 1) ls (.int (-x) :: st) h r hf) : jGo l d E own cc nL ret ini pc ls (.int x :: st) h r hf :=
  ⟨K.1, fun S0 D cA p e s m args below meth c h0 H locs lsA x0 C g0 hR hS hl => lv_ineg C.1 C.2.1 hdg  (K.2 S0 D cA p e s m args below meth c h0 H locs lsA x0 C g0 hR hS hl)⟩
theorem jr_ladd {x y : Int64} (hdg : decode cc pc = .ok (.ladd, 1))  (K : jGo l d E own cc nL ret ini (pc + 1) ls (.long (x + y) :: st) h r hf) : jGo l d E own cc nL ret ini pc ls (.long y :: .long x :: st) h r hf :=
  ⟨K.1, fun S0 D cA p e s m args below meth c h0 H locs lsA x0 C g0 hR hS hl => lv_ladd C.1 C.2.1 hdg  (K.2 S0 D cA p e s m args below meth c h0 H locs lsA x0 C g0 hR hS hl)⟩
theorem jr_lsub {x y : Int64} (hdg : decode cc pc = .ok (.lsub, 1))  (K : jGo l d E own cc nL ret ini (pc + 1) ls (.long (x - y) :: st) h r hf) : jGo l d E own cc nL ret ini pc ls (.long y :: .long x :: st) h r hf :=
  ⟨K.1, fun S0 D cA p e s m args below meth c h0 H locs lsA x0 C g0 hR hS hl => lv_lsub C.1 C.2.1 hdg  (K.2 S0 D cA p e s m args below meth c h0 H locs lsA x0 C g0 hR hS hl)⟩
theorem jr_lmul {x y : Int64} (hdg : decode cc pc = .ok (.lmul, 1))  (K : jGo l d E own cc nL ret ini (pc + 1) ls (.long (x * y) :: st) h r hf) : jGo l d E own cc nL ret ini pc ls (.long y :: .long x :: st) h r hf :=
  ⟨K.1, fun S0 D cA p e s m args below meth c h0 H locs lsA x0 C g0 hR hS hl => lv_lmul C.1 C.2.1 hdg  (K.2 S0 D cA p e s m args below meth c h0 H locs lsA x0 C g0 hR hS hl)⟩
theorem jr_idiv {x y : Int32} {β : Type} {k : Int32 → Option β} {res : β} (hdg : decode cc pc = .ok (.idiv, 1)) (Hq : (j_div x y).bind k = some res) (K : ∀ v : Int32, k v = some res → jGo l d E own cc nL ret ini (pc + 1) ls (.int v :: st) h r hf) : jGo l d E own cc nL ret ini pc ls (.int y :: .int x :: st) h r hf := by
  by_cases hy : y = 0
  · unfold j_div at Hq
    rw [if_pos hy] at Hq
    cases Hq
  · unfold j_div at Hq
    rw [if_neg hy] at Hq
    have K := K _ Hq
    exact ⟨K.1, fun S0 D cA p e s m args below meth c h0 H locs lsA x0 C g0 hR hS hl => lv_idiv C.1 C.2.1 hdg hy (K.2 S0 D cA p e s m args below meth c h0 H locs lsA x0 C g0 hR hS hl)⟩
theorem jr_irem {x y : Int32} {β : Type} {k : Int32 → Option β} {res : β} (hdg : decode cc pc = .ok (.irem, 1)) (Hq : (j_rem x y).bind k = some res) (K : ∀ v : Int32, k v = some res → jGo l d E own cc nL ret ini (pc + 1) ls (.int v :: st) h r hf) : jGo l d E own cc nL ret ini pc ls (.int y :: .int x :: st) h r hf := by
  by_cases hy : y = 0
  · unfold j_rem at Hq
    rw [if_pos hy] at Hq
    cases Hq
  · unfold j_rem at Hq
    rw [if_neg hy] at Hq
    have K := K _ Hq
    exact ⟨K.1, fun S0 D cA p e s m args below meth c h0 H locs lsA x0 C g0 hR hS hl => lv_irem C.1 C.2.1 hdg hy (K.2 S0 D cA p e s m args below meth c h0 H locs lsA x0 C g0 hR hS hl)⟩
theorem jr_ldiv {x y : Int64} {β : Type} {k : Int64 → Option β} {res : β} (hdg : decode cc pc = .ok (.ldiv, 1)) (Hq : (j_dil x y).bind k = some res) (K : ∀ v : Int64, k v = some res → jGo l d E own cc nL ret ini (pc + 1) ls (.long v :: st) h r hf) : jGo l d E own cc nL ret ini pc ls (.long y :: .long x :: st) h r hf := by
  by_cases hy : y = 0
  · unfold j_dil at Hq
    rw [if_pos hy] at Hq
    cases Hq
  · unfold j_dil at Hq
    rw [if_neg hy] at Hq
    have K := K _ Hq
    exact ⟨K.1, fun S0 D cA p e s m args below meth c h0 H locs lsA x0 C g0 hR hS hl => lv_ldiv C.1 C.2.1 hdg hy (K.2 S0 D cA p e s m args below meth c h0 H locs lsA x0 C g0 hR hS hl)⟩
theorem jr_lrem {x y : Int64} {β : Type} {k : Int64 → Option β} {res : β} (hdg : decode cc pc = .ok (.lrem, 1)) (Hq : (j_rel x y).bind k = some res) (K : ∀ v : Int64, k v = some res → jGo l d E own cc nL ret ini (pc + 1) ls (.long v :: st) h r hf) : jGo l d E own cc nL ret ini pc ls (.long y :: .long x :: st) h r hf := by
  by_cases hy : y = 0
  · unfold j_rel at Hq
    rw [if_pos hy] at Hq
    cases Hq
  · unfold j_rel at Hq
    rw [if_neg hy] at Hq
    have K := K _ Hq
    exact ⟨K.1, fun S0 D cA p e s m args below meth c h0 H locs lsA x0 C g0 hR hS hl => lv_lrem C.1 C.2.1 hdg hy (K.2 S0 D cA p e s m args below meth c h0 H locs lsA x0 C g0 hR hS hl)⟩
theorem jr_i2l {x : Int32} (hdg : decode cc pc = .ok (.i2l, 1))  (K : jGo l d E own cc nL ret ini (pc + 1) ls (.long x.toInt64 :: st) h r hf) : jGo l d E own cc nL ret ini pc ls (.int x :: st) h r hf :=
  ⟨K.1, fun S0 D cA p e s m args below meth c h0 H locs lsA x0 C g0 hR hS hl => lv_i2l C.1 C.2.1 hdg rfl (K.2 S0 D cA p e s m args below meth c h0 H locs lsA x0 C g0 hR hS hl)⟩
theorem jr_l2i {x : Int64} (hdg : decode cc pc = .ok (.l2i, 1))  (K : jGo l d E own cc nL ret ini (pc + 1) ls (.int x.toInt32 :: st) h r hf) : jGo l d E own cc nL ret ini pc ls (.long x :: st) h r hf :=
  ⟨K.1, fun S0 D cA p e s m args below meth c h0 H locs lsA x0 C g0 hR hS hl => lv_l2i C.1 C.2.1 hdg rfl (K.2 S0 D cA p e s m args below meth c h0 H locs lsA x0 C g0 hR hS hl)⟩
theorem jr_i2b {x : Int32} (hdg : decode cc pc = .ok (.i2b, 1))  (K : jGo l d E own cc nL ret ini (pc + 1) ls (.int x.toInt8.toInt32 :: st) h r hf) : jGo l d E own cc nL ret ini pc ls (.int x :: st) h r hf :=
  ⟨K.1, fun S0 D cA p e s m args below meth c h0 H locs lsA x0 C g0 hR hS hl => lv_i2b C.1 C.2.1 hdg rfl (K.2 S0 D cA p e s m args below meth c h0 H locs lsA x0 C g0 hR hS hl)⟩
theorem jr_i2s {x : Int32} (hdg : decode cc pc = .ok (.i2s, 1))  (K : jGo l d E own cc nL ret ini (pc + 1) ls (.int x.toInt16.toInt32 :: st) h r hf) : jGo l d E own cc nL ret ini pc ls (.int x :: st) h r hf :=
  ⟨K.1, fun S0 D cA p e s m args below meth c h0 H locs lsA x0 C g0 hR hS hl => lv_i2s C.1 C.2.1 hdg rfl (K.2 S0 D cA p e s m args below meth c h0 H locs lsA x0 C g0 hR hS hl)⟩
theorem jr_lcmp {x y : Int64} (hdg : decode cc pc = .ok (.lcmp, 1))  (K : jGo l d E own cc nL ret ini (pc + 1) ls (.int (lg_cmp x y) :: st) h r hf) : jGo l d E own cc nL ret ini pc ls (.long y :: .long x :: st) h r hf :=
  ⟨K.1, fun S0 D cA p e s m args below meth c h0 H locs lsA x0 C g0 hR hS hl => W.lcmp C.1 C.2.1 hdg  (K.2 S0 D cA p e s m args below meth c h0 H locs lsA x0 C g0 hR hS hl)⟩
theorem jr_dup {va : Value} (hdg : decode cc pc = .ok (.dup, 1)) (h1 : va.category = 1) (K : jGo l d E own cc nL ret ini (pc + 1) ls (va :: va :: st) h r hf) : jGo l d E own cc nL ret ini pc ls (va :: st) h r hf :=
  ⟨K.1, fun S0 D cA p e s m args below meth c h0 H locs lsA x0 C g0 hR hS hl => lv_dup C.1 C.2.1 hdg (by rw [j_v_cat]; exact h1) (K.2 S0 D cA p e s m args below meth c h0 H locs lsA x0 C g0 hR hS hl)⟩
theorem jr_pop {va : Value} (hdg : decode cc pc = .ok (.pop, 1)) (h1 : va.category = 1) (K : jGo l d E own cc nL ret ini (pc + 1) ls st h r hf) : jGo l d E own cc nL ret ini pc ls (va :: st) h r hf :=
  ⟨K.1, fun S0 D cA p e s m args below meth c h0 H locs lsA x0 C g0 hR hS hl => lv_pop C.1 C.2.1 hdg (by rw [j_v_cat]; exact h1) (K.2 S0 D cA p e s m args below meth c h0 H locs lsA x0 C g0 hR hS hl)⟩
theorem jr_dup_x1 {va vb : Value} (hdg : decode cc pc = .ok (.dup_x1, 1)) (h1 : va.category = 1) (h2 : vb.category = 1) (K : jGo l d E own cc nL ret ini (pc + 1) ls (va :: vb :: va :: st) h r hf) : jGo l d E own cc nL ret ini pc ls (va :: vb :: st) h r hf :=
  ⟨K.1, fun S0 D cA p e s m args below meth c h0 H locs lsA x0 C g0 hR hS hl => lv_dup_x1 C.1 C.2.1 hdg (by rw [j_v_cat]; exact h1) (by rw [j_v_cat]; exact h2) (K.2 S0 D cA p e s m args below meth c h0 H locs lsA x0 C g0 hR hS hl)⟩
theorem jr_dup2 {va vb : Value} (hdg : decode cc pc = .ok (.dup2, 1)) (h1 : va.category = 1) (h2 : vb.category = 1) (K : jGo l d E own cc nL ret ini (pc + 1) ls (va :: vb :: va :: vb :: st) h r hf) : jGo l d E own cc nL ret ini pc ls (va :: vb :: st) h r hf :=
  ⟨K.1, fun S0 D cA p e s m args below meth c h0 H locs lsA x0 C g0 hR hS hl => lv_dup2_11 C.1 C.2.1 hdg (by rw [j_v_cat]; exact h1) (by rw [j_v_cat]; exact h2) (K.2 S0 D cA p e s m args below meth c h0 H locs lsA x0 C g0 hR hS hl)⟩
theorem jr_goto {off : Int} {tgt : Nat} (hdg : decode cc pc = .ok (.goto off, 3)) (ht : (pc : Int) + off = (tgt : Int)) (K : jGo l d E own cc nL ret ini tgt ls st h r hf) : jGo l d E own cc nL ret ini pc ls st h r hf :=
  ⟨K.1, fun S0 D cA p e s m args below meth c h0 H locs lsA x0 C g0 hR hS hl => lv_goto C.1 C.2.1 hdg ht (K.2 S0 D cA p e s m args below meth c h0 H locs lsA x0 C g0 hR hS hl)⟩
theorem jr_if_eq {x : Int32} {off : Int} {tgt : Nat} {β : Type} {A B : Option β} {res : β} (hdg : decode cc pc = .ok (.ifCond .eq off, 3)) (ht : (pc : Int) + off = (tgt : Int)) (Hq : (if x = 0 then A else B) = some res) (K1 : A = some res → jGo l d E own cc nL ret ini tgt ls st h r hf) (K2 : B = some res → jGo l d E own cc nL ret ini (pc + 3) ls st h r hf) : jGo l d E own cc nL ret ini pc ls (.int x :: st) h r hf := by
  by_cases hP : x = 0
  · have K := K1 (by rw [if_pos hP] at Hq; exact Hq)
    exact ⟨K.1, fun S0 D cA p e s m args below meth c h0 H locs lsA x0 C g0 hR hS hl => lv_if_eq C.1 C.2.1 hdg ht (fun q => K.2 S0 D cA p e s m args below meth c h0 H locs lsA x0 C g0 hR hS hl) (fun q => absurd hP q)⟩
  · have K := K2 (by rw [if_neg hP] at Hq; exact Hq)
    exact ⟨K.1, fun S0 D cA p e s m args below meth c h0 H locs lsA x0 C g0 hR hS hl => lv_if_eq C.1 C.2.1 hdg ht (fun q => absurd q hP) (fun q => K.2 S0 D cA p e s m args below meth c h0 H locs lsA x0 C g0 hR hS hl)⟩
theorem jr_if_ne {x : Int32} {off : Int} {tgt : Nat} {β : Type} {A B : Option β} {res : β} (hdg : decode cc pc = .ok (.ifCond .ne off, 3)) (ht : (pc : Int) + off = (tgt : Int)) (Hq : (if x = 0 then A else B) = some res) (K1 : A = some res → jGo l d E own cc nL ret ini (pc + 3) ls st h r hf) (K2 : B = some res → jGo l d E own cc nL ret ini tgt ls st h r hf) : jGo l d E own cc nL ret ini pc ls (.int x :: st) h r hf := by
  by_cases hP : x = 0
  · have K := K1 (by rw [if_pos hP] at Hq; exact Hq)
    exact ⟨K.1, fun S0 D cA p e s m args below meth c h0 H locs lsA x0 C g0 hR hS hl => lv_if_ne C.1 C.2.1 hdg ht (fun q => absurd hP q) (fun q => K.2 S0 D cA p e s m args below meth c h0 H locs lsA x0 C g0 hR hS hl)⟩
  · have K := K2 (by rw [if_neg hP] at Hq; exact Hq)
    exact ⟨K.1, fun S0 D cA p e s m args below meth c h0 H locs lsA x0 C g0 hR hS hl => lv_if_ne C.1 C.2.1 hdg ht (fun q => K.2 S0 D cA p e s m args below meth c h0 H locs lsA x0 C g0 hR hS hl) (fun q => absurd q hP)⟩
theorem jr_if_lt {x : Int32} {off : Int} {tgt : Nat} {β : Type} {A B : Option β} {res : β} (hdg : decode cc pc = .ok (.ifCond .lt off, 3)) (ht : (pc : Int) + off = (tgt : Int)) (Hq : (if x < 0 then A else B) = some res) (K1 : A = some res → jGo l d E own cc nL ret ini tgt ls st h r hf) (K2 : B = some res → jGo l d E own cc nL ret ini (pc + 3) ls st h r hf) : jGo l d E own cc nL ret ini pc ls (.int x :: st) h r hf := by
  by_cases hP : x < 0
  · have K := K1 (by rw [if_pos hP] at Hq; exact Hq)
    exact ⟨K.1, fun S0 D cA p e s m args below meth c h0 H locs lsA x0 C g0 hR hS hl => lv_if_lt C.1 C.2.1 hdg ht (fun q => K.2 S0 D cA p e s m args below meth c h0 H locs lsA x0 C g0 hR hS hl) (fun q => absurd hP q)⟩
  · have K := K2 (by rw [if_neg hP] at Hq; exact Hq)
    exact ⟨K.1, fun S0 D cA p e s m args below meth c h0 H locs lsA x0 C g0 hR hS hl => lv_if_lt C.1 C.2.1 hdg ht (fun q => absurd q hP) (fun q => K.2 S0 D cA p e s m args below meth c h0 H locs lsA x0 C g0 hR hS hl)⟩
theorem jr_if_ge {x : Int32} {off : Int} {tgt : Nat} {β : Type} {A B : Option β} {res : β} (hdg : decode cc pc = .ok (.ifCond .ge off, 3)) (ht : (pc : Int) + off = (tgt : Int)) (Hq : (if 0 ≤ x then A else B) = some res) (K1 : A = some res → jGo l d E own cc nL ret ini tgt ls st h r hf) (K2 : B = some res → jGo l d E own cc nL ret ini (pc + 3) ls st h r hf) : jGo l d E own cc nL ret ini pc ls (.int x :: st) h r hf := by
  by_cases hP : 0 ≤ x
  · have K := K1 (by rw [if_pos hP] at Hq; exact Hq)
    exact ⟨K.1, fun S0 D cA p e s m args below meth c h0 H locs lsA x0 C g0 hR hS hl => lv_if_ge C.1 C.2.1 hdg ht (fun q => K.2 S0 D cA p e s m args below meth c h0 H locs lsA x0 C g0 hR hS hl) (fun q => absurd hP q)⟩
  · have K := K2 (by rw [if_neg hP] at Hq; exact Hq)
    exact ⟨K.1, fun S0 D cA p e s m args below meth c h0 H locs lsA x0 C g0 hR hS hl => lv_if_ge C.1 C.2.1 hdg ht (fun q => absurd q hP) (fun q => K.2 S0 D cA p e s m args below meth c h0 H locs lsA x0 C g0 hR hS hl)⟩
theorem jr_if_gt {x : Int32} {off : Int} {tgt : Nat} {β : Type} {A B : Option β} {res : β} (hdg : decode cc pc = .ok (.ifCond .gt off, 3)) (ht : (pc : Int) + off = (tgt : Int)) (Hq : (if 0 < x then A else B) = some res) (K1 : A = some res → jGo l d E own cc nL ret ini tgt ls st h r hf) (K2 : B = some res → jGo l d E own cc nL ret ini (pc + 3) ls st h r hf) : jGo l d E own cc nL ret ini pc ls (.int x :: st) h r hf := by
  by_cases hP : 0 < x
  · have K := K1 (by rw [if_pos hP] at Hq; exact Hq)
    exact ⟨K.1, fun S0 D cA p e s m args below meth c h0 H locs lsA x0 C g0 hR hS hl => lv_if_gt C.1 C.2.1 hdg ht (fun q => K.2 S0 D cA p e s m args below meth c h0 H locs lsA x0 C g0 hR hS hl) (fun q => absurd hP q)⟩
  · have K := K2 (by rw [if_neg hP] at Hq; exact Hq)
    exact ⟨K.1, fun S0 D cA p e s m args below meth c h0 H locs lsA x0 C g0 hR hS hl => lv_if_gt C.1 C.2.1 hdg ht (fun q => absurd q hP) (fun q => K.2 S0 D cA p e s m args below meth c h0 H locs lsA x0 C g0 hR hS hl)⟩
theorem jr_if_le {x : Int32} {off : Int} {tgt : Nat} {β : Type} {A B : Option β} {res : β} (hdg : decode cc pc = .ok (.ifCond .le off, 3)) (ht : (pc : Int) + off = (tgt : Int)) (Hq : (if x ≤ 0 then A else B) = some res) (K1 : A = some res → jGo l d E own cc nL ret ini tgt ls st h r hf) (K2 : B = some res → jGo l d E own cc nL ret ini (pc + 3) ls st h r hf) : jGo l d E own cc nL ret ini pc ls (.int x :: st) h r hf := by
  by_cases hP : x ≤ 0
  · have K := K1 (by rw [if_pos hP] at Hq; exact Hq)
    exact ⟨K.1, fun S0 D cA p e s m args below meth c h0 H locs lsA x0 C g0 hR hS hl => lv_if_le C.1 C.2.1 hdg ht (fun q => K.2 S0 D cA p e s m args below meth c h0 H locs lsA x0 C g0 hR hS hl) (fun q => absurd hP q)⟩
  · have K := K2 (by rw [if_neg hP] at Hq; exact Hq)
    exact ⟨K.1, fun S0 D cA p e s m args below meth c h0 H locs lsA x0 C g0 hR hS hl => lv_if_le C.1 C.2.1 hdg ht (fun q => absurd q hP) (fun q => K.2 S0 D cA p e s m args below meth c h0 H locs lsA x0 C g0 hR hS hl)⟩
theorem jr_icmp_eq {x y : Int32} {off : Int} {tgt : Nat} {β : Type} {A B : Option β} {res : β} (hdg : decode cc pc = .ok (.if_icmp .eq off, 3)) (ht : (pc : Int) + off = (tgt : Int)) (Hq : (if x = y then A else B) = some res) (K1 : A = some res → jGo l d E own cc nL ret ini tgt ls st h r hf) (K2 : B = some res → jGo l d E own cc nL ret ini (pc + 3) ls st h r hf) : jGo l d E own cc nL ret ini pc ls (.int y :: .int x :: st) h r hf := by
  by_cases hP : x = y
  · have K := K1 (by rw [if_pos hP] at Hq; exact Hq)
    exact ⟨K.1, fun S0 D cA p e s m args below meth c h0 H locs lsA x0 C g0 hR hS hl => lv_icmp_eq C.1 C.2.1 hdg ht (fun q => K.2 S0 D cA p e s m args below meth c h0 H locs lsA x0 C g0 hR hS hl) (fun q => absurd hP q)⟩
  · have K := K2 (by rw [if_neg hP] at Hq; exact Hq)
    exact ⟨K.1, fun S0 D cA p e s m args below meth c h0 H locs lsA x0 C g0 hR hS hl => lv_icmp_eq C.1 C.2.1 hdg ht (fun q => absurd q hP) (fun q => K.2 S0 D cA p e s m args below meth c h0 H locs lsA x0 C g0 hR hS hl)⟩
theorem jr_icmp_ne {x y : Int32} {off : Int} {tgt : Nat} {β : Type} {A B : Option β} {res : β} (hdg : decode cc pc = .ok (.if_icmp .ne off, 3)) (ht : (pc : Int) + off = (tgt : Int)) (Hq : (if x = y then A else B) = some res) (K1 : A = some res → jGo l d E own cc nL ret ini (pc + 3) ls st h r hf) (K2 : B = some res → jGo l d E own cc nL ret ini tgt ls st h r hf) : jGo l d E own cc nL ret ini pc ls (.int y :: .int x :: st) h r hf := by
  by_cases hP : x = y
  · have K := K1 (by rw [if_pos hP] at Hq; exact Hq)
    exact ⟨K.1, fun S0 D cA p e s m args below meth c h0 H locs lsA x0 C g0 hR hS hl => lv_icmp_ne C.1 C.2.1 hdg ht (fun q => absurd hP q) (fun q => K.2 S0 D cA p e s m args below meth c h0 H locs lsA x0 C g0 hR hS hl)⟩
  · have K := K2 (by rw [if_neg hP] at Hq; exact Hq)
    exact ⟨K.1, fun S0 D cA p e s m args below meth c h0 H locs lsA x0 C g0 hR hS hl => lv_icmp_ne C.1 C.2.1 hdg ht (fun q => K.2 S0 D cA p e s m args below meth c h0 H locs lsA x0 C g0 hR hS hl) (fun q => absurd q hP)⟩
theorem jr_icmp_lt {x y : Int32} {off : Int} {tgt : Nat} {β : Type} {A B : Option β} {res : β} (hdg : decode cc pc = .ok (.if_icmp .lt off, 3)) (ht : (pc : Int) + off = (tgt : Int)) (Hq : (if x < y then A else B) = some res) (K1 : A = some res → jGo l d E own cc nL ret ini tgt ls st h r hf) (K2 : B = some res → jGo l d E own cc nL ret ini (pc + 3) ls st h r hf) : jGo l d E own cc nL ret ini pc ls (.int y :: .int x :: st) h r hf := by
  by_cases hP : x < y
  · have K := K1 (by rw [if_pos hP] at Hq; exact Hq)
    exact ⟨K.1, fun S0 D cA p e s m args below meth c h0 H locs lsA x0 C g0 hR hS hl => lv_icmp_lt C.1 C.2.1 hdg ht (fun q => K.2 S0 D cA p e s m args below meth c h0 H locs lsA x0 C g0 hR hS hl) (fun q => absurd hP q)⟩
  · have K := K2 (by rw [if_neg hP] at Hq; exact Hq)
    exact ⟨K.1, fun S0 D cA p e s m args below meth c h0 H locs lsA x0 C g0 hR hS hl => lv_icmp_lt C.1 C.2.1 hdg ht (fun q => absurd q hP) (fun q => K.2 S0 D cA p e s m args below meth c h0 H locs lsA x0 C g0 hR hS hl)⟩
theorem jr_icmp_ge {x y : Int32} {off : Int} {tgt : Nat} {β : Type} {A B : Option β} {res : β} (hdg : decode cc pc = .ok (.if_icmp .ge off, 3)) (ht : (pc : Int) + off = (tgt : Int)) (Hq : (if y ≤ x then A else B) = some res) (K1 : A = some res → jGo l d E own cc nL ret ini tgt ls st h r hf) (K2 : B = some res → jGo l d E own cc nL ret ini (pc + 3) ls st h r hf) : jGo l d E own cc nL ret ini pc ls (.int y :: .int x :: st) h r hf := by
  by_cases hP : y ≤ x
  · have K := K1 (by rw [if_pos hP] at Hq; exact Hq)
    exact ⟨K.1, fun S0 D cA p e s m args below meth c h0 H locs lsA x0 C g0 hR hS hl => lv_icmp_ge C.1 C.2.1 hdg ht (fun q => K.2 S0 D cA p e s m args below meth c h0 H locs lsA x0 C g0 hR hS hl) (fun q => absurd hP q)⟩
  · have K := K2 (by rw [if_neg hP] at Hq; exact Hq)
    exact ⟨K.1, fun S0 D cA p e s m args below meth c h0 H locs lsA x0 C g0 hR hS hl => lv_icmp_ge C.1 C.2.1 hdg ht (fun q => absurd q hP) (fun q => K.2 S0 D cA p e s m args below meth c h0 H locs lsA x0 C g0 hR hS hl)⟩
theorem jr_icmp_gt {x y : Int32} {off : Int} {tgt : Nat} {β : Type} {A B : Option β} {res : β} (hdg : decode cc pc = .ok (.if_icmp .gt off, 3)) (ht : (pc : Int) + off = (tgt : Int)) (Hq : (if y < x then A else B) = some res) (K1 : A = some res → jGo l d E own cc nL ret ini tgt ls st h r hf) (K2 : B = some res → jGo l d E own cc nL ret ini (pc + 3) ls st h r hf) : jGo l d E own cc nL ret ini pc ls (.int y :: .int x :: st) h r hf := by
  by_cases hP : y < x
  · have K := K1 (by rw [if_pos hP] at Hq; exact Hq)
    exact ⟨K.1, fun S0 D cA p e s m args below meth c h0 H locs lsA x0 C g0 hR hS hl => lv_icmp_gt C.1 C.2.1 hdg ht (fun q => K.2 S0 D cA p e s m args below meth c h0 H locs lsA x0 C g0 hR hS hl) (fun q => absurd hP q)⟩
  · have K := K2 (by rw [if_neg hP] at Hq; exact Hq)
    exact ⟨K.1, fun S0 D cA p e s m args below meth c h0 H locs lsA x0 C g0 hR hS hl => lv_icmp_gt C.1 C.2.1 hdg ht (fun q => absurd q hP) (fun q => K.2 S0 D cA p e s m args below meth c h0 H locs lsA x0 C g0 hR hS hl)⟩
theorem jr_icmp_le {x y : Int32} {off : Int} {tgt : Nat} {β : Type} {A B : Option β} {res : β} (hdg : decode cc pc = .ok (.if_icmp .le off, 3)) (ht : (pc : Int) + off = (tgt : Int)) (Hq : (if x ≤ y then A else B) = some res) (K1 : A = some res → jGo l d E own cc nL ret ini tgt ls st h r hf) (K2 : B = some res → jGo l d E own cc nL ret ini (pc + 3) ls st h r hf) : jGo l d E own cc nL ret ini pc ls (.int y :: .int x :: st) h r hf := by
  by_cases hP : x ≤ y
  · have K := K1 (by rw [if_pos hP] at Hq; exact Hq)
    exact ⟨K.1, fun S0 D cA p e s m args below meth c h0 H locs lsA x0 C g0 hR hS hl => lv_icmp_le C.1 C.2.1 hdg ht (fun q => K.2 S0 D cA p e s m args below meth c h0 H locs lsA x0 C g0 hR hS hl) (fun q => absurd hP q)⟩
  · have K := K2 (by rw [if_neg hP] at Hq; exact Hq)
    exact ⟨K.1, fun S0 D cA p e s m args below meth c h0 H locs lsA x0 C g0 hR hS hl => lv_icmp_le C.1 C.2.1 hdg ht (fun q => absurd q hP) (fun q => K.2 S0 D cA p e s m args below meth c h0 H locs lsA x0 C g0 hR hS hl)⟩
theorem jr_table {dflt lo hi : Int} {offs : Array Int} {len : Nat} {x : Int32} {tgt : Nat} (hdg : decode cc pc = .ok (.tableswitch dflt lo hi offs, len)) (off : Int) (ho : (if x.toInt < lo ∨ hi < x.toInt then dflt else offs.getD (x.toInt - lo).toNat dflt) = off) (hsz : offs.size = (hi - lo + 1).toNat) (hlo : lo ≤ hi) (ht : (pc : Int) + off = (tgt : Int)) (K : jGo l d E own cc nL ret ini tgt ls st h r hf) : jGo l d E own cc nL ret ini pc ls (.int x :: st) h r hf := by
  refine ⟨K.1, fun S0 D cA p e s m args below meth c h0 H locs lsA x0 C g0 hR hS hl => ?_⟩
  by_cases hx : x.toInt < lo ∨ hi < x.toInt
  · rw [if_pos hx] at ho
    subst ho
    exact lv_tableOut C.1 C.2.1 hdg hx ht (K.2 S0 D cA p e s m args below meth c h0 H locs lsA x0 C g0 hR hS hl)
  · rw [if_neg hx] at ho
    have hlt : (x.toInt - lo).toNat < offs.size := by omega
    refine lv_tableIn (off := off) C.1 C.2.1 hdg (fun q => hx (Or.inl q)) (fun q => hx (Or.inr q)) ?_ ht (K.2 S0 D cA p e s m args below meth c h0 H locs lsA x0 C g0 hR hS hl)
    rw [← ho, Array.getD_eq_getD_getElem?, Array.getElem?_eq_getElem hlt]
    rfl
theorem jr_lookup {dflt : Int} {ps : Array (Int × Int)} {len : Nat} {x : Int32} {tgt : Nat} (hdg : decode cc pc = .ok (.lookupswitch dflt ps, len)) (hp : (ps.toList.zip (ps.toList.drop 1)).all (fun (a, next) => a.1 < next.1) = true) (off : Int) (ho : Op.lookupswitch.offset ps.toList dflt x.toInt = off) (ht : (pc : Int) + off = (tgt : Int)) (K : jGo l d E own cc nL ret ini tgt ls st h r hf) : jGo l d E own cc nL ret ini pc ls (.int x :: st) h r hf :=
  ⟨K.1, fun S0 D cA p e s m args below meth c h0 H locs lsA x0 C g0 hR hS hl => lv_lookup C.1 C.2.1 hdg hp ho ht (K.2 S0 D cA p e s m args below meth c h0 H locs lsA x0 C g0 hR hS hl)⟩
end
