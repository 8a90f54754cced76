/-! WHAT IS THROWN AND CAUGHT, AND THE LAW'S SCRIPT -/
def jPcZ (S0 : Nat) (D : va_G) (cA : Nat → ClassId) (h : jH) (av : List Value) : Array Value → State → Prop := fun v U => jPc S0 D cA h av v U ∧ jZ S0 U
/-- a contract of a method that throws NoSuchElementException -/
def jMetX (l : Launch) (d : Nat) (y : MethodName) (cc : ByteArray) (nL : Nat) (ret : Option FieldType) (av : List Value) (h hf : jH) : Prop :=
  (jh_n h ≤ jh_n hf ∧ jh_s h ≤ jh_s hf) ∧ ∀ (S0 : Nat) (D : va_G) (cA : Nat → ClassId), vx_Met l y (Cond.code y cc nL ret :: jTB) (jRoom d (jh_n hf - jh_n h) (jh_s hf - jh_s h)) (jPcZ S0 D cA h av) (fun _ _ _ _ => False) (jXC S0 D cA hf) (jh_n hf - jh_n h) (jh_s hf - jh_s h) (fun q => S0 ≤ q)
/-- a contract of a method with a table of what it catches -/
def jMetH (l : Launch) (d : Nat) (y : MethodName) (cc : ByteArray) (nL : Nat) (ret : Option FieldType) (hh : List (Nat × Nat × Nat × Nat)) (av : List Value) (h : jH) (r : Option Value) (hf : jH) : Prop :=
  (jh_n h ≤ jh_n hf ∧ jh_s h ≤ jh_s hf) ∧ ∀ (S0 : Nat) (D : va_G) (cA : Nat → ClassId), Met l y (Cond.codeWith y cc nL ret hh :: jTB) (jRoom d (jh_n hf - jh_n h) (jh_s hf - jh_s h)) (jPcZ S0 D cA h av) (jQ S0 D cA (r.map (j_v S0)) hf) (jh_n hf - jh_n h) (jh_s hf - jh_s h) (fun q => S0 ≤ q)
theorem j_cat_len (S0 : Nat) (av : List Value) : (lg_sl (av.map (j_v S0))).length = (lg_sl av).length := by
  induction av with
  | nil => rfl
  | cons a t ih =>
    simp only [lg_sl, List.map_cons, List.flatMap_cons, List.length_append, j_v_cat] at ih ⊢
    rw [ih]
    congr 1
    split <;> rfl
theorem jMetX.of {l : Launch} {d : Nat} {y : MethodName} {cc : ByteArray} {nL : Nat} {ret : Option FieldType} {av : List Value} {h hf : jH} (ls : List (Option Value))
    (hy : plainName y.cls = true) (hlen : (lg_sl av).length ≤ nL) (hls : ∀ S0, ∀ q ∈ j_l S0 0 ls, q ∈ lv_args 0 (av.map (j_v S0)))
    (K : jGo l d (some (.inl [])) y.cls cc nL ret false 0 ls [] h (some (.retAddr 0)) hf) : jMetX l d y cc nL ret av h hf := by
  refine ⟨K.1, fun S0 D cA => ?_⟩
  refine vx_ofW (cc := cc) (maxL := nL) (ret := ret) hy rfl ?_
  intro p e s m args below meth c s₁ B hml htb hv
  obtain ⟨⟨rfl, hS0, hK, hR⟩, hZ⟩ := hv
  have hts0 := atoms_spec (ws := Cond.code y cc nL ret :: jTB) B.pre
  have hts : ∀ w ∈ jTB, w.before (List.map (j_v S0) av).toArray s = true := fun w hw => hts0 w (List.mem_cons_of_mem _ hw)
  have hown : s.vm.findClass y.cls = some m.cls := findClass_of_methodNamed B.named
  have hl := lv_entry (av.map (j_v S0)) (n := nL) (by rw [j_cat_len]; exact hlen)
  rw [lg_entry_eq]
  have hl2 : lv_has ((lg_sl (av.map (j_v S0)) ++ List.replicate (nL - (lg_sl (av.map (j_v S0))).length) Slot.unset).toArray) nL ([] ++ j_l S0 0 ls) := ⟨hl.1, hl.2.1, fun q hq => hl.2.2 q (hls S0 q hq)⟩
  have htab : c.exceptionTable.toList = tableOf [] := by
    cases hc : c.exceptionTable.toList with
    | nil => rfl
    | cons z t => exact (htb z (by rw [hc]; exact List.mem_cons_self)).elim
  have k := K.2 S0 D cA p e s m (List.map (j_v S0) av).toArray below meth c h s.heap [] _ [] ⟨B.exec, B.bytes, hml, B.returns, B.notSynchronized, hown, hts, hK, hS0, (fun hi => by cases hi), rfl, htab, hZ⟩ ⟨Nat.le_refl _, Nat.le_refl _⟩ hR va_S.rf hl2
  rw [Nat.sub_self, Nat.sub_self] at k
  exact k
theorem jMetH.of {l : Launch} {d : Nat} {y : MethodName} {cc : ByteArray} {nL : Nat} {ret : Option FieldType} {hh : List (Nat × Nat × Nat × Nat)} {av : List Value} {h : jH} {r : Option Value} {hf : jH} (ls : List (Option Value)) (hrk : jRok r = true)
    (hy : plainName y.cls = true) (hlen : (lg_sl av).length ≤ nL) (hls : ∀ S0, ∀ q ∈ j_l S0 0 ls, q ∈ lv_args 0 (av.map (j_v S0)))
    (K : jGo l d (some (.inl hh)) y.cls cc nL ret false 0 ls [] h r hf) : jMetH l d y cc nL ret hh av h r hf := by
  refine ⟨K.1, fun S0 D cA => ?_⟩
  refine MetFree.of_bodyS (code := cc) (maxLocals := nL) (ret := ret) hy ?_ ?_
  · intro args s m h9 hn
    obtain ⟨m9, meth, c, hn9, h1, h2, h3, h4, -, h5, h6, -⟩ := Cond.codeWith_spec (atoms_spec (ws := Cond.codeWith y cc nL ret hh :: jTB) h9 _ List.mem_cons_self)
    cases hn.symm.trans hn9
    exact ⟨meth, c, h1, h2, h3, h4, h5, h6⟩
  · intro p e s m args below meth c s₁ B hml hv _
    have hh0 : s₁.heap = s.heap := by rw [B.state]; rfl
    obtain ⟨⟨rfl, hS0, hK, hR⟩, hZ⟩ := hv
    have hts0 := atoms_spec (ws := Cond.codeWith y cc nL ret hh :: jTB) B.pre
    have hts : ∀ w ∈ jTB, w.before (List.map (j_v S0) av).toArray s = true := fun w hw => hts0 w (List.mem_cons_of_mem _ hw)
    have hown : s.vm.findClass y.cls = some m.cls := findClass_of_methodNamed B.named
    have htab : c.exceptionTable.toList = tableOf hh := vx_table (x := y) B (hts0 _ List.mem_cons_self)
    have hl := lv_entry (av.map (j_v S0)) (n := nL) (by rw [j_cat_len]; exact hlen)
    have hl2 : lv_has ((lg_sl (av.map (j_v S0)) ++ List.replicate (nL - (lg_sl (av.map (j_v S0))).length) Slot.unset).toArray) nL ([] ++ j_l S0 0 ls) := ⟨hl.1, hl.2.1, fun q hq => hl.2.2 q (hls S0 q hq)⟩
    have k := K.2 S0 D cA p e s m (List.map (j_v S0) av).toArray below meth c h s.heap [] _ [] ⟨B.exec, B.bytes, hml, B.returns, B.notSynchronized, hown, hts, hK, hS0, (fun hi => by cases hi), rfl, htab, hZ⟩ ⟨Nat.le_refl _, Nat.le_refl _⟩ hR va_S.rf hl2
    rw [Nat.sub_self, Nat.sub_self, jF_ok hrk] at k
    rw [show List.map (j_v S0) ([] : List Value) = [] from rfl, ← lg_entry_eq m (List.map (j_v S0) av) nL] at k
    obtain ⟨t, a1, o, b1, b2, b3⟩ := k s₁ hh0 (Stand.of_body B)
    exact ⟨t, o, a1, b1, b2, ⟨b3.1, b3.2⟩⟩
section
variable {l : Launch} {d : Nat} {E : jE} {own : String} {cc : ByteArray} {nL : Nat} {ret : Option FieldType} {ini : Bool} {pc : Nat} {ls : List (Option Value)} {st : List Value} {h : jH} {r : Option Value} {hf : jH}
/-- the words of 'throw new NoSuchElementException()' in TollOnVowels -/
def jTW : List Cond := vx_at0 RX10 141 "java/util/NoSuchElementException" ["java/lang/RuntimeException", "java/lang/Exception"]
theorem jr_throw0 (hlt : l.stackTraces = false) (hown0 : own = RX10) (hk0 : Cond.classLink RX10 139 "java/util/NoSuchElementException" ∈ jTB) (hi0 : Cond.initialized "java/util/NoSuchElementException" ∈ jTB) (hat0 : ∀ w ∈ jTW, w ∈ jTB)
    (hgood : ∀ w ∈ Cond.classLink RX10 139 "java/util/NoSuchElementException" :: Cond.initialized "java/util/NoSuchElementException" :: jTW, vx_ot w = true)
    (d0 : decode cc pc = .ok (.new 139, 3)) (d3 : decode cc (pc + 3) = .ok (.dup, 1)) (d4 : decode cc (pc + 4) = .ok (.invokespecial 141, 3)) (d7 : decode cc (pc + 7) = .ok (.athrow, 1)) (hst : (st.map fun v => v.category).sum ≤ 8)
    {α : Type} (Hq : some ((none : Option α), js_N h (999, 0) 6) = some (none, hf)) : jGo l (d + 6) (some (.inl [])) own cc nL ret ini pc ls st h (some (.retAddr 0)) hf := by
  cases Hq
  refine ⟨⟨Nat.le_succ _, Nat.le_add_right _ _⟩, fun S0 D cA p e s m args below meth c h0 H locs lsA x0 C g0 hR hS hl => ?_⟩
  obtain ⟨hx, hb, hml, -, hlk, hown, hts, hK, hS0, -, -, htab, hZ⟩ := id C
  subst hown0
  have n1 : jh_n (js_N h (999, 0) 6) = jh_n h + 1 := rfl
  have n2 : jh_s (js_N h (999, 0) 6) = jh_s h + 6 := rfl
  refine vx_throw0 (A := fun q => S0 ≤ q) (names := ["java/lang/RuntimeException", "java/lang/Exception"]) hx hb hlt hown (by decide) (by decide) (hts _ hk0) (hts _ hi0) (fun w hw => hts w (hat0 w hw)) hgood hZ.1 hZ.2 hS (by rw [hml]; exact hl.1) d0 d3 d4 d7 (fun z hz => by rw [htab] at hz; cases hz) (show 2 + 3 < d + 6 by omega) ?_ (show _ + 1 ≤ jh_n (js_N h (999, 0) 6) - jh_n h0 by rw [n1]; omega) (show _ + 6 ≤ jh_s (js_N h (999, 0) 6) - jh_s h0 by rw [n2]; omega) hlk (fun t hal hsz hsame => ⟨rfl, ?_, fun q hq => ?_⟩) hS.2.2 (by rw [n1]; omega) (by rw [n2]; omega)
  · show _ ≤ 100 * (d + 6)
    rw [j_cats]
    show _ + (13 * (2 + 1) + 42) ≤ _
    omega
  · refine j_rel_new hR hsz hsame ⟨fun c q hcq hq => ?_, fun t ht ho => ?_, fun ht => ?_, fun ht => ?_⟩
    · rw [j_N_sh] at hcq
      have := j_big hq
      have hc1 := congrArg Prod.fst hcq
      simp only at hc1
      omega
    · rw [j_N_sh] at ht
      simp only at ht
      omega
    · rw [j_N_sh] at ht
      simp at ht
    · rw [j_N_sh] at ht
      simp at ht
  · rw [hsame q (by rw [hR.1]; omega)]
    exact hS.2.1 q (Nat.lt_of_lt_of_le hq hS0) (Nat.not_le.mpr hq)
theorem jX_Z {S0 : Nat} {s : State} {c : Code} {x0 : List (Nat × Value)} (hE : E.isSome = true) (h : jX E S0 s c x0) : jZ S0 s := by
  rcases E with _ | hh | z
  · cases hE
  · exact h.2.2
  · exact h.2
theorem jZ_at {S0 : Nat} {s U : State} {H : Heap} {locs : List Loc} (hZ : jZ S0 s) (hS : va_S (fun q => S0 ≤ q) s.heap H locs) (hU : U.heap = H) (hW : s.WarmedH U.vm) : jZ S0 U := by
  refine ⟨?_, ?_⟩
  · rw [hU]
    exact vx_Zq.moved hW.alike (hZ.1.kept hS.2.1)
  · rw [hU]
    exact vx_Zq.moved hW.alike (hZ.2.kept hS.2.1)
theorem j_blindZ {S0 : Nat} {D : va_G} {cA : Nat → ClassId} {av : List Value} : FrameBlind (jPcZ S0 D cA h av) := by
  intro a U g mk q
  obtain ⟨q0, q1, q2⟩ := q
  exact ⟨j_blind a U g mk q0, vx_Zq.moved (u := U) (U := U.calling g mk a) (Vm.Alike.refl U.vm) q1, vx_Zq.moved (u := U) (U := U.calling g mk a) (Vm.Alike.refl U.vm) q2⟩
theorem j_setN {S0 : Nat} {x0 : List (Nat × Value)} {i q9 : Nat} {s : State} {c : Code} (hX : jX E S0 s c x0) (hz : jEl E = false ∨ i ≠ 0) (hok : j_ok ls i = true) (ls' : Array Slot) (hl : lv_has ls' nL ((i, Value.ref q9) :: (x0 ++ j_l S0 0 ls).filter (fun q => !(q.1 == i) && !(q.1 + 1 == i && q.2.category == 2)))) : lv_has ls' nL (x0 ++ j_l S0 0 (ls.set i none)) := by
  refine ⟨hl.1, hl.2.1, fun q hq => hl.2.2 q ?_⟩
  rcases List.mem_append.mp hq with hq | hq
  · refine List.mem_cons_of_mem _ (List.mem_filter.mpr ⟨List.mem_append_left _ hq, ?_⟩)
    rcases j_x0 hX hz q hq with ⟨a1, a2⟩ | ⟨a1, a2⟩ <;> simp [a1, a2]
  · obtain ⟨j, w, e1, e2⟩ := j_l_of hq
    rw [Nat.zero_add] at e1
    by_cases hj : j = i
    · subst hj
      rw [List.getElem?_set] at e2
      simp at e2
    · rw [List.getElem?_set_ne (Ne.symm hj)] at e2
      have hm := j_l_mem (S0 := S0) (b := 0) e2
      rw [Nat.zero_add] at hm
      refine List.mem_cons_of_mem _ (List.mem_filter.mpr ⟨List.mem_append_right _ (by rw [e1]; exact hm), ?_⟩)
      rw [e1]
      simp only [Bool.and_eq_true, Bool.not_eq_true', beq_eq_false_iff_ne, ne_eq, Bool.and_eq_false_iff, beq_eq_false_iff_ne]
      refine ⟨hj, ?_⟩
      by_cases h2 : j + 1 = i
      · right
        subst h2
        simp only [j_ok, e2, bne_iff_ne, ne_eq] at hok
        rw [j_v_cat]
        exact hok
      · exact Or.inl h2
/-- a call that throws, caught here: the handler keeps what was thrown in a local that nobody reads -/
theorem jr_catch {idx i0 e0 hp ct i : Nat} {y : MethodName} {ccc : ByteArray} {nLc n ci : Nat} {retc : Option FieldType} {a : Nat} {stk : List Value} {h' : jH} (As : List Value) (M : jMy y ccc nLc retc n) (MV : jMyV y) (hlk : Cond.methodLink own idx y ∈ jTB) (hdg : decode cc pc = .ok (.invokevirtual idx, 3)) (hn : As.length = n) (hstk : stk = As.reverse ++ .ref a :: st) (hst : (st.map fun v => v.category).sum ≤ 8)
    (hci : (vwCl[ci]?).map (fun q => q.1) = some y.cls) (hM : jh_sh h a = (ci, 0) ∧ jMetX l d y ccc nLc retc (.ref a :: As) h h') (hcov : covers ⟨i0, e0, hp, ct⟩ pc = true) (hct : ct ≠ 0) (hcl : Cond.classLink own ct "java/util/NoSuchElementException" ∈ jTB) (hca : Cond.castable "java/util/NoSuchElementException" "java/util/NoSuchElementException" ∈ jTB)
    (hda : decode cc hp = .ok (.astore i, 2)) (hin : i < nL) (hok : j_ok ls i = true)
    (K : jGo l (d + 1) (some (.inl [(i0, e0, hp, ct)])) own cc nL ret ini (hp + 2) (ls.set i none) [] h' r hf) : jGo l (d + 1) (some (.inl [(i0, e0, hp, ct)])) own cc nL ret ini pc ls stk h r hf := by
  obtain ⟨hsh, hm, hM⟩ := hM
  refine ⟨⟨Nat.le_trans hm.1 K.1.1, Nat.le_trans hm.2 K.1.2⟩, fun S0 D cA p e s m args below meth c h0 H locs lsA x0 C g0 hR hS hl => ?_⟩
  obtain ⟨hx, hb, hml, -, -, hown, hts, hK, hS0, -, hX⟩ := id C
  obtain ⟨-, htab, hZ⟩ := id hX
  obtain ⟨q, hq, hqc⟩ := Option.map_eq_some_iff.mp hci
  obtain ⟨cell, q1, q2, q3, -⟩ := (hR.2 a).1 ci q hsh hq
  have hfc : s.vm.findClass y.cls = some cell.cls := by rw [← hqc, q2]; exact (hK.1 ci q hq).2.1
  subst hstk
  have hr : vx_Run p l e (jRoom (d + 1) (jh_n hf - jh_n h0) (jh_s hf - jh_s h0)) s m args below meth c H locs (jh_n h - jh_n h0) (jh_s h - jh_s h0) (jh_n h' - jh_n h) (jh_s h' - jh_s h) (F0 m pc lsA (List.map (j_v S0) (As.reverse ++ .ref a :: st))) (st.map (j_v S0)) (fun _ _ _ => False) (jXC S0 D cA h') (fun q => S0 ≤ q) := by
    refine vx_runV (As := As.map (j_v S0)) (b := S0 + a) (C := y.cls) (n := n) ⟨hx, hb, hml, hown, hts⟩ (hM S0 D cA) ⟨⟨rfl, rfl, (j_room M.2.2.2.2).1, (j_room M.2.2.2.2).2, j_tb_warm hts M.1, List.mem_cons_self, hts _ M.1, hts _ M.2.1, M.2.2.1, fun sig hsg => ?_, hts _ hlk⟩, hts _ MV.1, hts _ MV.2⟩ ⟨j_blindZ, ⟨cell, q1, by rw [q3]; rfl, hfc⟩, fun U hU hW => ⟨⟨rfl, by rw [hU]; exact Nat.le_trans hS0 hS.1, va_K.moved hW.alike hK, by rw [hU]; exact hR⟩, jZ_at hZ hS hU hW⟩⟩ rfl (by rw [List.length_map]; exact hn) hl.1 ?_ ?_ hdg ⟨show _ ≤ jh_n hf - jh_n h0 from by have := K.1.1; omega, show _ ≤ jh_s hf - jh_s h0 from by have := K.1.2; omega⟩
    · have := M.2.2.2.1
      rw [hsg] at this
      exact (Option.some.inj this).symm
    · show List.map (j_v S0) (As.reverse ++ .ref a :: st) = _
      rw [List.map_append, List.map_reverse]
      rfl
    · show 2 * 0 + _ ≤ 8
      rw [j_cats]
      omega
  intro T hT X
  rcases hr T hT X with ⟨v, st₀, t, T', L, e1, X', hL, e2, e3, hno, -⟩ | ⟨q9, st₀, t, T', L, E9, ce, e1, X', hL, e2, e3, ⟨hE9, hR', hlow⟩, hce, hcv, hcl9, hsteps⟩
  · exact hno.elim
  · subst hE9
    obtain ⟨c3, c4, hc3, hc4, hasg⟩ := Cond.castable_spec (hts _ hca)
    cases Option.some.inj (hc3.symm.trans hcl9)
    have hce' : T'.heap[q9]? = some ce := by rw [e2]; exact hce
    obtain ⟨vm', X2, st2⟩ := j_take X' q9 (g := F0 m pc lsA (st.map (j_v S0))) rfl hown (x := ⟨i0, e0, hp, ct⟩) (by rw [htab]; rfl) hcov hct (hts _ hcl) hc4 hce' hcv hasg
    have hsz : H.size ≤ t.heap.size := by rw [hR.1, hR'.1]; omega
    have hS' : va_S (fun q => S0 ≤ q) s.heap t.heap (locs ++ L) := by
      refine ⟨Nat.le_trans hS.1 hsz, fun q h1 h2 => ?_, fun q hq => ?_⟩
      · rw [hlow q (Nat.not_le.mp h2), e1]
        exact hS.2.1 q h1 h2
      · rcases List.mem_append.mp hq with z | z
        · exact hS.2.2 q z
        · exact hL q z
    have c1 : jh_n h' - jh_n h0 = jh_n h - jh_n h0 + (jh_n h' - jh_n h) := by omega
    have c2 : jh_s h' - jh_s h0 = jh_s h - jh_s h0 + (jh_s h' - jh_s h) := by omega
    have w : W p l e (jRoom (d + 1) (jh_n hf - jh_n h0) (jh_s hf - jh_s h0)) s m args below meth c t.heap (locs ++ L) (jh_n h' - jh_n h0) (jh_s h' - jh_s h0) (jF S0 D cA below r hf args s (jh_n hf - jh_n h0) (jh_s hf - jh_s h0)) (F0 m hp lsA [.ref q9]) :=
      lv_astore hx hb hda hl hin rfl (fun ls2 hl2 => K.2 S0 D cA p e s m args below meth c h0 t.heap (locs ++ L) ls2 x0 C ⟨by omega, by omega⟩ hR' hS' (j_setN (E := some (.inl [(i0, e0, hp, ct)])) hX (Or.inl rfl) hok ls2 hl2))
    rw [c1, c2] at w
    obtain ⟨t2, a1, b1⟩ := w (T'.setVm vm') (by rw [← e2]; rfl) X2
    exact ⟨t2, hsteps.trans (st2 _ a1), b1⟩
/-- a call that throws, caught here: the handler keeps what was thrown in a local that nobody reads -/
theorem jr_catchN {idx i0 e0 hp ct i : Nat} {y : MethodName} {ccc : ByteArray} {nLc n ci : Nat} {retc : Option FieldType} {a : Nat} {stk : List Value} {h' : jH} (As : List Value) (M : jMy y ccc nLc retc n) (MV : jMyV y) (hlk : Cond.methodLink own idx y ∈ jTB) (hdg : decode cc pc = .ok (.invokevirtual idx, 3)) (hn : As.length = n) (hstk : stk = As.reverse ++ .ref a :: st) (hst : (st.map fun v => v.category).sum ≤ 8)
    (hci : (vwCl[ci]?).map (fun q => q.1) = some y.cls) (hM : jh_sh h a = (ci, 0) ∧ jMetX l d y ccc nLc retc (.ref a :: As) h h') (hcov : covers ⟨i0, e0, hp, ct⟩ pc = true) (hct : ct ≠ 0) (hcl : Cond.classLink own ct "java/util/NoSuchElementException" ∈ jTB) (hca : Cond.castable "java/util/NoSuchElementException" "java/util/NoSuchElementException" ∈ jTB)
    {k4 : Fin 4} (hda : decode cc hp = .ok (.astore_n k4, 1)) (hk4 : (k4 : Nat) = i) (hin : i < nL) (hok : j_ok ls i = true)
    (K : jGo l (d + 1) (some (.inl [(i0, e0, hp, ct)])) own cc nL ret ini (hp + 1) (ls.set i none) [] h' r hf) : jGo l (d + 1) (some (.inl [(i0, e0, hp, ct)])) own cc nL ret ini pc ls stk h r hf := by
  obtain ⟨hsh, hm, hM⟩ := hM
  refine ⟨⟨Nat.le_trans hm.1 K.1.1, Nat.le_trans hm.2 K.1.2⟩, fun S0 D cA p e s m args below meth c h0 H locs lsA x0 C g0 hR hS hl => ?_⟩
  obtain ⟨hx, hb, hml, -, -, hown, hts, hK, hS0, -, hX⟩ := id C
  obtain ⟨-, htab, hZ⟩ := id hX
  obtain ⟨q, hq, hqc⟩ := Option.map_eq_some_iff.mp hci
  obtain ⟨cell, q1, q2, q3, -⟩ := (hR.2 a).1 ci q hsh hq
  have hfc : s.vm.findClass y.cls = some cell.cls := by rw [← hqc, q2]; exact (hK.1 ci q hq).2.1
  subst hstk
  have hr : vx_Run p l e (jRoom (d + 1) (jh_n hf - jh_n h0) (jh_s hf - jh_s h0)) s m args below meth c H locs (jh_n h - jh_n h0) (jh_s h - jh_s h0) (jh_n h' - jh_n h) (jh_s h' - jh_s h) (F0 m pc lsA (List.map (j_v S0) (As.reverse ++ .ref a :: st))) (st.map (j_v S0)) (fun _ _ _ => False) (jXC S0 D cA h') (fun q => S0 ≤ q) := by
    refine vx_runV (As := As.map (j_v S0)) (b := S0 + a) (C := y.cls) (n := n) ⟨hx, hb, hml, hown, hts⟩ (hM S0 D cA) ⟨⟨rfl, rfl, (j_room M.2.2.2.2).1, (j_room M.2.2.2.2).2, j_tb_warm hts M.1, List.mem_cons_self, hts _ M.1, hts _ M.2.1, M.2.2.1, fun sig hsg => ?_, hts _ hlk⟩, hts _ MV.1, hts _ MV.2⟩ ⟨j_blindZ, ⟨cell, q1, by rw [q3]; rfl, hfc⟩, fun U hU hW => ⟨⟨rfl, by rw [hU]; exact Nat.le_trans hS0 hS.1, va_K.moved hW.alike hK, by rw [hU]; exact hR⟩, jZ_at hZ hS hU hW⟩⟩ rfl (by rw [List.length_map]; exact hn) hl.1 ?_ ?_ hdg ⟨show _ ≤ jh_n hf - jh_n h0 from by have := K.1.1; omega, show _ ≤ jh_s hf - jh_s h0 from by have := K.1.2; omega⟩
    · have := M.2.2.2.1
      rw [hsg] at this
      exact (Option.some.inj this).symm
    · show List.map (j_v S0) (As.reverse ++ .ref a :: st) = _
      rw [List.map_append, List.map_reverse]
      rfl
    · show 2 * 0 + _ ≤ 8
      rw [j_cats]
      omega
  intro T hT X
  rcases hr T hT X with ⟨v, st₀, t, T', L, e1, X', hL, e2, e3, hno, -⟩ | ⟨q9, st₀, t, T', L, E9, ce, e1, X', hL, e2, e3, ⟨hE9, hR', hlow⟩, hce, hcv, hcl9, hsteps⟩
  · exact hno.elim
  · subst hE9
    obtain ⟨c3, c4, hc3, hc4, hasg⟩ := Cond.castable_spec (hts _ hca)
    cases Option.some.inj (hc3.symm.trans hcl9)
    have hce' : T'.heap[q9]? = some ce := by rw [e2]; exact hce
    obtain ⟨vm', X2, st2⟩ := j_take X' q9 (g := F0 m pc lsA (st.map (j_v S0))) rfl hown (x := ⟨i0, e0, hp, ct⟩) (by rw [htab]; rfl) hcov hct (hts _ hcl) hc4 hce' hcv hasg
    have hsz : H.size ≤ t.heap.size := by rw [hR.1, hR'.1]; omega
    have hS' : va_S (fun q => S0 ≤ q) s.heap t.heap (locs ++ L) := by
      refine ⟨Nat.le_trans hS.1 hsz, fun q h1 h2 => ?_, fun q hq => ?_⟩
      · rw [hlow q (Nat.not_le.mp h2), e1]
        exact hS.2.1 q h1 h2
      · rcases List.mem_append.mp hq with z | z
        · exact hS.2.2 q z
        · exact hL q z
    have c1 : jh_n h' - jh_n h0 = jh_n h - jh_n h0 + (jh_n h' - jh_n h) := by omega
    have c2 : jh_s h' - jh_s h0 = jh_s h - jh_s h0 + (jh_s h' - jh_s h) := by omega
    have w : W p l e (jRoom (d + 1) (jh_n hf - jh_n h0) (jh_s hf - jh_s h0)) s m args below meth c t.heap (locs ++ L) (jh_n h' - jh_n h0) (jh_s h' - jh_s h0) (jF S0 D cA below r hf args s (jh_n hf - jh_n h0) (jh_s hf - jh_s h0)) (F0 m hp lsA [.ref q9]) :=
      lv_astore_n hx hb hda hk4 hl hin rfl (fun ls2 hl2 => K.2 S0 D cA p e s m args below meth c h0 t.heap (locs ++ L) ls2 x0 C ⟨by omega, by omega⟩ hR' hS' (j_setN (E := some (.inl [(i0, e0, hp, ct)])) hX (Or.inl rfl) hok ls2 hl2))
    rw [c1, c2] at w
    obtain ⟨t2, a1, b1⟩ := w (T'.setVm vm') (by rw [← e2]; rfl) X2
    exact ⟨t2, hsteps.trans (st2 _ a1), b1⟩
/-- what a method gave, or that it threw -/
def j_b3 {α β : Type} (o : Option (Option α × jH)) (k : α → jH → Option β) (kx : jH → Option β) : Option β := match o with
  | none => none
  | some (some v, h) => k v h
  | some (none, h) => kx h
theorem j_b3_some {α β : Type} {o : Option (Option α × jH)} {k : α → jH → Option β} {kx : jH → Option β} {res : β} (H : j_b3 o k kx = some res) : (∃ v h, o = some (some v, h) ∧ k v h = some res) ∨ ∃ h, o = some (none, h) ∧ kx h = some res := by
  rcases o with _ | ⟨_ | v, h⟩
  · cases H
  · exact Or.inr ⟨h, rfl, H⟩
  · exact Or.inl ⟨v, h, rfl, H⟩
/-- a static call of a method with a table -/
theorem jr_callSH {idx : Nat} {y : MethodName} {ccc : ByteArray} {nLc n : Nat} {retc : Option FieldType} {hh : List (Nat × Nat × Nat × Nat)} {stk : List Value} {rv : Option Value} {h' : jH} (As : List Value) (hE : E.isSome = true) (M1 : Cond.codeWith y ccc nLc retc hh ∈ jTB) (M2 : Cond.initialized y.cls ∈ jTB) (M3 : y.cls ≠ "java/lang/invoke/MethodHandle" ∧ y.cls ≠ "java/lang/invoke/VarHandle") (M4 : (parseMethodDescriptor y.desc).map (fun d => d.parameters.length) = some n) (M5 : nLc ≤ 40) (MS : Cond.static y ∈ jTB) (hlk : Cond.methodLink own idx y ∈ jTB) (hdg : decode cc pc = .ok (.invokestatic idx, 3)) (hn : As.length = n) (hstk : stk = As.reverse ++ st) (hst : (st.map fun v => v.category).sum ≤ 8)
    (hM : jMetH l d y ccc nLc retc hh As h rv h') (K : jGo l (d + 1) E own cc nL ret ini (pc + 3) ls (rv.toList ++ st) h' r hf) : jGo l (d + 1) E own cc nL ret ini pc ls stk h r hf := by
  obtain ⟨hm, hM⟩ := hM
  refine ⟨⟨Nat.le_trans hm.1 K.1.1, Nat.le_trans hm.2 K.1.2⟩, fun S0 D cA p e s m args below meth c h0 H locs lsA x0 C g0 hR hS hl => ?_⟩
  obtain ⟨hx, hb, hml, -, -, hown, hts, hK, hS0, -, hX⟩ := id C
  have hZ := jX_Z hE hX
  refine j_after (aa := (As.map (j_v S0)).toArray) C g0 hm hR hS hl ?_ K
  subst hstk
  have hws : ∀ w ∈ (Cond.codeWith y ccc nLc retc hh :: jTB), ∀ (a' : Array Value) (U : State), s.WarmedH U.vm → w.before a' U = true := by
    intro w hw a' U hW
    have hw' : w ∈ jTB := by
      rcases List.mem_cons.mp hw with e | e
      · rw [e]; exact M1
      · exact e
    exact j_w_warm hW (List.mem_filter.mp hw').2 (hts w hw')
  refine vx_runSW (As := As.map (j_v S0)) (n := n) (hh := hh) ⟨hx, hb, hml, hown, hts⟩ (hM S0 D cA) ⟨⟨rfl, rfl, (j_room M5).1, (j_room M5).2, hws, List.mem_cons_self⟩, hts _ M1, hts _ M2, M3, fun sig hsg => ?_, hts _ hlk, hts _ MS⟩ ⟨j_blindZ, fun U hU hW => ⟨⟨rfl, by rw [hU]; exact Nat.le_trans hS0 hS.1, va_K.moved hW.alike hK, by rw [hU]; exact hR⟩, jZ_at hZ hS hU hW⟩⟩ rfl (by rw [List.length_map]; exact hn) hl.1 ?_ ?_ hdg ⟨show _ ≤ jh_n hf - jh_n h0 from by have := K.1.1; omega, show _ ≤ jh_s hf - jh_s h0 from by have := K.1.2; omega⟩
  · rw [hsg] at M4
    exact (Option.some.inj M4).symm
  · show List.map (j_v S0) (As.reverse ++ st) = _
    rw [List.map_append, List.map_reverse]
  · show 2 * 0 + _ ≤ 8
    rw [j_cats]
    omega
/-- an int of the script -/
def j_scr (L : Nat) (xs : Nat → Int32) (i : Int32) : Option Int32 := if j_x i L = true then some (xs i.toNatClampNeg) else none
theorem jr_scr0 {L : Nat} {xs : Nat → Int32} {i : Nat} {x : Int32} {β : Type} {f : Int32 → Option β} {res : β} (d0 : decode cc pc = .ok (.aload_n 0, 1)) (d1 : decode cc (pc + 1) = .ok (.iload i, 2)) (d3 : decode cc (pc + 3) = .ok (.iaload, 1)) (hl0 : ls[i]? = some (some (.int x))) (Hq : (j_scr L xs x).bind f = some res)
    (K : ∀ v : Int32, f v = some res → jGo l d (some (.inr (L, xs))) own cc nL ret ini (pc + 4) ls (.int v :: st) h r hf) : jGo l d (some (.inr (L, xs))) own cc nL ret ini pc ls st h r hf := by
  obtain ⟨v, h1, h2⟩ := Option.bind_eq_some_iff.mp Hq
  unfold j_scr at h1
  split at h1
  · rename_i hi
    cases h1
    have K := K _ h2
    refine ⟨K.1, fun S0 D cA p e s m args below meth c h0 H locs lsA x0 C g0 hR hS hl => ?_⟩
    obtain ⟨hx, hb, -, -, -, -, -, -, hS0, -, ⟨b, e0, hXb, hbl, hsz⟩, -⟩ := id C
    have hb0 : lsA[0]? = some (.val (.ref b)) := hl.2.2 (0, .ref b) (by rw [e0]; exact List.mem_append_left _ List.mem_cons_self)
    refine lv_aload_n hx hb d0 rfl hb0 ?_
    refine lv_iload hx hb d1 (j_loc hl hl0) ?_
    exact va_sld hx hb hXb (Nat.lt_of_lt_of_le hbl hS0) (Nat.not_le.mpr hbl) hS (j_x_in hi) d3 (K.2 S0 D cA p e s m args below meth c h0 H locs lsA x0 C g0 hR hS hl)
  · cases h1
theorem jr_scr {L : Nat} {xs : Nat → Int32} {i : Nat} {x : Int32} {k : Int} {kv : Int32} {β : Type} {f : Int32 → Option β} {res : β} (d0 : decode cc pc = .ok (.aload_n 0, 1)) (d1 : decode cc (pc + 1) = .ok (.iload i, 2)) (d3 : decode cc (pc + 3) = .ok (.iconst k, 1)) (d4 : decode cc (pc + 4) = .ok (.iadd, 1)) (d5 : decode cc (pc + 5) = .ok (.iaload, 1)) (hk : Int32.ofInt k = kv) (hl0 : ls[i]? = some (some (.int x))) (Hq : (j_scr L xs (x + kv)).bind f = some res)
    (K : ∀ v : Int32, f v = some res → jGo l d (some (.inr (L, xs))) own cc nL ret ini (pc + 6) ls (.int v :: st) h r hf) : jGo l d (some (.inr (L, xs))) own cc nL ret ini pc ls st h r hf := by
  obtain ⟨v, h1, h2⟩ := Option.bind_eq_some_iff.mp Hq
  unfold j_scr at h1
  split at h1
  · rename_i hi
    cases h1
    have K := K _ h2
    refine ⟨K.1, fun S0 D cA p e s m args below meth c h0 H locs lsA x0 C g0 hR hS hl => ?_⟩
    obtain ⟨hx, hb, -, -, -, -, -, -, hS0, -, ⟨b, e0, hXb, hbl, hsz⟩, -⟩ := id C
    have hb0 : lsA[0]? = some (.val (.ref b)) := hl.2.2 (0, .ref b) (by rw [e0]; exact List.mem_append_left _ List.mem_cons_self)
    refine lv_aload_n hx hb d0 rfl hb0 ?_
    refine lv_iload hx hb d1 (j_loc hl hl0) ?_
    refine lv_iconst hx hb d3 hk ?_
    refine lv_iadd hx hb d4 ?_
    exact va_sld hx hb hXb (Nat.lt_of_lt_of_le hbl hS0) (Nat.not_le.mpr hbl) hS (j_x_in hi) d5 (K.2 S0 D cA p e s m args below meth c h0 H locs lsA x0 C g0 hR hS hl)
  · cases h1
theorem jr_scrlen {L : Nat} {xs : Nat → Int32} (d0 : decode cc pc = .ok (.aload_n 0, 1)) (d1 : decode cc (pc + 1) = .ok (.arraylength, 1))
    (K : jGo l d (some (.inr (L, xs))) own cc nL ret ini (pc + 2) ls (.int (Int32.ofNat L) :: st) h r hf) : jGo l d (some (.inr (L, xs))) own cc nL ret ini pc ls st h r hf := by
  refine ⟨K.1, fun S0 D cA p e s m args below meth c h0 H locs lsA x0 C g0 hR hS hl => ?_⟩
  obtain ⟨hx, hb, -, -, -, -, -, -, hS0, -, ⟨b, e0, hXb, hbl, hsz⟩, -⟩ := id C
  have hb0 : lsA[0]? = some (.val (.ref b)) := hl.2.2 (0, .ref b) (by rw [e0]; exact List.mem_append_left _ List.mem_cons_self)
  refine lv_aload_n hx hb d0 rfl hb0 ?_
  exact va_slen hx hb hXb (Nat.lt_of_lt_of_le hbl hS0) (Nat.not_le.mpr hbl) hS d1 (K.2 S0 D cA p e s m args below meth c h0 H locs lsA x0 C g0 hR hS hl)
end
