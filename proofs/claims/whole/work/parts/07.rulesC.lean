/-! RULES OF ARRAYS, OF WHAT IS NEW, OF CALLS AND RETURNS -/
theorem j_big {c : Nat} {q : vw_C} (h : vwCl[c]? = some q) : c < 12 := by
  have := (List.getElem?_eq_some_iff.mp h).1
  simpa using this
theorem j_rel_set {S0 : Nat} {D : va_G} {cA : Nat → ClassId} {h h' : jH} {H H' : Heap} {a : Nat} (hR : jRel S0 D cA h H) (en : jh_n h' = jh_n h) (es : jh_sh h' = jh_sh h) (eo : ∀ b, b ≠ a → jh_I h' b = jh_I h b ∧ jh_L h' b = jh_L h b ∧ jh_R h' b = jh_R h b)
    (e2 : H'.size = H.size) (e3 : ∀ q, q ≠ S0 + a → H'[q]? = H[q]?) (hc : j_cell S0 D cA h' a H') : jRel S0 D cA h' H' := by
  refine ⟨by rw [e2, en]; exact hR.1, fun b => ?_⟩
  by_cases hb : b = a
  · subst hb; exact hc
  · exact (hR.2 b).kept (by rw [es]) (eo b hb).1 (eo b hb).2.1 (eo b hb).2.2 (e3 _ (by omega))
theorem j_up_same {α : Type} (f : Nat → Nat → α) (a k : Nat) (x : α) : j_up f a k x a = fun j => if j = k then x else f a j := by
  funext j
  simp [j_up]
theorem j_row_same {α : Type} (f : Nat → Nat → α) (a : Nat) (g : Nat → α) : j_row f a g a = g := by simp [j_row]
theorem j_n_in {i : Int32} {n : Nat} {cA : ClassId} {f : Nat → Value} (hx : j_x i n = true) : ¬ (i < 0 ∨ (arrV cA n f).slots.size ≤ i.toNatClampNeg) := by
  rw [arrV_size]
  exact j_x_in hx
theorem j_n_lt {i : Int32} {n : Nat} (hx : j_x i n = true) : i.toNatClampNeg < n := Nat.not_le.mp fun q => j_x_in hx (Or.inr q)
section
variable {l : Launch} {d : Nat} {E : jE} {own : String} {cc : ByteArray} {nL : Nat} {ret : Option FieldType} {ini : Bool} {pc : Nat} {ls : List (Option Value)} {st : List Value} {h : jH} {r : Option Value} {hf : jH}
theorem jr_iald {a : Nat} {i : Int32} {β : Type} {f : Int32 → Option β} {res : β} (hdg : decode cc pc = .ok (.iaload, 1)) (Hq : (ja_I 100 h a i).bind f = some res) (K : ∀ v : Int32, f v = some res → jGo l d E own cc nL ret ini (pc + 1) ls (.int v :: st) h r hf) : jGo l d E own cc nL ret ini pc ls (.int i :: .ref a :: st) h r hf := by
  obtain ⟨v, h1, h2⟩ := Option.bind_eq_some_iff.mp Hq
  unfold ja_I at h1
  split at h1
  · rename_i hsh
    cases h1
    have K := K _ h2
    exact ⟨K.1, fun S0 D cA p e s m args below meth c h0 H locs lsA x0 C g0 hR hS hl => W.iald (v := .int (jh_I h a i.toNatClampNeg)) C.1 C.2.1 ((hR.2 a).2.1 100 hsh.1 (Or.inl rfl)) ((C.2.2.2.2.2.2.2.1.2 0 _ rfl).1 _ _) (fun q => by cases q) (j_n_in hsh.2) (arrV_read _ _ (j_n_lt hsh.2)) rfl rfl hdg (K.2 S0 D cA p e s m args below meth c h0 H locs lsA x0 C g0 hR hS hl)⟩
  · cases h1
theorem jr_bald {a : Nat} {i : Int32} {β : Type} {f : Int32 → Option β} {res : β} (hdg : decode cc pc = .ok (.baload, 1)) (Hq : (ja_I 101 h a i).bind f = some res) (K : ∀ v : Int32, f v = some res → jGo l d E own cc nL ret ini (pc + 1) ls (.int v :: st) h r hf) : jGo l d E own cc nL ret ini pc ls (.int i :: .ref a :: st) h r hf := by
  obtain ⟨v, h1, h2⟩ := Option.bind_eq_some_iff.mp Hq
  unfold ja_I at h1
  split at h1
  · rename_i hsh
    cases h1
    have K := K _ h2
    exact ⟨K.1, fun S0 D cA p e s m args below meth c h0 H locs lsA x0 C g0 hR hS hl => W.bald (v := .int (jh_I h a i.toNatClampNeg)) C.1 C.2.1 ((hR.2 a).2.1 101 hsh.1 (Or.inr (Or.inl rfl))) ((C.2.2.2.2.2.2.2.1.2 1 _ rfl).1 _ _) (fun q => by cases q) (j_n_in hsh.2) (arrV_read _ _ (j_n_lt hsh.2)) rfl rfl hdg (K.2 S0 D cA p e s m args below meth c h0 H locs lsA x0 C g0 hR hS hl)⟩
  · cases h1
theorem jr_zald {a : Nat} {i : Int32} {β : Type} {f : Int32 → Option β} {res : β} (hdg : decode cc pc = .ok (.baload, 1)) (Hq : (ja_I 102 h a i).bind f = some res) (K : ∀ v : Int32, f v = some res → jGo l d E own cc nL ret ini (pc + 1) ls (.int v :: st) h r hf) : jGo l d E own cc nL ret ini pc ls (.int i :: .ref a :: st) h r hf := by
  obtain ⟨v, h1, h2⟩ := Option.bind_eq_some_iff.mp Hq
  unfold ja_I at h1
  split at h1
  · rename_i hsh
    cases h1
    have K := K _ h2
    exact ⟨K.1, fun S0 D cA p e s m args below meth c h0 H locs lsA x0 C g0 hR hS hl => W.zald (v := .int (jh_I h a i.toNatClampNeg)) C.1 C.2.1 ((hR.2 a).2.1 102 hsh.1 (Or.inr (Or.inr rfl))) ((C.2.2.2.2.2.2.2.1.2 2 _ rfl).1 _ _) (fun q => by cases q) (j_n_in hsh.2) (arrV_read _ _ (j_n_lt hsh.2)) rfl rfl hdg (K.2 S0 D cA p e s m args below meth c h0 H locs lsA x0 C g0 hR hS hl)⟩
  · cases h1
theorem jr_lald {a : Nat} {i : Int32} {β : Type} {f : Int64 → Option β} {res : β} (hdg : decode cc pc = .ok (.laload, 1)) (Hq : (ja_L h a i).bind f = some res) (K : ∀ v : Int64, f v = some res → jGo l d E own cc nL ret ini (pc + 1) ls (.long v :: st) h r hf) : jGo l d E own cc nL ret ini pc ls (.int i :: .ref a :: st) h r hf := by
  obtain ⟨v, h1, h2⟩ := Option.bind_eq_some_iff.mp Hq
  unfold ja_L at h1
  split at h1
  · rename_i hsh
    cases h1
    have K := K _ h2
    exact ⟨K.1, fun S0 D cA p e s m args below meth c h0 H locs lsA x0 C g0 hR hS hl => W.lald (v := .long (jh_L h a i.toNatClampNeg)) C.1 C.2.1 ((hR.2 a).2.2.1 hsh.1) ((C.2.2.2.2.2.2.2.1.2 3 _ rfl).1 _ _) (fun q => by cases q) (j_n_in hsh.2) (arrV_read _ _ (j_n_lt hsh.2)) rfl rfl hdg (K.2 S0 D cA p e s m args below meth c h0 H locs lsA x0 C g0 hR hS hl)⟩
  · cases h1
theorem jr_aald {a : Nat} {i : Int32} {β : Type} {f : Nat → Option β} {res : β} (hdg : decode cc pc = .ok (.aaload, 1)) (Hq : (ja_R h a i).bind f = some res) (K : ∀ v : Nat, f v = some res → jGo l d E own cc nL ret ini (pc + 1) ls (.ref v :: st) h r hf) : jGo l d E own cc nL ret ini pc ls (.int i :: .ref a :: st) h r hf := by
  obtain ⟨v, h1, h2⟩ := Option.bind_eq_some_iff.mp Hq
  unfold ja_R at h1
  split at h1
  · rename_i hsh
    have K := K _ h2
    refine ⟨K.1, fun S0 D cA p e s m args below meth c h0 H locs lsA x0 C g0 hR hS hl => W.aald (v := .ref (S0 + v)) (ty := .object RX7) C.1 C.2.1 ((hR.2 a).2.2.2 hsh.1) ((C.2.2.2.2.2.2.2.1.2 4 _ rfl).1 _ _) rfl (fun q => by cases q) (j_n_in hsh.2) ?_ rfl rfl hdg (K.2 S0 D cA p e s m args below meth c h0 H locs lsA x0 C g0 hR hS hl)⟩
    rw [arrV_read _ _ (j_n_lt hsh.2), h1]
    rfl
  · cases h1
theorem jr_len100 {a : Nat} {β : Type} {f : Int32 → Option β} {res : β} (hdg : decode cc pc = .ok (.arraylength, 1)) (Hq : (jn_len 100 h a).bind f = some res) (K : ∀ v : Int32, f v = some res → jGo l d E own cc nL ret ini (pc + 1) ls (.int v :: st) h r hf) : jGo l d E own cc nL ret ini pc ls (.ref a :: st) h r hf := by
  obtain ⟨v, h3, h2⟩ := Option.bind_eq_some_iff.mp Hq
  unfold jn_len at h3
  split at h3
  · rename_i h1
    cases h3
    have K := K _ h2
    refine ⟨K.1, fun S0 D cA p e s m args below meth c h0 H locs lsA x0 C g0 hR hS hl => W.alen (n := Int32.ofNat (jh_sh h a).2) C.1 C.2.1 ((hR.2 a).2.1 100 h1 (Or.inl rfl)) ((C.2.2.2.2.2.2.2.1.2 0 _ rfl).1 _ _) ?_ rfl rfl hdg (K.2 S0 D cA p e s m args below meth c h0 H locs lsA x0 C g0 hR hS hl)⟩
    rw [arrV_size]
  · cases h3
theorem jr_len101 {a : Nat} {β : Type} {f : Int32 → Option β} {res : β} (hdg : decode cc pc = .ok (.arraylength, 1)) (Hq : (jn_len 101 h a).bind f = some res) (K : ∀ v : Int32, f v = some res → jGo l d E own cc nL ret ini (pc + 1) ls (.int v :: st) h r hf) : jGo l d E own cc nL ret ini pc ls (.ref a :: st) h r hf := by
  obtain ⟨v, h3, h2⟩ := Option.bind_eq_some_iff.mp Hq
  unfold jn_len at h3
  split at h3
  · rename_i h1
    cases h3
    have K := K _ h2
    refine ⟨K.1, fun S0 D cA p e s m args below meth c h0 H locs lsA x0 C g0 hR hS hl => W.alen (n := Int32.ofNat (jh_sh h a).2) C.1 C.2.1 ((hR.2 a).2.1 101 h1 (Or.inr (Or.inl rfl))) ((C.2.2.2.2.2.2.2.1.2 1 _ rfl).1 _ _) ?_ rfl rfl hdg (K.2 S0 D cA p e s m args below meth c h0 H locs lsA x0 C g0 hR hS hl)⟩
    rw [arrV_size]
  · cases h3
theorem jr_len102 {a : Nat} {β : Type} {f : Int32 → Option β} {res : β} (hdg : decode cc pc = .ok (.arraylength, 1)) (Hq : (jn_len 102 h a).bind f = some res) (K : ∀ v : Int32, f v = some res → jGo l d E own cc nL ret ini (pc + 1) ls (.int v :: st) h r hf) : jGo l d E own cc nL ret ini pc ls (.ref a :: st) h r hf := by
  obtain ⟨v, h3, h2⟩ := Option.bind_eq_some_iff.mp Hq
  unfold jn_len at h3
  split at h3
  · rename_i h1
    cases h3
    have K := K _ h2
    refine ⟨K.1, fun S0 D cA p e s m args below meth c h0 H locs lsA x0 C g0 hR hS hl => W.alen (n := Int32.ofNat (jh_sh h a).2) C.1 C.2.1 ((hR.2 a).2.1 102 h1 (Or.inr (Or.inr rfl))) ((C.2.2.2.2.2.2.2.1.2 2 _ rfl).1 _ _) ?_ rfl rfl hdg (K.2 S0 D cA p e s m args below meth c h0 H locs lsA x0 C g0 hR hS hl)⟩
    rw [arrV_size]
  · cases h3
theorem jr_len103 {a : Nat} {β : Type} {f : Int32 → Option β} {res : β} (hdg : decode cc pc = .ok (.arraylength, 1)) (Hq : (jn_len 103 h a).bind f = some res) (K : ∀ v : Int32, f v = some res → jGo l d E own cc nL ret ini (pc + 1) ls (.int v :: st) h r hf) : jGo l d E own cc nL ret ini pc ls (.ref a :: st) h r hf := by
  obtain ⟨v, h3, h2⟩ := Option.bind_eq_some_iff.mp Hq
  unfold jn_len at h3
  split at h3
  · rename_i h1
    cases h3
    have K := K _ h2
    refine ⟨K.1, fun S0 D cA p e s m args below meth c h0 H locs lsA x0 C g0 hR hS hl => W.alen (n := Int32.ofNat (jh_sh h a).2) C.1 C.2.1 ((hR.2 a).2.2.1 h1) ((C.2.2.2.2.2.2.2.1.2 3 _ rfl).1 _ _) ?_ rfl rfl hdg (K.2 S0 D cA p e s m args below meth c h0 H locs lsA x0 C g0 hR hS hl)⟩
    rw [arrV_size]
  · cases h3
theorem jr_len104 {a : Nat} {β : Type} {f : Int32 → Option β} {res : β} (hdg : decode cc pc = .ok (.arraylength, 1)) (Hq : (jn_len 104 h a).bind f = some res) (K : ∀ v : Int32, f v = some res → jGo l d E own cc nL ret ini (pc + 1) ls (.int v :: st) h r hf) : jGo l d E own cc nL ret ini pc ls (.ref a :: st) h r hf := by
  obtain ⟨v, h3, h2⟩ := Option.bind_eq_some_iff.mp Hq
  unfold jn_len at h3
  split at h3
  · rename_i h1
    cases h3
    have K := K _ h2
    refine ⟨K.1, fun S0 D cA p e s m args below meth c h0 H locs lsA x0 C g0 hR hS hl => W.alen (n := Int32.ofNat (jh_sh h a).2) C.1 C.2.1 ((hR.2 a).2.2.2 h1) ((C.2.2.2.2.2.2.2.1.2 4 _ rfl).1 _ _) ?_ rfl rfl hdg (K.2 S0 D cA p e s m args below meth c h0 H locs lsA x0 C g0 hR hS hl)⟩
    rw [arrV_size]
  · cases h3
theorem jr_iast {a : Nat} {i x : Int32} {β : Type} {f : jH → Option β} {res : β}  (hdg : decode cc pc = .ok (.iastore, 1)) (Hq : (jb_I 100 h a i (x)).bind f = some res) (K : ∀ h1 : jH, f h1 = some res → jGo l d E own cc nL ret ini (pc + 1) ls st h1 r hf) : jGo l d E own cc nL ret ini pc ls (.int x :: .int i :: .ref a :: st) h r hf := by
  obtain ⟨v, h1, h2⟩ := Option.bind_eq_some_iff.mp Hq
  unfold jb_I at h1
  split at h1
  · rename_i hsh
    cases h1
    have K := K _ h2
    refine ⟨K.1, fun S0 D cA p e s m args below meth c h0 H locs lsA x0 C g0 hR hS hl => W.iast C.1 C.2.1 ((hR.2 a).2.1 100 hsh.1 (Or.inl rfl)) ((C.2.2.2.2.2.2.2.1.2 0 _ rfl).1 _ _) (fun q => by cases q) (j_n_in hsh.2) rfl rfl hdg (fun H1 e1 z oq => ?_)⟩
    refine K.2 S0 D cA p e s m args below meth c h0 H1 _ lsA x0 C g0 (j_rel_set (a := a) hR rfl rfl (fun b hb => ⟨j_up_ne hb, rfl, rfl⟩) z oq ⟨fun c q hc hq => ?_, fun t ht ho => ?_, fun ht => ?_, fun ht => ?_⟩) (hS.put z oq (Nat.le_add_right S0 a)) hl
    · have hc2 : jh_sh h a = (c, 0) := hc
      have := j_big hq
      rw [hc2] at hsh
      have := hsh.1
      simp at this
      omega
    · have ht2 : (jh_sh h a).1 = t := ht
      rw [hsh.1] at ht2
      subst ht2
      rw [e1, arrV_store]
      show some (arrV _ _ _) = some (arrV _ (jh_sh h a).2 _)
      congr 2
      funext j
      show updV _ _ _ j = .int (j_up (jh_I h) a i.toNatClampNeg (x) a j)
      rw [j_up_same]
      unfold updV
      by_cases hj : j = i.toNatClampNeg
      · simp only [hj, if_pos]
        try first | rfl | exact hz
      · simp only [hj, if_neg, not_false_eq_true]
    · have ht2 : (jh_sh h a).1 = 103 := ht
      rw [hsh.1] at ht2
      cases ht2
    · have ht2 : (jh_sh h a).1 = 104 := ht
      rw [hsh.1] at ht2
      cases ht2
  · cases h1
theorem jr_bast {a : Nat} {i x : Int32} {β : Type} {f : jH → Option β} {res : β}  (hdg : decode cc pc = .ok (.bastore, 1)) (Hq : (jb_I 101 h a i (x.toInt8.toInt32)).bind f = some res) (K : ∀ h1 : jH, f h1 = some res → jGo l d E own cc nL ret ini (pc + 1) ls st h1 r hf) : jGo l d E own cc nL ret ini pc ls (.int x :: .int i :: .ref a :: st) h r hf := by
  obtain ⟨v, h1, h2⟩ := Option.bind_eq_some_iff.mp Hq
  unfold jb_I at h1
  split at h1
  · rename_i hsh
    cases h1
    have K := K _ h2
    refine ⟨K.1, fun S0 D cA p e s m args below meth c h0 H locs lsA x0 C g0 hR hS hl => W.bast C.1 C.2.1 ((hR.2 a).2.1 101 hsh.1 (Or.inr (Or.inl rfl))) ((C.2.2.2.2.2.2.2.1.2 1 _ rfl).1 _ _) (fun q => by cases q) (j_n_in hsh.2) rfl rfl hdg (fun H1 e1 z oq => ?_)⟩
    refine K.2 S0 D cA p e s m args below meth c h0 H1 _ lsA x0 C g0 (j_rel_set (a := a) hR rfl rfl (fun b hb => ⟨j_up_ne hb, rfl, rfl⟩) z oq ⟨fun c q hc hq => ?_, fun t ht ho => ?_, fun ht => ?_, fun ht => ?_⟩) (hS.put z oq (Nat.le_add_right S0 a)) hl
    · have hc2 : jh_sh h a = (c, 0) := hc
      have := j_big hq
      rw [hc2] at hsh
      have := hsh.1
      simp at this
      omega
    · have ht2 : (jh_sh h a).1 = t := ht
      rw [hsh.1] at ht2
      subst ht2
      rw [e1, arrV_store]
      show some (arrV _ _ _) = some (arrV _ (jh_sh h a).2 _)
      congr 2
      funext j
      show updV _ _ _ j = .int (j_up (jh_I h) a i.toNatClampNeg (x.toInt8.toInt32) a j)
      rw [j_up_same]
      unfold updV
      by_cases hj : j = i.toNatClampNeg
      · simp only [hj, if_pos]
        try first | rfl | exact hz
      · simp only [hj, if_neg, not_false_eq_true]
    · have ht2 : (jh_sh h a).1 = 103 := ht
      rw [hsh.1] at ht2
      cases ht2
    · have ht2 : (jh_sh h a).1 = 104 := ht
      rw [hsh.1] at ht2
      cases ht2
  · cases h1
theorem jr_zast {a : Nat} {i x : Int32} {β : Type} {f : jH → Option β} {res : β} (hz : narrow .boolean (.int x) = .int x) (hdg : decode cc pc = .ok (.bastore, 1)) (Hq : (jb_I 102 h a i (x)).bind f = some res) (K : ∀ h1 : jH, f h1 = some res → jGo l d E own cc nL ret ini (pc + 1) ls st h1 r hf) : jGo l d E own cc nL ret ini pc ls (.int x :: .int i :: .ref a :: st) h r hf := by
  obtain ⟨v, h1, h2⟩ := Option.bind_eq_some_iff.mp Hq
  unfold jb_I at h1
  split at h1
  · rename_i hsh
    cases h1
    have K := K _ h2
    refine ⟨K.1, fun S0 D cA p e s m args below meth c h0 H locs lsA x0 C g0 hR hS hl => W.zast C.1 C.2.1 ((hR.2 a).2.1 102 hsh.1 (Or.inr (Or.inr rfl))) ((C.2.2.2.2.2.2.2.1.2 2 _ rfl).1 _ _) (fun q => by cases q) (j_n_in hsh.2) rfl rfl hdg (fun H1 e1 z oq => ?_)⟩
    refine K.2 S0 D cA p e s m args below meth c h0 H1 _ lsA x0 C g0 (j_rel_set (a := a) hR rfl rfl (fun b hb => ⟨j_up_ne hb, rfl, rfl⟩) z oq ⟨fun c q hc hq => ?_, fun t ht ho => ?_, fun ht => ?_, fun ht => ?_⟩) (hS.put z oq (Nat.le_add_right S0 a)) hl
    · have hc2 : jh_sh h a = (c, 0) := hc
      have := j_big hq
      rw [hc2] at hsh
      have := hsh.1
      simp at this
      omega
    · have ht2 : (jh_sh h a).1 = t := ht
      rw [hsh.1] at ht2
      subst ht2
      rw [e1, arrV_store]
      show some (arrV _ _ _) = some (arrV _ (jh_sh h a).2 _)
      congr 2
      funext j
      show updV _ _ _ j = .int (j_up (jh_I h) a i.toNatClampNeg (x) a j)
      rw [j_up_same]
      unfold updV
      by_cases hj : j = i.toNatClampNeg
      · simp only [hj, if_pos]
        try first | rfl | exact hz
      · simp only [hj, if_neg, not_false_eq_true]
    · have ht2 : (jh_sh h a).1 = 103 := ht
      rw [hsh.1] at ht2
      cases ht2
    · have ht2 : (jh_sh h a).1 = 104 := ht
      rw [hsh.1] at ht2
      cases ht2
  · cases h1
theorem jr_last {a : Nat} {i : Int32} {x : Int64} {β : Type} {f : jH → Option β} {res : β} (hdg : decode cc pc = .ok (.lastore, 1)) (Hq : (jb_L h a i x).bind f = some res) (K : ∀ h1 : jH, f h1 = some res → jGo l d E own cc nL ret ini (pc + 1) ls st h1 r hf) : jGo l d E own cc nL ret ini pc ls (.long x :: .int i :: .ref a :: st) h r hf := by
  obtain ⟨v, h1, h2⟩ := Option.bind_eq_some_iff.mp Hq
  unfold jb_L at h1
  split at h1
  · rename_i hsh
    cases h1
    have K := K _ h2
    refine ⟨K.1, fun S0 D cA p e s m args below meth c h0 H locs lsA x0 C g0 hR hS hl => W.last C.1 C.2.1 ((hR.2 a).2.2.1 hsh.1) ((C.2.2.2.2.2.2.2.1.2 3 _ rfl).1 _ _) (fun q => by cases q) (j_n_in hsh.2) rfl rfl hdg (fun H1 e1 z oq => ?_)⟩
    refine K.2 S0 D cA p e s m args below meth c h0 H1 _ lsA x0 C g0 (j_rel_set (a := a) hR rfl rfl (fun b hb => ⟨rfl, j_up_ne hb, rfl⟩) z oq ⟨fun c q hc hq => ?_, fun t ht ho => ?_, fun ht => ?_, fun ht => ?_⟩) (hS.put z oq (Nat.le_add_right S0 a)) hl
    · have hc2 : jh_sh h a = (c, 0) := hc
      have := j_big hq
      rw [hc2] at hsh
      have := hsh.1
      simp at this
      omega
    · have ht2 : (jh_sh h a).1 = t := ht
      rw [hsh.1] at ht2
      omega
    · rw [e1, arrV_store]
      show some (arrV _ _ _) = some (arrV _ (jh_sh h a).2 _)
      congr 2
      funext j
      show updV _ _ _ j = .long (j_up (jh_L h) a i.toNatClampNeg x a j)
      rw [j_up_same]
      unfold updV
      by_cases hj : j = i.toNatClampNeg
      · simp only [hj, if_pos]
      · simp only [hj, if_neg, not_false_eq_true]
    · have ht2 : (jh_sh h a).1 = 104 := ht
      rw [hsh.1] at ht2
      cases ht2
  · cases h1
theorem jr_aast {a v : Nat} {i : Int32} {β : Type} {f : jH → Option β} {res : β} (hdg : decode cc pc = .ok (.aastore, 1)) (Hq : (jb_R h a i v).bind f = some res) (K : ∀ h1 : jH, f h1 = some res → jGo l d E own cc nL ret ini (pc + 1) ls st h1 r hf) : jGo l d E own cc nL ret ini pc ls (.ref v :: .int i :: .ref a :: st) h r hf := by
  obtain ⟨w, h1, h2⟩ := Option.bind_eq_some_iff.mp Hq
  unfold jb_R at h1
  split at h1
  · rename_i hsh
    cases h1
    have K := K _ h2
    refine ⟨K.1, fun S0 D cA p e s m args below meth c h0 H locs lsA x0 C g0 hR hS hl => ?_⟩
    have hK := C.2.2.2.2.2.2.2.1
    obtain ⟨cellV, g1, g2, g3, -⟩ := (hR.2 v).1 7 _ hsh.2.2 rfl
    have hcls := (hK.1 7 _ rfl).2
    obtain ⟨kA, comp, k1, k2, k3, -⟩ := (hK.2 4 _ rfl).2
    have hcomp : comp = D.1 7 := Option.some.inj (k3.symm.trans hcls.1)
    subst hcomp
    obtain ⟨kC, hkC, -⟩ := hcls.2
    refine W.aast C.1 C.2.1 ((hR.2 a).2.2.2 hsh.1) (fun q h => by cases h) (fun h => by cases h) k1 k2 rfl hkC ⟨fun q => j_x_in hsh.2.1 (Or.inl q), by rw [arrV_size]; exact j_n_lt hsh.2.1⟩ g1 (fun q h => by rw [g3] at h; cases h) (by rw [g2]; exact hkC) (by rw [g2]; exact va_assign hcls) rfl rfl hdg (fun H1 e1 z oq => ?_)
    refine K.2 S0 D cA p e s m args below meth c h0 H1 _ lsA x0 C g0 (j_rel_set (a := a) hR rfl rfl (fun b hb => ⟨rfl, rfl, j_up_ne hb⟩) z oq ⟨fun c q hc hq => ?_, fun t ht ho => ?_, fun ht => ?_, fun ht => ?_⟩) (hS.put z oq (Nat.le_add_right S0 a)) hl
    · have hc2 : jh_sh h a = (c, 0) := hc
      have := j_big hq
      rw [hc2] at hsh
      have := hsh.1
      simp at this
      omega
    · have ht2 : (jh_sh h a).1 = t := ht
      rw [hsh.1] at ht2
      omega
    · have ht2 : (jh_sh h a).1 = 103 := ht
      rw [hsh.1] at ht2
      cases ht2
    · rw [e1, arrV_store]
      show some (arrV _ _ _) = some (arrV _ (jh_sh h a).2 _)
      congr 2
      funext j
      show updV _ _ _ j = va_rf ((j_up (jh_R h) a i.toNatClampNeg (some v) a j).map _)
      rw [j_up_same]
      unfold updV
      by_cases hj : j = i.toNatClampNeg
      · simp only [hj, if_pos]
        rfl
      · simp only [hj, if_neg, not_false_eq_true]
  · cases h1
end
