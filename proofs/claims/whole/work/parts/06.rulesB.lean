/-! RULES OF THE HEAP -/
def jCls (ci : Nat) (C : String) (T : u_T) (N : Nat) : Prop := vwCl[ci]? = some (C, T, N) ∧ (∀ w ∈ u_ws C T N, w ∈ jTB) ∧ (∀ k, k < N → parseFieldDescriptor (T k).2.2.1 = some (j_ty ci k)) ∧ (∀ a, a < N → ∀ b, b < N → a ≠ b → (T a).2.1 ≠ (T b).2.1) ∧ ∀ k, k < N → (T k).1 = C
def j_kd (ty : FieldType) : Nat := match ty with
  | .int => 0
  | .boolean => 1
  | .object _ => 2
  | .array _ => 2
  | _ => 3
/-- a field's link: field k of kind ci; kd: 0 int, 1 boolean, 2 a reference; fin: a final one -/
def jFL (own : String) (idx ci k kd : Nat) (fin : Bool) : Prop := ∃ (C : String) (T : u_T) (N : Nat), jCls ci C T N ∧ k < N ∧ Cond.fieldLink own idx C (T k).2.1 (T k).2.2.1 ∈ jTB ∧ (T k).2.2.2 = fin ∧ j_kd (j_ty ci k) = kd
theorem j_fv_i {S0 : Nat} {ty : FieldType} {i : Int32} {r : Option Nat} (h : j_kd ty < 2) : j_fv S0 ty i r = .int i := by
  cases ty <;> first | rfl | (simp [j_kd] at h)
theorem j_fv_r {S0 : Nat} {ty : FieldType} {i : Int32} {r : Option Nat} (h : j_kd ty = 2) : j_fv S0 ty i r = va_rf (r.map (S0 + ·)) := by
  cases ty <;> first | rfl | (simp [j_kd] at h)
section
variable {l : Launch} {d : Nat} {E : jE} {own : String} {cc : ByteArray} {nL : Nat} {ret : Option FieldType} {ini : Bool} {pc : Nat} {ls : List (Option Value)} {st : List Value} {h : jH} {r : Option Value} {hf : jH}
theorem jr_get {idx ci k kd : Nat} {fin : Bool} {a : Nat} {v : Value} (F : jFL own idx ci k kd fin) (hdg : decode cc pc = .ok (.getfield idx, 3)) (hsh : jh_sh h a = (ci, 0)) (hv : ∀ S0, j_fs S0 h a ci k = j_v S0 v)
    (K : jGo l d E own cc nL ret ini (pc + 3) ls (v :: st) h r hf) : jGo l d E own cc nL ret ini pc ls (.ref a :: st) h r hf := by
  refine ⟨K.1, fun S0 D cA p e s m args below meth c h0 H locs lsA x0 C g0 hR hS hl => ?_⟩
  obtain ⟨Cn, T, N, ⟨hc, hin, hty, hnm, hdc⟩, hk, hlink, -, -⟩ := F
  obtain ⟨hx, hb, -, -, -, hown, hts, hK, -⟩ := id C
  obtain ⟨cell, q1, q2, q3, q4⟩ := (hR.2 a).1 ci _ hsh hc
  obtain ⟨hSl, hfc, kC, hkC, hkind⟩ := hK.1 ci _ hc
  obtain ⟨cf, kf, fi, f, hi, hsl⟩ := hSl k hk
  have hi2 : s.fieldFound? Cn (T k).2.1 (T k).2.2.1 = some (cf, kf, fi, f) := by rw [← hdc k hk]; exact hi
  refine W.getf hx hb hown (hts _ hlink) hi2 (u_facts hfc hkC (u_lays hts hin hk) hi).1 q1 (by rw [q3]; exact fun h => by cases h) (v := j_v S0 v) ?_ rfl rfl hdg (K.2 S0 D cA p e s m args below meth c h0 H locs lsA x0 C g0 hR hS hl)
  rw [hsl, q4 k hk, hv]
theorem jr_getI {idx ci k kd : Nat} {fin : Bool} {a : Nat} {β : Type} {f : Int32 → Option β} {res : β} (F : jFL own idx ci k kd fin) (hkd : kd < 2) (hdg : decode cc pc = .ok (.getfield idx, 3)) (Hq : (jg_I ci k h a).bind f = some res)
    (K : ∀ v : Int32, f v = some res → jGo l d E own cc nL ret ini (pc + 3) ls (.int v :: st) h r hf) : jGo l d E own cc nL ret ini pc ls (.ref a :: st) h r hf := by
  obtain ⟨v, h1, h2⟩ := Option.bind_eq_some_iff.mp Hq
  unfold jg_I at h1
  split at h1
  · rename_i hsh
    cases h1
    refine jr_get F hdg hsh (fun S0 => ?_) (K _ h2)
    obtain ⟨Cn, T, N, -, -, -, -, e⟩ := F
    exact j_fv_i (by rw [e]; exact hkd)
  · cases h1
theorem jr_getR {idx ci k : Nat} {fin : Bool} {a : Nat} {β : Type} {f : Nat → Option β} {res : β} (F : jFL own idx ci k 2 fin) (hdg : decode cc pc = .ok (.getfield idx, 3)) (Hq : (jg_R ci k h a).bind f = some res)
    (K : ∀ v : Nat, f v = some res → jGo l d E own cc nL ret ini (pc + 3) ls (.ref v :: st) h r hf) : jGo l d E own cc nL ret ini pc ls (.ref a :: st) h r hf := by
  obtain ⟨v, h1, h2⟩ := Option.bind_eq_some_iff.mp Hq
  unfold jg_R at h1
  split at h1
  · rename_i hsh
    refine jr_get F hdg hsh (fun S0 => ?_) (K _ h2)
    obtain ⟨Cn, T, N, -, -, -, -, e⟩ := F
    show j_fv _ _ _ _ = _
    rw [j_fv_r e, h1]
    rfl
  · cases h1
/-- the picture behind a store into an object's field -/
theorem j_rel_put {S0 : Nat} {D : va_G} {cA : Nat → ClassId} {h h' : jH} {H H' : Heap} {a ci k : Nat} {C : String} {T : u_T} {N : Nat} (hR : jRel S0 D cA h H) (hsh : jh_sh h a = (ci, 0)) (hc : vwCl[ci]? = some (C, T, N)) {v : Value} {cell : Cell}
    (hcell : H[S0 + a]? = some cell) (q2 : cell.cls = D.1 ci) (q3 : cell.vm = .none) (q4 : ∀ k, k < N → cell.slots[D.2 ci k]? = some (j_fs S0 h a ci k)) (hap : ∀ x y, x < N → y < N → x ≠ y → (D.2 ci) x ≠ (D.2 ci) y) (hk : k < N)
    (e1 : H'[S0 + a]? = some (cell.setSlot (D.2 ci k) v)) (e2 : H'.size = H.size) (e3 : ∀ q, q ≠ S0 + a → H'[q]? = H[q]?)
    (en : jh_n h' = jh_n h) (es : jh_sh h' = jh_sh h) (eo : ∀ b, b ≠ a → jh_I h' b = jh_I h b ∧ jh_R h' b = jh_R h b) (eL : jh_L h' = jh_L h) (ev : ∀ j, j < N → j_fs S0 h' a ci j = updV (j_fs S0 h a ci) k v j) : jRel S0 D cA h' H' := by
  refine ⟨by rw [e2, en]; exact hR.1, fun b => ?_⟩
  by_cases hb : b = a
  · subst hb
    refine ⟨fun c q hcq hq => ?_, fun t ht ho => ?_, fun ht => ?_, fun ht => ?_⟩
    · rw [es, hsh] at hcq
      cases hcq
      cases hc.symm.trans hq
      exact ⟨_, e1, q2, q3, fun j hj => by rw [t_set q4 hap hk v j hj]; rw [ev j hj]⟩
    · rw [es, hsh] at ht
      subst ht
      have := (List.getElem?_eq_some_iff.mp hc).1
      simp at this
      rcases ho with e | e | e <;> omega
    · rw [es, hsh] at ht
      simp only at ht
      subst ht
      have := (List.getElem?_eq_some_iff.mp hc).1
      simp at this
    · rw [es, hsh] at ht
      simp only at ht
      subst ht
      have := (List.getElem?_eq_some_iff.mp hc).1
      simp at this
  · exact (hR.2 b).kept (by rw [es]) (eo b hb).1 (by rw [eL]) (eo b hb).2 (e3 _ (by omega))
theorem jr_put {idx ci k kd : Nat} {fin : Bool} {a : Nat} {v : Value} {h' : jH} (F : jFL own idx ci k kd fin) (hdg : decode cc pc = .ok (.putfield idx, 3)) (hsh : jh_sh h a = (ci, 0)) (hfin : fin = true → ini = true ∧ (vwCl[ci]?).map (fun q => q.1) = some own)
    (hn : ∀ S0, narrow (j_ty ci k) (j_v S0 v) = j_v S0 v) (hfit : ∀ S0, fits (j_ty ci k) (j_v S0 v) = true)
    (en : h'.1 = h.1) (es : jh_sh h' = jh_sh h) (eo : ∀ b, b ≠ a → jh_I h' b = jh_I h b ∧ jh_R h' b = jh_R h b) (eL : jh_L h' = jh_L h) (ev : ∀ S0 j, j_fs S0 h' a ci j = updV (j_fs S0 h a ci) k (j_v S0 v) j)
    (K : jGo l d E own cc nL ret ini (pc + 3) ls st h' r hf) : jGo l d E own cc nL ret ini pc ls (v :: .ref a :: st) h r hf := by
  have en1 : jh_n h' = jh_n h := by unfold jh_n; rw [en]
  have en2 : jh_s h' = jh_s h := by unfold jh_s; rw [en]
  refine ⟨by rw [← en1, ← en2]; exact K.1, fun S0 D cA p e s m args below meth c h0 H locs lsA x0 C g0 hR hS hl => ?_⟩
  obtain ⟨Cn, T, N, ⟨hc, hin, hty, hnm, hdc⟩, hk, hlink, hfn, -⟩ := F
  obtain ⟨hx, hb, -, -, -, hown, hts, hK, hS0, hini, -⟩ := id C
  have hap := va_apart (own := own) hts hin (j_ty ci) hty hnm hK hc
  obtain ⟨cell, q1, q2, q3, q4⟩ := (hR.2 a).1 ci _ hsh hc
  obtain ⟨hSl, hfc, kC, hkC, hkind⟩ := hK.1 ci _ hc
  obtain ⟨cf, kf, fi, f, hi, hsl⟩ := hSl k hk
  have hi2 : s.fieldFound? Cn (T k).2.1 (T k).2.2.1 = some (cf, kf, fi, f) := by rw [← hdc k hk]; exact hi
  have hlay := hts _ (hin _ (u_in_lay hk))
  unfold u_lay at hlay
  have hst := (u_facts hfc hkC (u_lays hts hin hk) hi).1
  have go : ∀ H' : Heap, H'[S0 + a]? = some (cell.setSlot f.slot (j_v S0 v)) → H'.size = H.size → (∀ q, q ≠ S0 + a → H'[q]? = H[q]?) → W p l e (jRoom d (jh_n hf - jh_n h0) (jh_s hf - jh_s h0)) s m args below meth c H' (locs ++ [⟨S0 + a, f.slot⟩]) (jh_n h - jh_n h0) (jh_s h - jh_s h0) (jF S0 D cA below r hf args s (jh_n hf - jh_n h0) (jh_s hf - jh_s h0)) (F0 m (pc + 3) lsA (st.map (j_v S0))) := by
    intro H' e1 e2 e3
    rw [hsl] at e1
    have hR' : jRel S0 D cA h' H' := j_rel_put hR hsh hc q1 q2 q3 q4 hap hk e1 e2 e3 en1 es eo eL (fun j _ => ev S0 j)
    have k := K.2 S0 D cA p e s m args below meth c h0 H' (locs ++ [⟨S0 + a, f.slot⟩]) lsA x0 C (by rw [en1, en2]; exact g0) hR' (hS.put e2 e3 (Nat.le_add_right S0 a)) hl
    rw [en1, en2] at k
    exact k
  cases fin with
  | false =>
    rw [if_neg (by rw [hfn]; decide)] at hlay
    have h6 := u_store hfc hkC hkind hlay hi (hty k hk) (hn S0) (hfit S0)
    exact W.putK hx hb (f := f) ⟨hown, hts _ hlink, ⟨_, _, _, hi2⟩, hst⟩ (by rw [q2]; exact h6) q1 q3 (by rw [hsl]; exact k2_hasslot (q4 k hk)) rfl rfl hdg go
  | true =>
    rw [if_pos hfn] at hlay
    have hcf : m.cls = cf := by
      obtain ⟨_, _, c', _, _, _, -, -, hf', -, -, -, hown2, -⟩ := Cond.laysFinal_spec hlay
      have e1 : c' = cf := by have := hi.symm.trans hf'; simp at this; exact this.1.symm
      have hco : Cn = own := by
        have h9 := (hfin rfl).2
        rw [hc] at h9
        exact Option.some.inj h9
      rw [hdc k hk, hco] at hown2
      rw [← e1]; exact Option.some.inj (hown.symm.trans hown2)
    have h6 := u_fits hfc hkC hkind (Or.inr hlay) hi (hty k hk) (hn S0) (hfit S0)
    exact W.putFinK hx hb hown (hts _ hlink) hi2 hst hcf (hini (hfin rfl).1) (by rw [q2]; exact h6) q1 q3 (by rw [hsl]; exact k2_hasslot (q4 k hk)) rfl rfl hdg go
theorem j_up_ne {α : Type} {f : Nat → Nat → α} {a k b : Nat} {x : α} (h : b ≠ a) : j_up f a k x b = f b := by
  funext j
  simp [j_up, h]
theorem j_row_ne {α : Type} {f : Nat → Nat → α} {a b : Nat} {g : Nat → α} (h : b ≠ a) : j_row f a g b = f b := by simp [j_row, h]
theorem jr_putI {idx ci k : Nat} {fin : Bool} {a : Nat} {x : Int32} {β : Type} {f : jH → Option β} {res : β} (F : jFL own idx ci k 0 fin) (hfin : fin = true → ini = true ∧ (vwCl[ci]?).map (fun q => q.1) = some own) (hdg : decode cc pc = .ok (.putfield idx, 3)) (Hq : (jp_I ci k h a x).bind f = some res)
    (K : ∀ h1 : jH, f h1 = some res → jGo l d E own cc nL ret ini (pc + 3) ls st h1 r hf) : jGo l d E own cc nL ret ini pc ls (.int x :: .ref a :: st) h r hf := by
  obtain ⟨v, h1, h2⟩ := Option.bind_eq_some_iff.mp Hq
  unfold jp_I at h1
  split at h1
  · rename_i hsh
    cases h1
    have hkd : j_kd (j_ty ci k) = 0 := by obtain ⟨Cn, T, N, -, -, -, -, e⟩ := F; exact e
    have hty : j_ty ci k = .int := by
      cases ht : j_ty ci k <;> rw [ht] at hkd <;> first | rfl | (simp [j_kd] at hkd)
    refine jr_put (h' := js_I h a k x) F hdg hsh hfin (fun S0 => by rw [hty]; rfl) (fun S0 => by rw [hty]; rfl) rfl rfl (fun b hb => ⟨j_up_ne hb, rfl⟩) rfl (fun S0 j => ?_) (K _ h2)
    unfold updV j_fs
    by_cases hj : j = k
    · subst hj
      rw [if_pos rfl, j_fv_i (by rw [hkd]; decide)]
      simp [js_I, jh_I, j_up]
      rfl
    · rw [if_neg hj]
      simp [js_I, jh_I, jh_R, j_up, hj]
  · cases h1
theorem jr_putZ {idx ci k : Nat} {fin : Bool} {a : Nat} {x : Int32} {β : Type} {f : jH → Option β} {res : β} (F : jFL own idx ci k 1 fin) (hfin : fin = true → ini = true ∧ (vwCl[ci]?).map (fun q => q.1) = some own) (hz : narrow .boolean (.int x) = .int x) (hz2 : fits .boolean (.int x) = true) (hdg : decode cc pc = .ok (.putfield idx, 3)) (Hq : (jp_I ci k h a x).bind f = some res)
    (K : ∀ h1 : jH, f h1 = some res → jGo l d E own cc nL ret ini (pc + 3) ls st h1 r hf) : jGo l d E own cc nL ret ini pc ls (.int x :: .ref a :: st) h r hf := by
  obtain ⟨v, h1, h2⟩ := Option.bind_eq_some_iff.mp Hq
  unfold jp_I at h1
  split at h1
  · rename_i hsh
    cases h1
    have hkd : j_kd (j_ty ci k) = 1 := by obtain ⟨Cn, T, N, -, -, -, -, e⟩ := F; exact e
    have hty : j_ty ci k = .boolean := by
      cases ht : j_ty ci k <;> rw [ht] at hkd <;> first | rfl | (simp [j_kd] at hkd)
    refine jr_put (h' := js_I h a k x) F hdg hsh hfin (fun S0 => by rw [hty]; exact hz) (fun S0 => by rw [hty]; exact hz2) rfl rfl (fun b hb => ⟨j_up_ne hb, rfl⟩) rfl (fun S0 j => ?_) (K _ h2)
    unfold updV j_fs
    by_cases hj : j = k
    · subst hj
      rw [if_pos rfl, j_fv_i (by rw [hkd]; decide)]
      simp [js_I, jh_I, j_up]
      rfl
    · rw [if_neg hj]
      simp [js_I, jh_I, jh_R, j_up, hj]
  · cases h1
theorem jr_putR {idx ci k : Nat} {fin : Bool} {a v : Nat} {β : Type} {f : jH → Option β} {res : β} (F : jFL own idx ci k 2 fin) (hfin : fin = true → ini = true ∧ (vwCl[ci]?).map (fun q => q.1) = some own) (hdg : decode cc pc = .ok (.putfield idx, 3)) (Hq : (jp_R ci k h a v).bind f = some res)
    (K : ∀ h1 : jH, f h1 = some res → jGo l d E own cc nL ret ini (pc + 3) ls st h1 r hf) : jGo l d E own cc nL ret ini pc ls (.ref v :: .ref a :: st) h r hf := by
  obtain ⟨w, h1, h2⟩ := Option.bind_eq_some_iff.mp Hq
  unfold jp_R at h1
  split at h1
  · rename_i hsh
    cases h1
    have hkd : j_kd (j_ty ci k) = 2 := by obtain ⟨Cn, T, N, -, -, -, -, e⟩ := F; exact e
    refine jr_put (h' := js_R h a k (some v)) F hdg hsh hfin (fun S0 => ?_) (fun S0 => ?_) rfl rfl (fun b hb => ⟨rfl, j_up_ne hb⟩) rfl (fun S0 j => ?_) (K _ h2)
    · cases ht : j_ty ci k <;> rw [ht] at hkd <;> first | rfl | (simp [j_kd] at hkd)
    · cases ht : j_ty ci k <;> rw [ht] at hkd <;> first | rfl | (simp [j_kd] at hkd)
    · unfold updV j_fs
      by_cases hj : j = k
      · subst hj
        rw [if_pos rfl, j_fv_r hkd]
        simp [js_R, jh_R, j_up, va_rf]
        rfl
      · rw [if_neg hj]
        simp [js_R, jh_I, jh_R, j_up, hj]
  · cases h1
end
