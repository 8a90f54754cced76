/-! THE ABSTRACT HEAP. A cell is told by its number a (its address is S0 + a, S0: the heap's size where the law began): its shape (an object's kind and 0, or an array's mark and its length), its ints, its longs, its references. -/
abbrev jH : Type := (Nat × Nat) × (Nat → Nat × Nat) × (Nat → Nat → Int32) × (Nat → Nat → Int64) × (Nat → Nat → Option Nat)
def jh_n (h : jH) : Nat := h.1.1
def jh_s (h : jH) : Nat := h.1.2
def jh_sh (h : jH) : Nat → Nat × Nat := h.2.1
def jh_I (h : jH) : Nat → Nat → Int32 := h.2.2.1
def jh_L (h : jH) : Nat → Nat → Int64 := h.2.2.2.1
def jh_R (h : jH) : Nat → Nat → Option Nat := h.2.2.2.2
def j_up {α : Type} (f : Nat → Nat → α) (a k : Nat) (x : α) : Nat → Nat → α := fun b j => if b = a then (if j = k then x else f b j) else f b j
def j_row {α : Type} (f : Nat → Nat → α) (a : Nat) (g : Nat → α) : Nat → Nat → α := fun b => if b = a then g else f b
def js_I (h : jH) (a k : Nat) (x : Int32) : jH := (h.1, h.2.1, j_up h.2.2.1 a k x, h.2.2.2)
def js_L (h : jH) (a k : Nat) (x : Int64) : jH := (h.1, h.2.1, h.2.2.1, j_up h.2.2.2.1 a k x, h.2.2.2.2)
def js_R (h : jH) (a k : Nat) (x : Option Nat) : jH := (h.1, h.2.1, h.2.2.1, h.2.2.2.1, j_up h.2.2.2.2 a k x)
/-- a row of ints copied -/
def js_C (h : jH) (a : Nat) (g : Nat → Int32) : jH := (h.1, h.2.1, j_row h.2.2.1 a g, h.2.2.2)
/-- a new cell of a shape, with m slots -/
def js_N (h : jH) (c : Nat × Nat) (m : Nat) : jH := ((h.1.1 + 1, h.1.2 + m), (fun b => if b = h.1.1 then c else h.2.1 b), j_row h.2.2.1 h.1.1 (fun _ => 0), j_row h.2.2.2.1 h.1.1 (fun _ => 0), j_row h.2.2.2.2 h.1.1 (fun _ => none))
/-- an index within -/
def j_x (i : Int32) (n : Nat) : Bool := !(decide (i < 0)) && decide (i.toNatClampNeg < n)
theorem j_x_in {i : Int32} {n : Nat} (h : j_x i n = true) : vp_in i n := by
  simp only [j_x, Bool.and_eq_true, Bool.not_eq_true', decide_eq_false_iff_not, decide_eq_true_eq] at h
  intro q
  rcases q with q | q
  · exact h.1 q
  · omega
/-- fields -/
def jg_I (c k : Nat) (h : jH) (a : Nat) : Option Int32 := if jh_sh h a = (c, 0) then some (jh_I h a k) else none
def jg_R (c k : Nat) (h : jH) (a : Nat) : Option Nat := if jh_sh h a = (c, 0) then jh_R h a k else none
def jp_I (c k : Nat) (h : jH) (a : Nat) (x : Int32) : Option jH := if jh_sh h a = (c, 0) then some (js_I h a k x) else none
def jp_R (c k : Nat) (h : jH) (a r : Nat) : Option jH := if jh_sh h a = (c, 0) then some (js_R h a k (some r)) else none
/-- arrays: 100 int, 101 byte, 102 boolean, 103 long, 104 Scene -/
def ja_I (t : Nat) (h : jH) (a : Nat) (i : Int32) : Option Int32 := if (jh_sh h a).1 = t ∧ j_x i (jh_sh h a).2 = true then some (jh_I h a i.toNatClampNeg) else none
def ja_L (h : jH) (a : Nat) (i : Int32) : Option Int64 := if (jh_sh h a).1 = 103 ∧ j_x i (jh_sh h a).2 = true then some (jh_L h a i.toNatClampNeg) else none
def ja_R (h : jH) (a : Nat) (i : Int32) : Option Nat := if (jh_sh h a).1 = 104 ∧ j_x i (jh_sh h a).2 = true then jh_R h a i.toNatClampNeg else none
def jb_I (t : Nat) (h : jH) (a : Nat) (i x : Int32) : Option jH := if (jh_sh h a).1 = t ∧ j_x i (jh_sh h a).2 = true then some (js_I h a i.toNatClampNeg x) else none
def jb_L (h : jH) (a : Nat) (i : Int32) (x : Int64) : Option jH := if (jh_sh h a).1 = 103 ∧ j_x i (jh_sh h a).2 = true then some (js_L h a i.toNatClampNeg x) else none
def jb_R (h : jH) (a : Nat) (i : Int32) (r : Nat) : Option jH := if (jh_sh h a).1 = 104 ∧ j_x i (jh_sh h a).2 = true ∧ jh_sh h r = (7, 0) then some (js_R h a i.toNatClampNeg (some r)) else none
def jn_len (t : Nat) (h : jH) (a : Nat) : Option Int32 := if (jh_sh h a).1 = t then some (Int32.ofNat (jh_sh h a).2) else none
def jn_A (t : Nat) (h : jH) (i : Int32) : Option (Nat × jH) := if ¬ i < 0 ∧ i.toNatClampNeg ≤ 100000 then some (jh_n h, js_N h (t, i.toNatClampNeg) i.toNatClampNeg) else none
def jn_O (c N : Nat) (h : jH) : Option (Nat × jH) := some (jh_n h, js_N h (c, 0) N)
/-- a value and a heap taken on -/
def j_b2 {α β : Type} (o : Option (α × jH)) (k : α → jH → Option β) : Option β := match o with
  | none => none
  | some q => k q.1 q.2
theorem j_b2_some {α β : Type} {o : Option (α × jH)} {k : α → jH → Option β} {res : β} (H : j_b2 o k = some res) : ∃ x h, o = some (x, h) ∧ k x h = some res := by
  cases o with
  | none => cases H
  | some q => exact ⟨q.1, q.2, rfl, H⟩
/-- a road that is taken from several places -/
def j_jn {α β : Type} (k : α) (b : α → β) : β := b k
theorem jr_jn {α β : Type} {kb : α} {b : α → Option β} {res : β} {G : Prop} (P : α → Prop) (H : j_jn kb b = some res) (hJ : P kb) (K : ∀ J : α, P J → b J = some res → G) : G := K kb hJ H
/-- a receiver of a kind -/
def j_gd {α : Type} (c : Nat) (h : jH) (a : Nat) (x : Option α) : Option α := if jh_sh h a = (c, 0) then x else none
theorem j_gd_some {α : Type} {c : Nat} {h : jH} {a : Nat} {x : Option α} {res : α} (H : j_gd c h a x = some res) : jh_sh h a = (c, 0) ∧ x = some res := by
  unfold j_gd at H
  split at H
  · rename_i e
    exact ⟨e, H⟩
  · cases H
/-- Math's max and min -/
def j_max (x y : Int32) : Int32 := if x < y then y else x
def j_min (x y : Int32) : Int32 := if y < x then y else x
def j_maxl (x y : Int64) : Int64 := if y < x then x else y
/-- a boolean given back -/
def j_rz (v : Int32) (h : jH) : Option (Int32 × jH) := if v = 0 ∨ v = 1 then some (v, h) else none
def j_div (x y : Int32) : Option Int32 := if y = 0 then none else some (x / y)
def j_rem (x y : Int32) : Option Int32 := if y = 0 then none else some (x - x / y * y)
def j_dil (x y : Int64) : Option Int64 := if y = 0 then none else some (x / y)
def j_rel (x y : Int64) : Option Int64 := if y = 0 then none else some (x - x / y * y)
/-- System.arraycopy of ints -/
def j_copy (h : jH) (a0 : Nat) (sp : Int32) (a : Nat) (dp n : Int32) : Option jH :=
  if (jh_sh h a0).1 = 100 ∧ (jh_sh h a).1 = 100 ∧ ¬ sp < 0 ∧ ¬ dp < 0 ∧ ¬ n < 0 ∧ sp.toNatClampNeg + n.toNatClampNeg ≤ (jh_sh h a0).2 ∧ dp.toNatClampNeg + n.toNatClampNeg ≤ (jh_sh h a).2
  then some (js_C h a (va_cpy (jh_I h a0) (jh_I h a) sp.toNatClampNeg dp.toNatClampNeg n.toNatClampNeg)) else none
/-! VALUES, LOCALS -/
def j_v (S0 : Nat) (v : Value) : Value := match v with
  | .ref a => .ref (S0 + a)
  | w => w
theorem j_v_cat (S0 : Nat) (v : Value) : (j_v S0 v).category = v.category := by cases v <;> rfl
def j_l (S0 : Nat) : Nat → List (Option Value) → List (Nat × Value)
  | _, [] => []
  | i, none :: t => j_l S0 (i + 1) t
  | i, some v :: t => (i, j_v S0 v) :: j_l S0 (i + 1) t
theorem j_l_mem {S0 : Nat} : ∀ {ls : List (Option Value)} {b i : Nat} {v : Value}, ls[i]? = some (some v) → (b + i, j_v S0 v) ∈ j_l S0 b ls
  | [], b, i, v, h => by simp at h
  | none :: t, b, 0, v, h => by simp at h
  | some w :: t, b, 0, v, h => by
    simp at h
    subst h
    exact List.mem_cons_self
  | none :: t, b, i + 1, v, h => by
    have := j_l_mem (S0 := S0) (ls := t) (b := b + 1) (i := i) (v := v) (by simpa using h)
    rw [show b + (i + 1) = b + 1 + i by omega]
    exact this
  | some w :: t, b, i + 1, v, h => by
    have := j_l_mem (S0 := S0) (ls := t) (b := b + 1) (i := i) (v := v) (by simpa using h)
    rw [show b + (i + 1) = b + 1 + i by omega]
    exact List.mem_cons_of_mem _ this
theorem j_l_of {S0 : Nat} : ∀ {ls : List (Option Value)} {b : Nat} {q : Nat × Value}, q ∈ j_l S0 b ls → ∃ i v, q = (b + i, j_v S0 v) ∧ ls[i]? = some (some v)
  | [], b, q, h => by simp [j_l] at h
  | none :: t, b, q, h => by
    obtain ⟨i, v, h1, h2⟩ := j_l_of (S0 := S0) (ls := t) (b := b + 1) (q := q) h
    exact ⟨i + 1, v, by rw [h1]; congr 1; omega, by simpa using h2⟩
  | some w :: t, b, q, h => by
    rcases List.mem_cons.mp h with h | h
    · exact ⟨0, w, by simpa using h, by simp⟩
    · obtain ⟨i, v, h1, h2⟩ := j_l_of (S0 := S0) (ls := t) (b := b + 1) (q := q) h
      exact ⟨i + 1, v, by rw [h1]; congr 1; omega, by simpa using h2⟩
/-- no long stands just ahead of i -/
def j_ok (ls : List (Option Value)) (i : Nat) : Bool := match i with
  | 0 => true
  | k + 1 => match ls[k]? with
    | some (some v) => v.category != 2
    | _ => true
/-! THE WORDS of the tables that stay while a run goes on -/
def j_w (w : Cond) : Bool := match w with
  | .methodLinkNest .. => true
  | .arrayOver (.object _) => true
  | .castable .. => true
  | .declares _ => true
  | w => goodWord w
def jTB : List Cond := lw_tbl.filter j_w
theorem j_w_warm {args a' : Array Value} {s U : State} {w : Cond} (hW : s.WarmedH U.vm) (hw : j_w w = true) (h : w.before args s = true) : w.before a' U = true := by
  have good : goodWord w = true → w.before a' U = true := fun g => word_at hW (good_of_word g) h
  cases w with
  | declares x => exact va_Nw.use rfl (va_Nw.warmD hW (va_Nw.of rfl h))
  | castable C T => exact va_Nw.use rfl (va_Nw.warmC hW (va_Nw.of rfl h))
  | methodLinkNest a i x ho => exact va_Nw.use rfl (va_Nw.warmM hW (va_Nw.of rfl h))
  | arrayOver t =>
    cases t with
    | object C => exact va_AO.use (va_AO.moved hW.alike (va_AO.of h))
    | _ => exact good hw
  | _ => exact good hw
theorem j_tb_warm {args : Array Value} {s : State} (hts : ∀ w ∈ jTB, w.before args s = true) {y : MethodName} {cc : ByteArray} {nL : Nat} {ret : Option FieldType} (hc : Cond.code y cc nL ret ∈ jTB) :
    ∀ w ∈ (Cond.code y cc nL ret :: jTB), ∀ (a' : Array Value) (U : State), s.WarmedH U.vm → w.before a' U = true := by
  intro w hw a' U hW
  have hw' : w ∈ jTB := by
    rcases List.mem_cons.mp hw with e | e
    · rw [e]; exact hc
    · exact e
  exact j_w_warm hW (List.mem_filter.mp hw').2 (hts w hw')
/-! THE HEAP AND ITS PICTURE -/
def j_ty (c k : Nat) : FieldType := match c with
  | 0 => tyX0 k
  | 1 => tyX1 k
  | 2 => tyX2 k
  | 3 => tyX3 k
  | 4 => tyX4 k
  | 5 => tyX5 k
  | 6 => tyX6 k
  | 7 => tyX7 k
  | 8 => tyX8 k
  | 9 => tyX9 k
  | 10 => tyX10 k
  | _ => tyX11 k
def j_fv (S0 : Nat) (ty : FieldType) (i : Int32) (r : Option Nat) : Value := match ty with
  | .object _ => va_rf (r.map (S0 + ·))
  | .array _ => va_rf (r.map (S0 + ·))
  | _ => .int i
def j_fs (S0 : Nat) (h : jH) (a c : Nat) : Nat → Value := fun k => j_fv S0 (j_ty c k) (jh_I h a k) (jh_R h a k)
def j_cell (S0 : Nat) (D : va_G) (cA : Nat → ClassId) (h : jH) (a : Nat) (H : Heap) : Prop :=
  (∀ (c : Nat) (q : vw_C), jh_sh h a = (c, 0) → vwCl[c]? = some q → t_OB (S0 + a) (D.1 c) q.2.2 (D.2 c) H (j_fs S0 h a c)) ∧
  (∀ t : Nat, (jh_sh h a).1 = t → t = 100 ∨ t = 101 ∨ t = 102 → H[S0 + a]? = some (arrV (cA t) (jh_sh h a).2 (fun j => .int (jh_I h a j)))) ∧
  ((jh_sh h a).1 = 103 → H[S0 + a]? = some (arrV (cA 103) (jh_sh h a).2 (fun j => .long (jh_L h a j)))) ∧
  ((jh_sh h a).1 = 104 → H[S0 + a]? = some (arrV (cA 104) (jh_sh h a).2 (fun j => va_rf ((jh_R h a j).map (S0 + ·)))))
theorem j_cell.kept {S0 : Nat} {D : va_G} {cA : Nat → ClassId} {h h' : jH} {a : Nat} {H H' : Heap} (g : j_cell S0 D cA h a H) (e1 : jh_sh h' a = jh_sh h a) (e2 : jh_I h' a = jh_I h a) (e3 : jh_L h' a = jh_L h a) (e4 : jh_R h' a = jh_R h a) (hq : H'[S0 + a]? = H[S0 + a]?) : j_cell S0 D cA h' a H' := by
  obtain ⟨g1, g2, g3, g4⟩ := g
  refine ⟨fun c q hc hq' => ?_, fun t ht ho => ?_, fun ht => ?_, fun ht => ?_⟩
  · rw [e1] at hc
    have g := (g1 c q hc hq').kept hq
    unfold j_fs
    rw [e2, e4]
    exact g
  · rw [e1] at ht ⊢
    rw [e2, hq]
    exact g2 t ht ho
  · rw [e1] at ht ⊢
    rw [e3, hq]
    exact g3 ht
  · rw [e1] at ht ⊢
    rw [e4, hq]
    exact g4 ht
def jRel (S0 : Nat) (D : va_G) (cA : Nat → ClassId) (h : jH) (H : Heap) : Prop := H.size = S0 + jh_n h ∧ ∀ a, j_cell S0 D cA h a H
def j_tys (cA : Nat → ClassId) : List (ClassId × FieldType) := [(cA 100, .int), (cA 101, .byte), (cA 102, .boolean), (cA 103, .long), (cA 104, .object RX7)]
def jK (D : va_G) (cA : Nat → ClassId) (s : State) : Prop := va_K D vwCl (j_tys cA) s
def jRoom (d mc ms : Nat) : Room := { frames := d, cells := mc, slots := ms, locals := 100 * d }
def jPc (S0 : Nat) (D : va_G) (cA : Nat → ClassId) (h : jH) (av : List Value) : Array Value → State → Prop := fun v U => v = (av.map (j_v S0)).toArray ∧ S0 ≤ U.heap.size ∧ jK D cA U ∧ jRel S0 D cA h U.heap
def jQ (S0 : Nat) (D : va_G) (cA : Nat → ClassId) (r : Option Value) (hf : jH) : Array Value → State → Outcome → State → Prop := fun _ st o t => o = .returned r ∧ jRel S0 D cA hf t.heap ∧ ∀ q : Nat, q < S0 → t.heap[q]? = st.heap[q]?
/-- A METHOD'S CONTRACT over the picture: from h with these arguments it returns r, and leaves hf -/
def jMet (l : Launch) (d : Nat) (y : MethodName) (cc : ByteArray) (nL : Nat) (ret : Option FieldType) (av : List Value) (h : jH) (r : Option Value) (hf : jH) : Prop :=
  (jh_n h ≤ jh_n hf ∧ jh_s h ≤ jh_s hf) ∧ ∀ (S0 : Nat) (D : va_G) (cA : Nat → ClassId), Met l y (Cond.code y cc nL ret :: jTB) (jRoom d (jh_n hf - jh_n h) (jh_s hf - jh_s h)) (jPc S0 D cA h av) (jQ S0 D cA (r.map (j_v S0)) hf) (jh_n hf - jh_n h) (jh_s hf - jh_s h) (fun q => S0 ≤ q)
/-- a method's own matter: nothing; a table of what it catches (none, for one that throws), and what the tables give of Throwable's statics; or the law's script: its length and its ints -/
abbrev jE : Type := Option (List (Nat × Nat × Nat × Nat) ⊕ (Nat × (Nat → Int32)))
def jEl (E : jE) : Bool := match E with
  | some (.inr _) => true
  | _ => false
def jZ (S0 : Nat) (s : State) : Prop := vx_Zq Bundle.tN "UNASSIGNED_STACK" Bundle.steD (fun q => S0 ≤ q) s s.heap ∧ vx_Zq Bundle.tN "SUPPRESSED_SENTINEL" Bundle.listD (fun q => S0 ≤ q) s s.heap
def jX (E : jE) (S0 : Nat) (s : State) (c : Code) (x0 : List (Nat × Value)) : Prop := match E with
  | none => x0 = []
  | some (.inl hh) => x0 = [] ∧ c.exceptionTable.toList = tableOf hh ∧ jZ S0 s
  | some (.inr q) => (∃ b, x0 = [(0, .ref b)] ∧ va_X b q.1 q.2 s s.heap ∧ b < S0 ∧ s.heap.size = S0) ∧ jZ S0 s
/-- where a method has thrown: NoSuchElementException, over the picture hf -/
def jXC (S0 : Nat) (D : va_G) (cA : Nat → ClassId) (hf : jH) : String → State → State → Prop := fun E st t => E = "java/util/NoSuchElementException" ∧ jRel S0 D cA hf t.heap ∧ ∀ q : Nat, q < S0 → t.heap[q]? = st.heap[q]?
/-- a method's end: with r, or thrown (then r is told as a return address, which no method gives back) -/
def jF (S0 : Nat) (D : va_G) (cA : Nat → ClassId) (below : List Frame) (r : Option Value) (hf : jH) (args : Array Value) (s : State) (mc ms : Nat) : State → Prop := match r with
  | some (.retAddr _) => vx_MQ below (fun _ _ _ _ => False) (jXC S0 D cA hf) args s mc ms (fun q => S0 ≤ q)
  | v => MQ below (jQ S0 D cA (v.map (j_v S0)) hf) args s mc ms (fun q => S0 ≤ q)
def jRok (r : Option Value) : Bool := match r with
  | some (.retAddr _) => false
  | _ => true
theorem jF_ok {S0 : Nat} {D : va_G} {cA : Nat → ClassId} {below : List Frame} {r : Option Value} {hf : jH} {args : Array Value} {s : State} {mc ms : Nat} (h : jRok r = true) : jF S0 D cA below r hf args s mc ms = MQ below (jQ S0 D cA (r.map (j_v S0)) hf) args s mc ms (fun q => S0 ≤ q) := by
  cases r with
  | none => rfl
  | some v => cases v <;> first | rfl | (cases h)
/-- what stays through a method's run -/
def jC (E : jE) (S0 : Nat) (D : va_G) (cA : Nat → ClassId) (own : String) (cc : ByteArray) (nL : Nat) (ret : Option FieldType) (ini : Bool) (p : Program) (s : State) (m : MethodId) (args : Array Value) (meth : Method) (c : Code) (x0 : List (Nat × Value)) : Prop :=
  p.tables.exec = Jvm.exec ∧ c.code = cc ∧ c.maxLocals = nL ∧ meth.sig.returnType = ret ∧ meth.locks = false ∧ s.vm.findClass own = some m.cls ∧ (∀ w ∈ jTB, w.before args s = true) ∧ jK D cA s ∧ S0 ≤ s.heap.size ∧ (ini = true → meth.name = "<init>") ∧ jX E S0 s c x0
/-- THE MACHINE AT pc, with locals ls and stack st over the picture h, comes to its end with r and hf -/
def jGo (l : Launch) (d : Nat) (E : jE) (own : String) (cc : ByteArray) (nL : Nat) (ret : Option FieldType) (ini : Bool) (pc : Nat) (ls : List (Option Value)) (st : List Value) (h : jH) (r : Option Value) (hf : jH) : Prop :=
  (jh_n h ≤ jh_n hf ∧ jh_s h ≤ jh_s hf) ∧
  ∀ (S0 : Nat) (D : va_G) (cA : Nat → ClassId) (p : Program) (e : Env) (s : State) (m : MethodId) (args : Array Value) (below : List Frame) (meth : Method) (c : Code) (h0 : jH) (H : Heap) (locs : List Loc) (lsA : Array Slot) (x0 : List (Nat × Value)),
    jC E S0 D cA own cc nL ret ini p s m args meth c x0 → (jh_n h0 ≤ jh_n h ∧ jh_s h0 ≤ jh_s h) → jRel S0 D cA h H → va_S (fun q => S0 ≤ q) s.heap H locs → lv_has lsA nL (x0 ++ j_l S0 0 ls) →
    W p l e (jRoom d (jh_n hf - jh_n h0) (jh_s hf - jh_s h0)) s m args below meth c H locs (jh_n h - jh_n h0) (jh_s h - jh_s h0) (jF S0 D cA below r hf args s (jh_n hf - jh_n h0) (jh_s hf - jh_s h0)) (F0 m pc lsA (st.map (j_v S0)))
/-- a method's contract out of its body -/
theorem jMet.of {l : Launch} {d : Nat} {y : MethodName} {cc : ByteArray} {nL : Nat} {ret : Option FieldType} {av : List Value} {h : jH} {r : Option Value} {hf : jH} (ini : Bool) (ls : List (Option Value)) (hrk : jRok r = true)
    (hy : plainName y.cls = true) (hini : ini = true → y.name = "<init>") (hlen : (lg_sl av).length ≤ nL) (hls : ∀ S0, ∀ q ∈ j_l S0 0 ls, q ∈ lv_args 0 (av.map (j_v S0)))
    (K : jGo l d none y.cls cc nL ret ini 0 ls [] h r hf) : jMet l d y cc nL ret av h r hf := by
  refine ⟨K.1, fun S0 D cA => ?_⟩
  refine Met.ofW (cc := cc) (maxL := nL) (ret := ret) hy rfl ?_
  intro p e s m args below meth c s₁ B hml hv
  obtain ⟨rfl, hS0, hK, hR⟩ := hv
  have hts0 := atoms_spec (ws := Cond.code y cc nL ret :: jTB) B.pre
  have hts : ∀ w ∈ jTB, w.before (List.map (j_v S0) av).toArray s = true := fun w hw => hts0 w (List.mem_cons_of_mem _ hw)
  have hown : s.vm.findClass y.cls = some m.cls := findClass_of_methodNamed B.named
  have hcat : (lg_sl (av.map (j_v S0))).length = (lg_sl av).length := by
    clear hlen hls hts hts0 B K hR
    induction av with
    | nil => rfl
    | cons a t ih =>
      simp only [lg_sl, List.map_cons, List.flatMap_cons, List.length_append, j_v_cat] at ih ⊢
      rw [ih]
      congr 1
      split <;> rfl
  have hl := lv_entry (av.map (j_v S0)) (n := nL) (by rw [hcat]; exact hlen)
  rw [lg_entry_eq]
  have hl2 : lv_has ((lg_sl (av.map (j_v S0)) ++ List.replicate (nL - (lg_sl (av.map (j_v S0))).length) Slot.unset).toArray) nL ([] ++ j_l S0 0 ls) := ⟨hl.1, hl.2.1, fun q hq => hl.2.2 q (hls S0 q hq)⟩
  have k := K.2 S0 D cA p e s m (List.map (j_v S0) av).toArray below meth c h s.heap [] _ [] ⟨B.exec, B.bytes, hml, B.returns, B.notSynchronized, hown, hts, hK, hS0, fun hi => by rw [(name_of_methodNamed B.named B.method).1]; exact hini hi, rfl⟩ ⟨Nat.le_refl _, Nat.le_refl _⟩ hR va_S.rf hl2
  rw [Nat.sub_self, Nat.sub_self, jF_ok hrk] at k
  exact k
