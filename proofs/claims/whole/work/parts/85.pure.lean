/-! SAID: rising rows of words, in the class's order and in the reference's -/
def lst {α : Type} (Φ : Nat → List α) : Nat → Nat → List α
  | _, 0 => []
  | j, m + 1 => Φ j ++ lst Φ (j + 1) m
def lX (W : Nat) : Nat → Nat → List Nat → List (List Nat)
  | 0, _, pre => [pre]
  | n + 1, w, pre => lst (fun x => lX W n x (pre ++ [x])) w (W - w)
def lM (W : Nat) : Nat → Nat → List Nat → List (List Nat)
  | 0, _, pre => [pre]
  | r + 1, w, pre => pre :: lst (fun x => lM W r x (pre ++ [x])) w (W - w)
def lA (W : Nat) : Nat → Nat → List Nat → List (List Nat)
  | 0, w, pre => lX W 0 w pre
  | r + 1, w, pre => lA W r w pre ++ lX W (r + 1) w pre
theorem mem_lst {α : Type} {Φ : Nat → List α} {c : α} : ∀ m j, c ∈ lst Φ j m → ∃ x, j ≤ x ∧ x < j + m ∧ c ∈ Φ x
  | 0, j, h => by cases h
  | m + 1, j, h => by
    rcases List.mem_append.mp h with h | h
    · exact ⟨j, Nat.le_refl j, by omega, h⟩
    · obtain ⟨x, a, b, c⟩ := mem_lst m (j + 1) h
      exact ⟨x, by omega, by omega, c⟩
theorem cnt_lst2 {α : Type} {p : α → Bool} {f g : Nat → List α} : ∀ m j, (lst (fun x => f x ++ g x) j m).countP p = (lst f j m).countP p + (lst g j m).countP p
  | 0, j => rfl
  | m + 1, j => by
    have := cnt_lst2 (p := p) (f := f) (g := g) m (j + 1)
    simp only [lst, List.countP_append, this]
    omega
theorem cnt_lstC {α : Type} {p : α → Bool} {f g : Nat → List α} (h : ∀ x, (f x).countP p = (g x).countP p) : ∀ m j, (lst f j m).countP p = (lst g j m).countP p
  | 0, j => rfl
  | m + 1, j => by
    simp only [lst, List.countP_append, h, cnt_lstC h m (j + 1)]
theorem cnt_lA {W : Nat} {p : List Nat → Bool} : ∀ r w pre, (lA W (r + 1) w pre).countP p = [pre].countP p + (lst (fun x => lA W r x (pre ++ [x])) w (W - w)).countP p
  | 0, w, pre => by
    show (lX W 0 w pre ++ lX W 1 w pre).countP p = _
    rw [List.countP_append]
    rfl
  | r + 1, w, pre => by
    show (lA W (r + 1) w pre ++ lX W (r + 2) w pre).countP p = _
    rw [List.countP_append, cnt_lA r w pre]
    have := cnt_lst2 (p := p) (f := fun x => lA W r x (pre ++ [x])) (g := fun x => lX W (r + 1) x (pre ++ [x])) (W - w) w
    show _ + (lst (fun x => lX W (r + 1) x (pre ++ [x])) w (W - w)).countP p = _ + (lst (fun x => lA W r x (pre ++ [x]) ++ lX W (r + 1) x (pre ++ [x])) w (W - w)).countP p
    omega
theorem cnt_lM {W : Nat} {p : List Nat → Bool} : ∀ r w pre, (lM W r w pre).countP p = (lA W r w pre).countP p
  | 0, w, pre => rfl
  | r + 1, w, pre => by
    rw [cnt_lA]
    show ([pre] ++ lst (fun x => lM W r x (pre ++ [x])) w (W - w)).countP p = _
    rw [List.countP_append, cnt_lstC (g := fun x => lA W r x (pre ++ [x])) (fun x => cnt_lM r x (pre ++ [x]))]
/-- a row as a number: longer ones are more, then the order of rows -/
def enc (l : List Nat) : Nat := l.foldl (fun a x => a * 10 + x) 1
theorem enc_snoc {l : List Nat} {x : Nat} : enc (l ++ [x]) = enc l * 10 + x := by
  simp [enc, List.foldl_append]
theorem lX_enc {W : Nat} (hW : W ≤ 10) : ∀ n w pre c, c ∈ lX W n w pre → enc pre * 10 ^ n ≤ enc c ∧ enc c < (enc pre + 1) * 10 ^ n ∧ c.length = pre.length + n ∧ ((∀ x, x ∈ pre → x < W) → ∀ x, x ∈ c → x < W)
  | 0, w, pre, c, h => by
    have : c = pre := List.mem_singleton.mp h
    subst this
    exact ⟨by omega, by omega, rfl, fun h => h⟩
  | n + 1, w, pre, c, h => by
    obtain ⟨x, h1, h2, h3⟩ := mem_lst _ _ h
    obtain ⟨a, b, d, e⟩ := lX_enc hW n x (pre ++ [x]) c h3
    rw [enc_snoc] at a b
    obtain ⟨t, ht⟩ : ∃ t, t = 10 ^ n := ⟨_, rfl⟩
    rw [← ht] at a b
    rw [Nat.pow_succ, ← ht]
    have e1 : (enc pre * 10 + x) * t = enc pre * (t * 10) + x * t := by rw [Nat.add_mul, Nat.mul_assoc, Nat.mul_comm 10 t]
    have e2 : (enc pre * 10 + x + 1) * t = enc pre * (t * 10) + (x + 1) * t := by rw [Nat.add_assoc, Nat.add_mul, Nat.mul_assoc, Nat.mul_comm 10 t]
    have e3 : (x + 1) * t ≤ 10 * t := Nat.mul_le_mul_right t (by omega)
    have e4 : (enc pre + 1) * (t * 10) = enc pre * (t * 10) + t * 10 := by rw [Nat.add_mul, Nat.one_mul]
    refine ⟨by omega, by omega, by rw [d, List.length_append, List.length_singleton]; omega, fun hp => e (fun y hy => ?_)⟩
    rcases List.mem_append.mp hy with hy | hy
    · exact hp y hy
    · rw [List.mem_singleton.mp hy]
      omega
theorem pw_lst {α : Type} {R : α → α → Prop} {Φ : Nat → List α} : ∀ m j, (∀ x, (Φ x).Pairwise R) → (∀ x y a b, x < y → y < j + m → a ∈ Φ x → b ∈ Φ y → R a b) → (lst Φ j m).Pairwise R
  | 0, j, _, _ => List.Pairwise.nil
  | m + 1, j, h1, h2 => by
    refine List.pairwise_append.mpr ⟨h1 j, pw_lst m (j + 1) h1 (fun x y a b h3 h4 => h2 x y a b h3 (by omega)), fun a ha b hb => ?_⟩
    obtain ⟨x, c1, c2, c3⟩ := mem_lst m (j + 1) hb
    exact h2 j x a b (by omega) (by omega) ha c3
theorem lX_pw {W : Nat} (hW : W ≤ 10) : ∀ n w pre, (lX W n w pre).Pairwise (fun a b => enc a < enc b)
  | 0, w, pre => List.pairwise_singleton _ _
  | n + 1, w, pre => pw_lst _ _ (fun x => lX_pw hW n x (pre ++ [x])) (fun x y a b h1 h2 ha hb => by
    have p := (lX_enc hW n x (pre ++ [x]) a ha).2.1
    have q := (lX_enc hW n y (pre ++ [y]) b hb).1
    rw [enc_snoc] at p q
    have : (enc pre * 10 + x + 1) * 10 ^ n ≤ (enc pre * 10 + y) * 10 ^ n := Nat.mul_le_mul_right _ (by omega)
    omega)
/-- all rows, as the class goes -/
def lAll (W : Nat) : List (List Nat) := lX W 1 0 [] ++ (lX W 2 0 [] ++ (lX W 3 0 [] ++ lX W 4 0 []))
theorem lAll_in {W : Nat} (hW : W ≤ 10) {c : List Nat} (h : c ∈ lAll W) : 1 ≤ c.length ∧ c.length ≤ 4 ∧ ∀ x, x ∈ c → x < W := by
  have k : ∀ n, 1 ≤ n → n ≤ 4 → c ∈ lX W n 0 [] → 1 ≤ c.length ∧ c.length ≤ 4 ∧ ∀ x, x ∈ c → x < W := fun n h1 h2 h3 => by
    obtain ⟨a, b, d, e⟩ := lX_enc hW n 0 [] c h3
    simp only [List.length_nil] at d
    exact ⟨by omega, by omega, e (fun x hx => by cases hx)⟩
  rcases List.mem_append.mp h with h | h
  · exact k 1 (by omega) (by omega) h
  rcases List.mem_append.mp h with h | h
  · exact k 2 (by omega) (by omega) h
  rcases List.mem_append.mp h with h | h
  · exact k 3 (by omega) (by omega) h
  · exact k 4 (by omega) (by omega) h
theorem lAll_pw {W : Nat} (hW : W ≤ 10) : (lAll W).Pairwise (fun a b => enc a < enc b) := by
  have k : ∀ n a, a ∈ lX W n 0 [] → 10 ^ n ≤ enc a ∧ enc a < 2 * 10 ^ n := fun n a ha => by
    obtain ⟨p, q, -, -⟩ := lX_enc hW n 0 [] a ha
    rw [show enc [] = 1 from rfl] at p q
    exact ⟨by omega, q⟩
  refine List.pairwise_append.mpr ⟨lX_pw hW 1 0 [], List.pairwise_append.mpr ⟨lX_pw hW 2 0 [], List.pairwise_append.mpr ⟨lX_pw hW 3 0 [], lX_pw hW 4 0 [], fun a ha b hb => ?_⟩, fun a ha b hb => ?_⟩, fun a ha b hb => ?_⟩
  · have := k 3 a ha
    have := k 4 b hb
    omega
  · have := k 2 a ha
    rcases List.mem_append.mp hb with hb | hb
    · have := k 3 b hb
      omega
    · have := k 4 b hb
      omega
  · have := k 1 a ha
    rcases List.mem_append.mp hb with hb | hb
    · have := k 2 b hb
      omega
    rcases List.mem_append.mp hb with hb | hb
    · have := k 3 b hb
      omega
    · have := k 4 b hb
      omega
def sX (ok : List Nat → Bool) (s : Nat × List Nat) (c : List Nat) : Nat × List Nat := if ok c = true then (s.1 + 1, if s.2 = [] then c else s.2) else s
def sM (ok : List Nat → Bool) (s : Nat × List Nat) (c : List Nat) : Nat × List Nat := if c ≠ [] ∧ ok c = true then (s.1 + 1, if s.1 = 0 ∨ enc c < enc s.2 then c else s.2) else s
theorem fX_eq {ok : List Nat → Bool} : ∀ (l : List (List Nat)) (s : Nat × List Nat), (∀ c, c ∈ l → c ≠ []) → (l.foldl (sX ok) s).1 = s.1 + (l.filter ok).length ∧ (l.foldl (sX ok) s).2 = if s.2 = [] then (l.filter ok).headD [] else s.2
  | [], s, _ => ⟨rfl, by
    simp only [List.foldl_nil, List.filter_nil, List.headD_nil]
    split
    · assumption
    · rfl⟩
  | c :: l, s, h => by
    have hc : c ≠ [] := h c List.mem_cons_self
    obtain ⟨i1, i2⟩ := fX_eq (ok := ok) l (sX ok s c) (fun d hd => h d (List.mem_cons_of_mem _ hd))
    rw [List.foldl_cons, i1, i2]
    by_cases ho : ok c = true
    · have e : sX ok s c = (s.1 + 1, if s.2 = [] then c else s.2) := if_pos ho
      rw [e, List.filter_cons_of_pos ho]
      refine ⟨by simp only [List.length_cons]; omega, ?_⟩
      by_cases hs : s.2 = []
      · simp only [if_pos hs, if_neg hc, List.headD_cons]
      · simp only [if_neg hs]
    · have e : sX ok s c = s := if_neg ho
      rw [e, List.filter_cons_of_neg ho]
      exact ⟨rfl, rfl⟩
theorem fM_eq {ok : List Nat → Bool} : ∀ (l : List (List Nat)) (s : Nat × List Nat), (l.foldl (sM ok) s).1 = s.1 + l.countP (fun c => decide (c ≠ []) && ok c) ∧ (0 < s.1 → ((l.foldl (sM ok) s).2 = s.2 ∨ ((l.foldl (sM ok) s).2 ∈ l ∧ (l.foldl (sM ok) s).2 ≠ [] ∧ ok (l.foldl (sM ok) s).2 = true)) ∧ enc (l.foldl (sM ok) s).2 ≤ enc s.2 ∧ ∀ c, c ∈ l → c ≠ [] → ok c = true → enc (l.foldl (sM ok) s).2 ≤ enc c) ∧ (s.1 = 0 → 0 < (l.foldl (sM ok) s).1 → ((l.foldl (sM ok) s).2 ∈ l ∧ (l.foldl (sM ok) s).2 ≠ [] ∧ ok (l.foldl (sM ok) s).2 = true) ∧ ∀ c, c ∈ l → c ≠ [] → ok c = true → enc (l.foldl (sM ok) s).2 ≤ enc c)
  | [], s => ⟨rfl, fun _ => ⟨.inl rfl, Nat.le_refl _, fun c hc => by cases hc⟩, fun h1 h2 => by
    simp only [List.foldl_nil] at h2
    omega⟩
  | c :: l, s => by
    obtain ⟨i1, i2, i3⟩ := fM_eq (ok := ok) l (sM ok s c)
    rw [List.foldl_cons, i1]
    by_cases ho : c ≠ [] ∧ ok c = true
    · have e : sM ok s c = (s.1 + 1, if s.1 = 0 ∨ enc c < enc s.2 then c else s.2) := if_pos ho
      have i2' := i2 (by rw [e]; exact Nat.succ_pos _)
      rw [e] at i2' ⊢
      obtain ⟨j1, j2, j3⟩ := i2'
      simp only [] at j1 j2 j3 ⊢
      obtain ⟨F, hF⟩ : ∃ F, F = l.foldl (sM ok) (s.1 + 1, if s.1 = 0 ∨ enc c < enc s.2 then c else s.2) := ⟨_, rfl⟩
      rw [← hF] at j1 j2 j3 ⊢
      have hcp : (c :: l).countP (fun c => decide (c ≠ []) && ok c) = l.countP (fun c => decide (c ≠ []) && ok c) + 1 := List.countP_cons_of_pos (by simp [ho.1, ho.2])
      refine ⟨by omega, fun h0 => ?_, fun h0 h1 => ?_⟩
      · have hn : ¬ s.1 = 0 := by omega
        by_cases hl : enc c < enc s.2
        · rw [if_pos (.inr hl)] at j1 j2
          refine ⟨.inr ?_, by omega, fun d hd hd1 hd2 => ?_⟩
          · rcases j1 with j1 | j1
            · rw [j1]
              exact ⟨List.mem_cons_self, ho⟩
            · exact ⟨List.mem_cons_of_mem _ j1.1, j1.2⟩
          · rcases List.mem_cons.mp hd with rfl | hd
            · exact j2
            · exact j3 d hd hd1 hd2
        · rw [if_neg (by omega)] at j1 j2
          refine ⟨?_, j2, fun d hd hd1 hd2 => ?_⟩
          · rcases j1 with j1 | j1
            · exact .inl j1
            · exact .inr ⟨List.mem_cons_of_mem _ j1.1, j1.2⟩
          · rcases List.mem_cons.mp hd with rfl | hd
            · omega
            · exact j3 d hd hd1 hd2
      · rw [if_pos (.inl h0)] at j1 j2
        refine ⟨?_, fun d hd hd1 hd2 => ?_⟩
        · rcases j1 with j1 | j1
          · rw [j1]
            exact ⟨List.mem_cons_self, ho⟩
          · exact ⟨List.mem_cons_of_mem _ j1.1, j1.2⟩
        · rcases List.mem_cons.mp hd with rfl | hd
          · exact j2
          · exact j3 d hd hd1 hd2
    · have e : sM ok s c = s := if_neg ho
      rw [e] at i1 i2 i3 ⊢
      have hcp : (c :: l).countP (fun c => decide (c ≠ []) && ok c) = l.countP (fun c => decide (c ≠ []) && ok c) := List.countP_cons_of_neg (by
        intro h
        rw [Bool.and_eq_true, decide_eq_true_iff] at h
        exact ho h)
      refine ⟨by omega, fun h0 => ?_, fun h0 h1 => ?_⟩
      · obtain ⟨j1, j2, j3⟩ := i2 h0
        refine ⟨?_, j2, fun d hd hd1 hd2 => ?_⟩
        · rcases j1 with j1 | j1
          · exact .inl j1
          · exact .inr ⟨List.mem_cons_of_mem _ j1.1, j1.2⟩
        · rcases List.mem_cons.mp hd with rfl | hd
          · exact absurd ⟨hd1, hd2⟩ ho
          · exact j3 d hd hd1 hd2
      · obtain ⟨j1, j3⟩ := i3 h0 (by omega)
        refine ⟨⟨List.mem_cons_of_mem _ j1.1, j1.2⟩, fun d hd hd1 hd2 => ?_⟩
        rcases List.mem_cons.mp hd with rfl | hd
        · exact absurd ⟨hd1, hd2⟩ ho
        · exact j3 d hd hd1 hd2
theorem said_eq {W : Nat} (hW : W ≤ 10) (ok : List Nat → Bool) (b0 : List Nat) : ((lAll W).foldl (sX ok) (0, [])).1 = ((lM W 4 0 []).foldl (sM ok) (0, b0)).1 ∧ (0 < ((lAll W).foldl (sX ok) (0, [])).1 → ((lAll W).foldl (sX ok) (0, [])).2 = ((lM W 4 0 []).foldl (sM ok) (0, b0)).2) ∧ (((lAll W).foldl (sX ok) (0, [])).1 = 0 → ((lAll W).foldl (sX ok) (0, [])).2 = []) ∧ ((lAll W).foldl (sX ok) (0, [])).2.length ≤ 4 := by
  have ne : ∀ c, c ∈ lAll W → c ≠ [] := fun c hc h => by
    have := (lAll_in hW hc).1
    rw [h] at this
    exact absurd this (by decide)
  obtain ⟨x1, x2⟩ := fX_eq (ok := ok) (lAll W) (0, []) ne
  obtain ⟨m1, -, m3⟩ := fM_eq (ok := ok) (lM W 4 0 []) (0, b0)
  have cA : ∀ p : List Nat → Bool, (lM W 4 0 []).countP p = [([] : List Nat)].countP p + (lAll W).countP p := fun p => by
    rw [cnt_lM]
    show (lX W 0 0 [] ++ lX W 1 0 [] ++ lX W 2 0 [] ++ lX W 3 0 [] ++ lX W 4 0 []).countP p = _
    unfold lAll
    rw [List.countP_append, List.countP_append, List.countP_append, List.countP_append, List.countP_append, List.countP_append, List.countP_append, show lX W 0 0 [] = [[]] from rfl]
    omega
  have c1 : (lM W 4 0 []).countP (fun c => decide (c ≠ []) && ok c) = ((lAll W).filter ok).length := by
    rw [cA, ← List.countP_eq_length_filter]
    have : [([] : List Nat)].countP (fun c => decide (c ≠ []) && ok c) = 0 := by simp
    rw [this, Nat.zero_add]
    refine List.countP_congr (fun c hc => ?_)
    have := ne c hc
    simp [this]
  have mem : ∀ c, c ≠ [] → (c ∈ lM W 4 0 [] ↔ c ∈ lAll W) := fun c hc => by
    have := cA (fun d => decide (d = c))
    have e0 : [([] : List Nat)].countP (fun d => decide (d = c)) = 0 := by
      have : ¬ [] = c := fun h => hc h.symm
      simp [this]
    rw [e0, Nat.zero_add] at this
    have a1 := List.countP_pos_iff (p := fun d => decide (d = c)) (l := lM W 4 0 [])
    have a2 := List.countP_pos_iff (p := fun d => decide (d = c)) (l := lAll W)
    rw [this] at a1
    have a3 := a1.symm.trans a2
    simpa using a3
  simp only [Nat.zero_add] at x1 m1
  rw [x1, m1, c1]
  refine ⟨rfl, fun h => ?_, fun h => ?_, ?_⟩
  · rw [x2]
    simp only [if_true]
    rcases hf : (lAll W).filter ok with _ | ⟨c0, t⟩
    · rw [hf] at h
      exact absurd h (by decide)
    · have pw := (lAll_pw hW).filter (p := ok)
      rw [hf] at pw
      have h0 : c0 ∈ (lAll W).filter ok := by rw [hf]; exact List.mem_cons_self
      obtain ⟨h01, h02⟩ := List.mem_filter.mp h0
      obtain ⟨⟨j1, j2, j3⟩, j4⟩ := m3 rfl (by rw [m1, c1]; exact h)
      have k1 := j4 c0 ((mem c0 (ne c0 h01)).mpr h01) (ne c0 h01) h02
      have k2 : ((lM W 4 0 []).foldl (sM ok) (0, b0)).2 ∈ (lAll W).filter ok := List.mem_filter.mpr ⟨(mem _ j2).mp j1, j3⟩
      rw [hf] at k2
      rcases List.mem_cons.mp k2 with k2 | k2
      · exact k2.symm
      · have := (List.pairwise_cons.mp pw).1 _ k2
        omega
  · rw [x2]
    have : (lAll W).filter ok = [] := List.length_eq_zero_iff.mp h
    simp only [if_true, this, List.headD_nil]
  · rw [x2]
    simp only [if_true]
    rcases hf : (lAll W).filter ok with _ | ⟨c0, t⟩
    · exact Nat.zero_le _
    · have h0 : c0 ∈ (lAll W).filter ok := by rw [hf]; exact List.mem_cons_self
      exact (lAll_in hW (List.mem_filter.mp h0).1).2.1
