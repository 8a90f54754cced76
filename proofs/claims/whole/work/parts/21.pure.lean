/-! NUMBERS -/
theorem nb_ {n : Nat} (h : n < 2147483648) : n < 2 ^ 31 := h
theorem ni_lit (n : Nat) : (OfNat.ofNat n : Int32) = nI n := rfl
theorem nn_lt {a b : Nat} (ha : a < 2147483648) (hb : b < 2147483648) : (nI a < nI b) = (a < b) := propext (nI_ltI ha hb)
theorem nn_le {a b : Nat} (ha : a < 2147483648) (hb : b < 2147483648) : (nI a ≤ nI b) = (a ≤ b) := propext (nI_leI ha hb)
theorem nn_eq {a b : Nat} (ha : a < 2147483648) (hb : b < 2147483648) : (nI a = nI b) = (a = b) := propext (nI_eq ha hb)
theorem nl_lt {a b : Nat} (ha : a < 2147483648) (hb : b < 2147483648) : (nI a < (OfNat.ofNat b : Int32)) = (a < b) := nn_lt ha hb
theorem nl_le {a b : Nat} (ha : a < 2147483648) (hb : b < 2147483648) : (nI a ≤ (OfNat.ofNat b : Int32)) = (a ≤ b) := nn_le ha hb
theorem nl_eq {a b : Nat} (ha : a < 2147483648) (hb : b < 2147483648) : (nI a = (OfNat.ofNat b : Int32)) = (a = b) := nn_eq ha hb
theorem ln_lt {a b : Nat} (ha : a < 2147483648) (hb : b < 2147483648) : ((OfNat.ofNat b : Int32) < nI a) = (b < a) := nn_lt hb ha
theorem ln_le {a b : Nat} (ha : a < 2147483648) (hb : b < 2147483648) : ((OfNat.ofNat b : Int32) ≤ nI a) = (b ≤ a) := nn_le hb ha
theorem ln_eq {a b : Nat} (ha : a < 2147483648) (hb : b < 2147483648) : ((OfNat.ofNat b : Int32) = nI a) = (b = a) := nn_eq hb ha
theorem n_0lt {a : Nat} (ha : a < 2147483648) : (nI a < 0) = False := by
  have := nI_pos (nb_ ha)
  simp only [this]
theorem nl_ad (a b : Nat) : nI a + (OfNat.ofNat b : Int32) = nI (a + b) := nI_add a b
theorem ln_ad (a b : Nat) : (OfNat.ofNat b : Int32) + nI a = nI (b + a) := nI_add b a
theorem nl_mu (a b : Nat) : nI a * (OfNat.ofNat b : Int32) = nI (a * b) := pk_mul a b
theorem ln_mu (a b : Nat) : (OfNat.ofNat b : Int32) * nI a = nI (b * a) := pk_mul b a
theorem nl_su {a b : Nat} (h : b ≤ a) : nI a - (OfNat.ofNat b : Int32) = nI (a - b) := pk_sub h
theorem nn_su {a b : Nat} (h : b ≤ a) : nI a - nI b = nI (a - b) := pk_sub h
theorem n_m1 {a : Nat} (h : 1 ≤ a) : nI a + -nI 1 = nI (a - 1) := by
  obtain ⟨b, rfl⟩ : ∃ b, a = b + 1 := ⟨a - 1, by omega⟩
  exact pk_m1 b
theorem n_cl {a : Nat} (h : a < 2147483648) : (nI a).toNatClampNeg = a := nI_clamp (nb_ h)
theorem n_ti {a : Nat} (h : a < 2147483648) : (nI a).toInt = (a : Int) := nI_toInt (nb_ h)
/-- an Int32 from 0 on, below a bound -/
theorem n_of {x y : Int32} {n : Nat} (hy : y = nI n) (hn : n < 2147483648) (h0 : ¬ x < 0) (h1 : x < y) : ∃ j, j < n ∧ x = nI j := by
  obtain ⟨j, hj, rfl⟩ := nI_of h0
  subst hy
  rw [nn_lt (by omega) hn] at h1
  exact ⟨j, h1, rfl⟩
/-- not by rfl alone, so that a loop of many turns is not run where one is checked -/
theorem ob_ {α β : Type} (a : α) (f : α → Option β) : Option.bind (some a) f = f a := (Eq.refl _).trans (ob a f)
theorem b2_ {α β : Type} (a : α) (h : jH) (k : α → jH → Option β) : j_b2 (some (a, h)) k = k a h := (Eq.refl _).trans (b2 a h k)
theorem jn_ {α β : Type} (k : α) (b : α → β) : j_jn k b = b k := (Eq.refl _).trans (jn k b)
/-! FOLDS AND LOOPS -/
def fo {S : Type} (Φ : Nat → S → S) : Nat → Nat → S → S
  | _, 0, s => s
  | j, m + 1, s => fo Φ (j + 1) m (Φ j s)
theorem fo_last {S : Type} (Φ : Nat → S → S) : ∀ (m j : Nat) (s : S), fo Φ j (m + 1) s = Φ (j + m) (fo Φ j m s)
  | 0, j, s => rfl
  | m + 1, j, s => by
    show fo Φ (j + 1) (m + 1) (Φ j s) = Φ (j + (m + 1)) (fo Φ (j + 1) m (Φ j s))
    rw [fo_last Φ m (j + 1) (Φ j s)]
    congr 1
    omega
theorem fo_congr {S : Type} {Φ Ψ : Nat → S → S} : ∀ (m j : Nat) (s : S), (∀ i s, j ≤ i → i < j + m → Φ i s = Ψ i s) → fo Φ j m s = fo Ψ j m s
  | 0, _, _, _ => rfl
  | m + 1, j, s, h => by
    show fo Φ (j + 1) m (Φ j s) = fo Ψ (j + 1) m (Ψ j s)
    rw [h j s (Nat.le_refl j) (by omega)]
    exact fo_congr m (j + 1) _ (fun i s h1 h2 => h i s (by omega) (by omega))
theorem fo_inv {S : Type} {Φ : Nat → S → S} (P : Nat → S → Prop) : ∀ (m j : Nat) (s : S), P j s → (∀ i s, j ≤ i → i < j + m → P i s → P (i + 1) (Φ i s)) → P (j + m) (fo Φ j m s)
  | 0, _, _, h, _ => h
  | m + 1, j, s, h, g => by
    have := fo_inv P m (j + 1) (Φ j s) (g j s (Nat.le_refl j) (by omega) h) (fun i s h1 h2 => g i s (by omega) (by omega))
    rw [show j + (m + 1) = j + 1 + m by omega]
    exact this
theorem fo_rel {S T : Type} {Φ : Nat → S → S} {Ψ : Nat → T → T} (P : Nat → S → T → Prop) : ∀ (m j : Nat) (s : S) (t : T), P j s t → (∀ i s t, j ≤ i → i < j + m → P i s t → P (i + 1) (Φ i s) (Ψ i t)) → P (j + m) (fo Φ j m s) (fo Ψ j m t)
  | 0, _, _, _, h, _ => h
  | m + 1, j, s, t, h, g => by
    have := fo_rel P m (j + 1) (Φ j s) (Ψ j t) (g j s t (Nat.le_refl j) (by omega) h) (fun i s t h1 h2 => g i s t (by omega) (by omega))
    rw [show j + (m + 1) = j + 1 + m by omega]
    exact this
/-- a loop that goes up to N, its states a fold -/
theorem lo {S A : Type} (f : Nat → S → Nat → A) (Φ : Nat → S → S) (K : S → A) (N : Nat) (he : ∀ n s, f (n + 1) s N = K s) (hs : ∀ n s j, j < N → f (n + 1) s j = f n (Φ j s) (j + 1)) : ∀ m n s j, j + m = N → m < n → f n s j = K (fo Φ j m s)
  | _, 0, _, _, _, h => absurd h (Nat.not_lt_zero _)
  | 0, n + 1, s, j, e, _ => by
    rw [show j = N by omega]
    exact he n s
  | m + 1, n + 1, s, j, e, h => by
    rw [hs n s j (by omega)]
    exact lo f Φ K N he hs m n (Φ j s) (j + 1) (by omega) (by omega)
theorem loP {S A : Type} (f : Nat → S → Nat → A) (Φ : Nat → S → S) (K : S → A) (N : Nat) (P : Nat → S → Prop) (he : ∀ n s, P N s → f (n + 1) s N = K s) (hs : ∀ n s j, j < N → P j s → f (n + 1) s j = f n (Φ j s) (j + 1) ∧ P (j + 1) (Φ j s)) : ∀ m n s j, j + m = N → m < n → P j s → f n s j = K (fo Φ j m s) ∧ P N (fo Φ j m s)
  | _, 0, _, _, _, h, _ => absurd h (Nat.not_lt_zero _)
  | 0, n + 1, s, j, e, _, p => by
    have : j = N := by omega
    subst this
    exact ⟨he n s p, p⟩
  | m + 1, n + 1, s, j, e, h, p => by
    obtain ⟨e1, p1⟩ := hs n s j (by omega) p
    rw [e1]
    exact loP f Φ K N P he hs m n (Φ j s) (j + 1) (by omega) (by omega) p1
/-- a loop that goes up to N and may end before; what holds of its end -/
theorem lq {S A : Type} (Q : A → Prop) (f : Nat → S → Nat → A) (P : Nat → S → Prop) (N : Nat) (he : ∀ n s, P N s → Q (f (n + 1) s N)) (hs : ∀ n s j, j < N → P j s → (∀ s', P (j + 1) s' → Q (f n s' (j + 1))) → Q (f (n + 1) s j)) : ∀ m n s j, j + m = N → m < n → P j s → Q (f n s j)
  | _, 0, _, _, _, h, _ => absurd h (Nat.not_lt_zero _)
  | 0, n + 1, s, j, e, _, p => by
    have : j = N := by omega
    subst this
    exact he n s p
  | m + 1, n + 1, s, j, e, h, p => hs n s j (by omega) p (fun s' p' => lq Q f P N he hs m n s' (j + 1) (by omega) (by omega) p')
/-- rows that stay -/
def Fr (T : Nat → Nat → Bool) (I J : pI) : Prop := ∀ b k, T b k = false → J b k = I b k
theorem Fr.rf {T : Nat → Nat → Bool} {I : pI} : Fr T I I := fun _ _ _ => rfl
theorem Fr.tr {T : Nat → Nat → Bool} {I J K : pI} (h : Fr T I J) (g : Fr T J K) : Fr T I K := fun b k e => (g b k e).trans (h b k e)
theorem Fr.up {T : Nat → Nat → Bool} {I J : pI} {a k : Nat} {x : Int32} (h : Fr T I J) (e : T a k = true) : Fr T I (j_up J a k x) := fun b j ht => by
  unfold j_up
  split
  · rename_i e1
    split
    · rename_i e2
      subst e1 e2
      rw [e] at ht
      cases ht
    · exact h b j ht
  · exact h b j ht
theorem Fr.mo {T U : Nat → Nat → Bool} {I J : pI} (h : Fr T I J) (g : ∀ b k, T b k = true → U b k = true) : Fr U I J := fun b k e => h b k (by
  cases hT : T b k with
  | false => rfl
  | true => rw [g b k hT] at e; cases e)
