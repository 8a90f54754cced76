/-! THE WHOLE STATE: text, words, errands, (people, stations, the scene), undo, kept, row, rule -/
abbrev gG : Type := gT × gL × gD × (Nat × Nat × gC) × gU × gK × gR × gT
abbrev gTx (G : gG) : gT := G.1
abbrev gLx (G : gG) : gL := G.2.1
abbrev gDu (G : gG) : gD := G.2.2.1
abbrev gP (G : gG) : Nat := G.2.2.2.1.1
abbrev gS (G : gG) : Nat := G.2.2.2.1.2.1
abbrev gN (G : gG) : gC := G.2.2.2.1.2.2
abbrev gUn (G : gG) : gU := G.2.2.2.2.1
abbrev gKp (G : gG) : gK := G.2.2.2.2.2.1
abbrev gRw (G : gG) : gR := G.2.2.2.2.2.2.1
abbrev gRu (G : gG) : gT := G.2.2.2.2.2.2.2
abbrev sTx (G : gG) (x : gT) : gG := (x, G.2)
abbrev sLx (G : gG) (x : gL) : gG := (G.1, x, G.2.2)
abbrev sDu (G : gG) (x : gD) : gG := (G.1, G.2.1, x, G.2.2.2)
abbrev sSc (G : gG) (x : Nat × Nat × gC) : gG := (G.1, G.2.1, G.2.2.1, x, G.2.2.2.2)
abbrev sN (G : gG) (x : gC) : gG := (G.1, G.2.1, G.2.2.1, (G.2.2.2.1.1, G.2.2.2.1.2.1, x), G.2.2.2.2)
abbrev sUn (G : gG) (x : gU) : gG := (G.1, G.2.1, G.2.2.1, G.2.2.2.1, x, G.2.2.2.2.2)
abbrev sKp (G : gG) (x : gK) : gG := (G.1, G.2.1, G.2.2.1, G.2.2.2.1, G.2.2.2.2.1, x, G.2.2.2.2.2.2)
abbrev sRw (G : gG) (x : gR) : gG := (G.1, G.2.1, G.2.2.1, G.2.2.2.1, G.2.2.2.2.1, G.2.2.2.2.2.1, x, G.2.2.2.2.2.2.2)
abbrev sRu (G : gG) (x : gT) : gG := (G.1, G.2.1, G.2.2.1, G.2.2.2.1, G.2.2.2.2.1, G.2.2.2.2.2.1, G.2.2.2.2.2.2.1, x)
def Xs (G : gG) (ρ : pP) (I : pI) : Prop := XT (gTx G) I ∧ XL (gLx G) I ∧ XD (gDu G) I ∧ (I 0 18 = nI (gP G) ∧ I 0 17 = nI (gS G)) ∧ XS 19 (gN G) (gP G) I ∧ XU (gUn G) (gP G) I ∧ XK (gKp G) (gP G) I ∧ XR ρ (gRu G) I ∧ (ρ.2.1 = (112, 113) ∨ ρ.2.1 = (113, 112))
def Ms (t : Nat) (G : gG) (ρ : pP) (I : pI) : Prop := MT (gTx G) I ∧ ML (gLx G) I ∧ MD (gDu G) I ∧ (I 129 6 = nI (gP G) ∧ I 129 1 = nI (gS G)) ∧ MS 130 0 (gN G) (gP G) I ∧ MU (gUn G) (gP G) I ∧ MK (gKp G) (gP G) t I ∧ MR ρ (gRu G) I
def Xr (G : gG) (ρ : pP) (L : pL) (I : pI) : Prop := Xs G ρ I ∧ XW (gRw G) L I
def Mr (t : Nat) (G : gG) (ρ : pP) (L : pL) (I : pI) : Prop := Ms t G ρ I ∧ MW (gRw G) L I
def Wr (G : gG) : Prop := WT (gTx G) ∧ WL (gLx G) ∧ WD (gDu G) (gP G) (gS G) ∧ (gP G ≤ 4 ∧ 1 ≤ gS G ∧ gS G ≤ 6) ∧ WS (gN G) (gP G) (gS G) ∧ WU (gUn G) (gP G) (gS G) ∧ WK (gKp G) (gP G) (gS G) ∧ (gRw G).1 ≤ 12 ∧ WR (gRu G)
def Inv (t : Nat) (q : pQ) (ρ : pP) (L : pL) (I : pI) : Prop := 162 ≤ q.1.1 ∧ ∃ G, Wr G ∧ Xr G ρ L I ∧ Mr t G ρ L I
/-! what one side leaves to the other -/
def mSame (ρ : pP) (L : pL) (I : pI) (ρ' : pP) (L' : pL) (I' : pI) : Prop := ρ'.2.2 = ρ.2.2 ∧ L' 136 = L 136 ∧ ∀ b, 129 ≤ b → b < 161 → I' b = I b
def xSame (ρ : pP) (L : pL) (I : pI) (ρ' : pP) (L' : pL) (I' : pI) : Prop := (ρ'.1 = ρ.1 ∧ ρ'.2.1 = ρ.2.1) ∧ L' 4 = L 4 ∧ ∀ b, b < 129 → I' b = I b
theorem MS_k {a o P : Nat} {C : gC} {I J : pI} (e : J a = I a) (h : MS a o C P I) : MS a o C P J := by
  unfold MS
  rw [e]
  exact h
theorem XS_k {b P : Nat} {C : gC} {I J : pI} (e : ∀ i, i < 5 → J (b + i) = I (b + i)) (h : XS b C P I) : XS b C P J := by
  unfold XS
  have e0 := e 0 (by omega)
  rw [Nat.add_zero] at e0
  rw [e0, e 1 (by omega), e 2 (by omega), e 3 (by omega), e 4 (by omega)]
  exact h
theorem Mr_same {t : Nat} {G : gG} {ρ ρ' : pP} {L L' : pL} {I I' : pI} (h : mSame ρ L I ρ' L' I') (g : Mr t G ρ L I) : Mr t G ρ' L' I' := by
  obtain ⟨h1, h2, h3⟩ := h
  have e : ∀ b, 129 ≤ b → b < 161 → I' b = I b := h3
  unfold Mr Ms MT ML MD MU MK MR MW MS at g ⊢
  rw [h1, h2, e 129 (by omega) (by omega), e 130 (by omega) (by omega), e 131 (by omega) (by omega), e 132 (by omega) (by omega), e 133 (by omega) (by omega), e 134 (by omega) (by omega), e 135 (by omega) (by omega), e 140 (by omega) (by omega), e 144 (by omega) (by omega), e 158 (by omega) (by omega), e 159 (by omega) (by omega), e 160 (by omega) (by omega)]
  exact g
theorem Xr_same {G : gG} {ρ ρ' : pP} {L L' : pL} {I I' : pI} (h : xSame ρ L I ρ' L' I') (g : Xr G ρ L I) : Xr G ρ' L' I' := by
  obtain ⟨⟨h0, h1⟩, h2, h3⟩ := h
  have e : ∀ b, b < 129 → I' b = I b := h3
  obtain ⟨⟨g1, g2, g3, g4, g5, g6, g7, g8, g9⟩, g10⟩ := g
  refine ⟨⟨?_, ?_, ?_, ?_, ?_, ?_, ?_, ?_, ?_⟩, ?_⟩
  · unfold XT at g1 ⊢
    rw [e 1 (by omega), e 2 (by omega)]
    exact g1
  · unfold XL at g2 ⊢
    rw [e 5 (by omega), e 6 (by omega), e 7 (by omega), e 8 (by omega), e 9 (by omega), e 10 (by omega), e 11 (by omega)]
    exact g2
  · unfold XD at g3 ⊢
    rw [e 13 (by omega), e 14 (by omega), e 15 (by omega), e 16 (by omega), e 17 (by omega)]
    exact g3
  · rw [e 0 (by omega)]
    exact g4
  · exact XS_k (fun i hi => e _ (by omega)) g5
  · obtain ⟨o, a1, a2, a3, a4⟩ := g6
    refine ⟨o, a1, by rw [e 24 (by omega)]; exact a2, by rw [e 24 (by omega)]; exact a3, fun i hi => XS_k (fun j hj => e _ (by omega)) (a4 i hi)⟩
  · intro i hi
    obtain ⟨b1, b2⟩ := g7 i hi
    rw [e 102 (by omega)]
    exact ⟨b1, fun C hC => ⟨(b2 C hC).1, XS_k (fun j hj => e _ (by omega)) (b2 C hC).2⟩⟩
  · unfold XR at g8 ⊢
    rw [h0]
    obtain ⟨c1, c2⟩ := g8
    have hA : ρ.1.1 < 127 := by rcases c1 with c1 | c1 <;> rw [c1] <;> decide
    rw [e _ (by omega), e _ (by omega)]
    exact ⟨c1, c2⟩
  · rw [h1]
    exact g9
  · unfold XW at g10 ⊢
    rw [e 3 (by omega), h2]
    exact g10
/-- a call, on both sides -/
def MOk (fX fM : jH → Option (Int32 × jH)) : Prop := ∀ t q ρ L I, Inv t q ρ L I → ∃ v q' ρ' L' I' ρ'' L'' I'', fX (hp q ρ L I) = some (v, hp q' ρ' L' I') ∧ fM (hp q' ρ' L' I') = some (v, hp q' ρ'' L'' I'') ∧ Inv (t + 1) q' ρ'' L'' I'' ∧ q'.1.1 ≤ q.1.1 + 1 ∧ q'.1.2 ≤ q.1.2 + 6
/-- one side's half, out of the state G into G' -/
def XH (fX : jH → Option (Int32 × jH)) (G : gG) (v : Int32) (G' : gG) : Prop := ∀ q ρ L I, 162 ≤ q.1.1 → Xr G ρ L I → ∃ q' ρ' L' I', fX (hp q ρ L I) = some (v, hp q' ρ' L' I') ∧ Xr G' ρ' L' I' ∧ mSame ρ L I ρ' L' I' ∧ q.1.1 ≤ q'.1.1 ∧ q'.1.1 ≤ q.1.1 + 1 ∧ q'.1.2 ≤ q.1.2 + 6
def MH (fM : jH → Option (Int32 × jH)) (G : gG) (v : Int32) (G' : gG) : Prop := ∀ t q ρ L I, t ≤ 100000 → Mr t G ρ L I → ∃ ρ' L' I', fM (hp q ρ L I) = some (v, hp q ρ' L' I') ∧ Mr (t + 1) G' ρ' L' I' ∧ xSame ρ L I ρ' L' I'
theorem MOk_of {fX fM : jH → Option (Int32 × jH)} (h : ∀ G, Wr G → ∃ v G', Wr G' ∧ XH fX G v G' ∧ MH fM G v G') : ∀ t q ρ L I, t ≤ 100000 → Inv t q ρ L I → ∃ v q' ρ' L' I' ρ'' L'' I'', fX (hp q ρ L I) = some (v, hp q' ρ' L' I') ∧ fM (hp q' ρ' L' I') = some (v, hp q' ρ'' L'' I'') ∧ Inv (t + 1) q' ρ'' L'' I'' ∧ q'.1.1 ≤ q.1.1 + 1 ∧ q'.1.2 ≤ q.1.2 + 6 := by
  rintro t q ρ L I ht ⟨hq, G, hW, hX, hM⟩
  obtain ⟨v, G', w, x, m⟩ := h G hW
  obtain ⟨q', ρ', L', I', x1, x2, x3, x4, x5, x6⟩ := x q ρ L I hq hX
  obtain ⟨ρ'', L'', I'', m1, m2, m3⟩ := m t q' ρ' L' I' ht (Mr_same x3 hM)
  exact ⟨v, q', ρ', L', I', ρ'', L'', I'', x1, m1, ⟨by omega, G', w, Xr_same m3 x2, m2⟩, x5, x6⟩
/-! rows that a question may change, on each side -/
def tY (A : Nat) (b k : Nat) : Bool := tX A b k || (Nat.beq b 3 && Nat.beq k 1)
def tN (b k : Nat) : Bool := tM b k || (Nat.beq b 129 && Nat.beq k 12)
theorem tY_mid {A b k : Nat} (h1 : 19 ≤ b) (h2 : b < 103) : tY A b k = false := by
  have e1 : Nat.blt b 103 = true := by rw [Nat.blt_eq]; exact h2
  have e2 : ∀ c, c < 19 → Nat.beq b c = false := by
    intro c hc
    cases e : Nat.beq b c with
    | false => rfl
    | true =>
      have := Nat.eq_of_beq_eq_true e
      omega
  unfold tY tX
  rw [e1, e2 0 (by omega), e2 1 (by omega), e2 12 (by omega), e2 18 (by omega), e2 3 (by omega)]
  rfl
theorem Xs_fr {G : gG} {ρ ρ' : pP} {I J : pI} (h : Fr (tY ρ.1.1) I J) (h0 : ρ'.1 = ρ.1) (h1 : ρ'.2.1 = (112, 113) ∨ ρ'.2.1 = (113, 112)) (g : Xs G ρ I) : Xs G ρ' J := by
  obtain ⟨g1, g2, g3, g4, g5, g6, g7, g8, g9⟩ := g
  have em : ∀ b, 19 ≤ b → b < 103 → J b = I b := fun b a1 a2 => funext (fun k => h b k (tY_mid a1 a2))
  refine ⟨?_, ?_, ?_, ?_, ?_, ?_, ?_, ?_, h1⟩
  · unfold XT at g1 ⊢
    rw [h 1 1 rfl, h.row 2 (fun k => rfl)]
    exact g1
  · unfold XL at g2 ⊢
    rw [h.row 5 (fun k => rfl), h.row 6 (fun k => rfl), h.row 7 (fun k => rfl), h.row 8 (fun k => rfl), h.row 9 (fun k => rfl), h.row 10 (fun k => rfl), h.row 11 (fun k => rfl)]
    exact g2
  · unfold XD at g3 ⊢
    rw [h.row 13 (fun k => rfl), h.row 14 (fun k => rfl), h.row 15 (fun k => rfl), h.row 16 (fun k => rfl), h.row 17 (fun k => rfl)]
    exact g3
  · rw [h 0 18 rfl, h 0 17 rfl]
    exact g4
  · exact XS_k (fun i hi => em _ (by omega) (by omega)) g5
  · obtain ⟨o, a1, a2, a3, a4⟩ := g6
    refine ⟨o, a1, by rw [em 24 (by omega) (by omega)]; exact a2, by rw [em 24 (by omega) (by omega)]; exact a3, fun i hi => XS_k (fun j hj => em _ (by omega) (by omega)) (a4 i hi)⟩
  · intro i hi
    obtain ⟨b1, b2⟩ := g7 i hi
    rw [em 102 (by omega) (by omega)]
    exact ⟨b1, fun C hC => ⟨(b2 C hC).1, XS_k (fun j hj => em _ (by omega) (by omega)) (b2 C hC).2⟩⟩
  · unfold XR at g8 ⊢
    rw [h0]
    obtain ⟨c1, c2⟩ := g8
    rcases c1 with c1 | c1
    · rw [c1] at c2 h ⊢
      simp only [] at c2 h ⊢
      rw [h 119 4 rfl, h.row 121 (fun k => rfl)]
      exact ⟨.inl trivial, c2⟩
    · rw [c1] at c2 h ⊢
      simp only [] at c2 h ⊢
      rw [h 124 4 rfl, h.row 126 (fun k => rfl)]
      exact ⟨.inr trivial, c2⟩
theorem Ms_fr {t : Nat} {G : gG} {ρ ρ' : pP} {I J : pI} (h : Fr tN I J) (h0 : ρ'.2.2.2 = ρ.2.2.2) (g : Ms t G ρ I) : Ms (t + 1) G ρ' J := by
  obtain ⟨g1, g2, g3, g4, g5, g6, g7, g8⟩ := g
  refine ⟨?_, ?_, ?_, ?_, ?_, ?_, ?_, ?_⟩
  · unfold MT at g1 ⊢
    rw [h 129 10 rfl, h.row 135 (fun k => rfl)]
    exact g1
  · unfold ML at g2 ⊢
    rw [h 129 2 rfl, h.row 131 (fun k => rfl), h.row 132 (fun k => rfl), h.row 133 (fun k => rfl)]
    exact g2
  · unfold MD at g3 ⊢
    rw [h 129 7 rfl, h.row 134 (fun k => rfl)]
    exact g3
  · rw [h 129 6 rfl, h 129 1 rfl]
    exact g4
  · exact MS_k (h.row 130 (fun k => rfl)) g5
  · unfold MU at g6 ⊢
    rw [h 129 29 rfl]
    exact ⟨g6.1, fun i hi => MS_k (h.row 144 (fun k => rfl)) (g6.2 i hi)⟩
  · obtain ⟨cm, c1, c2, c3⟩ := g7
    refine ⟨cm, by omega, by rw [h 129 52 rfl]; exact c2, fun i hi => ?_⟩
    obtain ⟨kc, d1, d2, d3, d4, d5⟩ := c3 i hi
    rw [h.row 159 (fun k => rfl), h.row 160 (fun k => rfl)]
    exact ⟨kc, d1, d2, d3, d4, fun C hC => ⟨(d5 C hC).1, (d5 C hC).2.1, MS_k (h.row 158 (fun k => rfl)) (d5 C hC).2.2⟩⟩
  · unfold MR at g8 ⊢
    rw [h0, h 129 24 rfl, h.row 140 (fun k => rfl)]
    exact g8
theorem tY_m {A b k : Nat} (h1 : 129 ≤ b) (h2 : b < 161) : tY A b k = false := by
  have e1 : Nat.blt b 103 = false := by
    cases e : Nat.blt b 103 with
    | false => rfl
    | true => rw [Nat.blt_eq] at e; omega
  have e2 : Nat.blt b 119 = false := by
    cases e : Nat.blt b 119 with
    | false => rfl
    | true => rw [Nat.blt_eq] at e; omega
  have e3 : Nat.blt b 129 = false := by
    cases e : Nat.blt b 129 with
    | false => rfl
    | true => rw [Nat.blt_eq] at e; omega
  have e4 : Nat.ble 161 b = false := by
    cases e : Nat.ble 161 b with
    | false => rfl
    | true =>
      have := Nat.le_of_ble_eq_true e
      omega
  have e5 : Nat.beq b 3 = false := by
    cases e : Nat.beq b 3 with
    | false => rfl
    | true =>
      have := Nat.eq_of_beq_eq_true e
      omega
  unfold tY tX
  rw [e1, e2, e3, e4, e5]
  rfl
theorem tN_x {b k : Nat} (h : b < 129) : tN b k = false := by
  have e1 : Nat.blt b 129 = true := by rw [Nat.blt_eq]; exact h
  have e5 : Nat.beq b 129 = false := by
    cases e : Nat.beq b 129 with
    | false => rfl
    | true =>
      have := Nat.eq_of_beq_eq_true e
      omega
  unfold tN tM
  rw [e1, e5]
  rfl
/-- a question's half of the class: temps change, and the row -/
theorem XH_q {fX : jH → Option (Int32 × jH)} {G : gG} {v : Int32} (rw_ : gR) (h : ∀ q ρ L I, Xr G ρ L I → ∃ ρ' L' I', fX (hp q ρ L I) = some (v, hp q ρ' L' I') ∧ Fr (tY ρ.1.1) I I' ∧ (ρ'.1 = ρ.1 ∧ ρ'.2.2 = ρ.2.2 ∧ (ρ'.2.1 = (112, 113) ∨ ρ'.2.1 = (113, 112))) ∧ L' 136 = L 136 ∧ XW rw_ L' I') : XH fX G v (sRw G rw_) := by
  intro q ρ L I hq hX
  obtain ⟨ρ', L', I', e, hF, ⟨r1, r2, r3⟩, hL, hw⟩ := h q ρ L I hX
  exact ⟨q, ρ', L', I', e, ⟨Xs_fr (G := sRw G rw_) hF r1 r3 hX.1, hw⟩, ⟨r2, hL, fun b h1 h2 => funext (fun k => hF b k (tY_m h1 h2))⟩, Nat.le_refl _, Nat.le_succ _, Nat.le_add_right _ _⟩
theorem MH_q {fM : jH → Option (Int32 × jH)} {G : gG} {v : Int32} (rw_ : gR) (h : ∀ t q ρ L I, Mr t G ρ L I → ∃ ρ' L' I', fM (hp q ρ L I) = some (v, hp q ρ' L' I') ∧ Fr tN I I' ∧ (ρ'.1 = ρ.1 ∧ ρ'.2.1 = ρ.2.1 ∧ ρ'.2.2.2 = ρ.2.2.2) ∧ L' 4 = L 4 ∧ MW rw_ L' I') : MH fM G v (sRw G rw_) := by
  intro t q ρ L I ht hM
  obtain ⟨ρ', L', I', e, hF, ⟨r1, r2, r3⟩, hL, hw⟩ := h t q ρ L I hM
  exact ⟨ρ', L', I', e, ⟨Ms_fr (G := sRw G rw_) hF r3 hM.1, hw⟩, ⟨r1, r2⟩, hL, fun b h1 => funext (fun k => hF b k (tN_x h1))⟩
