/-! WHAT THE CELLS MEAN. Words: how many, how long each, its letters (from 0), its first meaning, its second or -1. -/
abbrev gL : Type := Nat × (Nat → Nat) × (Nat → Nat → Nat) × (Nat → Nat) × (Nat → Int32)
abbrev lxW (g : gL) : Nat := g.1
abbrev lxN (g : gL) : Nat → Nat := g.2.1
abbrev lxL (g : gL) : Nat → Nat → Nat := g.2.2.1
abbrev lxA (g : gL) : Nat → Nat := g.2.2.2.1
abbrev lxB (g : gL) : Nat → Int32 := g.2.2.2.2
/-- errands: how many, whose, meaning, place, worth -/
abbrev gD : Type := Nat × (Nat → Nat) × (Nat → Nat) × (Nat → Nat) × (Nat → Nat)
abbrev duE (g : gD) : Nat := g.1
abbrev duW (g : gD) : Nat → Nat := g.2.1
abbrev duM (g : gD) : Nat → Nat := g.2.2.1
abbrev duP (g : gD) : Nat → Nat := g.2.2.2.1
abbrev duV (g : gD) : Nat → Nat := g.2.2.2.2
/-- a scene: hour, what is done; places, purses, spent, books -/
abbrev gC : Type := (Int32 × Int32) × (Nat → Nat) × (Nat → Nat) × (Nat → Int32) × (Nat → Int32)
abbrev scH (g : gC) : Int32 := g.1.1
abbrev scD (g : gC) : Int32 := g.1.2
abbrev scP (g : gC) : Nat → Nat := g.2.1
abbrev scU (g : gC) : Nat → Nat := g.2.2.1
abbrev scS (g : gC) : Nat → Int32 := g.2.2.2.1
abbrev scB (g : gC) : Nat → Int32 := g.2.2.2.2
/-- which vowel a letter is; 5: none -/
def vo (c : Nat) : Nat := if c = 0 then 0 else if c = 4 then 1 else if c = 8 then 2 else if c = 14 then 3 else if c = 20 then 4 else 5
def oft (l : Nat → Nat) (n v : Nat) : Nat := fo (fun k a => if vo (l k) = v then a + 1 else a) 0 n 0
def vws (l : Nat → Nat) (n : Nat) : Nat := fo (fun k a => if vo (l k) < 5 then a + 1 else a) 0 n 0
/-- a sign as a byte -/
def by8 (b : Nat) : Int32 := (nI b).toInt8.toInt32
/-! the text: its length and its signs -/
abbrev gT : Type := Nat × (Nat → Nat)
def XT (g : gT) (I : pI) : Prop := I 1 1 = nI g.1 ∧ ∀ k, k < g.1 → I 2 k = nI (g.2 k)
def MT (g : gT) (I : pI) : Prop := I 129 10 = nI g.1 ∧ ∀ k, k < g.1 → I 135 k = by8 (g.2 k)
def WT (g : gT) : Prop := g.1 ≤ 80 ∧ ∀ k, k < g.1 → g.2 k < 256
def XL (g : gL) (I : pI) : Prop := I 5 0 = nI (lxW g) ∧ ∀ w, w < lxW g → (I 6 w = nI (lxN g w) ∧ I 7 w = nI (lxA g w) ∧ I 8 w = lxB g w ∧ I 11 w = nI (vws (lxL g w) (lxN g w))) ∧ (∀ k, k < lxN g w → I 9 (w * 6 + k) = nI (97 + lxL g w k)) ∧ (∀ v, v < 5 → I 10 (w * 5 + v) = nI (oft (lxL g w) (lxN g w) v))
def ML (g : gL) (I : pI) : Prop := I 129 2 = nI (lxW g) ∧ ∀ w, w < lxW g → (I 132 w = nI (lxN g w) ∧ I 133 (2 * w) = nI (lxA g w) ∧ I 133 (2 * w + 1) = lxB g w) ∧ (∀ k, k < lxN g w → I 131 (6 * w + k) = nI (lxL g w k))
def WL (g : gL) : Prop := lxW g ≤ 10 ∧ ∀ w, w < lxW g → (1 ≤ lxN g w ∧ lxN g w ≤ 6) ∧ (∀ k, k < lxN g w → lxL g w k < 26) ∧ lxA g w ≤ 9 ∧ (lxB g w = -nI 1 ∨ ∃ m, m ≤ 9 ∧ lxB g w = nI m)
def XD (g : gD) (I : pI) : Prop := I 13 0 = nI (duE g) ∧ ∀ e, e < duE g → I 14 e = nI (duW g e) ∧ I 15 e = nI (duM g e) ∧ I 16 e = nI (duP g e) ∧ I 17 e = nI (duV g e)
def MD (g : gD) (I : pI) : Prop := I 129 7 = nI (duE g) ∧ ∀ e, e < duE g → I 134 (4 * e) = nI (duW g e) ∧ I 134 (4 * e + 1) = nI (duM g e) ∧ I 134 (4 * e + 2) = nI (duP g e) ∧ I 134 (4 * e + 3) = nI (duV g e)
def WD (g : gD) (P S : Nat) : Prop := duE g ≤ 8 ∧ ∀ e, e < duE g → duW g e < P ∧ duM g e ≤ 9 ∧ duP g e < S ∧ duV g e ≤ 99
/-- a scene in the cells from b on; in an array a from o on -/
def XS (b : Nat) (g : gC) (P : Nat) (I : pI) : Prop := (I b 0 = scH g ∧ I b 1 = scD g) ∧ (∀ t, t < P → I (b + 1) t = nI (scP g t) ∧ I (b + 2) t = nI (scU g t) ∧ I (b + 3) t = scS g t) ∧ ∀ k, k < 30 → I (b + 4) k = scB g k
def MS (a o : Nat) (g : gC) (P : Nat) (I : pI) : Prop := (I a (o + 12) = scH g ∧ I a (o + 13) = scD g) ∧ (∀ t, t < P → I a (o + t) = nI (scP g t) ∧ I a (o + (4 + t)) = nI (scU g t) ∧ I a (o + (8 + t)) = scS g t) ∧ ∀ k, k < 30 → I a (o + (14 + k)) = scB g k
def WS (g : gC) (P S : Nat) : Prop := ∀ t, t < P → scP g t < S ∧ scU g t ≤ 9999
/-- what can be undone -/
abbrev gU : Type := Nat × (Nat → gC)
def XU (g : gU) (P : Nat) (I : pI) : Prop := ∃ o, o < 13 ∧ I 24 1 = nI o ∧ I 24 2 = nI g.1 ∧ ∀ i, i < g.1 → XS (26 + 5 * ((o + i) % 13)) (g.2 i) P I
def MU (g : gU) (P : Nat) (I : pI) : Prop := I 129 29 = nI g.1 ∧ ∀ i, i < g.1 → MS 144 (44 * i) (g.2 i) P I
def WU (g : gU) (P S : Nat) : Prop := g.1 ≤ 12 ∧ ∀ i, i < g.1 → WS (g.2 i) P S
/-- what is kept -/
abbrev gK : Type := Nat → Option gC
def XK (g : gK) (P : Nat) (I : pI) : Prop := ∀ i, i < 2 → (g i = none → I 102 i = nI 0) ∧ ∀ C, g i = some C → I 102 i = nI 1 ∧ XS (92 + 5 * i) C P I
def MK (g : gK) (P t : Nat) (I : pI) : Prop := ∃ cm, cm ≤ t ∧ I 129 52 = nI cm ∧ ∀ i, i < 2 → ∃ kc, kc ≤ cm ∧ I 160 i = nI kc ∧ (I 159 i = nI 0 ∨ I 159 i = nI 1) ∧ (g i = none → I 159 i = nI 0 ∨ kc < cm) ∧ ∀ C, g i = some C → I 159 i = nI 1 ∧ kc = cm ∧ MS 158 (44 * i) C P I
def WK (g : gK) (P S : Nat) : Prop := ∀ i, i < 2 → ∀ C, g i = some C → WS C P S
/-- the row -/
abbrev gR : Type := Nat × (Nat → Int64)
def XW (g : gR) (L : pL) (I : pI) : Prop := I 3 1 = nI g.1 ∧ ∀ i, i < g.1 → L 4 i = g.2 i
def MW (g : gR) (L : pL) (I : pI) : Prop := I 129 12 = nI g.1 ∧ ∀ i, i < g.1 → L 136 i = g.2 i
/-! THE RULE: its text read into steps. A reader goes over signs f, of which it sees n. -/
def sg (f : Nat → Nat) (n p : Nat) : Nat := if p < n then f p else 999
abbrev pO : Type := Bool × Nat × List Int32
/-- a number of at most d digits more, v so far -/
def pNum (f : Nat → Nat) (n : Nat) : Nat → Nat → Nat → Nat × Nat
  | 0, p, v => (p, v)
  | d + 1, p, v => if 48 ≤ sg f n p ∧ sg f n p ≤ 57 then pNum f n d (p + 1) (v * 10 + (sg f n p - 48)) else (p, v)
def pFact (c : Nat) : Nat := if c = 118 then 0 else if c = 115 then 1 else if c = 104 then 2 else if c = 108 then 3 else if c = 112 then 4 else if c = 110 then 5 else if c = 100 then 6 else 7
def pThing (f : Nat → Nat) (n : Nat) (rec : Option (Nat → pO)) (p : Nat) : pO :=
  match (if sg f n p = 40 then rec else none) with
  | some k => match k (p + 1) with
    | (false, p1, c) => (false, p1, c)
    | (true, p1, c) => if sg f n p1 = 41 then (true, p1 + 1, c) else (false, p1, c)
  | none =>
    if 48 ≤ sg f n p ∧ sg f n p ≤ 57 then (true, (pNum f n 3 p 0).1, [nI (pNum f n 3 p 0).2])
    else if pFact (sg f n p) < 7 then (true, p + 1, [nI (1000 + pFact (sg f n p))])
    else (false, p, [])
/-- minuses: m read so far; at most fuel more -/
def pMin (f : Nat → Nat) (n : Nat) : Nat → Nat → Nat × Nat
  | 0, p => (p, 0)
  | k + 1, p => if sg f n p = 45 then ((pMin f n k (p + 1)).1, (pMin f n k (p + 1)).2 + 1) else (p, 0)
def pFac (f : Nat → Nat) (n : Nat) (rec : Option (Nat → pO)) (p : Nat) : pO :=
  match pThing f n rec (pMin f n 40 p).1 with
  | (false, p1, c) => (false, p1, c)
  | (true, p1, c) => (true, p1, if (pMin f n 40 p).2 % 2 = 0 then c else c ++ [nI 2000])
/-- more of a row of parts, joined by one of two signs -/
def pMore (f : Nat → Nat) (n : Nat) (a b : Nat) (part : Nat → pO) : Nat → pO → pO
  | 0, o => o
  | k + 1, o => match o with
    | (false, p, c) => (false, p, c)
    | (true, p, c) => if sg f n p = a ∨ sg f n p = b then
        (match part (p + 1) with
        | (false, p1, c1) => (false, p1, c ++ c1)
        | (true, p1, c1) => pMore f n a b part k (true, p1, c ++ c1 ++ [nI (2000 + sg f n p)]))
      else (true, p, c)
def pPro (f : Nat → Nat) (n : Nat) (rec : Option (Nat → pO)) (p : Nat) : pO := pMore f n 42 47 (pFac f n rec) 40 (pFac f n rec p)
def pSum (f : Nat → Nat) (n : Nat) (rec : Option (Nat → pO)) (p : Nat) : pO := pMore f n 43 45 (pPro f n rec) 40 (pPro f n rec p)
def pCmp (f : Nat → Nat) (n : Nat) (rec : Option (Nat → pO)) (p : Nat) : pO :=
  match pSum f n rec p with
  | (false, p1, c) => (false, p1, c)
  | (true, p1, c) => if sg f n p1 = 60 ∨ sg f n p1 = 62 ∨ sg f n p1 = 61 then
      (match pSum f n rec (p1 + 1) with
      | (false, p2, c2) => (false, p2, c ++ c2)
      | (true, p2, c2) => (true, p2, c ++ c2 ++ [nI (2000 + sg f n p1)]))
    else (true, p1, c)
/-- nested r times at most -/
def pExp (f : Nat → Nat) (n : Nat) : Nat → Nat → pO
  | 0, p => pCmp f n none p
  | r + 1, p => pCmp f n (some (pExp f n r)) p
/-- a rule's text: its length, its signs -/
def cmp (g : gT) : List Int32 := if g.1 = 0 then [nI 1000, nI 1, nI 2043] else (pExp g.2 g.1 4 0).2.2
/-- where a rule's reader stops, and whether it is right -/
def cmpP (g : gT) : Nat := if g.1 = 0 then 0 else (pExp g.2 (min g.1 40) 4 0).2.1
def cmpOk (g : gT) : Prop := g.1 = 0 ∨ ((pExp g.2 (min g.1 40) 4 0).1 = true ∧ (pExp g.2 (min g.1 40) 4 0).2.1 = g.1)
def XR (ρ : pP) (g : gT) (I : pI) : Prop := (ρ.1 = (119, 124) ∨ ρ.1 = (124, 119)) ∧ I ρ.1.1 4 = nI (cmp g).length ∧ ∀ i, i < (cmp g).length → I (ρ.1.1 + 2) i = (cmp g).getD i 0
def MR (ρ : pP) (g : gT) (I : pI) : Prop := ρ.2.2.2 = (140, 141) ∧ I 129 24 = nI g.1 ∧ ∀ k, k < g.1 → I 140 k = by8 (g.2 k)
def WR (g : gT) : Prop := g.1 ≤ 40 ∧ (∀ k, k < g.1 → g.2 k < 256) ∧ cmpOk g
/-! running steps -/
def jnd (s : Nat) (x y : Int32) : Int32 := if s = 43 then x + y else if s = 45 then x - y else if s = 42 then x * y else if s = 47 then (if y = nI 0 then nI 0 else x / y) else if s = 60 then (if x < y then nI 1 else nI 0) else if s = 62 then (if y < x then nI 1 else nI 0) else if x = y then nI 1 else nI 0
def rn (fx : Nat → Int32) : List Int32 → List Int32 → List Int32
  | [], st => st
  | p :: c, st => if p < nI 2000 then rn fx c ((if p < nI 1000 then p else fx (p.toNatClampNeg - 1000)) :: st)
    else if p = nI 2000 then (match st with
      | x :: t => rn fx c (-x :: t)
      | [] => [])
    else match st with
      | y :: x :: t => rn fx c (jnd (p.toNatClampNeg - 2000) x y :: t)
      | _ => []
/-- a price: 0 to 99 -/
def cl99 (x : Int32) : Nat := min 99 x.toNatClampNeg
def fcts (l : Nat → Nat) (len s : Nat) (hr : Int32) (i ahead : Nat) : Nat → Int32 := fun k => if k = 0 then nI (vo (l i)) else if k = 1 then nI s else if k = 2 then hr - hr / nI 24 * nI 24 else if k = 3 then nI len else if k = 4 then nI i else if k = 5 then nI ahead else if 0 < i ∧ l i = l (i - 1) then nI 1 else nI 0
/-- what the vowel at i costs -/
def prc (c : List Int32) (l : Nat → Nat) (len s : Nat) (hr : Int32) (i ahead : Nat) : Nat := cl99 ((rn (fcts l len s hr i ahead) c []).getD 0 0)
/-- toll so far, vowels so far -/
def tlF (c : List Int32) (l : Nat → Nat) (len s : Nat) (hr : Int32) (i : Nat) (a : Nat × Nat) : Nat × Nat := if vo (l i) < 5 then (a.1 + prc c l len s hr i a.2, a.2 + 1) else a
def tl_ (c : List Int32) (l : Nat → Nat) (len s : Nat) (hr : Int32) (m : Nat) : Nat × Nat := fo (tlF c l len s hr) 0 m (0, 0)
/-- the toll of word w; of it by vowel v -/
def tol (c : List Int32) (g : gL) (w s : Nat) (hr : Int32) : Nat := (tl_ c (lxL g w) (lxN g w) s hr (lxN g w)).1
def tlV (c : List Int32) (l : Nat → Nat) (len s : Nat) (hr : Int32) (m v : Nat) : Nat := fo (fun i a => if vo (l i) = v then a + prc c l len s hr i (tl_ c l len s hr i).2 else a) 0 m 0
def tolV (c : List Int32) (g : gL) (w s : Nat) (hr : Int32) (v : Nat) : Nat := tlV c (lxL g w) (lxN g w) s hr (lxN g w) v
/-! rows that questions may change -/
def tX (A : Nat) (b k : Nat) : Bool := bif Nat.blt b 103 then (bif Nat.beq b 0 then Nat.beq k 19 else bif Nat.beq b 1 then Nat.ble 2 k else Nat.beq b 12 || Nat.beq b 18) else bif Nat.blt b 119 then true else bif Nat.blt b 129 then (!(Nat.beq b (A + 2)) && !(Nat.beq b A && Nat.beq k 4)) else Nat.ble 161 b
def tM (b k : Nat) : Bool := bif Nat.blt b 129 then false else bif Nat.beq b 129 then ((Nat.ble 13 k && Nat.ble k 18) || Nat.beq k 25 || Nat.beq k 31 || Nat.beq k 33 || (Nat.ble 40 k && Nat.ble k 43) || (Nat.ble 48 k && Nat.ble k 50)) else bif Nat.ble 161 b then true else bif Nat.blt b 137 then false else !(Nat.beq b 140 || Nat.beq b 144 || Nat.beq b 158 || Nat.beq b 159 || Nat.beq b 160)
