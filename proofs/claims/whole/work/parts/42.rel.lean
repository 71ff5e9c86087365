/-! PURE LAYER: what the class's state has to do with the model's. g is the model's array w (or its copy kept) -/
abbrev zGa : Type := Nat → Int32
def aMin (t : zGa) : Nat := (t 0).toNatClampNeg
def aStep (t : zGa) : Nat := (t 1).toNatClampNeg
def aSN (t : zGa) : Nat := (t 3).toNatClampNeg
def aShN (t : zGa) : Nat := (t 4).toNatClampNeg
def aW (g : zGa) : Nat := (g 30).toNatClampNeg
def aH (g : zGa) : Nat := (g 31).toNatClampNeg
def aWide (g : zGa) : Nat := (g 32).toNatClampNeg
def aCom (g : zGa) : Nat := (g 33).toNatClampNeg
def aStay (g : zGa) : Nat := (g 34).toNatClampNeg
def aGrey (g : zGa) : Nat := (g 35).toNatClampNeg
def aWN (g : zGa) : Nat := (g 36).toNatClampNeg
def aLN (g : zGa) (k : Nat) : Nat := (g (37 + k)).toNatClampNeg
/-- a spot of the bridge -/
def sp (g : zGa) (c : Nat) : Bool := decide (c % 8 < aW g) && decide (c / 8 < aH g)
/-- a spot in view -/
def vw (g : zGa) (c : Nat) : Bool := sp g c && (decide (aStep g ≤ c % 8) && decide (c % 8 < aStep g + aWide g))
/-- a walker's place -/
def pl (g : zGa) (k m : Nat) : Int32 := g (1500 + 501 * k + m)
/-- a stranger is there in minute m -/
def stAt (g : zGa) (i : Nat) (m : Int32) : Bool := decide (g (5 + 3 * i + 2) ≤ m) && decide (m ≤ g (5 + 3 * i + 1))
/-- a spot is covered -/
def cov (g : zGa) (c m : Nat) : Prop := (∃ k, k < aWN g ∧ pl g k m = nI c) ∨ ∃ i, i < aSN g ∧ g (5 + 3 * i) = nI c ∧ stAt g i (nI m) = true
/-- the first thirty ints: what can be undone -/
def Top (g t : zGa) : Prop :=
  (t 0 = nI (aMin t) ∧ aMin t ≤ 500) ∧ (t 1 = nI (aStep t) ∧ aStep t + aWide g ≤ aW g) ∧ (t 3 = nI (aSN t) ∧ aSN t ≤ 8) ∧ (t 4 = nI (aShN t) ∧ aShN t ≤ 10) ∧
  (∀ i, i < aSN t → ∃ c, c < 56 ∧ t (5 + 3 * i) = nI c ∧ sp g c = true) ∧
  (∀ c, c < 56 → g (40 + c) = -1 ∨ ∃ i, i < aShN t ∧ g (40 + c) = nI i)
/-- orders of a law: the model's kinds, and how the class packs them -/
def lwOk (k s v : Nat) : Prop := (s = 0 ∧ v ≤ 9999) ∨ (k = 0 ∧ 1 ≤ s ∧ s ≤ 4) ∨ (k = 1 ∧ (s = 3 ∨ (5 ≤ s ∧ s ≤ 8))) ∨ (s = 26 ∧ 1 ≤ v ∧ v ≤ 9999) ∨ (23 ≤ s ∧ s ≤ 32 ∧ s ≠ 26)
def lwC (s v : Nat) : Nat := match s with
  | 0 => 65536 * 2 + v
  | 1 => 65536 * 114
  | 2 => 65536 * 114 + 1
  | 3 => 65536 * 114 + 3
  | 4 => 65536 * 114 + 2
  | 5 => 65536 * 114 + 4
  | 6 => 65536 * 114 + 5
  | 7 => 65536 * 114 + 6
  | 8 => 65536 * 114 + 7
  | 23 => 65536 * 43
  | 24 => 65536 * 45
  | 25 => 65536 * 42
  | 26 => 65536 * 47 + v
  | 27 => 65536 * 60
  | 28 => 65536 * 61
  | 29 => 65536 * 62
  | 30 => 65536 * 113
  | 31 => 65536 * 112
  | _ => 65536 * 111
/-- types on the pile: true for a truth value -/
def tstep (s : Nat) (S : List Bool) : Option (List Bool) :=
  if s < 23 then (if S.length < 40 then some (false :: S) else none)
  else if s = 26 then (match S with
    | false :: S' => some (false :: S')
    | _ => none)
  else if s = 30 then (match S with
    | true :: S' => some (true :: S')
    | _ => none)
  else match S with
    | b :: a :: S' => if s ≤ 25 then (if b || a then none else some (false :: S')) else if s ≤ 29 then (if b || a then none else some (true :: S')) else (if b && a then some (true :: S') else none)
    | _ => none
def trun (c : Nat → Nat) : Nat → Nat → List Bool → Option (List Bool)
  | _, 0, S => some S
  | i, n + 1, S => (tstep (c i) S).bind (trun c (i + 1) n)
/-- the model's orders of law k -/
def lop (g : zGa) (k j : Nat) : Nat := (g (7608 + 820 * k + 2 * j)).toNatClampNeg
def lov (g : zGa) (k j : Nat) : Nat := (g (7608 + 820 * k + 2 * j + 1)).toNatClampNeg
def lFrom (g : zGa) (k i : Nat) : Nat := (g (7512 + 16 * k + i)).toNatClampNeg
def lMid (g : zGa) (k i : Nat) : Nat := (g (7544 + 16 * k + i)).toNatClampNeg
def lTo (g : zGa) (k i : Nat) : Nat := (g (7576 + 16 * k + i)).toNatClampNeg
def LawI (g : zGa) (k : Nat) : Prop :=
  (g (37 + k) = nI (aLN g k) ∧ aLN g k ≤ 16) ∧
  ∀ i, i < aLN g k → (g (7512 + 16 * k + i) = nI (lFrom g k i) ∧ g (7544 + 16 * k + i) = nI (lMid g k i) ∧ g (7576 + 16 * k + i) = nI (lTo g k i)) ∧ (lFrom g k i ≤ lMid g k i ∧ lMid g k i ≤ lTo g k i ∧ lTo g k i ≤ 400) ∧
    (∀ j, lFrom g k i ≤ j → j < lTo g k i → g (7608 + 820 * k + 2 * j) = nI (lop g k j) ∧ lwOk k (lop g k j) (lov g k j) ∧ (lop g k j = 0 ∨ lop g k j = 26 → g (7608 + 820 * k + 2 * j + 1) = nI (lov g k j))) ∧
    trun (lop g k) (lFrom g k i) (lMid g k i - lFrom g k i) [] = some [false] ∧ (lMid g k i = lTo g k i ∨ trun (lop g k) (lMid g k i) (lTo g k i - lMid g k i) [] = some [true])
/-- what holds of the model's array at all times -/
def Inv (g : zGa) : Prop :=
  (g 30 = nI (aW g) ∧ 2 ≤ aW g ∧ aW g ≤ 8) ∧ (g 31 = nI (aH g) ∧ 2 ≤ aH g ∧ aH g ≤ 7) ∧ (g 32 = nI (aWide g) ∧ 1 ≤ aWide g ∧ aWide g ≤ aW g) ∧ (g 33 = nI (aCom g) ∧ aCom g ≤ 1000) ∧ (g 34 = nI (aStay g) ∧ 1 ≤ aStay g ∧ aStay g ≤ 60) ∧ (g 35 = nI (aGrey g) ∧ aGrey g ≤ 99) ∧ (g 36 = nI (aWN g) ∧ aWN g ≤ 12) ∧
  (∀ k, k < aWN g → (∃ t, t ≤ 99 ∧ g (104 + 4 * k) = nI t) ∧ ∀ m, m < 501 → pl g k m = -1 ∨ ∃ c, c < 56 ∧ pl g k m = nI c ∧ sp g c = true) ∧
  (LawI g 0 ∧ LawI g 1) ∧ Top g g ∧
  (∀ i, i < aShN g → ∀ c, c < 56 → (g (152 + 134 * i + 4 + c) = -2 ∨ g (152 + 134 * i + 4 + c) = -1 ∨ ∃ w, w < 20 ∧ g (152 + 134 * i + 4 + c) = nI w) ∧ (∃ t, t ≤ 99 ∧ g (152 + 134 * i + 68 + c) = nI t) ∧ (g (152 + 134 * i + 4 + c) ≠ -2 → sp g c = true)) ∧
  (∀ i, i < aShN g → ∀ c, 56 ≤ c → c < 64 → g (152 + 134 * i + 4 + c) = -2)
/-- the scalars; the strangers; .. of bridge b -/
def RSt (σ : zG) (s : Nat) (t : zGa) : Prop := σ.1 7 s 0 = t 3 ∧ ∀ i, i < aSN t → σ.1 12 s i = t (5 + 3 * i) ∧ σ.1 13 s i = t (5 + 3 * i + 1) ∧ σ.1 14 s i = t (5 + 3 * i + 2)
def RSc (σ : zG) (b : Nat) (g : zGa) : Prop := σ.1 1 b 0 = g 30 ∧ σ.1 1 b 1 = g 31 ∧ σ.1 1 b 2 = g 2 ∧ σ.1 1 b 3 = g 0 ∧ σ.1 1 b 4 = g 32 ∧ σ.1 1 b 5 = g 1 ∧ σ.1 1 b 6 = g 33 ∧ σ.1 1 b 7 = g 34 ∧ σ.1 1 b 8 = g 35 ∧ σ.1 1 b 9 = g 4
def RWk (σ : zG) (b : Nat) (g : zGa) : Prop := σ.1 8 (2 * b) 0 = g 36 ∧ ∀ i, i < aWN g → σ.1 15 (2 * b) i = g (104 + 4 * i) ∧ σ.1 16 (2 * b) i = g (104 + 4 * i + 1) ∧ σ.1 17 (2 * b) i = g (104 + 4 * i + 2)
def RPa (σ : zG) (b : Nat) (g : zGa) : Prop := (∀ i, i < aWN g → ∀ m, m < 501 → σ.1 21 b (501 * i + m) = pl g i m) ∧ (∀ m, m < 501 → ∀ c, c < 64 → (lb (σ.2 22 b m) c = true ↔ ∃ k, k < aWN g ∧ pl g k m = nI c))
def RLw (σ : zG) (q : Nat) (g : zGa) (k : Nat) : Prop := σ.1 10 q 0 = g (37 + k) ∧ ∀ i, i < aLN g k → σ.1 24 q i = g (7512 + 16 * k + i) ∧ σ.1 25 q i = g (7544 + 16 * k + i) ∧ σ.1 26 q i = g (7576 + 16 * k + i) ∧ ∀ j, lFrom g k i ≤ j → j < lTo g k i → σ.1 23 q j = nI (lwC (lop g k j) (lov g k j))
def RSh (σ : zG) (s : Nat) (g : zGa) (i : Nat) : Prop := σ.1 11 s 0 = g (152 + 134 * i) ∧ σ.1 11 s 1 = g (152 + 134 * i + 1) ∧ σ.1 11 s 2 = g (152 + 134 * i + 2) ∧
  (∀ c, c < 64 → lb (σ.2 11 s 3) c = !decide (g (152 + 134 * i + 4 + c) = -2)) ∧ (∀ c, c < 64 → lb (σ.2 11 s 4) c = decide (0 ≤ g (152 + 134 * i + 4 + c))) ∧
  (∀ c, c < 56 → g (152 + 134 * i + 4 + c) ≠ -2 → σ.1 30 s c = g (152 + 134 * i + 4 + c) ∧ σ.1 29 s c = g (152 + 134 * i + 68 + c))
def RB (σ : zG) (b : Nat) (g : zGa) : Prop := RSc σ b g ∧ RSt σ (7 * b) g ∧ RWk σ b g ∧ RPa σ b g ∧ (RLw σ (3 * b) g 0 ∧ RLw σ (3 * b + 1) g 1) ∧ (∀ i, i < aShN g → RSh σ (10 * b + i) g i) ∧ ∀ c, c < 56 → σ.1 32 b c = g (40 + c)
/-- what can be undone -/
def RKp (σc σm : zG) : Prop := ∃ fi n : Nat, fi < 6 ∧ n ≤ 6 ∧ σc.1 2 0 0 = nI fi ∧ σc.1 2 0 1 = nI n ∧ σm.1 0 0 3 = nI n ∧ (∀ j, j < n → Top (σm.1 1 0) (fun k => σm.1 3 0 (30 * j + k)) ∧ aShN (fun k => σm.1 3 0 (30 * j + k)) ≤ aShN (σm.1 1 0) ∧
  σc.1 33 0 ((fi + j) % 6) = σm.1 3 0 (30 * j + 2) ∧ σc.1 34 0 ((fi + j) % 6) = σm.1 3 0 (30 * j) ∧ σc.1 35 0 ((fi + j) % 6) = σm.1 3 0 (30 * j + 1) ∧ σc.1 36 0 ((fi + j) % 6) = σm.1 3 0 (30 * j + 4) ∧ RSt σc (1 + (fi + j) % 6) (fun k => σm.1 3 0 (30 * j + k))) ∧ ∀ j j', j < j' → j' < n → aShN (fun k => σm.1 3 0 (30 * j + k)) ≤ aShN (fun k => σm.1 3 0 (30 * j' + k))
/-- the tape and the faults -/
def RTp (σc σm : zG) : Prop := ∃ n : Nat, n ≤ 400 ∧ σc.1 3 0 1 = nI n ∧ σm.1 0 0 16 = nI n ∧ ∀ k, k < n → ∃ v, v < 256 ∧ σc.1 38 0 k = nI v ∧ σm.1 8 0 k = nI v
def RFa (σc σm : zG) : Prop := σc.1 4 0 3 = σm.1 0 0 23 ∧ σc.1 4 0 4 = σm.1 0 0 25
/-- whether there is an image: fixed over a run of calls, but for image -/
def BFT : Type := Bool
def bfI [h : Inhabited BFT] : Int32 := if (id (α := Bool) h.default) = true then 1 else 0
def RIm [Inhabited BFT] (σc σm : zG) : Prop := σc.1 0 0 6 = bfI ∧ σm.1 0 0 4 = bfI ∧ (bfI = (1 : Int32) → RB σc 1 (σm.1 2 0) ∧ Inv (σm.1 2 0))
def Rel [Inhabited BFT] (σc σm : zG) : Prop := RB σc 0 (σm.1 1 0) ∧ Inv (σm.1 1 0) ∧ RKp σc σm ∧ RTp σc σm ∧ RFa σc σm ∧ RIm σc σm
