/-! STAGE 2: the relation between the class's cells and the model's -/
/-- a number of 0 .. 99 -/
def bnd (v : Int32) : Prop := ∃ n : Nat, n ≤ 99 ∧ v = nI n
/-- plates -/
def rPl (σ : Mem) (N : Nat) : Prop := N ≤ 8 ∧ mI σ 0 2 = nI N ∧ mI σ 37 0 = nI N ∧ ∀ i, i < N → mI σ 38 i = mI σ 1 i ∧ bnd (mI σ 1 i) ∧ mI σ 39 i = mI σ 2 i ∧ bnd (mI σ 2 i)
/-- the class of a kind -/
def kcl : Nat → Nat
  | 0 => 3
  | 1 => 4
  | 2 => 0
  | 3 => 2
  | 4 => 10
  | _ => 8
/-- layers -/
def rLa (σ : Mem) (L : Nat) : Prop := L ≤ 5 ∧ mI σ 0 4 = nI L ∧ mI σ 37 3 = nI L ∧ ∀ i, i < L → ∃ a kd nu : Nat, mP σ 3 i = some a ∧ 68 ≤ a ∧ kd ≤ 5 ∧ nu ≤ 9 ∧ mT σ a = some (kcl kd, 0) ∧ mI σ a 0 = nI kd ∧ mI σ a 1 = nI nu ∧ mI σ 40 i = nI kd ∧ mI σ 41 i = nI nu
/-- what the class's step is in the model -/
def trS (s : Int32) : Int32 :=
  if -6 ≤ s then -1 - s else if s = -11 then 10 else if s = -12 then 11 else if s = -13 then 13 else if s = -14 then 14 else if s = -15 then 15 else if s = -16 then 16 else if s = -17 then 17 else if s = -21 then 12 else 18
/-- a step that can be -/
def okS (s : Int32) : Prop := (-6 ≤ s ∧ s ≤ 9999) ∨ (-17 ≤ s ∧ s ≤ -11) ∨ s = -21 ∨ s = -22
/-- the stack's height behind a step -/
def hgS (h : Nat) (s : Int32) : Option Nat := if -6 ≤ s then (if h < 40 then some (h + 1) else none) else if s ≤ -21 then (if 1 ≤ h then some h else none) else (if 2 ≤ h then some (h - 1) else none)
def hgL (h : Nat) : List Int32 → Option Nat
  | [] => some h
  | s :: l => match hgS h s with
    | none => none
    | some h' => hgL h' l
/-- a part of a text: at a of the class's row st (n steps), at b of the model's codes -/
def rSeg (σ : Mem) (st a b : Nat) (l : List Int32) : Prop := (∀ k, k < l.length → mI σ st (a + k) = l.getD k 0 ∧ mI σ 43 (b + k) = trS (l.getD k 0)) ∧ (∀ s ∈ l, okS s) ∧ hgL 0 l = some 1
/-- a cell that was made behind the two objects, or is the first text's -/
def dyn (a : Nat) : Prop := a = 33 ∨ a = 34 ∨ a = 35 ∨ a = 36 ∨ 68 ≤ a
/-- a text: its cells r (steps st, names nm, stack sk), its parts -/
def rRu (σ : Mem) (t r st nm sk : Nat) (l0 l1 l2 : List Int32) : Prop :=
  mP σ 4 t = some r ∧ dyn r ∧ dyn st ∧ dyn nm ∧ dyn sk ∧ mT σ r = some (6, 0) ∧ mP σ r 0 = some st ∧ mP σ r 3 = some nm ∧ mP σ r 4 = some sk ∧ mT σ st = some (14, l0.length + l1.length + l2.length) ∧ mT σ nm = some (14, 6) ∧ mT σ sk = some (14, 40) ∧
  (nm ≠ st ∧ nm ≠ sk ∧ st ≠ sk) ∧ l0.length + l1.length + l2.length ≤ 160 ∧
  mI σ r 1 = nI l0.length ∧ mI σ r 2 = nI (l0.length + l1.length) ∧ mI σ 44 (3 * t) = nI l0.length ∧ mI σ 44 (3 * t + 1) = nI l1.length ∧ mI σ 44 (3 * t + 2) = nI l2.length ∧
  rSeg σ st 0 (160 * (3 * t)) l0 ∧ rSeg σ st l0.length (160 * (3 * t + 1)) l1 ∧ rSeg σ st (l0.length + l1.length) (160 * (3 * t + 2)) l2
/-- texts -/
def rTx (σ : Mem) (T : Nat) : Prop := 1 ≤ T ∧ T ≤ 6 ∧ mI σ 0 6 = nI T ∧ mI σ 37 9 = nI T ∧ (∀ t, t < T → ∃ (r st nm sk : Nat) (l0 l1 l2 : List Int32), rRu σ t r st nm sk l0 l1 l2) ∧
  ∀ t u r r', t < T → u < T → t ≠ u → mP σ 4 t = some r → mP σ 4 u = some r' → r ≠ r' ∧ (∀ k k' x x', (k = 0 ∨ k = 3 ∨ k = 4) → (k' = 0 ∨ k' = 3 ∨ k' = 4) → mP σ r k = some x → mP σ r' k' = some x' → x ≠ x')
/-- the rule, the highest -/
def rHi (σ : Mem) (T : Nat) : Prop := (∃ u : Nat, u < T ∧ mI σ 8 3 = nI u ∧ mI σ 37 10 = nI u) ∧ ∃ h : Nat, 1 ≤ h ∧ h ≤ 9 ∧ mI σ 8 2 = nI h ∧ mI σ 37 6 = nI h
/-- the tape -/
def rTa (σ : Mem) : Prop := ∃ S : Nat, S ≤ 160 ∧ mI σ 5 1 = nI S ∧ mI σ 37 8 = nI S ∧ ∀ i, i < S → mI σ 42 i = mI σ 6 i ∧ ∃ b : Nat, b < 256 ∧ mI σ 6 i = nI b
/-- heaps: M of them, of heights ht, in the class's cells cr (rows), ch (heights), in the model's mr, mh; their plates are below l -/
def rHe (σ : Mem) (cr ch mr mh M l : Nat) (ht : Nat → Nat) : Prop := M ≤ l ∧ fb_sm ht M ≤ l ∧ (∀ h, h < M → mI σ ch h = nI (ht h) ∧ mI σ mh h = nI (ht h)) ∧ ∀ h k, h < M → k < ht h → ∃ p : Nat, p < l ∧ mI σ cr (8 * h + k) = nI p ∧ mI σ mr (8 * h + k) = nI p
/-- the table -/
def rTb (σ : Mem) (N : Nat) : Prop := ∃ (l M : Nat) (ht : Nat → Nat), l ≤ N ∧ mI σ 8 1 = nI l ∧ mI σ 37 45 = nI l ∧ mI σ 9 2 = nI M ∧ mI σ 37 46 = nI M ∧ rHe σ 10 11 61 60 M l ht
/-- the image -/
def rIm (σ : Mem) (N T : Nat) : Prop := (mP σ 0 9 = none ∧ mI σ 37 49 = 0) ∨ (mI σ 37 49 = 1 ∧ ∃ t h c0 c1 c3 c4 : Nat, mP σ 0 9 = some t ∧ 68 ≤ t ∧ 68 ≤ h ∧ 68 ≤ c0 ∧ 68 ≤ c1 ∧ 68 ≤ c3 ∧ 68 ≤ c4 ∧ mT σ t = some (9, 0) ∧ mP σ t 0 = some h ∧ mT σ h = some (1, 0) ∧ mP σ h 0 = some c0 ∧ mP σ h 1 = some c1 ∧ mP σ h 3 = some c3 ∧ mP σ h 4 = some c4 ∧ mT σ c0 = some (14, 64) ∧ mT σ c1 = some (14, 8) ∧ mT σ c3 = some (14, 8) ∧ mT σ c4 = some (14, 8) ∧ (c0 ≠ c1 ∧ c0 ≠ c3 ∧ c0 ≠ c4 ∧ c1 ≠ c3 ∧ c1 ≠ c4 ∧ c3 ≠ c4) ∧
  (∀ u r x k, u < T → mP σ 4 u = some r → r ≠ t ∧ r ≠ h ∧ ((k = 0 ∨ k = 3 ∨ k = 4) → mP σ r k = some x → x ≠ c0 ∧ x ≠ c1 ∧ x ≠ c3 ∧ x ≠ c4)) ∧
  ∃ (l M hh u : Nat) (ht : Nat → Nat), l ≤ N ∧ u < T ∧ 1 ≤ hh ∧ hh ≤ 9 ∧ mI σ t 1 = nI l ∧ mI σ 37 50 = nI l ∧ mI σ h 2 = nI M ∧ mI σ 37 51 = nI M ∧ mI σ t 2 = nI hh ∧ mI σ 37 52 = nI hh ∧ mI σ t 3 = nI u ∧ mI σ 37 53 = nI u ∧ rHe σ c0 c1 63 62 M l ht)
/-- the sheets -/
def rSh (σ : Mem) : Prop := ∀ i, i < 4 → (mI σ (25 + 2 * i) 1 = mI σ 64 i ∧ (mI σ 64 i = -1 ∨ mI σ 64 i = 0 ∨ mI σ 64 i = 1 ∨ mI σ 64 i = 2)) ∧ (∃ n : Nat, n ≤ 40 ∧ mI σ (25 + 2 * i) 2 = nI n ∧ mI σ 65 i = nI n) ∧ ∀ k, k < 40 → mI σ (26 + 2 * i) k = mI σ 66 (40 * i + k)
/-- the model's own: the order of now, its letters -/
def lettX : List Int32 := [115, 105, 122, 101, 116, 111, 112, 100, 101, 101, 112, 117, 110, 100, 101, 114, 104, 105, 103, 104, 104, 101, 97, 112, 109, 97, 121, 112, 97, 121, 115, 119, 101, 105, 103, 104, 115, 111, 114, 97, 110, 100, 110, 111, 116]
def begX : List Int32 := [0, 4, 7, 11, 16, 20, 24, 27, 31, 37, 39, 42, 45]
def rMo (σ : Mem) : Prop := (∀ k, k < 8 → mI σ 53 k = nI k) ∧ (∀ k, k < 45 → mI σ 45 k = lettX.getD k 0) ∧ ∀ k, k < 13 → mI σ 46 k = begX.getD k 0
/-- THE RELATION -/
def Rel (σ : Mem) : Prop := mS psA tsA σ ∧ 68 ≤ mL σ ∧ ∃ N L T : Nat, rPl σ N ∧ rLa σ L ∧ rTx σ T ∧ rHi σ T ∧ rTa σ ∧ rTb σ N ∧ rIm σ N T ∧ rSh σ ∧ rMo σ
