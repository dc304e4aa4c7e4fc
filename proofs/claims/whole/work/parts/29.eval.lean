/-! STAGE 2: what a text's part is worth -/
def jn (s a b : Int32) : Int32 := if s = -17 then a * b else if s = -16 then a - b else if s = -15 then a + b else if s = -14 then (if a = b then 1 else 0) else if s = -13 then (if b ≤ a then 0 else 1) else if s = -12 then (if a = 0 then 0 else if b = 0 then 0 else 1) else (if a = 0 then (if b = 0 then 0 else 1) else 1)
theorem bin_cases {s : Int32} (h1 : -17 ≤ s) (h2 : s ≤ -11) : s = -17 ∨ s = -16 ∨ s = -15 ∨ s = -14 ∨ s = -13 ∨ s = -12 ∨ s = -11 := by
  rw [fa_le] at h1 h2
  simp only [fa_eq]
  have e1 : (-17 : Int32).toInt = -17 := by decide
  have e2 : (-16 : Int32).toInt = -16 := by decide
  have e3 : (-15 : Int32).toInt = -15 := by decide
  have e4 : (-14 : Int32).toInt = -14 := by decide
  have e5 : (-13 : Int32).toInt = -13 := by decide
  have e6 : (-12 : Int32).toInt = -12 := by decide
  have e7 : (-11 : Int32).toInt = -11 := by decide
  rw [e1, e2, e3, e4, e5, e6, e7]
  omega
theorem joined_ok {σ : Mem} {s a b : Int32} {Q : Int32 → Mem → Prop} (h1 : -17 ≤ s) (h2 : s ≤ -11) (hq : Q (jn s a b) σ) : w_X6_joined σ s a b Q := by
  unfold w_X6_joined
  unfold jn at hq
  rcases bin_cases h1 h2 with rfl | rfl | rfl | rfl | rfl | rfl | rfl
  · simpa using hq
  · simpa using hq
  · simpa using hq
  · by_cases c : a = b <;> simpa [c] using hq
  · by_cases c : b ≤ a <;> simp [c] at hq <;> simp [c, hq]
  · by_cases c : a = 0 <;> by_cases c2 : b = 0 <;> simpa [c, c2] using hq
  · by_cases c : a = 0 <;> by_cases c2 : b = 0 <;> simpa [c, c2] using hq
theorem done_ok {σ : Mem} {s a b : Int32} {Q : Int32 → Mem → Prop} (h1 : -17 ≤ s) (h2 : s ≤ -11) (hq : Q (jn s a b) σ) : w_X12_done σ (trS s) a b Q := by
  unfold w_X12_done
  unfold jn at hq
  rcases bin_cases h1 h2 with rfl | rfl | rfl | rfl | rfl | rfl | rfl
  · have e : trS (-17) = 17 := by decide
    simp [e]; simpa using hq
  · have e : trS (-16) = 16 := by decide
    simp [e]; simpa using hq
  · have e : trS (-15) = 15 := by decide
    simp [e]; simpa using hq
  · have e : trS (-14) = 14 := by decide
    by_cases c : a = b <;> simp [c] at hq <;> simp [c, hq, e]
  · have e : trS (-13) = 13 := by decide
    by_cases c : b ≤ a <;> simp [c] at hq <;> simp [c, hq, e]
  · have e : trS (-12) = 11 := by decide
    by_cases c : a = 0 <;> by_cases c2 : b = 0 <;> simp [c, c2] at hq <;> simp [c, c2, hq, e]
  · have e : trS (-11) = 10 := by decide
    by_cases c : a = 0 <;> by_cases c2 : b = 0 <;> simp [c, c2] at hq <;> simp [c, c2, hq, e]
def ev1 (ν : Nat → Int32) (s : Int32) (S : Nat → Int32) (h : Nat) : Nat → Int32 :=
  if -6 ≤ s then upd S h (if 0 ≤ s then s else ν (-1 - s).toNatClampNeg)
  else if s ≤ -21 then upd S (h - 1) (if s = -22 then 0 - S (h - 1) else if S (h - 1) = 0 then 1 else 0)
  else upd S (h - 2) (jn s (S (h - 2)) (S (h - 1)))
def hg1 (h : Nat) (s : Int32) : Nat := if -6 ≤ s then h + 1 else if s ≤ -21 then h else h - 1
def evL (ν : Nat → Int32) : List Int32 → (Nat → Int32) → Nat → Nat → Int32
  | [], S, _ => S
  | s :: l, S, h => evL ν l (ev1 ν s S h) (hg1 h s)
def evV (ν : Nat → Int32) (l : List Int32) : Int32 := evL ν l (fun _ => 0) 0 0
theorem hgL_cons {h f : Nat} {s : Int32} {l : List Int32} (e : hgL h (s :: l) = some f) : hgL (hg1 h s) l = some f ∧ (-6 ≤ s → h < 40) ∧ (¬ -6 ≤ s → s ≤ -21 → 1 ≤ h) ∧ (¬ -6 ≤ s → ¬ s ≤ -21 → 2 ≤ h) := by
  unfold hgL hgS at e
  unfold hg1
  by_cases c1 : -6 ≤ s
  · by_cases c2 : h < 40
    · simp only [c1, c2, if_true] at e ⊢; exact ⟨e, fun _ => trivial, fun q => absurd trivial q, fun q => absurd trivial q⟩
    · simp only [c1, c2, if_true, if_false] at e; cases e
  · by_cases c3 : s ≤ -21
    · by_cases c2 : 1 ≤ h
      · simp only [c1, c2, c3, if_true, if_false] at e ⊢; exact ⟨e, fun q => absurd q id, fun _ _ => trivial, fun _ q => absurd trivial q⟩
      · simp only [c1, c2, c3, if_true, if_false] at e; cases e
    · by_cases c2 : 2 ≤ h
      · simp only [c1, c2, c3, if_true, if_false] at e ⊢; exact ⟨e, fun q => absurd q id, fun _ q => absurd q id, fun _ _ => trivial⟩
      · simp only [c1, c2, c3, if_true, if_false] at e; cases e
