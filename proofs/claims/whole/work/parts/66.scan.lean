/-! STAGE 2: TEXT: the tokens, as the class and as the model see them -/
def isL (x : Nat) : Bool := decide (97 ≤ x ∧ x ≤ 122)
def isD (x : Nat) : Bool := decide (48 ≤ x ∧ x ≤ 57)
def isB (x : Nat) : Bool := decide (x = 32 ∨ x = 10)
def isG (x : Nat) : Bool := decide (x = 40 ∨ x = 41 ∨ x = 59 ∨ x = 43 ∨ x = 45 ∨ x = 42 ∨ x = 60 ∨ x = 61)
/-- where a run ends -/
def rn (g : Nat → Bool) : Nat → Nat → Nat
  | 0, b => b
  | d + 1, b => if g b = true then rn g d (b + 1) else b
theorem rn_ge (g : Nat → Bool) : ∀ d b, b ≤ rn g d b
  | 0, b => Nat.le_refl _
  | d + 1, b => by
    unfold rn
    split
    · have := rn_ge g d (b + 1); omega
    · exact Nat.le_refl _
theorem rn_le (g : Nat → Bool) : ∀ d b, rn g d b ≤ b + d
  | 0, b => Nat.le_refl _
  | d + 1, b => by
    unfold rn
    split
    · have := rn_le g d (b + 1); omega
    · omega
/-- a number's worth -/
def nmv (tp : Nat → Nat) (p : Nat) : Nat → Nat → Nat → Nat
  | 0, _, v => v
  | d + 1, b, v => if isD (tp b) = true then nmv tp p d (b + 1) (if b - p < 4 then v * 10 + (tp b - 48) else v) else v
theorem nmv_lt (tp : Nat → Nat) (p : Nat) : ∀ d b v, p ≤ b → v < 10 ^ (min (b - p) 4) → nmv tp p d b v < 10000
  | 0, b, v, _, hv => Nat.lt_of_lt_of_le hv (Nat.pow_le_pow_right (n := 10) (by omega) (Nat.min_le_right _ 4))
  | d + 1, b, v, hb, hv => by
    unfold nmv
    split
    · rename_i hD
      have hD' : 48 ≤ tp b ∧ tp b ≤ 57 := of_decide_eq_true hD
      refine nmv_lt tp p d (b + 1) _ (by omega) ?_
      by_cases c : b - p < 4
      · rw [if_pos c]
        rw [show min (b - p) 4 = b - p by omega] at hv
        rw [show min (b + 1 - p) 4 = (b - p) + 1 by omega, Nat.pow_succ]
        omega
      · rw [if_neg c]
        rw [show min (b - p) 4 = 4 by omega] at hv
        rw [show min (b + 1 - p) 4 = 4 by omega]
        exact hv
    · exact Nat.lt_of_lt_of_le hv (Nat.pow_le_pow_right (n := 10) (by omega) (Nat.min_le_right _ 4))
/-- the words, as the model counts them -/
def wds : List (List Nat) := [[115, 105, 122, 101], [116, 111, 112], [100, 101, 101, 112], [117, 110, 100, 101, 114], [104, 105, 103, 104], [104, 101, 97, 112], [109, 97, 121], [112, 97, 121, 115], [119, 101, 105, 103, 104, 115], [111, 114], [97, 110, 100], [110, 111, 116]]
def wb (tp : Nat → Nat) (p n : Nat) : List Nat := (List.range n).map (fun k => tp (p + k))
theorem wb_eq {tp : Nat → Nat} {p n : Nat} {w : List Nat} : wb tp p n = w ↔ n = w.length ∧ ∀ k, k < w.length → tp (p + k) = w.getD k 0 := by
  constructor
  · intro h
    subst h
    refine ⟨by simp [wb], fun k hk => ?_⟩
    have hk' : k < n := by simpa [wb] using hk
    simp [wb, List.getD_eq_getElem?_getD, hk']
  · rintro ⟨h1, h2⟩
    subst h1
    refine List.ext_getElem (by simp [wb]) (fun k g1 g2 => ?_)
    have := h2 k g2
    rw [List.getD_eq_getElem?_getD, List.getElem?_eq_getElem g2] at this
    simpa [wb] using this
/-- the token of a word: the model's kind and worth -/
def mws (l : List Nat) : Nat → Nat × Nat
  | 0 => (6, 0)
  | w + 1 => if l = wds.getD w [] then (if w < 6 then (2, w) else (3, w - 6)) else mws l w
/-- the token at b, its place, what is behind it -/
def scn (tp : Nat → Nat) (sz b : Nat) : (Nat × Nat) × Nat × Nat :=
  let p := rn (fun i => isB (tp i)) (sz - b) b
  if sz ≤ p then ((5, 0), p, p) else if isL (tp p) = true then
    let e := rn (fun i => isL (tp i)) (sz - p) p
    (mws (wb tp p (e - p)) 12, p, e)
  else if isD (tp p) = true then
    let e := rn (fun i => isD (tp i)) (sz - p) p
    (if 4 < e - p then (6, 0) else (1, nmv tp p (sz - p) p 0), p, e)
  else (if isG (tp p) = true then (4, tp p) else (6, 0), p, p + 1)
/-- the class's kind of it -/
def ckd (t : Nat × Nat) : Int32 := if t.1 = 1 then 2 else if t.1 = 2 then -1 - nI t.2 else if t.1 = 3 then nI (3 + t.2) else if t.1 = 4 then nI t.2 else if t.1 = 5 then 0 else 1
def tpC (τ : Mem) (tp : Nat → Nat) (sz : Nat) : Prop := mI τ 5 1 = nI sz ∧ sz ≤ 160 ∧ ∀ i, i < sz → mI τ 6 i = nI (tp i) ∧ tp i < 256
def tpM (τ : Mem) (tp : Nat → Nat) (sz : Nat) : Prop := mI τ 37 8 = nI sz ∧ sz ≤ 160 ∧ ∀ i, i < sz → mI τ 42 i = nI (tp i) ∧ tp i < 256
def tkC (τ : Mem) (s : (Nat × Nat) × Nat × Nat) : Prop := mI τ 5 3 = ckd s.1 ∧ mI τ 5 4 = nI s.2.1 ∧ mI τ 5 5 = nI s.2.2 ∧ (s.1.1 = 1 → mI τ 5 6 = nI s.1.2)
def tkM (τ : Mem) (s : (Nat × Nat) × Nat × Nat) : Prop := mI τ 37 14 = nI s.1.1 ∧ mI τ 37 16 = nI s.2.1 ∧ mI τ 37 13 = nI s.2.2 ∧ (s.1.1 < 5 → mI τ 37 15 = nI s.1.2)
def F5 (a k : Nat) : Prop := a = 5 ∧ 3 ≤ k ∧ k ≤ 6
def F37 (a k : Nat) : Prop := a = 37 ∧ 13 ≤ k ∧ k ≤ 16
theorem tpC.fr {τ τ' : Mem} {tp : Nat → Nat} {sz : Nat} {F : Nat → Nat → Prop} (h : tpC τ tp sz) (k : Kp F τ τ') (h1 : ¬ F 5 1) (h2 : ∀ i, ¬ F 6 i) : tpC τ' tp sz :=
  ⟨by rw [k.2.2.2 _ _ h1]; exact h.1, h.2.1, fun i hi => by rw [k.2.2.2 _ _ (h2 i)]; exact h.2.2 i hi⟩
theorem tpM.fr {τ τ' : Mem} {tp : Nat → Nat} {sz : Nat} {F : Nat → Nat → Prop} (h : tpM τ tp sz) (k : Kp F τ τ') (h1 : ¬ F 37 8) (h2 : ∀ i, ¬ F 42 i) : tpM τ' tp sz :=
  ⟨by rw [k.2.2.2 _ _ h1]; exact h.1, h.2.1, fun i hi => by rw [k.2.2.2 _ _ (h2 i)]; exact h.2.2 i hi⟩
theorem F5n1 : ¬ F5 5 1 := by unfold F5; omega
theorem F5n6 (i : Nat) : ¬ F5 6 i := by unfold F5; omega
theorem F37n8 : ¬ F37 37 8 := by unfold F37; omega
theorem F37n42 (i : Nat) : ¬ F37 42 i := by unfold F37; omega
section Small
variable {τ : Mem} {x : Nat} {Q : Int32 → Mem → Prop}
theorem q_L5 (hx : x < 256) (h : Q (if isL x = true then 1 else 0) τ) : w_X5_isLetter τ (nI x) Q := by
  unfold w_X5_isLetter
  unfold isL at h
  by_cases h1 : x < 97
  · rw [if_neg (by simp; omega)] at h
    exact ⟨fun _ => h, fun z => absurd (nI_lt (b := 97) h1 (by omega)) z⟩
  · refine ⟨fun z => absurd z (nI_nlt (b := 97) (by omega) (by omega)), fun _ => ?_⟩
    by_cases h2 : 122 < x
    · rw [if_neg (by simp; omega)] at h
      exact ⟨fun _ => h, fun z => absurd (nI_lt (a := 122) h2 (by omega)) z⟩
    · rw [if_pos (by simp; omega)] at h
      exact ⟨fun z => absurd z (nI_nlt (a := 122) (by omega) (by omega)), fun _ => h⟩
theorem q_D5 (hx : x < 256) (h : Q (if isD x = true then 1 else 0) τ) : w_X5_isDigit τ (nI x) Q := by
  unfold w_X5_isDigit
  unfold isD at h
  by_cases h1 : x < 48
  · rw [if_neg (by simp; omega)] at h
    exact ⟨fun _ => h, fun z => absurd (nI_lt (b := 48) h1 (by omega)) z⟩
  · refine ⟨fun z => absurd z (nI_nlt (b := 48) (by omega) (by omega)), fun _ => ?_⟩
    by_cases h2 : 57 < x
    · rw [if_neg (by simp; omega)] at h
      exact ⟨fun _ => h, fun z => absurd (nI_lt (a := 57) h2 (by omega)) z⟩
    · rw [if_pos (by simp; omega)] at h
      exact ⟨fun z => absurd z (nI_nlt (a := 57) (by omega) (by omega)), fun _ => h⟩
theorem nI_is {n : Nat} (hx : x < 256) (hn : n < 256) : nI x = nI n ↔ x = n := nI_eq (by omega) (by omega)
theorem q_G5 (hx : x < 256) (h : Q (if isG x = true then 1 else 0) τ) : w_X5_isSign τ (nI x) Q := by
  unfold w_X5_isSign
  have e : ∀ n : Nat, n < 256 → (nI x = nI n ↔ x = n) := fun n hn => nI_is hx hn
  rw [show (nI x = 40) = (x = 40) from propext (e 40 (by omega)), show (nI x = 41) = (x = 41) from propext (e 41 (by omega)), show (nI x = 59) = (x = 59) from propext (e 59 (by omega)), show (nI x = 43) = (x = 43) from propext (e 43 (by omega)), show (nI x = 45) = (x = 45) from propext (e 45 (by omega)), show (nI x = 42) = (x = 42) from propext (e 42 (by omega)), show (nI x = 60) = (x = 60) from propext (e 60 (by omega)), show (nI x = 61) = (x = 61) from propext (e 61 (by omega))]
  unfold isG at h
  by_cases c : x = 40 ∨ x = 41 ∨ x = 59 ∨ x = 43 ∨ x = 45 ∨ x = 42 ∨ x = 60 ∨ x = 61
  · rw [if_pos (decide_eq_true c)] at h
    rcases c with rfl | rfl | rfl | rfl | rfl | rfl | rfl | rfl <;> simp <;> exact h
  · rw [if_neg (by rw [decide_eq_true_eq]; exact c)] at h
    simp only [not_or] at c
    obtain ⟨c1, c2, c3, c4, c5, c6, c7, c8⟩ := c
    simp [c1, c2, c3, c4, c5, c6, c7, c8]
    exact h
variable {tp : Nat → Nat} {sz : Nat}
theorem q_L12 (hM : tpM τ tp sz) (hx : x < 1000) (h : Q (if x < sz ∧ isL (tp x) = true then 1 else 0) τ) : w_X12_isLetter τ (nI x) Q := by
  unfold w_X12_isLetter
  rw [hM.1, k_cl (by omega)]
  have h160 := hM.2.1
  by_cases c : x < sz
  · have g := hM.2.2 x c
    rw [g.1]
    have vp : vp_in (nI x) 160 := vp_in_nI (by omega) (by omega)
    refine ⟨fun z => absurd z (of_eq_false (k_nle c (by omega))), fun _ => ⟨vp, ?_⟩⟩
    unfold isL at h
    by_cases h1 : tp x < 97
    · rw [if_neg (by simp; omega)] at h
      exact ⟨fun _ => h, fun z => absurd (nI_lt (b := 97) h1 (by omega)) z⟩
    · refine ⟨fun z => absurd z (nI_nlt (b := 97) (by omega) (by omega)), fun _ => ⟨vp, ?_⟩⟩
      by_cases h2 : 122 < tp x
      · rw [if_neg (by simp; omega)] at h
        exact ⟨fun _ => h, fun z => absurd (nI_lt (a := 122) h2 (by omega)) z⟩
      · rw [if_pos (by simp; omega)] at h
        exact ⟨fun z => absurd z (nI_nlt (a := 122) (by omega) (by omega)), fun _ => h⟩
  · rw [if_neg (fun z => c z.1)] at h
    exact ⟨fun _ => h, fun z => absurd (nI_le (a := sz) (b := x) (by omega) (by omega)) z⟩
theorem q_D12 (hM : tpM τ tp sz) (hx : x < 1000) (h : Q (if x < sz ∧ isD (tp x) = true then 1 else 0) τ) : w_X12_isDigit τ (nI x) Q := by
  unfold w_X12_isDigit
  rw [hM.1, k_cl (by omega)]
  have h160 := hM.2.1
  by_cases c : x < sz
  · have g := hM.2.2 x c
    rw [g.1]
    have vp : vp_in (nI x) 160 := vp_in_nI (by omega) (by omega)
    refine ⟨fun z => absurd z (of_eq_false (k_nle c (by omega))), fun _ => ⟨vp, ?_⟩⟩
    unfold isD at h
    by_cases h1 : tp x < 48
    · rw [if_neg (by simp; omega)] at h
      exact ⟨fun _ => h, fun z => absurd (nI_lt (b := 48) h1 (by omega)) z⟩
    · refine ⟨fun z => absurd z (nI_nlt (b := 48) (by omega) (by omega)), fun _ => ⟨vp, ?_⟩⟩
      by_cases h2 : 57 < tp x
      · rw [if_neg (by simp; omega)] at h
        exact ⟨fun _ => h, fun z => absurd (nI_lt (a := 57) h2 (by omega)) z⟩
      · rw [if_pos (by simp; omega)] at h
        exact ⟨fun z => absurd z (nI_nlt (a := 57) (by omega) (by omega)), fun _ => h⟩
  · rw [if_neg (fun z => c z.1)] at h
    exact ⟨fun _ => h, fun z => absurd (nI_le (a := sz) (b := x) (by omega) (by omega)) z⟩
end Small
