/-! STAGE 2: TEXT: the stream of tokens, the grammar -/
theorem rn_pos {g : Nat → Bool} {d b : Nat} (hd : 0 < d) (h : g b = true) : b < rn g d b := by
  obtain ⟨d', rfl⟩ : ∃ d', d = d' + 1 := ⟨d - 1, by omega⟩
  rw [rn, if_pos h]
  exact rn_ge g d' (b + 1)
def wfT (t : Nat × Nat) : Prop := (t.1 = 1 ∧ t.2 < 10000) ∨ (t.1 = 2 ∧ t.2 < 6) ∨ (t.1 = 3 ∧ t.2 < 6) ∨ (t.1 = 4 ∧ isG t.2 = true) ∨ t.1 = 5 ∨ t.1 = 6
theorem mws_wf (l : List Nat) : ∀ w, w ≤ 12 → wfT (mws l w) ∧ ¬ (mws l w).1 = 5
  | 0, _ => ⟨Or.inr (Or.inr (Or.inr (Or.inr (Or.inr rfl)))), fun z => absurd z (show ¬ (6 = 5) by omega)⟩
  | w + 1, h => by
    unfold mws
    split
    · split
      · rename_i c
        exact ⟨Or.inr (Or.inl ⟨rfl, c⟩), fun z => absurd z (show ¬ (2 = 5) by omega)⟩
      · exact ⟨Or.inr (Or.inr (Or.inl ⟨rfl, show w - 6 < 6 by omega⟩)), fun z => absurd z (show ¬ (3 = 5) by omega)⟩
    · exact mws_wf l w (by omega)
theorem scn_p {tp : Nat → Nat} {sz b : Nat} (hb : b ≤ sz) : (scn tp sz b).2.1 ≤ sz ∧ (scn tp sz b).2.2 ≤ sz ∧ (¬ (scn tp sz b).1.1 = 5 → b < (scn tp sz b).2.2) ∧ wfT (scn tp sz b).1 ∧ ((scn tp sz b).1.1 = 5 → (scn tp sz b).2.2 = sz) := by
  have l1 := rn_ge (fun i => isB (tp i)) (sz - b) b
  have l2 := rn_le (fun i => isB (tp i)) (sz - b) b
  unfold scn
  generalize rn (fun i => isB (tp i)) (sz - b) b = p at l1 l2
  dsimp only
  by_cases c : sz ≤ p
  · rw [if_pos c]
    exact ⟨by show p ≤ sz; omega, by show p ≤ sz; omega, fun z => absurd rfl z, Or.inr (Or.inr (Or.inr (Or.inr (Or.inl rfl)))), fun _ => by show p = sz; omega⟩
  · rw [if_neg c]
    by_cases cL : isL (tp p) = true
    · rw [if_pos cL]
      have g1 := rn_pos (g := fun i => isL (tp i)) (d := sz - p) (b := p) (by omega) cL
      have g2 := rn_le (fun i => isL (tp i)) (sz - p) p
      have w := mws_wf (wb tp p (rn (fun i => isL (tp i)) (sz - p) p - p)) 12 (by omega)
      exact ⟨by show p ≤ sz; omega, by show rn (fun i => isL (tp i)) (sz - p) p ≤ sz; omega, fun _ => by show b < rn (fun i => isL (tp i)) (sz - p) p; omega, w.1, fun z => absurd z w.2⟩
    · rw [if_neg cL]
      by_cases cD : isD (tp p) = true
      · rw [if_pos cD]
        have g1 := rn_pos (g := fun i => isD (tp i)) (d := sz - p) (b := p) (by omega) cD
        have g2 := rn_le (fun i => isD (tp i)) (sz - p) p
        refine ⟨by show p ≤ sz; omega, by show rn (fun i => isD (tp i)) (sz - p) p ≤ sz; omega, fun _ => by show b < rn (fun i => isD (tp i)) (sz - p) p; omega, ?_, ?_⟩
        · dsimp only
          split
          · exact Or.inr (Or.inr (Or.inr (Or.inr (Or.inr rfl))))
          · exact Or.inl ⟨rfl, nmv_lt tp p (sz - p) p 0 (Nat.le_refl _) (by rw [Nat.sub_self]; decide)⟩
        · dsimp only
          split
          · exact fun z => absurd z (show ¬ (6 = 5) by omega)
          · exact fun z => absurd z (show ¬ (1 = 5) by omega)
      · rw [if_neg cD]
        refine ⟨by show p ≤ sz; omega, by show p + 1 ≤ sz; omega, fun _ => by show b < p + 1; omega, ?_, ?_⟩
        · dsimp only
          split
          · rename_i cG
            exact Or.inr (Or.inr (Or.inr (Or.inl ⟨rfl, cG⟩)))
          · exact Or.inr (Or.inr (Or.inr (Or.inr (Or.inr rfl))))
        · dsimp only
          split
          · exact fun z => absurd z (show ¬ (4 = 5) by omega)
          · exact fun z => absurd z (show ¬ (6 = 5) by omega)
def strm (tp : Nat → Nat) (sz : Nat) : Nat → (Nat × Nat) × Nat × Nat
  | 0 => scn tp sz 0
  | i + 1 => scn tp sz (strm tp sz i).2.2
theorem strm_p (tp : Nat → Nat) (sz : Nat) : ∀ i, (strm tp sz i).2.1 ≤ sz ∧ (strm tp sz i).2.2 ≤ sz ∧ (¬ (strm tp sz i).1.1 = 5 → i < (strm tp sz i).2.2) ∧ wfT (strm tp sz i).1 ∧ ((strm tp sz i).1.1 = 5 → (strm tp sz i).2.2 = sz)
  | 0 => scn_p (Nat.zero_le sz)
  | i + 1 => by
    have h := strm_p tp sz i
    have g := scn_p (tp := tp) (sz := sz) h.2.1
    refine ⟨g.1, g.2.1, fun z => ?_, g.2.2.2.1, g.2.2.2.2⟩
    have g3 := g.2.2.1 z
    show i + 1 < (scn tp sz (strm tp sz i).2.2).2.2
    by_cases c : (strm tp sz i).1.1 = 5
    · have := h.2.2.2.2 c
      have := g.2.1
      omega
    · have := h.2.2.1 c
      omega
/-- tokens as they can be -/
def okTk (T : Nat → Nat × Nat) : Prop := (∀ i, wfT (T i)) ∧ ∀ i, ¬ (T i).1 = 5 → i < 160
theorem strm_ok {tp : Nat → Nat} {sz : Nat} (h : sz ≤ 160) : okTk (fun i => (strm tp sz i).1) :=
  ⟨fun i => (strm_p tp sz i).2.2.2.1, fun i z => by have := (strm_p tp sz i).2.2.1 z; have := (strm_p tp sz i).2.1; omega⟩
/-- the step of a token that stands between, of rank x -/
def opc (x : Nat) (t : Nat × Nat) : Option Int32 :=
  if x = 1 then (if t = (3, 3) then some (-11) else none) else if x = 2 then (if t = (3, 4) then some (-12) else none) else if x = 4 then (if t = (4, 60) then some (-13) else if t = (4, 61) then some (-14) else none) else if x = 5 then (if t = (4, 43) then some (-15) else if t = (4, 45) then some (-16) else none) else if x = 6 then (if t = (4, 42) then some (-17) else none) else none
def sbl (x : Nat) : Nat := if x = 1 then 2 else if x = 2 then 3 else if x = 5 then 6 else 7
def lvl (x : Nat) : Prop := x = 1 ∨ x = 2 ∨ x = 5 ∨ x = 6
def ClO (T : Nat → Nat × Nat) (R : Nat → Nat → Nat → List Int32 → Nat → Prop) : Prop :=
  (∀ o i v, T i = (1, v) → R 7 o i [nI v] (i + 1)) ∧
  (∀ o i a, T i = (2, a) → R 7 o i [-1 - nI a] (i + 1)) ∧
  (∀ o i l j, T i = (4, 45) → o < 5 → R 7 (o + 1) (i + 1) l j → R 7 o i (l ++ [-22]) j) ∧
  (∀ o i l j, T i = (4, 40) → o < 5 → R 1 (o + 1) (i + 1) l j → T j = (4, 41) → R 7 o i l (j + 1)) ∧
  (∀ o i l j, T i = (3, 5) → o < 5 → R 3 (o + 1) (i + 1) l j → R 3 o i (l ++ [-21]) j) ∧
  (∀ o i l j, ¬ T i = (3, 5) → R 5 o i l j → opc 4 (T j) = none → R 3 o i l j) ∧
  (∀ o i l j c l2 k, ¬ T i = (3, 5) → R 5 o i l j → opc 4 (T j) = some c → R 5 o (j + 1) l2 k → R 3 o i (l ++ (l2 ++ [c])) k) ∧
  (∀ x o i l j l2 k, lvl x → R (sbl x) o i l j → R (10 + x) o j l2 k → R x o i (l ++ l2) k) ∧
  (∀ x o i, lvl x → opc x (T i) = none → R (10 + x) o i [] i) ∧
  (∀ x o i c l j l2 k, lvl x → opc x (T i) = some c → R (sbl x) o (i + 1) l j → R (10 + x) o j l2 k → R (10 + x) o i (l ++ c :: l2) k)
/-- from token i on, x under o open ones can be read: its steps l, the next token j -/
def rdO (T : Nat → Nat × Nat) (x o i : Nat) (l : List Int32) (j : Nat) : Prop := ∀ R, ClO T R → R x o i l j
theorem rdO_cl (T : Nat → Nat × Nat) : ClO T (rdO T) :=
  ⟨fun o i v h R c => c.1 o i v h, fun o i a h R c => c.2.1 o i a h, fun o i l j h1 h2 h3 R c => c.2.2.1 o i l j h1 h2 (h3 R c), fun o i l j h1 h2 h3 h4 R c => c.2.2.2.1 o i l j h1 h2 (h3 R c) h4, fun o i l j h1 h2 h3 R c => c.2.2.2.2.1 o i l j h1 h2 (h3 R c), fun o i l j h1 h2 h3 R c => c.2.2.2.2.2.1 o i l j h1 (h2 R c) h3, fun o i l j cc l2 k h1 h2 h3 h4 R c => c.2.2.2.2.2.2.1 o i l j cc l2 k h1 (h2 R c) h3 (h4 R c), fun x o i l j l2 k h1 h2 h3 R c => c.2.2.2.2.2.2.2.1 x o i l j l2 k h1 (h2 R c) (h3 R c), fun x o i h1 h2 R c => c.2.2.2.2.2.2.2.2.1 x o i h1 h2, fun x o i cc l j l2 k h1 h2 h3 h4 R c => c.2.2.2.2.2.2.2.2.2 x o i cc l j l2 k h1 h2 (h3 R c) (h4 R c)⟩
def ClF (T : Nat → Nat × Nat) (S : Nat → Nat → Nat → Nat → Prop) : Prop :=
  (∀ o i, ¬ (T i).1 = 1 → ¬ (T i).1 = 2 → ¬ T i = (4, 45) → ¬ T i = (4, 40) → S 7 o i i) ∧
  (∀ o i, (T i = (4, 45) ∨ T i = (4, 40)) → ¬ o < 5 → S 7 o i i) ∧
  (∀ o i j, T i = (4, 45) → o < 5 → S 7 (o + 1) (i + 1) j → S 7 o i j) ∧
  (∀ o i j, T i = (4, 40) → o < 5 → S 1 (o + 1) (i + 1) j → S 7 o i j) ∧
  (∀ o i l j, T i = (4, 40) → o < 5 → rdO T 1 (o + 1) (i + 1) l j → ¬ T j = (4, 41) → S 7 o i j) ∧
  (∀ o i, T i = (3, 5) → ¬ o < 5 → S 3 o i i) ∧
  (∀ o i j, T i = (3, 5) → o < 5 → S 3 (o + 1) (i + 1) j → S 3 o i j) ∧
  (∀ o i j, ¬ T i = (3, 5) → S 5 o i j → S 3 o i j) ∧
  (∀ o i l j c k, ¬ T i = (3, 5) → rdO T 5 o i l j → opc 4 (T j) = some c → S 5 o (j + 1) k → S 3 o i k) ∧
  (∀ x o i j, lvl x → S (sbl x) o i j → S x o i j) ∧
  (∀ x o i l j k, lvl x → rdO T (sbl x) o i l j → S (10 + x) o j k → S x o i k) ∧
  (∀ x o i c j, lvl x → opc x (T i) = some c → S (sbl x) o (i + 1) j → S (10 + x) o i j) ∧
  (∀ x o i c l j k, lvl x → opc x (T i) = some c → rdO T (sbl x) o (i + 1) l j → S (10 + x) o j k → S (10 + x) o i k)
/-- from token i on, x under o open ones can't be read: the fault is token j -/
def rdF (T : Nat → Nat × Nat) (x o i j : Nat) : Prop := ∀ S, ClF T S → S x o i j
theorem rdF_cl (T : Nat → Nat × Nat) : ClF T (rdF T) :=
  ⟨fun o i h1 h2 h3 h4 S c => c.1 o i h1 h2 h3 h4, fun o i h1 h2 S c => c.2.1 o i h1 h2, fun o i j h1 h2 h3 S c => c.2.2.1 o i j h1 h2 (h3 S c), fun o i j h1 h2 h3 S c => c.2.2.2.1 o i j h1 h2 (h3 S c), fun o i l j h1 h2 h3 h4 S c => c.2.2.2.2.1 o i l j h1 h2 h3 h4, fun o i h1 h2 S c => c.2.2.2.2.2.1 o i h1 h2, fun o i j h1 h2 h3 S c => c.2.2.2.2.2.2.1 o i j h1 h2 (h3 S c), fun o i j h1 h2 S c => c.2.2.2.2.2.2.2.1 o i j h1 (h2 S c), fun o i l j cc k h1 h2 h3 h4 S c => c.2.2.2.2.2.2.2.2.1 o i l j cc k h1 h2 h3 (h4 S c), fun x o i j h1 h2 S c => c.2.2.2.2.2.2.2.2.2.1 x o i j h1 (h2 S c), fun x o i l j k h1 h2 h3 S c => c.2.2.2.2.2.2.2.2.2.2.1 x o i l j k h1 h2 (h3 S c), fun x o i cc j h1 h2 h3 S c => c.2.2.2.2.2.2.2.2.2.2.2.1 x o i cc j h1 h2 (h3 S c), fun x o i cc l j k h1 h2 h3 h4 S c => c.2.2.2.2.2.2.2.2.2.2.2.2 x o i cc l j k h1 h2 h3 (h4 S c)⟩
/-- what the step of a token between is -/
theorem opc_t {x : Nat} {t : Nat × Nat} {c : Int32} (h : opc x t = some c) : (t.1 = 3 ∨ t.1 = 4) ∧ -17 ≤ c ∧ c ≤ -11 := by
  unfold opc at h
  repeat' split at h
  all_goals first
    | (cases h; done)
    | (rename_i e; rw [e]; cases h; exact ⟨by first | exact Or.inl rfl | exact Or.inr rfl, by decide, by decide⟩)
theorem opc_n5 {x : Nat} {t : Nat × Nat} {c : Int32} (h : opc x t = some c) : ¬ t.1 = 5 := by
  have := (opc_t h).1; omega
theorem rdO_len {T : Nat → Nat × Nat} (hT : okTk T) {x o i : Nat} {l : List Int32} {j : Nat} (h : rdO T x o i l j) : i + l.length ≤ j ∧ (i ≤ 160 → j ≤ 160) := by
  have tk : ∀ {i : Nat} {a b : Nat}, T i = (a, b) → ¬ a = 5 → i < 160 := fun {i a b} e n => hT.2 i (by rw [e]; exact n)
  refine h (fun _ _ i l j => i + l.length ≤ j ∧ (i ≤ 160 → j ≤ 160)) ⟨?_, ?_, ?_, ?_, ?_, ?_, ?_, ?_, ?_, ?_⟩
  · intro o i v h1
    have := tk h1 (by omega)
    exact ⟨by simp, fun _ => by omega⟩
  · intro o i v h1
    have := tk h1 (by omega)
    exact ⟨by simp, fun _ => by omega⟩
  · intro o i l j h1 h2 h3
    have := tk h1 (by omega)
    rw [List.length_append, List.length_singleton]
    exact ⟨by omega, fun _ => h3.2 (by omega)⟩
  · intro o i l j h1 h2 h3 h4
    have := tk h4 (by omega)
    exact ⟨by omega, fun _ => by omega⟩
  · intro o i l j h1 h2 h3
    have := tk h1 (by omega)
    rw [List.length_append, List.length_singleton]
    exact ⟨by omega, fun _ => h3.2 (by omega)⟩
  · intro o i l j h1 h2 h3
    exact h2
  · intro o i l j c l2 k h1 h2 h3 h4
    have := hT.2 j (opc_n5 h3)
    rw [List.length_append, List.length_append, List.length_singleton]
    exact ⟨by omega, fun _ => h4.2 (by omega)⟩
  · intro x o i l j l2 k h1 h2 h3
    rw [List.length_append]
    exact ⟨by omega, fun q => h3.2 (h2.2 q)⟩
  · intro x o i h1 h2
    exact ⟨Nat.le_refl _, fun q => q⟩
  · intro x o i c l j l2 k h1 h2 h3 h4
    have := hT.2 i (opc_n5 h2)
    rw [List.length_append, List.length_cons]
    exact ⟨by omega, fun _ => h4.2 (h3.2 (by omega))⟩
theorem okS_op {c : Int32} (h : -17 ≤ c ∧ c ≤ -11) : okS c := Or.inr (Or.inl h)
theorem okS_nm : ∀ a, a < 6 → okS (-1 - nI a) := by
  intro a ha
  have : ∀ a, a < 6 → (-6 ≤ -1 - nI a ∧ -1 - nI a ≤ 9999) := by decide
  exact Or.inl (this a ha)
theorem okS_nu {v : Nat} (h : v < 10000) : okS (nI v) := by
  refine Or.inl ⟨?_, ?_⟩
  · rw [fa_le, nI_toInt (by omega)]
    have : (-6 : Int32).toInt = -6 := by decide
    omega
  · exact nI_le (b := 9999) (by omega) (by omega)
theorem wf_2 {T : Nat → Nat × Nat} (hT : okTk T) {i a : Nat} (h : T i = (2, a)) : a < 6 := by
  have := hT.1 i
  rw [h] at this
  unfold wfT at this
  dsimp only at this
  omega
theorem wf_1 {T : Nat → Nat × Nat} (hT : okTk T) {i a : Nat} (h : T i = (1, a)) : a < 10000 := by
  have := hT.1 i
  rw [h] at this
  unfold wfT at this
  dsimp only at this
  omega
theorem rdO_ok {T : Nat → Nat × Nat} (hT : okTk T) {x o i : Nat} {l : List Int32} {j : Nat} (h : rdO T x o i l j) : ∀ s ∈ l, okS s := by
  refine h (fun _ _ i l j => ∀ s ∈ l, okS s) ⟨?_, ?_, ?_, ?_, ?_, ?_, ?_, ?_, ?_, ?_⟩
  · intro o i v h1 s hs
    rw [List.mem_singleton.mp hs]; exact okS_nu (wf_1 hT h1)
  · intro o i v h1 s hs
    rw [List.mem_singleton.mp hs]; exact okS_nm v (wf_2 hT h1)
  · intro o i l j h1 h2 h3 s hs
    rcases List.mem_append.mp hs with q | q
    · exact h3 s q
    · rw [List.mem_singleton.mp q]; exact Or.inr (Or.inr (Or.inr rfl))
  · intro o i l j h1 h2 h3 h4
    exact h3
  · intro o i l j h1 h2 h3 s hs
    rcases List.mem_append.mp hs with q | q
    · exact h3 s q
    · rw [List.mem_singleton.mp q]; exact Or.inr (Or.inr (Or.inl rfl))
  · intro o i l j h1 h2 h3
    exact h2
  · intro o i l j c l2 k h1 h2 h3 h4 s hs
    rcases List.mem_append.mp hs with q | q
    · exact h2 s q
    · rcases List.mem_append.mp q with q | q
      · exact h4 s q
      · rw [List.mem_singleton.mp q]; exact okS_op (opc_t h3).2
  · intro x o i l j l2 k h1 h2 h3 s hs
    rcases List.mem_append.mp hs with q | q
    · exact h2 s q
    · exact h3 s q
  · intro x o i h1 h2 s hs
    cases hs
  · intro x o i c l j l2 k h1 h2 h3 h4 s hs
    rcases List.mem_append.mp hs with q | q
    · exact h3 s q
    · rcases List.mem_cons.mp q with q | q
      · rw [q]; exact okS_op (opc_t h2).2
      · exact h4 s q
/-- how high the stack gets -/
def nd (x o : Nat) : Nat := (if x = 1 then 5 else if x = 2 then 4 else if x = 3 then 3 else if x = 5 then 2 else if x = 6 then 1 else 0) + 1 + 5 * (5 - o)
theorem hgL_app (l2 : List Int32) : ∀ (l : List Int32) (h h' : Nat), hgL h l = some h' → hgL h (l ++ l2) = hgL h' l2
  | [], h, h', e => by rw [List.nil_append]; rw [hgL] at e; cases e; rfl
  | s :: l, h, h', e => by
    rw [List.cons_append, hgL]
    rw [hgL] at e
    cases g : hgS h s with
    | none => rw [g] at e; cases e
    | some q => rw [g] at e; exact hgL_app l2 l q h' e
theorem hgS_op {c : Int32} (hc : -17 ≤ c ∧ c ≤ -11) {h : Nat} (hh : 1 ≤ h) : hgS (h + 1) c = some h := by
  have n1 : ¬ -6 ≤ c := fun z => absurd (Int32.le_trans z hc.2) (by decide)
  have n2 : ¬ c ≤ -21 := fun z => absurd (Int32.le_trans hc.1 z) (by decide)
  unfold hgS
  rw [if_neg n1, if_neg n2, if_pos (by omega)]; rfl
theorem hgS_one {c : Int32} (hc : c ≤ -21) {h : Nat} (hh : 1 ≤ h) : hgS h c = some h := by
  have n1 : ¬ -6 ≤ c := fun z => absurd (Int32.le_trans z hc) (by decide)
  unfold hgS
  rw [if_neg n1, if_pos hc, if_pos hh]
theorem hgS_up {c : Int32} (hc : -6 ≤ c) {h : Nat} (hh : h < 40) : hgS h c = some (h + 1) := by
  unfold hgS
  rw [if_pos hc, if_pos hh]
theorem hgL_1 {h h' : Nat} {c : Int32} (e : hgS h c = some h') : hgL h [c] = some h' := by rw [hgL, e]; rfl
theorem rdO_hg {T : Nat → Nat × Nat} (hT : okTk T) {x o i : Nat} {l : List Int32} {j : Nat} (h : rdO T x o i l j) : (x < 10 → ∀ h, h + nd x o ≤ 40 → hgL h l = some (h + 1)) ∧ (10 ≤ x → ∀ h, 1 ≤ h → h + nd (sbl (x - 10)) o ≤ 40 → hgL h l = some h) := by
  refine h (fun x o i l j => (x < 10 → ∀ h, h + nd x o ≤ 40 → hgL h l = some (h + 1)) ∧ (10 ≤ x → ∀ h, 1 ≤ h → h + nd (sbl (x - 10)) o ≤ 40 → hgL h l = some h)) ⟨?_, ?_, ?_, ?_, ?_, ?_, ?_, ?_, ?_, ?_⟩
  · intro o i v h1
    refine ⟨fun _ h hh => hgL_1 (hgS_up ?_ (by unfold nd at hh; omega)), fun z => absurd z (by omega)⟩
    have := okS_nu (wf_1 hT h1)
    rw [fa_le, nI_toInt (by have := wf_1 hT h1; omega)]
    have : (-6 : Int32).toInt = -6 := by decide
    omega
  · intro o i v h1
    refine ⟨fun _ h hh => hgL_1 (hgS_up ?_ (by unfold nd at hh; omega)), fun z => absurd z (by omega)⟩
    exact (show ∀ a, a < 6 → -6 ≤ -1 - nI a by decide) v (wf_2 hT h1)
  · intro o i l j h1 h2 h3
    refine ⟨fun _ h hh => ?_, fun z => absurd z (by omega)⟩
    rw [hgL_app _ l h (h + 1) (h3.1 (by omega) h (by unfold nd at hh ⊢; omega))]
    exact hgL_1 (hgS_one (by decide) (by omega))
  · intro o i l j h1 h2 h3 h4
    refine ⟨fun _ h hh => h3.1 (by omega) h (by unfold nd at hh ⊢; simp at hh ⊢; omega), fun z => absurd z (by omega)⟩
  · intro o i l j h1 h2 h3
    refine ⟨fun _ h hh => ?_, fun z => absurd z (by omega)⟩
    rw [hgL_app _ l h (h + 1) (h3.1 (by omega) h (by unfold nd at hh ⊢; omega))]
    exact hgL_1 (hgS_one (by decide) (by omega))
  · intro o i l j h1 h2 h3
    exact ⟨fun _ h hh => h2.1 (by omega) h (by unfold nd at hh ⊢; simp at hh ⊢; omega), fun z => absurd z (by omega)⟩
  · intro o i l j c l2 k h1 h2 h3 h4
    refine ⟨fun _ h hh => ?_, fun z => absurd z (by omega)⟩
    rw [hgL_app _ l h (h + 1) (h2.1 (by omega) h (by unfold nd at hh ⊢; simp at hh ⊢; omega)), hgL_app _ l2 (h + 1) (h + 1 + 1) (h4.1 (by omega) (h + 1) (by unfold nd at hh ⊢; simp at hh ⊢; omega))]
    exact hgL_1 (hgS_op (opc_t h3).2 (by omega))
  · intro x o i l j l2 k h1 h2 h3
    refine ⟨fun _ h hh => ?_, fun z => absurd z (by rcases h1 with rfl | rfl | rfl | rfl <;> omega)⟩
    have e1 := h2.1 (by unfold sbl; rcases h1 with rfl | rfl | rfl | rfl <;> simp) h (by rcases h1 with rfl | rfl | rfl | rfl <;> unfold sbl nd at * <;> simp at * <;> omega)
    rw [hgL_app _ l h (h + 1) e1]
    refine h3.2 (by omega) (h + 1) (by omega) ?_
    rw [show 10 + x - 10 = x by omega]
    rcases h1 with rfl | rfl | rfl | rfl <;> unfold sbl nd at * <;> simp at * <;> omega
  · intro x o i h1 h2
    exact ⟨fun z => absurd z (by omega), fun _ h _ _ => rfl⟩
  · intro x o i c l j l2 k h1 h2 h3 h4
    refine ⟨fun z => absurd z (by omega), fun _ h hh hn => ?_⟩
    rw [show 10 + x - 10 = x by omega] at hn
    rw [hgL_app _ l h (h + 1) (h3.1 (by unfold sbl; rcases h1 with rfl | rfl | rfl | rfl <;> simp) h hn), hgL, hgS_op (opc_t h2).2 hh]
    refine h4.2 (by omega) h hh ?_
    rw [show 10 + x - 10 = x by omega]; exact hn
