/-! STAGE 2: several rows that share none -/
def gR (R : Nat → Nat → Bool) (k : Nat) : Nat → Nat → (Nat → Option Nat) → Nat
  | 0, _, _ => 0
  | d + 1, p, e => (List.range k).foldl (fun b r => if okR R (e r) p = true then max b (1 + gR R k d (p + 1) (fun i => if i = r then some p else e i)) else b) (gR R k d (p + 1) e)
theorem fold_ge {f : Nat → Bool} {v : Nat → Nat} {X : Nat} : ∀ (l : List Nat) (b : Nat), (X ≤ b ∨ ∃ r, r ∈ l ∧ f r = true ∧ X ≤ v r) → X ≤ l.foldl (fun b r => if f r = true then max b (v r) else b) b
  | [], b, h => by
    rcases h with h | ⟨r, hr, -⟩
    · exact h
    · cases hr
  | r :: l, b, h => by
    show X ≤ l.foldl _ (if f r = true then max b (v r) else b)
    refine fold_ge l _ ?_
    rcases h with h | ⟨s, hs, h1, h2⟩
    · left
      split
      · exact Nat.le_trans h (Nat.le_max_left _ _)
      · exact h
    · rcases List.mem_cons.mp hs with e | e
      · left
        subst e
        rw [if_pos h1]
        exact Nat.le_trans h2 (Nat.le_max_right _ _)
      · exact Or.inr ⟨s, e, h1, h2⟩
theorem fold_at {f : Nat → Bool} {v : Nat → Nat} : ∀ (l : List Nat) (b : Nat), l.foldl (fun b r => if f r = true then max b (v r) else b) b = b ∨ ∃ r, r ∈ l ∧ f r = true ∧ l.foldl (fun b r => if f r = true then max b (v r) else b) b = v r
  | [], b => Or.inl rfl
  | r :: l, b => by
    show l.foldl _ (if f r = true then max b (v r) else b) = b ∨ ∃ s, s ∈ r :: l ∧ f s = true ∧ l.foldl _ (if f r = true then max b (v r) else b) = v s
    rcases fold_at (f := f) (v := v) l (if f r = true then max b (v r) else b) with h | ⟨s, h1, h2, h3⟩
    · by_cases c : f r = true
      · rw [if_pos c] at h ⊢
        by_cases c2 : b ≤ v r
        · rw [Nat.max_eq_right c2] at h ⊢
          exact Or.inr ⟨r, List.mem_cons_self, c, h⟩
        · rw [Nat.max_eq_left (by omega)] at h ⊢
          exact Or.inl h
      · rw [if_neg c] at h ⊢
        exact Or.inl h
    · exact Or.inr ⟨s, List.mem_cons_of_mem _ h1, h2, h3⟩
/-- rows that share none -/
def dj (k : Nat) (ms : Nat → Nat) : Prop := ∀ r s q, r < k → s < k → (ms r).testBit q = true → (ms s).testBit q = true → r = s
theorem sm_ind {k : Nat} {f : Nat → Nat} (hf : ∀ r, r < k → f r ≤ 1) (hu : ∀ r s, r < k → s < k → f r = 1 → f s = 1 → r = s) : (∀ r, r < k → f r = 0) ∧ fb_sm f k = 0 ∨ ∃ r, r < k ∧ f r = 1 ∧ fb_sm f k = 1 := by
  induction k with
  | zero => exact Or.inl ⟨fun r hr => by omega, rfl⟩
  | succ k ih =>
    rcases ih (fun r hr => hf r (by omega)) (fun r s hr hs => hu r s (by omega) (by omega)) with ⟨h1, h2⟩ | ⟨r, h1, h2, h3⟩
    · by_cases c : f k = 1
      · exact Or.inr ⟨k, by omega, c, by rw [fb_sm_succ, h2, c]⟩
      · have : f k = 0 := by have := hf k (by omega); omega
        refine Or.inl ⟨fun r hr => ?_, by rw [fb_sm_succ, h2, this]⟩
        by_cases e : r = k
        · rw [e]; exact this
        · exact h1 r (by omega)
    · have : f k = 0 := by
        by_cases c : f k = 1
        · have := hu r k (by omega) (by omega) h2 c; omega
        · have := hf k (by omega); omega
      exact Or.inr ⟨r, by omega, h2, by rw [fb_sm_succ, h3, this]⟩
theorem gR_up {R : Nat → Nat → Bool} {k : Nat} : ∀ (d p : Nat) (e : Nat → Option Nat) (ms : Nat → Nat), dj k ms → (∀ r, r < k → cmR R (ms r) d p (e r) = true) → fb_sm (fun r => pcN (ms r) d p) k ≤ gR R k d p e
  | 0, p, e, ms, _, _ => by
    have : fb_sm (fun r => pcN (ms r) 0 p) k = 0 := by
      have := fb_sm_const 0 k
      rw [Nat.mul_zero] at this
      exact this
    omega
  | d + 1, p, e, ms, hd, hc => by
    have hs : fb_sm (fun r => pcN (ms r) (d + 1) p) k = fb_sm (fun r => if (ms r).testBit p = true then 1 else 0) k + fb_sm (fun r => pcN (ms r) d (p + 1)) k := by
      rw [← fb_sm_add]
      exact fb_sm_cong (fun r hr => by rw [pcN])
    rw [hs, gR]
    rcases sm_ind (k := k) (f := fun r => if (ms r).testBit p = true then 1 else 0) (fun r hr => by split <;> omega) (fun r s hr hs h1 h2 => hd r s p hr hs (by
      by_cases c : (ms r).testBit p = true
      · exact c
      · rw [if_neg c] at h1; omega) (by
      by_cases c : (ms s).testBit p = true
      · exact c
      · rw [if_neg c] at h2; omega)) with ⟨h1, h2⟩ | ⟨r, h1, h2, h3⟩
    · rw [h2, Nat.zero_add]
      refine fold_ge (f := fun r => okR R (e r) p) _ _ (Or.inl (gR_up d (p + 1) e ms hd (fun r hr => ?_)))
      have := hc r hr
      have h4 := h1 r hr
      have c : ¬ (ms r).testBit p = true := fun z => by rw [if_pos z] at h4; omega
      rw [cmR, if_neg c] at this
      exact this
    · rw [h3]
      have c : (ms r).testBit p = true := by
        by_cases c : (ms r).testBit p = true
        · exact c
        · rw [if_neg c] at h2; omega
      have hcr := hc r h1
      rw [cmR, if_pos c] at hcr
      have hok : okR R (e r) p = true := by
        by_cases z : okR R (e r) p = true
        · exact z
        · rw [if_neg z] at hcr; cases hcr
      rw [if_pos hok] at hcr
      refine fold_ge (f := fun r => okR R (e r) p) _ _ (Or.inr ⟨r, List.mem_range.mpr h1, hok, ?_⟩)
      have := gR_up (R := R) (k := k) d (p + 1) (fun i => if i = r then some p else e i) ms hd (fun s hs => ?_)
      · omega
      · by_cases z : s = r
        · rw [if_pos z, z]; exact hcr
        · rw [if_neg z]
          have h5 := hc s hs
          have c2 : ¬ (ms s).testBit p = true := fun w => z (hd s r p hs h1 w c)
          rw [cmR, if_neg c2] at h5
          exact h5
theorem gR_ex {R : Nat → Nat → Bool} {k : Nat} : ∀ (d p : Nat) (e : Nat → Option Nat), ∃ ms : Nat → Nat, dj k ms ∧ (∀ r q, r < k → (ms r).testBit q = true → p ≤ q ∧ q < p + d) ∧ (∀ r, r < k → cmR R (ms r) d p (e r) = true) ∧ fb_sm (fun r => pcN (ms r) d p) k = gR R k d p e
  | 0, p, e => ⟨fun _ => 0, fun r s q _ _ h => (by rw [Nat.zero_testBit] at h; cases h), fun r q _ h => (by rw [Nat.zero_testBit] at h; cases h), fun r _ => rfl, by
      have := fb_sm_const 0 k
      rw [Nat.mul_zero] at this
      exact this⟩
  | d + 1, p, e => by
    have hs : ∀ ms : Nat → Nat, fb_sm (fun r => pcN (ms r) (d + 1) p) k = fb_sm (fun r => if (ms r).testBit p = true then 1 else 0) k + fb_sm (fun r => pcN (ms r) d (p + 1)) k := fun ms => by
      rw [← fb_sm_add]
      exact fb_sm_cong (fun r hr => by rw [pcN])
    rcases fold_at (f := fun r => okR R (e r) p) (v := fun r => 1 + gR R k d (p + 1) (fun i => if i = r then some p else e i)) (List.range k) (gR R k d (p + 1) e) with h | ⟨r, h1, h2, h3⟩
    · obtain ⟨ms, m1, m2, m3, m4⟩ := gR_ex (R := R) (k := k) d (p + 1) e
      have hb : ∀ r, r < k → ¬ (ms r).testBit p = true := fun r hr z => by have := m2 r p hr z; omega
      refine ⟨ms, m1, fun r q hr hq => by have := m2 r q hr hq; omega, fun r hr => ?_, ?_⟩
      · rw [cmR, if_neg (hb r hr)]; exact m3 r hr
      · rw [hs, m4, gR]
        have z : fb_sm (fun r => if (ms r).testBit p = true then 1 else 0) k = 0 := by
          have := fb_sm_const 0 k
          rw [Nat.mul_zero] at this
          exact (fb_sm_cong (fun r hr => if_neg (hb r hr))).trans this
        rw [z, Nat.zero_add]
        exact h.symm
    · have hr := List.mem_range.mp h1
      obtain ⟨ms, m1, m2, m3, m4⟩ := gR_ex (R := R) (k := k) d (p + 1) (fun i => if i = r then some p else e i)
      have hb : ∀ s, s < k → ¬ (ms s).testBit p = true := fun s hs z => by have := m2 s p hs z; omega
      have hbit : ∀ q, (ms r ||| 2 ^ p).testBit q = ((ms r).testBit q || decide (p = q)) := fun q => bit_u
      have hc : ∀ q, p + 1 ≤ q → (ms r ||| 2 ^ p).testBit q = (ms r).testBit q := fun q hq => by
        rw [hbit]
        have : ¬ p = q := by omega
        simp [this]
      have htb : ∀ s q, s < k → ((if s = r then ms r ||| 2 ^ p else ms s).testBit q = true ↔ (ms s).testBit q = true ∨ (s = r ∧ q = p)) := fun s q hs => by
        by_cases z : s = r
        · rw [if_pos z, hbit, Bool.or_eq_true, decide_eq_true_iff, z]
          constructor
          · rintro (w | w)
            · exact Or.inl w
            · exact Or.inr ⟨rfl, w.symm⟩
          · rintro (w | w)
            · exact Or.inl w
            · exact Or.inr w.2.symm
        · rw [if_neg z]
          constructor
          · exact Or.inl
          · rintro (w | w)
            · exact w
            · exact absurd w.1 z
      refine ⟨fun s => if s = r then ms r ||| 2 ^ p else ms s, fun s s' q hs hs' w1 w2 => ?_, fun s q hs w => ?_, fun s hs => ?_, ?_⟩
      · rw [htb s q hs] at w1
        rw [htb s' q hs'] at w2
        rcases w1 with w1 | ⟨w1, w1'⟩
        · rcases w2 with w2 | ⟨w2, w2'⟩
          · exact m1 s s' q hs hs' w1 w2
          · rw [w2'] at w1; exact absurd w1 (hb s hs)
        · rcases w2 with w2 | ⟨w2, w2'⟩
          · rw [w1'] at w2; exact absurd w2 (hb s' hs')
          · rw [w1, w2]
      · rw [htb s q hs] at w
        rcases w with w | ⟨w, w'⟩
        · have := m2 s q hs w; omega
        · omega
      · dsimp only
        by_cases z : s = r
        · rw [if_pos z, cmR, if_pos (by rw [hbit]; simp), z, if_pos h2, cm_cong d (p + 1) (some p) hc]
          have := m3 r hr
          rw [if_pos rfl] at this
          exact this
        · rw [if_neg z, cmR, if_neg (hb s hs)]
          have := m3 s hs
          rw [if_neg z] at this
          exact this
      · rw [hs, gR]
        refine Eq.trans ?_ h3.symm
        rw [← m4]
        have z1 : fb_sm (fun s => if (if s = r then ms r ||| 2 ^ p else ms s).testBit p = true then 1 else 0) k = 1 := by
          have e1 : fb_sm (fun s => if (if s = r then ms r ||| 2 ^ p else ms s).testBit p = true then 1 else 0) k = fb_sm (fun s => if s = r then 1 else 0) k := by
            refine fb_sm_cong (fun s hs => ?_)
            by_cases z : s = r
            · rw [if_pos z, if_pos z, if_pos (by rw [hbit]; simp)]
            · rw [if_neg z, if_neg z, if_neg (hb s hs)]
          have e2 : fb_sm (fun s => if s = r then 1 else 0) k + 0 = fb_sm (fun _ => 0) k + 1 := fb_sm_upd (fun _ => 0) 1 hr
          have e3 := fb_sm_const 0 k
          rw [Nat.mul_zero] at e3
          rw [e1]
          omega
        have z2 : fb_sm (fun s => pcN (if s = r then ms r ||| 2 ^ p else ms s) d (p + 1)) k = fb_sm (fun s => pcN (ms s) d (p + 1)) k := by
          refine fb_sm_cong (fun s hs => ?_)
          by_cases z : s = r
          · rw [if_pos z, z]
            exact pc_cong d (p + 1) (fun q hq _ => hc q hq)
          · rw [if_neg z]
        rw [z1, z2]
