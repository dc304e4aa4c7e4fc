/-! STAGE 2: image, back -/
theorem cpy_at {f g : Nat → Int32} {n k : Nat} (h : k < n) : va_cpy f g 0 0 n k = f k := by
  show (if 0 ≤ k ∧ k < 0 + n then f (0 + (k - 0)) else g k) = f k
  rw [if_pos ⟨by omega, by omega⟩, show 0 + (k - 0) = k by omega]
theorem sR_1 {σ : Mem} {a b : Nat} {f : Nat → Int32} (h : b ≠ a) : (sR σ a f).1 b = σ.1 b := if_neg h
/-- the cells of a kept table -/
def imT (σ : Mem) (t h c0 c1 c3 c4 : Nat) : Prop := mP σ 0 9 = some t ∧ 68 ≤ t ∧ 68 ≤ h ∧ 68 ≤ c0 ∧ 68 ≤ c1 ∧ 68 ≤ c3 ∧ 68 ≤ c4 ∧ mT σ t = some (9, 0) ∧ mP σ t 0 = some h ∧ mT σ h = some (1, 0) ∧ mP σ h 0 = some c0 ∧ mP σ h 1 = some c1 ∧ mP σ h 3 = some c3 ∧ mP σ h 4 = some c4 ∧ mT σ c0 = some (14, 64) ∧ mT σ c1 = some (14, 8) ∧ mT σ c3 = some (14, 8) ∧ mT σ c4 = some (14, 8) ∧ (c0 ≠ c1 ∧ c0 ≠ c3 ∧ c0 ≠ c4 ∧ c1 ≠ c3 ∧ c1 ≠ c4 ∧ c3 ≠ c4)
def imX (σ : Mem) (T t h c0 c1 c3 c4 : Nat) : Prop := ∀ u r x k, u < T → mP σ 4 u = some r → r ≠ t ∧ r ≠ h ∧ ((k = 0 ∨ k = 3 ∨ k = 4) → mP σ r k = some x → x ≠ c0 ∧ x ≠ c1 ∧ x ≠ c3 ∧ x ≠ c4)
theorem imT.ne {σ : Mem} {t h c0 c1 c3 c4 : Nat} (i : imT σ t h c0 c1 c3 c4) : t ≠ h ∧ h ≠ c0 ∧ h ≠ c1 ∧ h ≠ c3 ∧ h ≠ c4 ∧ t ≠ c0 ∧ t ≠ c1 ∧ t ≠ c3 ∧ t ≠ c4 := by
  obtain ⟨-, -, -, -, -, -, -, q1, -, q2, -, -, -, -, q3, q4, q5, q6, -⟩ := i
  have key : ∀ a b (x y : Nat × Nat), mT σ a = some x → mT σ b = some y → x.1 ≠ y.1 → a ≠ b := fun a b x y h1 h2 hn e => by
    subst e
    rw [h1] at h2
    cases h2
    exact hn rfl
  exact ⟨key _ _ _ _ q1 q2 (by decide), key _ _ _ _ q2 q3 (by decide), key _ _ _ _ q2 q4 (by decide), key _ _ _ _ q2 q5 (by decide), key _ _ _ _ q2 q6 (by decide), key _ _ _ _ q1 q3 (by decide), key _ _ _ _ q1 q4 (by decide), key _ _ _ _ q1 q5 (by decide), key _ _ _ _ q1 q6 (by decide)⟩
set_option maxHeartbeats 1000000 in
theorem become_d {Q : Mem → Prop} {σ : Mem} {t h c0 c1 c3 c4 : Nat} (i : imT σ t h c0 c1 c3 c4) (hq : ∀ τ, Kp (fun a k => a = c0 ∨ a = c1 ∨ a = c3 ∨ a = c4 ∨ (a = h ∧ k = 2)) σ τ → (∀ k, k < 64 → mI τ c0 k = mI σ 10 k) → (∀ k, k < 8 → mI τ c1 k = mI σ 11 k) → mI τ h 2 = mI σ 9 2 → Q τ) : w_X1_become_d_9 σ h Q := by
  obtain ⟨n1, n2, n3, n4, n5, -⟩ := i.ne
  obtain ⟨-, z1, z2, z3, z4, z5, z6, -, -, m1, p0, p1, p3, p4, t0, t1, t3, t4, d1, d2, d3, d4, d5, d6⟩ := i
  unfold w_X1_become_d_9
  refine ⟨m1, c0, p0, m1, c0, p0, 64, t0, 64, t0, ⟨by decide, by decide, by decide, by decide, by decide⟩, m1, c1, p1, m1, c1, p1, 8, t1, 8, t1, ⟨by decide, by decide, by decide, by decide, by decide⟩, m1, c3, p3, m1, c3, p3, 8, t3, 8, t3, ⟨by decide, by decide, by decide, by decide, by decide⟩, m1, c4, p4, m1, c4, p4, 8, t4, 8, t4, ⟨by decide, by decide, by decide, by decide, by decide⟩, fun v hv => ?_⟩
  have e0 : (0 : Int32).toNatClampNeg = 0 := rfl
  have e64 : (nI 64).toNatClampNeg = 64 := rfl
  have e8 : (nI 8).toNatClampNeg = 8 := rfl
  have hv' : v = mI σ 9 2 := by
    rw [hv, mI_sR, if_neg (by omega), mI_sR, if_neg (by omega), mI_sR, if_neg (by omega), mI_sR, if_neg (by omega)]
  subst hv'
  refine ⟨m1, hq _ ?_ (fun k hk => ?_) (fun k hk => ?_) ?_⟩
  · exact Kp.sI (Kp.sR (Kp.sR (Kp.sR (Kp.sR Kp.rf _ (fun k => Or.inl rfl)) _ (fun k => Or.inr (Or.inl rfl))) _ (fun k => Or.inr (Or.inr (Or.inl rfl)))) _ (fun k => Or.inr (Or.inr (Or.inr (Or.inl rfl))))) _ (Or.inr (Or.inr (Or.inr (Or.inr ⟨rfl, rfl⟩))))
  · rw [mI_sI_n _ _ (by omega), mI_sR, if_neg (by omega), mI_sR, if_neg (by omega), mI_sR, if_neg (by omega), mI_sR, if_pos rfl, e0, e64, cpy_at hk]
    rfl
  · rw [mI_sI_n _ _ (by omega), mI_sR, if_neg (by omega), mI_sR, if_neg (by omega), mI_sR, if_pos rfl, e0, e8, cpy_at hk, sR_1 (by omega)]
    rfl
  · rw [mI_sI_s]
set_option maxHeartbeats 1000000 in
theorem become_n {Q : Mem → Prop} {σ : Mem} {t h c0 c1 c3 c4 : Nat} (i : imT σ t h c0 c1 c3 c4) (hq : ∀ τ, Kp (fun a k => (10 ≤ a ∧ a ≤ 13) ∨ (a = 9 ∧ k = 2)) σ τ → (∀ k, k < 64 → mI τ 10 k = mI σ c0 k) → (∀ k, k < 8 → mI τ 11 k = mI σ c1 k) → mI τ 9 2 = mI σ h 2 → Q τ) : w_X1_become_9_d σ h Q := by
  obtain ⟨-, z1, z2, z3, z4, z5, z6, -, -, m1, p0, p1, p3, p4, t0, t1, t3, t4, d1, d2, d3, d4, d5, d6⟩ := i
  unfold w_X1_become_9_d
  refine ⟨m1, c0, p0, 64, t0, ⟨by decide, by decide, by decide, by decide, by decide⟩, m1, c1, p1, 8, t1, ⟨by decide, by decide, by decide, by decide, by decide⟩, m1, c3, p3, 8, t3, ⟨by decide, by decide, by decide, by decide, by decide⟩, m1, c4, p4, 8, t4, ⟨by decide, by decide, by decide, by decide, by decide⟩, m1, fun v hv => ?_⟩
  have e0 : (0 : Int32).toNatClampNeg = 0 := rfl
  have e64 : (64 : Int32).toNatClampNeg = 64 := rfl
  have e8 : (8 : Int32).toNatClampNeg = 8 := rfl
  have hv' : v = mI σ h 2 := by
    rw [hv, mI_sR, if_neg (by omega), mI_sR, if_neg (by omega), mI_sR, if_neg (by omega), mI_sR, if_neg (by omega)]
  subst hv'
  refine hq _ ?_ (fun k hk => ?_) (fun k hk => ?_) ?_
  · exact Kp.sI (Kp.sR (Kp.sR (Kp.sR (Kp.sR Kp.rf _ (fun k => by omega)) _ (fun k => by omega)) _ (fun k => by omega)) _ (fun k => by omega)) _ (by omega)
  · rw [mI_sI_n _ _ (by omega), mI_sR, if_neg (by omega), mI_sR, if_neg (by omega), mI_sR, if_neg (by omega), mI_sR, if_pos rfl, e0, e64, cpy_at hk]
    rfl
  · rw [mI_sI_n _ _ (by omega), mI_sR, if_neg (by omega), mI_sR, if_neg (by omega), mI_sR, if_pos rfl, e0, e8, cpy_at hk, sR_1 (by omega)]
    rfl
  · rw [mI_sI_s]
theorem rHe.move {σ τ : Mem} {cr ch mr mh cr' ch' mr' mh' M l : Nat} {ht : Nat → Nat} (h : rHe σ cr ch mr mh M l ht) (hl : l ≤ 8) (e1 : ∀ k, k < 64 → mI τ cr' k = mI σ cr k) (e2 : ∀ k, k < 8 → mI τ ch' k = mI σ ch k) (e3 : ∀ k, k < 64 → mI τ mr' k = mI σ mr k) (e4 : ∀ k, k < 8 → mI τ mh' k = mI σ mh k) : rHe τ cr' ch' mr' mh' M l ht := by
  have h' := h
  obtain ⟨h1, h2, h3, h4⟩ := h
  refine ⟨h1, h2, fun i hi => ?_, fun i k hi hk => ?_⟩
  · obtain ⟨s1, s2⟩ := h'.small hl hi
    rw [e2 i s2, e4 i s2]; exact h3 i hi
  · obtain ⟨s1, s2⟩ := h'.small hl hi
    obtain ⟨p, hp, g1, g2⟩ := h4 i k hi hk
    exact ⟨p, hp, by rw [e1 _ (by omega)]; exact g1, by rw [e3 _ (by omega)]; exact g2⟩
