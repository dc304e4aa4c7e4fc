/-! STAGE 2: THE START: the class's memory behind its maker, the model's, the relation -/
def ap0 : Nat → Mem
  | 0 => kC_41
  | k + 1 => sI (sI (ap0 k) 6 k (nI (tp0 k))) 5 1 (nI (k + 1))
theorem ap0_1 : ∀ k, mI (ap0 k) 5 1 = nI k
  | 0 => by
    show mI kC_41 5 1 = nI 0
    decide +kernel
  | k + 1 => mI_sI_s _ _ _ _
theorem ap0_6 : ∀ k i, i < k → mI (ap0 k) 6 i = nI (tp0 i)
  | 0, i, h => absurd h (Nat.not_lt_zero i)
  | k + 1, i, h => by
    show mI (sI (sI (ap0 k) 6 k (nI (tp0 k))) 5 1 (nI (k + 1))) 6 i = _
    rw [mI_sI_n _ _ (by decide)]
    by_cases c : i = k
    · subst c; exact mI_sI_s _ _ _ _
    · rw [mI_sI_k _ _ c]; exact ap0_6 k i (by omega)
theorem ap0_K : ∀ k, Kp (fun a j => (a = 5 ∧ j = 1) ∨ a = 6) kC_41 (ap0 k)
  | 0 => Kp.rf
  | k + 1 => ((ap0_K k).sI _ (Or.inr rfl)).sI _ (Or.inl ⟨rfl, rfl⟩)
theorem byt0 : ∀ k, k < 46 → (bytX.getD 0 []).getD k 0 &&& 255 = nI (tp0 k) := by decide +kernel
theorem tp0_b : ∀ k, k < 46 → tp0 k < 256 := by decide +kernel
theorem lp0 {Q : Mem → Prop} (h : w_X5_read (ap0 46) (fun o s => ∃ r : Nat, o = some r ∧ (vp_in 0 6 ∧ mT s r = some (6, 0) ∧ (Q (sI (sI (sP s 4 (Int32.toNatClampNeg 0) (some r)) 0 6 1) 5 1 0))))) : ∀ d k, k + d = 46 → w_X11_init_147 Q (d + 1) (nI k) (ap0 k)
  | 0, k, e => by
    obtain rfl : k = 46 := e
    rw [w_X11_init_147]
    exact ⟨by decide, fun _ => h, fun z => absurd (by decide) z⟩
  | d + 1, k, e => by
    rw [w_X11_init_147]
    have hl : lenX.getD 0 0 = 46 := rfl
    rw [hl]
    refine ⟨by decide, fun z => absurd z (nI_ge (by omega) (by omega)), fun _ => ⟨⟨by decide, vp_in_nI (by omega) (by omega)⟩, ?_⟩⟩
    rw [k_cl (by omega), byt0 k (by omega)]
    unfold w_X5_append
    rw [ap0_1 k, k_cl (by omega)]
    refine ⟨fun _ => ⟨vp_in_nI (by omega) (by omega), ?_⟩, fun z => absurd (nI_lt (b := 160) (by omega) (by omega)) z⟩
    rw [show nI k + 1 = nI (k + 1) from nI_add k 1]
    exact lp0 h d (k + 1) (by omega)
/-- the class as it was made -/
def St0 (β : Mem) : Prop := mL β = 37 ∧ mS psG tsG β ∧ (mI β 0 2 = 0 ∧ mI β 0 4 = 0 ∧ mI β 0 6 = 1 ∧ mI β 8 1 = 0 ∧ mI β 8 2 = 9 ∧ mI β 8 3 = 0 ∧ mI β 5 1 = 0 ∧ mI β 9 2 = 0 ∧ mP β 0 9 = none) ∧ (∀ i, i < 4 → mI β (25 + 2 * i) 1 = -1 ∧ mI β (25 + 2 * i) 2 = 0 ∧ ∀ k, k < 40 → mI β (26 + 2 * i) k = 0) ∧ (mP β 4 0 = some 33 ∧ mT β 33 = some (6, 0) ∧ mP β 33 0 = some 34 ∧ mP β 33 3 = some 35 ∧ mP β 33 4 = some 36 ∧ mT β 34 = some (14, 7) ∧ mT β 35 = some (14, 6) ∧ mT β 36 = some (14, 40) ∧ mI β 33 1 = nI 3 ∧ mI β 33 2 = nI 6) ∧ ∀ k, k < 7 → mI β 34 k = ([-1, -2, -13, 1, -5, -16, -1] : List Int32).getD k 0
theorem kC_L : mL kC_41 = 33 := by decide +kernel
theorem kC_z : mI kC_41 0 2 = 0 ∧ mI kC_41 0 4 = 0 ∧ mI kC_41 8 1 = 0 ∧ mI kC_41 8 2 = 9 ∧ mI kC_41 8 3 = 0 ∧ mI kC_41 9 2 = 0 ∧ mP kC_41 0 9 = none := by decide +kernel
theorem kC_h : ∀ i, i < 4 → mI kC_41 (25 + 2 * i) 1 = -1 ∧ mI kC_41 (25 + 2 * i) 2 = 0 ∧ ∀ k, k < 40 → mI kC_41 (26 + 2 * i) k = 0 := by decide +kernel
theorem psG_4 : ∀ e ∈ psG, ¬ (e.1 = 4 ∧ e.2.1 = 0) := by decide
theorem st_X11 {Q : Mem → Prop} (hq : ∀ β, St0 β → Q β) : w_X11_init_147 Q 47 0 kC_41 := by
  refine lp0 ?_ 46 0 rfl
  have hC : tpC (ap0 46) tp0 46 := ⟨ap0_1 46, by decide, fun i hi => ⟨ap0_6 46 i hi, tp0_b i hi⟩⟩
  refine rd_C hC (fun l0 l1 l2 hO hl τ' k5 e8 e7 => ?_) (fun j hF => absurd hF tx0_F)
  obtain ⟨rfl, rfl, rfl⟩ := tx0_O hO
  have kA := ap0_K 46
  have hL : mL τ' = 33 := by rw [k5.2.2.1, kA.2.2.1]; exact kC_L
  refine mk_rule (m := 7) (l := [-1, -2, -13, 1, -5, -16, -1]) (by omega) (by omega) e8 e7 (fun D kD LD d1 d2 d3 d4 d5 d6 d7 d8 d9 d10 => ?_)
  rw [hL] at LD d1 d2 d3 d4 d5 d6 d7 d8 d9 d10 ⊢
  refine ⟨33, rfl, vpl (by decide), d1, hq _ ?_⟩
  have c0 : Int32.toNatClampNeg 0 = 0 := by decide
  rw [c0]
  have hI : ∀ a k, a < 33 → a ≠ 5 → a ≠ 6 → a ≠ 7 → mI D a k = mI kC_41 a k := fun a k h1 h2 h3 h4 => by
    rw [kD.2.2.2 a k (by omega) (fun z => z), k5.2.2.2 a k (by unfold FCr; omega), kA.2.2.2 a k (by omega)]
  have hP : ∀ a k, a < 33 → mP D a k = mP kC_41 a k := fun a k h1 => by
    rw [kD.2.1 a k (by omega) (fun z => z), k5.1 a k, kA.1 a k]
  have hT : ∀ a, a < 33 → mT D a = mT kC_41 a := fun a h1 => by
    rw [kD.2.2.1 a (by omega), k5.2.1 a, kA.2.1 a]
  have lG : ∀ e ∈ psG, e.1 < 33 := by decide
  have lT : ∀ e ∈ tsG, e.1 < 33 := by decide
  have hS : mS psG tsG D := ⟨fun e he => ⟨by rw [hP _ _ (lG e he)]; exact (kC_S.1 e he).1, by have := lG e he; omega⟩, fun e he => by rw [hT _ (lT e he)]; exact kC_S.2 e he⟩
  have hS2 := hS.sP 4 0 (some 33) psG_4
  obtain ⟨z1, z2, z3, z4, z5, z6, z7⟩ := kC_z
  have nI0 : ∀ a k, (a ≠ 0 ∨ k ≠ 6) → (a ≠ 5 ∨ k ≠ 1) → mI (sI (sI (sP D 4 0 (some 33)) 0 6 1) 5 1 0) a k = mI D a k := fun a k h1 h2 => by
    rw [mI_sI]
    by_cases c : a = 5
    · rw [if_pos c, if_neg (by omega), mI_sI_n _ _ (by omega), mI_sP]
    · rw [if_neg c, mI_sI]
      by_cases c2 : a = 0
      · rw [if_pos c2, if_neg (by omega), mI_sP]
      · rw [if_neg c2, mI_sP]
  have nP0 : ∀ a k, a ≠ 4 → mP (sI (sI (sP D 4 0 (some 33)) 0 6 1) 5 1 0) a k = mP D a k := fun a k h1 => by
    rw [mP_sI, mP_sI, mP_sP, if_neg h1]
  refine ⟨LD, hS2, ⟨?_, ?_, ?_, ?_, ?_, ?_, ?_, ?_, ?_⟩, fun i hi => ⟨?_, ?_, fun k hk => ?_⟩, ⟨?_, d1, ?_, ?_, ?_, d5, d6, d7, ?_, ?_⟩, fun k hk => ?_⟩
  · rw [nI0 _ _ (by omega) (by omega), hI _ _ (by omega) (by omega) (by omega) (by omega)]; exact z1
  · rw [nI0 _ _ (by omega) (by omega), hI _ _ (by omega) (by omega) (by omega) (by omega)]; exact z2
  · rw [mI_sI_n _ _ (by decide)]; exact mI_sI_s _ _ _ _
  · rw [nI0 _ _ (by omega) (by omega), hI _ _ (by omega) (by omega) (by omega) (by omega)]; exact z3
  · rw [nI0 _ _ (by omega) (by omega), hI _ _ (by omega) (by omega) (by omega) (by omega)]; exact z4
  · rw [nI0 _ _ (by omega) (by omega), hI _ _ (by omega) (by omega) (by omega) (by omega)]; exact z5
  · exact mI_sI_s _ _ _ _
  · rw [nI0 _ _ (by omega) (by omega), hI _ _ (by omega) (by omega) (by omega) (by omega)]; exact z6
  · rw [nP0 _ _ (by omega), hP _ _ (by omega)]; exact z7
  · rw [nI0 _ _ (by omega) (by omega), hI _ _ (by omega) (by omega) (by omega) (by omega)]; exact (kC_h i hi).1
  · rw [nI0 _ _ (by omega) (by omega), hI _ _ (by omega) (by omega) (by omega) (by omega)]; exact (kC_h i hi).2.1
  · rw [nI0 _ _ (by omega) (by omega), hI _ _ (by omega) (by omega) (by omega) (by omega)]; exact (kC_h i hi).2.2 k hk
  · rw [mP_sI, mP_sI, mP_sP, if_pos rfl, if_pos rfl]
  · rw [nP0 _ _ (by omega)]; exact d2
  · rw [nP0 _ _ (by omega)]; exact d3
  · rw [nP0 _ _ (by omega)]; exact d4
  · rw [nI0 _ _ (by omega) (by omega)]; exact d8
  · rw [nI0 _ _ (by omega) (by omega)]; exact d9
  · rw [nI0 _ _ (by omega) (by omega)]; exact d10 k hk
theorem kM_z : mL (kM_142 zb) = 68 ∧ mI (kM_142 zb) 37 0 = 0 ∧ mI (kM_142 zb) 37 3 = 0 ∧ mI (kM_142 zb) 37 9 = 1 ∧ mI (kM_142 zb) 37 10 = 0 ∧ mI (kM_142 zb) 37 6 = 9 ∧ mI (kM_142 zb) 37 8 = 0 ∧ mI (kM_142 zb) 37 45 = 0 ∧ mI (kM_142 zb) 37 46 = 0 ∧ mI (kM_142 zb) 37 49 = 0 := by decide +kernel
theorem kM_h : ∀ i, i < 4 → mI (kM_142 zb) 64 i = -1 ∧ mI (kM_142 zb) 65 i = 0 := by decide +kernel
theorem kM_i : ∀ k, k < 160 → mI (kM_142 zb) 66 k = 0 := by decide +kernel
theorem kM_m : (∀ k, k < 8 → mI (kM_142 zb) 53 k = nI k) ∧ (∀ k, k < 45 → mI (kM_142 zb) 45 k = lettX.getD k 0) ∧ ∀ k, k < 13 → mI (kM_142 zb) 46 k = begX.getD k 0 := by decide +kernel
theorem kM_c : (mI (kM_142 zb) 44 0 = nI 3 ∧ mI (kM_142 zb) 44 1 = nI 3 ∧ mI (kM_142 zb) 44 2 = nI 1) ∧ (∀ k, k < 3 → mI (kM_142 zb) 43 (0 + k) = trS (([-1, -2, -13] : List Int32).getD k 0)) ∧ (∀ k, k < 3 → mI (kM_142 zb) 43 (160 + k) = trS (([1, -5, -16] : List Int32).getD k 0)) ∧ ∀ k, k < 1 → mI (kM_142 zb) 43 (320 + k) = trS (([-1] : List Int32).getD k 0) := by decide +kernel
theorem kM_S : (∀ e ∈ psM, 37 ≤ e.1 ∧ mP (kM_142 zb) e.1 e.2.1 = some e.2.2 ∧ e.1 < 68) ∧ ∀ e ∈ tsM, 37 ≤ e.1 ∧ mT (kM_142 zb) e.1 = some e.2 := by decide +kernel
/-- the two objects are alike at the start -/
theorem Rel_0 {β : Mem} (h : St0 β) : Rel (kM_142 β) := by
  obtain ⟨hb, hS, ⟨b1, b2, b3, b4, b5, b6, b7, b8, b9⟩, bh, ⟨r1, r2, r3, r4, r5, r6, r7, r8, r9, r10⟩, r11⟩ := h
  have sm := kM_s142 hb
  obtain ⟨z0, z1, z2, z3, z4, z5, z6, z7, z8, z9⟩ := kM_z
  have hi : ∀ a k, a < 37 → mI (kM_142 β) a k = mI β a k := fun a k q => ((sm.2.2.2.1 a q).2 k).1
  have hp : ∀ a k, a < 37 → mP (kM_142 β) a k = mP β a k := fun a k q => ((sm.2.2.2.1 a q).2 k).2
  have ht : ∀ a, a < 37 → mT (kM_142 β) a = mT β a := fun a q => (sm.2.2.2.1 a q).1
  have gi : ∀ a k, 37 ≤ a ∧ a < 68 → mI (kM_142 β) a k = mI (kM_142 zb) a k := fun a k q => (sm.2.2.1 a k (by rw [z0]; exact q)).1
  have gp : ∀ a k, 37 ≤ a ∧ a < 68 → mP (kM_142 β) a k = mP (kM_142 zb) a k := fun a k q => (sm.2.2.1 a k (by rw [z0]; exact q)).2
  have hl : mL (kM_142 β) = 68 := sm.1.trans z0
  have lG : ∀ e ∈ psG, e.1 < 33 := by decide
  have lT : ∀ e ∈ tsG, e.1 < 33 := by decide
  refine ⟨⟨fun e he => ?_, fun e he => ?_⟩, by omega, 0, 0, 1, ?_, ?_, ?_, ?_, ?_, ?_, ?_, ?_, ?_⟩
  · rcases List.mem_append.mp he with q | q
    · have := lG e q
      exact ⟨by rw [hp _ _ (by omega)]; exact (hS.1 e q).1, by omega⟩
    · have := kM_S.1 e q
      exact ⟨by rw [gp _ _ ⟨this.1, this.2.2⟩]; exact this.2.1, by omega⟩
  · rcases List.mem_append.mp he with q | q
    · have := lT e q
      rw [ht _ (by omega)]; exact hS.2 e q
    · have := kM_S.2 e q
      rw [sm.2.1 _ this.1]; exact this.2
  · exact ⟨by omega, by rw [hi _ _ (by omega)]; exact b1, by rw [gi _ _ (by omega)]; exact z1, fun i h => absurd h (Nat.not_lt_zero i)⟩
  · exact ⟨by omega, by rw [hi _ _ (by omega)]; exact b2, by rw [gi _ _ (by omega)]; exact z2, fun i h => absurd h (Nat.not_lt_zero i)⟩
  · refine ⟨by omega, by omega, by rw [hi _ _ (by omega)]; exact b3, by rw [gi _ _ (by omega)]; exact z3, fun t h => ?_, fun t u r r' h1 h2 h3 => absurd h3 (by omega)⟩
    obtain rfl : t = 0 := by omega
    refine ⟨33, 34, 35, 36, [-1, -2, -13], [1, -5, -16], [-1], ?_⟩
    have c := kM_c
    refine ⟨by rw [hp _ _ (by omega)]; exact r1, Or.inl rfl, Or.inr (Or.inl rfl), Or.inr (Or.inr (Or.inl rfl)), Or.inr (Or.inr (Or.inr (Or.inl rfl))), by rw [ht _ (by omega)]; exact r2, by rw [hp _ _ (by omega)]; exact r3, by rw [hp _ _ (by omega)]; exact r4, by rw [hp _ _ (by omega)]; exact r5, by rw [ht _ (by omega)]; exact r6, by rw [ht _ (by omega)]; exact r7, by rw [ht _ (by omega)]; exact r8, ⟨by omega, by omega, by omega⟩, by decide, by rw [hi _ _ (by omega)]; exact r9, by rw [hi _ _ (by omega)]; exact r10, by rw [gi _ _ (by omega)]; exact c.1.1, by rw [gi _ _ (by omega)]; exact c.1.2.1, by rw [gi _ _ (by omega)]; exact c.1.2.2, ⟨fun k hk => ⟨?_, ?_⟩, ?_, ?_⟩, ⟨fun k hk => ⟨?_, ?_⟩, ?_, ?_⟩, ⟨fun k hk => ⟨?_, ?_⟩, ?_, ?_⟩⟩
    · have hk : k < 3 := hk
      rw [hi _ _ (by omega), r11 _ (show 0 + k < 7 by omega)]
      exact (show ∀ k, k < 3 → ([-1, -2, -13, 1, -5, -16, -1] : List Int32).getD (0 + k) 0 = ([-1, -2, -13] : List Int32).getD k 0 by decide) k hk
    · rw [gi _ _ (by omega)]; exact c.2.1 k hk
    · unfold okS; decide
    · decide
    · have hk : k < 3 := hk
      show mI (kM_142 β) 34 (3 + k) = _
      rw [hi _ _ (by omega), r11 _ (show 3 + k < 7 by omega)]
      exact (show ∀ k, k < 3 → ([-1, -2, -13, 1, -5, -16, -1] : List Int32).getD (3 + k) 0 = ([1, -5, -16] : List Int32).getD k 0 by decide) k hk
    · rw [gi _ _ (by omega)]; exact c.2.2.1 k hk
    · unfold okS; decide
    · decide
    · have hk : k < 1 := hk
      show mI (kM_142 β) 34 (6 + k) = _
      rw [hi _ _ (by omega), r11 _ (show 6 + k < 7 by omega)]
      exact (show ∀ k, k < 1 → ([-1, -2, -13, 1, -5, -16, -1] : List Int32).getD (6 + k) 0 = ([-1] : List Int32).getD k 0 by decide) k hk
    · rw [gi _ _ (by omega)]; exact c.2.2.2 k hk
    · unfold okS; decide
    · decide
  · exact ⟨⟨0, by omega, by rw [hi _ _ (by omega)]; exact b6, by rw [gi _ _ (by omega)]; exact z4⟩, 9, by omega, by omega, by rw [hi _ _ (by omega)]; exact b5, by rw [gi _ _ (by omega)]; exact z5⟩
  · exact ⟨0, by omega, by rw [hi _ _ (by omega)]; exact b7, by rw [gi _ _ (by omega)]; exact z6, fun i h => absurd h (Nat.not_lt_zero i)⟩
  · exact ⟨0, 0, fun _ => 0, by omega, by rw [hi _ _ (by omega)]; exact b4, by rw [gi _ _ (by omega)]; exact z7, by rw [hi _ _ (by omega)]; exact b8, by rw [gi _ _ (by omega)]; exact z8, by omega, Nat.le_refl _, fun h q => absurd q (Nat.not_lt_zero h), fun h k q => absurd q (Nat.not_lt_zero h)⟩
  · exact Or.inl ⟨by rw [hp _ _ (by omega)]; exact b9, by rw [gi _ _ (by omega)]; exact z9⟩
  · intro i q
    have g := bh i q
    have m := kM_h i q
    refine ⟨⟨?_, Or.inl ?_⟩, ⟨0, by omega, ?_, ?_⟩, fun k hk => ?_⟩
    · rw [hi _ _ (by omega), gi _ _ (by omega), g.1, m.1]
    · rw [gi _ _ (by omega), m.1]
    · rw [hi _ _ (by omega)]; exact g.2.1
    · rw [gi _ _ (by omega)]; exact m.2
    · rw [hi _ _ (by omega), gi _ _ (by omega), g.2.2 k hk, kM_i _ (by omega)]
  · have m := kM_m
    exact ⟨fun k hk => by rw [gi _ _ (by omega)]; exact m.1 k hk, fun k hk => by rw [gi _ _ (by omega)]; exact m.2.1 k hk, fun k hk => by rw [gi _ _ (by omega)]; exact m.2.2 k hk⟩
