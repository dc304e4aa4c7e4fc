/-! STAGE 2: the class's value of a part, the model's -/
theorem name_in {s : Int32} (h1 : -6 ≤ s) (h2 : s < 0) : ∃ j : Nat, j < 6 ∧ -1 - s = nI j := by
  rw [fa_le] at h1
  rw [fa_lt] at h2
  have e1 : (-6 : Int32).toInt = -6 := by decide
  have e2 : (0 : Int32).toInt = 0 := by decide
  have e3 : (-1 : Int32).toInt = -1 := by decide
  rw [e1] at h1
  rw [e2] at h2
  refine ⟨(-1 - s.toInt).toNat, by omega, ?_⟩
  have z4 := fb_subI (x := -1) (y := s) (by rw [e3]; omega) (by rw [e3]; omega)
  rw [fa_eq, z4, nI_toInt (by omega), e3]
  omega
theorem ok_bin {s : Int32} (h : okS s) (h1 : ¬ -6 ≤ s) (h2 : ¬ s ≤ -21) : -17 ≤ s ∧ s ≤ -11 := by
  rcases h with h | h | h | h
  · exact absurd h.1 h1
  · exact h
  · subst h; exact absurd (by decide) h2
  · subst h; exact absurd (by decide) h2
theorem ok_un {s : Int32} (h : okS s) (h1 : ¬ -6 ≤ s) (h2 : s ≤ -21) : s = -21 ∨ s = -22 := by
  rcases h with h | h | h | h
  · exact absurd h.1 h1
  · exfalso
    have := Int32.le_trans h.1 h2
    revert this; decide
  · exact Or.inl h
  · exact Or.inr h
theorem lit_c3 {s : Int32} (h : 0 ≤ s) : ¬ (0 : Int32) ≤ -1 - s := by
  have z0 : (0 : Int32).toInt = 0 := by decide
  have z1 : (-1 : Int32).toInt = -1 := by decide
  rw [fa_le, z0] at h
  have z3 := fb_rng s
  have z4 : (-1 - s).toInt = -1 - s.toInt := by
    rw [fb_subI (by rw [z1]; clear z1 z0; omega) (by rw [z1]; clear z1 z0; omega), z1]
  rw [fa_le, z4, z0]
  clear z4 z1 z0
  omega
theorem lit_c4 {s : Int32} (h : 0 ≤ s) : -1 - (-1 - s) = s := by
  have z0 : (0 : Int32).toInt = 0 := by decide
  have z1 : (-1 : Int32).toInt = -1 := by decide
  rw [fa_le, z0] at h
  have z3 := fb_rng s
  have z4 : (-1 - s).toInt = -1 - s.toInt := by
    rw [fb_subI (by rw [z1]; clear z1 z0; omega) (by rw [z1]; clear z1 z0; omega), z1]
  have z5 : (-1 - (-1 - s)).toInt = -1 - (-1 - s.toInt) := by
    rw [fb_subI (by rw [z1, z4]; clear z4 z1 z0; omega) (by rw [z1, z4]; clear z4 z1 z0; omega), z1, z4]
  rw [fa_eq, z5]
  clear z5 z4 z1 z0
  omega
set_option maxHeartbeats 2000000 in
theorem val_go {Q : Int32 → Mem → Prop} {r st nm sk n e : Nat} {ν : Nat → Int32} (hn : n ≤ 160) (he : e ≤ n) (d1 : st ≠ sk) (d2 : nm ≠ sk) : ∀ (l : List Int32) (i h f : Nat) (S : Nat → Int32) (σ : Mem), mT σ r = some (6, 0) → mP σ r 0 = some st → mP σ r 3 = some nm → mP σ r 4 = some sk → mT σ st = some (14, n) → mT σ nm = some (14, 6) → mT σ sk = some (14, 40) → (∀ k, k < l.length → mI σ st (i + k) = l.getD k 0) → (∀ s ∈ l, okS s) → hgL h l = some f → 1 ≤ f → h ≤ 40 → (∀ j, j < h → mI σ sk j = S j) → i + l.length = e → (∀ j, j < 6 → mI σ nm j = ν j) → (∀ τ, Kp (fun a _ => a = sk) σ τ → Q (evL ν l S h 0) τ) → ∃ m, w_X6_value_64 Q m r (nI e) (nI h) (nI i) σ := by
  intro l
  induction l with
  | nil =>
    intro i h f S σ t1 p0 p3 p4 t2 t3 t4 hl hok hg hf hh hS hi hν hq
    have e1 : h = f := Option.some.inj hg
    refine ⟨1, ?_⟩
    rw [w_X6_value_64]
    simp only [List.length_nil] at hi
    simp (disch := omega) only [mI_sI_s, k_lt, k_nlt, k_le, k_nle, k_eq, k_neq, k_ltm, k_nltm, k_lem, k_nlem, k_eqm, k_eqm2, k_cl, k_in, nI_add, k_sub, k_m1, k_mul, mT_sI, mP_sI, true_and, and_true, true_implies, false_implies, not_true_eq_false, not_false_eq_true, implies_true, forall_eq, Option.some.injEq, exists_eq_left', exists_eq_left, ite_true, ite_false, if_true, if_false, Prod.mk.injEq, eq_self, and_self, not_true, not_false_iff, lit_0, lit_1, lit_2, lit_3, lit_4, lit_5, lit_6, lit_7, lit_8, lit_9, lit_10, lit_11, lit_12, lit_13, lit_14, lit_15, lit_16, lit_17, lit_18, lit_40, lit_50, lit_99, lit_100, lit_160, lit_170, lit_255, lit_793, lit_1000, t1, p0, p3, p4, t2, t3, t4]
    rw [hS 0 (by omega)]
    exact hq σ Kp.rf
  | cons s l ih =>
    intro i h f S σ t1 p0 p3 p4 t2 t3 t4 hl hok hg hf hh hS hi hν hq
    obtain ⟨hg', g1, g2, g3⟩ := hgL_cons hg
    have hs : okS s := hok s (List.mem_cons_self)
    have hs0 : mI σ st i = s := hl 0 (by simp)
    simp only [List.length_cons] at hi
    have hl' : ∀ (τ : Mem), (∀ j, mI τ st j = mI σ st j) → ∀ k, k < l.length → mI τ st (i + 1 + k) = l.getD k 0 := fun τ q k hk => by
      have := hl (k + 1) (by simp; omega)
      rw [q, show i + 1 + k = i + (k + 1) by omega]
      simpa using this
    have go : ∀ (j : Nat) (v : Int32), ev1 ν s S h = upd S j v → (j < hg1 h s) → hg1 h s ≤ h + 1 → hg1 h s ≤ 40 → (hg1 h s = h + 1 → j = h) → ∃ m, w_X6_value_64 Q m r (nI e) (nI (hg1 h s)) (nI (i + 1)) (sI σ sk j v) := by
      intro j v ev hj h1 h2 h3
      refine ih (i + 1) (hg1 h s) f (ev1 ν s S h) (sI σ sk j v) t1 p0 p3 p4 t2 t3 t4 (hl' _ (fun j => mI_sI_n _ _ d1)) (fun s hs => hok s (List.mem_cons_of_mem _ hs)) hg' hf h2 ?_ (by omega) (fun j hj => by rw [mI_sI_n _ _ d2]; exact hν j hj) (fun τ k1 => hq τ (((Kp.rf (F := fun a _ => a = sk)).sI (a := sk) (k := j) v rfl).tr k1))
      intro j' hj'
      rw [ev]
      by_cases c : j' = j
      · subst c; rw [mI_sI_s, pk_us]
      · rw [mI_sI_k _ _ c, pk_un c]; exact hS j' (by omega)
    by_cases c1 : -6 ≤ s
    · have c1' : ¬ s < -6 := Int32.not_lt.mpr c1
      have q1 := g1 c1
      have e2 : hg1 h s = h + 1 := if_pos c1
      by_cases c2 : s < 0
      · have c2' : ¬ 0 ≤ s := Int32.not_le.mpr c2
        obtain ⟨j, hj, ej⟩ := name_in c1 c2
        have ej' : -nI 1 - s = nI j := ej
        obtain ⟨m, hm⟩ := go h (ν j) (by unfold ev1; rw [if_pos c1, if_neg c2', ej, k_cl (by omega)]) (by omega) (by omega) (by omega) (fun _ => rfl)
        refine ⟨m + 1, ?_⟩
        rw [w_X6_value_64]
        unfold w_X6_value_130 w_X6_value_239
        simp (disch := omega) only [mI_sI_s, k_lt, k_nlt, k_le, k_nle, k_eq, k_neq, k_ltm, k_nltm, k_lem, k_nlem, k_eqm, k_eqm2, k_cl, k_in, nI_add, k_sub, k_m1, k_mul, mT_sI, mP_sI, true_and, and_true, true_implies, false_implies, not_true_eq_false, not_false_eq_true, implies_true, forall_eq, Option.some.injEq, exists_eq_left', exists_eq_left, ite_true, ite_false, if_true, if_false, Prod.mk.injEq, eq_self, and_self, not_true, not_false_iff, t1, p0, p3, p4, t2, t3, t4, hs0, c1', c2, ej', hν j hj, lit_1, lit_40]
        rw [e2] at hm
        exact hm
      · have c2' : 0 ≤ s := Int32.not_lt.mp c2
        obtain ⟨m, hm⟩ := go h s (by unfold ev1; rw [if_pos c1, if_pos c2']) (by omega) (by omega) (by omega) (fun _ => rfl)
        refine ⟨m + 1, ?_⟩
        rw [w_X6_value_64]
        unfold w_X6_value_130 w_X6_value_239
        simp (disch := omega) only [mI_sI_s, k_lt, k_nlt, k_le, k_nle, k_eq, k_neq, k_ltm, k_nltm, k_lem, k_nlem, k_eqm, k_eqm2, k_cl, k_in, nI_add, k_sub, k_m1, k_mul, mT_sI, mP_sI, true_and, and_true, true_implies, false_implies, not_true_eq_false, not_false_eq_true, implies_true, forall_eq, Option.some.injEq, exists_eq_left', exists_eq_left, ite_true, ite_false, if_true, if_false, Prod.mk.injEq, eq_self, and_self, not_true, not_false_iff, t1, p0, p3, p4, t2, t3, t4, hs0, c1', c2, lit_1, lit_40]
        rw [e2] at hm
        exact hm
    · have c1' : s < -6 := Int32.not_le.mp c1
      by_cases c3 : s ≤ -21
      · have c3' : ¬ -21 < s := Int32.not_lt.mpr c3
        have q1 := g2 c1 c3
        have e2 : hg1 h s = h := by unfold hg1; rw [if_neg c1, if_pos c3]
        have q2 := hS (h - 1) (by omega)
        obtain ⟨m, hm⟩ := go (h - 1) (if s = -22 then 0 - S (h - 1) else if S (h - 1) = 0 then 1 else 0) (by unfold ev1; rw [if_neg c1, if_pos c3]) (by omega) (by omega) (by omega) (fun _ => by omega)
        rw [e2] at hm
        refine ⟨m + 1, ?_⟩
        rw [w_X6_value_64]
        unfold w_X6_value_194 w_X6_value_239
        by_cases c4 : s = -22
        · have c4' := eq_true c4
          simp (disch := omega) only [mI_sI_s, k_lt, k_nlt, k_le, k_nle, k_eq, k_neq, k_ltm, k_nltm, k_lem, k_nlem, k_eqm, k_eqm2, k_cl, k_in, nI_add, k_sub, k_m1, k_mul, mT_sI, mP_sI, true_and, and_true, true_implies, false_implies, not_true_eq_false, not_false_eq_true, implies_true, forall_eq, Option.some.injEq, exists_eq_left', exists_eq_left, ite_true, ite_false, if_true, if_false, Prod.mk.injEq, eq_self, and_self, not_true, not_false_iff, t1, p0, p3, p4, t2, t3, t4, hs0, c1', c3', c4', q2, lit_1]
          rw [if_pos c4] at hm
          exact hm
        · by_cases c5 : S (h - 1) = 0
          · simp (disch := omega) only [mI_sI_s, k_lt, k_nlt, k_le, k_nle, k_eq, k_neq, k_ltm, k_nltm, k_lem, k_nlem, k_eqm, k_eqm2, k_cl, k_in, nI_add, k_sub, k_m1, k_mul, mT_sI, mP_sI, true_and, and_true, true_implies, false_implies, not_true_eq_false, not_false_eq_true, implies_true, forall_eq, Option.some.injEq, exists_eq_left', exists_eq_left, ite_true, ite_false, if_true, if_false, Prod.mk.injEq, eq_self, and_self, not_true, not_false_iff, t1, p0, p3, p4, t2, t3, t4, hs0, c1', c3', c4, q2, c5, lit_1]
            rw [if_neg c4] at hm
            simp (disch := omega) only [mI_sI_s, k_lt, k_nlt, k_le, k_nle, k_eq, k_neq, k_ltm, k_nltm, k_lem, k_nlem, k_eqm, k_eqm2, k_cl, k_in, nI_add, k_sub, k_m1, k_mul, mT_sI, mP_sI, true_and, and_true, true_implies, false_implies, not_true_eq_false, not_false_eq_true, implies_true, forall_eq, Option.some.injEq, exists_eq_left', exists_eq_left, ite_true, ite_false, if_true, if_false, Prod.mk.injEq, eq_self, and_self, not_true, not_false_iff, c5] at hm
            exact hm
          · simp (disch := omega) only [mI_sI_s, k_lt, k_nlt, k_le, k_nle, k_eq, k_neq, k_ltm, k_nltm, k_lem, k_nlem, k_eqm, k_eqm2, k_cl, k_in, nI_add, k_sub, k_m1, k_mul, mT_sI, mP_sI, true_and, and_true, true_implies, false_implies, not_true_eq_false, not_false_eq_true, implies_true, forall_eq, Option.some.injEq, exists_eq_left', exists_eq_left, ite_true, ite_false, if_true, if_false, Prod.mk.injEq, eq_self, and_self, not_true, not_false_iff, t1, p0, p3, p4, t2, t3, t4, hs0, c1', c3', c4, q2, c5, lit_1]
            rw [if_neg c4] at hm
            simp (disch := omega) only [mI_sI_s, k_lt, k_nlt, k_le, k_nle, k_eq, k_neq, k_ltm, k_nltm, k_lem, k_nlem, k_eqm, k_eqm2, k_cl, k_in, nI_add, k_sub, k_m1, k_mul, mT_sI, mP_sI, true_and, and_true, true_implies, false_implies, not_true_eq_false, not_false_eq_true, implies_true, forall_eq, Option.some.injEq, exists_eq_left', exists_eq_left, ite_true, ite_false, if_true, if_false, Prod.mk.injEq, eq_self, and_self, not_true, not_false_iff, c5] at hm
            exact hm
      · have c3' : -21 < s := Int32.not_le.mp c3
        have q1 := g3 c1 c3
        have e2 : hg1 h s = h - 1 := by unfold hg1; rw [if_neg c1, if_neg c3]
        obtain ⟨b1, b2⟩ := ok_bin hs c1 c3
        have q2 := hS (h - 1) (by omega)
        have q3 := hS (h - 2) (by omega)
        have e3 : h - 1 - 1 = h - 2 := by omega
        obtain ⟨m, hm⟩ := go (h - 2) (jn s (S (h - 2)) (S (h - 1))) (by unfold ev1; rw [if_neg c1, if_neg c3]) (by omega) (by omega) (by omega) (fun _ => by omega)
        rw [e2] at hm
        refine ⟨m + 1, ?_⟩
        rw [w_X6_value_64]
        unfold w_X6_value_239
        simp (disch := omega) only [mI_sI_s, k_lt, k_nlt, k_le, k_nle, k_eq, k_neq, k_ltm, k_nltm, k_lem, k_nlem, k_eqm, k_eqm2, k_cl, k_in, nI_add, k_sub, k_m1, k_mul, mT_sI, mP_sI, true_and, and_true, true_implies, false_implies, not_true_eq_false, not_false_eq_true, implies_true, forall_eq, Option.some.injEq, exists_eq_left', exists_eq_left, ite_true, ite_false, if_true, if_false, Prod.mk.injEq, eq_self, and_self, not_true, not_false_iff, t1, p0, p3, p4, t2, t3, t4, hs0, c1', c3', e3, q2, q3, lit_1, lit_2]
        refine joined_ok b1 b2 ?_
        simp (disch := omega) only [mI_sI_s, k_lt, k_nlt, k_le, k_nle, k_eq, k_neq, k_ltm, k_nltm, k_lem, k_nlem, k_eqm, k_eqm2, k_cl, k_in, nI_add, k_sub, k_m1, k_mul, mT_sI, mP_sI, true_and, and_true, true_implies, false_implies, not_true_eq_false, not_false_eq_true, implies_true, forall_eq, Option.some.injEq, exists_eq_left', exists_eq_left, ite_true, ite_false, if_true, if_false, Prod.mk.injEq, eq_self, and_self, not_true, not_false_iff, t4]
        exact hm

