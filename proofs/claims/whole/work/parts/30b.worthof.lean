/-! STAGE 2: the model's worth of a part -/
set_option maxHeartbeats 2000000 in
theorem wof_go {Q : Int32 → Mem → Prop} {row n : Nat} {ν : Nat → Int32} (hr : row < 18) (hn : n ≤ 160) : ∀ (l : List Int32) (i h f : Nat) (S : Nat → Int32) (σ : Mem), mI σ 44 row = nI n → (∀ k, k < l.length → mI σ 43 (160 * row + (i + k)) = trS (l.getD k 0)) → (∀ s ∈ l, okS s) → hgL h l = some f → 1 ≤ f → h ≤ 40 → (∀ j, j < h → mI σ 49 j = S j) → i + l.length = n → (∀ j, j < 6 → mI σ 50 j = ν j) → (∀ τ, Kp (fun a _ => a = 49) σ τ → Q (evL ν l S h 0) τ) → ∃ m, w_X12_worthOf_14 Q m (nI row) (nI h) (nI i) σ := by
  intro l
  induction l with
  | nil =>
    intro i h f S σ t1 hl hok hg hf hh hS hi hν hq
    have e1 : h = f := Option.some.inj hg
    refine ⟨1, ?_⟩
    rw [w_X12_worthOf_14]
    simp only [List.length_nil] at hi
    simp (disch := omega) only [mI_sI_s, k_lt, k_nlt, k_le, k_nle, k_eq, k_neq, k_ltm, k_nltm, k_lem, k_nlem, k_eqm, k_eqm2, k_cl, k_in, nI_add, k_sub, k_m1, k_mul, mT_sI, mP_sI, true_and, and_true, true_implies, false_implies, not_true_eq_false, not_false_eq_true, implies_true, forall_eq, Option.some.injEq, exists_eq_left', exists_eq_left, ite_true, ite_false, if_true, if_false, Prod.mk.injEq, eq_self, and_self, not_true, not_false_iff, lit_0, lit_1, lit_2, lit_3, lit_4, lit_5, lit_6, lit_7, lit_8, lit_9, lit_10, lit_11, lit_12, lit_13, lit_14, lit_15, lit_16, lit_17, lit_18, lit_40, lit_50, lit_99, lit_100, lit_160, lit_170, lit_255, lit_793, lit_1000, t1]
    rw [hS 0 (by omega)]
    exact hq σ Kp.rf
  | cons s l ih =>
    intro i h f S σ t1 hl hok hg hf hh hS hi hν hq
    obtain ⟨hg', g1, g2, g3⟩ := hgL_cons hg
    have hs : okS s := hok s (List.mem_cons_self)
    have hs0 : mI σ 43 (160 * row + i) = trS s := hl 0 (by simp)
    simp only [List.length_cons] at hi
    have hl' : ∀ (τ : Mem), (∀ j, mI τ 43 j = mI σ 43 j) → ∀ k, k < l.length → mI τ 43 (160 * row + (i + 1 + k)) = trS (l.getD k 0) := fun τ q k hk => by
      have := hl (k + 1) (by simp; omega)
      rw [q, show i + 1 + k = i + (k + 1) by omega]
      simpa using this
    have go : ∀ (j : Nat) (v : Int32), ev1 ν s S h = upd S j v → (j < hg1 h s) → hg1 h s ≤ h + 1 → hg1 h s ≤ 40 → (hg1 h s = h + 1 → j = h) → ∃ m, w_X12_worthOf_14 Q m (nI row) (nI (hg1 h s)) (nI (i + 1)) (sI σ 49 j v) := by
      intro j v ev hj h1 h2 h3
      refine ih (i + 1) (hg1 h s) f (ev1 ν s S h) (sI σ 49 j v) (by rw [mI_sI_n _ _ (by decide)]; exact t1) (hl' _ (fun j => mI_sI_n _ _ (by decide))) (fun s hs => hok s (List.mem_cons_of_mem _ hs)) hg' hf h2 ?_ (by omega) (fun j hj => by rw [mI_sI_n _ _ (by decide)]; exact hν j hj) (fun τ k1 => hq τ (((Kp.rf (F := fun a _ => a = 49)).sI (a := 49) (k := j) v rfl).tr k1))
      intro j' hj'
      rw [ev]
      by_cases c : j' = j
      · subst c; rw [mI_sI_s, pk_us]
      · rw [mI_sI_k _ _ c, pk_un c]; exact hS j' (by omega)
    by_cases c1 : -6 ≤ s
    · have q1 := g1 c1
      have e2 : hg1 h s = h + 1 := if_pos c1
      have e3 : trS s = -1 - s := if_pos c1
      by_cases c2 : s < 0
      · have c2' : ¬ 0 ≤ s := Int32.not_le.mpr c2
        obtain ⟨j, hj, ej⟩ := name_in c1 c2
        obtain ⟨m, hm⟩ := go h (ν j) (by unfold ev1; rw [if_pos c1, if_neg c2', ej, k_cl (by omega)]) (by omega) (by omega) (by omega) (fun _ => rfl)
        rw [e3, ej] at hs0
        refine ⟨m + 1, ?_⟩
        rw [w_X12_worthOf_14]
        unfold w_X12_worthOf_178
        simp (disch := omega) only [mI_sI_s, k_lt, k_nlt, k_le, k_nle, k_eq, k_neq, k_ltm, k_nltm, k_lem, k_nlem, k_eqm, k_eqm2, k_cl, k_in, nI_add, k_sub, k_m1, k_mul, mT_sI, mP_sI, true_and, and_true, true_implies, false_implies, not_true_eq_false, not_false_eq_true, implies_true, forall_eq, Option.some.injEq, exists_eq_left', exists_eq_left, ite_true, ite_false, if_true, if_false, Prod.mk.injEq, eq_self, and_self, not_true, not_false_iff, lit_0, lit_1, lit_2, lit_3, lit_4, lit_5, lit_6, lit_7, lit_8, lit_9, lit_10, lit_11, lit_12, lit_13, lit_14, lit_15, lit_16, lit_17, lit_18, lit_40, lit_50, lit_99, lit_100, lit_160, lit_170, lit_255, lit_793, lit_1000, t1, hs0, hν j hj]
        rw [e2] at hm
        exact hm
      · have c2' : 0 ≤ s := Int32.not_lt.mp c2
        obtain ⟨m, hm⟩ := go h s (by unfold ev1; rw [if_pos c1, if_pos c2']) (by omega) (by omega) (by omega) (fun _ => rfl)
        rw [e3] at hs0
        have c3' : (nI 0 ≤ -nI 1 - s) = False := eq_false (lit_c3 c2')
        have c4' : -nI 1 - (-nI 1 - s) = s := lit_c4 c2'
        refine ⟨m + 1, ?_⟩
        rw [w_X12_worthOf_14]
        unfold w_X12_worthOf_178
        simp (disch := omega) only [mI_sI_s, k_lt, k_nlt, k_le, k_nle, k_eq, k_neq, k_ltm, k_nltm, k_lem, k_nlem, k_eqm, k_eqm2, k_cl, k_in, nI_add, k_sub, k_m1, k_mul, mT_sI, mP_sI, true_and, and_true, true_implies, false_implies, not_true_eq_false, not_false_eq_true, implies_true, forall_eq, Option.some.injEq, exists_eq_left', exists_eq_left, ite_true, ite_false, if_true, if_false, Prod.mk.injEq, eq_self, and_self, not_true, not_false_iff, lit_0, lit_1, lit_2, lit_3, lit_4, lit_5, lit_6, lit_7, lit_8, lit_9, lit_10, lit_11, lit_12, lit_13, lit_14, lit_15, lit_16, lit_17, lit_18, lit_40, lit_50, lit_99, lit_100, lit_160, lit_170, lit_255, lit_793, lit_1000, t1, hs0, c3', c4']
        rw [e2] at hm
        exact hm
    · by_cases c3 : s ≤ -21
      · have q1 := g2 c1 c3
        have e2 : hg1 h s = h := by unfold hg1; rw [if_neg c1, if_pos c3]
        have q2 := hS (h - 1) (by omega)
        obtain ⟨m, hm⟩ := go (h - 1) (if s = -22 then 0 - S (h - 1) else if S (h - 1) = 0 then 1 else 0) (by unfold ev1; rw [if_neg c1, if_pos c3]) (by omega) (by omega) (by omega) (fun _ => by omega)
        rw [e2] at hm
        refine ⟨m + 1, ?_⟩
        rw [w_X12_worthOf_14]
        unfold w_X12_worthOf_117 w_X12_worthOf_178
        rcases ok_un hs c1 c3 with c4 | c4
        · have e3 : trS s = nI 12 := by rw [c4]; decide
          have c4' : ¬ s = -22 := by rw [c4]; decide
          rw [e3] at hs0
          rw [if_neg c4'] at hm
          by_cases c5 : S (h - 1) = 0
          · have c5' : S (h - 1) = nI 0 := c5
            rw [if_pos c5] at hm
            simp (disch := omega) only [mI_sI_s, k_lt, k_nlt, k_le, k_nle, k_eq, k_neq, k_ltm, k_nltm, k_lem, k_nlem, k_eqm, k_eqm2, k_cl, k_in, nI_add, k_sub, k_m1, k_mul, mT_sI, mP_sI, true_and, and_true, true_implies, false_implies, not_true_eq_false, not_false_eq_true, implies_true, forall_eq, Option.some.injEq, exists_eq_left', exists_eq_left, ite_true, ite_false, if_true, if_false, Prod.mk.injEq, eq_self, and_self, not_true, not_false_iff, lit_0, lit_1, lit_2, lit_3, lit_4, lit_5, lit_6, lit_7, lit_8, lit_9, lit_10, lit_11, lit_12, lit_13, lit_14, lit_15, lit_16, lit_17, lit_18, lit_40, lit_50, lit_99, lit_100, lit_160, lit_170, lit_255, lit_793, lit_1000, t1, hs0, q2, c5']
            exact hm
          · have c5' : ¬ S (h - 1) = nI 0 := c5
            rw [if_neg c5] at hm
            simp (disch := omega) only [mI_sI_s, k_lt, k_nlt, k_le, k_nle, k_eq, k_neq, k_ltm, k_nltm, k_lem, k_nlem, k_eqm, k_eqm2, k_cl, k_in, nI_add, k_sub, k_m1, k_mul, mT_sI, mP_sI, true_and, and_true, true_implies, false_implies, not_true_eq_false, not_false_eq_true, implies_true, forall_eq, Option.some.injEq, exists_eq_left', exists_eq_left, ite_true, ite_false, if_true, if_false, Prod.mk.injEq, eq_self, and_self, not_true, not_false_iff, lit_0, lit_1, lit_2, lit_3, lit_4, lit_5, lit_6, lit_7, lit_8, lit_9, lit_10, lit_11, lit_12, lit_13, lit_14, lit_15, lit_16, lit_17, lit_18, lit_40, lit_50, lit_99, lit_100, lit_160, lit_170, lit_255, lit_793, lit_1000, t1, hs0, q2, c5']
            exact hm
        · have e3 : trS s = nI 18 := by rw [c4]; decide
          rw [e3] at hs0
          rw [if_pos c4] at hm
          simp (disch := omega) only [mI_sI_s, k_lt, k_nlt, k_le, k_nle, k_eq, k_neq, k_ltm, k_nltm, k_lem, k_nlem, k_eqm, k_eqm2, k_cl, k_in, nI_add, k_sub, k_m1, k_mul, mT_sI, mP_sI, true_and, and_true, true_implies, false_implies, not_true_eq_false, not_false_eq_true, implies_true, forall_eq, Option.some.injEq, exists_eq_left', exists_eq_left, ite_true, ite_false, if_true, if_false, Prod.mk.injEq, eq_self, and_self, not_true, not_false_iff, lit_0, lit_1, lit_2, lit_3, lit_4, lit_5, lit_6, lit_7, lit_8, lit_9, lit_10, lit_11, lit_12, lit_13, lit_14, lit_15, lit_16, lit_17, lit_18, lit_40, lit_50, lit_99, lit_100, lit_160, lit_170, lit_255, lit_793, lit_1000, t1, hs0, q2]
          exact hm
      · have q1 := g3 c1 c3
        have e2 : hg1 h s = h - 1 := by unfold hg1; rw [if_neg c1, if_neg c3]
        obtain ⟨b1, b2⟩ := ok_bin hs c1 c3
        have q2 := hS (h - 1) (by omega)
        have q3 := hS (h - 2) (by omega)
        have e3 : h - 1 - 1 = h - 2 := by omega
        have e4 : (nI 0 ≤ trS s) = True ∧ (nI 6 ≤ trS s) = True ∧ (trS s = nI 12) = False ∧ (trS s = nI 18) = False := by
          rcases bin_cases b1 b2 with rfl | rfl | rfl | rfl | rfl | rfl | rfl <;> decide
        obtain ⟨m, hm⟩ := go (h - 2) (jn s (S (h - 2)) (S (h - 1))) (by unfold ev1; rw [if_neg c1, if_neg c3]) (by omega) (by omega) (by omega) (fun _ => by omega)
        rw [e2] at hm
        refine ⟨m + 1, ?_⟩
        rw [w_X12_worthOf_14]
        unfold w_X12_worthOf_178
        simp (disch := omega) only [mI_sI_s, k_lt, k_nlt, k_le, k_nle, k_eq, k_neq, k_ltm, k_nltm, k_lem, k_nlem, k_eqm, k_eqm2, k_cl, k_in, nI_add, k_sub, k_m1, k_mul, mT_sI, mP_sI, true_and, and_true, true_implies, false_implies, not_true_eq_false, not_false_eq_true, implies_true, forall_eq, Option.some.injEq, exists_eq_left', exists_eq_left, ite_true, ite_false, if_true, if_false, Prod.mk.injEq, eq_self, and_self, not_true, not_false_iff, lit_0, lit_1, lit_2, lit_3, lit_4, lit_5, lit_6, lit_7, lit_8, lit_9, lit_10, lit_11, lit_12, lit_13, lit_14, lit_15, lit_16, lit_17, lit_18, lit_40, lit_50, lit_99, lit_100, lit_160, lit_170, lit_255, lit_793, lit_1000, t1, hs0, e3, q2, q3, e4.1, e4.2.1, e4.2.2.1, e4.2.2.2]
        refine done_ok b1 b2 ?_
        exact hm
