/-! STAGE 2: heaps, and who may lie where: pure, the class's, the model's -/
abbrev HP : Type := Nat × (Nat → Nat) × (Nat → Nat → Nat)
abbrev EN : Type := (Nat → Int32) × (Nat → Int32) × Nat × (Nat → (Nat → Int32) → Int32)
def hgt (H : HP) (h : Nat) : Nat := if h < H.1 then H.2.1 h else 0
def topA (H : HP) (h : Nat) : Nat := H.2.2 h (hgt H h - 1)
def topI (H : HP) (h : Nat) : Int32 := if 0 < hgt H h then nI (topA H h) else -1
def puA (H : HP) (h p : Nat) : HP := (if h = H.1 then H.1 + 1 else H.1, fun i => if i = h then hgt H h + 1 else H.2.1 i, fun i k => if i = h ∧ k = hgt H h then p else H.2.2 i k)
def hoA (cm cf ch cr : Nat) (τ : Mem) (H : HP) : Prop := mI τ cm cf = nI H.1 ∧ (∀ h, h < H.1 → mI τ ch h = nI (H.2.1 h)) ∧ ∀ h k, h < H.1 → k < H.2.1 h → mI τ cr (8 * h + k) = nI (H.2.2 h k)
def okH (N n : Nat) (H : HP) : Prop := H.1 ≤ n ∧ (∀ h, h < H.1 → H.2.1 h ≤ n) ∧ ∀ h k, h < H.1 → k < H.2.1 h → H.2.2 h k < N
def nuA (E : EN) (H : HP) (h p : Nat) : Nat → Int32 := if 0 < hgt H h then nm6 (E.1 p) (E.1 (topA H h)) (E.2.1 p) (E.2.1 (topA H h)) (nI (hgt H h)) (nI h) else nm6 (E.1 p) 0 (E.2.1 p) 0 0 (nI h)
def mayA (E : EN) (H : HP) (h p : Nat) : Bool := if hgt H h = 0 then true else if hgt H h < E.2.2.1 then (if E.2.2.2 0 (nuA E H h p) = 0 then false else true) else false
def bdA (v : Int32) : Nat := if v < 0 then 0 else if 99 < v then 99 else v.toNatClampNeg
def payA (E : EN) (H : HP) (h p : Nat) : Nat := bdA (E.2.2.2 1 (nuA E H h p))
def rkA (kd : Nat) (nu h t s m : Int32) : Int32 :=
  if kd = 0 then t else if kd = 1 then (if 0 ≤ t - s then t - s else 0 - (t - s)) + nu else if kd = 2 then h else if kd = 3 then (if 0 ≤ t - s then t - s else 0 - (t - s)) + nu + 10 * m else if kd = 4 then (h + nu) - (h + nu) / 4 * 4 else 100 - ((if 0 ≤ t - s then t - s else 0 - (t - s)) + nu)
def lkA (kd : Nat) (nu r m : Int32) : Bool :=
  if kd = 1 ∨ kd = 3 then (if r ≤ 50 then false else true) else if kd = 4 then (if nu - nu / 3 * 3 ≤ m then false else true) else if kd = 5 then (if r ≤ 50 then (if m = 1 then true else false) else true) else false
def rkH (E : EN) (kd nu : Nat) (H : HP) (h p : Nat) : Int32 := if hgt H h = 0 then 1000 else rkA kd (nI nu) (nI h) (E.1 (topA H h)) (E.1 p) (nI (hgt H h))
theorem hgt_lt {H : HP} {h : Nat} (hh : h < H.1) : hgt H h = H.2.1 h := if_pos hh
theorem hgt_ge {H : HP} {h : Nat} (hh : ¬ h < H.1) : hgt H h = 0 := if_neg hh
theorem okH.hg {N n : Nat} {H : HP} (ho : okH N n H) (h : Nat) : hgt H h ≤ n := by
  by_cases c : h < H.1
  · rw [hgt_lt c]; exact ho.2.1 h c
  · rw [hgt_ge c]; omega
theorem okH.top {N n : Nat} {H : HP} (ho : okH N n H) {h : Nat} (hh : 0 < hgt H h) : topA H h < N := by
  by_cases c : h < H.1
  · unfold topA
    rw [hgt_lt c] at hh ⊢
    exact ho.2.2 h _ c (by omega)
  · rw [hgt_ge c] at hh; omega
theorem okH.put {N n : Nat} {H : HP} (ho : okH N n H) {h p : Nat} (hh : h ≤ H.1) (hp : p < N) : okH N (n + 1) (puA H h p) := by
  have h0 := ho.hg h
  have h1 := ho.1
  refine ⟨?_, fun i hi => ?_, fun i k hi hk => ?_⟩
  · show (if h = H.1 then H.1 + 1 else H.1) ≤ n + 1
    split <;> omega
  · show (if i = h then hgt H h + 1 else H.2.1 i) ≤ n + 1
    by_cases c : i = h
    · rw [if_pos c]; omega
    · rw [if_neg c]
      have : i < H.1 := by
        have hi' : i < (if h = H.1 then H.1 + 1 else H.1) := hi
        split at hi' <;> omega
      have := ho.2.1 i this
      omega
  · show (if i = h ∧ k = hgt H h then p else H.2.2 i k) < N
    have hk' : k < (if i = h then hgt H h + 1 else H.2.1 i) := hk
    have hi' : i < (if h = H.1 then H.1 + 1 else H.1) := hi
    by_cases c : i = h
    · rw [if_pos c] at hk'
      by_cases c2 : k = hgt H h
      · rw [if_pos ⟨c, c2⟩]; exact hp
      · rw [if_neg (fun q => c2 q.2)]
        have c3 : k < hgt H h := by omega
        have c4 : h < H.1 := by
          rcases Nat.lt_or_ge h H.1 with q | q
          · exact q
          · rw [hgt_ge (by omega)] at c3; omega
        rw [hgt_lt c4] at c3
        subst c
        exact ho.2.2 i k c4 c3
    · rw [if_neg c] at hk'
      rw [if_neg (fun q => c q.1)]
      exact ho.2.2 i k (by split at hi' <;> omega) hk'
theorem hoA.fr {cm cf ch cr : Nat} {σ τ : Mem} {H : HP} {F : Nat → Nat → Prop} (h : hoA cm cf ch cr σ H) (k : Kp F σ τ) (f1 : ¬ F cm cf) (f2 : ∀ i, ¬ F ch i) (f3 : ∀ i, ¬ F cr i) : hoA cm cf ch cr τ H :=
  ⟨by rw [k.2.2.2 _ _ f1]; exact h.1, fun i hi => by rw [k.2.2.2 _ _ (f2 i)]; exact h.2.1 i hi, fun i j hi hj => by rw [k.2.2.2 _ _ (f3 _)]; exact h.2.2 i j hi hj⟩
section HeapC
variable {τ : Mem} {H : HP} {N n h p : Nat}
theorem has_ok_15 {Q : Int32 → Mem → Prop} (hH : hoA 15 2 17 16 τ H) (ho : okH N n H) (hn : n ≤ 8) (hh : h < H.1) (hq : Q 1 τ) : w_X1_has_15 τ (nI h) Q := by
  have h1 := ho.1
  have e1 := hH.1
  unfold w_X1_has_15
  simp (disch := omega) only [mI_sI_s, k_lt, k_nlt, k_le, k_nle, k_eq, k_neq, k_ltm, k_nltm, k_lem, k_nlem, k_eqm, k_eqm2, k_cl, k_in, nI_add, k_sub, k_m1, k_mul, mT_sI, mP_sI, true_and, and_true, true_implies, false_implies, not_true_eq_false, not_false_eq_true, implies_true, forall_eq, Option.some.injEq, exists_eq_left', exists_eq_left, ite_true, ite_false, if_true, if_false, Prod.mk.injEq, eq_self, and_self, not_true, not_false_iff, lit_0, lit_1, lit_2, lit_3, lit_4, lit_5, lit_6, lit_7, lit_8, lit_9, lit_10, lit_11, lit_12, lit_13, lit_14, lit_15, lit_16, lit_17, lit_18, lit_40, lit_50, lit_99, lit_100, lit_160, lit_170, lit_255, lit_793, lit_1000, e1]
  exact hq
theorem hgt_ok_15 {Q : Int32 → Mem → Prop} (hH : hoA 15 2 17 16 τ H) (ho : okH N n H) (hn : n ≤ 8) (hh : h ≤ H.1) (hq : Q (nI (hgt H h)) τ) : w_X1_heightOf_15 τ (nI h) Q := by
  have h1 := ho.1
  have e1 := hH.1
  unfold w_X1_heightOf_15
  by_cases c : h < H.1
  · have e2 := hH.2.1 h c
    rw [hgt_lt c] at hq
    simp (disch := omega) only [mI_sI_s, k_lt, k_nlt, k_le, k_nle, k_eq, k_neq, k_ltm, k_nltm, k_lem, k_nlem, k_eqm, k_eqm2, k_cl, k_in, nI_add, k_sub, k_m1, k_mul, mT_sI, mP_sI, true_and, and_true, true_implies, false_implies, not_true_eq_false, not_false_eq_true, implies_true, forall_eq, Option.some.injEq, exists_eq_left', exists_eq_left, ite_true, ite_false, if_true, if_false, Prod.mk.injEq, eq_self, and_self, not_true, not_false_iff, lit_0, lit_1, lit_2, lit_3, lit_4, lit_5, lit_6, lit_7, lit_8, lit_9, lit_10, lit_11, lit_12, lit_13, lit_14, lit_15, lit_16, lit_17, lit_18, lit_40, lit_50, lit_99, lit_100, lit_160, lit_170, lit_255, lit_793, lit_1000, e1, e2]
    exact hq
  · rw [hgt_ge c] at hq
    simp (disch := omega) only [mI_sI_s, k_lt, k_nlt, k_le, k_nle, k_eq, k_neq, k_ltm, k_nltm, k_lem, k_nlem, k_eqm, k_eqm2, k_cl, k_in, nI_add, k_sub, k_m1, k_mul, mT_sI, mP_sI, true_and, and_true, true_implies, false_implies, not_true_eq_false, not_false_eq_true, implies_true, forall_eq, Option.some.injEq, exists_eq_left', exists_eq_left, ite_true, ite_false, if_true, if_false, Prod.mk.injEq, eq_self, and_self, not_true, not_false_iff, lit_0, lit_1, lit_2, lit_3, lit_4, lit_5, lit_6, lit_7, lit_8, lit_9, lit_10, lit_11, lit_12, lit_13, lit_14, lit_15, lit_16, lit_17, lit_18, lit_40, lit_50, lit_99, lit_100, lit_160, lit_170, lit_255, lit_793, lit_1000, e1]
    exact hq
theorem top_ok_15 {Q : Int32 → Mem → Prop} (hH : hoA 15 2 17 16 τ H) (ho : okH N n H) (hn : n ≤ 8) (hh : h ≤ H.1) (hq : Q (topI H h) τ) : w_X1_topOf_15 τ (nI h) Q := by
  have h1 := ho.1
  have h2 := ho.hg h
  unfold w_X1_topOf_15
  refine hgt_ok_15 hH ho hn hh ?_
  unfold topI at hq
  by_cases c : 0 < hgt H h
  · rw [if_pos c] at hq
    have c2 : h < H.1 := by
      rcases Nat.lt_or_ge h H.1 with q | q
      · exact q
      · rw [hgt_ge (by omega)] at c; omega
    have e3 : nI h * 8 + nI (hgt H h) - 1 = nI (8 * h + (hgt H h - 1)) := by
      rw [show (8 : Int32) = nI 8 from rfl, show (1 : Int32) = nI 1 from rfl, k_mul, nI_add, k_sub (by omega)]
      congr 1
      omega
    rw [e3]
    have e4 : mI τ 16 (8 * h + (hgt H h - 1)) = nI (topA H h) := by
      have := hH.2.2 h (hgt H h - 1) c2 (by rw [hgt_lt c2] at c ⊢; omega)
      exact this
    simp (disch := omega) only [mI_sI_s, k_lt, k_nlt, k_le, k_nle, k_eq, k_neq, k_ltm, k_nltm, k_lem, k_nlem, k_eqm, k_eqm2, k_cl, k_in, nI_add, k_sub, k_m1, k_mul, mT_sI, mP_sI, true_and, and_true, true_implies, false_implies, not_true_eq_false, not_false_eq_true, implies_true, forall_eq, Option.some.injEq, exists_eq_left', exists_eq_left, ite_true, ite_false, if_true, if_false, Prod.mk.injEq, eq_self, and_self, not_true, not_false_iff, lit_0, lit_1, lit_2, lit_3, lit_4, lit_5, lit_6, lit_7, lit_8, lit_9, lit_10, lit_11, lit_12, lit_13, lit_14, lit_15, lit_16, lit_17, lit_18, lit_40, lit_50, lit_99, lit_100, lit_160, lit_170, lit_255, lit_793, lit_1000, e4]
    exact hq
  · rw [if_neg c] at hq
    have c2 : hgt H h = 0 := by omega
    simp (disch := omega) only [mI_sI_s, k_lt, k_nlt, k_le, k_nle, k_eq, k_neq, k_ltm, k_nltm, k_lem, k_nlem, k_eqm, k_eqm2, k_cl, k_in, nI_add, k_sub, k_m1, k_mul, mT_sI, mP_sI, true_and, and_true, true_implies, false_implies, not_true_eq_false, not_false_eq_true, implies_true, forall_eq, Option.some.injEq, exists_eq_left', exists_eq_left, ite_true, ite_false, if_true, if_false, Prod.mk.injEq, eq_self, and_self, not_true, not_false_iff, lit_0, lit_1, lit_2, lit_3, lit_4, lit_5, lit_6, lit_7, lit_8, lit_9, lit_10, lit_11, lit_12, lit_13, lit_14, lit_15, lit_16, lit_17, lit_18, lit_40, lit_50, lit_99, lit_100, lit_160, lit_170, lit_255, lit_793, lit_1000, c2]
    exact hq
theorem has_ok_9 {Q : Int32 → Mem → Prop} (hH : hoA 9 2 11 10 τ H) (ho : okH N n H) (hn : n ≤ 8) (hh : h < H.1) (hq : Q 1 τ) : w_X1_has_9 τ (nI h) Q := by
  have h1 := ho.1
  have e1 := hH.1
  unfold w_X1_has_9
  simp (disch := omega) only [mI_sI_s, k_lt, k_nlt, k_le, k_nle, k_eq, k_neq, k_ltm, k_nltm, k_lem, k_nlem, k_eqm, k_eqm2, k_cl, k_in, nI_add, k_sub, k_m1, k_mul, mT_sI, mP_sI, true_and, and_true, true_implies, false_implies, not_true_eq_false, not_false_eq_true, implies_true, forall_eq, Option.some.injEq, exists_eq_left', exists_eq_left, ite_true, ite_false, if_true, if_false, Prod.mk.injEq, eq_self, and_self, not_true, not_false_iff, lit_0, lit_1, lit_2, lit_3, lit_4, lit_5, lit_6, lit_7, lit_8, lit_9, lit_10, lit_11, lit_12, lit_13, lit_14, lit_15, lit_16, lit_17, lit_18, lit_40, lit_50, lit_99, lit_100, lit_160, lit_170, lit_255, lit_793, lit_1000, e1]
  exact hq
theorem hgt_ok_9 {Q : Int32 → Mem → Prop} (hH : hoA 9 2 11 10 τ H) (ho : okH N n H) (hn : n ≤ 8) (hh : h ≤ H.1) (hq : Q (nI (hgt H h)) τ) : w_X1_heightOf_9 τ (nI h) Q := by
  have h1 := ho.1
  have e1 := hH.1
  unfold w_X1_heightOf_9
  by_cases c : h < H.1
  · have e2 := hH.2.1 h c
    rw [hgt_lt c] at hq
    simp (disch := omega) only [mI_sI_s, k_lt, k_nlt, k_le, k_nle, k_eq, k_neq, k_ltm, k_nltm, k_lem, k_nlem, k_eqm, k_eqm2, k_cl, k_in, nI_add, k_sub, k_m1, k_mul, mT_sI, mP_sI, true_and, and_true, true_implies, false_implies, not_true_eq_false, not_false_eq_true, implies_true, forall_eq, Option.some.injEq, exists_eq_left', exists_eq_left, ite_true, ite_false, if_true, if_false, Prod.mk.injEq, eq_self, and_self, not_true, not_false_iff, lit_0, lit_1, lit_2, lit_3, lit_4, lit_5, lit_6, lit_7, lit_8, lit_9, lit_10, lit_11, lit_12, lit_13, lit_14, lit_15, lit_16, lit_17, lit_18, lit_40, lit_50, lit_99, lit_100, lit_160, lit_170, lit_255, lit_793, lit_1000, e1, e2]
    exact hq
  · rw [hgt_ge c] at hq
    simp (disch := omega) only [mI_sI_s, k_lt, k_nlt, k_le, k_nle, k_eq, k_neq, k_ltm, k_nltm, k_lem, k_nlem, k_eqm, k_eqm2, k_cl, k_in, nI_add, k_sub, k_m1, k_mul, mT_sI, mP_sI, true_and, and_true, true_implies, false_implies, not_true_eq_false, not_false_eq_true, implies_true, forall_eq, Option.some.injEq, exists_eq_left', exists_eq_left, ite_true, ite_false, if_true, if_false, Prod.mk.injEq, eq_self, and_self, not_true, not_false_iff, lit_0, lit_1, lit_2, lit_3, lit_4, lit_5, lit_6, lit_7, lit_8, lit_9, lit_10, lit_11, lit_12, lit_13, lit_14, lit_15, lit_16, lit_17, lit_18, lit_40, lit_50, lit_99, lit_100, lit_160, lit_170, lit_255, lit_793, lit_1000, e1]
    exact hq
theorem top_ok_9 {Q : Int32 → Mem → Prop} (hH : hoA 9 2 11 10 τ H) (ho : okH N n H) (hn : n ≤ 8) (hh : h ≤ H.1) (hq : Q (topI H h) τ) : w_X1_topOf_9 τ (nI h) Q := by
  have h1 := ho.1
  have h2 := ho.hg h
  unfold w_X1_topOf_9
  refine hgt_ok_9 hH ho hn hh ?_
  unfold topI at hq
  by_cases c : 0 < hgt H h
  · rw [if_pos c] at hq
    have c2 : h < H.1 := by
      rcases Nat.lt_or_ge h H.1 with q | q
      · exact q
      · rw [hgt_ge (by omega)] at c; omega
    have e3 : nI h * 8 + nI (hgt H h) - 1 = nI (8 * h + (hgt H h - 1)) := by
      rw [show (8 : Int32) = nI 8 from rfl, show (1 : Int32) = nI 1 from rfl, k_mul, nI_add, k_sub (by omega)]
      congr 1
      omega
    rw [e3]
    have e4 : mI τ 10 (8 * h + (hgt H h - 1)) = nI (topA H h) := by
      have := hH.2.2 h (hgt H h - 1) c2 (by rw [hgt_lt c2] at c ⊢; omega)
      exact this
    simp (disch := omega) only [mI_sI_s, k_lt, k_nlt, k_le, k_nle, k_eq, k_neq, k_ltm, k_nltm, k_lem, k_nlem, k_eqm, k_eqm2, k_cl, k_in, nI_add, k_sub, k_m1, k_mul, mT_sI, mP_sI, true_and, and_true, true_implies, false_implies, not_true_eq_false, not_false_eq_true, implies_true, forall_eq, Option.some.injEq, exists_eq_left', exists_eq_left, ite_true, ite_false, if_true, if_false, Prod.mk.injEq, eq_self, and_self, not_true, not_false_iff, lit_0, lit_1, lit_2, lit_3, lit_4, lit_5, lit_6, lit_7, lit_8, lit_9, lit_10, lit_11, lit_12, lit_13, lit_14, lit_15, lit_16, lit_17, lit_18, lit_40, lit_50, lit_99, lit_100, lit_160, lit_170, lit_255, lit_793, lit_1000, e4]
    exact hq
  · rw [if_neg c] at hq
    have c2 : hgt H h = 0 := by omega
    simp (disch := omega) only [mI_sI_s, k_lt, k_nlt, k_le, k_nle, k_eq, k_neq, k_ltm, k_nltm, k_lem, k_nlem, k_eqm, k_eqm2, k_cl, k_in, nI_add, k_sub, k_m1, k_mul, mT_sI, mP_sI, true_and, and_true, true_implies, false_implies, not_true_eq_false, not_false_eq_true, implies_true, forall_eq, Option.some.injEq, exists_eq_left', exists_eq_left, ite_true, ite_false, if_true, if_false, Prod.mk.injEq, eq_self, and_self, not_true, not_false_iff, lit_0, lit_1, lit_2, lit_3, lit_4, lit_5, lit_6, lit_7, lit_8, lit_9, lit_10, lit_11, lit_12, lit_13, lit_14, lit_15, lit_16, lit_17, lit_18, lit_40, lit_50, lit_99, lit_100, lit_160, lit_170, lit_255, lit_793, lit_1000, c2]
    exact hq
end HeapC
theorem name_ok {τ : Mem} {p : Nat} {a b c d s1 s2 : Int32} {Q : Mem → Prop} (hp : p < 8) (e1 : mI τ 38 p = s1) (e2 : mI τ 39 p = s2) (hq : ∀ τ', Kp (fun x _ => x = 50) τ τ' → (∀ j, j < 6 → mI τ' 50 j = nm6 s1 a s2 b c d j) → Q τ') : w_X12_name τ (nI p) a b c d Q := by
  have vp : vp_in (nI p) 8 := vp_in_nI (by omega) (by omega)
  unfold w_X12_name
  rw [k_cl (by omega), e1, e2]
  refine ⟨vp, fun v1 h1 => ⟨vp, fun v2 h2 => ?_⟩⟩
  subst h1
  subst h2
  refine hq _ (by repeat (first | exact Kp.rf | refine Kp.sI ?_ _ (by first | exact rfl | omega | (dsimp only; omega)))) (fun j hj => ?_)
  rcases j with _ | _ | _ | _ | _ | _ | j
  · simp [mI_sI, nm6]
  · simp [mI_sI, nm6]
  · simp [mI_sI, nm6]
  · simp [mI_sI, nm6]
  · simp [mI_sI, nm6]
  · simp [mI_sI, nm6]
  · omega
theorem bounded_ok {τ : Mem} {v : Int32} {Q : Int32 → Mem → Prop} (hq : Q (nI (bdA v)) τ) : w_X11_bounded τ v Q := by
  unfold w_X11_bounded
  unfold bdA at hq
  by_cases c1 : v < 0
  · rw [if_pos c1] at hq
    have c2 : v < 99 := Int32.lt_trans c1 (by decide)
    rw [if_pos c2, if_neg (Int32.not_lt.mpr (Int32.le_of_lt c1))]
    exact hq
  · rw [if_neg c1] at hq
    obtain ⟨j, hj, rfl⟩ := nI_of c1
    rw [k_cl (by omega)] at hq
    by_cases c2 : 99 < nI j
    · rw [if_pos c2] at hq
      have c3 : ¬ nI j < 99 := Int32.not_lt.mpr (Int32.le_of_lt c2)
      rw [if_neg c3]
      exact hq
    · rw [if_neg c2] at hq
      by_cases c3 : nI j < 99
      · rw [if_pos c3]
        have e := mx0 (a := j) (by omega)
        rw [e]; exact hq
      · have : nI j = 99 := Int32.le_antisymm (Int32.not_lt.mp c2) (Int32.not_lt.mp c3)
        rw [if_neg c3]
        rw [this] at hq
        exact hq
theorem bound_ok {τ : Mem} {v : Int32} {Q : Int32 → Mem → Prop} (hq : Q (nI (bdA v)) τ) : w_X12_bound τ v Q := by
  unfold w_X12_bound
  unfold bdA at hq
  by_cases c1 : v < 0
  · rw [if_pos c1] at hq
    have c2 : ¬ 0 ≤ v := Int32.not_le.mpr c1
    exact ⟨fun c => absurd c c2, fun _ => hq⟩
  · rw [if_neg c1] at hq
    have c2 : 0 ≤ v := Int32.not_lt.mp c1
    refine ⟨fun _ => ⟨fun c => ?_, fun c => ?_⟩, fun c => absurd c2 c⟩
    · rw [if_neg (Int32.not_lt.mpr c)] at hq
      obtain ⟨j, hj, rfl⟩ := nI_of c1
      rw [k_cl (by omega)] at hq
      exact hq
    · rw [if_pos (Int32.not_le.mp c)] at hq
      exact hq
theorem bdA_le (v : Int32) : bdA v ≤ 99 := by
  unfold bdA
  by_cases c1 : v < 0
  · rw [if_pos c1]; omega
  · rw [if_neg c1]
    by_cases c2 : 99 < v
    · rw [if_pos c2]; omega
    · rw [if_neg c2]
      obtain ⟨j, hj, rfl⟩ := nI_of c1
      rw [k_cl (by omega)]
      rw [show (99 : Int32) = nI 99 from rfl, nI_ltI (by omega) (by omega)] at c2
      omega
