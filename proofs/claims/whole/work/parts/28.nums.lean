/-! STAGE 2: rules for small numbers, for a rewriter that asks omega -/
theorem k_lt {a b : Nat} (h : a < b) (hb : b < 2147483648) : (nI a < nI b) = True := eq_true (nI_lt h hb)
theorem k_nlt {a b : Nat} (h : b ≤ a) (hb : a < 2147483648) : (nI a < nI b) = False := eq_false (nI_nlt h hb)
theorem k_le {a b : Nat} (h : a ≤ b) (hb : b < 2147483648) : (nI a ≤ nI b) = True := eq_true (nI_le h hb)
theorem k_nle {a b : Nat} (h : b < a) (hb : a < 2147483648) : (nI a ≤ nI b) = False := eq_false (nI_ge h hb)
theorem k_eq {a b : Nat} (h : a = b) : (nI a = nI b) = True := eq_true (by rw [h])
theorem k_neq {a b : Nat} (h : ¬ a = b) (ha : a < 2147483648) (hb : b < 2147483648) : (nI a = nI b) = False := eq_false (fun q => h ((nI_eq ha hb).mp q))
theorem k_neg1 : (-nI 1).toInt = -1 := by decide
theorem k_ltm {a : Nat} (ha : a < 2147483648) : (-nI 1 < nI a) = True := eq_true (by rw [fa_lt, k_neg1, nI_toInt ha]; omega)
theorem k_nltm {a : Nat} (ha : a < 2147483648) : (nI a < -nI 1) = False := eq_false (by rw [fa_lt, k_neg1, nI_toInt ha]; omega)
theorem k_lem {a : Nat} (ha : a < 2147483648) : (-nI 1 ≤ nI a) = True := eq_true (by rw [fa_le, k_neg1, nI_toInt ha]; omega)
theorem k_nlem {a : Nat} (ha : a < 2147483648) : (nI a ≤ -nI 1) = False := eq_false (by rw [fa_le, k_neg1, nI_toInt ha]; omega)
theorem k_eqm {a : Nat} (ha : a < 2147483648) : (nI a = -nI 1) = False := eq_false (by rw [fa_eq, k_neg1, nI_toInt ha]; omega)
theorem k_eqm2 {a : Nat} (ha : a < 2147483648) : (-nI 1 = nI a) = False := eq_false (by rw [fa_eq, k_neg1, nI_toInt ha]; omega)
theorem k_cl {a : Nat} (ha : a < 2147483648) : (nI a).toNatClampNeg = a := nI_clamp ha
theorem k_in {a n : Nat} (h : a < n) (hn : n < 2147483648) : vp_in (nI a) n = True := eq_true (vp_in_nI h hn)
theorem k_sub {a b : Nat} (h : b ≤ a) : nI a - nI b = nI (a - b) := pk_sub h
theorem k_m1 {a : Nat} (h : 0 < a) : nI a + -nI 1 = nI (a - 1) := by
  obtain ⟨m, rfl⟩ : ∃ m, a = m + 1 := ⟨a - 1, by omega⟩
  exact pk_m1 m
theorem k_mul (a b : Nat) : nI a * nI b = nI (a * b) := pk_mul a b
theorem lit_0 : (0 : Int32) = nI 0 := rfl
theorem lit_1 : (1 : Int32) = nI 1 := rfl
theorem lit_2 : (2 : Int32) = nI 2 := rfl
theorem lit_3 : (3 : Int32) = nI 3 := rfl
theorem lit_4 : (4 : Int32) = nI 4 := rfl
theorem lit_5 : (5 : Int32) = nI 5 := rfl
theorem lit_6 : (6 : Int32) = nI 6 := rfl
theorem lit_7 : (7 : Int32) = nI 7 := rfl
theorem lit_8 : (8 : Int32) = nI 8 := rfl
theorem lit_9 : (9 : Int32) = nI 9 := rfl
theorem lit_10 : (10 : Int32) = nI 10 := rfl
theorem lit_11 : (11 : Int32) = nI 11 := rfl
theorem lit_12 : (12 : Int32) = nI 12 := rfl
theorem lit_13 : (13 : Int32) = nI 13 := rfl
theorem lit_14 : (14 : Int32) = nI 14 := rfl
theorem lit_15 : (15 : Int32) = nI 15 := rfl
theorem lit_16 : (16 : Int32) = nI 16 := rfl
theorem lit_17 : (17 : Int32) = nI 17 := rfl
theorem lit_18 : (18 : Int32) = nI 18 := rfl
theorem lit_40 : (40 : Int32) = nI 40 := rfl
theorem lit_50 : (50 : Int32) = nI 50 := rfl
theorem lit_99 : (99 : Int32) = nI 99 := rfl
theorem lit_100 : (100 : Int32) = nI 100 := rfl
theorem lit_160 : (160 : Int32) = nI 160 := rfl
theorem lit_170 : (170 : Int32) = nI 170 := rfl
theorem lit_255 : (255 : Int32) = nI 255 := rfl
theorem lit_793 : (793 : Int32) = nI 793 := rfl
theorem lit_1000 : (1000 : Int32) = nI 1000 := rfl
theorem k_in0 {n : Nat} (h : 0 < n) (hn : n < 2147483648) : vp_in 0 n = True := eq_true (vp_in_nI (n := 0) h hn)
/-- every number is a small one, or below 0 -/
theorem k_any (x : Int32) : x < 0 ∨ ∃ j : Nat, j < 2147483648 ∧ x = nI j := by
  by_cases h : x < 0
  · exact Or.inl h
  · obtain ⟨j, h1, h2⟩ := nI_of h
    exact Or.inr ⟨j, h1, h2⟩
