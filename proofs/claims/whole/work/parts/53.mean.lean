/-! STAGE 2: the mean -/
theorem vis_le {M : Nat} {sm : Bool} {o : Nat → Nat} {A : AC} : fb_sm A.1 9 ≤ fb_sm (visM M sm o A).1 9 ∧ fb_sm (visM M sm o A).1 9 ≤ fb_sm A.1 9 + 1 := by
  show fb_sm A.1 9 ≤ fb_sm (fun h => if h = M then A.1 M + 1 else A.1 h) 9 ∧ fb_sm (fun h => if h = M then A.1 M + 1 else A.1 h) 9 ≤ fb_sm A.1 9 + 1
  rcases Nat.lt_or_ge M 9 with h | h
  · have := fb_sm_upd A.1 (A.1 M + 1) h
    omega
  · rw [fb_sm_out A.1 (A.1 M + 1) h]
    omega
theorem goL_bd {f : Nat → AC → AC} {B : Nat} (hf : ∀ p A, fb_sm A.1 9 ≤ fb_sm (f p A).1 9 ∧ fb_sm (f p A).1 9 ≤ fb_sm A.1 9 + B) : ∀ (c p : Nat) (A : AC), fb_sm A.1 9 ≤ fb_sm (goL f c p A).1 9 ∧ fb_sm (goL f c p A).1 9 ≤ fb_sm A.1 9 + c * B
  | 0, p, A => by rw [goL]; omega
  | c + 1, p, A => by
    rw [goL]
    have h1 := goL_bd hf c (p + 1) (f p A)
    have h2 := hf p A
    rw [Nat.add_mul, Nat.one_mul]
    omega
theorem goA_bd {E : EN} {kd nu N : Nat} {bn : Nat → Int32} : ∀ (d k m : Nat) (o : Nat → Nat) (A : AC), fb_sm A.1 9 ≤ fb_sm (goA E kd nu N bn d k m o A).1 9 ∧ fb_sm (goA E kd nu N bn d k m o A).1 9 ≤ fb_sm A.1 9 + N ^ d
  | 0, k, m, o, A => by rw [goA]; exact vis_le
  | d + 1, k, m, o, A => by
    rw [goA, Nat.pow_succ, Nat.mul_comm]
    refine goL_bd (fun p A => ?_) N 0 A
    by_cases c : m.testBit p = true
    · rw [if_pos c]; omega
    · rw [if_neg c]; exact goA_bd d (k + 1) _ _ A
theorem goL_one {f : Nat → AC → AC} (hf : ∀ p A, fb_sm A.1 9 ≤ fb_sm (f p A).1 9) : ∀ (c p : Nat) (A : AC) {B : Nat}, (B ≤ fb_sm A.1 9 ∨ (B ≤ fb_sm A.1 9 + 1 ∧ ∃ q, p ≤ q ∧ q < p + c ∧ ∀ A, fb_sm A.1 9 + 1 ≤ fb_sm (f q A).1 9)) → B ≤ fb_sm (goL f c p A).1 9
  | 0, p, A, B, h => by
    rw [goL]
    rcases h with h | ⟨-, q, h1, h2, -⟩
    · exact h
    · omega
  | c + 1, p, A, B, h => by
    rw [goL]
    have h0 := hf p A
    refine goL_one hf c (p + 1) (f p A) ?_
    rcases h with h | ⟨h4, q, h1, h2, h3⟩
    · exact Or.inl (by omega)
    · by_cases e : q = p
      · subst e; have := h3 A; exact Or.inl (by omega)
      · exact Or.inr ⟨by omega, q, by omega, by omega, h3⟩
theorem goA_one {E : EN} {kd nu N : Nat} {bn : Nat → Int32} (hN : N ≤ 6) : ∀ (d k m : Nat) (o : Nat → Nat) (A : AC), k + d = N → msk N k m o → fb_sm A.1 9 + 1 ≤ fb_sm (goA E kd nu N bn d k m o A).1 9
  | 0, k, m, o, A, hd, hm => by
    rw [goA]
    have e : k = N := by omega
    subst e
    obtain ⟨okA, -⟩ := laA_ok (E := E) (kd := kd) (nu := nu) (n := k) hm.2.2.2.1 k (Nat.le_refl _)
    have h1 := okA.1
    have := (sm_vis (A := A) (sm := smA E kd nu k bn o) (o := o) (M := (laA E kd nu o k).1.1) (by omega)).1
    omega
  | d + 1, k, m, o, A, hd, hm => by
    rw [goA]
    obtain ⟨q, hq1, hq2⟩ := hm.ex (by omega)
    refine goL_one (fun p A => ?_) N 0 A (Or.inr ⟨Nat.le_refl _, q, by omega, by omega, fun A => ?_⟩)
    · by_cases c : m.testBit p = true
      · rw [if_pos c]; exact Nat.le_refl _
      · rw [if_neg c]; exact (goA_bd d (k + 1) _ _ A).1
    · rw [if_neg hq2]
      exact goA_one hN d (k + 1) _ _ A (by omega) (hm.up hN hq1 hq2)
theorem ordA_bd {E : EN} {kd nu N : Nat} (hN : N ≤ 6) : 1 ≤ fb_sm (ordA E kd nu N).1 9 ∧ fb_sm (ordA E kd nu N).1 9 ≤ 46656 := by
  have z : fb_sm A0.1 9 = 0 := rfl
  have h1 := goA_one (E := E) (kd := kd) (nu := nu) (bn := fun p => laB E kd nu (fun j => j) p) hN N 0 0 (fun _ => 0) A0 (by omega) (msk.zero N _)
  have h2 := (goA_bd (E := E) (kd := kd) (nu := nu) (N := N) (bn := fun p => laB E kd nu (fun j => j) p) N 0 0 (fun _ => 0) A0).2
  have h3 : N ^ N ≤ 46656 := by
    have : N = 0 ∨ N = 1 ∨ N = 2 ∨ N = 3 ∨ N = 4 ∨ N = 5 ∨ N = 6 := by omega
    rcases this with rfl | rfl | rfl | rfl | rfl | rfl | rfl <;> decide
  unfold ordA
  omega
theorem sm8 {f : Nat → Nat} : ∀ n, n ≤ 9 → fb_sm (fun h => h * f h) n ≤ 8 * fb_sm f n
  | 0, _ => Nat.le_refl _
  | n + 1, h => by
    have := sm8 (f := f) n (by omega)
    rw [fb_sm_succ, fb_sm_succ, Nat.mul_add]
    have : n * f n ≤ 8 * f n := Nat.mul_le_mul_right _ (by omega)
    omega
theorem mod_half {x y : Nat} (h0 : 0 < y) (h : y ≤ x) : 2 * (x % y) < x + 1 := by
  have h1 := Nat.mod_lt x h0
  have h2 := Nat.div_add_mod x y
  have h3 : 1 ≤ x / y := Nat.div_pos h h0
  have h4 : y * 1 ≤ y * (x / y) := Nat.mul_le_mul_left _ h3
  omega
theorem sdC {Q : Int64 → Mem → Prop} {σ : Mem} : ∀ (k a b i fu : Nat), b < 2 ^ k → i + 2 * k + 1 ≤ 100 → 2 * k + 2 ≤ fu → a < 2147483648 → b < 2147483648 → Q (lN (Nat.gcd b a)) σ → w_X11_sharedDivisor_3 Q fu (lN a) (lN b) (nI i) σ := by
  intro k
  induction k with
  | zero =>
    intro a b i fu hb hi hf ha hb2 hq
    obtain ⟨fu', rfl⟩ : ∃ f, fu = f + 1 := ⟨fu - 1, by omega⟩
    have e : b = 0 := by omega
    subst e
    rw [w_X11_sharedDivisor_3]
    have nle : ¬ (100 : Int32) ≤ nI i := fun z => of_eq_false (k_nle (a := 100) (b := i) (by omega) (by omega)) z
    rw [Nat.gcd_zero_left] at hq
    refine ⟨fun z => absurd z nle, fun _ => ⟨fun _ => hq, fun z => absurd rfl z⟩⟩
  | succ k ih =>
    intro a b i fu hb hi hf ha hb2 hq
    have nz : ∀ b, b < 2147483648 → ((lg_cmp (lN b) 0 = 0 ∧ b = 0) ∨ (¬ lg_cmp (lN b) 0 = 0 ∧ ¬ lN b = 0 ∧ 0 < b)) := by
      intro b hb
      have e0 : (0 : Int64) = lN 0 := rfl
      rcases Nat.eq_zero_or_pos b with rfl | hp
      · exact Or.inl ⟨rfl, rfl⟩
      · refine Or.inr ⟨?_, ?_, hp⟩
        · unfold lg_cmp
          have : (lN b > 0) := by rw [e0]; exact (lN_lt (by omega) (by omega)).mpr hp
          rw [if_pos this]; decide
        · rw [e0, lN_eq (by omega) (by omega)]; omega
    obtain ⟨fu', rfl⟩ : ∃ f, fu = f + 2 := ⟨fu - 2, by omega⟩
    have nle : ∀ j, j < 100 → ¬ (100 : Int32) ≤ nI j := fun j hj z => of_eq_false (k_nle (a := 100) (b := j) (by omega) (by omega)) z
    rw [w_X11_sharedDivisor_3]
    refine ⟨fun z => absurd z (nle i (by omega)), fun _ => ?_⟩
    rcases nz b hb2 with ⟨z1, z2⟩ | ⟨z1, z2, z3⟩
    · subst z2
      rw [Nat.gcd_zero_left] at hq
      exact ⟨fun _ => hq, fun z => absurd z1 z⟩
    · refine ⟨fun z => absurd z z1, fun _ => ⟨z2, ?_⟩⟩
      rw [pk_lRem (by omega) z3 (by omega), show nI i + 1 = nI (i + 1) from nI_add i 1]
      have hr := Nat.mod_lt a z3
      rw [Nat.gcd_rec] at hq
      rw [w_X11_sharedDivisor_3]
      refine ⟨fun z => absurd z (nle (i + 1) (by omega)), fun _ => ?_⟩
      rcases nz (a % b) (by omega) with ⟨y1, y2⟩ | ⟨y1, y2, y3⟩
      · rw [y2, Nat.gcd_zero_left] at hq
        exact ⟨fun _ => hq, fun z => absurd y1 z⟩
      · refine ⟨fun z => absurd z y1, fun _ => ⟨y2, ?_⟩⟩
        rw [pk_lRem (by omega) y3 (by omega), show nI (i + 1) + 1 = nI (i + 1 + 1) from nI_add (i + 1) 1]
        have hh := mod_half y3 (Nat.le_of_lt hr)
        rw [Nat.gcd_rec] at hq
        refine ih (a % b) (b % (a % b)) (i + 1 + 1) fu' ?_ (by omega) (by omega) (by omega) (by omega) hq
        rw [Nat.pow_succ] at hb
        omega
theorem sdM {Q : Int32 → Mem → Prop} {σ : Mem} : ∀ (k a b fu : Nat), b < 2 ^ k → 2 * k + 2 ≤ fu → a < 2147483648 → b < 2147483648 → Q (nI (Nat.gcd b a)) σ → w_X12_divisor_4 Q fu (nI a) (nI b) σ := by
  intro k
  induction k with
  | zero =>
    intro a b fu hb hf ha hb2 hq
    obtain ⟨fu', rfl⟩ : ∃ f, fu = f + 1 := ⟨fu - 1, by omega⟩
    have e : b = 0 := by omega
    subst e
    rw [w_X12_divisor_4]
    rw [Nat.gcd_zero_left] at hq
    exact ⟨fun _ => hq, fun z => absurd rfl z⟩
  | succ k ih =>
    intro a b fu hb hf ha hb2 hq
    have nz : ∀ b, b < 2147483648 → ((nI b = 0 ∧ b = 0) ∨ (¬ nI b = 0 ∧ 0 < b)) := by
      intro b hb
      rcases Nat.eq_zero_or_pos b with rfl | hp
      · exact Or.inl ⟨rfl, rfl⟩
      · refine Or.inr ⟨?_, hp⟩
        rw [show (0 : Int32) = nI 0 from rfl, nI_eq (by omega) (by omega)]; omega
    obtain ⟨fu', rfl⟩ : ∃ f, fu = f + 2 := ⟨fu - 2, by omega⟩
    rw [w_X12_divisor_4]
    rcases nz b hb2 with ⟨z1, z2⟩ | ⟨z1, z3⟩
    · subst z2
      rw [Nat.gcd_zero_left] at hq
      exact ⟨fun _ => hq, fun z => absurd z1 z⟩
    · refine ⟨fun z => absurd z z1, fun _ => ⟨z1, ?_⟩⟩
      rw [pk_rem (by omega) z3 (by omega)]
      have hr := Nat.mod_lt a z3
      rw [Nat.gcd_rec] at hq
      rw [w_X12_divisor_4]
      rcases nz (a % b) (by omega) with ⟨y1, y2⟩ | ⟨y1, y3⟩
      · rw [y2, Nat.gcd_zero_left] at hq
        exact ⟨fun _ => hq, fun z => absurd y1 z⟩
      · refine ⟨fun z => absurd z y1, fun _ => ⟨y1, ?_⟩⟩
        rw [pk_rem (by omega) y3 (by omega)]
        have hh := mod_half y3 (Nat.le_of_lt hr)
        rw [Nat.gcd_rec] at hq
        refine ih (a % b) (b % (a % b)) fu' ?_ (by omega) (by omega) (by omega) hq
        rw [Nat.pow_succ] at hb
        omega
set_option maxHeartbeats 1000000 in
theorem mn46 {Q : Int64 → Mem → Prop} {σ : Mem} {A : AC} {w : Nat} (hw : w ≤ 1) (h22 : ∀ h, h < 9 → mI σ 22 h = nI (A.1 h)) (hb1 : 1 ≤ fb_sm A.1 9) (hb2 : fb_sm A.1 9 ≤ 46656) (hq : Q (lN ((if w = 0 then fb_sm (fun h => h * A.1 h) 9 else fb_sm A.1 9) / Nat.gcd (fb_sm A.1 9) (fb_sm (fun h => h * A.1 h) 9))) σ) : ∀ (d i : Nat), i + d = 9 → w_X11_mean_46 Q (d + 1) (nI w) (lN (fb_sm (fun h => h * A.1 h) i)) (lN (fb_sm A.1 i)) (nI i) σ := by
  have hs := sm8 (f := A.1) 9 (by omega)
  intro d
  induction d with
  | zero =>
    intro i hd
    have e : i = 9 := by omega
    subst e
    rw [w_X11_mean_46]
    refine ⟨fun _ => ?_, fun z => absurd (show (8 : Int32) < nI 9 by decide) z⟩
    unfold w_X11_sharedDivisor
    have gp : 0 < Nat.gcd (fb_sm A.1 9) (fb_sm (fun h => h * A.1 h) 9) := Nat.gcd_pos_of_pos_left _ (by omega)
    have gl : Nat.gcd (fb_sm A.1 9) (fb_sm (fun h => h * A.1 h) 9) ≤ fb_sm A.1 9 := Nat.gcd_le_left _ (by omega)
    refine ⟨34, sdC 16 _ _ 0 34 (by omega) (by omega) (by omega) (by omega) (by omega) (fun v hv => ?_)⟩
    have e1 : (1 : Int64) = lN 1 := rfl
    have hv' : v = lN (Nat.gcd (fb_sm A.1 9) (fb_sm (fun h => h * A.1 h) 9)) := by
      rw [hv, if_neg]
      rw [e1, lN_lt (by omega) (by omega)]
      omega
    subst hv'
    have nz : ¬ lN (Nat.gcd (fb_sm A.1 9) (fb_sm (fun h => h * A.1 h) 9)) = 0 := by
      rw [show (0 : Int64) = lN 0 from rfl, lN_eq (by omega) (by omega)]; omega
    rw [pk_lDiv (by omega) gp (by omega), pk_lDiv (by omega) gp (by omega)]
    have hc : w = 0 ∨ w = 1 := by omega
    rcases hc with rfl | rfl
    · rw [if_pos rfl] at hq
      exact ⟨fun z => absurd rfl z, fun _ => ⟨nz, hq⟩⟩
    · rw [if_neg (by omega)] at hq
      exact ⟨fun _ => ⟨nz, hq⟩, fun z => absurd z (by decide)⟩
  | succ d ih =>
    intro i hd
    have nlt : ¬ (8 : Int32) < nI i := fun z => of_eq_false (k_nlt (a := 8) (b := i) (by omega) (by omega)) z
    have vp : vp_in (nI i) 9 := vp_in_nI (by omega) (by omega)
    have hp : fb_sm A.1 i + A.1 i ≤ fb_sm A.1 9 := fb_sm_part A.1 (by omega)
    rw [w_X11_mean_46]
    refine ⟨fun z => absurd z nlt, fun _ => ⟨vp, fun v hv => ⟨vp, fun v2 hv2 => ?_⟩⟩⟩
    rw [k_cl (by omega), h22 i (by omega), nI_l (by omega), nI_l (by omega), lN_mul, lN_add] at hv
    rw [k_cl (by omega), h22 i (by omega), nI_l (by omega), lN_add] at hv2
    subst hv
    subst hv2
    rw [show nI i + 1 = nI (i + 1) from nI_add i 1]
    exact ih (i + 1) (by omega)
set_option maxHeartbeats 1000000 in
theorem p_mean (σ : Mem) (x0 x1 : Int32) (h : Rel σ) : w_X11_mean σ x0 x1 (fun r1 s1 => w_X12_mean s1 x0 x1 (fun r2 s2 => r1 = r2 ∧ Rel s2)) := by
  obtain ⟨N, L, T, hx⟩ := h.x
  obtain ⟨E, hE, -, -⟩ := env_ex hx
  have hN := hE.1
  have h53 : ∀ j, j < 8 → mI σ 53 j = nI j := hx.2.2.2.2.2.2.2.2.2.2.1
  obtain ⟨e02, e0, -⟩ := hE.2.2.2.2.2.1 σ Kp.rf
  unfold w_X11_mean w_X12_mean
  rcases lay_cases hx x0 with ⟨c1, c2⟩ | ⟨l, a, kd, nu, hl, hl5, rfl, hkd, ht, htM, d1, d2, -⟩
  · exact c1 _ σ Kp.rf ⟨fun _ => c2 _ σ Kp.rf ⟨fun _ => ⟨rfl, h⟩, fun c => absurd rfl c⟩, fun r hr => (by cases hr)⟩
  · refine d1 _ σ Kp.rf ⟨fun c => (by cases c), fun r hr => ?_⟩
    cases hr
    by_cases cx : 0 ≤ x1 ∧ x1 ≤ 1
    · obtain ⟨w, hw, rfl⟩ := nI_of2 (M := 1) (n := 1) (by decide) (Int32.not_lt.mpr cx.1) cx.2
      refine ⟨fun z => absurd cx.1 (Int32.not_le.mpr z), fun _ => ⟨fun z => absurd cx.2 (Int32.not_le.mpr z), fun _ => ?_⟩⟩
      rw [e02]
      rcases le6 hN with ⟨c6, n6⟩ | ⟨c6, n6⟩
      · obtain ⟨b1, b2⟩ := ordA_bd (E := E) (kd := kd) (nu := nu) n6
        have hs := sm8 (f := (ordA E kd nu N).1) 9 (by omega)
        refine ⟨fun _ => gtC hE n6 hkd ht Kp.rf (fun τ1 k1 ac1 => ⟨10, mn46 (A := ordA E kd nu N) hw ac1.1 b1 b2 ?_ 9 0 (by omega)⟩), fun z => absurd c6 z⟩
        have hk1 : Kp (SC0 σ T) σ τ1 := k1.mono (fun a k q => q.sc)
        refine d2 _ τ1 hk1.s0 ⟨fun c => absurd c (by decide), fun _ => (in_t cx).mpr ⟨fun z => absurd z (by decide), fun _ => ?_⟩⟩
        rw [(hE.2.2.2.2.2.1 τ1 hk1.s0).2.1]
        refine ⟨fun _ => aoM hE n6 hkd hl5 htM hk1.s0 (fun j hj => by rw [FT.n53 hE k1]; exact h53 j hj) (fun τ2 k2 g53 ac2 => ?_), fun z => absurd c6 z⟩
        rw [ac2.2.1, ac2.2.2.1]
        have gp : 0 < Nat.gcd (fb_sm (ordA E kd nu N).1 9) (fb_sm (fun h => h * (ordA E kd nu N).1 h) 9) := Nat.gcd_pos_of_pos_left _ (by omega)
        have gl : Nat.gcd (fb_sm (ordA E kd nu N).1 9) (fb_sm (fun h => h * (ordA E kd nu N).1 h) 9) ≤ fb_sm (ordA E kd nu N).1 9 := Nat.gcd_le_left _ (by omega)
        unfold w_X12_divisor
        refine ⟨34, sdM 16 _ _ 34 (by omega) (by omega) (by omega) (by omega) ?_⟩
        have hR : Rel τ2 := (hx.sc (hk1.tr (k2.mono (fun a k q => FA.sc q))) g53).rel
        have nz : ¬ nI (Nat.gcd (fb_sm (ordA E kd nu N).1 9) (fb_sm (fun h => h * (ordA E kd nu N).1 h) 9)) = 0 := by
          rw [show (0 : Int32) = nI 0 from rfl, nI_eq (by omega) (by omega)]; omega
        rw [ac2.2.1, ac2.2.2.1, pk_div (by omega) gp (by omega), pk_div (by omega) gp (by omega), nI_l (Nat.lt_of_le_of_lt (Nat.div_le_self _ _) (by omega)), nI_l (Nat.lt_of_le_of_lt (Nat.div_le_self _ _) (by omega))]
        have hc : w = 0 ∨ w = 1 := by omega
        rcases hc with rfl | rfl
        · exact ⟨fun z => absurd rfl z, fun _ => ⟨nz, by rw [if_pos rfl], hR⟩⟩
        · exact ⟨fun _ => ⟨nz, by rw [if_neg (by omega)], hR⟩, fun z => absurd z (by decide)⟩
      · refine ⟨fun z => absurd z c6, fun _ => d2 _ σ Kp.rf ⟨fun c => absurd c (by decide), fun _ => (in_t cx).mpr ⟨fun z => absurd z (by decide), fun _ => ?_⟩⟩⟩
        rw [e0]
        exact ⟨fun z => absurd z c6, fun _ => ⟨rfl, h⟩⟩
    · refine ⟨fun z => d2 _ σ Kp.rf ⟨fun c => absurd c (by decide), fun _ => (in_f cx).mpr ⟨fun _ => ⟨rfl, h⟩, fun z => absurd rfl z⟩⟩, fun z => ⟨fun z2 => d2 _ σ Kp.rf ⟨fun c => absurd c (by decide), fun _ => (in_f cx).mpr ⟨fun _ => ⟨rfl, h⟩, fun z => absurd rfl z⟩⟩, fun z2 => absurd ⟨Int32.not_lt.mp z, Int32.not_lt.mp z2⟩ cx⟩⟩
