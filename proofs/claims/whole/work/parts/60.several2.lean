/-! STAGE 2: several -/
theorem pc_uni {m k : Nat} {ms : Nat → Nat} (hd : dj k ms) (hu : ∀ q, q < 8 → (m.testBit q = true ↔ ∃ r, r < k ∧ (ms r).testBit q = true)) : ∀ (d p : Nat), p + d ≤ 8 → pcN m d p = fb_sm (fun r => pcN (ms r) d p) k
  | 0, p, _ => by
    have := fb_sm_const 0 k
    rw [Nat.mul_zero] at this
    exact this.symm
  | d + 1, p, h => by
    have hs : fb_sm (fun r => pcN (ms r) (d + 1) p) k = fb_sm (fun r => if (ms r).testBit p = true then 1 else 0) k + fb_sm (fun r => pcN (ms r) d (p + 1)) k := by
      rw [← fb_sm_add]
      exact fb_sm_cong (fun r hr => by rw [pcN])
    rw [hs, pcN, pc_uni hd hu d (p + 1) (by omega)]
    congr 1
    rcases sm_ind (k := k) (f := fun r => if (ms r).testBit p = true then 1 else 0) (fun r hr => by split <;> omega) (fun r s hr hs h1 h2 => hd r s p hr hs (by
      by_cases c : (ms r).testBit p = true
      · exact c
      · rw [if_neg c] at h1; omega) (by
      by_cases c : (ms s).testBit p = true
      · exact c
      · rw [if_neg c] at h2; omega)) with ⟨h1, h2⟩ | ⟨r, h1, h2, h3⟩
    · rw [h2, if_neg]
      intro z
      obtain ⟨r, hr, hz⟩ := (hu p (by omega)).mp z
      have := h1 r hr
      rw [if_pos hz] at this
      omega
    · rw [h3, if_pos]
      refine (hu p (by omega)).mpr ⟨r, h1, ?_⟩
      by_cases c : (ms r).testBit p = true
      · exact c
      · rw [if_neg c] at h2; omega
theorem nobit {m : Nat} (hm : m < 256) (h : ∀ q, q < 8 → ¬ m.testBit q = true) : m = 0 := by
  rcases Nat.eq_zero_or_pos m with e | e
  · exact e
  · obtain ⟨l1, -, l3⟩ := log8 m hm e
    exact absurd l1 (h _ l3)
set_option maxHeartbeats 1000000 in
theorem cvA {E : EN} {N : Nat} {cv : Nat → Nat} (hN : N ≤ 8) (hsp : ∀ i, i < 2 ^ N → spC E N cv i) : ∀ (k m : Nat), k ≤ 7 → m < 2 ^ N → cv m ≤ k → ∃ ms : Nat → Nat, dj k ms ∧ (∀ r, r < k → cmR (rowR E) (ms r) N 0 none = true) ∧ (∀ r, r < k → ms r < 2 ^ N) ∧ ∀ q, q < 8 → (m.testBit q = true ↔ ∃ r, r < k ∧ (ms r).testBit q = true) := by
  have p8 := pow8 hN
  have zc : cmR (rowR E) 0 N 0 none = true := (cm_nil (R := rowR E) (m := 0) N 0 none (fun q _ _ => by rw [Nat.zero_testBit]; decide)).1
  have zero : ∀ k m, m = 0 → ∃ ms : Nat → Nat, dj k ms ∧ (∀ r, r < k → cmR (rowR E) (ms r) N 0 none = true) ∧ (∀ r, r < k → ms r < 2 ^ N) ∧ ∀ q, q < 8 → (m.testBit q = true ↔ ∃ r, r < k ∧ (ms r).testBit q = true) := by
    intro k m hm
    subst hm
    refine ⟨fun _ => 0, fun r s q _ _ h => (by rw [Nat.zero_testBit] at h; cases h), fun r _ => zc, fun r _ => Nat.two_pow_pos N, fun q _ => ⟨fun z => (by rw [Nat.zero_testBit] at z; cases z), fun ⟨r, _, z⟩ => (by rw [Nat.zero_testBit] at z; cases z)⟩⟩
  intro k
  induction k with
  | zero =>
    intro m hk hm hc
    rcases Nat.eq_zero_or_pos m with e | e
    · exact zero 0 m e
    · have := (hsp m hm).ge.2 e
      omega
  | succ k ih =>
    intro m hk hm hc
    rcases Nat.eq_zero_or_pos m with e | hp
    · exact zero (k + 1) m e
    · by_cases cr : cmR (rowR E) m N 0 none = true
      · refine ⟨fun r => if r = 0 then m else 0, fun r s q _ _ h1 h2 => ?_, fun r _ => ?_, fun r _ => ?_, fun q _ => ⟨fun z => ⟨0, by omega, by dsimp only; rw [if_pos rfl]; exact z⟩, fun ⟨r, _, z⟩ => ?_⟩⟩
        · dsimp only at h1 h2
          by_cases c1 : r = 0
          · by_cases c2 : s = 0
            · omega
            · rw [if_neg c2, Nat.zero_testBit] at h2; cases h2
          · rw [if_neg c1, Nat.zero_testBit] at h1; cases h1
        · dsimp only
          split
          · exact cr
          · exact zc
        · dsimp only
          split
          · exact hm
          · exact Nat.two_pow_pos N
        · dsimp only at z
          by_cases c1 : r = 0
          · rw [if_pos c1] at z; exact z
          · rw [if_neg c1, Nat.zero_testBit] at z; cases z
      · obtain ⟨-, -, h3, -⟩ := (hsp m hm).2.2 hp cr
        rcases h3 with h3 | ⟨s, s1, s2, s3, s4, s5⟩
        · omega
        · obtain ⟨b1, b2⟩ := sub8b m (by omega) s (by omega) s1
          obtain ⟨ms, m1, m2, m3, m4⟩ := ih (m - s) (by omega) (by omega) (by omega)
          have hdis : ∀ r q, r < k → (ms r).testBit q = true → ¬ s.testBit q = true := fun r q hr hq z => by
            have hq8 : q < 8 := by
              rcases Nat.lt_or_ge q 8 with w | w
              · exact w
              · rw [tb_hi (N := 8) (by omega) w] at z; cases z
            have := (m4 q hq8).mpr ⟨r, hr, hq⟩
            rw [b2 q hq8, z] at this
            simp at this
          refine ⟨fun r => if r = 0 then s else ms (r - 1), fun r r' q h1 h2 w1 w2 => ?_, fun r hr => ?_, fun r hr => ?_, fun q hq => ⟨fun z => ?_, fun ⟨r, hr, z⟩ => ?_⟩⟩
          · dsimp only at w1 w2
            by_cases c1 : r = 0
            · by_cases c2 : r' = 0
              · omega
              · rw [if_pos c1] at w1
                rw [if_neg c2] at w2
                exact absurd w1 (hdis (r' - 1) q (by omega) w2)
            · by_cases c2 : r' = 0
              · rw [if_neg c1] at w1
                rw [if_pos c2] at w2
                exact absurd w2 (hdis (r - 1) q (by omega) w1)
              · rw [if_neg c1] at w1
                rw [if_neg c2] at w2
                have := m1 (r - 1) (r' - 1) q (by omega) (by omega) w1 w2
                omega
          · dsimp only
            by_cases c1 : r = 0
            · rw [if_pos c1]; exact s4
            · rw [if_neg c1]; exact m2 (r - 1) (by omega)
          · dsimp only
            by_cases c1 : r = 0
            · rw [if_pos c1]; omega
            · rw [if_neg c1]; exact m3 (r - 1) (by omega)
          · by_cases c : s.testBit q = true
            · exact ⟨0, by omega, by dsimp only; rw [if_pos rfl]; exact c⟩
            · have : (m - s).testBit q = true := by rw [b2 q hq, z]; simp [c]
              obtain ⟨r, hr, hz⟩ := (m4 q hq).mp this
              exact ⟨r + 1, by omega, by dsimp only; rw [if_neg (by omega)]; exact hz⟩
          · dsimp only at z
            by_cases c1 : r = 0
            · rw [if_pos c1] at z
              have : (s &&& m).testBit q = true := by rw [s1]; exact z
              rw [Nat.testBit_and, Bool.and_eq_true] at this
              exact this.2
            · rw [if_neg c1] at z
              have := (m4 q hq).mpr ⟨r - 1, by omega, z⟩
              rw [b2 q hq, Bool.and_eq_true] at this
              exact this.1
set_option maxHeartbeats 1000000 in
theorem cvB {E : EN} {N : Nat} {cv : Nat → Nat} (hN : N ≤ 8) (hsp : ∀ i, i < 2 ^ N → spC E N cv i) : ∀ (k m : Nat) (ms : Nat → Nat), m < 2 ^ N → dj k ms → (∀ r, r < k → cmR (rowR E) (ms r) N 0 none = true) → (∀ r, r < k → ms r < 2 ^ N) → (∀ q, q < 8 → (m.testBit q = true ↔ ∃ r, r < k ∧ (ms r).testBit q = true)) → cv m ≤ k := by
  have p8 := pow8 hN
  intro k
  induction k with
  | zero =>
    intro m ms hm hd hc hb hu
    have e : m = 0 := nobit (by omega) (fun q hq z => by
      obtain ⟨r, hr, -⟩ := (hu q hq).mp z
      omega)
    rw [(hsp m hm).1 e]
    exact Nat.le_refl _
  | succ k ih =>
    intro m ms hm hd hc hb hu
    rcases Nat.eq_zero_or_pos m with e | hp
    · rw [(hsp m hm).1 e]; omega
    · by_cases cr : cmR (rowR E) m N 0 none = true
      · rw [(hsp m hm).2.1 hp cr]; omega
      · obtain ⟨-, -, -, t, ht, htb, hall⟩ := (hsp m hm).2.2 hp cr
        obtain ⟨r0, hr0, h0⟩ := (hu t ht).mp htb
        have hs8 := hb r0 hr0
        have hsub : ms r0 &&& m = ms r0 := by
          apply Nat.eq_of_testBit_eq
          intro q
          rw [Nat.testBit_and]
          rcases Nat.lt_or_ge q 8 with w | w
          · cases hz : (ms r0).testBit q with
            | false => rfl
            | true => rw [(hu q w).mpr ⟨r0, hr0, hz⟩]; rfl
          · rw [tb_hi (N := 8) (m := ms r0) (by omega) w]; rfl
        obtain ⟨b1, b2⟩ := sub8b m (by omega) (ms r0) (by omega) hsub
        have hpos : 0 < ms r0 := by
          rcases Nat.eq_zero_or_pos (ms r0) with z | z
          · rw [z, Nat.zero_testBit] at h0; cases h0
          · exact z
        have hlt : ms r0 < m := by
          rcases Nat.lt_or_ge (ms r0) m with w | w
          · exact w
          · have e : ms r0 = m := by omega
            have := hc r0 hr0
            rw [e] at this
            exact absurd this cr
        have h1 := hall (ms r0) hsub hpos hlt h0 (hc r0 hr0)
        have h2 := ih (m - ms r0) (fun r => if r = r0 then ms k else ms r) (by omega) (fun r s q hr hs w1 w2 => ?_) (fun r hr => ?_) (fun r hr => ?_) (fun q hq => ?_)
        · omega
        · try dsimp only at w1 w2
          by_cases c1 : r = r0
          · by_cases c2 : s = r0
            · omega
            · rw [if_pos c1] at w1
              rw [if_neg c2] at w2
              have := hd k s q (by omega) (by omega) w1 w2
              omega
          · by_cases c2 : s = r0
            · rw [if_neg c1] at w1
              rw [if_pos c2] at w2
              have := hd r k q (by omega) (by omega) w1 w2
              omega
            · rw [if_neg c1] at w1
              rw [if_neg c2] at w2
              exact hd r s q (by omega) (by omega) w1 w2
        · try dsimp only
          split
          · exact hc k (by omega)
          · exact hc r (by omega)
        · try dsimp only
          split
          · exact hb k (by omega)
          · exact hb r (by omega)
        · rw [b2 q hq, Bool.and_eq_true]
          constructor
          · rintro ⟨z1, z2⟩
            obtain ⟨r, hr, hz⟩ := (hu q hq).mp z1
            have hne : r ≠ r0 := fun w => by rw [w] at hz; rw [hz] at z2; cases z2
            by_cases c : r = k
            · refine ⟨r0, by omega, ?_⟩
              try dsimp only
              rw [if_pos rfl, ← c]
              exact hz
            · refine ⟨r, by omega, ?_⟩
              try dsimp only
              rw [if_neg hne]
              exact hz
          · rintro ⟨r, hr, hz⟩
            try dsimp only at hz
            by_cases c : r = r0
            · rw [if_pos c] at hz
              refine ⟨(hu q hq).mpr ⟨k, by omega, hz⟩, ?_⟩
              cases hw : (ms r0).testBit q with
              | false => rfl
              | true =>
                have := hd k r0 q (by omega) hr0 hz hw
                omega
            · rw [if_neg c] at hz
              refine ⟨(hu q hq).mpr ⟨r, by omega, hz⟩, ?_⟩
              cases hw : (ms r0).testBit q with
              | false => rfl
              | true =>
                have := hd r r0 q (by omega) hr0 hz hw
                omega
def uM (ms : Nat → Nat) : Nat → Nat
  | 0 => 0
  | k + 1 => uM ms k ||| ms k
theorem uM_bit {ms : Nat → Nat} {q : Nat} : ∀ k, (uM ms k).testBit q = true ↔ ∃ r, r < k ∧ (ms r).testBit q = true
  | 0 => ⟨fun z => (by rw [uM, Nat.zero_testBit] at z; cases z), fun ⟨r, hr, _⟩ => (by omega)⟩
  | k + 1 => by
    rw [uM, Nat.testBit_or, Bool.or_eq_true, uM_bit k]
    constructor
    · rintro (⟨r, hr, z⟩ | z)
      · exact ⟨r, by omega, z⟩
      · exact ⟨k, by omega, z⟩
    · rintro ⟨r, hr, z⟩
      by_cases c : r = k
      · rw [c] at z; exact Or.inr z
      · exact Or.inl ⟨r, by omega, z⟩
theorem sev_eq {E : EN} {N k : Nat} {cv : Nat → Nat} (hN : N ≤ 8) (hk : k ≤ 7) (hsp : ∀ i, i < 2 ^ N → spC E N cv i) : mxS (fun m => decide (cv m ≤ k)) (fun m => pcN m 8 0) (2 ^ N) 0 0 = gR (rowR E) k N 0 (fun _ => none) := by
  apply Nat.le_antisymm
  · refine mxS_le _ _ _ (fun i _ h2 h3 => ?_) (Nat.zero_le _)
    obtain ⟨ms, m1, m2, m3, m4⟩ := cvA hN hsp k i hk (by omega) (by rw [decide_eq_true_iff] at h3; exact h3)
    rw [pc_8 (by omega) hN, pc_uni m1 m4 N 0 (by omega)]
    exact gR_up N 0 (fun _ => none) ms m1 m2
  · obtain ⟨ms, m1, m2, m3, m4⟩ := gR_ex (R := rowR E) (k := k) N 0 (fun _ => none)
    have lt : ∀ r, r < k → ms r < 2 ^ N := fun r hr => Nat.lt_pow_two_of_testBit _ (fun q hq => by
      cases hb : (ms r).testBit q with
      | false => rfl
      | true => have := m2 r q hr hb; omega)
    have hm : uM ms k < 2 ^ N := Nat.lt_pow_two_of_testBit _ (fun q hq => by
      cases hb : (uM ms k).testBit q with
      | false => rfl
      | true =>
        obtain ⟨r, hr, z⟩ := (uM_bit k).mp hb
        have := m2 r q hr z; omega)
    refine mxS_ge _ _ _ (Or.inr ⟨uM ms k, by omega, by omega, ?_, ?_⟩)
    · rw [decide_eq_true_iff]
      exact cvB hN hsp k (uM ms k) ms hm m1 m3 lt (fun q _ => uM_bit k)
    · rw [pc_8 hm hN, pc_uni m1 (fun q _ => uM_bit k) N 0 (by omega), m4]
      exact Nat.le_refl _
theorem svC {Q : Int32 → Mem → Prop} {τ : Mem} {N k : Nat} {cv : Nat → Nat} (hN : N ≤ 8) (hk : k ≤ 3) (h02 : mI τ 0 2 = nI N) (h24 : ∀ i, i < 2 ^ N → mI τ 24 i = nI (cv i)) (h8 : ∀ i, i < 2 ^ N → cv i ≤ 8) : ∀ (c m most : Nat), m + c = 2 ^ N → most ≤ 8 → Q (nI (mxS (fun m => decide (cv m ≤ k)) (fun m => pcN m 8 0) c m most)) τ → w_X11_several_21 Q (c + 1) (nI k) (nI most) (nI m) τ := by
  have p8 := pow8 hN
  intro c
  induction c with
  | zero =>
    intro m most hc hmo hq
    have e : m = 2 ^ N := by omega
    subst e
    rw [w_X11_several_21, h02, shl8 N hN]
    exact ⟨fun _ => hq, fun z => absurd (Int32.le_refl _) z⟩
  | succ c ih =>
    intro m most hc hmo hq
    have nle : ¬ nI (2 ^ N) ≤ nI m := fun z => of_eq_false (k_nle (a := 2 ^ N) (b := m) (by omega) (by omega)) z
    have e1 : nI m + 1 = nI (m + 1) := nI_add m 1
    have hpc := pc_le8 m 8 0
    have hv8 := h8 m (by omega)
    rw [w_X11_several_21, h02, shl8 N hN]
    unfold w_X11_several_50
    rw [k_cl (by omega), h24 m (by omega), e1]
    rw [mxS] at hq
    refine ⟨fun z => absurd z nle, fun _ => ⟨vp_in_nI (by omega) (by omega), fun z => ?_, fun z => ?_⟩⟩
    · have z' : ¬ cv m ≤ k := fun w => absurd z (fun z => of_eq_false (k_nlt (a := k) (b := cv m) w (by omega)) z)
      rw [if_neg (by rw [decide_eq_true_iff]; exact z')] at hq
      exact ih (m + 1) most (by omega) hmo hq
    · have z' : cv m ≤ k := by
        rcases Nat.lt_or_ge k (cv m) with w | w
        · exact absurd (nI_lt w (by omega)) z
        · exact w
      rw [if_pos (by rw [decide_eq_true_iff]; exact z')] at hq
      refine bitCount_ok (by omega) (fun v hv => ?_)
      have em : v = nI (max most (pcN m 8 0)) := by
        rw [hv]
        by_cases y : most < pcN m 8 0
        · rw [if_pos (nI_lt y (by omega)), Nat.max_eq_right (by omega)]
        · rw [if_neg (fun q => of_eq_false (k_nlt (a := most) (b := pcN m 8 0) (by omega) (by omega)) q), Nat.max_eq_left (by omega)]
      subst em
      exact ih (m + 1) _ (by omega) (Nat.max_le.mpr ⟨hmo, hpc⟩) hq
