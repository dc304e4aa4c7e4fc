/-! STAGE 2: all orders, the model's way; orders, bestOrder, came -/
def acM (τ : Mem) (N : Nat) (A : AC) : Prop := (∀ h, h < 9 → mI τ 57 h = nI (A.1 h)) ∧ mI τ 37 39 = nI (fb_sm (fun h => h * A.1 h) 9) ∧ mI τ 37 40 = nI (fb_sm A.1 9) ∧ mI τ 37 41 = nI A.2.1 ∧ mI τ 37 42 = oI A.2.2.1 ∧ ∀ b, A.2.2.1 = some b → b ≤ 8 ∧ ∀ j, j < N → mI τ 58 j = nI (A.2.2.2 j)
theorem acM.fr {σ τ : Mem} {N : Nat} {A : AC} {F : Nat → Nat → Prop} (h : acM σ N A) (k : Kp F σ τ) (f1 : ∀ i, ¬ F 57 i) (f2 : ∀ i, 39 ≤ i → i ≤ 42 → ¬ F 37 i) (f4 : ∀ i, ¬ F 58 i) : acM τ N A :=
  ⟨fun i hi => by rw [k.2.2.2 _ _ (f1 i)]; exact h.1 i hi, by rw [k.2.2.2 _ _ (f2 39 (by omega) (by omega))]; exact h.2.1, by rw [k.2.2.2 _ _ (f2 40 (by omega) (by omega))]; exact h.2.2.1, by rw [k.2.2.2 _ _ (f2 41 (by omega) (by omega))]; exact h.2.2.2.1, by rw [k.2.2.2 _ _ (f2 42 (by omega) (by omega))]; exact h.2.2.2.2.1, fun b hb => ⟨(h.2.2.2.2.2 b hb).1, fun j hj => by rw [k.2.2.2 _ _ (f4 j)]; exact (h.2.2.2.2.2 b hb).2 j hj⟩⟩
def FO (a k : Nat) : Prop := FM a k ∨ a = 53 ∨ a = 57 ∨ a = 58 ∨ (a = 37 ∧ 39 ≤ k ∧ k ≤ 42)
theorem FO.sc {σ : Mem} {T a k : Nat} (h : FO a k) : SC0 σ T a k := by
  unfold SC0
  unfold FO FM at h
  omega
theorem sm_vis {A : AC} {M : Nat} {sm : Bool} {o : Nat → Nat} (hM : M ≤ 8) : fb_sm (visM M sm o A).1 9 = fb_sm A.1 9 + 1 ∧ fb_sm (fun h => h * (visM M sm o A).1 h) 9 = fb_sm (fun h => h * A.1 h) 9 + M := by
  have h1 := fb_sm_upd A.1 (A.1 M + 1) (show M < 9 by omega)
  have h2 := fb_sm_upd (fun h => h * A.1 h) (M * (A.1 M + 1)) (show M < 9 by omega)
  constructor
  · show fb_sm (fun h => if h = M then A.1 M + 1 else A.1 h) 9 = _
    omega
  · have e : fb_sm (fun h => h * (visM M sm o A).1 h) 9 = fb_sm (fun h => if h = M then M * (A.1 M + 1) else h * A.1 h) 9 := by
      refine fb_sm_cong (fun q hq => ?_)
      show q * (if q = M then A.1 M + 1 else A.1 q) = _
      by_cases c : q = M
      · rw [if_pos c, if_pos c, c]
      · rw [if_neg c, if_neg c]
    rw [e]
    have h2' : fb_sm (fun k => if k = M then M * (A.1 M + 1) else k * A.1 k) 9 + M * A.1 M = fb_sm (fun h => h * A.1 h) 9 + M * (A.1 M + 1) := h2
    rw [Nat.mul_add, Nat.mul_one] at h2'
    rw [Nat.mul_add, Nat.mul_one]
    omega
theorem o147 {rec : Mem → Int32 → Int32 → Int32 → (Mem → Prop) → Prop} {Q : Mem → Prop} {N : Nat} {o : Nat → Nat} (hN : N ≤ 8) : ∀ (d i : Nat) (τ : Mem), i + d = N → mI τ 37 0 = nI N → (∀ j, j < N → mI τ 53 j = nI (o j)) → (∀ j, j < i → mI τ 58 j = nI (o j)) → (∀ τ', Kp (fun a _ => a = 58) τ τ' → (∀ j, j < N → mI τ' 58 j = nI (o j)) → Q τ') → w_X12_orders_147 rec Q (d + 1) (nI i) τ := by
  intro d
  induction d with
  | zero =>
    intro i τ hd h0 h53 h58 hq
    have e : i = N := by omega
    subst e
    rw [w_X12_orders_147, h0]
    exact ⟨fun _ => hq τ Kp.rf h58, fun c => absurd (Int32.le_refl _) c⟩
  | succ d ih =>
    intro i τ hd h0 h53 h58 hq
    have nle : ¬ nI N ≤ nI i := fun z => of_eq_false (k_nle (a := N) (b := i) (by omega) (by omega)) z
    have vp : vp_in (nI i) 8 := vp_in_nI (by omega) (by omega)
    rw [w_X12_orders_147, h0, k_cl (by omega), show nI i + 1 = nI (i + 1) from nI_add i 1]
    refine ⟨fun c => absurd c nle, fun _ => ⟨vp, fun v hv => ⟨vp, ?_⟩⟩⟩
    rw [h53 i (by omega)] at hv
    subst hv
    have k0 : Kp (fun a _ => a = 58) τ (sI τ 58 i (nI (o i))) := (by repeat (first | exact Kp.rf | refine Kp.sI ?_ _ (by first | exact rfl | omega | (dsimp only; omega))))
    refine ih (i + 1) _ (by omega) (by rw [mI_sI_n _ _ (by omega)]; exact h0) (fun j hj => by rw [mI_sI_n _ _ (by omega)]; exact h53 j hj) (fun j hj => ?_) (fun τ' k1 h1 => hq τ' (k0.tr k1) h1)
    by_cases c : j = i
    · rw [c, mI_sI_s]
    · rw [mI_sI_k _ _ c]; exact h58 j (by omega)
theorem o55 {rec : Mem → Int32 → Int32 → Int32 → (Mem → Prop) → Prop} {Q : Mem → Prop} {τ : Mem} {N : Nat} (hN : N ≤ 8) (h0 : mI τ 37 0 = nI N) (hq0 : (¬ ∀ p, p < N → mI τ 55 p = mI τ 59 p) → w_X12_orders_114 rec Q 0 (mI τ 37 41) τ) (hq1 : (∀ p, p < N → mI τ 55 p = mI τ 59 p) → w_X12_orders_114 rec Q 1 (mI τ 37 41) τ) : ∀ (d i : Nat) (b : Int32), i + d = N → ((b = 1 ∧ ∀ p, p < i → mI τ 55 p = mI τ 59 p) ∨ (b = 0 ∧ ∃ p, p < N ∧ ¬ mI τ 55 p = mI τ 59 p)) → w_X12_orders_55 rec Q (d + 1) b (nI i) τ := by
  intro d
  induction d with
  | zero =>
    intro i b hd hp
    have e : i = N := by omega
    subst e
    rw [w_X12_orders_55, h0]
    refine ⟨fun _ => ⟨fun c => ?_, fun c => ?_⟩, fun c => absurd (Int32.le_refl _) c⟩
    · rcases hp with ⟨hb, -⟩ | ⟨hb, k, h1, h2⟩
      · rw [hb] at c; exact absurd c (by decide)
      · exact hq0 (fun z => h2 (z k h1))
    · rcases hp with ⟨hb, hp⟩ | ⟨hb, -⟩
      · exact hq1 hp
      · exact absurd hb c
  | succ d ih =>
    intro i b hd hp
    have nle : ¬ nI N ≤ nI i := fun z => of_eq_false (k_nle (a := N) (b := i) (by omega) (by omega)) z
    have vp : vp_in (nI i) 8 := vp_in_nI (by omega) (by omega)
    rw [w_X12_orders_55, h0]
    unfold w_X12_orders_90 w_X12_orders_91
    rw [k_cl (by omega), show nI i + 1 = nI (i + 1) from nI_add i 1]
    refine ⟨fun c => absurd c nle, fun _ => ⟨fun c => ?_, fun c => ⟨vp, vp, fun z => ?_, fun z => ?_⟩⟩⟩
    · rcases hp with ⟨hb, -⟩ | hp
      · rw [hb] at c; exact absurd c (by decide)
      · exact ih (i + 1) 0 (by omega) (Or.inr ⟨rfl, hp.2⟩)
    · exact ih (i + 1) 0 (by omega) (Or.inr ⟨rfl, i, by omega, z⟩)
    · rcases hp with ⟨hb, hp⟩ | ⟨hb, -⟩
      · refine ih (i + 1) 1 (by omega) (Or.inl ⟨rfl, fun k hk => ?_⟩)
        by_cases q : k = i
        · rw [q]; exact z
        · exact hp k (by omega)
      · exact absurd hb c
def FLf (a k : Nat) : Prop := a = 57 ∨ a = 58 ∨ (a = 37 ∧ 39 ≤ k ∧ k ≤ 42)
set_option maxHeartbeats 1000000 in
theorem leafM {rec : Mem → Int32 → Int32 → Int32 → (Mem → Prop) → Prop} {Q : Mem → Prop} {τ : Mem} {N M : Nat} {o : Nat → Nat} {sm : Bool} {A : AC} (hN : N ≤ 8) (hM8 : M ≤ 8) (h0 : mI τ 37 0 = nI N) (hM : mI τ 37 28 = nI M) (h53 : ∀ j, j < N → mI τ 53 j = nI (o j)) (hsm : sm = true ↔ ∀ p, p < N → mI τ 55 p = mI τ 59 p) (ac : acM τ N A) (hq : ∀ τ', Kp FLf τ τ' → acM τ' N (visM M sm o A) → Q τ') : ∃ m107 : Nat, w_X12_orders_55 rec Q m107 1 0 (sI (sI (sI τ 57 M (nI (A.1 M + 1))) 37 39 (nI (fb_sm (fun h => h * A.1 h) 9 + M))) 37 40 (nI (fb_sm A.1 9 + 1))) := by
  obtain ⟨a1, a2, a3, a4, a5, a6⟩ := ac
  obtain ⟨s1, s2⟩ := sm_vis (A := A) (sm := sm) (o := o) hM8
  have k0 : Kp (fun a k => a = 57 ∨ (a = 37 ∧ (k = 39 ∨ k = 40))) τ (sI (sI (sI τ 57 M (nI (A.1 M + 1))) 37 39 (nI (fb_sm (fun h => h * A.1 h) 9 + M))) 37 40 (nI (fb_sm A.1 9 + 1))) := (by repeat (first | exact Kp.rf | refine Kp.sI ?_ _ (by first | exact rfl | omega | (dsimp only; omega))))
  have g57 : ∀ h, h < 9 → mI (sI (sI (sI τ 57 M (nI (A.1 M + 1))) 37 39 (nI (fb_sm (fun h => h * A.1 h) 9 + M))) 37 40 (nI (fb_sm A.1 9 + 1))) 57 h = nI (if h = M then A.1 M + 1 else A.1 h) := fun h hh => by
    rw [mI_sI_n _ _ (by omega), mI_sI_n _ _ (by omega)]
    by_cases c : h = M
    · rw [if_pos c, c, mI_sI_s]
    · rw [if_neg c, mI_sI_k _ _ c]; exact a1 h hh
  have g39 : mI (sI (sI (sI τ 57 M (nI (A.1 M + 1))) 37 39 (nI (fb_sm (fun h => h * A.1 h) 9 + M))) 37 40 (nI (fb_sm A.1 9 + 1))) 37 39 = nI (fb_sm (fun h => h * (visM M sm o A).1 h) 9) := by
    rw [mI_sI_k _ _ (by omega), mI_sI_s, s2]
  have g40 : mI (sI (sI (sI τ 57 M (nI (A.1 M + 1))) 37 39 (nI (fb_sm (fun h => h * A.1 h) 9 + M))) 37 40 (nI (fb_sm A.1 9 + 1))) 37 40 = nI (fb_sm (visM M sm o A).1 9) := by
    rw [mI_sI_s, s1]
  generalize sI (sI (sI τ 57 M (nI (A.1 M + 1))) 37 39 (nI (fb_sm (fun h => h * A.1 h) 9 + M))) 37 40 (nI (fb_sm A.1 9 + 1)) = τ1 at k0 g57 g39 g40
  have u : ∀ a k, (a = 53 ∨ a = 55 ∨ a = 58 ∨ a = 59 ∨ (a = 37 ∧ k ≠ 39 ∧ k ≠ 40)) → mI τ1 a k = mI τ a k := fun a k h => k0.2.2.2 _ _ (by omega)
  have hsm1 : sm = true ↔ ∀ p, p < N → mI τ1 55 p = mI τ1 59 p := by
    rw [hsm]
    constructor
    · intro z p hp; rw [u 55 p (by omega), u 59 p (by omega)]; exact z p hp
    · intro z p hp; have := z p hp; rw [u 55 p (by omega), u 59 p (by omega)] at this; exact this
  have core : ∀ x : Int32, x = (if sm = true then 1 else 0) → w_X12_orders_114 rec Q x (mI τ1 37 41) τ1 := by
    intro x hx
    have e41 : mI τ1 37 41 + x = nI (A.2.1 + (if sm = true then 1 else 0)) := by
      rw [u 37 41 (by omega), a4, hx]
      by_cases c : sm = true
      · rw [if_pos c, if_pos c]; exact nI_add _ 1
      · rw [if_neg c, if_neg c]; exact nI_add _ 0
    unfold w_X12_orders_114
    rw [e41, u 37 42 (by omega), a5, u 37 28 (by omega), hM]
    have better : btA A.2.2.1 M = true → w_X12_orders_136 rec Q (sI τ1 37 41 (nI (A.2.1 + (if sm = true then 1 else 0)))) := by
      intro hb
      unfold w_X12_orders_136
      rw [mI_sI_k _ _ (by omega), u 37 28 (by omega), hM]
      have k2 : Kp (fun a k => a = 37 ∧ (k = 41 ∨ k = 42)) τ1 (sI (sI τ1 37 41 (nI (A.2.1 + (if sm = true then 1 else 0)))) 37 42 (nI M)) := (by repeat (first | exact Kp.rf | refine Kp.sI ?_ _ (by first | exact rfl | omega | (dsimp only; omega))))
      refine ⟨N + 1, o147 (o := o) hN N 0 _ (by omega) (by rw [k2.2.2.2 _ _ (by omega), u 37 0 (by omega)]; exact h0) (fun j hj => by rw [k2.2.2.2 _ _ (by omega), u 53 j (by omega)]; exact h53 j hj) (fun j hj => by omega) (fun τ2 k3 h58 => ?_)⟩
      refine hq τ2 (((k0.mono (fun a k q => by unfold FLf; omega)).tr (k2.mono (fun a k q => by unfold FLf; omega))).tr (k3.mono (fun a k q => by unfold FLf; omega))) ⟨fun h hh => ?_, ?_, ?_, ?_, ?_, fun b hbb => ?_⟩
      · rw [k3.2.2.2 _ _ (by omega), k2.2.2.2 _ _ (by omega)]; exact g57 h hh
      · rw [k3.2.2.2 _ _ (by omega), k2.2.2.2 _ _ (by omega)]; exact g39
      · rw [k3.2.2.2 _ _ (by omega), k2.2.2.2 _ _ (by omega)]; exact g40
      · rw [k3.2.2.2 _ _ (by omega), mI_sI_k _ _ (by omega), mI_sI_s]; rfl
      · show _ = oI (if btA A.2.2.1 M = true then some M else A.2.2.1)
        rw [if_pos hb, k3.2.2.2 _ _ (by omega), mI_sI_s]; rfl
      · have hbb' : (if btA A.2.2.1 M = true then some M else A.2.2.1) = some b := hbb
        rw [if_pos hb] at hbb'
        cases hbb'
        refine ⟨hM8, fun j hj => ?_⟩
        show _ = nI ((if btA A.2.2.1 M = true then o else A.2.2.2) j)
        rw [if_pos hb]
        exact h58 j hj
    have worse : ¬ btA A.2.2.1 M = true → Q (sI τ1 37 41 (nI (A.2.1 + (if sm = true then 1 else 0)))) := by
      intro hb
      have k2 : Kp (fun a k => a = 37 ∧ k = 41) τ1 (sI τ1 37 41 (nI (A.2.1 + (if sm = true then 1 else 0)))) := (by repeat (first | exact Kp.rf | refine Kp.sI ?_ _ (by first | exact rfl | omega | (dsimp only; omega))))
      refine hq _ ((k0.mono (fun a k q => by unfold FLf; omega)).tr (k2.mono (fun a k q => by unfold FLf; omega))) ⟨fun h hh => ?_, ?_, ?_, ?_, ?_, fun b hbb => ?_⟩
      · rw [k2.2.2.2 _ _ (by omega)]; exact g57 h hh
      · rw [k2.2.2.2 _ _ (by omega)]; exact g39
      · rw [k2.2.2.2 _ _ (by omega)]; exact g40
      · rw [mI_sI_s]; rfl
      · show _ = oI (if btA A.2.2.1 M = true then some M else A.2.2.1)
        rw [if_neg hb, k2.2.2.2 _ _ (by omega), u 37 42 (by omega)]; exact a5
      · have hbb' : (if btA A.2.2.1 M = true then some M else A.2.2.1) = some b := hbb
        rw [if_neg hb] at hbb'
        refine ⟨(a6 b hbb').1, fun j hj => ?_⟩
        show _ = nI ((if btA A.2.2.1 M = true then o else A.2.2.2) j)
        rw [if_neg hb, k2.2.2.2 _ _ (by omega), u 58 j (by omega)]
        exact (a6 b hbb').2 j hj
    rcases oI_lt (B := 8) (by decide) (fun v hv => (a6 v hv).1) with ⟨z1, z2⟩ | ⟨z1, v, z2, z3⟩
    · have hb : btA A.2.2.1 M = true := by rw [z2]; rfl
      exact ⟨fun _ => better hb, fun z => absurd z1 z⟩
    · refine ⟨fun z => absurd z z1, fun _ => ⟨fun z => worse ?_, fun z => better ?_⟩⟩
      · rw [z2] at z ⊢
        have z' : nI v ≤ nI M := z
        show ¬ decide (M < v) = true
        rw [decide_eq_true_iff]
        intro w
        exact absurd z' (fun q => of_eq_false (k_nle (a := v) (b := M) w (by omega)) q)
      · rw [z2] at z ⊢
        have z' : ¬ nI v ≤ nI M := z
        show decide (M < v) = true
        rw [decide_eq_true_iff]
        rcases Nat.lt_or_ge M v with q | q
        · exact q
        · exact absurd (nI_le q (by omega)) z'
  refine ⟨N + 1, o55 hN (by rw [u 37 0 (by omega)]; exact h0) (fun z => core 0 ?_) (fun z => core 1 ?_) N 0 1 (by omega) (Or.inl ⟨rfl, fun p hp => by omega⟩)⟩
  · rw [if_neg (fun w => z (hsm1.mp w))]
  · rw [if_pos (hsm1.mpr z)]
section AllOrd
variable {σ : Mem} {T N : Nat} {E : EN} {kd nu : Nat}
set_option maxHeartbeats 4000000 in
theorem goM (hE : Env σ T N E.1 E.2.1 E.2.2.1 E.2.2.2) (hN6 : N ≤ 6) {l : Nat} (hkd : kd ≤ 5) (hl : l < 5) (ht : ∀ τ, Kp (SC σ T) σ τ → mI τ 40 l = nI kd ∧ mI τ 41 l = nI nu) {bn : Nat → Int32} : ∀ (d k m : Nat) (o : Nat → Nat) (A : AC) (τ : Mem) (Q : Mem → Prop), k + d = N → Kp (SC σ T) σ τ → msk N k m o → (∀ j, j < k → mI τ 53 j = nI (o j)) → (∀ p, p < N → mI τ 59 p = bn p) → acM τ N A → (∀ τ', Kp FO τ τ' → (∀ j, j < k → mI τ' 53 j = mI τ 53 j) → acM τ' N (goA E kd nu N bn d k m o A) → Q τ') → f_X12_orders (d + 1) τ (nI l) (nI k) (nI m) Q := by
  have hN := hE.1
  intro d
  induction d with
  | zero =>
    intro k m o A τ Q hd hk hm h53 h59 ac hq
    have e : k = N := by omega
    subst e
    obtain ⟨okA, -⟩ := laA_ok (E := E) (kd := kd) (nu := nu) (n := k) hm.2.2.2.1 k (Nat.le_refl _)
    have h1 := okA.1
    rw [f_X12_orders]
    unfold w_X12_orders
    rw [(hE.2.2.2.2.2.1 τ hk).2.1]
    refine ⟨fun c => absurd rfl c, fun _ => ?_⟩
    refine laM_ok (o := o) hE hm.2.2.2.1 hkd hl ht hk h53 (fun τ1 k1 hH1 _ f1 => ?_)
    have hk1 : Kp (SC σ T) σ τ1 := hk.tr (k1.mono (fun a i q => Or.inl (FM.sc q)))
    have ac1 := ac.fr k1 (fun i => by omega) (fun i h1 h2 => by omega) (fun i => by omega)
    rw [hH1.1]
    have vp : vp_in (nI (laA E kd nu o k).1.1) 9 := vp_in_nI (by omega) (by omega)
    refine ⟨vp, fun v hv => ⟨vp, fun v2 hv2 => ?_⟩⟩
    rw [k_cl (by omega), ac1.1 _ (by omega), show ∀ x, nI x + 1 = nI (x + 1) from fun x => nI_add x 1] at hv
    rw [ac1.2.1, nI_add] at hv2
    subst hv
    subst hv2
    rw [k_cl (by omega), ac1.2.2.1, show ∀ x, nI x + 1 = nI (x + 1) from fun x => nI_add x 1]
    refine leafM (sm := smA E kd nu k bn o) (by omega) (by omega) (hE.2.2.2.2.2.1 τ1 hk1).2.1 hH1.1 (fun j hj => by rw [k1.2.2.2 _ _ (by omega)]; exact h53 j hj) ?_ ac1 (fun τ2 k2 ac2 => ?_)
    · have := smA_iff (E := E) (kd := kd) (nu := nu) (N := k) (bn := bn) (bl := fun p => mI τ1 55 p) hm.all hm.2.2.2.1 (fun j hj => (f1 j hj (fun j' z1 z2 z3 => by have := hm.2.2.2.2 j' j z2 hj z3; omega)).2)
      rw [this]
      have u59 : ∀ p, p < k → mI τ1 59 p = bn p := fun p hp => by rw [k1.2.2.2 _ _ (by omega)]; exact h59 p hp
      constructor
      · intro z p hp; rw [u59 p hp]; exact z p hp
      · intro z p hp; have := z p hp; rw [u59 p hp] at this; exact this
    · exact hq τ2 ((k1.mono (fun a i q => Or.inl q)).tr (k2.mono (fun a i q => by unfold FLf at q; omega))) (fun j hj => by rw [k2.2.2.2 _ _ (by unfold FLf; omega), k1.2.2.2 _ _ (by omega)]) ac2
  | succ d ih =>
    intro k m o A τ Q hd hk hm h53 h59 ac hq
    have hkn : k < N := by omega
    have hm64 := hm.1
    rw [f_X12_orders]
    unfold w_X12_orders
    rw [(hE.2.2.2.2.2.1 τ hk).2.1]
    rw [goA] at hq
    have lp : ∀ (c p : Nat) (A' : AC) (τ' : Mem), p + c = N → Kp (SC σ T) σ τ' → (∀ j, j < k → mI τ' 53 j = nI (o j)) → (∀ p, p < N → mI τ' 59 p = bn p) → acM τ' N A' → (∀ τ'', Kp FO τ' τ'' → (∀ j, j < k → mI τ'' 53 j = mI τ' 53 j) → acM τ'' N (goL (fun p A => if m.testBit p = true then A else goA E kd nu N bn d (k + 1) (m ||| 2 ^ p) (upN o k p) A) c p A') → Q τ'') → w_X12_orders_180 (f_X12_orders (d + 1)) Q (c + 1) (nI l) (nI k) (nI m) (nI p) τ' := by
      intro c
      induction c with
      | zero =>
        intro p A' τ' hc hk' h53' h59' ac' hq'
        have e : p = N := by omega
        subst e
        rw [w_X12_orders_180, (hE.2.2.2.2.2.1 τ' hk').2.1]
        exact ⟨fun _ => hq' τ' Kp.rf (fun _ _ => rfl) ac', fun z => absurd (Int32.le_refl _) z⟩
      | succ c ihc =>
        intro p A' τ' hc hk' h53' h59' ac' hq'
        have hp : p < N := by omega
        have nlep : ¬ nI N ≤ nI p := fun z => of_eq_false (k_nle (a := N) (b := p) (by omega) (by omega)) z
        have bt := bit_t m hm64 p (by omega)
        rw [w_X12_orders_180, (hE.2.2.2.2.2.1 τ' hk').2.1]
        unfold w_X12_orders_220
        rw [show nI p + 1 = nI (p + 1) from nI_add p 1]
        rw [goL] at hq'
        refine ⟨fun z => absurd z nlep, fun _ => ⟨fun z => ?_, fun z => ?_⟩⟩
        · have hu : m.testBit p = true := by
            cases hb : m.testBit p with
            | true => rfl
            | false => exact absurd (bt.mpr hb) z
          rw [if_pos hu] at hq'
          exact ihc (p + 1) A' τ' (by omega) hk' h53' h59' ac' hq'
        · have hu : ¬ m.testBit p = true := by rw [bt.mp z]; decide
          rw [if_neg hu] at hq'
          have hmu := hm.up hN6 hp hu
          rw [k_cl (a := k) (by omega), (bit_o m hm64 p (by omega)).1, show nI k + 1 = nI (k + 1) from nI_add k 1]
          have k1 : Kp (fun a _ => a = 53) τ' (sI τ' 53 k (nI p)) := (by repeat (first | exact Kp.rf | refine Kp.sI ?_ _ (by first | exact rfl | omega | (dsimp only; omega))))
          have k1' : Kp FO τ' (sI τ' 53 k (nI p)) := k1.mono (fun a i q => by unfold FO; omega)
          refine ⟨vp_in_nI (by omega) (by omega), ih (k + 1) (m ||| 2 ^ p) (upN o k p) A' _ _ (by omega) (hk'.tr (k1'.mono (fun a i q => Or.inl (FO.sc q)))) hmu (fun j hj => ?_) (fun q hq => by rw [mI_sI_n _ _ (by omega)]; exact h59' q hq) (ac'.fr k1 (fun i => by omega) (fun i _ _ => by omega) (fun i => by omega)) (fun τ4 k4 v4 ac4 => ?_)⟩
          · by_cases c2 : j = k
            · rw [c2, mI_sI_s, upN_k]
            · rw [mI_sI_k _ _ c2, upN_lt (by omega)]
              exact h53' j (by omega)
          · have k14 := k1'.tr k4
            have w53 : ∀ j, j < k → mI τ4 53 j = mI τ' 53 j := fun j hj => by rw [v4 j (by omega), mI_sI_k _ _ (by omega)]
            refine ihc (p + 1) _ τ4 (by omega) (hk'.tr (k14.mono (fun a i q => Or.inl (FO.sc q)))) (fun j hj => by rw [w53 j hj]; exact h53' j hj) (fun q hq => by rw [k14.2.2.2 _ _ (by unfold FO FM; omega)]; exact h59' q hq) ac4 (fun τ6 k6 v6 ac6 => ?_)
            exact hq' τ6 (k14.tr k6) (fun j hj => by rw [v6 j hj]; exact w53 j hj) ac6
    exact ⟨fun _ => ⟨N + 1, lp N 0 A τ (by omega) hk h53 h59 ac hq⟩, fun z => by rw [nI_eq (by omega) (by omega)] at z; omega⟩
end AllOrd
