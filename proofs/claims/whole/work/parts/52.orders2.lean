/-! STAGE 2: orders, bestOrder, came -/
def A0 : AC := (fun _ => 0, 0, none, fun _ => 0)
theorem fill22_go {Q : Mem → Prop} : ∀ (d i : Nat) (τ : Mem), i + d = 9 → (∀ h, h < i → mI τ 22 h = 0) → (∀ τ', Kp (fun a _ => a = 22) τ τ' → (∀ h, h < 9 → mI τ' 22 h = 0) → Q τ') → w_J7_fill_53178_22_5 Q (d + 1) 0 (nI i) 9 τ := by
  intro d
  induction d with
  | zero =>
    intro i τ hd h22 hq
    have e : i = 9 := by omega
    subst e
    rw [w_J7_fill_53178_22_5]
    exact ⟨fun _ => hq τ Kp.rf h22, fun c => absurd (Int32.le_refl _) c⟩
  | succ d ih =>
    intro i τ hd h22 hq
    have nle : ¬ (9 : Int32) ≤ nI i := fun z => of_eq_false (k_nle (a := 9) (b := i) (by omega) (by omega)) z
    have k0 : Kp (fun a _ => a = 22) τ (sI τ 22 i 0) := (by repeat (first | exact Kp.rf | refine Kp.sI ?_ _ (by first | exact rfl | omega | (dsimp only; omega))))
    rw [w_J7_fill_53178_22_5, k_cl (by omega), show nI i + 1 = nI (i + 1) from nI_add i 1]
    refine ⟨fun c => absurd c nle, fun _ => ⟨vp_in_nI (by omega) (by omega), ih (i + 1) _ (by omega) (fun j hj => ?_) (fun τ' k1 h1 => hq τ' (k0.tr k1) h1)⟩⟩
    by_cases c : j = i
    · rw [c, mI_sI_s]
    · rw [mI_sI_k _ _ c]; exact h22 j (by omega)
def FT (σ : Mem) (T a k : Nat) : Prop := txs σ T a ∨ (a = 15 ∧ k = 2) ∨ (16 ≤ a ∧ a ≤ 23) ∨ (a = 0 ∧ (k = 13 ∨ k = 16))
theorem FT.sc {σ : Mem} {T a k : Nat} (h : FT σ T a k) : SC0 σ T a k := by
  unfold SC0
  rcases h with h | h | h | h
  · exact Or.inr (Or.inr (Or.inr (Or.inr (Or.inr (Or.inr h)))))
  · exact Or.inr (Or.inl h)
  · exact Or.inr (Or.inr (Or.inl (by omega)))
  · exact Or.inl (by omega)
theorem FG.ft {σ : Mem} {T a k : Nat} (h : FG σ T a k) : FT σ T a k := by
  rcases h with h | h | h | h
  · exact Or.inl h
  · exact Or.inr (Or.inl h)
  · exact Or.inr (Or.inr (Or.inl (by omega)))
  · exact Or.inr (Or.inr (Or.inr h))
theorem FC.ft {σ : Mem} {T a k : Nat} (h : FC σ T a k) : FT σ T a k := by
  rcases h with h | h | h
  · exact Or.inl h
  · exact Or.inr (Or.inl h)
  · exact Or.inr (Or.inr (Or.inl (by omega)))
def FA (a k : Nat) : Prop := FO a k ∨ a = 59
theorem FA.sc {σ : Mem} {T a k : Nat} (h : FA a k) : SC0 σ T a k := by
  rcases h with h | h
  · exact FO.sc h
  · unfold SC0; omega
/-- what all orders come to -/
def ordA (E : EN) (kd nu N : Nat) : AC := goA E kd nu N (fun p => laB E kd nu (fun j => j) p) N 0 0 (fun _ => 0) A0
theorem goL_some {f : Nat → AC → AC} (hf : ∀ p A, A.2.2.1 ≠ none → (f p A).2.2.1 ≠ none) : ∀ (c p : Nat) (A : AC), (A.2.2.1 ≠ none ∨ ∃ q, p ≤ q ∧ q < p + c ∧ ∀ A, (f q A).2.2.1 ≠ none) → (goL f c p A).2.2.1 ≠ none
  | 0, p, A, h => by
    rcases h with h | ⟨q, h1, h2, -⟩
    · exact h
    · omega
  | c + 1, p, A, h => by
    rw [goL]
    refine goL_some hf c (p + 1) (f p A) ?_
    rcases h with h | ⟨q, h1, h2, h3⟩
    · exact Or.inl (hf p A h)
    · by_cases e : q = p
      · subst e; exact Or.inl (h3 A)
      · exact Or.inr ⟨q, by omega, by omega, h3⟩
theorem visM_some {M : Nat} {sm : Bool} {o : Nat → Nat} {A : AC} : (visM M sm o A).2.2.1 ≠ none := by
  show (if btA A.2.2.1 M = true then some M else A.2.2.1) ≠ none
  by_cases c : btA A.2.2.1 M = true
  · rw [if_pos c]; exact fun z => by cases z
  · rw [if_neg c]
    intro z
    rw [z] at c
    exact c rfl
theorem goA_keep {E : EN} {kd nu N : Nat} {bn : Nat → Int32} : ∀ (d k m : Nat) (o : Nat → Nat) (A : AC), A.2.2.1 ≠ none → (goA E kd nu N bn d k m o A).2.2.1 ≠ none
  | 0, k, m, o, A, h => by rw [goA]; exact visM_some
  | d + 1, k, m, o, A, h => by
    rw [goA]
    refine goL_some (fun p A hA => ?_) N 0 A (Or.inl h)
    by_cases c : m.testBit p = true
    · rw [if_pos c]; exact hA
    · rw [if_neg c]; exact goA_keep d (k + 1) _ _ A hA
theorem goA_some {E : EN} {kd nu N : Nat} {bn : Nat → Int32} (hN : N ≤ 6) : ∀ (d k m : Nat) (o : Nat → Nat) (A : AC), k + d = N → msk N k m o → (goA E kd nu N bn d k m o A).2.2.1 ≠ none
  | 0, k, m, o, A, _, _ => by rw [goA]; exact visM_some
  | d + 1, k, m, o, A, hd, hm => by
    rw [goA]
    obtain ⟨q, hq1, hq2⟩ := hm.ex (by omega)
    refine goL_some (fun p A hA => ?_) N 0 A (Or.inr ⟨q, by omega, by omega, fun A => ?_⟩)
    · by_cases c : m.testBit p = true
      · rw [if_pos c]; exact hA
      · rw [if_neg c]; exact goA_keep d (k + 1) _ _ A hA
    · rw [if_neg hq2]
      exact goA_some hN d (k + 1) _ _ A (by omega) (hm.up hN hq1 hq2)
theorem ordA_some {E : EN} {kd nu N : Nat} (hN : N ≤ 6) : (ordA E kd nu N).2.2.1 ≠ none := goA_some hN N 0 0 _ _ (by omega) (msk.zero N _)
section Ord2
variable {σ : Mem} {T N : Nat} {E : EN} {kd nu : Nat}
set_option maxHeartbeats 1000000 in
theorem gtC {Q : Mem → Prop} {τ : Mem} (hE : Env σ T N E.1 E.2.1 E.2.2.1 E.2.2.2) (hN6 : N ≤ 6) {a : Nat} (hkd : kd ≤ 5) (ht : ∀ τ, Kp (SC σ T) σ τ → mT τ a = some (kcl kd, 0) ∧ mI τ a 1 = nI nu) (hk : Kp (SC σ T) σ τ) (hq : ∀ τ', Kp (FT σ T) τ τ' → acC τ' N (ordA E kd nu N) → Q τ') : w_X11_goThroughOrders τ a Q := by
  have hN := hE.1
  unfold w_X11_goThroughOrders
  refine C_now hE hkd ht hk (fun τ1 k1 hH1 f1 => ?_)
  have k1' : Kp (FT σ T) τ τ1 := k1.mono (fun a k q => q.ft)
  have hk1 : Kp (SC σ T) σ τ1 := hk.tr (k1'.mono (fun a k q => Or.inl q.sc))
  rw [(hE.2.2.2.2.2.1 τ1 hk1).1, k_cl (by omega)]
  have z0 : (0 : Int32).toNatClampNeg = 0 := rfl
  rw [z0]
  refine ⟨⟨by decide, by decide, nI_pos (by omega), by omega, by omega⟩, ?_⟩
  have k2 : Kp (FT σ T) τ1 (sR τ1 23 (va_cpy (τ1.1 19) (τ1.1 23) 0 0 N)) := Kp.sR Kp.rf _ (fun k => Or.inr (Or.inr (Or.inl (by omega))))
  have g23 : ∀ p, p < N → mI (sR τ1 23 (va_cpy (τ1.1 19) (τ1.1 23) 0 0 N)) 23 p = laB E kd nu (fun j => j) p := fun p hp => by
    rw [mI_sR, if_pos rfl]
    show (if 0 ≤ p ∧ p < 0 + N then τ1.1 19 (0 + (p - 0)) else _) = _
    rw [if_pos ⟨by omega, by omega⟩, show 0 + (p - 0) = p by omega]
    exact (f1 p hp).2
  generalize sR τ1 23 (va_cpy (τ1.1 19) (τ1.1 23) 0 0 N) = τ2 at k2 g23
  unfold w_J7_fill_53178_22
  refine ⟨10, fill22_go 9 0 τ2 (by omega) (fun h hh => by omega) (fun τ3 k3 h22 => ?_)⟩
  have k3' : Kp (FT σ T) τ2 τ3 := k3.mono (fun a k q => Or.inr (Or.inr (Or.inl (by omega))))
  unfold w_X1_clear_15
  have k4 : Kp (fun a k => (a = 0 ∧ (k = 13 ∨ k = 16)) ∨ (a = 15 ∧ k = 2)) τ3 (sI (sI (sI τ3 0 16 0) 0 13 793) 15 2 0) := (by repeat (first | exact Kp.rf | refine Kp.sI ?_ _ (by first | exact rfl | omega | (dsimp only; omega))))
  have k14 : Kp (FT σ T) τ (sI (sI (sI τ3 0 16 0) 0 13 793) 15 2 0) := ((k1'.tr k2).tr k3').tr (k4.mono (fun a k q => by
    rcases q with q | q
    · exact Or.inr (Or.inr (Or.inr q))
    · exact Or.inr (Or.inl q)))
  refine ⟨N + 1, by omega, goC (bn := fun p => laB E kd nu (fun j => j) p) hE hN6 hkd ht N 0 0 (fun _ => 0) A0 _ _ (by omega) (hk.tr (k14.mono (fun a k q => Or.inl q.sc))) ⟨by rw [mI_sI_s]; rfl, fun h hh => absurd hh (Nat.not_lt_zero _), fun h k hh => absurd hh (Nat.not_lt_zero _)⟩ (msk.zero N _) (fun j hj => by omega) (fun j hj => by omega) (fun p hp => ?_) ⟨fun h hh => ?_, ?_, ?_, fun b hb => by cases hb⟩ (fun τ5 k5 _ _ _ ac => hq τ5 (k14.tr (k5.mono (fun a k q => q.ft))) ac)⟩
  · rw [k4.2.2.2 _ _ (by omega), k3.2.2.2 _ _ (by omega)]; exact g23 p hp
  · rw [k4.2.2.2 _ _ (by omega)]; exact h22 h hh
  · rw [mI_sI_n _ _ (by omega), mI_sI_k _ _ (by omega), mI_sI_s]; rfl
  · rw [mI_sI_n _ _ (by omega), mI_sI_s]; rfl
theorem ao35 {Q : Mem → Prop} {l : Nat} (hN : N ≤ 8) : ∀ (d i : Nat) (τ : Mem), i + d = 9 → (∀ h, h < i → mI τ 57 h = 0) → (∀ τ', Kp (fun a _ => a = 57) τ τ' → (∀ h, h < 9 → mI τ' 57 h = 0) → ∃ m107 : Nat, m107 ≤ 12 ∧ f_X12_orders m107 (sI (sI (sI (sI τ' 37 39 0) 37 40 0) 37 41 0) 37 42 (-1)) (nI l) 0 0 (fun s103 => w_X12_asTheyCame s103 (fun s106 => Q s106))) → w_X12_allOrders_35 Q (d + 1) (nI l) (nI i) τ := by
  intro d
  induction d with
  | zero =>
    intro i τ hd h57 hq
    have e : i = 9 := by omega
    subst e
    rw [w_X12_allOrders_35]
    exact ⟨fun _ => hq τ Kp.rf h57, fun c => absurd (Int32.le_refl _) c⟩
  | succ d ih =>
    intro i τ hd h57 hq
    have nle : ¬ (9 : Int32) ≤ nI i := fun z => of_eq_false (k_nle (a := 9) (b := i) (by omega) (by omega)) z
    have k0 : Kp (fun a _ => a = 57) τ (sI τ 57 i 0) := (by repeat (first | exact Kp.rf | refine Kp.sI ?_ _ (by first | exact rfl | omega | (dsimp only; omega))))
    rw [w_X12_allOrders_35, k_cl (by omega), show nI i + 1 = nI (i + 1) from nI_add i 1]
    refine ⟨fun c => absurd c nle, fun _ => ⟨vp_in_nI (by omega) (by omega), ih (i + 1) _ (by omega) (fun j hj => ?_) (fun τ' k1 h1 => hq τ' (k0.tr k1) h1)⟩⟩
    by_cases c : j = i
    · rw [c, mI_sI_s]
    · rw [mI_sI_k _ _ c]; exact h57 j (by omega)
theorem ao7 {Q : Mem → Prop} {l : Nat} {bl : Nat → Int32} (hN : N ≤ 8) : ∀ (d i : Nat) (τ : Mem), i + d = N → mI τ 37 0 = nI N → (∀ j, j < N → mI τ 55 j = bl j) → (∀ j, j < i → mI τ 59 j = bl j) → (∀ τ', Kp (fun a _ => a = 59) τ τ' → (∀ j, j < N → mI τ' 59 j = bl j) → ∃ m101 : Nat, w_X12_allOrders_35 Q m101 (nI l) 0 τ') → w_X12_allOrders_7 Q (d + 1) (nI l) (nI i) τ := by
  intro d
  induction d with
  | zero =>
    intro i τ hd h0 h55 h59 hq
    have e : i = N := by omega
    subst e
    rw [w_X12_allOrders_7, h0]
    exact ⟨fun _ => hq τ Kp.rf h59, fun c => absurd (Int32.le_refl _) c⟩
  | succ d ih =>
    intro i τ hd h0 h55 h59 hq
    have nle : ¬ nI N ≤ nI i := fun z => of_eq_false (k_nle (a := N) (b := i) (by omega) (by omega)) z
    have vp : vp_in (nI i) 8 := vp_in_nI (by omega) (by omega)
    rw [w_X12_allOrders_7, h0, k_cl (by omega), show nI i + 1 = nI (i + 1) from nI_add i 1]
    refine ⟨fun c => absurd c nle, fun _ => ⟨vp, fun v hv => ⟨vp, ?_⟩⟩⟩
    rw [h55 i (by omega)] at hv
    subst hv
    have k0 : Kp (fun a _ => a = 59) τ (sI τ 59 i (bl i)) := (by repeat (first | exact Kp.rf | refine Kp.sI ?_ _ (by first | exact rfl | omega | (dsimp only; omega))))
    refine ih (i + 1) _ (by omega) (by rw [mI_sI_n _ _ (by omega)]; exact h0) (fun j hj => by rw [mI_sI_n _ _ (by omega)]; exact h55 j hj) (fun j hj => ?_) (fun τ' k1 h1 => hq τ' (k0.tr k1) h1)
    by_cases c : j = i
    · rw [c, mI_sI_s]
    · rw [mI_sI_k _ _ c]; exact h59 j (by omega)
set_option maxHeartbeats 1000000 in
theorem aoM {Q : Mem → Prop} {τ : Mem} (hE : Env σ T N E.1 E.2.1 E.2.2.1 E.2.2.2) (hN6 : N ≤ 6) {l : Nat} (hkd : kd ≤ 5) (hl : l < 5) (ht : ∀ τ, Kp (SC σ T) σ τ → mI τ 40 l = nI kd ∧ mI τ 41 l = nI nu) (hk : Kp (SC σ T) σ τ) (h53 : ∀ j, j < 8 → mI τ 53 j = nI j) (hq : ∀ τ', Kp FA τ τ' → (∀ j, j < 8 → mI τ' 53 j = nI j) → acM τ' N (ordA E kd nu N) → Q τ') : w_X12_allOrders τ (nI l) Q := by
  have hN := hE.1
  unfold w_X12_allOrders
  refine M_now hE hkd hl ht hk h53 (fun τ1 k1 hH1 _ f1 => ?_)
  have k1' : Kp FA τ τ1 := k1.mono (fun a k q => Or.inl (Or.inl q))
  have hk1 : Kp (SC σ T) σ τ1 := hk.tr (k1'.mono (fun a k q => Or.inl (FA.sc q)))
  refine ⟨N + 1, ao7 (bl := fun p => laB E kd nu (fun j => j) p) (by omega) N 0 τ1 (by omega) (hE.2.2.2.2.2.1 τ1 hk1).2.1 (fun j hj => (f1 j hj).2) (fun j hj => by omega) (fun τ2 k2 g59 => ⟨10, ao35 (N := N) (by omega) 9 0 τ2 (by omega) (fun h hh => by omega) (fun τ3 k3 h57 => ?_)⟩)⟩
  have k4 : Kp (fun a k => a = 37 ∧ 39 ≤ k ∧ k ≤ 42) τ3 (sI (sI (sI (sI τ3 37 39 0) 37 40 0) 37 41 0) 37 42 (-1)) := (by repeat (first | exact Kp.rf | refine Kp.sI ?_ _ (by first | exact rfl | omega | (dsimp only; omega))))
  have k14 : Kp FA τ (sI (sI (sI (sI τ3 37 39 0) 37 40 0) 37 41 0) 37 42 (-1)) := ((k1'.tr (k2.mono (fun a k q => Or.inr q))).tr (k3.mono (fun a k q => Or.inl (by unfold FO; omega)))).tr (k4.mono (fun a k q => Or.inl (by unfold FO; omega)))
  refine ⟨N + 1, by omega, goM (bn := fun p => laB E kd nu (fun j => j) p) hE hN6 hkd hl ht N 0 0 (fun _ => 0) A0 _ _ (by omega) (hk.tr (k14.mono (fun a k q => Or.inl (FA.sc q)))) (msk.zero N _) (fun j hj => by omega) (fun p hp => ?_) ⟨fun h hh => ?_, ?_, ?_, ?_, ?_, fun b hb => by cases hb⟩ (fun τ5 k5 _ ac => asT_ok (fun τ6 k6 g53 => ?_))⟩
  · rw [k4.2.2.2 _ _ (by omega), k3.2.2.2 _ _ (by omega)]; exact g59 p hp
  · rw [k4.2.2.2 _ _ (by omega)]; exact h57 h hh
  · rw [mI_sI_k _ _ (by omega), mI_sI_k _ _ (by omega), mI_sI_k _ _ (by omega), mI_sI_s]; rfl
  · rw [mI_sI_k _ _ (by omega), mI_sI_k _ _ (by omega), mI_sI_s]; rfl
  · rw [mI_sI_k _ _ (by omega), mI_sI_s]; rfl
  · rw [mI_sI_s]; rfl
  · exact hq τ6 ((k14.tr (k5.mono (fun a k q => Or.inl q))).tr (k6.mono (fun a k q => Or.inl (by unfold FO; omega)))) g53 (ac.fr k6 (fun i => by omega) (fun i _ _ => by omega) (fun i => by omega))
theorem FT.n53 (hE : Env σ T N E.1 E.2.1 E.2.2.1 E.2.2.2) {τ τ' : Mem} (k : Kp (FT σ T) τ τ') (j : Nat) : mI τ' 53 j = mI τ 53 j := by
  refine k.2.2.2 _ _ (fun q => ?_)
  rcases q with q | q | q | q
  · have := hE.2.2.2.2.1 _ q; omega
  · omega
  · omega
  · omega
end Ord2
theorem le6 {N : Nat} (hN : N ≤ 8) : (nI N ≤ 6 ∧ N ≤ 6) ∨ (¬ nI N ≤ 6 ∧ ¬ N ≤ 6) := by
  by_cases c : N ≤ 6
  · exact Or.inl ⟨nI_le (b := 6) c (by omega), c⟩
  · exact Or.inr ⟨fun z => of_eq_false (k_nle (a := N) (b := 6) (by omega) (by omega)) z, c⟩
set_option maxHeartbeats 1000000 in
theorem p_orders (σ : Mem) (x0 x1 : Int32) (h : Rel σ) : w_X11_orders σ x0 x1 (fun r1 s1 => w_X12_orders_ s1 x0 x1 (fun r2 s2 => r1 = r2 ∧ Rel s2)) := by
  obtain ⟨N, L, T, hx⟩ := h.x
  obtain ⟨E, hE, -, -⟩ := env_ex hx
  have hN := hE.1
  have h53 : ∀ j, j < 8 → mI σ 53 j = nI j := hx.2.2.2.2.2.2.2.2.2.2.1
  obtain ⟨e02, e0, -⟩ := hE.2.2.2.2.2.1 σ Kp.rf
  unfold w_X11_orders w_X12_orders_
  rcases lay_cases hx x0 with ⟨c1, c2⟩ | ⟨l, a, kd, nu, hl, hl5, rfl, hkd, ht, htM, d1, d2, -⟩
  · exact c1 _ σ Kp.rf ⟨fun _ => c2 _ σ Kp.rf ⟨fun _ => ⟨rfl, h⟩, fun c => absurd rfl c⟩, fun r hr => (by cases hr)⟩
  · refine d1 _ σ Kp.rf ⟨fun c => (by cases c), fun r hr => ?_⟩
    cases hr
    by_cases cx : 0 ≤ x1 ∧ x1 ≤ 8
    · obtain ⟨w, hw, rfl⟩ := nI_of2 (M := 8) (n := 8) (by decide) (Int32.not_lt.mpr cx.1) cx.2
      refine ⟨fun z => absurd cx.1 (Int32.not_le.mpr z), fun _ => ⟨fun _ => ?_, fun z => absurd cx.2 z⟩⟩
      rw [e02]
      have vp : vp_in (nI w) 9 := vp_in_nI (by omega) (by omega)
      rcases le6 hN with ⟨c6, n6⟩ | ⟨c6, n6⟩
      · refine ⟨fun _ => gtC hE n6 hkd ht Kp.rf (fun τ1 k1 ac1 => ⟨vp, ?_⟩), fun z => absurd c6 z⟩
        have hk1 : Kp (SC0 σ T) σ τ1 := k1.mono (fun a k q => q.sc)
        refine d2 _ τ1 hk1.s0 ⟨fun c => absurd c (by decide), fun _ => (in_t cx).mpr ⟨fun _ => ?_, fun z => absurd z (by decide)⟩⟩
        rw [(hE.2.2.2.2.2.1 τ1 hk1.s0).2.1]
        refine ⟨fun _ => aoM hE n6 hkd hl5 htM hk1.s0 (fun j hj => by rw [FT.n53 hE k1]; exact h53 j hj) (fun τ2 k2 g53 ac2 => ⟨vp, ?_, ?_⟩), fun z => absurd c6 z⟩
        · rw [k_cl (by omega), ac1.1 w (by omega), ac2.1 w (by omega)]
        · exact (hx.sc (hk1.tr (k2.mono (fun a k q => FA.sc q))) g53).rel
      · refine ⟨fun z => absurd z c6, fun _ => d2 _ σ Kp.rf ⟨fun c => absurd c (by decide), fun _ => (in_t cx).mpr ⟨fun _ => ?_, fun z => absurd z (by decide)⟩⟩⟩
        rw [e0]
        exact ⟨fun z => absurd z c6, fun _ => ⟨rfl, h⟩⟩
    · have bad : w_X12_isLayer σ (nI l) (fun v101 s103 => (v101 = 0 → (-2 : Int32) = -2 ∧ Rel s103) ∧ (¬ v101 = 0 → True)) := d2 _ σ Kp.rf ⟨fun c => absurd c (by decide), fun _ => trivial⟩
      refine ⟨fun z => d2 _ σ Kp.rf ⟨fun c => absurd c (by decide), fun _ => (in_f cx).mpr ⟨fun z => absurd rfl z, fun _ => ⟨rfl, h⟩⟩⟩, fun z => ⟨fun z2 => absurd ⟨Int32.not_lt.mp z, z2⟩ cx, fun z2 => d2 _ σ Kp.rf ⟨fun c => absurd c (by decide), fun _ => (in_f cx).mpr ⟨fun z => absurd rfl z, fun _ => ⟨rfl, h⟩⟩⟩⟩⟩
set_option maxHeartbeats 1000000 in
theorem p_bestOrder (σ : Mem) (x0 x1 : Int32) (h : Rel σ) : w_X11_bestOrder σ x0 x1 (fun r1 s1 => w_X12_bestOrder s1 x0 x1 (fun r2 s2 => r1 = r2 ∧ Rel s2)) := by
  obtain ⟨N, L, T, hx⟩ := h.x
  obtain ⟨E, hE, -, -⟩ := env_ex hx
  have hN := hE.1
  have h53 : ∀ j, j < 8 → mI σ 53 j = nI j := hx.2.2.2.2.2.2.2.2.2.2.1
  obtain ⟨e02, e0, -⟩ := hE.2.2.2.2.2.1 σ Kp.rf
  unfold w_X11_bestOrder w_X12_bestOrder
  rcases lay_cases hx x0 with ⟨c1, c2⟩ | ⟨l, a, kd, nu, hl, hl5, rfl, hkd, ht, htM, d1, d2, -⟩
  · exact c1 _ σ Kp.rf ⟨fun _ => c2 _ σ Kp.rf ⟨fun _ => ⟨rfl, h⟩, fun c => absurd rfl c⟩, fun r hr => (by cases hr)⟩
  · refine d1 _ σ Kp.rf ⟨fun c => (by cases c), fun r hr => ?_⟩
    cases hr
    rcases plate_cases hx x1 with ⟨e1, e2⟩ | ⟨p, hp, rfl, e1, e2⟩
    · refine e1 _ σ Kp.rf ⟨fun c => absurd rfl c, fun _ => d2 _ σ Kp.rf ⟨fun c => absurd c (by decide), fun _ => e2 _ σ Kp.rf ⟨fun c => absurd rfl c, fun _ => ⟨rfl, h⟩⟩⟩⟩
    · refine e1 _ σ Kp.rf ⟨fun _ => ?_, fun c => absurd c (by decide)⟩
      rw [e02]
      have vp : vp_in (nI p) 8 := vp_in_nI (by omega) (by omega)
      rcases le6 hN with ⟨c6, n6⟩ | ⟨c6, n6⟩
      · refine ⟨fun _ => gtC hE n6 hkd ht Kp.rf (fun τ1 k1 ac1 => ⟨vp, ?_⟩), fun z => absurd c6 z⟩
        have hk1 : Kp (SC0 σ T) σ τ1 := k1.mono (fun a k q => q.sc)
        refine d2 _ τ1 hk1.s0 ⟨fun c => absurd c (by decide), fun _ => e2 _ τ1 hk1.s0 ⟨fun _ => ?_, fun z => absurd z (by decide)⟩⟩
        rw [(hE.2.2.2.2.2.1 τ1 hk1.s0).2.1]
        refine ⟨fun _ => aoM hE n6 hkd hl5 htM hk1.s0 (fun j hj => by rw [FT.n53 hE k1]; exact h53 j hj) (fun τ2 k2 g53 ac2 => ⟨vp, ?_, ?_⟩), fun z => absurd c6 z⟩
        · cases hb : (ordA E kd nu N).2.2.1 with
          | none => exact absurd hb (ordA_some n6)
          | some b => rw [k_cl (by omega), (ac1.2.2.2 b hb).2 p hp, (ac2.2.2.2.2.2 b hb).2 p hp]
        · exact (hx.sc (hk1.tr (k2.mono (fun a k q => FA.sc q))) g53).rel
      · refine ⟨fun z => absurd z c6, fun _ => d2 _ σ Kp.rf ⟨fun c => absurd c (by decide), fun _ => e2 _ σ Kp.rf ⟨fun _ => ?_, fun z => absurd z (by decide)⟩⟩⟩
        rw [e0]
        exact ⟨fun z => absurd z c6, fun _ => ⟨rfl, h⟩⟩
set_option maxHeartbeats 1000000 in
theorem p_came (σ : Mem) (x0 : Int32) (h : Rel σ) : w_X11_came σ x0 (fun r1 s1 => w_X12_came s1 x0 (fun r2 s2 => r1 = r2 ∧ Rel s2)) := by
  obtain ⟨N, L, T, hx⟩ := h.x
  obtain ⟨E, hE, -, -⟩ := env_ex hx
  have hN := hE.1
  have h53 : ∀ j, j < 8 → mI σ 53 j = nI j := hx.2.2.2.2.2.2.2.2.2.2.1
  obtain ⟨e02, e0, -⟩ := hE.2.2.2.2.2.1 σ Kp.rf
  unfold w_X11_came w_X12_came
  rcases lay_cases hx x0 with ⟨c1, c2⟩ | ⟨l, a, kd, nu, hl, hl5, rfl, hkd, ht, htM, d1, d2, -⟩
  · exact c1 _ σ Kp.rf ⟨fun _ => c2 _ σ Kp.rf ⟨fun c => absurd rfl c, fun _ => ⟨rfl, h⟩⟩, fun r hr => (by cases hr)⟩
  · refine d1 _ σ Kp.rf ⟨fun c => (by cases c), fun r hr => ?_⟩
    cases hr
    rw [e02]
    rcases le6 hN with ⟨c6, n6⟩ | ⟨c6, n6⟩
    · refine ⟨fun _ => gtC hE n6 hkd ht Kp.rf (fun τ1 k1 ac1 => ?_), fun z => absurd c6 z⟩
      have hk1 : Kp (SC0 σ T) σ τ1 := k1.mono (fun a k q => q.sc)
      refine d2 _ τ1 hk1.s0 ⟨fun _ => ?_, fun c => absurd c (by decide)⟩
      rw [(hE.2.2.2.2.2.1 τ1 hk1.s0).2.1]
      refine ⟨fun _ => aoM hE n6 hkd hl5 htM hk1.s0 (fun j hj => by rw [FT.n53 hE k1]; exact h53 j hj) (fun τ2 k2 g53 ac2 => ⟨?_, ?_⟩), fun z => absurd c6 z⟩
      · rw [ac1.2.1, ac2.2.2.2.1]
      · exact (hx.sc (hk1.tr (k2.mono (fun a k q => FA.sc q))) g53).rel
    · refine ⟨fun z => absurd z c6, fun _ => d2 _ σ Kp.rf ⟨fun _ => ?_, fun c => absurd c (by decide)⟩⟩
      rw [e0]
      exact ⟨fun z => absurd z c6, fun _ => ⟨rfl, h⟩⟩
