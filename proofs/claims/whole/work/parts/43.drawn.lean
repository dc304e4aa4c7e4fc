/-! STAGE 2: drawn -/
theorem asT_go {Q : Mem → Prop} : ∀ (d i : Nat) (τ : Mem), i + d = 8 → (∀ j, j < i → mI τ 53 j = nI j) → (∀ τ', Kp (fun a _ => a = 53) τ τ' → (∀ j, j < 8 → mI τ' 53 j = nI j) → Q τ') → w_X12_asTheyCame_2 Q (d + 1) (nI i) τ := by
  intro d
  induction d with
  | zero =>
    intro i τ hd h20 hq
    have e : i = 8 := by omega
    subst e
    rw [w_X12_asTheyCame_2]
    exact ⟨fun _ => hq τ Kp.rf h20, fun c => absurd (Int32.le_refl _) c⟩
  | succ d ih =>
    intro i τ hd h20 hq
    have nle : ¬ (8 : Int32) ≤ nI i := fun z => of_eq_false (k_nle (a := 8) (b := i) (by omega) (by omega)) z
    have k0 : Kp (fun a _ => a = 53) τ (sI τ 53 i (nI i)) := (by repeat (first | exact Kp.rf | refine Kp.sI ?_ _ (by first | exact rfl | omega | (dsimp only; omega))))
    rw [w_X12_asTheyCame_2, k_cl (by omega), show nI i + 1 = nI (i + 1) from nI_add i 1]
    refine ⟨fun c => absurd c nle, fun _ => ⟨vp_in_nI (by omega) (by omega), ih (i + 1) _ (by omega) (fun j hj => ?_) (fun τ' k1 h1 => hq τ' (k0.tr k1) h1)⟩⟩
    by_cases c : j = i
    · rw [c, mI_sI_s]
    · rw [mI_sI_k _ _ c]; exact h20 j (by omega)
theorem asT_ok {Q : Mem → Prop} {τ : Mem} (hq : ∀ τ', Kp (fun a _ => a = 53) τ τ' → (∀ j, j < 8 → mI τ' 53 j = nI j) → Q τ') : w_X12_asTheyCame τ Q := ⟨9, asT_go 8 0 τ (by omega) (fun j hj => by omega) hq⟩
def drU (z : Int32) : Nat := z.toBitVec.toNat / 2 ^ 9
theorem drU_eq (z : Int32) : (Int32.toUInt32 z >>> (Int32.toUInt32 9 &&& Int32.toUInt32 31)).toInt32 = nI (drU z) ∧ drU z < 2 ^ 23 := by
  have h1 := pk_ushr z 9 9 (by decide)
  have h2 : z.toBitVec.toNat < 2 ^ 32 := z.toBitVec.isLt
  have h3 : drU z < 2 ^ 23 := by unfold drU; omega
  refine ⟨?_, h3⟩
  apply Int32.toBitVec_inj.mp
  apply BitVec.eq_of_toNat_eq
  rw [h1]
  show _ = (BitVec.ofNat 32 (drU z)).toNat
  rw [BitVec.toNat_ofNat, Nat.mod_eq_of_lt (by omega)]
  rfl
def swp (o : Nat → Nat) (i j : Nat) : Nat → Nat := fun k => if k = j then o i else if k = i then o j else o k
def drGo (N : Nat) : Nat → Nat → Int32 → (Nat → Nat) → Nat → Nat
  | 0, _, _, o => o
  | d + 1, i, z, o => drGo N d (i + 1) (z * 1103515245 + 12345) (swp o i (i + drU (z * 1103515245 + 12345) % (N - i)))
theorem swp_lt {N i j : Nat} {o : Nat → Nat} (ho : ∀ k, k < N → o k < N) (hi : i < N) (hj : j < N) : ∀ k, k < N → swp o i j k < N := by
  intro k hk
  unfold swp
  split
  · exact ho i hi
  · split
    · exact ho j hj
    · exact ho k hk
theorem drGo_lt {N : Nat} : ∀ (d i : Nat) (z : Int32) (o : Nat → Nat), i + d < N ∨ d = 0 → (∀ k, k < N → o k < N) → ∀ k, k < N → drGo N d i z o k < N
  | 0, _, _, _, _, ho => ho
  | d + 1, i, z, o, h, ho => by
    have hm : drU (z * 1103515245 + 12345) % (N - i) < N - i := Nat.mod_lt _ (by omega)
    exact drGo_lt d (i + 1) _ _ (by omega) (swp_lt ho (by omega) (by omega))
theorem dr_ix {N i : Nat} (z : Int32) (hN : N ≤ 8) (hi : i < N) : nI i + ((Int32.toUInt32 z >>> (Int32.toUInt32 9 &&& Int32.toUInt32 31)).toInt32 - (Int32.toUInt32 z >>> (Int32.toUInt32 9 &&& Int32.toUInt32 31)).toInt32 / (nI N - nI i) * (nI N - nI i)) = nI (i + drU z % (N - i)) := by
  obtain ⟨h1, h2⟩ := drU_eq z
  rw [h1, k_sub (by omega), pk_rem (by omega) (by omega) (by omega), nI_add]
section DrawnA
variable {σ : Mem} {T N : Nat} {E : EN}
set_option maxHeartbeats 1000000 in
theorem drC_go {Q : Int32 → Mem → Prop} (hE : Env σ T N E.1 E.2.1 E.2.2.1 E.2.2.2) {a kd nu : Nat} (hkd : kd ≤ 5) (ht : ∀ τ, Kp (SC σ T) σ τ → mT τ a = some (kcl kd, 0) ∧ mI τ a 1 = nI nu) : ∀ (d i : Nat) (z : Int32) (o : Nat → Nat) (τ : Mem), (i + d + 1 = N ∨ (N = 0 ∧ i = 0 ∧ d = 0)) → Kp (SC σ T) σ τ → (∀ j, j < N → o j < N) → (∀ j, j < N → mI τ 20 j = nI (o j)) → (∀ τ', Kp (FC σ T) τ τ' → Q (nI (laA E kd nu (drGo N d i z o) N).1.1) τ') → w_X11_drawn_23 Q (d + 1) a z (nI i) τ := by
  have hN := hE.1
  intro d
  induction d with
  | zero =>
    intro i z o τ hd hk ho h20 hq
    have e1 : nI i + 1 = nI (i + 1) := nI_add i 1
    rw [w_X11_drawn_23, (hE.2.2.2.2.2.1 τ hk).1, e1]
    refine ⟨fun _ => ?_, fun c => absurd (nI_le (by omega) (by omega)) c⟩
    refine laC_ok (o := o) hE hN ho hkd ht hk h20 (fun τ2 k2 hH f => ?_)
    rw [hH.1]
    refine hq τ2 (k2.mono (fun a k q => ?_))
    rcases q with q | q | q
    · exact Or.inl q
    · exact Or.inr (Or.inl q)
    · exact Or.inr (Or.inr (by omega))
  | succ d ih =>
    intro i z o τ hd hk ho h20 hq
    have e1 : nI i + 1 = nI (i + 1) := nI_add i 1
    have nle : ¬ nI N ≤ nI (i + 1) := fun z => of_eq_false (k_nle (a := N) (b := i + 1) (by omega) (by omega)) z
    have hm : drU (z * 1103515245 + 12345) % (N - i) < N - i := Nat.mod_lt _ (by omega)
    have h02 := (hE.2.2.2.2.2.1 τ hk).1
    rw [w_X11_drawn_23, h02, e1]
    refine ⟨fun c => absurd c nle, fun _ => ⟨?_, ?_⟩⟩
    · rw [k_sub (by omega), show (0 : Int32) = nI 0 from rfl, nI_eq (by omega) (by omega)]
      omega
    · rw [dr_ix _ hN (by omega)]
      have v1 : vp_in (nI i) 8 := vp_in_nI (by omega) (by omega)
      have v2 : vp_in (nI (i + drU (z * 1103515245 + 12345) % (N - i))) 8 := vp_in_nI (by omega) (by omega)
      unfold w_X11_changeAbout
      refine isP_ok h02 hN (by omega) ⟨fun c => absurd c (by decide), fun _ => isP_ok h02 hN (by omega) ⟨fun c => absurd c (by decide), fun _ => ⟨v1, fun w1 hw1 => ⟨v2, fun w2 hw2 => ⟨v1, v2, ?_⟩⟩⟩⟩⟩
      rw [k_cl (by omega), h20 i (by omega)] at hw1
      rw [k_cl (by omega), h20 _ (by omega)] at hw2
      subst hw1
      subst hw2
      rw [k_cl (by omega), k_cl (by omega)]
      have k0 : Kp (FC σ T) τ (sI (sI τ 20 i (nI (o (i + drU (z * 1103515245 + 12345) % (N - i))))) 20 (i + drU (z * 1103515245 + 12345) % (N - i)) (nI (o i))) := Kp.sI (Kp.sI Kp.rf _ (Or.inr (Or.inr (by omega)))) _ (Or.inr (Or.inr (by omega)))
      refine ih (i + 1) _ (swp o i (i + drU (z * 1103515245 + 12345) % (N - i))) _ (by omega) (hk.tr (k0.mono (fun a k q => Or.inl q.sc))) (swp_lt ho (by omega) (by omega)) (fun j hj => ?_) (fun τ' k1 => hq τ' (k0.tr k1))
      unfold swp
      by_cases c1 : j = i + drU (z * 1103515245 + 12345) % (N - i)
      · rw [if_pos c1, c1, mI_sI_s]
      · rw [if_neg c1, mI_sI_k _ _ c1]
        by_cases c2 : j = i
        · rw [if_pos c2, c2, mI_sI_s]
        · rw [if_neg c2, mI_sI_k _ _ c2]
          exact h20 j hj
set_option maxHeartbeats 1000000 in
theorem drM_go {Q : Int32 → Mem → Prop} (hE : Env σ T N E.1 E.2.1 E.2.2.1 E.2.2.2) {l kd nu : Nat} (hkd : kd ≤ 5) (hl : l < 5) (ht : ∀ τ, Kp (SC σ T) σ τ → mI τ 40 l = nI kd ∧ mI τ 41 l = nI nu) : ∀ (d i : Nat) (z : Int32) (o : Nat → Nat) (τ : Mem), (i + d + 1 = N ∨ (N = 0 ∧ i = 0 ∧ d = 0)) → Kp (SC σ T) σ τ → (∀ j, j < N → o j < N) → (∀ j, j < N → mI τ 53 j = nI (o j)) → (∀ τ', Kp (fun a k => FM a k ∨ a = 53) τ τ' → (∀ j, j < 8 → mI τ' 53 j = nI j) → Q (nI (laA E kd nu (drGo N d i z o) N).1.1) τ') → w_X12_drawn_16 Q (d + 1) (nI l) z (nI i) τ := by
  have hN := hE.1
  intro d
  induction d with
  | zero =>
    intro i z o τ hd hk ho h20 hq
    have hle : nI N - 1 ≤ nI i := by
      rcases hd with hd | ⟨h1, h2, h3⟩
      · rw [nI_m1 (by omega)]
        exact nI_le (by omega) (by omega)
      · subst h1; subst h2; decide
    rw [w_X12_drawn_16, (hE.2.2.2.2.2.1 τ hk).2.1]
    refine ⟨fun _ => ?_, fun c => absurd hle c⟩
    refine laM_ok (o := o) hE ho hkd hl ht hk h20 (fun τ2 k2 hH h34 f => asT_ok (fun τ3 k3 h53 => ?_))
    rw [k3.2.2.2 _ _ (by omega), hH.1]
    exact hq τ3 ((k2.mono (fun a k q => Or.inl q)).tr (k3.mono (fun a k q => Or.inr q))) h53
  | succ d ih =>
    intro i z o τ hd hk ho h20 hq
    have e1 : nI i + 1 = nI (i + 1) := nI_add i 1
    have nle : ¬ nI N - 1 ≤ nI i := by
      rw [nI_m1 (by omega)]
      exact fun z => of_eq_false (k_nle (a := N - 1) (b := i) (by omega) (by omega)) z
    have hm : drU (z * 1103515245 + 12345) % (N - i) < N - i := Nat.mod_lt _ (by omega)
    have h0 := (hE.2.2.2.2.2.1 τ hk).2.1
    rw [w_X12_drawn_16, h0, e1]
    refine ⟨fun c => absurd c nle, fun _ => ⟨?_, fun v hv => ?_⟩⟩
    · rw [k_sub (by omega), show (0 : Int32) = nI 0 from rfl, nI_eq (by omega) (by omega)]
      omega
    · rw [dr_ix _ hN (by omega)] at hv
      subst hv
      have v1 : vp_in (nI i) 8 := vp_in_nI (by omega) (by omega)
      have v2 : vp_in (nI (i + drU (z * 1103515245 + 12345) % (N - i))) 8 := vp_in_nI (by omega) (by omega)
      refine ⟨v1, fun w1 hw1 => ⟨v2, fun w2 hw2 => ⟨v1, v2, ?_⟩⟩⟩
      rw [k_cl (by omega), h20 i (by omega)] at hw1
      rw [k_cl (by omega), h20 _ (by omega)] at hw2
      subst hw1
      subst hw2
      rw [k_cl (by omega), k_cl (by omega)]
      have k0 : Kp (fun a k => FM a k ∨ a = 53) τ (sI (sI τ 53 i (nI (o (i + drU (z * 1103515245 + 12345) % (N - i))))) 53 (i + drU (z * 1103515245 + 12345) % (N - i)) (nI (o i))) := Kp.sI (Kp.sI Kp.rf _ (Or.inr rfl)) _ (Or.inr rfl)
      refine ih (i + 1) _ (swp o i (i + drU (z * 1103515245 + 12345) % (N - i))) _ (by omega) (hk.tr (k0.mono (fun a k q => ?_))) (swp_lt ho (by omega) (by omega)) (fun j hj => ?_) (fun τ' k1 => hq τ' (k0.tr k1))
      · rcases q with q | q
        · exact Or.inl (FM.sc q)
        · unfold SC SC0; omega
      · unfold swp
        by_cases c1 : j = i + drU (z * 1103515245 + 12345) % (N - i)
        · rw [if_pos c1, c1, mI_sI_s]
        · rw [if_neg c1, mI_sI_k _ _ c1]
          by_cases c2 : j = i
          · rw [if_pos c2, c2, mI_sI_s]
          · rw [if_neg c2, mI_sI_k _ _ c2]
            exact h20 j hj
end DrawnA
set_option maxHeartbeats 1000000 in
theorem p_drawn (σ : Mem) (x0 x1 : Int32) (h : Rel σ) : w_X11_drawn σ x0 x1 (fun r1 s1 => w_X12_drawn s1 x0 x1 (fun r2 s2 => r1 = r2 ∧ Rel s2)) := by
  obtain ⟨N, L, T, hx⟩ := h.x
  obtain ⟨E, hE, -, -⟩ := env_ex hx
  have hN := hE.1
  have h53 : ∀ j, j < 8 → mI σ 53 j = nI j := hx.2.2.2.2.2.2.2.2.2.2.1
  unfold w_X11_drawn w_X12_drawn
  rcases lay_cases hx x0 with ⟨c1, c2⟩ | ⟨l, a, kd, nu, hl, hl5, rfl, hkd, ht, htM, d1, d2, -⟩
  · exact c1 _ σ Kp.rf ⟨fun _ => c2 _ σ Kp.rf ⟨fun c => absurd rfl c, fun _ => ⟨rfl, h⟩⟩, fun r hr => (by cases hr)⟩
  · refine d1 _ σ Kp.rf ⟨fun c => (by cases c), fun r hr => ?_⟩
    cases hr
    refine order_ok hN (hE.2.2.2.2.2.1 σ Kp.rf).1 (fun τ0 k0 h20 => ?_)
    have k0' : Kp (FC σ T) σ τ0 := k0.mono (fun a k q => Or.inr (Or.inr (by omega)))
    refine ⟨(N - 1) + 1, drC_go hE hkd ht (N - 1) 0 x1 (fun j => j) τ0 (by omega) (k0'.mono (fun a k q => Or.inl q.sc)) (fun j hj => hj) h20 (fun τ1 k1 => ?_)⟩
    have kk := k0'.tr k1
    have hk1 : Kp (SC0 σ T) σ τ1 := kk.mono (fun a k q => q.sc)
    refine d2 _ τ1 hk1.s0 ⟨fun _ => ?_, fun c => absurd c (by decide)⟩
    refine ⟨(N - 1) + 1, drM_go hE hkd hl5 htM (N - 1) 0 x1 (fun j => j) τ1 (by omega) hk1.s0 (fun j hj => hj) (fun j hj => by rw [FC.n53 hE kk]; exact h53 j (by omega)) (fun τ2 k2 g53 => ⟨rfl, ?_⟩)⟩
    refine (hx.sc (hk1.tr (k2.mono (fun a k q => ?_))) g53).rel
    rcases q with q | q
    · exact FM.sc q
    · unfold SC0; omega
