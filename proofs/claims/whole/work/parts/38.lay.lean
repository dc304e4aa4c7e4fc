/-! STAGE 2: all laid in an order -/
def laA (E : EN) (kd nu : Nat) (o : Nat → Nat) : Nat → HP × Nat
  | 0 => ((0, fun _ => 0, fun _ _ => 0), 0)
  | i + 1 => (puA (laA E kd nu o i).1 (chA E kd nu (laA E kd nu o i).1 (o i)) (o i), (laA E kd nu o i).2 + payA E (laA E kd nu o i).1 (chA E kd nu (laA E kd nu o i).1 (o i)) (o i))
def laW (E : EN) (kd nu : Nat) (o : Nat → Nat) (i : Nat) : Nat := chA E kd nu (laA E kd nu o i).1 (o i)
def laB (E : EN) (kd nu : Nat) (o : Nat → Nat) (i : Nat) : Int32 := topI (laA E kd nu o i).1 (laW E kd nu o i)
theorem laA_ok {E : EN} {kd nu N n : Nat} {o : Nat → Nat} (ho : ∀ j, j < n → o j < N) : ∀ i, i ≤ n → okH N i (laA E kd nu o i).1 ∧ ∀ k, k < (laA E kd nu o i).1.1 → 0 < (laA E kd nu o i).1.2.1 k
  | 0, _ => ⟨⟨Nat.le_refl _, fun h hh => absurd hh (Nat.not_lt_zero _), fun h k hh => absurd hh (Nat.not_lt_zero _)⟩, fun k hk => absurd hk (Nat.not_lt_zero _)⟩
  | i + 1, hi => by
    obtain ⟨h1, h2⟩ := laA_ok ho i (by omega)
    exact ⟨h1.put (chA_le _ _ _ _ _) (ho i (by omega)), posH_put h2 (chA_le _ _ _ _ _)⟩
theorem laA_cong {E : EN} {kd nu : Nat} {o o' : Nat → Nat} : ∀ i, (∀ j, j < i → o j = o' j) → laA E kd nu o i = laA E kd nu o' i
  | 0, _ => rfl
  | i + 1, h => by
    have e := laA_cong (E := E) (kd := kd) (nu := nu) i (fun j hj => h j (by omega))
    rw [laA, laA, e, h i (by omega)]
section LayA
variable {σ : Mem} {T N : Nat} {E : EN} {n : Nat} {o : Nat → Nat}
set_option maxHeartbeats 2000000 in
theorem laC_go {Q : Int32 → Mem → Prop} (hE : Env σ T N E.1 E.2.1 E.2.2.1 E.2.2.2) (hn : n ≤ 8) (ho : ∀ j, j < n → o j < N) {a kd nu : Nat} (hkd : kd ≤ 5) (ht : ∀ τ, Kp (SC σ T) σ τ → mT τ a = some (kcl kd, 0) ∧ mI τ a 1 = nI nu) : ∀ (d i : Nat) (τ : Mem), i + d = n → Kp (SC σ T) σ τ → hoA 15 2 17 16 τ (laA E kd nu o i).1 → (∀ j, j < n → mI τ 20 j = nI (o j)) → (∀ τ', Kp (fun a k => txs σ T a ∨ (a = 15 ∧ k = 2) ∨ (16 ≤ a ∧ a ≤ 19)) τ τ' → hoA 15 2 17 16 τ' (laA E kd nu o n).1 → (∀ q, (∀ j, i ≤ j → j < n → o j ≠ q) → mI τ' 18 q = mI τ 18 q ∧ mI τ' 19 q = mI τ 19 q) → (∀ j, i ≤ j → j < n → (∀ j', j < j' → j' < n → o j' ≠ o j) → mI τ' 18 (o j) = nI (laW E kd nu o j) ∧ mI τ' 19 (o j) = laB E kd nu o j) → Q (nI (laA E kd nu o n).2) τ') → w_X11_layInOrder_12 Q (d + 1) a (nI n) (nI (laA E kd nu o i).2) (nI i) τ := by
  have hN : N ≤ 8 := hE.1
  intro d
  induction d with
  | zero =>
    intro i τ hd hk hH h20 hq
    have e : i = n := by omega
    subst e
    rw [w_X11_layInOrder_12]
    refine ⟨fun _ => hq τ Kp.rf hH (fun q _ => ⟨rfl, rfl⟩) (fun j h1 h2 => by omega), fun c => absurd (Int32.le_refl _) c⟩
  | succ d ih =>
    intro i τ hd hk hH h20 hq
    have hi : i < n := by omega
    obtain ⟨okA, posA⟩ := laA_ok (E := E) (kd := kd) (nu := nu) ho i (by omega)
    have hp := ho i hi
    have hle := chA_le E kd nu (laA E kd nu o i).1 (o i)
    have hv : vp_in (nI i) 8 := vp_in_nI (by omega) (by omega)
    have nle : ¬ nI n ≤ nI i := fun z => of_eq_false (k_nle (a := n) (b := i) (by omega) (by omega)) z
    rw [w_X11_layInOrder_12, k_cl (by omega)]
    refine ⟨fun c => absurd c nle, fun _ => ⟨hv, ?_⟩⟩
    rw [h20 i hi]
    refine ch_ok_15 hE hk hH okA (by omega) hp hkd ht (fun τ1 k1 => ⟨hv, ?_⟩)
    have hk1 := hk.cwsc k1
    have hH1 := hH.cw hE k1 (by decide) (by decide) (by decide)
    rw [hE.cw k1 (a := 20) (by omega) i, h20 i hi]
    refine price_ok hE hk1 hH1 okA (by omega) hle hp (fun τ2 k2 => ⟨hv, ?_⟩)
    have hk2 := hk1.cwsc k2
    have hH2 := hH1.cw hE k2 (by decide) (by decide) (by decide)
    rw [hE.cw k2 (a := 20) (by omega) i, hE.cw k1 (a := 20) (by omega) i, h20 i hi]
    refine put_ok_15 hH2 okA (by omega) hN hle hp (fun τ3 k3 hH3 e1 e2 e3 => ?_)
    have k13 : Kp (fun a k => txs σ T a ∨ (a = 15 ∧ k = 2) ∨ (16 ≤ a ∧ a ≤ 19)) τ τ3 := ((k1.tr k2).mono (fun a k q => Or.inl q)).tr (k3.mono (fun a k q => Or.inr q))
    have hk3 : Kp (SC σ T) σ τ3 := hk2.tr (k3.mono (fun a k q => by
      rcases q with q | q
      · exact Or.inl (Or.inr (Or.inl q))
      · exact Or.inl (Or.inr (Or.inr (Or.inl (by omega))))))
    rw [nI_add, show nI i + 1 = nI (i + 1) from nI_add i 1]
    refine ih (i + 1) τ3 (by omega) hk3 hH3 (fun j hj => ?_) (fun τ4 k4 hH4 f1 f2 => ?_)
    · rw [k3.2.2.2 _ _ (by omega), hE.cw k2 (a := 20) (by omega) j, hE.cw k1 (a := 20) (by omega) j]
      exact h20 j hj
    · have c12 : ∀ q, mI τ2 18 q = mI τ 18 q ∧ mI τ2 19 q = mI τ 19 q := fun q => by
        rw [hE.cw k2 (a := 18) (by omega), hE.cw k1 (a := 18) (by omega), hE.cw k2 (a := 19) (by omega), hE.cw k1 (a := 19) (by omega)]
        exact ⟨rfl, rfl⟩
      refine hq τ4 (k13.tr k4) hH4 (fun q hq1 => ?_) (fun j h1 h2 h3 => ?_)
      · obtain ⟨g1, g2⟩ := f1 q (fun j h1 h2 => hq1 j (by omega) h2)
        obtain ⟨g3, g4⟩ := e3 q (fun z => hq1 i (Nat.le_refl _) hi z.symm)
        rw [g1, g2, g3, g4]
        exact c12 q
      · by_cases c : j = i
        · subst c
          obtain ⟨g1, g2⟩ := f1 (o j) (fun j' z1 z2 => h3 j' (by omega) z2)
          rw [g1, g2]
          exact ⟨e1, e2⟩
        · exact f2 j (by omega) h2 h3
theorem laC_ok {τ : Mem} {Q : Int32 → Mem → Prop} (hE : Env σ T N E.1 E.2.1 E.2.2.1 E.2.2.2) (hn : n ≤ 8) (ho : ∀ j, j < n → o j < N) {a kd nu : Nat} (hkd : kd ≤ 5) (ht : ∀ τ, Kp (SC σ T) σ τ → mT τ a = some (kcl kd, 0) ∧ mI τ a 1 = nI nu) (hk : Kp (SC σ T) σ τ) (h20 : ∀ j, j < n → mI τ 20 j = nI (o j)) (hq : ∀ τ', Kp (fun a k => txs σ T a ∨ (a = 15 ∧ k = 2) ∨ (16 ≤ a ∧ a ≤ 19)) τ τ' → hoA 15 2 17 16 τ' (laA E kd nu o n).1 → (∀ j, j < n → (∀ j', j < j' → j' < n → o j' ≠ o j) → mI τ' 18 (o j) = nI (laW E kd nu o j) ∧ mI τ' 19 (o j) = laB E kd nu o j) → Q (nI (laA E kd nu o n).2) τ') : w_X11_layInOrder τ a (nI n) Q := by
  unfold w_X11_layInOrder w_X1_clear_15
  have k0 : Kp (fun a k => txs σ T a ∨ (a = 15 ∧ k = 2) ∨ (16 ≤ a ∧ a ≤ 19)) τ (sI τ 15 2 0) := (by repeat (first | exact Kp.rf | refine Kp.sI ?_ _ (by first | exact rfl | omega | (dsimp only; omega))))
  refine ⟨n + 1, laC_go hE hn ho hkd ht n 0 (sI τ 15 2 0) (by omega) (hk.sI _ (Or.inl (Or.inr (Or.inl ⟨rfl, rfl⟩)))) ⟨by rw [mI_sI_s]; rfl, fun h hh => absurd hh (Nat.not_lt_zero _), fun h k hh => absurd hh (Nat.not_lt_zero _)⟩ (fun j hj => by rw [mI_sI_n _ _ (by omega)]; exact h20 j hj) (fun τ' k1 hH _ f2 => hq τ' (k0.tr k1) hH (fun j h2 h3 => f2 j (by omega) h2 h3))⟩
set_option maxHeartbeats 2000000 in
theorem laM_go {Q : Mem → Prop} (hE : Env σ T N E.1 E.2.1 E.2.2.1 E.2.2.2) (ho : ∀ j, j < N → o j < N) {l kd nu : Nat} (hkd : kd ≤ 5) (hl : l < 5) (ht : ∀ τ, Kp (SC σ T) σ τ → mI τ 40 l = nI kd ∧ mI τ 41 l = nI nu) : ∀ (d i : Nat) (τ : Mem), i + d = N → Kp (SC σ T) σ τ → hoA 37 28 51 52 τ (laA E kd nu o i).1 → mI τ 37 34 = nI (laA E kd nu o i).2 → (∀ j, j < N → mI τ 53 j = nI (o j)) → (∀ τ', Kp (fun a k => a = 49 ∨ a = 50 ∨ (a = 37 ∧ (k = 28 ∨ k = 34)) ∨ a = 51 ∨ a = 52 ∨ a = 54 ∨ a = 55) τ τ' → hoA 37 28 51 52 τ' (laA E kd nu o N).1 → mI τ' 37 34 = nI (laA E kd nu o N).2 → (∀ q, (∀ j, i ≤ j → j < N → o j ≠ q) → mI τ' 54 q = mI τ 54 q ∧ mI τ' 55 q = mI τ 55 q) → (∀ j, i ≤ j → j < N → (∀ j', j < j' → j' < N → o j' ≠ o j) → mI τ' 54 (o j) = nI (laW E kd nu o j) ∧ mI τ' 55 (o j) = laB E kd nu o j) → Q τ') → w_X12_layAll_12 Q (d + 1) (nI l) (nI i) τ := by
  have hN : N ≤ 8 := hE.1
  intro d
  induction d with
  | zero =>
    intro i τ hd hk hH h34 h53 hq
    have e : i = N := by omega
    subst e
    rw [w_X12_layAll_12, (hE.2.2.2.2.2.1 τ hk).2.1]
    refine ⟨fun _ => hq τ Kp.rf hH h34 (fun q _ => ⟨rfl, rfl⟩) (fun j h1 h2 => by omega), fun c => absurd (Int32.le_refl _) c⟩
  | succ d ih =>
    intro i τ hd hk hH h34 h53 hq
    have hi : i < N := by omega
    obtain ⟨okA, posA⟩ := laA_ok (E := E) (kd := kd) (nu := nu) ho i (by omega)
    have hp := ho i hi
    have hle := chA_le E kd nu (laA E kd nu o i).1 (o i)
    have h1 := okA.1
    have hv : vp_in (nI i) 8 := vp_in_nI (by omega) (by omega)
    have hvp : vp_in (nI (o i)) 8 := vp_in_nI (by omega) (by omega)
    have nle : ¬ nI N ≤ nI i := fun z => of_eq_false (k_nle (a := N) (b := i) (by omega) (by omega)) z
    rw [w_X12_layAll_12, k_cl (by omega), (hE.2.2.2.2.2.1 τ hk).2.1]
    refine ⟨fun c => absurd c nle, fun _ => ⟨hv, fun v hv1 => ?_⟩⟩
    rw [h53 i hi] at hv1
    subst hv1
    refine chM_ok hE hk hH okA (by omega) hp hkd hl ht (fun τ1 k1 => ?_)
    have hk1 := hk.m5 k1
    have hH1 := hH.m5 k1
    refine payM_ok hE hk1 hH1 okA (by omega) hle hp (fun τ2 τ3 k2 k3 => ⟨hvp, ?_⟩)
    have k13 : Kp (fun a k => a = 49 ∨ a = 50 ∨ (a = 37 ∧ (k = 28 ∨ k = 34)) ∨ a = 51 ∨ a = 52 ∨ a = 54 ∨ a = 55) τ τ3 := (k1.tr k3).mono (fun a k q => by omega)
    have e34 : mI τ2 37 34 = nI (laA E kd nu o i).2 := by rw [k2.2.2.2 _ _ (by omega), k1.2.2.2 _ _ (by omega)]; exact h34
    have hH3 := hH1.m5 k3
    have hk3 := hk1.m5 k3
    rw [e34, nI_add, hH3.1, k_cl (a := o i) (by omega)]
    have go : ∀ b : Int32, b = laB E kd nu o i → w_X12_layAll_105 Q (fun z0 z1 z2 => w_X12_layAll_12 Q (d + 1) z0 z1 z2) (nI l) (nI i) (nI (o i)) (nI (laW E kd nu o i)) b (nI (o i)) (sI (sI τ3 37 34 (nI ((laA E kd nu o i).2 + payA E (laA E kd nu o i).1 (chA E kd nu (laA E kd nu o i).1 (o i)) (o i)))) 54 (o i) (nI (laW E kd nu o i))) := by
      intro b hb
      subst hb
      unfold w_X12_layAll_105
      rw [k_cl (a := o i) (by omega), show nI i + 1 = nI (i + 1) from nI_add i 1]
      refine ⟨hvp, ?_⟩
      have k4 : Kp (fun a k => a = 49 ∨ a = 50 ∨ (a = 37 ∧ (k = 28 ∨ k = 34)) ∨ a = 51 ∨ a = 52 ∨ a = 54 ∨ a = 55) τ (sI (sI (sI τ3 37 34 (nI ((laA E kd nu o i).2 + payA E (laA E kd nu o i).1 (chA E kd nu (laA E kd nu o i).1 (o i)) (o i)))) 54 (o i) (nI (laW E kd nu o i))) 55 (o i) (laB E kd nu o i)) := ((k13.sI _ (by omega)).sI _ (by omega)).sI _ (by omega)
      refine putM_ok (H := (laA E kd nu o i).1) (hH3.fr (F := fun a k => (a = 37 ∧ k = 34) ∨ a = 54 ∨ a = 55) ((by repeat (first | exact Kp.rf | refine Kp.sI ?_ _ (by first | exact rfl | omega | (dsimp only; omega))))) (by omega) (fun i => by omega) (fun i => by omega)) okA (by omega) hN hle hp (fun τ5 k5 hH5 => ?_)
      have k15 := k4.tr (k5.mono (G := fun a k => a = 49 ∨ a = 50 ∨ (a = 37 ∧ (k = 28 ∨ k = 34)) ∨ a = 51 ∨ a = 52 ∨ a = 54 ∨ a = 55) (fun a k q => by omega))
      refine ih (i + 1) τ5 (by omega) (hk.tr (k15.mono (fun a k q => by unfold SC SC0; omega))) hH5 ?_ (fun j hj => ?_) (fun τ6 k6 hH6 f0 f1 f2 => ?_)
      · rw [k5.2.2.2 _ _ (by omega), mI_sI_n _ _ (by omega), mI_sI_n _ _ (by omega), mI_sI_s]; rfl
      · rw [k15.2.2.2 _ _ (by omega)]; exact h53 j hj
      · refine hq τ6 (k15.tr k6) hH6 f0 (fun q hq1 => ?_) (fun j h1 h2 h3 => ?_)
        · obtain ⟨g1, g2⟩ := f1 q (fun j h1 h2 => hq1 j (by omega) h2)
          have hne : q ≠ o i := fun z => hq1 i (Nat.le_refl _) hi z.symm
          rw [g1, g2, k5.2.2.2 _ _ (by omega), k5.2.2.2 _ _ (by omega), mI_sI_n _ _ (by omega), mI_sI_k _ _ hne, mI_sI_k _ _ hne, mI_sI_n _ _ (by omega), mI_sI_n _ _ (by omega), mI_sI_n _ _ (by omega), k3.2.2.2 _ _ (by omega), k1.2.2.2 _ _ (by omega), k3.2.2.2 _ _ (by omega), k1.2.2.2 _ _ (by omega)]
          exact ⟨rfl, rfl⟩
        · by_cases c : j = i
          · subst c
            obtain ⟨g1, g2⟩ := f1 (o j) (fun j' z1 z2 => h3 j' (by omega) z2)
            rw [g1, g2, k5.2.2.2 _ _ (by omega), k5.2.2.2 _ _ (by omega), mI_sI_n _ _ (by omega), mI_sI_s, mI_sI_s]
            exact ⟨rfl, rfl⟩
          · exact f2 j (by omega) h2 h3
    refine ⟨fun c => ?_, fun c => ?_⟩
    · have hlt : chA E kd nu (laA E kd nu o i).1 (o i) < (laA E kd nu o i).1.1 := by
        rcases Nat.lt_or_ge (chA E kd nu (laA E kd nu o i).1 (o i)) (laA E kd nu o i).1.1 with q | q
        · exact q
        · exact absurd (by rw [show chA E kd nu (laA E kd nu o i).1 (o i) = (laA E kd nu o i).1.1 by omega]) c
      have hps := posA _ hlt
      have e2 := hH3.2.1 _ hlt
      have h0 := okA.hg (chA E kd nu (laA E kd nu o i).1 (o i))
      rw [← hgt_lt hlt] at e2 hps
      have e3 : (8 : Int32) * nI (chA E kd nu (laA E kd nu o i).1 (o i)) + nI (hgt (laA E kd nu o i).1 (chA E kd nu (laA E kd nu o i).1 (o i))) - 1 = nI (8 * chA E kd nu (laA E kd nu o i).1 (o i) + (hgt (laA E kd nu o i).1 (chA E kd nu (laA E kd nu o i).1 (o i)) - 1)) := by
        rw [show (8 : Int32) = nI 8 from rfl, show (1 : Int32) = nI 1 from rfl, k_mul, nI_add, k_sub (by omega)]
        congr 1
        omega
      have e4 := hH3.2.2 _ (hgt (laA E kd nu o i).1 (chA E kd nu (laA E kd nu o i).1 (o i)) - 1) hlt (by rw [hgt_lt hlt] at hps ⊢; omega)
      rw [k_cl (a := chA E kd nu (laA E kd nu o i).1 (o i)) (by omega), e2, e3, k_cl (by omega), e4]
      refine ⟨vp_in_nI (by omega) (by omega), vp_in_nI (by omega) (by omega), go _ ?_⟩
      unfold laB topI
      have hps' : 0 < hgt (laA E kd nu o i).1 (laW E kd nu o i) := hps
      rw [if_pos hps']
      rfl
    · have he : ¬ chA E kd nu (laA E kd nu o i).1 (o i) < (laA E kd nu o i).1.1 := by
        rw [nI_eq (by omega) (by omega)] at c
        omega
      refine go _ ?_
      unfold laB topI
      have he' : hgt (laA E kd nu o i).1 (laW E kd nu o i) = 0 := hgt_ge he
      rw [he', if_neg (by omega)]
theorem laM_ok {τ : Mem} {Q : Mem → Prop} (hE : Env σ T N E.1 E.2.1 E.2.2.1 E.2.2.2) (ho : ∀ j, j < N → o j < N) {l kd nu : Nat} (hkd : kd ≤ 5) (hl : l < 5) (ht : ∀ τ, Kp (SC σ T) σ τ → mI τ 40 l = nI kd ∧ mI τ 41 l = nI nu) (hk : Kp (SC σ T) σ τ) (h53 : ∀ j, j < N → mI τ 53 j = nI (o j)) (hq : ∀ τ', Kp (fun a k => a = 49 ∨ a = 50 ∨ (a = 37 ∧ (k = 28 ∨ k = 34)) ∨ a = 51 ∨ a = 52 ∨ a = 54 ∨ a = 55) τ τ' → hoA 37 28 51 52 τ' (laA E kd nu o N).1 → mI τ' 37 34 = nI (laA E kd nu o N).2 → (∀ j, j < N → (∀ j', j < j' → j' < N → o j' ≠ o j) → mI τ' 54 (o j) = nI (laW E kd nu o j) ∧ mI τ' 55 (o j) = laB E kd nu o j) → Q τ') : w_X12_layAll τ (nI l) Q := by
  unfold w_X12_layAll
  have k0 : Kp (fun a k => a = 49 ∨ a = 50 ∨ (a = 37 ∧ (k = 28 ∨ k = 34)) ∨ a = 51 ∨ a = 52 ∨ a = 54 ∨ a = 55) τ (sI (sI τ 37 28 0) 37 34 0) := (by repeat (first | exact Kp.rf | refine Kp.sI ?_ _ (by first | exact rfl | omega | (dsimp only; omega))))
  refine ⟨N + 1, laM_go hE ho hkd hl ht N 0 _ (by omega) (hk.tr (k0.mono (fun a k q => by unfold SC SC0; omega))) ⟨by rw [mI_sI_k _ _ (by omega), mI_sI_s]; rfl, fun h hh => absurd hh (Nat.not_lt_zero _), fun h k hh => absurd hh (Nat.not_lt_zero _)⟩ (by rw [mI_sI_s]; rfl) (fun j hj => by rw [mI_sI_n _ _ (by omega), mI_sI_n _ _ (by omega)]; exact h53 j hj) (fun τ' k1 hH f0 _ f2 => hq τ' (k0.tr k1) hH f0 (fun j h2 h3 => f2 j (by omega) h2 h3))⟩
end LayA
