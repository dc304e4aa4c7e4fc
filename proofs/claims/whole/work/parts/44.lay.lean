/-! STAGE 2: the model's moves; lay -/
theorem RelX.sct {σ τ : Mem} {N L T : Nat} (h : RelX σ N L T) (hk : Kp (SC σ T) σ τ) (h53 : ∀ k, k < 8 → mI τ 53 k = nI k) (hTb' : rTb τ N) : RelX τ N L T := by
  obtain ⟨hS, hL, hPl, hLa, hTx, hHi, hTa, hTb, hIm, hSh, hMo⟩ := h
  refine ⟨hk.mS hS, by rw [hk.2.2.1]; exact hL, hPl.fr hk (fun q => by have := SC.st hTx q; omega) (fun q => by have := SC.st hTx q; omega) (fun i q => by have := SC.st hTx q; omega) (fun i q => by have := SC.st hTx q; omega) (fun i q => by have := SC.st hTx q; omega) (fun i q => by have := SC.st hTx q; omega), hLa.fr hk (fun q => by have := SC.st hTx q; omega) (fun q => by have := SC.st hTx q; omega) (fun a i ha hc q => ?_) (fun i q => by have := SC.st hTx q; omega) (fun i q => by have := SC.st hTx q; omega), hTx.fr hk (fun q => by have := SC.st hTx q; omega) (fun q => by have := SC.st hTx q; omega) (fun a i hc q => ?_) (fun i q => by have := SC.st hTx q; omega) (fun i q => by have := SC.st hTx q; omega), hHi.fr hk (fun q => by have := SC.st hTx q; omega) (fun q => by have := SC.st hTx q; omega) (fun q => by have := SC.st hTx q; omega) (fun q => by have := SC.st hTx q; omega), hTa.fr hk (fun q => by have := SC.st hTx q; omega) (fun q => by have := SC.st hTx q; omega) (fun i q => by have := SC.st hTx q; omega) (fun i q => by have := SC.st hTx q; omega), hTb', hIm.fr hk ⟨fun q => by have := SC.st hTx q; omega, fun q => by have := SC.st hTx q; omega, fun q => by have := SC.st hTx q; omega, fun q => by have := SC.st hTx q; omega, fun q => by have := SC.st hTx q; omega⟩ (fun a i hc q => ?_) (fun i q => by have := SC.st hTx q; omega) (fun i q => by have := SC.st hTx q; omega), hSh.fr hk (fun a i h1 h2 q => by have := SC.st hTx q; omega) (fun i q => by have := SC.st hTx q; omega) (fun i q => by have := SC.st hTx q; omega) (fun i q => by have := SC.st hTx q; omega), h53, fun i hi => by rw [hk.2.2.2 _ _ (fun q => by have := SC.st hTx q; omega)]; exact hMo.2.1 i hi, fun i hi => by rw [hk.2.2.2 _ _ (fun q => by have := SC.st hTx q; omega)]; exact hMo.2.2 i hi⟩
  · unfold SC SC0 tbl at q
    rcases q with (q | q | q | q | q | q | q) | q
    · omega
    · omega
    · omega
    · omega
    · omega
    · omega
    · obtain ⟨n, hn⟩ := q.kind hTx
      obtain ⟨kd, hkd⟩ := hc
      rw [hn] at hkd
      have := (Prod.mk.inj (Option.some.inj hkd)).1
      unfold kcl at this
      split at this <;> omega
    · omega
  · have hd := hc.dyn hTx
    unfold dyn at hd
    unfold SC SC0 tbl at q
    rcases q with (q | q | q | q | q | q | q) | q
    · omega
    · omega
    · omega
    · omega
    · omega
    · omega
    · exact txs_txc hTx q hc
    · omega
  · have hd := hc.dyn hIm
    unfold SC SC0 tbl at q
    rcases q with (q | q | q | q | q | q | q) | q
    · omega
    · omega
    · omega
    · omega
    · omega
    · omega
    · exact txs_imc hTx hIm q hc
    · omega
theorem mv_60_51 {Q : Mem → Prop} : ∀ (d i : Nat) (τ : Mem), i + d = 8 → (∀ τ', Kp (fun a _ => a = 51) τ τ' → (∀ k, k < i → mI τ' 51 k = mI τ 51 k) → (∀ k, i ≤ k → k < 8 → mI τ' 51 k = mI τ 60 k) → Q τ') → w_X12_move_60_51_2 Q (d + 1) (nI i) τ := by
  intro d
  induction d with
  | zero =>
    intro i τ hd hq
    have e : i = 8 := by omega
    subst e
    rw [w_X12_move_60_51_2]
    exact ⟨fun _ => hq τ Kp.rf (fun k _ => rfl) (fun k h1 h2 => by omega), fun c => absurd (Int32.le_refl _) c⟩
  | succ d ih =>
    intro i τ hd hq
    have nle : ¬ (8 : Int32) ≤ nI i := fun z => of_eq_false (k_nle (a := 8) (b := i) (by omega) (by omega)) z
    have vp : vp_in (nI i) 8 := vp_in_nI (by omega) (by omega)
    rw [w_X12_move_60_51_2, k_cl (by omega), show nI i + 1 = nI (i + 1) from nI_add i 1]
    refine ⟨fun c => absurd c nle, fun _ => ⟨vp, fun v hv => ⟨vp, ?_⟩⟩⟩
    subst hv
    have k0 : Kp (fun a _ => a = 51) τ (sI τ 51 i (mI τ 60 i)) := (by repeat (first | exact Kp.rf | refine Kp.sI ?_ _ (by first | exact rfl | omega | (dsimp only; omega))))
    refine ih (i + 1) _ (by omega) (fun τ' k1 h1 h2 => hq τ' (k0.tr k1) (fun k hk => ?_) (fun k g1 g2 => ?_))
    · rw [h1 k (by omega), mI_sI_k _ _ (by omega)]
    · by_cases c : k = i
      · rw [h1 k (by omega), c, mI_sI_s]
      · rw [h2 k (by omega) g2, mI_sI_n _ _ (by omega)]
theorem mvo_60_51 {Q : Mem → Prop} {τ : Mem} (hq : ∀ τ', Kp (fun a _ => a = 51) τ τ' → (∀ k, k < 8 → mI τ' 51 k = mI τ 60 k) → Q τ') : w_X12_move_60_51 τ Q := ⟨9, mv_60_51 8 0 τ (by omega) (fun τ' k _ h => hq τ' k (fun k hk => h k (by omega) hk))⟩
theorem mv_61_52 {Q : Mem → Prop} : ∀ (d i : Nat) (τ : Mem), i + d = 64 → (∀ τ', Kp (fun a _ => a = 52) τ τ' → (∀ k, k < i → mI τ' 52 k = mI τ 52 k) → (∀ k, i ≤ k → k < 64 → mI τ' 52 k = mI τ 61 k) → Q τ') → w_X12_move_61_52_2 Q (d + 1) (nI i) τ := by
  intro d
  induction d with
  | zero =>
    intro i τ hd hq
    have e : i = 64 := by omega
    subst e
    rw [w_X12_move_61_52_2]
    exact ⟨fun _ => hq τ Kp.rf (fun k _ => rfl) (fun k h1 h2 => by omega), fun c => absurd (Int32.le_refl _) c⟩
  | succ d ih =>
    intro i τ hd hq
    have nle : ¬ (64 : Int32) ≤ nI i := fun z => of_eq_false (k_nle (a := 64) (b := i) (by omega) (by omega)) z
    have vp : vp_in (nI i) 64 := vp_in_nI (by omega) (by omega)
    rw [w_X12_move_61_52_2, k_cl (by omega), show nI i + 1 = nI (i + 1) from nI_add i 1]
    refine ⟨fun c => absurd c nle, fun _ => ⟨vp, fun v hv => ⟨vp, ?_⟩⟩⟩
    subst hv
    have k0 : Kp (fun a _ => a = 52) τ (sI τ 52 i (mI τ 61 i)) := (by repeat (first | exact Kp.rf | refine Kp.sI ?_ _ (by first | exact rfl | omega | (dsimp only; omega))))
    refine ih (i + 1) _ (by omega) (fun τ' k1 h1 h2 => hq τ' (k0.tr k1) (fun k hk => ?_) (fun k g1 g2 => ?_))
    · rw [h1 k (by omega), mI_sI_k _ _ (by omega)]
    · by_cases c : k = i
      · rw [h1 k (by omega), c, mI_sI_s]
      · rw [h2 k (by omega) g2, mI_sI_n _ _ (by omega)]
theorem mvo_61_52 {Q : Mem → Prop} {τ : Mem} (hq : ∀ τ', Kp (fun a _ => a = 52) τ τ' → (∀ k, k < 64 → mI τ' 52 k = mI τ 61 k) → Q τ') : w_X12_move_61_52 τ Q := ⟨65, mv_61_52 64 0 τ (by omega) (fun τ' k _ h => hq τ' k (fun k hk => h k (by omega) hk))⟩
theorem mv_51_60 {Q : Mem → Prop} : ∀ (d i : Nat) (τ : Mem), i + d = 8 → (∀ τ', Kp (fun a _ => a = 60) τ τ' → (∀ k, k < i → mI τ' 60 k = mI τ 60 k) → (∀ k, i ≤ k → k < 8 → mI τ' 60 k = mI τ 51 k) → Q τ') → w_X12_move_51_60_2 Q (d + 1) (nI i) τ := by
  intro d
  induction d with
  | zero =>
    intro i τ hd hq
    have e : i = 8 := by omega
    subst e
    rw [w_X12_move_51_60_2]
    exact ⟨fun _ => hq τ Kp.rf (fun k _ => rfl) (fun k h1 h2 => by omega), fun c => absurd (Int32.le_refl _) c⟩
  | succ d ih =>
    intro i τ hd hq
    have nle : ¬ (8 : Int32) ≤ nI i := fun z => of_eq_false (k_nle (a := 8) (b := i) (by omega) (by omega)) z
    have vp : vp_in (nI i) 8 := vp_in_nI (by omega) (by omega)
    rw [w_X12_move_51_60_2, k_cl (by omega), show nI i + 1 = nI (i + 1) from nI_add i 1]
    refine ⟨fun c => absurd c nle, fun _ => ⟨vp, fun v hv => ⟨vp, ?_⟩⟩⟩
    subst hv
    have k0 : Kp (fun a _ => a = 60) τ (sI τ 60 i (mI τ 51 i)) := (by repeat (first | exact Kp.rf | refine Kp.sI ?_ _ (by first | exact rfl | omega | (dsimp only; omega))))
    refine ih (i + 1) _ (by omega) (fun τ' k1 h1 h2 => hq τ' (k0.tr k1) (fun k hk => ?_) (fun k g1 g2 => ?_))
    · rw [h1 k (by omega), mI_sI_k _ _ (by omega)]
    · by_cases c : k = i
      · rw [h1 k (by omega), c, mI_sI_s]
      · rw [h2 k (by omega) g2, mI_sI_n _ _ (by omega)]
theorem mvo_51_60 {Q : Mem → Prop} {τ : Mem} (hq : ∀ τ', Kp (fun a _ => a = 60) τ τ' → (∀ k, k < 8 → mI τ' 60 k = mI τ 51 k) → Q τ') : w_X12_move_51_60 τ Q := ⟨9, mv_51_60 8 0 τ (by omega) (fun τ' k _ h => hq τ' k (fun k hk => h k (by omega) hk))⟩
theorem mv_52_61 {Q : Mem → Prop} : ∀ (d i : Nat) (τ : Mem), i + d = 64 → (∀ τ', Kp (fun a _ => a = 61) τ τ' → (∀ k, k < i → mI τ' 61 k = mI τ 61 k) → (∀ k, i ≤ k → k < 64 → mI τ' 61 k = mI τ 52 k) → Q τ') → w_X12_move_52_61_2 Q (d + 1) (nI i) τ := by
  intro d
  induction d with
  | zero =>
    intro i τ hd hq
    have e : i = 64 := by omega
    subst e
    rw [w_X12_move_52_61_2]
    exact ⟨fun _ => hq τ Kp.rf (fun k _ => rfl) (fun k h1 h2 => by omega), fun c => absurd (Int32.le_refl _) c⟩
  | succ d ih =>
    intro i τ hd hq
    have nle : ¬ (64 : Int32) ≤ nI i := fun z => of_eq_false (k_nle (a := 64) (b := i) (by omega) (by omega)) z
    have vp : vp_in (nI i) 64 := vp_in_nI (by omega) (by omega)
    rw [w_X12_move_52_61_2, k_cl (by omega), show nI i + 1 = nI (i + 1) from nI_add i 1]
    refine ⟨fun c => absurd c nle, fun _ => ⟨vp, fun v hv => ⟨vp, ?_⟩⟩⟩
    subst hv
    have k0 : Kp (fun a _ => a = 61) τ (sI τ 61 i (mI τ 52 i)) := (by repeat (first | exact Kp.rf | refine Kp.sI ?_ _ (by first | exact rfl | omega | (dsimp only; omega))))
    refine ih (i + 1) _ (by omega) (fun τ' k1 h1 h2 => hq τ' (k0.tr k1) (fun k hk => ?_) (fun k g1 g2 => ?_))
    · rw [h1 k (by omega), mI_sI_k _ _ (by omega)]
    · by_cases c : k = i
      · rw [h1 k (by omega), c, mI_sI_s]
      · rw [h2 k (by omega) g2, mI_sI_n _ _ (by omega)]
theorem mvo_52_61 {Q : Mem → Prop} {τ : Mem} (hq : ∀ τ', Kp (fun a _ => a = 61) τ τ' → (∀ k, k < 64 → mI τ' 61 k = mI τ 52 k) → Q τ') : w_X12_move_52_61 τ Q := ⟨65, mv_52_61 64 0 τ (by omega) (fun τ' k _ h => hq τ' k (fun k hk => h k (by omega) hk))⟩
theorem mv_60_62 {Q : Mem → Prop} : ∀ (d i : Nat) (τ : Mem), i + d = 8 → (∀ τ', Kp (fun a _ => a = 62) τ τ' → (∀ k, k < i → mI τ' 62 k = mI τ 62 k) → (∀ k, i ≤ k → k < 8 → mI τ' 62 k = mI τ 60 k) → Q τ') → w_X12_move_60_62_2 Q (d + 1) (nI i) τ := by
  intro d
  induction d with
  | zero =>
    intro i τ hd hq
    have e : i = 8 := by omega
    subst e
    rw [w_X12_move_60_62_2]
    exact ⟨fun _ => hq τ Kp.rf (fun k _ => rfl) (fun k h1 h2 => by omega), fun c => absurd (Int32.le_refl _) c⟩
  | succ d ih =>
    intro i τ hd hq
    have nle : ¬ (8 : Int32) ≤ nI i := fun z => of_eq_false (k_nle (a := 8) (b := i) (by omega) (by omega)) z
    have vp : vp_in (nI i) 8 := vp_in_nI (by omega) (by omega)
    rw [w_X12_move_60_62_2, k_cl (by omega), show nI i + 1 = nI (i + 1) from nI_add i 1]
    refine ⟨fun c => absurd c nle, fun _ => ⟨vp, fun v hv => ⟨vp, ?_⟩⟩⟩
    subst hv
    have k0 : Kp (fun a _ => a = 62) τ (sI τ 62 i (mI τ 60 i)) := (by repeat (first | exact Kp.rf | refine Kp.sI ?_ _ (by first | exact rfl | omega | (dsimp only; omega))))
    refine ih (i + 1) _ (by omega) (fun τ' k1 h1 h2 => hq τ' (k0.tr k1) (fun k hk => ?_) (fun k g1 g2 => ?_))
    · rw [h1 k (by omega), mI_sI_k _ _ (by omega)]
    · by_cases c : k = i
      · rw [h1 k (by omega), c, mI_sI_s]
      · rw [h2 k (by omega) g2, mI_sI_n _ _ (by omega)]
theorem mvo_60_62 {Q : Mem → Prop} {τ : Mem} (hq : ∀ τ', Kp (fun a _ => a = 62) τ τ' → (∀ k, k < 8 → mI τ' 62 k = mI τ 60 k) → Q τ') : w_X12_move_60_62 τ Q := ⟨9, mv_60_62 8 0 τ (by omega) (fun τ' k _ h => hq τ' k (fun k hk => h k (by omega) hk))⟩
theorem mv_61_63 {Q : Mem → Prop} : ∀ (d i : Nat) (τ : Mem), i + d = 64 → (∀ τ', Kp (fun a _ => a = 63) τ τ' → (∀ k, k < i → mI τ' 63 k = mI τ 63 k) → (∀ k, i ≤ k → k < 64 → mI τ' 63 k = mI τ 61 k) → Q τ') → w_X12_move_61_63_2 Q (d + 1) (nI i) τ := by
  intro d
  induction d with
  | zero =>
    intro i τ hd hq
    have e : i = 64 := by omega
    subst e
    rw [w_X12_move_61_63_2]
    exact ⟨fun _ => hq τ Kp.rf (fun k _ => rfl) (fun k h1 h2 => by omega), fun c => absurd (Int32.le_refl _) c⟩
  | succ d ih =>
    intro i τ hd hq
    have nle : ¬ (64 : Int32) ≤ nI i := fun z => of_eq_false (k_nle (a := 64) (b := i) (by omega) (by omega)) z
    have vp : vp_in (nI i) 64 := vp_in_nI (by omega) (by omega)
    rw [w_X12_move_61_63_2, k_cl (by omega), show nI i + 1 = nI (i + 1) from nI_add i 1]
    refine ⟨fun c => absurd c nle, fun _ => ⟨vp, fun v hv => ⟨vp, ?_⟩⟩⟩
    subst hv
    have k0 : Kp (fun a _ => a = 63) τ (sI τ 63 i (mI τ 61 i)) := (by repeat (first | exact Kp.rf | refine Kp.sI ?_ _ (by first | exact rfl | omega | (dsimp only; omega))))
    refine ih (i + 1) _ (by omega) (fun τ' k1 h1 h2 => hq τ' (k0.tr k1) (fun k hk => ?_) (fun k g1 g2 => ?_))
    · rw [h1 k (by omega), mI_sI_k _ _ (by omega)]
    · by_cases c : k = i
      · rw [h1 k (by omega), c, mI_sI_s]
      · rw [h2 k (by omega) g2, mI_sI_n _ _ (by omega)]
theorem mvo_61_63 {Q : Mem → Prop} {τ : Mem} (hq : ∀ τ', Kp (fun a _ => a = 63) τ τ' → (∀ k, k < 64 → mI τ' 63 k = mI τ 61 k) → Q τ') : w_X12_move_61_63 τ Q := ⟨65, mv_61_63 64 0 τ (by omega) (fun τ' k _ h => hq τ' k (fun k hk => h k (by omega) hk))⟩
theorem mv_62_60 {Q : Mem → Prop} : ∀ (d i : Nat) (τ : Mem), i + d = 8 → (∀ τ', Kp (fun a _ => a = 60) τ τ' → (∀ k, k < i → mI τ' 60 k = mI τ 60 k) → (∀ k, i ≤ k → k < 8 → mI τ' 60 k = mI τ 62 k) → Q τ') → w_X12_move_62_60_2 Q (d + 1) (nI i) τ := by
  intro d
  induction d with
  | zero =>
    intro i τ hd hq
    have e : i = 8 := by omega
    subst e
    rw [w_X12_move_62_60_2]
    exact ⟨fun _ => hq τ Kp.rf (fun k _ => rfl) (fun k h1 h2 => by omega), fun c => absurd (Int32.le_refl _) c⟩
  | succ d ih =>
    intro i τ hd hq
    have nle : ¬ (8 : Int32) ≤ nI i := fun z => of_eq_false (k_nle (a := 8) (b := i) (by omega) (by omega)) z
    have vp : vp_in (nI i) 8 := vp_in_nI (by omega) (by omega)
    rw [w_X12_move_62_60_2, k_cl (by omega), show nI i + 1 = nI (i + 1) from nI_add i 1]
    refine ⟨fun c => absurd c nle, fun _ => ⟨vp, fun v hv => ⟨vp, ?_⟩⟩⟩
    subst hv
    have k0 : Kp (fun a _ => a = 60) τ (sI τ 60 i (mI τ 62 i)) := (by repeat (first | exact Kp.rf | refine Kp.sI ?_ _ (by first | exact rfl | omega | (dsimp only; omega))))
    refine ih (i + 1) _ (by omega) (fun τ' k1 h1 h2 => hq τ' (k0.tr k1) (fun k hk => ?_) (fun k g1 g2 => ?_))
    · rw [h1 k (by omega), mI_sI_k _ _ (by omega)]
    · by_cases c : k = i
      · rw [h1 k (by omega), c, mI_sI_s]
      · rw [h2 k (by omega) g2, mI_sI_n _ _ (by omega)]
theorem mvo_62_60 {Q : Mem → Prop} {τ : Mem} (hq : ∀ τ', Kp (fun a _ => a = 60) τ τ' → (∀ k, k < 8 → mI τ' 60 k = mI τ 62 k) → Q τ') : w_X12_move_62_60 τ Q := ⟨9, mv_62_60 8 0 τ (by omega) (fun τ' k _ h => hq τ' k (fun k hk => h k (by omega) hk))⟩
theorem mv_63_61 {Q : Mem → Prop} : ∀ (d i : Nat) (τ : Mem), i + d = 64 → (∀ τ', Kp (fun a _ => a = 61) τ τ' → (∀ k, k < i → mI τ' 61 k = mI τ 61 k) → (∀ k, i ≤ k → k < 64 → mI τ' 61 k = mI τ 63 k) → Q τ') → w_X12_move_63_61_2 Q (d + 1) (nI i) τ := by
  intro d
  induction d with
  | zero =>
    intro i τ hd hq
    have e : i = 64 := by omega
    subst e
    rw [w_X12_move_63_61_2]
    exact ⟨fun _ => hq τ Kp.rf (fun k _ => rfl) (fun k h1 h2 => by omega), fun c => absurd (Int32.le_refl _) c⟩
  | succ d ih =>
    intro i τ hd hq
    have nle : ¬ (64 : Int32) ≤ nI i := fun z => of_eq_false (k_nle (a := 64) (b := i) (by omega) (by omega)) z
    have vp : vp_in (nI i) 64 := vp_in_nI (by omega) (by omega)
    rw [w_X12_move_63_61_2, k_cl (by omega), show nI i + 1 = nI (i + 1) from nI_add i 1]
    refine ⟨fun c => absurd c nle, fun _ => ⟨vp, fun v hv => ⟨vp, ?_⟩⟩⟩
    subst hv
    have k0 : Kp (fun a _ => a = 61) τ (sI τ 61 i (mI τ 63 i)) := (by repeat (first | exact Kp.rf | refine Kp.sI ?_ _ (by first | exact rfl | omega | (dsimp only; omega))))
    refine ih (i + 1) _ (by omega) (fun τ' k1 h1 h2 => hq τ' (k0.tr k1) (fun k hk => ?_) (fun k g1 g2 => ?_))
    · rw [h1 k (by omega), mI_sI_k _ _ (by omega)]
    · by_cases c : k = i
      · rw [h1 k (by omega), c, mI_sI_s]
      · rw [h2 k (by omega) g2, mI_sI_n _ _ (by omega)]
theorem mvo_63_61 {Q : Mem → Prop} {τ : Mem} (hq : ∀ τ', Kp (fun a _ => a = 61) τ τ' → (∀ k, k < 64 → mI τ' 61 k = mI τ 63 k) → Q τ') : w_X12_move_63_61 τ Q := ⟨65, mv_63_61 64 0 τ (by omega) (fun τ' k _ h => hq τ' k (fun k hk => h k (by omega) hk))⟩
theorem hoA.move {σ τ : Mem} {cm cf ch cr cm' cf' ch' cr' N n : Nat} {H : HP} (h : hoA cm cf ch cr σ H) (ho : okH N n H) (hn : n ≤ 8) (e1 : mI τ cm' cf' = mI σ cm cf) (e2 : ∀ k, k < 8 → mI τ ch' k = mI σ ch k) (e3 : ∀ k, k < 64 → mI τ cr' k = mI σ cr k) : hoA cm' cf' ch' cr' τ H := by
  have h1 := ho.1
  refine ⟨by rw [e1]; exact h.1, fun i hi => ?_, fun i k hi hk => ?_⟩
  · rw [e2 i (by omega)]; exact h.2.1 i hi
  · have := ho.2.1 i hi
    rw [e3 _ (by omega)]; exact h.2.2 i k hi hk
theorem okH.mono {N N' n n' : Nat} {H : HP} (h : okH N n H) (h1 : N ≤ N') (h2 : n ≤ n') : okH N' n' H := ⟨Nat.le_trans h.1 h2, fun i hi => Nat.le_trans (h.2.1 i hi) h2, fun i k hi hk => Nat.lt_of_lt_of_le (h.2.2 i k hi hk) h1⟩
/-- the heaps that a relation of heaps speaks of -/
theorem rHe.ho {σ : Mem} {cr ch mr mh M l : Nat} {ht : Nat → Nat} (h : rHe σ cr ch mr mh M l ht) {cm cf mm mf : Nat} (hl : l ≤ 8) (e1 : mI σ cm cf = nI M) (e2 : mI σ mm mf = nI M) : ∃ pl : Nat → Nat → Nat, hoA cm cf ch cr σ (M, ht, pl) ∧ hoA mm mf mh mr σ (M, ht, pl) ∧ okH l l (M, ht, pl) ∧ fb_sm ht M ≤ l := by
  obtain ⟨h1, h2, h3, h4⟩ := h
  refine ⟨fun i k => (mI σ cr (8 * i + k)).toNatClampNeg, ⟨e1, fun i hi => (h3 i hi).1, fun i k hi hk => ?_⟩, ⟨e2, fun i hi => (h3 i hi).2, fun i k hi hk => ?_⟩, ⟨h1, fun i hi => ?_, fun i k hi hk => ?_⟩, h2⟩
  · obtain ⟨p, hp, g1, g2⟩ := h4 i k hi hk
    show _ = nI (mI σ cr (8 * i + k)).toNatClampNeg
    rw [g1, k_cl (by omega)]
  · obtain ⟨p, hp, g1, g2⟩ := h4 i k hi hk
    show _ = nI (mI σ cr (8 * i + k)).toNatClampNeg
    rw [g1, k_cl (by omega)]; exact g2
  · have h5 : fb_sm ht i + ht i ≤ fb_sm ht M := fb_sm_part ht hi
    show ht i ≤ l
    omega
  · obtain ⟨p, hp, g1, g2⟩ := h4 i k hi hk
    show (mI σ cr (8 * i + k)).toNatClampNeg < l
    rw [g1, k_cl (by omega)]; exact hp
theorem rHe.of {σ : Mem} {cr ch mr mh cm cf mm mf l : Nat} {H : HP} (h1 : hoA cm cf ch cr σ H) (h2 : hoA mm mf mh mr σ H) (ho : okH l l H) (hs : fb_sm H.2.1 H.1 ≤ l) : rHe σ cr ch mr mh H.1 l H.2.1 :=
  ⟨ho.1, hs, fun i hi => ⟨h1.2.1 i hi, h2.2.1 i hi⟩, fun i k hi hk => ⟨H.2.2 i k, ho.2.2 i k hi hk, h1.2.2 i k hi hk, h2.2.2 i k hi hk⟩⟩
theorem sm_put {H : HP} {h p l : Nat} (hh : h ≤ H.1) (hs : fb_sm H.2.1 H.1 ≤ l) : fb_sm (puA H h p).2.1 (puA H h p).1 ≤ l + 1 := by
  show fb_sm (fun i => if i = h then hgt H h + 1 else H.2.1 i) (if h = H.1 then H.1 + 1 else H.1) ≤ l + 1
  by_cases c : h = H.1
  · rw [if_pos c, fb_sm_succ, fb_sm_out _ _ (by omega)]
    have hg : hgt H h = 0 := hgt_ge (by omega)
    rw [if_pos c.symm, hg]
    omega
  · rw [if_neg c]
    have hlt : h < H.1 := by omega
    have := fb_sm_upd H.2.1 (hgt H h + 1) hlt
    rw [hgt_lt hlt] at this ⊢
    omega
set_option maxHeartbeats 1000000 in
theorem p_lay (σ : Mem) (x0 : Int32) (h : Rel σ) : w_X11_lay σ x0 (fun r1 s1 => w_X12_lay s1 x0 (fun r2 s2 => r1 = r2 ∧ Rel s2)) := by
  obtain ⟨N, L, T, hx⟩ := h.x
  obtain ⟨E, hE, -, -⟩ := env_ex hx
  have hN := hE.1
  have h53 : ∀ j, j < 8 → mI σ 53 j = nI j := hx.2.2.2.2.2.2.2.2.2.2.1
  have hTx : rTx σ T := hx.2.2.2.2.1
  obtain ⟨l, M, ht, hlN, b1, b2, b3, b4, b5⟩ := hx.2.2.2.2.2.2.2.1
  obtain ⟨pl, hoC, hoM, okl, hsm⟩ := b5.ho (by omega) b3 b4
  unfold w_X11_lay w_X12_lay
  rcases lay_cases hx x0 with ⟨c1, c2⟩ | ⟨i, a, kd, nu, hl, hl5, rfl, hkd, htC, htM, d1, d2, -⟩
  · exact c1 _ σ Kp.rf ⟨fun _ => c2 _ σ Kp.rf ⟨fun c => absurd rfl c, fun _ => ⟨rfl, h⟩⟩, fun r hr => (by cases hr)⟩
  · refine d1 _ σ Kp.rf ⟨fun c => (by cases c), fun r hr => ?_⟩
    cases hr
    obtain ⟨e02, e0, -, -, -⟩ := hE.2.2.2.2.2.1 σ Kp.rf
    rw [b1, e02]
    by_cases cl : l < N
    · have lt : nI l < nI N := nI_lt cl (by omega)
      refine ⟨fun _ => ?_, fun c => absurd lt c⟩
      have okN := okl.mono (N' := N) (n' := l) (by omega) (Nat.le_refl _)
      have hle := chA_le E kd nu (M, ht, pl) l
      have hle' : chA E kd nu (M, ht, pl) l ≤ M := hle
      have hM : M ≤ l := okl.1
      refine ch_ok_9 hE Kp.rf hoC okN (by omega) cl hkd htC (fun τ1 k1 => ?_)
      have hk1 : Kp (SC σ T) σ τ1 := Kp.rf.cwsc k1
      rw [hE.cw k1 (a := 8) (by omega) 1, b1]
      refine put_ok_9 (hoC.cw hE k1 (by decide) (by decide) (by decide)) okN (by omega) hN hle cl (fun τ2 k2 hH2 _ _ _ => ?_)
      rw [k2.2.2.2 8 1 (by omega), hE.cw k1 (a := 8) (by omega) 1, b1, show nI l + 1 = nI (l + 1) from nI_add l 1]
      have k12 : Kp (fun a k => txs σ T a ∨ (a = 8 ∧ k = 1) ∨ (9 ≤ a ∧ a ≤ 13)) σ (sI τ2 8 1 (nI (l + 1))) := Kp.sI ((k1.mono (fun a k q => Or.inl q)).tr (k2.mono (fun a k q => Or.inr (by omega)))) _ (Or.inr (Or.inl ⟨rfl, rfl⟩))
      generalize hτ3 : sI τ2 8 1 (nI (l + 1)) = τ3 at k12
      have hC3 : hoA 9 2 11 10 τ3 (puA (M, ht, pl) (chA E kd nu (M, ht, pl) l) l) := by
        rw [← hτ3]
        exact hH2.fr (F := fun a _ => a = 8) (by repeat (first | exact Kp.rf | refine Kp.sI ?_ _ (by first | exact rfl | omega | (dsimp only; omega)))) (by omega) (fun i => by omega) (fun i => by omega)
      have e81 : mI τ3 8 1 = nI (l + 1) := by rw [← hτ3, mI_sI_s]
      have hk3 : Kp (SC σ T) σ τ3 := k12.mono (fun a k q => by
        rcases q with q | q | q
        · exact Or.inl (FC.sc (Or.inl q))
        · exact Or.inr (by unfold tbl; omega)
        · exact Or.inr (by unfold tbl; omega))
      have un3 : ∀ a k, 37 ≤ a → a < 68 → mI τ3 a k = mI σ a k := fun a k h1 h2 => k12.2.2.2 a k (fun q => by
        rcases q with q | q | q
        · have := hE.2.2.2.2.1 _ q; omega
        · omega
        · omega)
      refine d2 _ τ3 hk3 ⟨fun _ => ?_, fun c => absurd c (by decide)⟩
      rw [un3 37 45 (by omega) (by omega), un3 37 0 (by omega) (by omega), b2, e0]
      refine ⟨fun _ => ?_, fun c => by rw [nI_eq (by omega) (by omega)] at c; omega⟩
      rw [un3 37 46 (by omega) (by omega)]
      refine mvo_60_51 (fun τ4 k4 m4 => mvo_61_52 (fun τ5 k5 m5 => ?_))
      have k35 : Kp (fun a k => (a = 37 ∧ k = 28) ∨ a = 51 ∨ a = 52) τ3 τ5 := ((Kp.sI (F := fun a k => (a = 37 ∧ k = 28) ∨ a = 51 ∨ a = 52) Kp.rf _ (Or.inl ⟨rfl, rfl⟩)).tr (k4.mono (fun a k q => Or.inr (Or.inl q)))).tr (k5.mono (fun a k q => Or.inr (Or.inr q)))
      have hk5 : Kp (SC σ T) σ τ5 := hk3.tr (k35.mono (fun a k q => by unfold SC SC0; omega))
      have hM5 : hoA 37 28 51 52 τ5 (M, ht, pl) := by
        refine hoM.move okl (by omega) ?_ (fun k hk => ?_) (fun k hk => ?_)
        · rw [k5.2.2.2 _ _ (by omega), k4.2.2.2 _ _ (by omega), mI_sI_s]
        · rw [k5.2.2.2 _ _ (by omega), m4 k hk, mI_sI_n _ _ (by omega), un3 60 k (by omega) (by omega)]
        · rw [m5 k hk, k4.2.2.2 _ _ (by omega), mI_sI_n _ _ (by omega), un3 61 k (by omega) (by omega)]
      have e45 : mI τ5 37 45 = nI l := by rw [k35.2.2.2 _ _ (by omega), un3 37 45 (by omega) (by omega)]; exact b2
      rw [e45]
      refine chM_ok hE hk5 hM5 okN (by omega) cl hkd hl5 htM (fun τ6 k6 => ?_)
      rw [k6.2.2.2 37 45 (by omega), e45]
      refine putM_ok (hM5.m5 k6) okN (by omega) hN hle cl (fun τ7 k7 hM7 => ?_)
      rw [k7.2.2.2 37 45 (by omega), k6.2.2.2 37 45 (by omega), e45, show nI l + 1 = nI (l + 1) from nI_add l 1]
      refine mvo_51_60 (fun τ8 k8 m8 => mvo_52_61 (fun τ9 k9 m9 => ⟨rfl, ?_⟩))
      have k37 : Kp (fun a k => (a = 37 ∧ k = 28) ∨ (49 ≤ a ∧ a ≤ 52)) τ3 τ7 := ((k35.mono (fun a k q => by omega)).tr (k6.mono (fun a k q => by omega))).tr (k7.mono (fun a k q => by omega))
      have k39 : Kp (fun a k => (a = 37 ∧ (k = 28 ∨ k = 45 ∨ k = 46)) ∨ (49 ≤ a ∧ a ≤ 52) ∨ (60 ≤ a ∧ a ≤ 61)) τ3 τ9 := ((Kp.sI (Kp.sI (k37.mono (fun a k q => by omega)) _ (by omega)) _ (by omega)).tr (k8.mono (fun a k q => by omega))).tr (k9.mono (fun a k q => by omega))
      have hk9 : Kp (SC σ T) σ τ9 := hk3.tr (k39.mono (fun a k q => by unfold SC SC0 tbl; omega))
      have okp : okH (l + 1) (l + 1) (puA (M, ht, pl) (chA E kd nu (M, ht, pl) l) l) := (okl.mono (N' := l + 1) (n' := l) (by omega) (Nat.le_refl _)).put hle (by omega)
      have hM9 : hoA 37 46 60 61 τ9 (puA (M, ht, pl) (chA E kd nu (M, ht, pl) l) l) := by
        refine hM7.move okp (by omega) ?_ (fun k hk => ?_) (fun k hk => ?_)
        · rw [k9.2.2.2 _ _ (by omega), k8.2.2.2 _ _ (by omega), mI_sI_s]
        · rw [k9.2.2.2 _ _ (by omega), m8 k hk, mI_sI_n _ _ (by omega), mI_sI_n _ _ (by omega)]
        · rw [m9 k hk, k8.2.2.2 _ _ (by omega), mI_sI_n _ _ (by omega), mI_sI_n _ _ (by omega)]
      have hC9 : hoA 9 2 11 10 τ9 (puA (M, ht, pl) (chA E kd nu (M, ht, pl) l) l) := hC3.fr k39 (by omega) (fun i => by omega) (fun i => by omega)
      refine (hx.sct hk9 (fun j hj => ?_) ⟨l + 1, _, _, cl, ?_, ?_, hC9.1, hM9.1, rHe.of hC9 hM9 okp (sm_put hle hsm)⟩).rel
      · rw [k39.2.2.2 _ _ (by omega), un3 53 j (by omega) (by omega)]
        exact h53 j hj
      · rw [k39.2.2.2 _ _ (by omega)]; exact e81
      · rw [k9.2.2.2 _ _ (by omega), k8.2.2.2 _ _ (by omega), mI_sI_k _ _ (by omega), mI_sI_s]
    · have e : l = N := by omega
      subst e
      refine ⟨fun c => absurd c (by rw [nI_ltI (by omega) (by omega)]; omega), fun _ => d2 _ σ Kp.rf ⟨fun _ => ?_, fun c => absurd c (by decide)⟩⟩
      rw [b2, e0]
      exact ⟨fun c => absurd rfl c, fun _ => ⟨rfl, h⟩⟩
