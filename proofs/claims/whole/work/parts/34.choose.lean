/-! STAGE 2: may it lie, its price, his rank, what he likes -/
section EnvA
variable {σ τ : Mem} {T N : Nat} {E : EN} {H : HP} {n h p : Nat}
theorem Env.cw (hE : Env σ T N E.1 E.2.1 E.2.2.1 E.2.2.2) {τ' : Mem} (k : Kp (fun a _ => txs σ T a) τ τ') {a : Nat} (ha : a < 33 ∨ (36 < a ∧ a < 68)) (i : Nat) : mI τ' a i = mI τ a i := by
  refine k.2.2.2 a i (fun q => ?_)
  have := hE.2.2.2.2.1 a q
  omega
theorem Kp.cwsc {τ' : Mem} (hk : Kp (SC σ T) σ τ) (k : Kp (fun a _ => txs σ T a) τ τ') : Kp (SC σ T) σ τ' := hk.tr (k.mono (fun a i q => Or.inl (Or.inr (Or.inr (Or.inr (Or.inr (Or.inr (Or.inr q))))))))
theorem hoA.cw {cm cf ch cr : Nat} {τ' : Mem} (hE : Env σ T N E.1 E.2.1 E.2.2.1 E.2.2.2) (hH : hoA cm cf ch cr τ H) (k : Kp (fun a _ => txs σ T a) τ τ') (h1 : cm < 33) (h2 : ch < 33) (h3 : cr < 33) : hoA cm cf ch cr τ' H :=
  hH.fr k (fun q => by have := hE.2.2.2.2.1 _ q; omega) (fun i q => by have := hE.2.2.2.2.1 _ q; omega) (fun i q => by have := hE.2.2.2.2.1 _ q; omega)
theorem topI_or (ho : okH N n H) (h : Nat) (p : Nat) : (topI H h = -1 ∧ (if 0 < hgt H h then E.1 (topA H h) else 0) = 0 ∧ (if 0 < hgt H h then E.2.1 (topA H h) else 0) = 0) ∨ ∃ q, q < N ∧ topI H h = nI q ∧ (if 0 < hgt H h then E.1 (topA H h) else 0) = E.1 q ∧ (if 0 < hgt H h then E.2.1 (topA H h) else 0) = E.2.1 q := by
  unfold topI
  by_cases c : 0 < hgt H h
  · exact Or.inr ⟨topA H h, ho.top c, by simp [c], by simp [c], by simp [c]⟩
  · exact Or.inl ⟨by simp [c], by simp [c], by simp [c]⟩
theorem nuA_eq (E : EN) (H : HP) (h p : Nat) : nm6 (E.1 p) (if 0 < hgt H h then E.1 (topA H h) else 0) (E.2.1 p) (if 0 < hgt H h then E.2.1 (topA H h) else 0) (nI (hgt H h)) (nI h) = nuA E H h p := by
  unfold nuA
  by_cases c : 0 < hgt H h
  · simp [c]
  · have c2 : hgt H h = 0 := by omega
    simp [c2]; rfl
theorem may_ok_15 {Q : Int32 → Mem → Prop} (hE : Env σ T N E.1 E.2.1 E.2.2.1 E.2.2.2) (hk : Kp (SC σ T) σ τ) (hH : hoA 15 2 17 16 τ H) (ho : okH N n H) (hn : n ≤ 8) (hh : h < H.1) (hp : p < N) (hq : ∀ τ', Kp (fun a _ => txs σ T a) τ τ' → Q (if mayA E H h p = true then 1 else 0) τ') : w_X11_mayLie_15 τ (nI h) (nI p) Q := by
  have hh' : h ≤ H.1 := by omega
  have h2 := ho.hg h
  have e82 : mI τ 8 2 = nI E.2.2.1 := (hE.2.2.2.2.2.1 τ hk).2.2.1
  have hi9 : E.2.2.1 ≤ 9 := hE.2.2.1
  unfold w_X11_mayLie_15
  refine has_ok_15 hH ho hn hh ⟨fun _ => hgt_ok_15 hH ho hn hh' ⟨fun c => ?_, fun c => ?_⟩, fun c => absurd c (by decide)⟩
  · have c0 : ¬ hgt H h = 0 := fun q => c (by rw [q]; rfl)
    rw [e82]
    refine ⟨fun c2 => ?_, fun c2 => ?_⟩
    · have c3 : ¬ hgt H h < E.2.2.1 := fun q => absurd (nI_lt q (by omega)) (Int32.not_lt.mpr c2)
      have := hq τ Kp.rf
      unfold mayA at this
      rw [if_neg c0, if_neg c3] at this
      exact this
    · have c3 : hgt H h < E.2.2.1 := by
        have := Int32.not_le.mp c2
        rwa [nI_ltI (by omega) (by omega)] at this
      refine top_ok_15 hH ho hn hh' ?_
      refine hE.2.2.2.2.2.2.1 τ 0 p (topI H h) (nI (hgt H h)) (nI h) _ _ _ hk (by omega) hp (topI_or ho h p) (fun τ' k => ?_)
      rw [nuA_eq]
      have := hq τ' k
      unfold mayA at this
      rw [if_neg c0, if_pos c3] at this
      refine ⟨fun c => ?_, fun c => ?_⟩
      · rw [if_pos c] at this; exact this
      · rw [if_neg c] at this; exact this
  · have c0 : hgt H h = 0 := by
      rw [show (0 : Int32) = nI 0 from rfl, nI_eq (by omega) (by omega)] at c
      exact c
    have := hq τ Kp.rf
    unfold mayA at this
    rw [if_pos c0] at this
    exact this
theorem may_ok_9 {Q : Int32 → Mem → Prop} (hE : Env σ T N E.1 E.2.1 E.2.2.1 E.2.2.2) (hk : Kp (SC σ T) σ τ) (hH : hoA 9 2 11 10 τ H) (ho : okH N n H) (hn : n ≤ 8) (hh : h < H.1) (hp : p < N) (hq : ∀ τ', Kp (fun a _ => txs σ T a) τ τ' → Q (if mayA E H h p = true then 1 else 0) τ') : w_X11_mayLie_9 τ (nI h) (nI p) Q := by
  have hh' : h ≤ H.1 := by omega
  have h2 := ho.hg h
  have e82 : mI τ 8 2 = nI E.2.2.1 := (hE.2.2.2.2.2.1 τ hk).2.2.1
  have hi9 : E.2.2.1 ≤ 9 := hE.2.2.1
  unfold w_X11_mayLie_9
  refine has_ok_9 hH ho hn hh ⟨fun _ => hgt_ok_9 hH ho hn hh' ⟨fun c => ?_, fun c => ?_⟩, fun c => absurd c (by decide)⟩
  · have c0 : ¬ hgt H h = 0 := fun q => c (by rw [q]; rfl)
    rw [e82]
    refine ⟨fun c2 => ?_, fun c2 => ?_⟩
    · have c3 : ¬ hgt H h < E.2.2.1 := fun q => absurd (nI_lt q (by omega)) (Int32.not_lt.mpr c2)
      have := hq τ Kp.rf
      unfold mayA at this
      rw [if_neg c0, if_neg c3] at this
      exact this
    · have c3 : hgt H h < E.2.2.1 := by
        have := Int32.not_le.mp c2
        rwa [nI_ltI (by omega) (by omega)] at this
      refine top_ok_9 hH ho hn hh' ?_
      refine hE.2.2.2.2.2.2.1 τ 0 p (topI H h) (nI (hgt H h)) (nI h) _ _ _ hk (by omega) hp (topI_or ho h p) (fun τ' k => ?_)
      rw [nuA_eq]
      have := hq τ' k
      unfold mayA at this
      rw [if_neg c0, if_pos c3] at this
      refine ⟨fun c => ?_, fun c => ?_⟩
      · rw [if_pos c] at this; exact this
      · rw [if_neg c] at this; exact this
  · have c0 : hgt H h = 0 := by
      rw [show (0 : Int32) = nI 0 from rfl, nI_eq (by omega) (by omega)] at c
      exact c
    have := hq τ Kp.rf
    unfold mayA at this
    rw [if_pos c0] at this
    exact this
theorem price_ok {Q : Int32 → Mem → Prop} (hE : Env σ T N E.1 E.2.1 E.2.2.1 E.2.2.2) (hk : Kp (SC σ T) σ τ) (hH : hoA 15 2 17 16 τ H) (ho : okH N n H) (hn : n ≤ 8) (hh : h ≤ H.1) (hp : p < N) (hq : ∀ τ', Kp (fun a _ => txs σ T a) τ τ' → Q (nI (payA E H h p)) τ') : w_X11_priceOf τ 1 (nI h) (nI p) Q := by
  unfold w_X11_priceOf
  refine ⟨fun c => absurd rfl c, fun _ => ?_⟩
  refine top_ok_15 hH ho hn hh (hgt_ok_15 hH ho hn hh ?_)
  refine hE.2.2.2.2.2.2.1 τ 1 p (topI H h) (nI (hgt H h)) (nI h) _ _ _ hk (by omega) hp (topI_or ho h p) (fun τ' k => ?_)
  rw [nuA_eq]
  exact bounded_ok (hq τ' k)
theorem nameOn_ok {Q : Mem → Prop} (hE : Env σ T N E.1 E.2.1 E.2.2.1 E.2.2.2) (hk : Kp (SC σ T) σ τ) (hH : hoA 37 28 51 52 τ H) (ho : okH N n H) (hn : n ≤ 8) (hh : h ≤ H.1) (hp : p < N) (hq : ∀ τ', Kp (fun a _ => a = 50) τ τ' → (∀ j, j < 6 → mI τ' 50 j = nuA E H h p j) → Q τ') : w_X12_nameOn τ (nI p) (nI h) Q := by
  have hN : N ≤ 8 := hE.1
  have h1 := ho.1
  have h2 := ho.hg h
  obtain ⟨-, -, -, -, hSD⟩ := hE.2.2.2.2.2.1 τ hk
  obtain ⟨-, -, s1, s2⟩ := hSD p hp
  have e1 := hH.1
  have empty : hgt H h = 0 → w_X12_nameOn_17 Q (nI p) (nI h) τ := by
    intro c
    unfold w_X12_nameOn_17 w_X12_nameOn_22 w_X12_nameOn_49 w_X12_nameOn_68 w_X12_nameOn_83 w_X12_nameOn_97
    refine ⟨fun c => absurd c (by decide), fun _ => ⟨fun c => absurd c (by decide), fun _ => ⟨fun c => absurd c (by decide), fun _ => ⟨fun c => absurd c (by decide), fun _ => ?_⟩⟩⟩⟩
    refine name_ok (by omega) s1 s2 (fun τ' k g => hq τ' k (fun j hj => ?_))
    rw [g j hj]
    unfold nuA
    rw [if_neg (by omega)]
  unfold w_X12_nameOn
  rw [e1]
  by_cases c : h < H.1
  · have e2 := hH.2.1 h c
    rw [← hgt_lt c] at e2
    have ne : ¬ nI h = nI H.1 := fun q => by rw [nI_eq (by omega) (by omega)] at q; omega
    refine ⟨fun q => absurd q ne, fun _ => ⟨vp_in_nI (by omega) (by omega), ?_⟩⟩
    rw [k_cl (by omega), e2]
    refine ⟨fun c2 => ?_, fun c2 => empty (by rw [show (0 : Int32) = nI 0 from rfl, nI_eq (by omega) (by omega)] at c2; exact c2)⟩
    have c0 : 0 < hgt H h := by
      rcases Nat.eq_zero_or_pos (hgt H h) with q | q
      · rw [q] at c2; exact absurd rfl c2
      · exact q
    have e3 : (8 : Int32) * nI h + nI (hgt H h) - 1 = nI (8 * h + (hgt H h - 1)) := by
      rw [show (8 : Int32) = nI 8 from rfl, show (1 : Int32) = nI 1 from rfl, k_mul, nI_add, k_sub (by omega)]
      congr 1
      omega
    have e4 : mI τ 52 (8 * h + (hgt H h - 1)) = nI (topA H h) := hH.2.2 h (hgt H h - 1) c (by rw [hgt_lt c] at c0 ⊢; omega)
    have hq0 := ho.top c0
    obtain ⟨-, -, s3, s4⟩ := hSD (topA H h) hq0
    unfold w_X12_nameOn_22
    refine ⟨fun _ => ⟨vp_in_nI (by omega) (by omega), ?_⟩, fun c => absurd rfl c⟩
    rw [k_cl (by omega), e2, e3]
    refine ⟨vp_in_nI (by omega) (by omega), ?_⟩
    rw [k_cl (by omega), e4]
    unfold w_X12_nameOn_49 w_X12_nameOn_68 w_X12_nameOn_83 w_X12_nameOn_97
    rw [k_cl (by omega), k_cl (by omega), e2, s3, s4]
    refine ⟨fun _ => ⟨vp_in_nI (by omega) (by omega), fun _ => ⟨vp_in_nI (by omega) (by omega), fun _ => ⟨vp_in_nI (by omega) (by omega), ?_⟩, fun c => absurd rfl c⟩, fun c => absurd rfl c⟩, fun c => absurd rfl c⟩
    refine name_ok (by omega) s1 s2 (fun τ' k g => hq τ' k (fun j hj => ?_))
    rw [g j hj]
    unfold nuA
    rw [if_pos c0]
  · have e : h = H.1 := by omega
    exact ⟨fun _ => empty (hgt_ge c), fun q => absurd (by rw [e]) q⟩
theorem Kp.m5 {τ' : Mem} (hk : Kp (SC σ T) σ τ) (k : Kp (fun a _ => a = 49 ∨ a = 50) τ τ') : Kp (SC σ T) σ τ' := hk.tr (k.mono (fun a i q => Or.inl (Or.inr (Or.inr (Or.inr (Or.inr (Or.inl (by omega))))))))
theorem hoA.m5 {τ' : Mem} (hH : hoA 37 28 51 52 τ H) (k : Kp (fun a _ => a = 49 ∨ a = 50) τ τ') : hoA 37 28 51 52 τ' H := hH.fr k (fun q => by omega) (fun i q => by omega) (fun i q => by omega)
theorem mayM_ok {Q : Int32 → Mem → Prop} (hE : Env σ T N E.1 E.2.1 E.2.2.1 E.2.2.2) (hk : Kp (SC σ T) σ τ) (hH : hoA 37 28 51 52 τ H) (ho : okH N n H) (hn : n ≤ 8) (hh : h < H.1) (hp : p < N) (hq : ∀ τ', Kp (fun a _ => a = 49 ∨ a = 50) τ τ' → Q (if mayA E H h p = true then 1 else 0) τ') : w_X12_mayLie τ (nI p) (nI h) Q := by
  have h1 := ho.1
  have h2 := ho.hg h
  have e2 := hH.2.1 h hh
  rw [← hgt_lt hh] at e2
  have e6 : mI τ 37 6 = nI E.2.2.1 := (hE.2.2.2.2.2.1 τ hk).2.2.2.1
  have hi1 : 1 ≤ E.2.2.1 := hE.2.1
  have hi9 : E.2.2.1 ≤ 9 := hE.2.2.1
  unfold w_X12_mayLie
  rw [k_cl (by omega), e2, e6]
  refine ⟨vp_in_nI (by omega) (by omega), fun c => ?_, fun c => ?_⟩
  · have c3 : hgt H h < E.2.2.1 := by rwa [nI_ltI (by omega) (by omega)] at c
    refine nameOn_ok hE hk hH ho hn (by omega) hp (fun τ1 k1 g1 => ⟨vp_in_nI (by omega) (by omega), ?_⟩)
    have e3 : mI τ1 51 h = nI (hgt H h) := by rw [k1.2.2.2 _ _ (by omega)]; exact e2
    have k1' : Kp (fun a _ => a = 49 ∨ a = 50) τ τ1 := k1.mono (fun a _ q => Or.inr q)
    rw [e3]
    refine ⟨fun c2 => ?_, fun c2 => ?_⟩
    · have c0 : hgt H h = 0 := by
        rw [show (0 : Int32) = nI 0 from rfl, nI_eq (by omega) (by omega)] at c2
        exact c2
      have := hq τ1 k1'
      unfold mayA at this
      rw [if_pos c0] at this
      exact this
    · have c0 : ¬ hgt H h = 0 := fun q => c2 (by rw [q]; rfl)
      refine hE.2.2.2.2.2.2.2 τ1 0 (nuA E H h p) _ (hk.m5 k1') (by omega) g1 (fun τ2 k2 => ?_)
      have := hq τ2 (k1'.tr (k2.mono (fun a _ q => Or.inl q)))
      unfold mayA at this
      rw [if_neg c0, if_pos c3] at this
      refine ⟨fun c => ?_, fun c => ?_⟩
      · rw [if_pos c] at this; exact this
      · rw [if_neg c] at this; exact this
  · have c3 : ¬ hgt H h < E.2.2.1 := fun q => c (nI_lt q (by omega))
    have c0 : ¬ hgt H h = 0 := by omega
    have := hq τ Kp.rf
    unfold mayA at this
    rw [if_neg c0, if_neg c3] at this
    exact this
theorem payM_ok {Q : Mem → Int32 → Mem → Prop} (hE : Env σ T N E.1 E.2.1 E.2.2.1 E.2.2.2) (hk : Kp (SC σ T) σ τ) (hH : hoA 37 28 51 52 τ H) (ho : okH N n H) (hn : n ≤ 8) (hh : h ≤ H.1) (hp : p < N) (hq : ∀ τ1 τ', Kp (fun a _ => a = 49 ∨ a = 50) τ τ1 → Kp (fun a _ => a = 49 ∨ a = 50) τ τ' → Q τ1 (nI (payA E H h p)) τ') : w_X12_nameOn τ (nI p) (nI h) (fun s => w_X12_worthOf s 1 (fun v s2 => w_X12_bound s2 v (Q s))) := by
  refine nameOn_ok hE hk hH ho hn hh hp (fun τ1 k1 g1 => ?_)
  have k1' : Kp (fun a _ => a = 49 ∨ a = 50) τ τ1 := k1.mono (fun a _ q => Or.inr q)
  refine hE.2.2.2.2.2.2.2 τ1 1 (nuA E H h p) _ (hk.m5 k1') (by omega) g1 (fun τ2 k2 => ?_)
  exact bound_ok (hq τ1 τ2 k1' (k1'.tr (k2.mono (fun a _ q => Or.inl q))))
end EnvA
