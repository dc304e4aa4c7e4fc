/-! STAGE 2: ranks, likes -/
theorem kcl_ly (kd : Nat) : lyK (kcl kd) := by
  unfold kcl lyK
  split <;> simp
theorem rankD_ok {τ : Mem} {a kd nu : Nat} {x1 x2 x3 x4 : Int32} {Q : Int32 → Mem → Prop} (hk : kd ≤ 5) (ht : mT τ a = some (kcl kd, 0)) (hn : mI τ a 1 = nI nu) (hq : Q (rkA kd (nI nu) x1 x2 x3 x4) τ) : wD_rank τ a x1 x2 x3 x4 Q := by
  have hl := kcl_ly kd
  have hc : kd = 0 ∨ kd = 1 ∨ kd = 2 ∨ kd = 3 ∨ kd = 4 ∨ kd = 5 := by omega
  unfold wD_rank
  rcases hc with rfl | rfl | rfl | rfl | rfl | rfl
  · exact Or.inr (Or.inr (Or.inl ⟨ht, hq⟩))
  · refine Or.inr (Or.inr (Or.inr (Or.inl ⟨ht, _, hl, ht, ?_⟩)))
    rw [hn]; exact hq
  · exact Or.inl ⟨ht, hq⟩
  · refine Or.inr (Or.inl ⟨ht, _, hl, ht, _, hl, ht, ?_⟩)
    rw [hn]; exact hq
  · refine Or.inr (Or.inr (Or.inr (Or.inr (Or.inr ⟨ht, _, hl, ht, _, hl, ht, ?_⟩))))
    rw [hn]; exact hq
  · refine Or.inr (Or.inr (Or.inr (Or.inr (Or.inl ⟨ht, _, hl, ht, _, hl, ht, ?_⟩))))
    rw [hn]; exact hq
theorem likesD_ok {τ : Mem} {a kd nu : Nat} {x1 x2 : Int32} {Q : Int32 → Mem → Prop} (hk : kd ≤ 5) (ht : mT τ a = some (kcl kd, 0)) (hn : mI τ a 1 = nI nu) (hq : Q (if lkA kd (nI nu) x1 x2 = true then 1 else 0) τ) : wD_likes τ a x1 x2 Q := by
  have hl := kcl_ly kd
  have hc : kd = 0 ∨ kd = 1 ∨ kd = 2 ∨ kd = 3 ∨ kd = 4 ∨ kd = 5 := by omega
  unfold wD_likes
  unfold lkA at hq
  rcases hc with rfl | rfl | rfl | rfl | rfl | rfl
  · exact Or.inr (Or.inr (Or.inl ⟨ht, by simpa [w_X3_likes] using hq⟩))
  · refine Or.inr (Or.inr (Or.inr (Or.inl ⟨ht, ?_⟩)))
    unfold w_X4_likes
    by_cases c : x1 ≤ 50 <;> simp [c] at hq ⊢ <;> exact hq
  · exact Or.inl ⟨ht, by simpa [w_X3_likes] using hq⟩
  · refine Or.inr (Or.inl ⟨ht, ?_⟩)
    unfold w_X4_likes
    by_cases c : x1 ≤ 50 <;> simp [c] at hq ⊢ <;> exact hq
  · refine Or.inr (Or.inr (Or.inr (Or.inr (Or.inr ⟨ht, _, hl, ht, ?_⟩))))
    rw [hn]
    by_cases c : nI nu - nI nu / 3 * 3 ≤ x2 <;> simp [c] at hq ⊢ <;> exact hq
  · refine Or.inr (Or.inr (Or.inr (Or.inr (Or.inl ⟨ht, _, hl, ht, ?_⟩))))
    unfold w_X4_likes
    by_cases c : x1 ≤ 50
    · by_cases c2 : x2 = 1 <;> simp [c, c2] at hq ⊢ <;> exact hq
    · simp [c] at hq ⊢; exact hq
theorem likesM_ok {τ : Mem} {l kd nu : Nat} {x1 m : Int32} {Q : Int32 → Mem → Prop} (hk : kd ≤ 5) (hl : l < 5) (h40 : mI τ 40 l = nI kd) (h41 : mI τ 41 l = nI nu) (hm : mI τ 37 28 = m) (hq : Q (if lkA kd (nI nu) x1 m = true then 1 else 0) τ) : w_X12_likes τ (nI l) x1 Q := by
  have hc : kd = 0 ∨ kd = 1 ∨ kd = 2 ∨ kd = 3 ∨ kd = 4 ∨ kd = 5 := by omega
  unfold w_X12_likes
  rw [k_cl (by omega), h40, h41, hm]
  refine ⟨vp_in_nI (by omega) (by omega), ?_⟩
  have hv : vp_in (nI l) 5 := vp_in_nI (by omega) (by omega)
  unfold lkA at hq
  have q0 : nI 0 = 0 := rfl
  have q1 : nI 1 = 1 := rfl
  have q2 : nI 2 = 2 := rfl
  have q3 : nI 3 = 3 := rfl
  have q4 : nI 4 = 4 := rfl
  have q5 : nI 5 = 5 := rfl
  rcases hc with rfl | rfl | rfl | rfl | rfl | rfl
  · rw [q0]; simp at hq; simp; exact hq
  · rw [q1]
    by_cases c : x1 ≤ 50 <;> simp [c] at hq ⊢ <;> exact hq
  · rw [q2]; simp at hq; simp; exact hq
  · rw [q3]
    by_cases c : x1 ≤ 50 <;> simp [c] at hq ⊢ <;> exact hq
  · rw [q4]
    by_cases c : nI nu - nI nu / 3 * 3 ≤ m <;> simp [c] at hq <;> simp [c, hv, hq]
  · rw [q5]
    by_cases c : x1 ≤ 50
    · have c' : ¬ 50 < x1 := Int32.not_lt.mpr c
      by_cases c2 : m = 1 <;> simp [c, c2] at hq <;> simp [c', c2, hq]
    · have c' : 50 < x1 := Int32.not_le.mp c
      simp [c] at hq
      simp [c', hq]
section RankA
variable {σ τ : Mem} {T N : Nat} {E : EN} {H : HP} {n h p : Nat}
theorem rank_ok_15 {Q : Int32 → Mem → Prop} (hE : Env σ T N E.1 E.2.1 E.2.2.1 E.2.2.2) (hk : Kp (SC σ T) σ τ) (hH : hoA 15 2 17 16 τ H) (ho : okH N n H) (hn : n ≤ 8) (hh : h < H.1) (hp : p < N) {a kd nu : Nat} (hkd : kd ≤ 5) (ht : mT τ a = some (kcl kd, 0)) (ha1 : mI τ a 1 = nI nu) (hq : Q (rkH E kd nu H h p) τ) : w_X11_rankOf_d_15 τ a (nI h) (nI p) Q := by
  have hN : N ≤ 8 := hE.1
  obtain ⟨e02, -, -, -, hSD⟩ := hE.2.2.2.2.2.1 τ hk
  unfold w_X11_rankOf_d_15
  refine top_ok_15 hH ho hn (by omega) ?_
  unfold rkH at hq
  unfold topI
  by_cases c : 0 < hgt H h
  · rw [if_pos c]
    rw [if_neg (by omega)] at hq
    have ht0 := ho.top c
    refine isP_ok e02 hN ht0 ⟨fun c => absurd c (by decide), fun _ => isP_ok e02 hN hp ⟨fun _ => ?_, fun c => absurd c (by decide)⟩⟩
    refine ⟨vp_in_nI (by omega) (by omega), vp_in_nI (by omega) (by omega), hgt_ok_15 hH ho hn (by omega) ?_⟩
    rw [k_cl (by omega), k_cl (by omega), (hSD _ ht0).1, (hSD _ hp).1]
    exact rankD_ok hkd ht ha1 hq
  · rw [if_neg c]
    rw [if_pos (by omega)] at hq
    exact isP_no ⟨fun _ => hq, fun c => absurd rfl c⟩
theorem rank_ok_9 {Q : Int32 → Mem → Prop} (hE : Env σ T N E.1 E.2.1 E.2.2.1 E.2.2.2) (hk : Kp (SC σ T) σ τ) (hH : hoA 9 2 11 10 τ H) (ho : okH N n H) (hn : n ≤ 8) (hh : h < H.1) (hp : p < N) {a kd nu : Nat} (hkd : kd ≤ 5) (ht : mT τ a = some (kcl kd, 0)) (ha1 : mI τ a 1 = nI nu) (hq : Q (rkH E kd nu H h p) τ) : w_X11_rankOf_d_9 τ a (nI h) (nI p) Q := by
  have hN : N ≤ 8 := hE.1
  obtain ⟨e02, -, -, -, hSD⟩ := hE.2.2.2.2.2.1 τ hk
  unfold w_X11_rankOf_d_9
  refine top_ok_9 hH ho hn (by omega) ?_
  unfold rkH at hq
  unfold topI
  by_cases c : 0 < hgt H h
  · rw [if_pos c]
    rw [if_neg (by omega)] at hq
    have ht0 := ho.top c
    refine isP_ok e02 hN ht0 ⟨fun c => absurd c (by decide), fun _ => isP_ok e02 hN hp ⟨fun _ => ?_, fun c => absurd c (by decide)⟩⟩
    refine ⟨vp_in_nI (by omega) (by omega), vp_in_nI (by omega) (by omega), hgt_ok_9 hH ho hn (by omega) ?_⟩
    rw [k_cl (by omega), k_cl (by omega), (hSD _ ht0).1, (hSD _ hp).1]
    exact rankD_ok hkd ht ha1 hq
  · rw [if_neg c]
    rw [if_pos (by omega)] at hq
    exact isP_no ⟨fun _ => hq, fun c => absurd rfl c⟩
theorem rankM_ok {Q : Int32 → Mem → Prop} (hE : Env σ T N E.1 E.2.1 E.2.2.1 E.2.2.2) (hk : Kp (SC σ T) σ τ) (hH : hoA 37 28 51 52 τ H) (ho : okH N n H) (hn : n ≤ 8) (hh : h < H.1) (hp : p < N) {l kd nu : Nat} (hkd : kd ≤ 5) (hl : l < 5) (h40 : mI τ 40 l = nI kd) (h41 : mI τ 41 l = nI nu) (hq : Q (rkH E kd nu H h p) τ) : w_X12_rank_ τ (nI l) (nI p) (nI h) Q := by
  have hN : N ≤ 8 := hE.1
  have h1 := ho.1
  have h2 := ho.hg h
  obtain ⟨-, -, -, -, hSD⟩ := hE.2.2.2.2.2.1 τ hk
  have e2 := hH.2.1 h hh
  rw [← hgt_lt hh] at e2
  unfold w_X12_rank_
  rw [k_cl (a := h) (by omega), e2]
  have hv8 : vp_in (nI h) 8 := vp_in_nI (by omega) (by omega)
  refine ⟨hv8, fun c => ?_, fun c => ?_⟩
  · have c0 : 0 < hgt H h := by
      rcases Nat.eq_zero_or_pos (hgt H h) with q | q
      · rw [q] at c; exact absurd rfl c
      · exact q
    have e3 : (8 : Int32) * nI h + nI (hgt H h) - 1 = nI (8 * h + (hgt H h - 1)) := by
      rw [show (8 : Int32) = nI 8 from rfl, show (1 : Int32) = nI 1 from rfl, k_mul, nI_add, k_sub (by omega)]
      congr 1
      omega
    have e4 : mI τ 52 (8 * h + (hgt H h - 1)) = nI (topA H h) := hH.2.2 h (hgt H h - 1) hh (by rw [hgt_lt hh] at c0 ⊢; omega)
    have ht0 := ho.top c0
    rw [e3, k_cl (a := 8 * h + (hgt H h - 1)) (by omega), e4, k_cl (a := topA H h) (by omega), k_cl (a := p) (by omega), k_cl (a := l) (by omega), (hSD _ ht0).2.2.1, (hSD _ hp).2.2.1, h40, h41]
    have hv5 : vp_in (nI l) 5 := vp_in_nI (by omega) (by omega)
    refine ⟨hv8, vp_in_nI (by omega) (by omega), vp_in_nI (by omega) (by omega), fun v1 hv1 => ⟨vp_in_nI (by omega) (by omega), hv5, fun v2 hv2 => ⟨hv5, ?_⟩⟩⟩
    subst hv1
    subst hv2
    unfold rkH rkA at hq
    rw [if_neg (by omega)] at hq
    have hc : kd = 0 ∨ kd = 1 ∨ kd = 2 ∨ kd = 3 ∨ kd = 4 ∨ kd = 5 := by omega
    have q0 : nI 0 = 0 := rfl
    have q1 : nI 1 = 1 := rfl
    have q2 : nI 2 = 2 := rfl
    have q3 : nI 3 = 3 := rfl
    have q4 : nI 4 = 4 := rfl
    have q5 : nI 5 = 5 := rfl
    rcases hc with rfl | rfl | rfl | rfl | rfl | rfl
    · rw [q0]; simp at hq; simp [hq]
    · rw [q1]; simp at hq; simp [hq]
    · rw [q2]; simp at hq; simp [hq]
    · rw [q3]; simp at hq; simp [hq, hv8]
    · rw [q4]; simp at hq; simp [hq, hv5]
    · rw [q5]; simp at hq; simp [hq]
  · have c0 : hgt H h = 0 := by
      rw [show (0 : Int32) = nI 0 from rfl, nI_eq (by omega) (by omega)] at c
      exact c
    unfold rkH at hq
    rw [if_pos c0] at hq
    exact hq
end RankA
