/-! STAGE 2: laying one on a heap, and taking it back -/
section PutA
variable {τ τ' : Mem} {H : HP} {N n h p cm cf ch cr : Nat}
theorem hoA.put (hH : hoA cm cf ch cr τ H) (ho : okH N n H) (hn : n < 8) (hh : h ≤ H.1) (e1 : mI τ' cm cf = nI (if h = H.1 then H.1 + 1 else H.1)) (e2 : mI τ' ch h = nI (hgt H h + 1)) (e3 : ∀ i, i ≠ h → mI τ' ch i = mI τ ch i) (e4 : mI τ' cr (8 * h + hgt H h) = nI p) (e5 : ∀ j, j ≠ 8 * h + hgt H h → mI τ' cr j = mI τ cr j) : hoA cm cf ch cr τ' (puA H h p) := by
  have h0 := ho.hg h
  refine ⟨e1, fun i hi => ?_, fun i k hi hk => ?_⟩
  · show mI τ' ch i = nI (if i = h then hgt H h + 1 else H.2.1 i)
    have hi' : i < (if h = H.1 then H.1 + 1 else H.1) := hi
    by_cases c : i = h
    · rw [if_pos c, c]; exact e2
    · rw [if_neg c, e3 i c]
      exact hH.2.1 i (by split at hi' <;> omega)
  · show mI τ' cr (8 * i + k) = nI (if i = h ∧ k = hgt H h then p else H.2.2 i k)
    have hi' : i < (if h = H.1 then H.1 + 1 else H.1) := hi
    have hk' : k < (if i = h then hgt H h + 1 else H.2.1 i) := hk
    by_cases c : i = h ∧ k = hgt H h
    · rw [if_pos c, c.1, c.2]; exact e4
    · rw [if_neg c]
      have hi2 : i < H.1 := by
        by_cases z : i = h
        · rw [if_pos z] at hk'
          rcases Nat.lt_or_ge i H.1 with q | q
          · exact q
          · rw [← z, hgt_ge (by omega)] at hk' c
            omega
        · split at hi' <;> omega
      have hk2 : k < H.2.1 i := by
        by_cases z : i = h
        · rw [if_pos z] at hk'
          rw [← z, hgt_lt hi2] at hk' c
          omega
        · rw [if_neg z] at hk'; exact hk'
      have := ho.2.1 i hi2
      rw [e5 _ (by omega)]
      exact hH.2.2 i k hi2 hk2
theorem hoA.undo (hH : hoA cm cf ch cr τ (puA H h p)) (e1 : mI τ' cm cf = nI H.1) (e2 : ∀ i, i < H.1 → mI τ' ch i = nI (H.2.1 i)) (e3 : ∀ j, mI τ' cr j = mI τ cr j) : hoA cm cf ch cr τ' H := by
  refine ⟨e1, e2, fun i k hi hk => ?_⟩
  rw [e3]
  have g := hH.2.2 i k (show i < (if h = H.1 then H.1 + 1 else H.1) by split <;> omega) (show k < (if i = h then hgt H h + 1 else H.2.1 i) by
    by_cases z : i = h
    · rw [if_pos z, ← z, hgt_lt hi]; omega
    · rw [if_neg z]; exact hk)
  have g' : mI τ cr (8 * i + k) = nI (if i = h ∧ k = hgt H h then p else H.2.2 i k) := g
  rw [if_neg (fun z => by rw [← z.1, hgt_lt hi] at z; omega)] at g'
  exact g'
theorem puA_hgt (hh : h ≤ H.1) : hgt (puA H h p) h = hgt H h + 1 := by
  have : h < (puA H h p).1 := show h < (if h = H.1 then H.1 + 1 else H.1) by split <;> omega
  rw [hgt_lt this]
  show (if h = h then hgt H h + 1 else H.2.1 h) = _
  rw [if_pos rfl]
theorem puA_top (hh : h ≤ H.1) : topA (puA H h p) h = p := by
  unfold topA
  rw [puA_hgt hh]
  show (if h = h ∧ hgt H h + 1 - 1 = hgt H h then p else _) = p
  rw [if_pos ⟨rfl, by omega⟩]
theorem puA_lt (hh : h ≤ H.1) : h < (puA H h p).1 := show h < (if h = H.1 then H.1 + 1 else H.1) by split <;> omega
theorem posH_put (hp : ∀ i, i < H.1 → 0 < H.2.1 i) (hh : h ≤ H.1) : ∀ i, i < (puA H h p).1 → 0 < (puA H h p).2.1 i := by
  intro i hi
  show 0 < (if i = h then hgt H h + 1 else H.2.1 i)
  have hi' : i < (if h = H.1 then H.1 + 1 else H.1) := hi
  by_cases c : i = h
  · rw [if_pos c]; omega
  · rw [if_neg c]
    exact hp i (by split at hi' <;> omega)
theorem put48_ok_15 {Q : Mem → Prop} (hH : hoA 15 2 17 16 τ H) (ho : okH N n H) (hn : n ≤ 8) (hN : N ≤ 8) (hh : h < H.1) (h8 : H.2.1 h < 8) (hp : p < N) (hq : Q (sI (sI (sI (sI τ 18 p (nI h)) 19 p (topI H h)) 16 (8 * h + H.2.1 h) (nI p)) 17 h (nI (H.2.1 h + 1)))) : w_X1_put_15_48 Q (nI h) (nI p) τ := by
  have h1 := ho.1
  have e2 := hH.2.1 h hh
  unfold w_X1_put_15_48
  have hv : vp_in (nI h) 8 := vp_in_nI (by omega) (by omega)
  have hvp : vp_in (nI p) 8 := vp_in_nI (by omega) (by omega)
  have hH' : hoA 15 2 17 16 (sI τ 18 p (nI h)) H := hH.fr ((Kp.rf (F := fun a _ => a = 18)).sI (a := 18) (k := p) (nI h) rfl) (by omega) (fun i => by omega) (fun i => by omega)
  refine has_ok_15 hH ho hn hh ⟨fun c => absurd c (by decide), fun _ => ⟨hv, fun _ => ⟨hvp, ?_⟩, fun c => ?_⟩⟩
  · rw [k_cl (a := p) (by omega), k_cl (a := h) (by omega)]
    refine top_ok_15 hH' ho hn (by omega) ?_
    rw [mI_sI_n _ _ (show 17 ≠ 18 by omega), e2]
    have e3 : nI h * 8 + nI (H.2.1 h) = nI (8 * h + H.2.1 h) := by
      rw [show (8 : Int32) = nI 8 from rfl, k_mul, nI_add, Nat.mul_comm]
    rw [e3, k_cl (a := 8 * h + H.2.1 h) (by omega), show nI (H.2.1 h) + 1 = nI (H.2.1 h + 1) from nI_add _ 1]
    refine ⟨hvp, hv, vp_in_nI (by omega) (by omega), hv, fun v hv1 => ⟨hv, ?_⟩⟩
    subst hv1
    exact hq
  · rw [k_cl (a := h) (by omega), e2] at c
    exact absurd (nI_lt (b := 8) h8 (by omega)) c
set_option maxHeartbeats 1000000 in
theorem put_ok_15 {Q : Mem → Prop} (hH : hoA 15 2 17 16 τ H) (ho : okH N n H) (hn : n < 8) (hN : N ≤ 8) (hh : h ≤ H.1) (hp : p < N) (hq : ∀ τ', Kp (fun a k => (a = 15 ∧ k = 2) ∨ (16 ≤ a ∧ a ≤ 19)) τ τ' → hoA 15 2 17 16 τ' (puA H h p) → mI τ' 18 p = nI h → mI τ' 19 p = topI H h → (∀ q, q ≠ p → mI τ' 18 q = mI τ 18 q ∧ mI τ' 19 q = mI τ 19 q) → Q τ') : w_X1_put_15 τ (nI h) (nI p) Q := by
  have h1 := ho.1
  have h0 := ho.hg h
  have hp0 : ¬ nI p < 0 := nI_pos (by omega)
  have hp8 : nI p < 8 := nI_lt (b := 8) (by omega) (by omega)
  unfold w_X1_put_15
  rw [hH.1]
  refine ⟨fun c => absurd c hp0, fun _ => ⟨fun _ => ⟨fun c => ?_, fun c => ?_⟩, fun c => absurd hp8 c⟩⟩
  · have hlt : h < H.1 := by
      rcases Nat.lt_or_ge h H.1 with q | q
      · exact q
      · exact absurd (by rw [show h = H.1 by omega]) c
    have hg := hgt_lt hlt
    rw [hg] at h0
    refine put48_ok_15 hH ho (by omega) hN hlt (by omega) hp (hq _ ?_ (hH.put (τ' := _) ho hn hh ?_ ?_ (fun i hi => ?_) ?_ (fun j hj => ?_)) ?_ ?_ (fun q hq => ⟨?_, ?_⟩))
    · exact (by repeat (first | exact Kp.rf | refine Kp.sI ?_ _ (by first | exact rfl | omega | (dsimp only; omega))))
    · simp only [mI_sI]
      rw [if_neg (show ¬ h = H.1 by omega)]
      simpa using hH.1
    · rw [hg, mI_sI_s]
    · simp [mI_sI, hi]
    · rw [hg]
      simp [mI_sI]
    · rw [hg] at hj
      simp [mI_sI, hj]
    · simp [mI_sI]
    · simp [mI_sI]
    · simp [mI_sI, hq]
    · simp [mI_sI, hq]
  · have he : h = H.1 := by rw [nI_eq (by omega) (by omega)] at c; exact c
    have hg : hgt H h = 0 := hgt_ge (by omega)
    have h8 : ¬ 8 ≤ nI H.1 := fun z => of_eq_false (k_nle (a := 8) (b := H.1) (by omega) (by omega)) z
    refine ⟨fun c => absurd c h8, fun _ => ⟨vp_in_nI (by omega) (by omega), ?_⟩⟩
    rw [k_cl (by omega), show nI H.1 + 1 = nI (H.1 + 1) from nI_add H.1 1]
    have hH1 : hoA 15 2 17 16 (sI (sI τ 17 H.1 0) 15 2 (nI (H.1 + 1))) (H.1 + 1, fun i => if i = H.1 then 0 else H.2.1 i, H.2.2) := by
      refine ⟨by rw [mI_sI_s], fun i hi => ?_, fun i k hi hk => ?_⟩
      · show _ = nI (if i = H.1 then 0 else H.2.1 i)
        rw [mI_sI_n _ _ (by omega)]
        by_cases z : i = H.1
        · rw [if_pos z, z, mI_sI_s]; rfl
        · rw [if_neg z, mI_sI_k _ _ z]
          exact hH.2.1 i (by have : i < H.1 + 1 := hi; omega)
      · have hi' : i < H.1 + 1 := hi
        have hk' : k < (if i = H.1 then 0 else H.2.1 i) := hk
        by_cases z : i = H.1
        · rw [if_pos z] at hk'; omega
        · rw [if_neg z] at hk'
          rw [mI_sI_n _ _ (by omega), mI_sI_n _ _ (by omega)]
          exact hH.2.2 i k (by omega) hk'
    have ho1 : okH N (n + 1) (H.1 + 1, fun i => if i = H.1 then 0 else H.2.1 i, H.2.2) := by
      refine ⟨by show H.1 + 1 ≤ n + 1; omega, fun i hi => ?_, fun i k hi hk => ?_⟩
      · show (if i = H.1 then 0 else H.2.1 i) ≤ n + 1
        have hi' : i < H.1 + 1 := hi
        by_cases z : i = H.1
        · rw [if_pos z]; omega
        · rw [if_neg z]
          have := ho.2.1 i (by omega)
          omega
      · have hi' : i < H.1 + 1 := hi
        have hk' : k < (if i = H.1 then 0 else H.2.1 i) := hk
        by_cases z : i = H.1
        · rw [if_pos z] at hk'; omega
        · rw [if_neg z] at hk'
          exact ho.2.2 i k (by omega) hk'
    have hz : (if h = H.1 then 0 else H.2.1 h) = 0 := if_pos he
    have ht1 : topI (H.1 + 1, fun i => if i = H.1 then 0 else H.2.1 i, H.2.2) h = -1 := by
      unfold topI hgt
      dsimp only
      rw [if_pos (show h < H.1 + 1 by omega), hz, if_neg (by omega)]
    have ht2 : topI H h = -1 := by
      unfold topI
      rw [hg, if_neg (by omega)]
    refine put48_ok_15 hH1 ho1 (by omega) hN (show h < H.1 + 1 by omega) (show (if h = H.1 then 0 else H.2.1 h) < 8 by rw [hz]; omega) hp ?_
    rw [ht1]
    dsimp only
    rw [hz]
    refine hq _ ?_ (hH.put (τ' := _) ho hn hh ?_ ?_ (fun i hi => ?_) ?_ (fun j hj => ?_)) ?_ ?_ (fun q hq => ⟨?_, ?_⟩)
    · exact (by repeat (first | exact Kp.rf | refine Kp.sI ?_ _ (by first | exact rfl | omega | (dsimp only; omega))))
    · simp only [mI_sI]
      rw [if_pos he]
      simp
    · rw [hg, mI_sI_s]
    · have : i ≠ H.1 := by omega
      simp [mI_sI, hi, this]
    · rw [hg]
      simp [mI_sI]
    · have hj' : j ≠ 8 * h := by omega
      simp [mI_sI, hj']
    · simp [mI_sI]
    · rw [ht2]
      simp [mI_sI]
    · simp [mI_sI, hq]
    · simp [mI_sI, hq]
theorem put48_ok_9 {Q : Mem → Prop} (hH : hoA 9 2 11 10 τ H) (ho : okH N n H) (hn : n ≤ 8) (hN : N ≤ 8) (hh : h < H.1) (h8 : H.2.1 h < 8) (hp : p < N) (hq : Q (sI (sI (sI (sI τ 12 p (nI h)) 13 p (topI H h)) 10 (8 * h + H.2.1 h) (nI p)) 11 h (nI (H.2.1 h + 1)))) : w_X1_put_9_48 Q (nI h) (nI p) τ := by
  have h1 := ho.1
  have e2 := hH.2.1 h hh
  unfold w_X1_put_9_48
  have hv : vp_in (nI h) 8 := vp_in_nI (by omega) (by omega)
  have hvp : vp_in (nI p) 8 := vp_in_nI (by omega) (by omega)
  have hH' : hoA 9 2 11 10 (sI τ 12 p (nI h)) H := hH.fr ((Kp.rf (F := fun a _ => a = 12)).sI (a := 12) (k := p) (nI h) rfl) (by omega) (fun i => by omega) (fun i => by omega)
  refine has_ok_9 hH ho hn hh ⟨fun c => absurd c (by decide), fun _ => ⟨hv, fun _ => ⟨hvp, ?_⟩, fun c => ?_⟩⟩
  · rw [k_cl (a := p) (by omega), k_cl (a := h) (by omega)]
    refine top_ok_9 hH' ho hn (by omega) ?_
    rw [mI_sI_n _ _ (show 11 ≠ 12 by omega), e2]
    have e3 : nI h * 8 + nI (H.2.1 h) = nI (8 * h + H.2.1 h) := by
      rw [show (8 : Int32) = nI 8 from rfl, k_mul, nI_add, Nat.mul_comm]
    rw [e3, k_cl (a := 8 * h + H.2.1 h) (by omega), show nI (H.2.1 h) + 1 = nI (H.2.1 h + 1) from nI_add _ 1]
    refine ⟨hvp, hv, vp_in_nI (by omega) (by omega), hv, fun v hv1 => ⟨hv, ?_⟩⟩
    subst hv1
    exact hq
  · rw [k_cl (a := h) (by omega), e2] at c
    exact absurd (nI_lt (b := 8) h8 (by omega)) c
set_option maxHeartbeats 1000000 in
theorem put_ok_9 {Q : Mem → Prop} (hH : hoA 9 2 11 10 τ H) (ho : okH N n H) (hn : n < 8) (hN : N ≤ 8) (hh : h ≤ H.1) (hp : p < N) (hq : ∀ τ', Kp (fun a k => (a = 9 ∧ k = 2) ∨ (10 ≤ a ∧ a ≤ 13)) τ τ' → hoA 9 2 11 10 τ' (puA H h p) → mI τ' 12 p = nI h → mI τ' 13 p = topI H h → (∀ q, q ≠ p → mI τ' 12 q = mI τ 12 q ∧ mI τ' 13 q = mI τ 13 q) → Q τ') : w_X1_put_9 τ (nI h) (nI p) Q := by
  have h1 := ho.1
  have h0 := ho.hg h
  have hp0 : ¬ nI p < 0 := nI_pos (by omega)
  have hp8 : nI p < 8 := nI_lt (b := 8) (by omega) (by omega)
  unfold w_X1_put_9
  rw [hH.1]
  refine ⟨fun c => absurd c hp0, fun _ => ⟨fun _ => ⟨fun c => ?_, fun c => ?_⟩, fun c => absurd hp8 c⟩⟩
  · have hlt : h < H.1 := by
      rcases Nat.lt_or_ge h H.1 with q | q
      · exact q
      · exact absurd (by rw [show h = H.1 by omega]) c
    have hg := hgt_lt hlt
    rw [hg] at h0
    refine put48_ok_9 hH ho (by omega) hN hlt (by omega) hp (hq _ ?_ (hH.put (τ' := _) ho hn hh ?_ ?_ (fun i hi => ?_) ?_ (fun j hj => ?_)) ?_ ?_ (fun q hq => ⟨?_, ?_⟩))
    · exact (by repeat (first | exact Kp.rf | refine Kp.sI ?_ _ (by first | exact rfl | omega | (dsimp only; omega))))
    · simp only [mI_sI]
      rw [if_neg (show ¬ h = H.1 by omega)]
      simpa using hH.1
    · rw [hg, mI_sI_s]
    · simp [mI_sI, hi]
    · rw [hg]
      simp [mI_sI]
    · rw [hg] at hj
      simp [mI_sI, hj]
    · simp [mI_sI]
    · simp [mI_sI]
    · simp [mI_sI, hq]
    · simp [mI_sI, hq]
  · have he : h = H.1 := by rw [nI_eq (by omega) (by omega)] at c; exact c
    have hg : hgt H h = 0 := hgt_ge (by omega)
    have h8 : ¬ 8 ≤ nI H.1 := fun z => of_eq_false (k_nle (a := 8) (b := H.1) (by omega) (by omega)) z
    refine ⟨fun c => absurd c h8, fun _ => ⟨vp_in_nI (by omega) (by omega), ?_⟩⟩
    rw [k_cl (by omega), show nI H.1 + 1 = nI (H.1 + 1) from nI_add H.1 1]
    have hH1 : hoA 9 2 11 10 (sI (sI τ 11 H.1 0) 9 2 (nI (H.1 + 1))) (H.1 + 1, fun i => if i = H.1 then 0 else H.2.1 i, H.2.2) := by
      refine ⟨by rw [mI_sI_s], fun i hi => ?_, fun i k hi hk => ?_⟩
      · show _ = nI (if i = H.1 then 0 else H.2.1 i)
        rw [mI_sI_n _ _ (by omega)]
        by_cases z : i = H.1
        · rw [if_pos z, z, mI_sI_s]; rfl
        · rw [if_neg z, mI_sI_k _ _ z]
          exact hH.2.1 i (by have : i < H.1 + 1 := hi; omega)
      · have hi' : i < H.1 + 1 := hi
        have hk' : k < (if i = H.1 then 0 else H.2.1 i) := hk
        by_cases z : i = H.1
        · rw [if_pos z] at hk'; omega
        · rw [if_neg z] at hk'
          rw [mI_sI_n _ _ (by omega), mI_sI_n _ _ (by omega)]
          exact hH.2.2 i k (by omega) hk'
    have ho1 : okH N (n + 1) (H.1 + 1, fun i => if i = H.1 then 0 else H.2.1 i, H.2.2) := by
      refine ⟨by show H.1 + 1 ≤ n + 1; omega, fun i hi => ?_, fun i k hi hk => ?_⟩
      · show (if i = H.1 then 0 else H.2.1 i) ≤ n + 1
        have hi' : i < H.1 + 1 := hi
        by_cases z : i = H.1
        · rw [if_pos z]; omega
        · rw [if_neg z]
          have := ho.2.1 i (by omega)
          omega
      · have hi' : i < H.1 + 1 := hi
        have hk' : k < (if i = H.1 then 0 else H.2.1 i) := hk
        by_cases z : i = H.1
        · rw [if_pos z] at hk'; omega
        · rw [if_neg z] at hk'
          exact ho.2.2 i k (by omega) hk'
    have hz : (if h = H.1 then 0 else H.2.1 h) = 0 := if_pos he
    have ht1 : topI (H.1 + 1, fun i => if i = H.1 then 0 else H.2.1 i, H.2.2) h = -1 := by
      unfold topI hgt
      dsimp only
      rw [if_pos (show h < H.1 + 1 by omega), hz, if_neg (by omega)]
    have ht2 : topI H h = -1 := by
      unfold topI
      rw [hg, if_neg (by omega)]
    refine put48_ok_9 hH1 ho1 (by omega) hN (show h < H.1 + 1 by omega) (show (if h = H.1 then 0 else H.2.1 h) < 8 by rw [hz]; omega) hp ?_
    rw [ht1]
    dsimp only
    rw [hz]
    refine hq _ ?_ (hH.put (τ' := _) ho hn hh ?_ ?_ (fun i hi => ?_) ?_ (fun j hj => ?_)) ?_ ?_ (fun q hq => ⟨?_, ?_⟩)
    · exact (by repeat (first | exact Kp.rf | refine Kp.sI ?_ _ (by first | exact rfl | omega | (dsimp only; omega))))
    · simp only [mI_sI]
      rw [if_pos he]
      simp
    · rw [hg, mI_sI_s]
    · have : i ≠ H.1 := by omega
      simp [mI_sI, hi, this]
    · rw [hg]
      simp [mI_sI]
    · have hj' : j ≠ 8 * h := by omega
      simp [mI_sI, hj']
    · simp [mI_sI]
    · rw [ht2]
      simp [mI_sI]
    · simp [mI_sI, hq]
    · simp [mI_sI, hq]
theorem undo_ok {Q : Mem → Prop} (hH : hoA 15 2 17 16 τ (puA H h p)) (ho : okH N n H) (hn : n < 8) (hN : N ≤ 8) (hh : h ≤ H.1) (hp : p < N) (hpos : ∀ i, i < H.1 → 0 < H.2.1 i) (hq : ∀ τ', Kp (fun a k => (a = 15 ∧ k = 2) ∨ a = 17) τ τ' → hoA 15 2 17 16 τ' H → Q τ') : w_X1_undo_15 τ (nI h) Q := by
  have h1 := ho.1
  have h0 := ho.hg h
  have ho' := ho.put hh hp
  have hlt := puA_lt (H := H) (h := h) (p := p) hh
  have e2 := hH.2.1 h hlt
  rw [← hgt_lt hlt, puA_hgt hh] at e2
  have ht : topI (puA H h p) h = nI p := by
    unfold topI
    rw [puA_hgt hh, if_pos (by omega), puA_top hh]
  have hv : vp_in (nI h) 8 := vp_in_nI (by omega) (by omega)
  have hM := hH.1
  have hM' : mI τ 15 2 = nI (if h = H.1 then H.1 + 1 else H.1) := hM
  unfold w_X1_undo_15 w_X1_drop_15
  refine top_ok_15 hH ho' (by omega) (by omega) ?_
  rw [ht]
  refine ⟨fun c => absurd c (fun z => of_eq_false (k_eqm (a := p) (by omega)) z), fun _ => ⟨hv, fun v hv1 => ⟨hv, ?_⟩⟩⟩
  rw [k_cl (by omega), e2, show (1 : Int32) = nI 1 from rfl, k_sub (by omega)] at hv1
  subst hv1
  rw [k_cl (by omega)]
  unfold w_X1_has_15
  rw [mI_sI_n _ _ (by omega), hM']
  have hge : ¬ nI (if h = H.1 then H.1 + 1 else H.1) ≤ nI h := fun z => of_eq_false (k_nle (a := if h = H.1 then H.1 + 1 else H.1) (b := h) (by split <;> omega) (by split <;> omega)) z
  refine ⟨fun c => absurd c (nI_pos (by omega)), fun _ => ⟨fun c => absurd c hge, fun _ => ⟨fun c => absurd c (by decide), fun _ => ⟨hv, ?_⟩⟩⟩⟩
  rw [mI_sI_s, show hgt H h + 1 - 1 = hgt H h by omega]
  refine ⟨fun c => ?_, fun c => ?_⟩
  · have c0 : ¬ hgt H h = 0 := fun z => c (by rw [z]; rfl)
    have hlt2 : h < H.1 := by
      rcases Nat.lt_or_ge h H.1 with q | q
      · exact q
      · exact absurd (hgt_ge (by omega)) c0
    rw [if_neg (by omega)] at hM'
    refine hq _ ((by repeat (first | exact Kp.rf | refine Kp.sI ?_ _ (by first | exact rfl | omega | (dsimp only; omega))))) (hH.undo ?_ (fun i hi => ?_) (fun j => ?_))
    · rw [mI_sI_n _ _ (by omega)]; exact hM'
    · by_cases z : i = h
      · rw [z, mI_sI_s, hgt_lt hlt2]
      · rw [mI_sI_k _ _ z]
        have := hH.2.1 i (show i < (if h = H.1 then H.1 + 1 else H.1) by split <;> omega)
        rw [this]
        show nI (if i = h then hgt H h + 1 else H.2.1 i) = _
        rw [if_neg z]
    · rw [mI_sI_n _ _ (by omega)]
  · have c0 : hgt H h = 0 := by
      rw [show (0 : Int32) = nI 0 from rfl, nI_eq (by omega) (by omega)] at c
      exact c
    have he : h = H.1 := by
      rcases Nat.lt_or_ge h H.1 with q | q
      · have := hpos h q
        rw [hgt_lt q] at c0
        omega
      · omega
    refine hq _ ((by repeat (first | exact Kp.rf | refine Kp.sI ?_ _ (by first | exact rfl | omega | (dsimp only; omega))))) (hH.undo ?_ (fun i hi => ?_) (fun j => ?_))
    · rw [mI_sI_s, he]
    · have z : i ≠ h := by omega
      rw [mI_sI_n _ _ (by omega), mI_sI_k _ _ z]
      have := hH.2.1 i (show i < (if h = H.1 then H.1 + 1 else H.1) by split <;> omega)
      rw [this]
      show nI (if i = h then hgt H h + 1 else H.2.1 i) = _
      rw [if_neg z]
    · rw [mI_sI_n _ _ (by omega), mI_sI_n _ _ (by omega)]
set_option maxHeartbeats 1000000 in
theorem putM_ok {Q : Mem → Prop} (hH : hoA 37 28 51 52 τ H) (ho : okH N n H) (hn : n < 8) (hN : N ≤ 8) (hh : h ≤ H.1) (hp : p < N) (hq : ∀ τ', Kp (fun a k => (a = 37 ∧ k = 28) ∨ a = 51 ∨ a = 52) τ τ' → hoA 37 28 51 52 τ' (puA H h p) → Q τ') : w_X12_put τ (nI p) (nI h) Q := by
  have h1 := ho.1
  have h0 := ho.hg h
  have hv : vp_in (nI h) 8 := vp_in_nI (by omega) (by omega)
  have e3 : ∀ m, (8 : Int32) * nI h + nI m = nI (8 * h + m) := fun m => by rw [show (8 : Int32) = nI 8 from rfl, k_mul, nI_add]
  have e4 : ∀ m, nI m + 1 = nI (m + 1) := fun m => nI_add m 1
  unfold w_X12_put
  rw [hH.1]
  refine ⟨fun c => ?_, fun c => ?_⟩
  · have hlt : h < H.1 := by
      rcases Nat.lt_or_ge h H.1 with q | q
      · exact q
      · exact absurd (by rw [show h = H.1 by omega]) c
    have hg := hgt_lt hlt
    have e2 := hH.2.1 h hlt
    unfold w_X12_put_25
    rw [k_cl (a := h) (by omega), e2, e3, e4, k_cl (by omega)]
    refine ⟨hv, vp_in_nI (by omega) (by omega), hv, fun v hv1 => ⟨hv, ?_⟩⟩
    subst hv1
    refine hq _ ((by repeat (first | exact Kp.rf | refine Kp.sI ?_ _ (by first | exact rfl | omega | (dsimp only; omega))))) (hH.put (τ' := _) ho hn hh ?_ ?_ (fun i hi => ?_) ?_ (fun j hj => ?_))
    · rw [mI_sI_n _ _ (by omega), mI_sI_n _ _ (by omega), if_neg (by omega)]; exact hH.1
    · rw [hg, mI_sI_s]
    · rw [mI_sI_k _ _ hi, mI_sI_n _ _ (by omega)]
    · rw [hg, mI_sI_n _ _ (by omega), mI_sI_s]
    · rw [hg] at hj
      rw [mI_sI_n _ _ (by omega), mI_sI_k _ _ hj]
  · have he : h = H.1 := by rw [nI_eq (by omega) (by omega)] at c; exact c
    have hg : hgt H h = 0 := hgt_ge (by omega)
    refine ⟨hv, ?_⟩
    unfold w_X12_put_25
    rw [k_cl (a := h) (by omega), mI_sI_n _ _ (by omega), mI_sI_s, show (0 : Int32) = nI 0 from rfl, e3, e4, e4, k_cl (by omega)]
    refine ⟨hv, vp_in_nI (by omega) (by omega), hv, fun v hv1 => ⟨hv, ?_⟩⟩
    subst hv1
    refine hq _ ((by repeat (first | exact Kp.rf | refine Kp.sI ?_ _ (by first | exact rfl | omega | (dsimp only; omega))))) (hH.put (τ' := _) ho hn hh ?_ ?_ (fun i hi => ?_) ?_ (fun j hj => ?_))
    · rw [mI_sI_n _ _ (by omega), mI_sI_n _ _ (by omega), mI_sI_s, if_pos he]
    · rw [hg, mI_sI_s]
    · rw [mI_sI_k _ _ hi, mI_sI_n _ _ (by omega), mI_sI_n _ _ (by omega), mI_sI_k _ _ hi]
    · rw [hg, mI_sI_n _ _ (by omega), mI_sI_s]
    · rw [hg] at hj
      rw [mI_sI_n _ _ (by omega), mI_sI_k _ _ hj, mI_sI_n _ _ (by omega), mI_sI_n _ _ (by omega)]
theorem putBack_ok {Q : Mem → Prop} (hH : hoA 37 28 51 52 τ (puA H h p)) (ho : okH N n H) (hn : n < 8) (hh : h ≤ H.1) (hpos : ∀ i, i < H.1 → 0 < H.2.1 i) (hq : ∀ τ', Kp (fun a k => (a = 37 ∧ k = 28) ∨ a = 51) τ τ' → hoA 37 28 51 52 τ' H → Q τ') : w_X12_putBack τ (nI h) Q := by
  have h1 := ho.1
  have h0 := ho.hg h
  have hlt := puA_lt (H := H) (h := h) (p := p) hh
  have e2 := hH.2.1 h hlt
  rw [← hgt_lt hlt, puA_hgt hh] at e2
  have hv : vp_in (nI h) 8 := vp_in_nI (by omega) (by omega)
  have hM' : mI τ 37 28 = nI (if h = H.1 then H.1 + 1 else H.1) := hH.1
  have fin : ∀ M' : Int32, M' = nI H.1 → Q (sI (sI τ 51 h (nI (hgt H h))) 37 28 M') := by
    intro M' hM2
    refine hq _ ((by repeat (first | exact Kp.rf | refine Kp.sI ?_ _ (by first | exact rfl | omega | (dsimp only; omega))))) (hH.undo ?_ (fun i hi => ?_) (fun j => ?_))
    · rw [mI_sI_s, hM2]
    · rw [mI_sI_n _ _ (by omega)]
      by_cases z : i = h
      · rw [z, mI_sI_s]
        rw [z] at hi
        rw [hgt_lt hi]
      · rw [mI_sI_k _ _ z]
        have := hH.2.1 i (show i < (if h = H.1 then H.1 + 1 else H.1) by split <;> omega)
        rw [this]
        show nI (if i = h then hgt H h + 1 else H.2.1 i) = _
        rw [if_neg z]
    · rw [mI_sI_n _ _ (by omega), mI_sI_n _ _ (by omega)]
  unfold w_X12_putBack
  rw [k_cl (by omega), e2, hM', show (1 : Int32) = nI 1 from rfl, k_sub (show 1 ≤ hgt H h + 1 by omega), show hgt H h + 1 - 1 = hgt H h by omega]
  refine ⟨hv, fun v hv1 => ⟨hv, fun c => ?_, fun c => ⟨hv, fun c2 => ?_, fun c2 => ?_⟩⟩⟩
  · subst hv1
    have hlt2 : h < H.1 := by
      rcases Nat.lt_or_ge h H.1 with q | q
      · exact q
      · exfalso
        apply c
        rw [if_pos (by omega), k_sub (by omega), show H.1 + 1 - 1 = h by omega]
    rw [if_neg (by omega)]
    exact fin _ (by rw [show (0 : Int32) = nI 0 from rfl, k_sub (by omega)]; rfl)
  · subst hv1
    have c0 : ¬ hgt H h = 0 := fun z => c2 (by rw [z]; rfl)
    have hlt2 : h < H.1 := by
      rcases Nat.lt_or_ge h H.1 with q | q
      · exact q
      · exact absurd (hgt_ge (by omega)) c0
    rw [if_neg (by omega)]
    exact fin _ (by rw [show (0 : Int32) = nI 0 from rfl, k_sub (by omega)]; rfl)
  · subst hv1
    have c0 : hgt H h = 0 := by
      rw [show (0 : Int32) = nI 0 from rfl, nI_eq (by omega) (by omega)] at c2
      exact c2
    have he : h = H.1 := by
      rcases Nat.lt_or_ge h H.1 with q | q
      · have := hpos h q
        rw [hgt_lt q] at c0
        omega
      · omega
    rw [if_pos he]
    exact fin _ (by rw [k_sub (by omega)]; rfl)
end PutA
