/-! STAGE 2: pairs of calls, more -/
theorem bz_ite {c : Prop} [Decidable c] : bz (if c then 1 else 0) := by
  by_cases h : c
  · rw [if_pos h]; exact bz1
  · rw [if_neg h]; exact bz0
/-- 0 .. hi - 1 or not -/
def hIn (v hi : Int32) (Q : Int32 → Prop) : Prop := Q (if 0 ≤ v ∧ v < hi then 1 else 0)
theorem hIn_t {v hi : Int32} (h : 0 ≤ v ∧ v < hi) {Q : Int32 → Prop} : hIn v hi Q ↔ Q 1 := by unfold hIn; rw [if_pos h]
theorem hIn_f {v hi : Int32} (h : ¬ (0 ≤ v ∧ v < hi)) {Q : Int32 → Prop} : hIn v hi Q ↔ Q 0 := by unfold hIn; rw [if_neg h]
theorem in_t {v lo hi : Int32} (h : lo ≤ v ∧ v ≤ hi) {σ : Mem} {Q : Int32 → Mem → Prop} : w_X12_isIn σ v lo hi Q ↔ Q 1 σ := by rw [q_isIn, if_pos h]
theorem in_f {v lo hi : Int32} (h : ¬ (lo ≤ v ∧ v ≤ hi)) {σ : Mem} {Q : Int32 → Mem → Prop} : w_X12_isIn σ v lo hi Q ↔ Q 0 σ := by rw [q_isIn, if_neg h]
theorem r_isMeasure {σ : Mem} {v : Int32} {Q : Int32 → Mem → Prop} : w_X11_isMeasure σ v Q ↔ w_X12_isIn σ v 0 99 Q := by rw [q_isMeasure, q_isIn]
theorem r_isPlateC {σ : Mem} {v : Int32} {Q : Int32 → Mem → Prop} : w_X11_isPlate σ v Q ↔ hIn v (mI σ 0 2) (fun r => Q r σ) := q_isPlateC
theorem in_bz {σ : Mem} {v lo hi : Int32} {Q : Int32 → Mem → Prop} : w_X12_isIn σ v lo hi (fun r s => bz r ∧ Q r s) ↔ w_X12_isIn σ v lo hi Q := by
  rw [q_isIn, q_isIn]
  exact ⟨fun h => h.2, fun h => ⟨bz_ite, h⟩⟩
theorem r_isPlateM {σ : Mem} {v : Int32} {Q : Int32 → Mem → Prop} : w_X12_isPlate σ v Q ↔ w_X12_isIn σ v 0 (mI σ 37 0 - 1) Q := in_bz
theorem r_isSheet {σ : Mem} {v : Int32} {Q : Int32 → Mem → Prop} : w_X12_isSheet σ v Q ↔ w_X12_isIn σ v 0 3 Q := in_bz
theorem r_isLayerM {σ : Mem} {v : Int32} {Q : Int32 → Mem → Prop} : w_X12_isLayer σ v Q ↔ w_X12_isIn σ v 0 (mI σ 37 3 - 1) Q := in_bz
theorem r_has9 {σ : Mem} {v : Int32} {Q : Int32 → Mem → Prop} : w_X1_has_9 σ v Q ↔ hIn v (mI σ 9 2) (fun r => Q r σ) := by
  unfold w_X1_has_9 hIn
  by_cases h1 : v < 0
  · have : ¬ (0 ≤ v ∧ v < mI σ 9 2) := fun q => Int32.not_le.mpr h1 q.1
    simp [h1, this]
  · by_cases h2 : mI σ 9 2 ≤ v
    · have : ¬ (0 ≤ v ∧ v < mI σ 9 2) := fun q => Int32.not_le.mpr q.2 h2
      simp [h1, h2, this]
    · have : 0 ≤ v ∧ v < mI σ 9 2 := ⟨Int32.not_lt.mp h1, Int32.not_le.mp h2⟩
      simp [h1, h2, this]
theorem nI_not0 {h : Nat} (hh : h < 2 ^ 31) : ¬ nI h < 0 := nI_pos hh
/-- a heap's numbers are small -/
theorem rHe.small {σ : Mem} {cr ch mr mh M l : Nat} {ht : Nat → Nat} (h : rHe σ cr ch mr mh M l ht) (hl : l ≤ 8) {i : Nat} (hi : i < M) : ht i ≤ 8 ∧ i < 8 := by
  have := fb_sm_part ht hi
  have h1 := h.1
  have h2 := h.2.1
  omega
/-- the height of a heap becomes v -/
theorem rHe.low {σ : Mem} {cr ch mr mh M l : Nat} {ht : Nat → Nat} (h : rHe σ cr ch mr mh M l ht) {i : Nat} (hi : i < M) (v : Nat) (hv : v ≤ ht i) (d1 : ch ≠ mh) (d2 : cr ≠ ch) (d3 : cr ≠ mh) (d4 : mr ≠ ch) (d5 : mr ≠ mh) : rHe (sI (sI σ ch i (nI v)) mh i (nI v)) cr ch mr mh M l (fun k => if k = i then v else ht k) := by
  obtain ⟨h1, h2, h3, h4⟩ := h
  refine ⟨h1, ?_, fun j hj => ?_, fun j k hj hk => ?_⟩
  · have := fb_sm_upd ht v hi
    omega
  · by_cases e : j = i
    · subst e
      simp [mI_sI, d1]
    · have := h3 j hj
      simp [mI_sI, e]
      exact this
  · have hk2 : k < ht j := by
      by_cases e : j = i
      · subst e; simp at hk; omega
      · simp [e] at hk; exact hk
    obtain ⟨p, hp, g1, g2⟩ := h4 j k hj hk2
    refine ⟨p, hp, ?_, ?_⟩
    · rw [mI_sI_n _ _ d3, mI_sI_n _ _ d2]; exact g1
    · rw [mI_sI_n _ _ d5, mI_sI_n _ _ d4]; exact g2
set_option maxHeartbeats 2000000 in
theorem p_set (σ : Mem) (x0 x1 x2 : Int32) (h : Rel σ) : w_X11_set σ x0 x1 x2 (fun r1 s1 => w_X12_set s1 x0 x1 x2 (fun r2 s2 => r1 = r2 ∧ Rel s2)) := by
  have h' := h
  obtain ⟨hS, hL, N, L, T, hPl, hLa, hTx, hHi, hTa, hTb, hIm, hSh, hMo⟩ := h
  have hPl' := hPl
  obtain ⟨hN, e1, e2, hi⟩ := hPl
  have t1 : mT σ 1 = some (14, 8) := hS.2 (1, 14, 8) (by decide)
  have t2 : mT σ 2 = some (14, 8) := hS.2 (2, 14, 8) (by decide)
  by_cases a0 : x0 = 0
  · subst a0
    by_cases c1 : 0 ≤ x1 ∧ x1 < nI N
    · obtain ⟨p, hp, rfl⟩ := lt_nI (by omega) c1
      have c2 : 0 ≤ nI p ∧ nI p ≤ nI N - 1 := (le_m1 (by omega)).mpr c1
      have q4 : (nI p).toNatClampNeg = p := nI_clamp (by omega)
      have q3 : vp_in (nI p) 8 := vp_in_nI (by omega) (by decide)
      by_cases c3 : 0 ≤ x2 ∧ x2 ≤ 99
      · simp [w_X11_set, w_X12_set, w_X11_set_53, r_isPlateC, r_isPlateM, r_isMeasure, e1, e2, hIn_t c1, in_t c2, in_t c3, q3, q4, t1, t2, mI_sI]
        refine ⟨?_, ?_⟩
        · exact (hi p hp).1.symm
        have hk : Kp (fun a k => a = 1 ∨ a = 38) σ (sI (sI σ 1 p x2) 38 p x2) := (Kp.rf.sI _ (by simp)).sI _ (by simp)
        refine ⟨hk.mS hS, by rw [hk.2.2.1]; exact hL, N, L, T, ?_, hLa.fr hk (by simp) (by simp) (fun a i h _ => by simp; omega) (fun i => by simp) (fun i => by simp), hTx.fr hk (by simp) (by simp) (fun a i hc => by have := hc.dyn hTx; unfold dyn at this; simp; omega) (fun i => by simp) (fun i => by simp), hHi.fr hk (by simp) (by simp) (by simp) (by simp), hTa.fr hk (by simp) (by simp) (fun i => by simp) (fun i => by simp), hTb.fr hk (by simp) (by simp) (by simp) (by simp) (fun i => by simp) (fun i => by simp) (fun i => by simp) (fun i => by simp), hIm.fr hk (by simp) (fun a i hc => by have := hc.dyn hIm; simp; omega) (fun i => by simp) (fun i => by simp), hSh.fr hk (fun a i h1 h2 => by simp; omega) (fun i => by simp) (fun i => by simp) (fun i => by simp), hMo.fr hk (fun i => by simp) (fun i => by simp) (fun i => by simp)⟩
        refine ⟨hN, by simp [mI_sI, e1], by simp [mI_sI, e2], fun i hi2 => ?_⟩
        have := hi i hi2
        by_cases c4 : i = p
        · subst c4
          simp [mI_sI, bnd_of c3]
          exact this.2.2
        · simp [mI_sI, c4]
          exact this
      · simp [w_X11_set, w_X12_set, r_isPlateC, r_isPlateM, r_isMeasure, e1, e2, hIn_t c1, in_t c2, in_f c3, h']
    · have c2 : ¬ (0 ≤ x1 ∧ x1 ≤ nI N - 1) := fun q => c1 ((le_m1 (by omega)).mp q)
      simp [w_X11_set, w_X12_set, r_isPlateC, r_isPlateM, e1, e2, hIn_f c1, in_f c2, h']
  by_cases a1 : x0 = 1
  · subst a1
    by_cases c1 : 0 ≤ x1 ∧ x1 < nI N
    · obtain ⟨p, hp, rfl⟩ := lt_nI (by omega) c1
      have c2 : 0 ≤ nI p ∧ nI p ≤ nI N - 1 := (le_m1 (by omega)).mpr c1
      have q4 : (nI p).toNatClampNeg = p := nI_clamp (by omega)
      have q3 : vp_in (nI p) 8 := vp_in_nI (by omega) (by decide)
      by_cases c3 : 0 ≤ x2 ∧ x2 ≤ 99
      · simp [w_X11_set, w_X12_set, w_X11_set_53, r_isPlateC, r_isPlateM, r_isMeasure, e1, e2, hIn_t c1, in_t c2, in_t c3, q3, q4, t1, t2, mI_sI]
        refine ⟨?_, ?_⟩
        · exact (hi p hp).2.2.1.symm
        have hk : Kp (fun a k => a = 2 ∨ a = 39) σ (sI (sI σ 2 p x2) 39 p x2) := (Kp.rf.sI _ (by simp)).sI _ (by simp)
        refine ⟨hk.mS hS, by rw [hk.2.2.1]; exact hL, N, L, T, ?_, hLa.fr hk (by simp) (by simp) (fun a i h _ => by simp; omega) (fun i => by simp) (fun i => by simp), hTx.fr hk (by simp) (by simp) (fun a i hc => by have := hc.dyn hTx; unfold dyn at this; simp; omega) (fun i => by simp) (fun i => by simp), hHi.fr hk (by simp) (by simp) (by simp) (by simp), hTa.fr hk (by simp) (by simp) (fun i => by simp) (fun i => by simp), hTb.fr hk (by simp) (by simp) (by simp) (by simp) (fun i => by simp) (fun i => by simp) (fun i => by simp) (fun i => by simp), hIm.fr hk (by simp) (fun a i hc => by have := hc.dyn hIm; simp; omega) (fun i => by simp) (fun i => by simp), hSh.fr hk (fun a i h1 h2 => by simp; omega) (fun i => by simp) (fun i => by simp) (fun i => by simp), hMo.fr hk (fun i => by simp) (fun i => by simp) (fun i => by simp)⟩
        refine ⟨hN, by simp [mI_sI, e1], by simp [mI_sI, e2], fun i hi2 => ?_⟩
        have := hi i hi2
        by_cases c4 : i = p
        · subst c4
          simp [mI_sI, bnd_of c3]
          exact ⟨this.1, this.2.1⟩
        · simp [mI_sI, c4]
          exact this
      · simp [w_X11_set, w_X12_set, r_isPlateC, r_isPlateM, r_isMeasure, e1, e2, hIn_t c1, in_t c2, in_f c3, h']
    · have c2 : ¬ (0 ≤ x1 ∧ x1 ≤ nI N - 1) := fun q => c1 ((le_m1 (by omega)).mp q)
      simp [w_X11_set, w_X12_set, r_isPlateC, r_isPlateM, e1, e2, hIn_f c1, in_f c2, h']
  by_cases a2 : x0 = 2
  · subst a2
    have hPl := hPl'
    obtain ⟨hu, g, g1, g2, g3, g4⟩ := hHi
    by_cases c1 : 1 ≤ x2 ∧ x2 ≤ 9
    · have c2 : ¬ x2 < 1 := Int32.not_lt.mpr c1.1
      simp [w_X11_set, w_X12_set, w_X11_setHighest, in_t c1, c1, c2, g3, g4, mI_sI]
      have hk : Kp (fun a k => (a = 8 ∧ k = 2) ∨ (a = 37 ∧ k = 6)) σ (sI (sI σ 8 2 x2) 37 6 x2) := (Kp.rf.sI _ (by simp)).sI _ (by simp)
      refine ⟨hk.mS hS, by rw [hk.2.2.1]; exact hL, N, L, T, hPl.fr hk (by simp) (by simp) (fun i => by simp) (fun i => by simp) (fun i => by simp) (fun i => by simp), hLa.fr hk (by simp) (by simp) (fun a i h _ => by simp; omega) (fun i => by simp) (fun i => by simp), hTx.fr hk (by simp) (by simp) (fun a i hc => by have := hc.dyn hTx; unfold dyn at this; simp; omega) (fun i => by simp) (fun i => by simp), ?_, hTa.fr hk (by simp) (by simp) (fun i => by simp) (fun i => by simp), hTb.fr hk (by simp) (by simp) (by simp) (by simp) (fun i => by simp) (fun i => by simp) (fun i => by simp) (fun i => by simp), hIm.fr hk (by simp) (fun a i hc => by have := hc.dyn hIm; simp; omega) (fun i => by simp) (fun i => by simp), hSh.fr hk (fun a i h1 h2 => by simp; omega) (fun i => by simp) (fun i => by simp) (fun i => by simp), hMo.fr hk (fun i => by simp) (fun i => by simp) (fun i => by simp)⟩
      obtain ⟨j, hj, ej⟩ := nI_of2 (M := 9) (n := 9) (by decide) (fun q => c2 (Int32.lt_of_lt_of_le q (by decide))) c1.2
      have hj1 : 1 ≤ j := by
        rcases Nat.eq_zero_or_pos j with rfl | q
        · rw [ej] at c2; exact absurd (by decide) c2
        · exact q
      exact ⟨by simpa [mI_sI] using hu, j, hj1, hj, by simp [mI_sI, ej], by simp [mI_sI, ej]⟩
    · by_cases c2 : x2 < 1
      · simp [w_X11_set, w_X12_set, w_X11_setHighest, in_f c1, c2, h']
      · have c3 : ¬ x2 ≤ 9 := fun q => c1 ⟨Int32.not_lt.mp c2, q⟩
        simp [w_X11_set, w_X12_set, w_X11_setHighest, in_f c1, c2, c3, h']
  · have d1 : x0 < 0 ∨ 1 < x0 := by
      rcases fa_three x0 0 with q | q | q
      · exact Or.inl q
      · exact absurd q a0
      · rcases fa_three x0 1 with q1 | q1 | q1
        · exfalso
          rw [fa_lt] at q q1
          have e0 : (0 : Int32).toInt = 0 := rfl
          have e1 : (1 : Int32).toInt = 1 := rfl
          omega
        · exact absurd q1 a1
        · exact Or.inr q1
    rcases d1 with d1 | d1
    · simp [w_X11_set, w_X12_set, a0, a1, a2, d1, h']
    · have d2 : ¬ x0 < 0 := fun q => by
        rw [fa_lt] at q d1
        have e0 : (0 : Int32).toInt = 0 := rfl
        have e1 : (1 : Int32).toInt = 1 := rfl
        omega
      simp [w_X11_set, w_X12_set, a0, a1, a2, d1, d2, h']
set_option maxHeartbeats 2000000 in
theorem p_take (σ : Mem) (x0 : Int32) (h : Rel σ) : w_X11_take σ x0 (fun r1 s1 => w_X12_take s1 x0 (fun r2 s2 => r1 = r2 ∧ Rel s2)) := by
  have h' := h
  obtain ⟨hS, hL, N, L, T, hPl, hLa, hTx, hHi, hTa, hTb, hIm, hSh, hMo⟩ := h
  have hTb' := hTb
  obtain ⟨l, M, ht, hl, e1, e2, e3, e4, hH⟩ := hTb
  have hN := hPl.1
  by_cases c1 : 0 ≤ x0 ∧ x0 < nI M
  · have hM8 := hH.1
    obtain ⟨i, hi, rfl⟩ := lt_nI (by omega) c1
    have c2 : 0 ≤ nI i ∧ nI i ≤ nI M - 1 := (le_m1 (by omega)).mpr c1
    have c3 : ¬ nI i < 0 := nI_pos (by omega)
    have c4 : ¬ nI M ≤ nI i := Int32.not_le.mpr c1.2
    obtain ⟨s1, s2⟩ := hH.small (by omega) hi
    have q4 : (nI i).toNatClampNeg = i := nI_clamp (by omega)
    have q3 : vp_in (nI i) 8 := vp_in_nI s2 (by decide)
    obtain ⟨g1, g2⟩ := hH.2.2.1 i hi
    rcases Nat.eq_zero_or_pos (ht i) with hz | hp
    · have z : nI (ht i) = 0 := by rw [hz]; rfl
      simp [w_X11_take, w_X12_take, w_X1_heightOf_9, r_has9, e3, e4, hIn_t c1, in_t c2, c3, c4, q3, q4, g1, g2, z, h']
    · have z : ¬ nI (ht i) = 0 := nI_ne0 hp (by omega)
      have z2 : ¬ nI (ht i) ≤ 0 := nI_nle hp (by omega)
      have z3 : nI (ht i) - 1 = nI (ht i - 1) := nI_m1 hp
      have z4 : nI i * 8 + nI (ht i) - 1 = nI (8 * i + (ht i - 1)) := by
        have e8 : (8 : Int32) = nI 8 := rfl
        rw [e8, pk_mul, nI_add, nI_m1 (by omega)]
        congr 1
        omega
      have z5 : 8 * nI i + nI (ht i - 1) = nI (8 * i + (ht i - 1)) := by
        have e8 : (8 : Int32) = nI 8 := rfl
        rw [e8, pk_mul, nI_add]
      have z6 : vp_in (nI (8 * i + (ht i - 1))) 64 := vp_in_nI (by omega) (by decide)
      have z7 : (nI (8 * i + (ht i - 1))).toNatClampNeg = 8 * i + (ht i - 1) := nI_clamp (by omega)
      obtain ⟨p, hp2, k1, k2⟩ := hH.2.2.2 i (ht i - 1) hi (by omega)
      have z8 : ¬ nI p = -1 := fun q => by
        have := nI_pos (n := p) (by omega)
        rw [q] at this
        exact this (by decide)
      simp [w_X11_take, w_X12_take, w_X1_heightOf_9, w_X1_drop_9, w_X1_topOf_9, r_has9, e3, e4, hIn_t c1, in_t c2, c3, c4, q3, q4, g1, g2, z, z2, z3, z4, z5, z6, z7, k1, k2, z8, mI_sI]
      intro _ _
      have hk : Kp (fun a k => a = 11 ∨ a = 60) σ (sI (sI σ 11 i (nI (ht i - 1))) 60 i (nI (ht i - 1))) := (Kp.rf.sI _ (by simp)).sI _ (by simp)
      refine ⟨hk.mS hS, by rw [hk.2.2.1]; exact hL, N, L, T, hPl.fr hk (by simp) (by simp) (fun i => by simp) (fun i => by simp) (fun i => by simp) (fun i => by simp), hLa.fr hk (by simp) (by simp) (fun a i h _ => by simp; omega) (fun i => by simp) (fun i => by simp), hTx.fr hk (by simp) (by simp) (fun a i hc => by have := hc.dyn hTx; unfold dyn at this; simp; omega) (fun i => by simp) (fun i => by simp), hHi.fr hk (by simp) (by simp) (by simp) (by simp), hTa.fr hk (by simp) (by simp) (fun i => by simp) (fun i => by simp), ?_, hIm.fr hk (by simp) (fun a i hc => by have := hc.dyn hIm; simp; omega) (fun i => by simp) (fun i => by simp), hSh.fr hk (fun a i h1 h2 => by simp; omega) (fun i => by simp) (fun i => by simp) (fun i => by simp), hMo.fr hk (fun i => by simp) (fun i => by simp) (fun i => by simp)⟩
      exact ⟨l, M, _, hl, by simp [mI_sI, e1], by simp [mI_sI, e2], by simp [mI_sI, e3], by simp [mI_sI, e4], hH.low hi (ht i - 1) (by omega) (by decide) (by decide) (by decide) (by decide) (by decide)⟩
  · have hM8 := hH.1
    have c2 : ¬ (0 ≤ x0 ∧ x0 ≤ nI M - 1) := fun q => c1 ((le_m1 (by omega)).mp q)
    simp [w_X11_take, w_X12_take, r_has9, e3, e4, hIn_f c1, in_f c2, h']
set_option maxHeartbeats 2000000 in
theorem p_on (σ : Mem) (x0 x1 : Int32) (h : Rel σ) : w_X11_on σ x0 x1 (fun r1 s1 => w_X12_on s1 x0 x1 (fun r2 s2 => r1 = r2 ∧ Rel s2)) := by
  have h' := h
  obtain ⟨hS, hL, N, L, T, hPl, hLa, hTx, hHi, hTa, hTb, hIm, hSh, hMo⟩ := h
  obtain ⟨l, M, ht, hl, e1, e2, e3, e4, hH⟩ := hTb
  have hN := hPl.1
  by_cases c1 : 0 ≤ x0 ∧ x0 < nI M
  · have hM8 := hH.1
    obtain ⟨i, hi, rfl⟩ := lt_nI (by omega) c1
    have c2 : 0 ≤ nI i ∧ nI i ≤ nI M - 1 := (le_m1 (by omega)).mpr c1
    have c3 : ¬ nI i < 0 := nI_pos (by omega)
    have c4 : ¬ nI M ≤ nI i := Int32.not_le.mpr c1.2
    obtain ⟨s1, s2⟩ := hH.small (by omega) hi
    have q4 : (nI i).toNatClampNeg = i := nI_clamp (by omega)
    have q3 : vp_in (nI i) 8 := vp_in_nI s2 (by decide)
    obtain ⟨g1, g2⟩ := hH.2.2.1 i hi
    by_cases d1 : 0 ≤ x1 ∧ x1 < nI (ht i)
    · obtain ⟨j, hj, rfl⟩ := lt_nI (by omega) d1
      have d2 : 0 ≤ nI j ∧ nI j ≤ nI (ht i) - 1 := (le_m1 (by omega)).mpr d1
      have d3 : ¬ nI j < 0 := nI_pos (by omega)
      have z4 : nI i * 8 + nI j = nI (8 * i + j) := by
        have e8 : (8 : Int32) = nI 8 := rfl
        rw [e8, pk_mul, nI_add]
        congr 1
        omega
      have z5 : 8 * nI i + nI j = nI (8 * i + j) := by
        have e8 : (8 : Int32) = nI 8 := rfl
        rw [e8, pk_mul, nI_add]
      have z6 : vp_in (nI (8 * i + j)) 64 := vp_in_nI (by omega) (by decide)
      have z7 : (nI (8 * i + j)).toNatClampNeg = 8 * i + j := nI_clamp (by omega)
      obtain ⟨p, hp2, k1, k2⟩ := hH.2.2.2 i j hi hj
      simp [w_X11_on, w_X12_on, w_X1_at_9, w_X1_heightOf_9, r_has9, e3, e4, hIn_t c1, in_t c2, c3, c4, q3, q4, g1, g2, d1, in_t d2, d3, z4, z5, z6, z7, k1, k2, h']
      intro _ q
      exact absurd q (Int32.not_le.mpr d1.2)
    · have d2 : ¬ (0 ≤ x1 ∧ x1 ≤ nI (ht i) - 1) := fun q => d1 ((le_m1 (by omega)).mp q)
      by_cases d3 : x1 < 0
      · simp [w_X11_on, w_X12_on, w_X1_at_9, w_X1_heightOf_9, r_has9, e3, e4, hIn_t c1, in_t c2, c3, c4, q3, q4, g1, g2, in_f d2, d3, h']
      · have d4 : ¬ x1 < nI (ht i) := fun q => d1 ⟨Int32.not_lt.mp d3, q⟩
        simp [w_X11_on, w_X12_on, w_X1_at_9, w_X1_heightOf_9, r_has9, e3, e4, hIn_t c1, in_t c2, c3, c4, q3, q4, g1, g2, in_f d2, d3, d4, h']
  · have hM8 := hH.1
    have c2 : ¬ (0 ≤ x0 ∧ x0 ≤ nI M - 1) := fun q => c1 ((le_m1 (by omega)).mp q)
    simp [w_X11_on, w_X12_on, r_has9, e3, e4, hIn_f c1, in_f c2, h']
