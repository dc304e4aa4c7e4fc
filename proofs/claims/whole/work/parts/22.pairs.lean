/-! STAGE 2: pairs of calls, the easy ones -/
theorem rTb.mono {σ : Mem} {N N' : Nat} (h : rTb σ N) (hN : N ≤ N') : rTb σ N' := by
  obtain ⟨l, M, ht, h1, h2⟩ := h
  exact ⟨l, M, ht, Nat.le_trans h1 hN, h2⟩
theorem rIm.mono {σ : Mem} {N N' T : Nat} (h : rIm σ N T) (hN : N ≤ N') : rIm σ N' T := by
  rcases h with h | ⟨h1, t, h, c0, c1, c3, c4, g1, g2, g3, g4, g5, g6, g7, g8, g9, g10, g11, g12, g13, g14, g15, g16, g17, g18, g19, g20, l, M, hh, u, ht, p1, p2⟩
  · exact Or.inl h
  · exact Or.inr ⟨h1, t, h, c0, c1, c3, c4, g1, g2, g3, g4, g5, g6, g7, g8, g9, g10, g11, g12, g13, g14, g15, g16, g17, g18, g19, g20, l, M, hh, u, ht, Nat.le_trans p1 hN, p2⟩
theorem q_isPlateC {σ : Mem} {v : Int32} {Q : Int32 → Mem → Prop} : w_X11_isPlate σ v Q ↔ Q (if 0 ≤ v ∧ v < mI σ 0 2 then 1 else 0) σ := by
  unfold w_X11_isPlate
  by_cases h1 : v < 0
  · have : ¬ (0 ≤ v ∧ v < mI σ 0 2) := fun q => Int32.not_le.mpr h1 q.1
    simp [h1, this]
  · by_cases h2 : mI σ 0 2 ≤ v
    · have : ¬ (0 ≤ v ∧ v < mI σ 0 2) := fun q => Int32.not_le.mpr q.2 h2
      simp [h1, h2, this]
    · have : 0 ≤ v ∧ v < mI σ 0 2 := ⟨Int32.not_lt.mp h1, Int32.not_le.mp h2⟩
      simp [h1, h2, this]
/-- a number below nI N that isn't below 0 -/
theorem lt_nI {v : Int32} {N : Nat} (hN : N < 2 ^ 31) (h : 0 ≤ v ∧ v < nI N) : ∃ p : Nat, p < N ∧ v = nI p := by
  rcases pk_ix v hN with q | q | ⟨j, hj, e⟩
  · exact absurd h.1 (Int32.not_le.mpr q)
  · exact absurd h.2 (Int32.not_lt.mpr q)
  · exact ⟨j, hj, e⟩
theorem nI_m1 {N : Nat} (h : 0 < N) : nI N - 1 = nI (N - 1) := by
  obtain ⟨m, rfl⟩ : ∃ m, N = m + 1 := ⟨N - 1, by omega⟩
  exact nI_pred m
/-- 0 .. N - 1, as the model asks it -/
theorem le_m1 {v : Int32} {N : Nat} (hN : N < 2 ^ 30) : (0 ≤ v ∧ v ≤ nI N - 1) ↔ (0 ≤ v ∧ v < nI N) := by
  constructor
  · rintro ⟨h1, h2⟩
    refine ⟨h1, ?_⟩
    rcases Nat.eq_zero_or_pos N with rfl | hp
    · exfalso
      have : nI 0 - 1 < 0 := by decide
      exact Int32.not_lt.mpr (Int32.le_trans h1 h2) this
    · rw [nI_m1 hp] at h2
      exact Int32.lt_of_le_of_lt h2 (nI_lt (by omega) (by omega))
  · rintro ⟨h1, h2⟩
    obtain ⟨p, hp, rfl⟩ := lt_nI (by omega) ⟨h1, h2⟩
    rw [nI_m1 (by omega)]
    exact ⟨h1, nI_le (by omega) (by omega)⟩
set_option maxHeartbeats 2000000 in
theorem p_count (σ : Mem) (x0 : Int32) (h : Rel σ) : w_X11_count σ x0 (fun r1 s1 => w_X12_count s1 x0 (fun r2 s2 => r1 = r2 ∧ Rel s2)) := by
  have h' := h
  obtain ⟨hS, hL, N, L, T, ⟨_, e1, e2, _⟩, ⟨_, e3, e4, _⟩, ⟨_, _, e5, e6, _⟩, ⟨⟨u, _, e7, e8⟩, hh, _, _, e9, e10⟩, ⟨S, _, e11, e12, _⟩, ⟨l, M, ht, _, e13, e14, e15, e16, _⟩, _⟩ := h
  unfold w_X11_count
  refine ⟨fun c => ?_, fun c => ?_, fun c => ?_, fun c => ?_, fun c => ?_, fun c => ?_, fun c => ?_, fun c => ?_, fun c1 c2 c3 c4 c5 c6 c7 c8 => ?_⟩
  · subst c; simp [w_X12_count, e1, e2, h']
  · subst c; simp [w_X12_count, e3, e4, h']
  · subst c; simp [w_X12_count, e13, e14, h']
  · subst c; simp [w_X12_count, e15, e16, h']
  · subst c; simp [w_X12_count, e9, e10, h']
  · subst c; simp [w_X12_count, e5, e6, h']
  · subst c; simp [w_X12_count, e11, e12, h']
  · subst c; simp [w_X12_count, e7, e8, h']
  · simp [w_X12_count, c1, c2, c3, c4, c5, c6, c7, c8, h']
set_option maxHeartbeats 2000000 in
theorem p_plate (σ : Mem) (x0 x1 : Int32) (h : Rel σ) : w_X11_plate σ x0 x1 (fun r1 s1 => w_X12_plate s1 x0 x1 (fun r2 s2 => r1 = r2 ∧ Rel s2)) := by
  have h' := h
  obtain ⟨hS, hL, N, L, T, hPl, hLa, hTx, hHi, hTa, hTb, hIm, hSh, hMo⟩ := h
  have hPl' := hPl
  obtain ⟨hN, e1, e2, hi⟩ := hPl
  by_cases c1 : 0 ≤ x0 ∧ x0 ≤ 99
  · by_cases c2 : 0 ≤ x1 ∧ x1 ≤ 99
    · by_cases c3 : N < 8
      · have q1 : nI N < 8 := nI_lt c3 (by decide)
        have q1' : ¬ 8 ≤ nI N := Int32.not_le.mpr q1
        have q2 : ¬ nI N = 8 := fun q => by
          have := (nI_eq (a := N) (b := 8) (by omega) (by decide)).mp q
          omega
        have q3 : vp_in (nI N) 8 := vp_in_nI c3 (by decide)
        have q4 : (nI N).toNatClampNeg = N := nI_clamp (by omega)
        simp [w_X11_plate, w_X12_plate, q_isIn, q_isMeasure, c1, c2, e1, e2, mI_sI, q1, q1', q2, q3, q4]
        have hk : Kp (fun a k => a = 1 ∨ a = 2 ∨ (a = 0 ∧ k = 2) ∨ a = 38 ∨ a = 39 ∨ (a = 37 ∧ k = 0)) σ (sI (sI (sI (sI (sI (sI σ 1 N x0) 2 N x1) 0 2 (nI N + 1)) 38 N x0) 39 N x1) 37 0 (nI N + 1)) := (((((Kp.rf.sI x0 (by simp)).sI x1 (by simp)).sI _ (by simp)).sI x0 (by simp)).sI x1 (by simp)).sI _ (by simp)
        refine ⟨hk.mS hS, by rw [hk.2.2.1]; exact hL, N + 1, L, T, ?_, hLa.fr hk (by simp) (by simp) (fun a i h _ => by simp; omega) (fun i => by simp) (fun i => by simp), hTx.fr hk (by simp) (by simp) (fun a i hc => by have := hc.dyn hTx; unfold dyn at this; simp; omega) (fun i => by simp) (fun i => by simp), hHi.fr hk (by simp) (by simp) (by simp) (by simp), hTa.fr hk (by simp) (by simp) (fun i => by simp) (fun i => by simp), (hTb.fr hk (by simp) (by simp) (by simp) (by simp) (fun i => by simp) (fun i => by simp) (fun i => by simp) (fun i => by simp)).mono (Nat.le_succ N), (hIm.fr hk (by simp) (fun a i hc => by have := hc.dyn hIm; simp; omega) (fun i => by simp) (fun i => by simp)).mono (Nat.le_succ N), hSh.fr hk (fun a i h1 h2 => by simp; omega) (fun i => by simp) (fun i => by simp) (fun i => by simp), hMo.fr hk (fun i => by simp) (fun i => by simp) (fun i => by simp)⟩
        refine ⟨by omega, by simp [mI_sI, nI_1], by simp [mI_sI, nI_1], fun i hi2 => ?_⟩
        by_cases c4 : i = N
        · subst c4
          simp [mI_sI, bnd_of c1, bnd_of c2]
        · have := hi i (by omega)
          simp [mI_sI, c4]
          exact this
      · have q0 : N = 8 := by omega
        subst q0
        have q1 : ¬ nI 8 < 8 := by decide
        have q2 : nI 8 = 8 := rfl
        simp [w_X11_plate, w_X12_plate, q_isIn, q_isMeasure, c1, c2, e1, e2, q1, q2, h']
    · simp [w_X11_plate, w_X12_plate, q_isIn, q_isMeasure, c1, c2, h']
  · simp [w_X11_plate, w_X12_plate, q_isIn, q_isMeasure, c1, h']
set_option maxHeartbeats 2000000 in
theorem p_feed (σ : Mem) (x0 : Int32) (h : Rel σ) : w_X11_feed σ x0 (fun r1 s1 => w_X12_feed s1 x0 (fun r2 s2 => r1 = r2 ∧ Rel s2)) := by
  have h' := h
  obtain ⟨hS, hL, N, L, T, hPl, hLa, hTx, hHi, hTa, hTb, hIm, hSh, hMo⟩ := h
  have hTa' := hTa
  obtain ⟨S, hS1, e1, e2, hi⟩ := hTa
  by_cases c1 : 0 ≤ x0 ∧ x0 ≤ 255
  · have c1' : ¬ x0 < 0 := Int32.not_lt.mpr c1.1
    by_cases c3 : S < 160
    · have q1 : nI S < 160 := nI_lt c3 (by decide)
      have q1' : ¬ 160 ≤ nI S := Int32.not_le.mpr q1
      have q2 : ¬ nI S = 160 := fun q => by
        have := (nI_eq (a := S) (b := 160) (by omega) (by decide)).mp q
        omega
      have q3 : vp_in (nI S) 160 := vp_in_nI c3 (by decide)
      have q4 : (nI S).toNatClampNeg = S := nI_clamp (by omega)
      simp [w_X11_feed, w_X5_append, w_X12_feed, q_isIn, c1, c1', e1, e2, mI_sI, q1, q1', q2, q3, q4]
      have hk : Kp (fun a k => a = 6 ∨ (a = 5 ∧ k = 1) ∨ a = 42 ∨ (a = 37 ∧ k = 8)) σ (sI (sI (sI (sI σ 6 S x0) 5 1 (nI S + 1)) 42 S x0) 37 8 (nI S + 1)) := (((Kp.rf.sI x0 (by simp)).sI _ (by simp)).sI x0 (by simp)).sI _ (by simp)
      refine ⟨hk.mS hS, by rw [hk.2.2.1]; exact hL, N, L, T, hPl.fr hk (by simp) (by simp) (fun i => by simp) (fun i => by simp) (fun i => by simp) (fun i => by simp), hLa.fr hk (by simp) (by simp) (fun a i h _ => by simp; omega) (fun i => by simp) (fun i => by simp), hTx.fr hk (by simp) (by simp) (fun a i hc => by have := hc.dyn hTx; unfold dyn at this; simp; omega) (fun i => by simp) (fun i => by simp), hHi.fr hk (by simp) (by simp) (by simp) (by simp), ?_, hTb.fr hk (by simp) (by simp) (by simp) (by simp) (fun i => by simp) (fun i => by simp) (fun i => by simp) (fun i => by simp), hIm.fr hk (by simp) (fun a i hc => by have := hc.dyn hIm; simp; omega) (fun i => by simp) (fun i => by simp), hSh.fr hk (fun a i h1 h2 => by simp; omega) (fun i => by simp) (fun i => by simp) (fun i => by simp), hMo.fr hk (fun i => by simp) (fun i => by simp) (fun i => by simp)⟩
      refine ⟨S + 1, by omega, by simp [mI_sI, nI_1], by simp [mI_sI, nI_1], fun i hi2 => ?_⟩
      obtain ⟨j, hj, ej⟩ := nI_of2 (M := 255) (n := 255) (by decide) c1' c1.2
      by_cases c4 : i = S
      · subst c4
        simp [mI_sI]
        exact ⟨j, by omega, ej⟩
      · have := hi i (by omega)
        simp [mI_sI, c4]
        exact this
    · have q0 : S = 160 := by omega
      subst q0
      have q1 : ¬ nI 160 < 160 := by decide
      have q2 : nI 160 = 160 := rfl
      simp [w_X11_feed, w_X5_append, w_X12_feed, q_isIn, c1, c1', e1, e2, q1, q2, h']
  · by_cases c2 : x0 < 0
    · simp [w_X11_feed, w_X12_feed, q_isIn, c1, c2, h']
    · have c3 : ¬ x0 ≤ 255 := fun q => c1 ⟨Int32.not_lt.mp c2, q⟩
      simp [w_X11_feed, w_X12_feed, q_isIn, c1, c2, c3, h']
set_option maxHeartbeats 2000000 in
theorem p_force (σ : Mem) (x0 : Int32) (h : Rel σ) : w_X11_force σ x0 (fun r1 s1 => w_X12_force s1 x0 (fun r2 s2 => r1 = r2 ∧ Rel s2)) := by
  have h' := h
  obtain ⟨hS, hL, N, L, T, hPl, hLa, hTx, hHi, hTa, hTb, hIm, hSh, hMo⟩ := h
  have hHi' := hHi
  have hTx' := hTx
  obtain ⟨t1, t2, e1, e2, -⟩ := hTx
  obtain ⟨⟨u, hu, e3, e4⟩, hh⟩ := hHi
  have hTx := hTx'
  by_cases c1 : 0 ≤ x0 ∧ x0 < nI T
  · obtain ⟨v, hv, rfl⟩ := lt_nI (by omega) c1
    have c0 : ¬ nI v < 0 := Int32.not_lt.mpr c1.1
    have c2 : ¬ nI T ≤ nI v := Int32.not_le.mpr c1.2
    have c3 : 0 ≤ nI v ∧ nI v ≤ nI T - 1 := (le_m1 (by omega)).mpr c1
    simp [w_X11_force, w_X12_force, q_isIn, c0, c2, c3, e1, e2, e3, e4, mI_sI, c1.2]
    have hk : Kp (fun a k => (a = 8 ∧ k = 3) ∨ (a = 37 ∧ k = 10)) σ (sI (sI σ 8 3 (nI v)) 37 10 (nI v)) := (Kp.rf.sI _ (by simp)).sI _ (by simp)
    refine ⟨hk.mS hS, by rw [hk.2.2.1]; exact hL, N, L, T, hPl.fr hk (by simp) (by simp) (fun i => by simp) (fun i => by simp) (fun i => by simp) (fun i => by simp), hLa.fr hk (by simp) (by simp) (fun a i h _ => by simp; omega) (fun i => by simp) (fun i => by simp), hTx.fr hk (by simp) (by simp) (fun a i hc => by have := hc.dyn hTx; unfold dyn at this; simp; omega) (fun i => by simp) (fun i => by simp), ?_, hTa.fr hk (by simp) (by simp) (fun i => by simp) (fun i => by simp), hTb.fr hk (by simp) (by simp) (by simp) (by simp) (fun i => by simp) (fun i => by simp) (fun i => by simp) (fun i => by simp), hIm.fr hk (by simp) (fun a i hc => by have := hc.dyn hIm; simp; omega) (fun i => by simp) (fun i => by simp), hSh.fr hk (fun a i h1 h2 => by simp; omega) (fun i => by simp) (fun i => by simp) (fun i => by simp), hMo.fr hk (fun i => by simp) (fun i => by simp) (fun i => by simp)⟩
    exact ⟨⟨v, hv, by simp [mI_sI], by simp [mI_sI]⟩, by simpa [mI_sI] using hh⟩
  · have c3 : ¬ (0 ≤ x0 ∧ x0 ≤ nI T - 1) := fun q => c1 ((le_m1 (by omega)).mp q)
    by_cases c2 : x0 < 0
    · simp [w_X11_force, w_X12_force, q_isIn, c2, c3, e1, e2, h']
    · have c4 : nI T ≤ x0 := Int32.not_lt.mp (fun q => c1 ⟨Int32.not_lt.mp c2, q⟩)
      have c5 : ¬ x0 < nI T := Int32.not_lt.mpr c4
      simp [w_X11_force, w_X12_force, q_isIn, c2, c3, c4, c5, e1, e2, h']
