/-! STAGE 2: sheets, layers -/
theorem sh_facts {σ : Mem} (hS : mS psA tsA σ) {i : Nat} (hi : i < 4) : mP σ 14 i = some (25 + 2 * i) ∧ mT σ (25 + 2 * i) = some (7, 0) ∧ mP σ (25 + 2 * i) 0 = some (26 + 2 * i) ∧ mT σ (26 + 2 * i) = some (14, 40) := by
  rcases (show i = 0 ∨ i = 1 ∨ i = 2 ∨ i = 3 by omega) with rfl | rfl | rfl | rfl
  · exact ⟨(hS.1 (14, 0, 25) (by decide)).1, hS.2 (25, 7, 0) (by decide), (hS.1 (25, 0, 26) (by decide)).1, hS.2 (26, 14, 40) (by decide)⟩
  · exact ⟨(hS.1 (14, 1, 27) (by decide)).1, hS.2 (27, 7, 0) (by decide), (hS.1 (27, 0, 28) (by decide)).1, hS.2 (28, 14, 40) (by decide)⟩
  · exact ⟨(hS.1 (14, 2, 29) (by decide)).1, hS.2 (29, 7, 0) (by decide), (hS.1 (29, 0, 30) (by decide)).1, hS.2 (30, 14, 40) (by decide)⟩
  · exact ⟨(hS.1 (14, 3, 31) (by decide)).1, hS.2 (31, 7, 0) (by decide), (hS.1 (31, 0, 32) (by decide)).1, hS.2 (32, 14, 40) (by decide)⟩
theorem sheetAt_t {σ : Mem} {i : Nat} (hi : i < 4) (hP : mP σ 14 i = some (25 + 2 * i)) {Q : Option Nat → Mem → Prop} : w_X11_sheetAt σ (nI i) Q ↔ Q (some (25 + 2 * i)) σ := by
  have c1 : ¬ nI i < 0 := nI_pos (by omega)
  have c2 : ¬ 4 ≤ nI i := Int32.not_le.mpr (nI_lt (b := 4) hi (by decide))
  have c3 : vp_in (nI i) 4 := vp_in_nI hi (by decide)
  have c4 : (nI i).toNatClampNeg = i := nI_clamp (by omega)
  unfold w_X11_sheetAt
  rw [c4, hP]
  constructor
  · intro h
    exact (h.2 c1).2 c2 |>.2 _ rfl
  · intro h
    exact ⟨fun q => absurd q c1, fun _ => ⟨fun q => absurd q c2, fun _ => ⟨c3, fun o e => by rw [e]; exact h⟩⟩⟩
theorem sheetAt_f {σ : Mem} {x : Int32} (hx : ¬ (0 ≤ x ∧ x ≤ 3)) {Q : Option Nat → Mem → Prop} : w_X11_sheetAt σ x Q ↔ Q none σ := by
  unfold w_X11_sheetAt
  by_cases c1 : x < 0
  · simp [c1]
  · have c2 : 4 ≤ x := by
      rw [fa_le]
      have h1 : ¬ x ≤ 3 := fun q => hx ⟨Int32.not_lt.mp c1, q⟩
      rw [fa_le] at h1
      have e3 : (3 : Int32).toInt = 3 := rfl
      have e4 : (4 : Int32).toInt = 4 := rfl
      omega
    simp [c1, c2]
theorem sheet_ix {x : Int32} (h : 0 ≤ x ∧ x ≤ 3) : ∃ i : Nat, i < 4 ∧ x = nI i := by
  obtain ⟨j, hj, e⟩ := nI_of2 (M := 3) (n := 3) (by decide) (Int32.not_lt.mpr h.1) h.2
  exact ⟨j, by omega, e⟩
theorem has7 {σ : Mem} {a n : Nat} {v : Int32} (hT : mT σ a = some (7, 0)) (hn : mI σ a 2 = nI n) {Q : Int32 → Mem → Prop} : w_X7_has σ a v Q ↔ hIn v (nI n) (fun r => Q r σ) := by
  unfold w_X7_has hIn
  by_cases h1 : v < 0
  · have : ¬ (0 ≤ v ∧ v < nI n) := fun q => Int32.not_le.mpr h1 q.1
    simp [h1, this]
  · by_cases h2 : nI n ≤ v
    · have : ¬ (0 ≤ v ∧ v < nI n) := fun q => Int32.not_le.mpr q.2 h2
      simp [h1, h2, this, hT, hn]
    · have : 0 ≤ v ∧ v < nI n := ⟨Int32.not_lt.mp h1, Int32.not_le.mp h2⟩
      simp [h1, h2, this, hT, hn]
/-- one item of a sheet becomes v in both -/
theorem rSh.put {σ : Mem} (h : rSh σ) {i j : Nat} (hi : i < 4) (hj : j < 40) (v : Int32) : rSh (sI (sI σ (26 + 2 * i) j v) 66 (40 * i + j) v) := by
  intro i2 hi2
  obtain ⟨g1, ⟨n, g2, g3, g4⟩, g5⟩ := h i2 hi2
  have d1 : ¬ (25 + 2 * i2 = 26 + 2 * i) := by omega
  have d2 : ¬ (25 + 2 * i2 = 66) := by omega
  have d3 : ¬ (26 + 2 * i2 = 66) := by omega
  have d4 : ¬ (64 = 26 + 2 * i) := by omega
  have d5 : ¬ (65 = 26 + 2 * i) := by omega
  have d6 : ¬ (66 = 26 + 2 * i) := by omega
  refine ⟨by simp [mI_sI, d1, d2, d4]; exact g1, ⟨n, g2, by simp [mI_sI, d1, d2]; exact g3, by simp [mI_sI, d5]; exact g4⟩, fun k hk => ?_⟩
  have := g5 k hk
  by_cases e1 : i2 = i
  · subst e1
    by_cases e2 : k = j
    · subst e2
      simp [mI_sI, d3]
    · have : ¬ (40 * i2 + k = 40 * i2 + j) := by omega
      simp [mI_sI, d3, d6, e2, this]
      exact g5 k hk
  · have e3 : ¬ (2 * i2 = 2 * i) := by omega
    have e4 : ¬ (40 * i2 + k = 40 * i + j) := by omega
    simp [mI_sI, d3, d6, e3, e4]
    exact this
theorem rel_put {σ : Mem} (h : Rel σ) {i j : Nat} (hi : i < 4) (hj : j < 40) (v : Int32) : Rel (sI (sI σ (26 + 2 * i) j v) 66 (40 * i + j) v) := by
  obtain ⟨hS, hL, N, L, T, hPl, hLa, hTx, hHi, hTa, hTb, hIm, hSh, hMo⟩ := h
  have hk : Kp (fun a k => (26 ≤ a ∧ a ≤ 32) ∨ a = 66) σ (sI (sI σ (26 + 2 * i) j v) 66 (40 * i + j) v) := (Kp.rf.sI _ (by simp; omega)).sI _ (by simp)
  exact ⟨hk.mS hS, by rw [hk.2.2.1]; exact hL, N, L, T, hPl.fr hk (by simp) (by simp) (fun i => by simp) (fun i => by simp) (fun i => by simp) (fun i => by simp), hLa.fr hk (by simp) (by simp) (fun a i h _ => by simp; omega) (fun i => by simp) (fun i => by simp), hTx.fr hk (by simp) (by simp) (fun a i hc => by have := hc.dyn hTx; unfold dyn at this; simp; omega) (fun i => by simp) (fun i => by simp), hHi.fr hk (by simp) (by simp) (by simp) (by simp), hTa.fr hk (by simp) (by simp) (fun i => by simp) (fun i => by simp), hTb.fr hk (by simp) (by simp) (by simp) (by simp) (fun i => by simp) (fun i => by simp) (fun i => by simp) (fun i => by simp), hIm.fr hk (by simp) (fun a i hc => by have := hc.dyn hIm; simp; omega) (fun i => by simp) (fun i => by simp), hSh.put hi hj v, hMo.fr hk (fun i => by simp) (fun i => by simp) (fun i => by simp)⟩
set_option maxHeartbeats 2000000 in
theorem p_cell (σ : Mem) (x0 x1 x2 : Int32) (h : Rel σ) : w_X11_cell σ x0 x1 x2 (fun r1 s1 => w_X12_cell s1 x0 x1 x2 (fun r2 s2 => r1 = r2 ∧ Rel s2)) := by
  have h' := h
  obtain ⟨hS, hL, N, L, T, hPl, hLa, hTx, hHi, hTa, hTb, hIm, hSh, hMo⟩ := h
  by_cases c1 : 0 ≤ x0 ∧ x0 ≤ 3
  · obtain ⟨i, hi, rfl⟩ := sheet_ix c1
    obtain ⟨f1, f2, f3, f4⟩ := sh_facts hS hi
    obtain ⟨⟨g1, g2⟩, ⟨n, hn, g3, g4⟩, g5⟩ := hSh i hi
    have q4 : (nI i).toNatClampNeg = i := nI_clamp (by omega)
    have q3 : vp_in (nI i) 4 := vp_in_nI hi (by decide)
    have d6 : ¬ (66 = 26 + 2 * i) := by omega
    by_cases m : mI σ 64 i = -1
    · have z : ¬ (0 : Int32) ≤ -1 := by decide
      simp [w_X11_cell, w_X12_cell, sheetAt_t hi f1, r_isSheet, in_t c1, w_X7_isMissing, f2, g1, m, q3, q4, z, h']
    · have z : 0 ≤ mI σ 64 i := by
        rcases g2 with q | q | q | q
        · exact absurd q m
        · rw [q]; decide
        · rw [q]; decide
        · rw [q]; decide
      have z' : ¬ mI σ 64 i < 0 := Int32.not_lt.mpr z
      have g1' : ¬ mI σ (25 + 2 * i) 1 = -1 := by rw [g1]; exact m
      by_cases c2 : 0 ≤ x1 ∧ x1 < nI n
      · obtain ⟨j, hj, rfl⟩ := lt_nI (by omega) c2
        have c3 : 0 ≤ nI j ∧ nI j ≤ nI n - 1 := (le_m1 (by omega)).mpr c2
        have z5 : 40 * nI i + nI j = nI (40 * i + j) := by
          have e8 : (40 : Int32) = nI 40 := rfl
          rw [e8, pk_mul, nI_add]
        have z6 : vp_in (nI (40 * i + j)) 160 := vp_in_nI (by omega) (by decide)
        have z7 : (nI (40 * i + j)).toNatClampNeg = 40 * i + j := nI_clamp (by omega)
        have z8 : vp_in (nI j) 40 := vp_in_nI (by omega) (by decide)
        have z9 : (nI j).toNatClampNeg = j := nI_clamp (by omega)
        have n64 : ¬ 64 = 26 + 2 * i := by omega
        have n65 : ¬ 65 = 26 + 2 * i := by omega
        have R := fun v => rel_put h' hi (j := j) (by omega) v
        rcases g2 with q | q | q | q
        · exact absurd q m
        · simp [w_X11_cell, w_X12_cell, w_X7_put, sheetAt_t hi f1, r_isSheet, in_t c1, w_X7_isMissing, has7 f2 g3, hIn_t c2, f2, f3, f4, g1, q, q3, q4, g4, in_t c3, mI_sI, n64, n65, z5, z6, z7, z8, z9, R]
        · simp [w_X11_cell, w_X12_cell, w_X7_put, sheetAt_t hi f1, r_isSheet, in_t c1, w_X7_isMissing, has7 f2 g3, hIn_t c2, f2, f3, f4, g1, q, q3, q4, g4, in_t c3, mI_sI, n64, n65, z5, z6, z7, z8, z9, R]
        · simp [w_X11_cell, w_X12_cell, w_X7_put, sheetAt_t hi f1, r_isSheet, in_t c1, w_X7_isMissing, has7 f2 g3, hIn_t c2, f2, f3, f4, g1, q, q3, q4, g4, in_t c3, mI_sI, n64, n65, z5, z6, z7, z8, z9, R]
      · have c3 : ¬ (0 ≤ x1 ∧ x1 ≤ nI n - 1) := fun q => c2 ((le_m1 (by omega)).mp q)
        simp [w_X11_cell, w_X12_cell, sheetAt_t hi f1, r_isSheet, in_t c1, w_X7_isMissing, has7 f2 g3, hIn_f c2, f2, g1', q3, q4, g4, in_f c3, z, z', h']
  · simp [w_X11_cell, w_X12_cell, sheetAt_f c1, r_isSheet, in_f c1, h']
