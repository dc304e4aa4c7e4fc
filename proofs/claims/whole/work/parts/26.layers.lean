/-! STAGE 2: layers -/
theorem layerAt_t {σ : Mem} {i L a : Nat} (hL : L ≤ 5) (e : mI σ 0 4 = nI L) (hi : i < L) (hP : mP σ 3 i = some a) {Q : Option Nat → Mem → Prop} : w_X11_layerAt σ (nI i) Q ↔ Q (some a) σ := by
  have c1 : ¬ nI i < 0 := nI_pos (by omega)
  have c2 : ¬ nI L ≤ nI i := Int32.not_le.mpr (nI_lt hi (by omega))
  have c3 : vp_in (nI i) 5 := vp_in_nI (by omega) (by decide)
  have c4 : (nI i).toNatClampNeg = i := nI_clamp (by omega)
  unfold w_X11_layerAt
  rw [c4, hP, e]
  exact ⟨fun h => ((h.2 c1).2 c2).2 _ rfl, fun h => ⟨fun q => absurd q c1, fun _ => ⟨fun q => absurd q c2, fun _ => ⟨c3, fun o e => by rw [e]; exact h⟩⟩⟩⟩
theorem layerAt_f {σ : Mem} {x : Int32} {L : Nat} (e : mI σ 0 4 = nI L) (hx : ¬ (0 ≤ x ∧ x < nI L)) {Q : Option Nat → Mem → Prop} : w_X11_layerAt σ x Q ↔ Q none σ := by
  unfold w_X11_layerAt
  rw [e]
  by_cases c1 : x < 0
  · simp [c1]
  · have c2 : nI L ≤ x := Int32.not_lt.mp (fun q => hx ⟨Int32.not_lt.mp c1, q⟩)
    simp [c1, c2]
theorem lyK_kcl {kd : Nat} (h : kd ≤ 5) : lyK (kcl kd) := by
  rcases (show kd = 0 ∨ kd = 1 ∨ kd = 2 ∨ kd = 3 ∨ kd = 4 ∨ kd = 5 by omega) with rfl | rfl | rfl | rfl | rfl | rfl <;> simp [lyK, kcl]
theorem init3 {σ : Mem} {a c : Nat} {x y : Int32} (hc : lyK c) (hT : mT σ a = some (c, 0)) {Q : Mem → Prop} (hq : Q (sI (sI σ a 0 x) a 1 y)) : w_X3_init σ a x y Q := ⟨c, hc, hT, c, hc, hT, hq⟩
theorem newLayer_t {σ : Mem} {kd : Nat} (hk : kd ≤ 5) {y : Int32} {Q : Option Nat → Mem → Prop} (hq : Q (some (mL σ)) (sI (sI (mN σ (kcl kd, 0)) (mL σ) 0 (nI kd)) (mL σ) 1 y)) : w_X11_newLayer σ (nI kd) y Q := by
  have ht : ∀ c, mT (mN σ (c, 0)) (mL σ) = some (c, 0) := fun c => by rw [mT_mN, if_pos rfl]
  have n : ∀ a b : Nat, a ≤ 5 → b ≤ 5 → a ≠ b → ¬ nI a = nI b := fun a b ha hb hab q => hab ((nI_eq (by omega) (by omega)).mp q)
  unfold w_X11_newLayer
  rcases (show kd = 0 ∨ kd = 1 ∨ kd = 2 ∨ kd = 3 ∨ kd = 4 ∨ kd = 5 by omega) with rfl | rfl | rfl | rfl | rfl | rfl
  · exact ⟨fun q => absurd q (n 0 1 (by decide) (by decide) (by decide)), fun q => absurd q (n 0 2 (by decide) (by decide) (by decide)), fun q => absurd q (n 0 3 (by decide) (by decide) (by decide)), fun q => absurd q (n 0 4 (by decide) (by decide) (by decide)), fun q => absurd q (n 0 5 (by decide) (by decide) (by decide)), fun _ _ _ _ _ => init3 (c := 3) (by simp [lyK]) (ht 3) hq⟩
  · exact ⟨fun _ => init3 (c := 4) (by simp [lyK]) (ht 4) hq, fun q => absurd q (n 1 2 (by decide) (by decide) (by decide)), fun q => absurd q (n 1 3 (by decide) (by decide) (by decide)), fun q => absurd q (n 1 4 (by decide) (by decide) (by decide)), fun q => absurd q (n 1 5 (by decide) (by decide) (by decide)), fun q => absurd rfl q⟩
  · exact ⟨fun q => absurd q (n 2 1 (by decide) (by decide) (by decide)), fun _ => init3 (c := 0) (by simp [lyK]) (ht 0) hq, fun q => absurd q (n 2 3 (by decide) (by decide) (by decide)), fun q => absurd q (n 2 4 (by decide) (by decide) (by decide)), fun q => absurd q (n 2 5 (by decide) (by decide) (by decide)), fun _ q => absurd rfl q⟩
  · exact ⟨fun q => absurd q (n 3 1 (by decide) (by decide) (by decide)), fun q => absurd q (n 3 2 (by decide) (by decide) (by decide)), fun _ => init3 (c := 2) (by simp [lyK]) (ht 2) hq, fun q => absurd q (n 3 4 (by decide) (by decide) (by decide)), fun q => absurd q (n 3 5 (by decide) (by decide) (by decide)), fun _ _ q => absurd rfl q⟩
  · exact ⟨fun q => absurd q (n 4 1 (by decide) (by decide) (by decide)), fun q => absurd q (n 4 2 (by decide) (by decide) (by decide)), fun q => absurd q (n 4 3 (by decide) (by decide) (by decide)), fun _ => init3 (c := 10) (by simp [lyK]) (ht 10) hq, fun q => absurd q (n 4 5 (by decide) (by decide) (by decide)), fun _ _ _ q => absurd rfl q⟩
  · exact ⟨fun q => absurd q (n 5 1 (by decide) (by decide) (by decide)), fun q => absurd q (n 5 2 (by decide) (by decide) (by decide)), fun q => absurd q (n 5 3 (by decide) (by decide) (by decide)), fun q => absurd q (n 5 4 (by decide) (by decide) (by decide)), fun _ => init3 (c := 8) (by simp [lyK]) (ht 8) hq, fun _ _ _ _ q => absurd rfl q⟩
set_option maxHeartbeats 2000000 in
theorem p_layer (σ : Mem) (x0 x1 : Int32) (h : Rel σ) : w_X11_layer σ x0 x1 (fun r1 s1 => w_X12_layer s1 x0 x1 (fun r2 s2 => r1 = r2 ∧ Rel s2)) := by
  have h' := h
  obtain ⟨hS, hL, N, L, T, hPl, hLa, hTx, hHi, hTa, hTb, hIm, hSh, hMo⟩ := h
  have hLa' := hLa
  obtain ⟨hL5, e1, e2, hi⟩ := hLa
  by_cases c1 : 0 ≤ x0 ∧ x0 ≤ 5
  · have c1a : ¬ x0 < 0 := Int32.not_lt.mpr c1.1
    have c1b : ¬ 5 < x0 := Int32.not_lt.mpr c1.2
    by_cases c2 : 0 ≤ x1 ∧ x1 ≤ 9
    · have c2a : ¬ x1 < 0 := Int32.not_lt.mpr c2.1
      obtain ⟨kd, hkd, rfl⟩ := nI_of2 (M := 5) (n := 5) (by decide) c1a c1.2
      obtain ⟨nu, hnu, rfl⟩ := nI_of2 (M := 9) (n := 9) (by decide) c2a c2.2
      by_cases c3 : L < 5
      · have q1 : nI L < 5 := nI_lt c3 (by decide)
        have q2 : ¬ nI L = 5 := fun q => by
          have := (nI_eq (a := L) (b := 5) (by omega) (by decide)).mp q
          omega
        have q3 : vp_in (nI L) 5 := vp_in_nI c3 (by decide)
        have q4 : (nI L).toNatClampNeg = L := nI_clamp (by omega)
        have n0 : ¬ 0 = mL σ := by omega
        have n37 : ¬ 37 = mL σ := by omega
        unfold w_X11_layer
        refine ⟨fun q => absurd q c1a, fun _ => ⟨fun q => absurd q c1b, fun _ => ⟨fun q => absurd q c2a, fun _ => ⟨fun _ => ⟨fun _ => ?_, fun q => absurd (by rw [e1]; exact q1) q⟩, fun q => absurd c2.2 q⟩⟩⟩⟩
        refine newLayer_t hkd ⟨mL σ, rfl, by rw [e1]; exact q3, kcl kd, lyK_kcl hkd, by rw [mT_sI, mT_sI, mT_mN, if_pos rfl], ?_⟩
        simp [w_X12_layer, in_t c1, in_t c2, e1, e2, mI_sI, mI_sP, mI_mN, n0, n37, q2, q3, q4]
        have hk : Kg (fun a k => a = 3 ∧ k = L) (fun a k => (a = 0 ∧ k = 4) ∨ a = 40 ∨ a = 41 ∨ (a = 37 ∧ k = 3)) σ (sI (sI (sI (sI (sP (sI (sI (mN σ (kcl kd, 0)) (mL σ) 0 (nI kd)) (mL σ) 1 (nI nu)) 3 L (some (mL σ))) 0 4 (nI L + 1)) 40 L (nI kd)) 41 L (nI nu)) 37 3 (nI L + 1)) :=
          (((((((Kg.rf.mN _).sI _ (Or.inl (Nat.le_refl _))).sI _ (Or.inl (Nat.le_refl _))).sP _ (Or.inr ⟨rfl, rfl⟩)).sI _ (Or.inr (by simp))).sI _ (Or.inr (by simp))).sI _ (Or.inr (by simp))).sI _ (Or.inr (by simp))
        refine ⟨hk.mS hS (fun e he q => (show ∀ e ∈ psA, e.1 ≠ 3 by decide) e he q.1), Nat.le_trans hL hk.1, N, L + 1, T, hPl.fg hk hL (by simp) (by simp) (fun i => by simp) (fun i => by simp) (fun i => by simp) (fun i => by simp), ?_, hTx.fg hk hL (by simp) (by simp) (fun a i hc => by have := hc.dyn hTx; unfold dyn at this; simp; omega) (fun i => by simp) (fun i => by simp) (fun t ht => by simp <;> omega) (fun a i ha => by simp <;> omega), hHi.fg hk hL (by simp) (by simp) (by simp) (by simp), hTa.fg hk hL (by simp) (by simp) (fun i => by simp) (fun i => by simp), hTb.fg hk hL (by simp) (by simp) (by simp) (by simp) (fun i => by simp) (fun i => by simp) (fun i => by simp) (fun i => by simp), hIm.fg hk hL hTx (by simp) (fun a i hc => by have := hc.dyn hIm; simp; omega) (fun i => by simp) (fun i => by simp) (by simp) (fun a i ha => by simp <;> omega) (fun t ht => by simp <;> omega), hSh.fg hk hL (fun a i h1 h2 => by simp <;> omega) (fun i => by simp) (fun i => by simp) (fun i => by simp), hMo.fg hk hL (fun i => by simp) (fun i => by simp) (fun i => by simp)⟩
        refine ⟨by omega, by simp [mI_sI, nI_1], by simp [mI_sI, nI_1], fun i hi2 => ?_⟩
        by_cases c4 : i = L
        · subst c4
          have n1 : ¬ mL σ = 37 := by omega
          have n2 : ¬ mL σ = 40 := by omega
          have n3 : ¬ mL σ = 41 := by omega
          have n4 : ¬ mL σ = 0 := by omega
          refine ⟨mL σ, kd, nu, by simp [mP_sI, mP_sP], hL, hkd, hnu, by simp [mT_sI, mT_sP, mT_mN], by simp [mI_sI, mI_sP, n1, n2, n3, n4], by simp [mI_sI, mI_sP, n1, n2, n3, n4], by simp [mI_sI], by simp [mI_sI]⟩
        · obtain ⟨a, kd', nu', g1, g2, g3, g4, g5, g6, g7, g8, g9⟩ := hi i (by omega)
          have ha := mT_lt g5
          refine ⟨a, kd', nu', by rw [hk.2.1 3 i (by omega) (by simp <;> omega)]; exact g1, g2, g3, g4, by rw [hk.2.2.1 a ha]; exact g5, by rw [hk.2.2.2 a 0 ha (by simp <;> omega)]; exact g6, by rw [hk.2.2.2 a 1 ha (by simp <;> omega)]; exact g7, ?_, ?_⟩
          · have n5 : ¬ 40 = mL σ := by omega
            simp [mI_sI, mI_sP, mI_mN, c4, n5]; exact g8
          · have n5 : ¬ 41 = mL σ := by omega
            simp [mI_sI, mI_sP, mI_mN, c4, n5]; exact g9
      · have q0 : L = 5 := by omega
        subst q0
        have q1 : ¬ nI 5 < 5 := by decide
        have q2 : nI 5 = 5 := rfl
        simp [w_X11_layer, w_X12_layer, in_t c1, in_t c2, c1a, c1b, c2a, c2.2, e1, e2, q1, q2, h']
    · by_cases d1 : x1 < 0
      · simp [w_X11_layer, w_X12_layer, in_t c1, in_f c2, c1a, c1b, d1, h']
      · have d2 : ¬ x1 ≤ 9 := fun q => c2 ⟨Int32.not_lt.mp d1, q⟩
        simp [w_X11_layer, w_X12_layer, in_t c1, in_f c2, c1a, c1b, d1, d2, h']
  · by_cases d1 : x0 < 0
    · simp [w_X11_layer, w_X12_layer, in_f c1, d1, h']
    · have d2 : 5 < x0 := Int32.not_le.mp (fun q => c1 ⟨Int32.not_lt.mp d1, q⟩)
      simp [w_X11_layer, w_X12_layer, in_f c1, d1, d2, h']
theorem isUnder_t {σ : Mem} {a kd j : Nat} (hk : kd ≤ 5) (hj : j ≤ 5) (hT : mT σ a = some (kcl kd, 0)) {Q : Int32 → Mem → Prop} (hq : Q (if subX (kcl kd) (kcl j) = true then 1 else 0) σ) : w_X11_isUnder σ a (nI j) Q := by
  have ly := lyK_kcl hk
  have n : ∀ a b : Nat, a ≤ 5 → b ≤ 5 → a ≠ b → ¬ nI a = nI b := fun a b ha hb hab q => hab ((nI_eq (by omega) (by omega)).mp q)
  have top : subX (kcl kd) 3 = true := by
    rcases (show kd = 0 ∨ kd = 1 ∨ kd = 2 ∨ kd = 3 ∨ kd = 4 ∨ kd = 5 by omega) with rfl | rfl | rfl | rfl | rfl | rfl <;> rfl
  unfold w_X11_isUnder
  rcases (show j = 0 ∨ j = 1 ∨ j = 2 ∨ j = 3 ∨ j = 4 ∨ j = 5 by omega) with rfl | rfl | rfl | rfl | rfl | rfl
  · have hq : Q (if subX (kcl kd) 3 = true then 1 else 0) σ := hq
    rw [if_pos top] at hq
    exact ⟨fun _ => hq, fun q => absurd q (n 0 1 (by decide) (by decide) (by decide)), fun q => absurd q (n 0 2 (by decide) (by decide) (by decide)), fun q => absurd q (n 0 3 (by decide) (by decide) (by decide)), fun q => absurd q (n 0 4 (by decide) (by decide) (by decide)), fun q => absurd q (n 0 5 (by decide) (by decide) (by decide)), fun q => absurd rfl q⟩
  · exact ⟨fun q => absurd q (n 1 0 (by decide) (by decide) (by decide)), fun _ => ⟨_, ly, hT, bz_ite, hq⟩, fun q => absurd q (n 1 2 (by decide) (by decide) (by decide)), fun q => absurd q (n 1 3 (by decide) (by decide) (by decide)), fun q => absurd q (n 1 4 (by decide) (by decide) (by decide)), fun q => absurd q (n 1 5 (by decide) (by decide) (by decide)), fun _ q => absurd rfl q⟩
  · exact ⟨fun q => absurd q (n 2 0 (by decide) (by decide) (by decide)), fun q => absurd q (n 2 1 (by decide) (by decide) (by decide)), fun _ => ⟨_, ly, hT, bz_ite, hq⟩, fun q => absurd q (n 2 3 (by decide) (by decide) (by decide)), fun q => absurd q (n 2 4 (by decide) (by decide) (by decide)), fun q => absurd q (n 2 5 (by decide) (by decide) (by decide)), fun _ _ q => absurd rfl q⟩
  · exact ⟨fun q => absurd q (n 3 0 (by decide) (by decide) (by decide)), fun q => absurd q (n 3 1 (by decide) (by decide) (by decide)), fun q => absurd q (n 3 2 (by decide) (by decide) (by decide)), fun _ => ⟨_, ly, hT, bz_ite, hq⟩, fun q => absurd q (n 3 4 (by decide) (by decide) (by decide)), fun q => absurd q (n 3 5 (by decide) (by decide) (by decide)), fun _ _ _ q => absurd rfl q⟩
  · exact ⟨fun q => absurd q (n 4 0 (by decide) (by decide) (by decide)), fun q => absurd q (n 4 1 (by decide) (by decide) (by decide)), fun q => absurd q (n 4 2 (by decide) (by decide) (by decide)), fun q => absurd q (n 4 3 (by decide) (by decide) (by decide)), fun _ => ⟨_, ly, hT, bz_ite, hq⟩, fun q => absurd q (n 4 5 (by decide) (by decide) (by decide)), fun _ _ _ _ q => absurd rfl q⟩
  · exact ⟨fun q => absurd q (n 5 0 (by decide) (by decide) (by decide)), fun q => absurd q (n 5 1 (by decide) (by decide) (by decide)), fun q => absurd q (n 5 2 (by decide) (by decide) (by decide)), fun q => absurd q (n 5 3 (by decide) (by decide) (by decide)), fun q => absurd q (n 5 4 (by decide) (by decide) (by decide)), fun _ => ⟨_, ly, hT, bz_ite, hq⟩, fun _ _ _ _ _ q => absurd rfl q⟩
theorem takenM {σ : Mem} {i L kd nu j : Nat} (hL : L ≤ 5) (e2 : mI σ 37 3 = nI L) (hi : i < L) (hk : kd ≤ 5) (hj : j ≤ 5) (g8 : mI σ 40 i = nI kd) (g9 : mI σ 41 i = nI nu) {Q : Int32 → Mem → Prop} (hq : Q (if subX (kcl kd) (kcl j) = true then nI nu else -13) σ) : w_X12_taken σ (nI i) (nI j) Q := by
  have c1 : 0 ≤ nI j ∧ nI j ≤ 5 := ⟨nI_pos' (by omega), nI_le (b := 5) hj (by decide)⟩
  have c3 : 0 ≤ nI i ∧ nI i ≤ nI L - 1 := (le_m1 (by omega)).mpr ⟨nI_pos' (by omega), nI_lt hi (by omega)⟩
  have q3 : vp_in (nI i) 5 := vp_in_nI (by omega) (by decide)
  have q4 : (nI i).toNatClampNeg = i := nI_clamp (by omega)
  have l1 : nI 1 = 1 := rfl
  have l2 : nI 2 = 2 := rfl
  have l3 : nI 3 = 3 := rfl
  have l4 : nI 4 = 4 := rfl
  have l5 : nI 5 = 5 := rfl
  simp only [w_X12_taken, r_isLayerM, in_t c1, in_t c3, e2, w_X12_taken_64, w_X12_taken_54, w_X12_taken_68, w_X12_taken_69, q4, g8, g9]
  rcases (show kd = 0 ∨ kd = 1 ∨ kd = 2 ∨ kd = 3 ∨ kd = 4 ∨ kd = 5 by omega) with rfl | rfl | rfl | rfl | rfl | rfl <;> rcases (show j = 0 ∨ j = 1 ∨ j = 2 ∨ j = 3 ∨ j = 4 ∨ j = 5 by omega) with rfl | rfl | rfl | rfl | rfl | rfl <;> simp [kcl, subX] at hq <;> simp [q3, nI_0, l1, l2, l3, l4, l5, hq]
set_option maxHeartbeats 2000000 in
theorem p_taken (σ : Mem) (x0 x1 : Int32) (h : Rel σ) : w_X11_taken σ x0 x1 (fun r1 s1 => w_X12_taken s1 x0 x1 (fun r2 s2 => r1 = r2 ∧ Rel s2)) := by
  have h' := h
  obtain ⟨hS, hL, N, L, T, hPl, hLa, hTx, hHi, hTa, hTb, hIm, hSh, hMo⟩ := h
  obtain ⟨hL5, e1, e2, hi⟩ := hLa
  by_cases c1 : 0 ≤ x1 ∧ x1 ≤ 5
  · have c1a : ¬ x1 < 0 := Int32.not_lt.mpr c1.1
    obtain ⟨j, hj, rfl⟩ := nI_of2 (M := 5) (n := 5) (by decide) c1a c1.2
    by_cases c2 : 0 ≤ x0 ∧ x0 < nI L
    · obtain ⟨i, hi2, rfl⟩ := lt_nI (by omega) c2
      have c3 : 0 ≤ nI i ∧ nI i ≤ nI L - 1 := (le_m1 (by omega)).mpr c2
      obtain ⟨a, kd, nu, g1, g2, g3, g4, g5, g6, g7, g8, g9⟩ := hi i hi2
      have q3 : vp_in (nI i) 5 := vp_in_nI (by omega) (by decide)
      have q4 : (nI i).toNatClampNeg = i := nI_clamp (by omega)
      have q5 := lyK_kcl g3
      have q6 : lyK 0 ∧ lyK 2 ∧ lyK 3 ∧ lyK 4 ∧ lyK 8 ∧ lyK 10 := by unfold lyK; decide
      unfold w_X11_taken
      refine ⟨fun q => absurd q c1a, fun _ => ⟨fun _ => ?_, fun q => absurd c1.2 q⟩⟩
      rw [layerAt_t hL5 e1 hi2 g1]
      refine ⟨fun q => (by cases q), fun r hr => ?_⟩
      have hr : r = a := (Option.some.inj hr).symm
      subst hr
      refine isUnder_t g3 hj g5 ?_
      by_cases u : subX (kcl kd) (kcl j) = true
      · rw [if_pos u]
        refine ⟨fun q => absurd q (by decide), fun _ => ⟨kcl kd, q5, g5, ?_⟩⟩
        refine takenM hL5 e2 hi2 g3 hj g8 g9 ?_
        rw [if_pos u, g7]
        exact ⟨rfl, h'⟩
      · rw [if_neg u]
        refine ⟨fun _ => ?_, fun q => absurd rfl q⟩
        refine takenM hL5 e2 hi2 g3 hj g8 g9 ?_
        rw [if_neg u]
        exact ⟨rfl, h'⟩
    · have c3 : ¬ (0 ≤ x0 ∧ x0 ≤ nI L - 1) := fun q => c2 ((le_m1 (by omega)).mp q)
      simp [w_X11_taken, w_X12_taken, layerAt_f e1 c2, r_isLayerM, in_t c1, in_f c3, e2, c1a, c1.2, h']
  · by_cases d1 : x1 < 0
    · simp [w_X11_taken, w_X12_taken, in_f c1, d1, h']
    · have d2 : ¬ x1 ≤ 5 := fun q => c1 ⟨Int32.not_lt.mp d1, q⟩
      simp [w_X11_taken, w_X12_taken, in_f c1, d1, d2, h']
