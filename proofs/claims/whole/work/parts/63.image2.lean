/-! STAGE 2: the pairs image, back -/
theorem txc_im {σ : Mem} {T t h c0 c1 c3 c4 a : Nat} (hTx : rTx σ T) (i : imT σ t h c0 c1 c3 c4) (hX : imX σ T t h c0 c1 c3 c4) (hc : txc σ T a) : a ≠ t ∧ a ≠ h ∧ a ≠ c0 ∧ a ≠ c1 ∧ a ≠ c3 ∧ a ≠ c4 := by
  obtain ⟨u, r, hu, h1, h2⟩ := hc
  obtain ⟨r', st, nm, sk, l0, l1, l2, hr⟩ := hTx.2.2.2.2.1 u hu
  have e : r' = r := Option.some.inj (hr.1.symm.trans h1)
  subst e
  obtain ⟨a1, a2, a3, a4, a5, a6, a7, a8, a9, a10, -⟩ := hr
  obtain ⟨x1, x2, -⟩ := hX u r' 0 0 hu h1
  obtain ⟨-, -, -, -, -, -, -, q1, -, q2, -, -, -, -, q3, q4, q5, q6, -⟩ := i
  have key : ∀ a b (x y : Nat × Nat), mT σ a = some x → mT σ b = some y → x.1 ≠ y.1 → a ≠ b := fun a b x y h1 h2 hn e => by
    subst e
    rw [h1] at h2
    cases h2
    exact hn rfl
  rcases h2 with rfl | h2
  · exact ⟨x1, x2, key _ _ _ _ a6 q3 (by decide), key _ _ _ _ a6 q4 (by decide), key _ _ _ _ a6 q5 (by decide), key _ _ _ _ a6 q6 (by decide)⟩
  · have e2 : st = a := Option.some.inj (a7.symm.trans h2)
    subst e2
    obtain ⟨-, -, x3⟩ := hX u r' st 0 hu h1
    obtain ⟨y1, y2, y3, y4⟩ := x3 (Or.inl rfl) h2
    exact ⟨key _ _ _ _ a10 q1 (show (14 : Nat) ≠ 9 by decide), key _ _ _ _ a10 q2 (show (14 : Nat) ≠ 1 by decide), y1, y2, y3, y4⟩
theorem lay_im {σ : Mem} {t h c0 c1 c3 c4 a : Nat} (i : imT σ t h c0 c1 c3 c4) (hc : ∃ kd, mT σ a = some (kcl kd, 0)) : a ≠ t ∧ a ≠ h ∧ a ≠ c0 ∧ a ≠ c1 ∧ a ≠ c3 ∧ a ≠ c4 := by
  obtain ⟨kd, hk⟩ := hc
  obtain ⟨-, -, -, -, -, -, -, q1, -, q2, -, -, -, -, q3, q4, q5, q6, -⟩ := i
  have hkk : kcl kd ≠ 9 ∧ kcl kd ≠ 1 ∧ kcl kd ≠ 14 := by
    unfold kcl
    split <;> omega
  have key : ∀ b (y : Nat × Nat), mT σ b = some y → kcl kd ≠ y.1 → a ≠ b := fun b y h2 hn e => by
    subst e
    rw [hk] at h2
    cases h2
    exact hn rfl
  exact ⟨key _ _ q1 hkk.1, key _ _ q2 hkk.2.1, key _ _ q3 hkk.2.2, key _ _ q4 hkk.2.2, key _ _ q5 hkk.2.2, key _ _ q6 hkk.2.2⟩
def FI (t h c0 c1 c3 c4 a k : Nat) : Prop := a = t ∨ a = h ∨ a = c0 ∨ a = c1 ∨ a = c3 ∨ a = c4 ∨ (a = 37 ∧ 49 ≤ k ∧ k ≤ 53) ∨ a = 62 ∨ a = 63
set_option maxHeartbeats 2000000 in
theorem img_go {σ : Mem} {N L T t h c0 c1 c3 c4 : Nat} (hS : mS psA tsA σ) (hL : 68 ≤ mL σ) (hPl : rPl σ N) (hLa : rLa σ L) (hTx : rTx σ T) (hHi : rHi σ T) (hTa : rTa σ) (hTb : rTb σ N) (hSh : rSh σ) (hMo : rMo σ) (i : imT σ t h c0 c1 c3 c4) (hX : imX σ T t h c0 c1 c3 c4) : w_X11_image_18 (fun r1 s1 => w_X12_image s1 (fun r2 s2 => r1 = r2 ∧ Rel s2)) σ := by
  obtain ⟨n1, n2, n3, n4, n5, n6, n7, n8, n9⟩ := i.ne
  have i0 := i
  obtain ⟨p09, z1, z2, z3, z4, z5, z6, mt, pt0, mh, p0, p1, p3, p4, t0, t1, t3, t4, d1, d2, d3, d4, d5, d6⟩ := i
  have hN : N ≤ 8 := hPl.1
  obtain ⟨l, M, ht, b0, b1, b2, b3, b4, b5⟩ := hTb
  have hHi' := hHi
  obtain ⟨⟨u, hu, u1, u2⟩, hh, i1, i2, i3, i4⟩ := hHi
  unfold w_X11_image_18
  intro oo hoo
  refine ⟨t, hoo.trans p09, mt, ?_⟩
  unfold w_X9_become_d_8
  refine ⟨mt, h, pt0, mh, become_d i0 (fun τ k g0 g1 g2 => ⟨by rw [k.2.1]; exact mt, fun v hv => ⟨by rw [k.2.1]; exact mt, fun v2 hv2 => ⟨by rw [k.2.1]; exact mt, ?_⟩⟩⟩)⟩
  have e81 : mI τ 8 1 = nI l := by rw [k.2.2.2 _ _ (by omega)]; exact b1
  have hv' : v = nI hh := by rw [hv, mI_sI_n _ _ (by omega), k.2.2.2 _ _ (by omega)]; exact i3
  subst hv'
  have hv2' : v2 = nI u := by rw [hv2, mI_sI_n _ _ (by omega), mI_sI_n _ _ (by omega), k.2.2.2 _ _ (by omega)]; exact u1
  subst hv2'
  rw [e81]
  have k1 : Kp (FI t h c0 c1 c3 c4) σ (sI (sI (sI τ t 1 (nI l)) t 2 (nI hh)) t 3 (nI u)) := Kp.sI (Kp.sI (Kp.sI (k.mono (fun a k q => by unfold FI; omega)) _ (Or.inl rfl)) _ (Or.inl rfl)) _ (Or.inl rfl)
  have w1 : mI (sI (sI (sI τ t 1 (nI l)) t 2 (nI hh)) t 3 (nI u)) t 1 = nI l := by rw [mI_sI_k _ _ (by omega), mI_sI_k _ _ (by omega), mI_sI_s]
  have w2 : mI (sI (sI (sI τ t 1 (nI l)) t 2 (nI hh)) t 3 (nI u)) t 2 = nI hh := by rw [mI_sI_k _ _ (by omega), mI_sI_s]
  have w3 : mI (sI (sI (sI τ t 1 (nI l)) t 2 (nI hh)) t 3 (nI u)) t 3 = nI u := by rw [mI_sI_s]
  have w4 : ∀ a j, a ≠ t → mI (sI (sI (sI τ t 1 (nI l)) t 2 (nI hh)) t 3 (nI u)) a j = mI τ a j := fun a j ha => by rw [mI_sI_n _ _ ha, mI_sI_n _ _ ha, mI_sI_n _ _ ha]
  generalize sI (sI (sI τ t 1 (nI l)) t 2 (nI hh)) t 3 (nI u) = τ1 at k1 w1 w2 w3 w4
  have un : ∀ a j, a < 62 → ¬ (a = 37 ∧ 49 ≤ j ∧ j ≤ 53) → mI τ1 a j = mI σ a j := fun a j h1 h2 => k1.2.2.2 _ _ (by unfold FI; omega)
  show w_X12_image τ1 (fun r2 s2 => mI τ1 8 1 = r2 ∧ Rel s2)
  rw [un 8 1 (by omega) (by omega), b1]
  unfold w_X12_image
  rw [un 37 45 (by omega) (by omega), un 37 46 (by omega) (by omega), un 37 6 (by omega) (by omega), un 37 10 (by omega) (by omega), b2, b4, i4, u2]
  have k2 : Kp (fun a j => a = 37 ∧ 49 ≤ j ∧ j ≤ 53) τ1 (sI (sI (sI (sI (sI τ1 37 49 1) 37 50 (nI l)) 37 51 (nI M)) 37 52 (nI hh)) 37 53 (nI u)) := (by repeat (first | exact Kp.rf | refine Kp.sI ?_ _ (by first | exact rfl | omega | (dsimp only; omega))))
  have v49 : mI (sI (sI (sI (sI (sI τ1 37 49 1) 37 50 (nI l)) 37 51 (nI M)) 37 52 (nI hh)) 37 53 (nI u)) 37 49 = 1 := by simp [mI_sI]
  have v50 : mI (sI (sI (sI (sI (sI τ1 37 49 1) 37 50 (nI l)) 37 51 (nI M)) 37 52 (nI hh)) 37 53 (nI u)) 37 50 = nI l := by simp [mI_sI]
  have v51 : mI (sI (sI (sI (sI (sI τ1 37 49 1) 37 50 (nI l)) 37 51 (nI M)) 37 52 (nI hh)) 37 53 (nI u)) 37 51 = nI M := by simp [mI_sI]
  have v52 : mI (sI (sI (sI (sI (sI τ1 37 49 1) 37 50 (nI l)) 37 51 (nI M)) 37 52 (nI hh)) 37 53 (nI u)) 37 52 = nI hh := by simp [mI_sI]
  have v53 : mI (sI (sI (sI (sI (sI τ1 37 49 1) 37 50 (nI l)) 37 51 (nI M)) 37 52 (nI hh)) 37 53 (nI u)) 37 53 = nI u := by simp [mI_sI]
  generalize sI (sI (sI (sI (sI τ1 37 49 1) 37 50 (nI l)) 37 51 (nI M)) 37 52 (nI hh)) 37 53 (nI u) = τ2 at k2 v49 v50 v51 v52 v53
  refine mvo_60_62 (fun τ3 k3 m3 => mvo_61_63 (fun τ4 k4 m4 => ?_))
  have k24 : Kp (fun a _ => a = 62 ∨ a = 63) τ2 τ4 := (k3.mono (fun a _ q => Or.inl q)).tr (k4.mono (fun a _ q => Or.inr q))
  have kk : Kp (FI t h c0 c1 c3 c4) σ τ4 := (k1.tr (k2.mono (fun a j q => by unfold FI; omega))).tr (k24.mono (fun a j q => by unfold FI; omega))
  have vt : ∀ a j, 68 ≤ a → mI τ4 a j = mI τ1 a j := fun a j ha => by rw [k24.2.2.2 _ _ (by omega), k2.2.2.2 _ _ (by omega)]
  have f0 : ∀ {a j : Nat}, FI t h c0 c1 c3 c4 a j → 68 ≤ a ∨ (a = 37 ∧ 49 ≤ j ∧ j ≤ 53) ∨ a = 62 ∨ a = 63 := fun q => by unfold FI at q; omega
  refine ⟨?_, RelX.rel (N := N) (L := L) (T := T) ⟨kk.mS hS, by rw [kk.2.2.1]; exact hL, hPl.fr kk (fun q => by have := f0 q; omega) (fun q => by have := f0 q; omega) (fun i q => by have := f0 q; omega) (fun i q => by have := f0 q; omega) (fun i q => by have := f0 q; omega) (fun i q => by have := f0 q; omega), hLa.fr kk (fun q => by have := f0 q; omega) (fun q => by have := f0 q; omega) (fun a j ha hc q => by have := lay_im i0 hc; unfold FI at q; omega) (fun i q => by have := f0 q; omega) (fun i q => by have := f0 q; omega), hTx.fr kk (fun q => by have := f0 q; omega) (fun q => by have := f0 q; omega) (fun a j hc q => by have := txc_im hTx i0 hX hc; have hd := hc.dyn hTx; unfold dyn at hd; unfold FI at q; omega) (fun i q => by have := f0 q; omega) (fun i q => by have := f0 q; omega), hHi'.fr kk (fun q => by have := f0 q; omega) (fun q => by have := f0 q; omega) (fun q => by have := f0 q; omega) (fun q => by have := f0 q; omega), hTa.fr kk (fun q => by have := f0 q; omega) (fun q => by have := f0 q; omega) (fun i q => by have := f0 q; omega) (fun i q => by have := f0 q; omega), ⟨l, M, ht, b0, by rw [kk.2.2.2 _ _ (fun q => by have := f0 q; omega)]; exact b1, by rw [kk.2.2.2 _ _ (fun q => by have := f0 q; omega)]; exact b2, by rw [kk.2.2.2 _ _ (fun q => by have := f0 q; omega)]; exact b3, by rw [kk.2.2.2 _ _ (fun q => by have := f0 q; omega)]; exact b4, b5.fr kk (fun i q => by have := f0 q; omega) (fun i q => by have := f0 q; omega) (fun i q => by have := f0 q; omega) (fun i q => by have := f0 q; omega)⟩, Or.inr ⟨by rw [k24.2.2.2 _ _ (by omega)]; exact v49, t, h, c0, c1, c3, c4, by rw [kk.1]; exact p09, z1, z2, z3, z4, z5, z6, by rw [kk.2.1]; exact mt, by rw [kk.1]; exact pt0, by rw [kk.2.1]; exact mh, by rw [kk.1]; exact p0, by rw [kk.1]; exact p1, by rw [kk.1]; exact p3, by rw [kk.1]; exact p4, by rw [kk.2.1]; exact t0, by rw [kk.2.1]; exact t1, by rw [kk.2.1]; exact t3, by rw [kk.2.1]; exact t4, ⟨d1, d2, d3, d4, d5, d6⟩, fun uu r x j hu q1 => ?_, l, M, hh, u, ht, b0, hu, i1, i2, by rw [vt t 1 z1]; exact w1, by rw [k24.2.2.2 _ _ (by omega)]; exact v50, by rw [vt h 2 z2, w4 h 2 (by omega), g2]; exact b3, by rw [k24.2.2.2 _ _ (by omega)]; exact v51, by rw [vt t 2 z1]; exact w2, by rw [k24.2.2.2 _ _ (by omega)]; exact v52, by rw [vt t 3 z1]; exact w3, by rw [k24.2.2.2 _ _ (by omega)]; exact v53, b5.move (by omega) (fun j hj => by rw [vt c0 j z3, w4 c0 j (by omega)]; exact g0 j hj) (fun j hj => by rw [vt c1 j z4, w4 c1 j (by omega)]; exact g1 j hj) (fun j hj => by rw [m4 j hj, k3.2.2.2 _ _ (by omega), k2.2.2.2 _ _ (by omega), un 61 j (by omega) (by omega)]) (fun j hj => by rw [k4.2.2.2 _ _ (by omega), m3 j hj, k2.2.2.2 _ _ (by omega), un 60 j (by omega) (by omega)])⟩, hSh.fr kk (fun a j h1 h2 q => by have := f0 q; omega) (fun i q => by have := f0 q; omega) (fun i q => by have := f0 q; omega) (fun i q => by have := f0 q; omega), hMo.fr kk (fun i q => by have := f0 q; omega) (fun i q => by have := f0 q; omega) (fun i q => by have := f0 q; omega)⟩⟩
  · rw [k24.2.2.2 _ _ (by omega), k2.2.2.2 _ _ (by omega), un 37 45 (by omega) (by omega), b2]
  · rw [kk.1] at q1
    obtain ⟨y1, y2, y3⟩ := hX uu r x j hu q1
    refine ⟨y1, y2, fun hj q2 => ?_⟩
    rw [kk.1] at q2
    exact y3 hj q2
set_option maxHeartbeats 2000000 in
theorem init_t {σ : Mem} {n : Nat} (hn : mL σ = n) {Q : Mem → Prop} (hq : ∀ s, Kg (fun _ _ => False) (fun _ _ => False) σ s → mT s n = some (9, 0) → mP s n 0 = some (n + 1) → mT s (n + 1) = some (1, 0) → mP s (n + 1) 0 = some (n + 2) → mP s (n + 1) 1 = some (n + 3) → mP s (n + 1) 3 = some (n + 4) → mP s (n + 1) 4 = some (n + 5) → mT s (n + 2) = some (14, 64) → mT s (n + 3) = some (14, 8) → mT s (n + 4) = some (14, 8) → mT s (n + 5) = some (14, 8) → Q s) : w_X9_init (mN σ (9, 0)) n Q := by
  unfold w_X9_init w_X1_init
  have hn9 : mL (mN σ (9, 0)) = n + 1 := by rw [mL_mN, hn]
  have hn1 : mL (mN (mN σ (9, 0)) (1, 0)) = n + 2 := by rw [mL_mN, hn9]
  rw [hn9, hn1]
  simp only [mL_sP, mL_mN, hn]
  refine ⟨by (simp only [mT_mN, mT_sP, mT_sI, mP_mN, mP_sP, mP_sI, mL_mN, mL_sP, hn]; repeat (first | rfl | rw [if_pos (by omega)] | rw [if_neg (by omega)])), by (simp only [mT_mN, mT_sP, mT_sI, mP_mN, mP_sP, mP_sI, mL_mN, mL_sP, hn]; repeat (first | rfl | rw [if_pos (by omega)] | rw [if_neg (by omega)])), by (simp only [mT_mN, mT_sP, mT_sI, mP_mN, mP_sP, mP_sI, mL_mN, mL_sP, hn]; repeat (first | rfl | rw [if_pos (by omega)] | rw [if_neg (by omega)])), by (simp only [mT_mN, mT_sP, mT_sI, mP_mN, mP_sP, mP_sI, mL_mN, mL_sP, hn]; repeat (first | rfl | rw [if_pos (by omega)] | rw [if_neg (by omega)])), by (simp only [mT_mN, mT_sP, mT_sI, mP_mN, mP_sP, mP_sI, mL_mN, mL_sP, hn]; repeat (first | rfl | rw [if_pos (by omega)] | rw [if_neg (by omega)])), by (simp only [mT_mN, mT_sP, mT_sI, mP_mN, mP_sP, mP_sI, mL_mN, mL_sP, hn]; repeat (first | rfl | rw [if_pos (by omega)] | rw [if_neg (by omega)])), hq _ ?_ ?_ ?_ ?_ ?_ ?_ ?_ ?_ ?_ ?_ ?_ ?_⟩
  · exact Kg.sI (Kg.sP (Kg.sP (Kg.mN (Kg.sP (Kg.mN (Kg.sP (Kg.mN (Kg.sP (Kg.mN (Kg.mN (Kg.mN Kg.rf _) _) _) _ (Or.inl (by omega))) _) _ (Or.inl (by omega))) _) _ (Or.inl (by omega))) _) _ (Or.inl (by omega))) _ (Or.inl (by omega))) _ (Or.inl (by omega))
  · (simp only [mT_mN, mT_sP, mT_sI, mP_mN, mP_sP, mP_sI, mL_mN, mL_sP, hn]; repeat (first | rfl | rw [if_pos (by omega)] | rw [if_neg (by omega)]))
  · simp [mP_mN, mP_sP, mP_sI, mL_mN, mL_sP, hn]
  · (simp only [mT_mN, mT_sP, mT_sI, mP_mN, mP_sP, mP_sI, mL_mN, mL_sP, hn]; repeat (first | rfl | rw [if_pos (by omega)] | rw [if_neg (by omega)]))
  · simp [mP_mN, mP_sP, mP_sI, mL_mN, mL_sP, hn]
  · simp [mP_mN, mP_sP, mP_sI, mL_mN, mL_sP, hn]
  · simp [mP_mN, mP_sP, mP_sI, mL_mN, mL_sP, hn]
  · simp [mP_mN, mP_sP, mP_sI, mL_mN, mL_sP, hn]
  · (simp only [mT_mN, mT_sP, mT_sI, mP_mN, mP_sP, mP_sI, mL_mN, mL_sP, hn]; repeat (first | rfl | rw [if_pos (by omega)] | rw [if_neg (by omega)]))
  · (simp only [mT_mN, mT_sP, mT_sI, mP_mN, mP_sP, mP_sI, mL_mN, mL_sP, hn]; repeat (first | rfl | rw [if_pos (by omega)] | rw [if_neg (by omega)]))
  · (simp only [mT_mN, mT_sP, mT_sI, mP_mN, mP_sP, mP_sI, mL_mN, mL_sP, hn]; repeat (first | rfl | rw [if_pos (by omega)] | rw [if_neg (by omega)]))
  · (simp only [mT_mN, mT_sP, mT_sI, mP_mN, mP_sP, mP_sI, mL_mN, mL_sP, hn]; repeat (first | rfl | rw [if_pos (by omega)] | rw [if_neg (by omega)]))
set_option maxHeartbeats 2000000 in
theorem p_image (σ : Mem) (h : Rel σ) : w_X11_image σ (fun r1 s1 => w_X12_image s1 (fun r2 s2 => r1 = r2 ∧ Rel s2)) := by
  obtain ⟨N, L, T, hS, hL, hPl, hLa, hTx, hHi, hTa, hTb, hIm, hSh, hMo⟩ := h.x
  unfold w_X11_image
  intro o ho
  refine ⟨fun c => ?_, fun r hr => ?_⟩
  · have c0 : mP σ 0 9 = none := by rw [← ho]; exact c
    refine init_t (n := mL σ) rfl (fun s k s1 s2 s3 s4 s5 s6 s7 s8 s9 s10 s11 => ?_)
    have kg : Kg (fun a j => a = 0 ∧ j = 9) (fun _ _ => False) σ (sP s 0 9 (some (mL σ))) := Kg.sP ⟨k.1, fun a j ha _ => k.2.1 a j ha (fun z => z), k.2.2.1, k.2.2.2⟩ _ (Or.inr ⟨rfl, rfl⟩)
    refine img_go (N := N) (L := L) (T := T) (t := mL σ) (h := mL σ + 1) (c0 := mL σ + 2) (c1 := mL σ + 3) (c3 := mL σ + 4) (c4 := mL σ + 5) (kg.mS hS (fun e he q => (show ∀ e ∈ psA, ¬ (e.1 = 0 ∧ e.2.1 = 9) by decide) e he q)) (Nat.le_trans hL kg.1) (hPl.fg kg hL (fun z => z) (fun z => z) (fun i z => z) (fun i z => z) (fun i z => z) (fun i z => z)) (hLa.fg kg hL (fun z => z) (fun z => z) (fun a i _ _ z => z) (fun i z => z) (fun i z => z) (fun i _ z => by omega)) (hTx.fg kg hL (fun z => z) (fun z => z) (fun a i _ z => z) (fun i z => z) (fun i z => z) (fun t _ z => by omega) (fun a i _ z => by omega)) (hHi.fg kg hL (fun z => z) (fun z => z) (fun z => z) (fun z => z)) (hTa.fg kg hL (fun z => z) (fun z => z) (fun i z => z) (fun i z => z)) (hTb.fg kg hL (fun z => z) (fun z => z) (fun z => z) (fun z => z) (fun i z => z) (fun i z => z) (fun i z => z) (fun i z => z)) (hSh.fg kg hL (fun a i _ _ z => z) (fun i z => z) (fun i z => z) (fun i z => z)) (hMo.fg kg hL (fun i z => z) (fun i z => z) (fun i z => z)) ⟨?_, by omega, by omega, by omega, by omega, by omega, by omega, s1, ?_, s3, ?_, ?_, ?_, ?_, s8, s9, s10, s11, by omega, by omega, by omega, by omega, by omega, by omega⟩ (fun u r x j hu q1 => ?_)
    · rw [mP_sP, if_pos rfl, if_pos rfl]
    · rw [mP_sP, if_neg (by omega)]; exact s2
    · rw [mP_sP, if_neg (by omega)]; exact s4
    · rw [mP_sP, if_neg (by omega)]; exact s5
    · rw [mP_sP, if_neg (by omega)]; exact s6
    · rw [mP_sP, if_neg (by omega)]; exact s7
    · rw [kg.2.1 4 u (by omega) (by omega)] at q1
      obtain ⟨r', st, nm, sk, l0, l1, l2, hr⟩ := hTx.2.2.2.2.1 u hu
      have e : r' = r := Option.some.inj (hr.1.symm.trans q1)
      subst e
      obtain ⟨a1, a2, a3, a4, a5, a6, a7, a8, a9, a10, a11, a12, -⟩ := hr
      have hr := mT_lt a6
      have y1 := mT_lt a10
      have y2 := mT_lt a11
      have y3 := mT_lt a12
      unfold dyn at a2
      refine ⟨by omega, by omega, fun hj q2 => ?_⟩
      rw [kg.2.1 r' j hr (by omega)] at q2
      have hx : x < mL σ := by
        rcases hj with rfl | rfl | rfl
        · rw [a7] at q2; cases q2; exact y1
        · rw [a8] at q2; cases q2; exact y2
        · rw [a9] at q2; cases q2; exact y3
      omega
  · have i0 : mP σ 0 9 = some r := by rw [← ho]; exact hr
    rcases hIm with ⟨q, -⟩ | ⟨-, t, h, c0, c1, c3, c4, q1, q2, q3, q4, q5, q6, q7, q8, q9, q10, q11, q12, q13, q14, q15, q16, q17, q18, q19, q20, -⟩
    · rw [q] at i0; cases i0
    · exact img_go hS hL hPl hLa hTx hHi hTa hTb hSh hMo ⟨q1, q2, q3, q4, q5, q6, q7, q8, q9, q10, q11, q12, q13, q14, q15, q16, q17, q18, q19⟩ q20
set_option maxHeartbeats 2000000 in
theorem p_back (σ : Mem) (h : Rel σ) : w_X11_back σ (fun r1 s1 => w_X12_back s1 (fun r2 s2 => r1 = r2 ∧ Rel s2)) := by
  obtain ⟨N, L, T, hS, hL, hPl, hLa, hTx, hHi, hTa, hTb, hIm, hSh, hMo⟩ := h.x
  have hIm' := hIm
  unfold w_X11_back
  intro o ho
  rcases hIm with ⟨q, q0⟩ | ⟨q0, t, hp, c0, c1, c3, c4, q1, q2, q3, q4, q5, q6, q7, q8, q9, q10, q11, q12, q13, q14, q15, q16, q17, q18, q19, q20, l, M, hh, u, ht, b0, hu, i1, i2, y1, y2, y3, y4, y5, y6, y7, y8, y9⟩
  · refine ⟨fun _ => ?_, fun r hr => ?_⟩
    · show w_X12_back σ (fun r2 s2 => (-3 : Int32) = r2 ∧ Rel s2)
      unfold w_X12_back
      rw [q0]
      exact ⟨fun z => absurd rfl z, fun _ => ⟨rfl, h⟩⟩
    · rw [hr, q] at ho; cases ho
  · have i : imT σ t hp c0 c1 c3 c4 := ⟨q1, q2, q3, q4, q5, q6, q7, q8, q9, q10, q11, q12, q13, q14, q15, q16, q17, q18, q19⟩
    refine ⟨fun c => (by rw [c, q1] at ho; cases ho), fun r hr o2 ho2 => ⟨t, ho2.trans q1, ?_⟩⟩
    unfold w_X9_become_8_d
    refine ⟨q8, hp, q9, become_n i (fun τ k g0 g1 g2 => ?_)⟩
    have mt : mT τ t = some (9, 0) := by rw [k.2.1]; exact q8
    refine ⟨mt, mt, fun v hv => ⟨mt, fun v2 hv2 => ?_⟩⟩
    have et1 : mI τ t 1 = nI l := by rw [k.2.2.2 _ _ (by omega)]; exact y1
    have hv' : v = nI hh := by rw [hv, mI_sI_n _ _ (by omega), k.2.2.2 _ _ (by omega)]; exact y5
    subst hv'
    have hv2' : v2 = nI u := by rw [hv2, mI_sI_n _ _ (by omega), mI_sI_n _ _ (by omega), k.2.2.2 _ _ (by omega)]; exact y7
    subst hv2'
    rw [et1]
    have k1 : Kp (fun a k => (10 ≤ a ∧ a ≤ 13) ∨ (a = 9 ∧ k = 2) ∨ (a = 8 ∧ 1 ≤ k ∧ k ≤ 3)) σ (sI (sI (sI τ 8 1 (nI l)) 8 2 (nI hh)) 8 3 (nI u)) := Kp.sI (Kp.sI (Kp.sI (k.mono (fun a k q => by omega)) _ (by omega)) _ (by omega)) _ (by omega)
    have w1 : mI (sI (sI (sI τ 8 1 (nI l)) 8 2 (nI hh)) 8 3 (nI u)) 8 1 = nI l := by simp [mI_sI]
    have w2 : mI (sI (sI (sI τ 8 1 (nI l)) 8 2 (nI hh)) 8 3 (nI u)) 8 2 = nI hh := by simp [mI_sI]
    have w3 : mI (sI (sI (sI τ 8 1 (nI l)) 8 2 (nI hh)) 8 3 (nI u)) 8 3 = nI u := by simp [mI_sI]
    have w4 : ∀ a j, a ≠ 8 → mI (sI (sI (sI τ 8 1 (nI l)) 8 2 (nI hh)) 8 3 (nI u)) a j = mI τ a j := fun a j ha => by rw [mI_sI_n _ _ ha, mI_sI_n _ _ ha, mI_sI_n _ _ ha]
    generalize sI (sI (sI τ 8 1 (nI l)) 8 2 (nI hh)) 8 3 (nI u) = τ1 at k1 w1 w2 w3 w4
    show w_X12_back τ1 (fun r2 s2 => mI τ1 8 1 = r2 ∧ Rel s2)
    have un : ∀ a j, 14 ≤ a → mI τ1 a j = mI σ a j := fun a j h1 => k1.2.2.2 _ _ (by omega)
    rw [w1]
    unfold w_X12_back
    rw [un 37 49 (by omega), un 37 50 (by omega), un 37 51 (by omega), un 37 52 (by omega), un 37 53 (by omega), q0, y2, y4, y6, y8]
    refine ⟨fun _ => ?_, fun z => absurd z (by decide)⟩
    have k2 : Kp (fun a j => a = 37 ∧ (j = 45 ∨ j = 46 ∨ j = 6 ∨ j = 10)) τ1 (sI (sI (sI (sI τ1 37 45 (nI l)) 37 46 (nI M)) 37 6 (nI hh)) 37 10 (nI u)) := (by repeat (first | exact Kp.rf | refine Kp.sI ?_ _ (by first | exact rfl | omega | (dsimp only; omega))))
    have v45 : mI (sI (sI (sI (sI τ1 37 45 (nI l)) 37 46 (nI M)) 37 6 (nI hh)) 37 10 (nI u)) 37 45 = nI l := by simp [mI_sI]
    have v46 : mI (sI (sI (sI (sI τ1 37 45 (nI l)) 37 46 (nI M)) 37 6 (nI hh)) 37 10 (nI u)) 37 46 = nI M := by simp [mI_sI]
    have v6 : mI (sI (sI (sI (sI τ1 37 45 (nI l)) 37 46 (nI M)) 37 6 (nI hh)) 37 10 (nI u)) 37 6 = nI hh := by simp [mI_sI]
    have v10 : mI (sI (sI (sI (sI τ1 37 45 (nI l)) 37 46 (nI M)) 37 6 (nI hh)) 37 10 (nI u)) 37 10 = nI u := by simp [mI_sI]
    generalize sI (sI (sI (sI τ1 37 45 (nI l)) 37 46 (nI M)) 37 6 (nI hh)) 37 10 (nI u) = τ2 at k2 v45 v46 v6 v10
    refine mvo_62_60 (fun τ3 k3 m3 => mvo_63_61 (fun τ4 k4 m4 => ?_))
    have k24 : Kp (fun a _ => a = 60 ∨ a = 61) τ2 τ4 := (k3.mono (fun a _ q => Or.inl q)).tr (k4.mono (fun a _ q => Or.inr q))
    have kk : Kp (fun a j => (10 ≤ a ∧ a ≤ 13) ∨ (a = 9 ∧ j = 2) ∨ (a = 8 ∧ 1 ≤ j ∧ j ≤ 3) ∨ (a = 37 ∧ (j = 45 ∨ j = 46 ∨ j = 6 ∨ j = 10)) ∨ a = 60 ∨ a = 61) σ τ4 := ((k1.mono (fun a j q => by omega)).tr (k2.mono (fun a j q => by omega))).tr (k24.mono (fun a j q => by omega))
    have vt : ∀ a j, a < 14 → mI τ4 a j = mI τ1 a j := fun a j ha => by rw [k24.2.2.2 _ _ (by omega), k2.2.2.2 _ _ (by omega)]
    have hN : N ≤ 8 := hPl.1
    refine ⟨by rw [k24.2.2.2 _ _ (by omega)]; exact v45.symm, RelX.rel (N := N) (L := L) (T := T) ⟨kk.mS hS, by rw [kk.2.2.1]; exact hL, hPl.fr kk (by omega) (by omega) (fun i => by omega) (fun i => by omega) (fun i => by omega) (fun i => by omega), hLa.fr kk (by omega) (by omega) (fun a j ha hc => by omega) (fun i => by omega) (fun i => by omega), hTx.fr kk (by omega) (by omega) (fun a j hc => by have hd := hc.dyn hTx; unfold dyn at hd; omega) (fun i => by omega) (fun i => by omega), ⟨⟨u, hu, by rw [vt 8 3 (by omega)]; exact w3, by rw [k24.2.2.2 _ _ (by omega)]; exact v10⟩, hh, i1, i2, by rw [vt 8 2 (by omega)]; exact w2, by rw [k24.2.2.2 _ _ (by omega)]; exact v6⟩, hTa.fr kk (by omega) (by omega) (fun i => by omega) (fun i => by omega), ⟨l, M, ht, b0, by rw [vt 8 1 (by omega)]; exact w1, by rw [k24.2.2.2 _ _ (by omega)]; exact v45, by rw [vt 9 2 (by omega), w4 9 2 (by omega), g2]; exact y3, by rw [k24.2.2.2 _ _ (by omega)]; exact v46, y9.move (by omega) (fun j hj => by rw [vt 10 j (by omega), w4 10 j (by omega)]; exact g0 j hj) (fun j hj => by rw [vt 11 j (by omega), w4 11 j (by omega)]; exact g1 j hj) (fun j hj => by rw [m4 j hj, k3.2.2.2 _ _ (by omega), k2.2.2.2 _ _ (by omega), un 63 j (by omega)]) (fun j hj => by rw [k4.2.2.2 _ _ (by omega), m3 j hj, k2.2.2.2 _ _ (by omega), un 62 j (by omega)])⟩, hIm'.fr kk (by omega) (fun a j hc => by have := hc.dyn hIm'; omega) (fun i => by omega) (fun i => by omega), hSh.fr kk (fun a j h1 h2 => by omega) (fun i => by omega) (fun i => by omega) (fun i => by omega), hMo.fr kk (fun i => by omega) (fun i => by omega) (fun i => by omega)⟩⟩
