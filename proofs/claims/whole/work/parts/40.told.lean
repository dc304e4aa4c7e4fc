/-! STAGE 2: told, judge, stranger -/
set_option maxHeartbeats 1000000 in
theorem p_told (σ : Mem) (x0 x1 : Int32) (h : Rel σ) : w_X11_told σ x0 x1 (fun r1 s1 => w_X12_told s1 x0 x1 (fun r2 s2 => r1 = r2 ∧ Rel s2)) := by
  obtain ⟨N, L, T, hx⟩ := h.x
  obtain ⟨E, hE, hE1, hE2⟩ := env_ex hx
  have hN := hE.1
  have h53 : ∀ j, j < 8 → mI σ 53 j = nI j := hx.2.2.2.2.2.2.2.2.2.2.1
  have lay : x1 = 3 ∨ x1 = 4 → w_X11_told_10 (fun r1 s1 => w_X12_told s1 x0 x1 (fun r2 s2 => r1 = r2 ∧ Rel s2)) x0 x1 σ := by
    intro c
    have c04 : 0 ≤ x1 ∧ x1 ≤ 4 := by rcases c with rfl | rfl <;> exact ⟨by decide, by decide⟩
    have c3 : 3 ≤ x1 := by rcases c with rfl | rfl <;> decide
    unfold w_X11_told_10 w_X12_told
    rcases lay_cases hx x0 with ⟨c1, c2⟩ | ⟨l, a, kd, nu, hl, hl5, rfl, hkd, ht, htM, d1, d2, d3, -⟩
    · refine c1 _ σ Kp.rf ⟨fun _ => ?_, fun r hr => (by cases hr)⟩
      refine (in_t c04).mpr ?_
      exact ⟨fun z => absurd z (by decide), fun _ => ⟨fun _ => c2 _ σ Kp.rf ⟨fun z => absurd rfl z, fun _ => ⟨rfl, h⟩⟩, fun z => absurd c3 z⟩⟩
    · refine d1 _ σ Kp.rf ⟨fun z => (by cases z), fun r hr => ?_⟩
      cases hr
      have vp : vp_in (nI l) 5 := vp_in_nI (by omega) (by omega)
      rcases c with rfl | rfl
      · refine ⟨fun z => absurd rfl z, fun _ => ⟨_, kcl_ly kd, (ht σ Kp.rf).1, ?_⟩⟩
        refine (in_t c04).mpr ?_
        refine ⟨fun z => absurd z (by decide), fun _ => ⟨fun _ => d2 _ σ Kp.rf ⟨fun _ => ?_, fun z => absurd z (by decide)⟩, fun z => absurd c3 z⟩⟩
        unfold w_X12_told_36
        refine ⟨fun z => absurd z (by decide), fun z => absurd z (by decide), fun z => absurd z (by decide), fun _ => ⟨vp, ?_, h⟩, fun _ _ _ z => absurd rfl z⟩
        rw [d3 σ Kp.rf, k_cl (by omega), (htM σ Kp.rf).1]
      · refine ⟨fun _ => ⟨_, kcl_ly kd, (ht σ Kp.rf).1, ?_⟩, fun z => absurd z (by decide)⟩
        refine (in_t c04).mpr ?_
        refine ⟨fun z => absurd z (by decide), fun _ => ⟨fun _ => d2 _ σ Kp.rf ⟨fun _ => ?_, fun z => absurd z (by decide)⟩, fun z => absurd c3 z⟩⟩
        unfold w_X12_told_36
        refine ⟨fun z => absurd z (by decide), fun z => absurd z (by decide), fun z => absurd z (by decide), fun z => absurd z (by decide), fun _ _ _ _ => ⟨vp, ?_, h⟩⟩
        rw [(ht σ Kp.rf).2, k_cl (by omega), (htM σ Kp.rf).2]
  unfold w_X11_told
  refine ⟨fun c => lay (Or.inl c), fun c3 => ⟨fun c4 => ?_, fun c => lay (Or.inr c)⟩⟩
  unfold w_X12_told
  by_cases cr : 0 ≤ x1 ∧ x1 ≤ 4
  · have n3 : ¬ 3 ≤ x1 := by
      intro z
      obtain ⟨j, hj, rfl⟩ := nI_of2 (M := 4) (n := 4) (by decide) (Int32.not_lt.mpr cr.1) cr.2
      have : 3 ≤ j := by
        rcases Nat.lt_or_ge j 3 with q | q
        · exact absurd z (fun z => of_eq_false (k_nle (a := 3) (b := j) q (by omega)) z)
        · exact q
      have : j = 3 ∨ j = 4 := by omega
      rcases this with rfl | rfl
      · exact c3 rfl
      · exact c4 rfl
    refine ⟨fun z => absurd cr.1 (Int32.not_le.mpr z), fun _ => ⟨fun z => absurd cr.2 (Int32.not_le.mpr z), fun _ => ?_⟩⟩
    rcases plate_cases hx x0 with ⟨e1, e2⟩ | ⟨p, hp, rfl, e1, e2⟩
    · refine e1 _ σ Kp.rf ⟨fun c => absurd rfl c, fun _ => ?_⟩
      refine (in_t cr).mpr ?_
      exact ⟨fun z => absurd z (by decide), fun _ => ⟨fun z => absurd z n3, fun _ => e2 _ σ Kp.rf ⟨fun c => absurd rfl c, fun _ => ⟨rfl, h⟩⟩⟩⟩
    · have vp : vp_in (nI p) 8 := vp_in_nI (by omega) (by omega)
      obtain ⟨-, -, -, -, hSD⟩ := hE.2.2.2.2.2.1 σ Kp.rf
      obtain ⟨s1, s2, s3, s4⟩ := hSD p hp
      refine e1 _ σ Kp.rf ⟨fun _ => ⟨fun c2 => ⟨fun c0 => ⟨vp, ?_⟩, fun c0 => ⟨vp, ?_⟩⟩, fun c2 => ?_⟩, fun c => absurd c (by decide)⟩
      · refine (in_t cr).mpr ?_
        refine ⟨fun z => absurd z (by decide), fun _ => ⟨fun z => absurd z n3, fun _ => e2 _ σ Kp.rf ⟨fun _ => ?_, fun z => absurd z (by decide)⟩⟩⟩
        unfold w_X12_told_36
        refine ⟨fun z => absurd z c0, fun _ => ⟨vp, ?_, h⟩, fun z => absurd z c2, fun z => absurd z c3, fun _ z1 _ _ => ?_⟩
        · rw [k_cl (by omega), s2, s4]
        · exfalso
          obtain ⟨j, hj, rfl⟩ := nI_of2 (M := 4) (n := 4) (by decide) (Int32.not_lt.mpr cr.1) cr.2
          have : j = 0 ∨ j = 1 ∨ j = 2 ∨ j = 3 ∨ j = 4 := by omega
          rcases this with rfl | rfl | rfl | rfl | rfl
          · exact c0 rfl
          · exact z1 rfl
          · exact c2 rfl
          · exact c3 rfl
          · exact c4 rfl
      · refine (in_t cr).mpr ?_
        refine ⟨fun z => absurd z (by decide), fun _ => ⟨fun z => absurd z n3, fun _ => e2 _ σ Kp.rf ⟨fun _ => ?_, fun z => absurd z (by decide)⟩⟩⟩
        unfold w_X12_told_36
        subst c0
        refine ⟨fun _ => ⟨vp, ?_, h⟩, fun z => absurd z (by decide), fun z => absurd z (by decide), fun z => absurd z (by decide), fun z _ _ _ => absurd rfl z⟩
        rw [k_cl (by omega), s1, s3]
      · subst c2
        refine hE.2.2.2.2.2.2.1 σ 2 p (-1) 0 0 0 0 _ Kp.rf (by omega) hp (Or.inl ⟨rfl, rfl, rfl⟩) (fun τ1 k1 => bounded_ok ?_)
        have hk1 : Kp (SC0 σ T) σ τ1 := k1.mono (fun a k q => Or.inr (Or.inr (Or.inr (Or.inr (Or.inr (Or.inr q))))))
        obtain ⟨-, -, -, -, hSD1⟩ := hE.2.2.2.2.2.1 τ1 hk1.s0
        obtain ⟨-, -, t3, t4⟩ := hSD1 p hp
        refine (in_t cr).mpr ?_
        refine ⟨fun z => absurd z (by decide), fun _ => ⟨fun z => absurd z n3, fun _ => e2 _ τ1 hk1.s0 ⟨fun _ => ?_, fun z => absurd z (by decide)⟩⟩⟩
        unfold w_X12_told_36
        refine ⟨fun z => absurd z (by decide), fun z => absurd z (by decide), fun _ => ?_, fun z => absurd z (by decide), fun _ _ z _ => absurd rfl z⟩
        refine name_ok (by omega) t3 t4 (fun τ2 k2 g2 => ?_)
        have hk2 : Kp (SC0 σ T) σ τ2 := hk1.tr (k2.mono (fun a k q => by unfold SC0; omega))
        refine hE.2.2.2.2.2.2.2 τ2 2 _ _ hk2.s0 (by omega) g2 (fun τ3 k3 => bound_ok ⟨rfl, ?_⟩)
        have hk3 : Kp (SC0 σ T) σ τ3 := hk2.tr (k3.mono (fun a k q => by unfold SC0; omega))
        refine (hx.sc hk3 (fun j hj => ?_)).rel
        rw [k3.2.2.2 _ _ (by omega), k2.2.2.2 _ _ (by omega), hE.cw k1 (a := 53) (by omega)]
        exact h53 j hj
  · refine ⟨fun z => ?_, fun z => ⟨fun z2 => ?_, fun z2 => absurd ⟨Int32.not_lt.mp z, Int32.not_lt.mp z2⟩ cr⟩⟩
    · refine (in_f cr).mpr ?_
      exact ⟨fun _ => ⟨rfl, h⟩, fun z => absurd rfl z⟩
    · refine (in_f cr).mpr ?_
      exact ⟨fun _ => ⟨rfl, h⟩, fun z => absurd rfl z⟩
