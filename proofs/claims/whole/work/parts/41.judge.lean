/-! STAGE 2: sheets in a call; judge -/
theorem sheet_cases {σ : Mem} {N L T : Nat} (h : RelX σ N L T) {x : Int32} (c : 0 ≤ x ∧ x ≤ 3) : ∃ (i n : Nat) (so : Int32), i < 4 ∧ x = nI i ∧ n ≤ 40 ∧ (so = -1 ∨ so = 0 ∨ so = 1 ∨ so = 2) ∧ ∀ τ, Kp (SC σ T) σ τ → mP τ 14 i = some (25 + 2 * i) ∧ mT τ (25 + 2 * i) = some (7, 0) ∧ mP τ (25 + 2 * i) 0 = some (26 + 2 * i) ∧ mT τ (26 + 2 * i) = some (14, 40) ∧ mI τ (25 + 2 * i) 1 = so ∧ mI τ (25 + 2 * i) 2 = nI n ∧ mI τ 64 i = so ∧ mI τ 65 i = nI n ∧ ∀ k, k < 40 → mI τ (26 + 2 * i) k = mI σ (26 + 2 * i) k ∧ mI τ 66 (40 * i + k) = mI σ (26 + 2 * i) k := by
  obtain ⟨hS, hL, hPl, hLa, hTx, hHi, hTa, hTb, hIm, hSh, hMo⟩ := h
  obtain ⟨i, hi, rfl⟩ := sheet_ix c
  obtain ⟨⟨g1, g0⟩, ⟨n, g2, g3, g4⟩, g5⟩ := hSh i hi
  refine ⟨i, n, mI σ 64 i, hi, rfl, g2, g0, fun τ hk => ?_⟩
  obtain ⟨q1, q2, q3, q4⟩ := sh_facts (hk.mS hS) hi
  have e : ∀ a k, (25 ≤ a ∧ a ≤ 32 ∨ 64 ≤ a ∧ a ≤ 66) → mI τ a k = mI σ a k := fun a k ha => hk.2.2.2 _ _ (fun q => by have := SC.st hTx q; omega)
  refine ⟨q1, q2, q3, q4, ?_, ?_, ?_, ?_, fun k hk2 => ⟨?_, ?_⟩⟩
  · rw [e _ _ (by omega)]; exact g1
  · rw [e _ _ (by omega)]; exact g3
  · rw [e _ _ (by omega)]
  · rw [e _ _ (by omega)]; exact g4
  · rw [e _ _ (by omega)]
  · rw [e _ _ (by omega)]; exact (g5 k hk2).symm
def juL (E : EN) (N k : Nat) (H : HP) (v : Int32) : Bool := if k < N ∧ (v = nI H.1 ∨ (0 ≤ v ∧ v < nI H.1 ∧ mayA E H v.toNatClampNeg k = true)) then true else false
def juGo (E : EN) (N : Nat) (it : Nat → Int32) : Nat → Nat → HP → Int32
  | 0, _, _ => -1
  | d + 1, k, H => if juL E N k H (it k) = true then juGo E N it d (k + 1) (puA H (it k).toNatClampNeg k) else nI k
section JudgeA
variable {σ : Mem} {N T : Nat} {E : EN}
set_option maxHeartbeats 1000000 in
theorem juC_go {Q : Int32 → Mem → Prop} (hE : Env σ T N E.1 E.2.1 E.2.2.1 E.2.2.2) {s n : Nat} {it : Nat → Int32} (hn : n ≤ 40) (hs : s < 4) (hf : ∀ τ, Kp (SC σ T) σ τ → mT τ (25 + 2 * s) = some (7, 0) ∧ mP τ (25 + 2 * s) 0 = some (26 + 2 * s) ∧ mT τ (26 + 2 * s) = some (14, 40) ∧ mI τ (25 + 2 * s) 2 = nI n ∧ ∀ k, k < 40 → mI τ (26 + 2 * s) k = it k) : ∀ (d k : Nat) (H : HP) (τ : Mem), k + d = n → Kp (SC σ T) σ τ → hoA 15 2 17 16 τ H → (k ≤ 8 → okH N k H) → (8 < k → N < k) → (∀ τ', Kp (FC σ T) τ τ' → Q (juGo E N it d k H) τ') → w_X11_judge_32 Q (d + 1) (25 + 2 * s) (nI k) τ := by
  have hN := hE.1
  intro d
  induction d with
  | zero =>
    intro k H τ hd hk hH ho h8 hq
    obtain ⟨f1, f2, f3, f4, f5⟩ := hf τ hk
    have e : k = n := by omega
    subst e
    rw [w_X11_judge_32]
    refine ⟨f1, ?_⟩
    rw [f4]
    exact ⟨fun _ => hq τ Kp.rf, fun c => absurd (Int32.le_refl _) c⟩
  | succ d ih =>
    intro k H τ hd hk hH ho h8 hq
    obtain ⟨f1, f2, f3, f4, f5⟩ := hf τ hk
    have nle : ¬ nI n ≤ nI k := fun z => of_eq_false (k_nle (a := n) (b := k) (by omega) (by omega)) z
    rw [w_X11_judge_32]
    refine ⟨f1, ?_⟩
    rw [f4, k_cl (by omega)]
    refine ⟨fun c => absurd c nle, fun _ => ⟨f1, _, f2, _, f3, vp_in_nI (by omega) (by omega), fun v hv => ?_⟩⟩
    rw [f5 k (by omega)] at hv
    subst hv
    have bad : juL E N k H (it k) = false → ∀ τ', Kp (FC σ T) τ τ' → w_X11_judge_86 Q (fun z0 z1 z2 => w_X11_judge_32 Q (d + 1) z0 z1 z2) (25 + 2 * s) (nI k) (it k) τ' := by
      intro hj τ' k1
      have := hq τ' k1
      rw [juGo, hj, if_neg (by decide)] at this
      unfold w_X11_judge_86 w_X11_judge_87
      exact ⟨fun c => absurd rfl c, fun _ => this⟩
    by_cases cN : k < N
    · have ho1 := ho (by omega)
      have h1 := ho1.1
      have good : juL E N k H (it k) = true → ∀ h, h ≤ H.1 → it k = nI h → ∀ τ', Kp (fun a _ => txs σ T a) τ τ' → w_X11_judge_82 Q (fun z0 z1 z2 => w_X11_judge_32 Q (d + 1) z0 z1 z2) (25 + 2 * s) (nI k) (it k) τ' := by
        intro hj h hh hit τ1 k1
        unfold w_X11_judge_82 w_X11_judge_87
        refine ⟨fun _ => ?_, fun c => absurd c (by decide)⟩
        rw [hit]
        refine put_ok_15 (hH.cw hE k1 (by decide) (by decide) (by decide)) ho1 (by omega) hN hh cN (fun τ2 k2 hH2 _ _ _ => ?_)
        rw [show nI k + 1 = nI (k + 1) from nI_add k 1]
        have kk : Kp (FC σ T) τ τ2 := (k1.mono (fun a i q => Or.inl q)).tr (k2.mono (fun a i q => Or.inr (by omega)))
        refine ih (k + 1) (puA H h k) τ2 (by omega) (hk.tr (kk.mono (fun a i q => Or.inl q.sc))) hH2 (fun _ => ho1.put hh cN) (fun z => by omega) (fun τ3 k3 => ?_)
        have := hq τ3 (kk.tr k3)
        rw [juGo, hj, if_pos rfl, hit, k_cl (by omega)] at this
        exact this
      refine isP_ok (hE.2.2.2.2.2.1 τ hk).1 hN cN ⟨fun c => absurd c (by decide), fun _ => ?_⟩
      rw [hH.1]
      refine ⟨fun c => ?_, fun c => ?_⟩
      · exact good (by unfold juL; rw [if_pos ⟨cN, Or.inl c⟩]) H.1 (Nat.le_refl _) c τ Kp.rf
      · by_cases cv : 0 ≤ it k ∧ it k < nI H.1
        · obtain ⟨h, hh, e⟩ := lt_nI (by omega) cv
          rw [e]
          refine may_ok_15 hE hk hH ho1 (by omega) hh cN (fun τ1 k1 => ?_)
          rw [← e]
          by_cases cm : mayA E H h k = true
          · rw [if_pos cm]
            refine ⟨fun z => absurd z (by decide), fun _ => good ?_ h (by omega) e τ1 k1⟩
            unfold juL
            rw [if_pos ⟨cN, Or.inr ⟨cv.1, cv.2, by rw [e, k_cl (by omega)]; exact cm⟩⟩]
          · rw [if_neg cm]
            refine ⟨fun _ => bad ?_ τ1 (k1.mono (fun a i q => Or.inl q)), fun z => absurd rfl z⟩
            unfold juL
            rw [if_neg]
            rintro ⟨-, z | ⟨-, -, z⟩⟩
            · exact c z
            · rw [e, k_cl (by omega)] at z; exact cm z
        · unfold w_X11_mayLie_15 w_X1_has_15
          rw [hH.1]
          have hb : juL E N k H (it k) = false := by
            unfold juL
            rw [if_neg]
            rintro ⟨-, z | ⟨z1, z2, -⟩⟩
            · exact c z
            · exact cv ⟨z1, z2⟩
          refine ⟨fun z => ⟨fun z => absurd rfl z, fun _ => ⟨fun _ => bad hb τ Kp.rf, fun z => absurd rfl z⟩⟩, fun z => ⟨fun z2 => ⟨fun z => absurd rfl z, fun _ => ⟨fun _ => bad hb τ Kp.rf, fun z => absurd rfl z⟩⟩, fun z2 => absurd ⟨Int32.not_lt.mp z, Int32.not_le.mp z2⟩ cv⟩⟩
    · have hb : juL E N k H (it k) = false := by
        unfold juL
        rw [if_neg (fun z => cN z.1)]
      rw [q_isPlateC, (hE.2.2.2.2.2.1 τ hk).1, if_neg (fun z => by
        obtain ⟨j, hj, e⟩ := lt_nI (by omega) z
        rw [nI_eq (by omega) (by omega)] at e
        omega)]
      exact ⟨fun _ => bad hb τ Kp.rf, fun z => absurd rfl z⟩
set_option maxHeartbeats 1000000 in
theorem juM_go {Q : Int32 → Mem → Prop} (hE : Env σ T N E.1 E.2.1 E.2.2.1 E.2.2.2) {s n : Nat} {it : Nat → Int32} (hn : n ≤ 40) (hs : s < 4) (hf : ∀ τ, Kp (SC σ T) σ τ → mI τ 65 s = nI n ∧ ∀ k, k < 40 → mI τ 66 (40 * s + k) = it k) : ∀ (d k : Nat) (H : HP) (τ : Mem), k + d = n → Kp (SC σ T) σ τ → hoA 37 28 51 52 τ H → (k ≤ 8 → okH N k H) → (8 < k → N < k) → (∀ τ', Kp FM τ τ' → Q (juGo E N it d k H) τ') → w_X12_judge_29 Q (d + 1) (nI s) (nI k) τ := by
  have hN := hE.1
  have vs : vp_in (nI s) 4 := vp_in_nI (by omega) (by omega)
  intro d
  induction d with
  | zero =>
    intro k H τ hd hk hH ho h8 hq
    obtain ⟨f1, f2⟩ := hf τ hk
    have e : k = n := by omega
    subst e
    rw [w_X12_judge_29, k_cl (by omega), f1]
    exact ⟨vs, fun _ => hq τ Kp.rf, fun c => absurd (Int32.le_refl _) c⟩
  | succ d ih =>
    intro k H τ hd hk hH ho h8 hq
    obtain ⟨f1, f2⟩ := hf τ hk
    have nle : ¬ nI n ≤ nI k := fun z => of_eq_false (k_nle (a := n) (b := k) (by omega) (by omega)) z
    have e40 : (40 : Int32) * nI s + nI k = nI (40 * s + k) := by rw [show (40 : Int32) = nI 40 from rfl, k_mul, nI_add]
    rw [w_X12_judge_29, k_cl (a := s) (by omega), f1, e40, k_cl (by omega), (hE.2.2.2.2.2.1 τ hk).2.1]
    refine ⟨vs, fun c => absurd c nle, fun _ => ⟨vp_in_nI (by omega) (by omega), fun v hv => ?_⟩⟩
    rw [f2 k (by omega)] at hv
    subst hv
    have bad : juL E N k H (it k) = false → ∀ τ', Kp FM τ τ' → Q (nI k) τ' := by
      intro hj τ' k1
      have := hq τ' k1
      rw [juGo, hj, if_neg (by decide)] at this
      exact this
    by_cases cN : k < N
    · have ho1 := ho (by omega)
      have h1 := ho1.1
      have nle2 : ¬ nI N ≤ nI k := fun z => of_eq_false (k_nle (a := N) (b := k) (by omega) (by omega)) z
      have good : juL E N k H (it k) = true → ∀ h, h ≤ H.1 → it k = nI h → ∀ τ', Kp (fun a _ => a = 49 ∨ a = 50) τ τ' → w_X12_judge_90 Q (fun z0 z1 z2 => w_X12_judge_29 Q (d + 1) z0 z1 z2) (nI s) (nI k) (it k) τ' := by
        intro hj h hh hit τ1 k1
        unfold w_X12_judge_90
        rw [hit]
        refine putM_ok (hH.m5 k1) ho1 (by omega) hN hh cN (fun τ2 k2 hH2 => ?_)
        rw [show nI k + 1 = nI (k + 1) from nI_add k 1]
        have kk : Kp FM τ τ2 := (k1.mono (fun a i q => by unfold FM; omega)).tr (k2.mono (fun a i q => by unfold FM; omega))
        refine ih (k + 1) (puA H h k) τ2 (by omega) (hk.tr (kk.mono (fun a i q => Or.inl (FM.sc q)))) hH2 (fun _ => ho1.put hh cN) (fun z => by omega) (fun τ3 k3 => ?_)
        have := hq τ3 (kk.tr k3)
        rw [juGo, hj, if_pos rfl, hit, k_cl (by omega)] at this
        exact this
      refine ⟨fun z => absurd z nle2, fun _ => ?_⟩
      rw [q_isIn, hH.1]
      by_cases cv : 0 ≤ it k ∧ it k ≤ nI H.1
      · rw [if_pos cv]
        refine ⟨fun z => absurd z (by decide), fun _ => ⟨fun c => ?_, fun c => ?_⟩⟩
        · have e : it k = nI H.1 := Int32.le_antisymm cv.2 c
          exact good (by unfold juL; rw [if_pos ⟨cN, Or.inl e⟩]) H.1 (Nat.le_refl _) e τ Kp.rf
        · have cv2 : 0 ≤ it k ∧ it k < nI H.1 := ⟨cv.1, Int32.not_le.mp c⟩
          obtain ⟨h, hh, e⟩ := lt_nI (by omega) cv2
          rw [e]
          refine mayM_ok hE hk hH ho1 (by omega) hh cN (fun τ1 k1 => ?_)
          rw [← e]
          by_cases cm : mayA E H h k = true
          · rw [if_pos cm]
            refine ⟨fun _ => good ?_ h (by omega) e τ1 k1, fun z => absurd z (by decide)⟩
            unfold juL
            rw [if_pos ⟨cN, Or.inr ⟨cv2.1, cv2.2, by rw [e, k_cl (by omega)]; exact cm⟩⟩]
          · rw [if_neg cm]
            refine ⟨fun z => absurd rfl z, fun _ => bad ?_ τ1 (k1.mono (fun a i q => by unfold FM; omega))⟩
            unfold juL
            rw [if_neg]
            rintro ⟨-, z | ⟨-, -, z⟩⟩
            · rw [z] at c; exact c (Int32.le_refl _)
            · rw [e, k_cl (by omega)] at z; exact cm z
      · rw [if_neg cv]
        refine ⟨fun _ => bad ?_ τ Kp.rf, fun z => absurd rfl z⟩
        unfold juL
        rw [if_neg]
        rintro ⟨-, z | ⟨z1, z2, -⟩⟩
        · exact cv (by rw [z]; exact ⟨nI_pos' (by omega), Int32.le_refl _⟩)
        · exact cv ⟨z1, Int32.le_of_lt z2⟩
    · have hb : juL E N k H (it k) = false := by
        unfold juL
        rw [if_neg (fun z => cN z.1)]
      exact ⟨fun _ => bad hb τ Kp.rf, fun z => absurd (nI_le (by omega) (by omega)) z⟩
end JudgeA
theorem missing_ok {τ : Mem} {a : Nat} {so : Int32} {Q : Int32 → Mem → Prop} (ht : mT τ a = some (7, 0)) (e : mI τ a 1 = so) (h1 : so = -1 → Q 1 τ) (h2 : ¬ so = -1 → Q 0 τ) : w_X7_isMissing τ a Q := by
  unfold w_X7_isMissing
  rw [e]
  exact ⟨ht, h2, h1⟩
theorem so_neg {so : Int32} (h : so = -1 ∨ so = 0 ∨ so = 1 ∨ so = 2) : (so = -1 ∧ ¬ 0 ≤ so) ∨ (¬ so = -1 ∧ 0 ≤ so) := by
  rcases h with rfl | rfl | rfl | rfl
  · exact Or.inl ⟨rfl, by decide⟩
  · exact Or.inr ⟨by decide, by decide⟩
  · exact Or.inr ⟨by decide, by decide⟩
  · exact Or.inr ⟨by decide, by decide⟩
set_option maxHeartbeats 1000000 in
theorem p_judge (σ : Mem) (x0 : Int32) (h : Rel σ) : w_X11_judge σ x0 (fun r1 s1 => w_X12_judge s1 x0 (fun r2 s2 => r1 = r2 ∧ Rel s2)) := by
  obtain ⟨N, L, T, hx⟩ := h.x
  obtain ⟨E, hE, -, -⟩ := env_ex hx
  have hN := hE.1
  have h53 : ∀ j, j < 8 → mI σ 53 j = nI j := hx.2.2.2.2.2.2.2.2.2.2.1
  unfold w_X11_judge w_X12_judge
  by_cases c : 0 ≤ x0 ∧ x0 ≤ 3
  · obtain ⟨i, n, so, hi, rfl, hn, hso, hf⟩ := sheet_cases hx c
    obtain ⟨f1, f2, f3, f4, f5, f6, f7, f8, f9⟩ := hf σ Kp.rf
    have vp : vp_in (nI i) 4 := vp_in_nI (by omega) (by omega)
    refine (sheetAt_t hi f1).mpr ⟨fun z => (by cases z), fun r hr => ?_⟩
    cases hr
    refine ⟨f2, ?_⟩
    have z0 : hoA 15 2 17 16 (sI σ 15 2 0) (0, fun _ => 0, fun _ _ => 0) := ⟨by rw [mI_sI_s]; rfl, fun h hh => absurd hh (Nat.not_lt_zero _), fun h k hh => absurd hh (Nat.not_lt_zero _)⟩
    have ok0 : okH N 0 (0, fun _ => 0, fun _ _ => 0) := ⟨Nat.le_refl _, fun h hh => absurd hh (Nat.not_lt_zero _), fun h k hh => absurd hh (Nat.not_lt_zero _)⟩
    rcases so_neg hso with ⟨e1, e2⟩ | ⟨e1, e2⟩
    · refine missing_ok f2 f5 (fun _ => ⟨fun z => absurd z (by decide), fun _ => ?_⟩) (fun z => absurd e1 z)
      refine r_isSheet.mpr ((in_t c).mpr ⟨fun _ => ⟨vp, ?_⟩, fun z => absurd z (by decide)⟩)
      rw [k_cl (by omega), f7]
      exact ⟨fun z => absurd z e2, fun _ => ⟨rfl, h⟩⟩
    · refine missing_ok f2 f5 (fun z => absurd z e1) (fun _ => ⟨fun _ => ?_, fun z => absurd rfl z⟩)
      unfold w_X1_clear_15
      have k0 : Kp (FC σ T) σ (sI σ 15 2 0) := Kp.sI Kp.rf _ (Or.inr (Or.inl ⟨rfl, rfl⟩))
      refine ⟨n + 1, juC_go (it := fun k => mI σ (26 + 2 * i) k) hE hn hi (fun τ hk => ?_) n 0 (0, fun _ => 0, fun _ _ => 0) (sI σ 15 2 0) (by omega) (k0.mono (fun a i q => Or.inl q.sc)) z0 (fun _ => ok0) (fun z => by omega) (fun τ1 k1 => ?_)⟩
      · obtain ⟨g1, g2, g3, g4, g5, g6, g7, g8, g9⟩ := hf τ hk
        exact ⟨g2, g3, g4, g6, fun k hk => (g9 k hk).1⟩
      · have kk := k0.tr k1
        have hk1 : Kp (SC0 σ T) σ τ1 := kk.mono (fun a i q => q.sc)
        obtain ⟨g1, g2, g3, g4, g5, g6, g7, g8, g9⟩ := hf τ1 hk1.s0
        refine r_isSheet.mpr ((in_t c).mpr ⟨fun _ => ⟨vp, ?_⟩, fun z => absurd z (by decide)⟩)
        rw [k_cl (by omega), g7]
        refine ⟨fun _ => ?_, fun z => absurd e2 z⟩
        have k2 : Kp FM τ1 (sI τ1 37 28 0) := Kp.sI Kp.rf _ (by unfold FM; omega)
        refine ⟨n + 1, juM_go (it := fun k => mI σ (26 + 2 * i) k) hE hn hi (fun τ hk => ?_) n 0 (0, fun _ => 0, fun _ _ => 0) _ (by omega) (hk1.s0.tr (k2.mono (fun a i q => Or.inl (FM.sc q)))) ⟨by rw [mI_sI_s]; rfl, fun h hh => absurd hh (Nat.not_lt_zero _), fun h k hh => absurd hh (Nat.not_lt_zero _)⟩ (fun _ => ok0) (fun z => by omega) (fun τ2 k3 => ⟨rfl, ?_⟩)⟩
        · obtain ⟨g1, g2, g3, g4, g5, g6, g7, g8, g9⟩ := hf τ hk
          exact ⟨g8, fun k hk => (g9 k hk).2⟩
        · have k4 := k2.tr k3
          refine (hx.sc (hk1.tr (k4.mono (fun a k q => FM.sc q))) (fun j hj => ?_)).rel
          rw [k4.2.2.2 _ _ (by unfold FM; omega), FC.n53 hE kk]
          exact h53 j hj
  · refine (sheetAt_f c).mpr ⟨fun _ => ?_, fun r hr => (by cases hr)⟩
    exact r_isSheet.mpr ((in_f c).mpr ⟨fun z => absurd rfl z, fun _ => ⟨rfl, h⟩⟩)
