/-! STAGE 2: TEXT: the pair -/
theorem mk_rule {τ : Mem} {m : Nat} {l : List Int32} {x2 x3 : Int32} (hn : 8 ≤ mL τ) (hm : m < 160) (h8 : mI τ 5 8 = nI m) (h7 : ∀ k, k < m → mI τ 7 k = l.getD k 0) {Q : Mem → Prop} (hq : ∀ D, Kg (fun _ _ => False) (fun _ _ => False) τ D → mL D = mL τ + 4 → mT D (mL τ) = some (6, 0) → mP D (mL τ) 0 = some (mL τ + 1) → mP D (mL τ) 3 = some (mL τ + 2) → mP D (mL τ) 4 = some (mL τ + 3) → mT D (mL τ + 1) = some (14, m) → mT D (mL τ + 2) = some (14, 6) → mT D (mL τ + 3) = some (14, 40) → mI D (mL τ) 1 = x2 → mI D (mL τ) 2 = x3 → (∀ k, k < m → mI D (mL τ + 1) k = l.getD k 0) → Q D) : w_J7_copyOf_59c91_7 (mN τ (6, 0)) (mI (mN τ (6, 0)) 5 8) (fun o117 s118 => ∃ r119 : Nat, o117 = some r119 ∧ (w_X6_init s118 (mL τ) r119 x2 x3 Q)) := by
  have e8 : mI (mN τ (6, 0)) 5 8 = nI m := by rw [mI_mN, if_neg (by omega)]; exact h8
  rw [e8]
  have lt : nI m < 160 := nI_lt (b := 160) hm (by omega)
  unfold w_J7_copyOf_59c91_7
  refine ⟨fun _ => ⟨⟨nI_nlt (b := 0) (by omega) (by omega), by rw [k_cl (by omega)]; omega⟩, m, ?_, ⟨by decide, by decide, ?_, ?_, ?_⟩, ?_⟩, fun z => absurd ((nI_eq (b := 160) (by omega) (by omega)).mp z) (by omega)⟩
  · rw [mT_mN, if_pos rfl, k_cl (by omega)]
  · rw [if_pos lt]; exact nI_nlt (b := 0) (by omega) (by omega)
  · rw [if_pos lt, k_cl (by omega)]; exact (show 0 + m ≤ 160 by omega)
  · rw [if_pos lt, k_cl (by omega)]; exact (show 0 + m ≤ m by omega)
  rw [if_pos lt, k_cl (by omega), mL_mN]
  have hB : ∃ B, B = sR (mN (mN τ (6, 0)) (14, m)) (mL τ + 1) (va_cpy ((mN (mN τ (6, 0)) (14, m)).1 7) ((mN (mN τ (6, 0)) (14, m)).1 (mL τ + 1)) (Int32.toNatClampNeg 0) (Int32.toNatClampNeg 0) m) := ⟨_, rfl⟩
  obtain ⟨B, eB⟩ := hB
  have kB : Kg (fun _ _ => False) (fun _ _ => False) τ B := by rw [eB]; exact ((Kg.rf.mN _).mN _).sR _ (Or.inl (by omega))
  have LB : mL B = mL τ + 2 := by rw [eB, mL_sR, mL_mN, mL_mN]
  have T0 : mT B (mL τ) = some (6, 0) := by rw [eB, mT_sR, mT_mN, mL_mN, if_neg (by omega), mT_mN, if_pos rfl]
  have T1 : mT B (mL τ + 1) = some (14, m) := by rw [eB, mT_sR, mT_mN, mL_mN, if_pos rfl]
  have V1 : ∀ k, k < m → mI B (mL τ + 1) k = l.getD k 0 := fun k hk => by
    rw [eB, mI_sR, if_pos rfl]
    unfold va_cpy
    rw [if_pos ⟨show 0 ≤ k by omega, show k < 0 + m by omega⟩]
    show mI (mN (mN τ (6, 0)) (14, m)) 7 (0 + (k - 0)) = _
    rw [mI_mN, mL_mN, if_neg (by omega), mI_mN, if_neg (by omega), Nat.zero_add, Nat.sub_zero]
    exact h7 k hk
  rw [← eB]
  clear eB
  refine ⟨mL τ + 1, rfl, ?_⟩
  unfold w_X6_init
  have t1 : mT (mN B (14, 6)) (mL τ) = some (6, 0) := by rw [mT_mN, if_neg (by omega)]; exact T0
  have t2 : mT (mN (sP (mN B (14, 6)) (mL τ) 3 (some (mL B))) (14, 40)) (mL τ) = some (6, 0) := by rw [mT_mN, mL_sP, mL_mN, if_neg (by omega), mT_sP]; exact t1
  refine ⟨t1, t2, t2, t2, t2, ?_⟩
  have eL : mL (sP (mN B (14, 6)) (mL τ) 3 (some (mL B))) = mL τ + 3 := by rw [mL_sP, mL_mN, LB]
  rw [eL, LB]
  rw [LB] at t2 eL
  have le := Nat.le_refl (mL τ)
  refine hq _ (((((((kB.mN _).sP _ (Or.inl le)).mN _).sP _ (Or.inl le)).sP _ (Or.inl le)).sI _ (Or.inl le)).sI _ (Or.inl le)) ?_ ?_ ?_ ?_ ?_ ?_ ?_ ?_ ?_ ?_ (fun k hk => ?_)
  · simp [mL_sI, mL_sP, mL_mN, LB]
  · rw [mT_sI, mT_sI, mT_sP, mT_sP]; exact t2
  · simp [mP_sI, mP_sP]
  · rw [mP_sI, mP_sI, mP_sP, if_pos rfl, if_neg (by omega), mP_sP, if_pos rfl, if_neg (by omega), mP_mN, eL, if_neg (by omega), mP_sP, if_pos rfl, if_pos rfl]
  · rw [mP_sI, mP_sI, mP_sP, if_pos rfl, if_neg (by omega), mP_sP, if_pos rfl, if_pos rfl]
  · simp [mT_sI, mT_sP, mT_mN, mL_sP, mL_mN, LB]; exact T1
  · simp [mT_sI, mT_sP, mT_mN, mL_sP, mL_mN, LB]
  · simp [mT_sI, mT_sP, mT_mN, mL_sP, mL_mN, LB]
  · simp [mI_sI]
  · simp [mI_sI]
  · simp [mI_sI, mI_sP, mI_mN, mL_sP, mL_mN, LB]; exact V1 k hk
theorem rSeg.fx {σ τ : Mem} {G F : Nat → Nat → Prop} {st a b : Nat} {l : List Int32} (h : rSeg σ st a b l) (k : Kg G F σ τ) (hL : 68 ≤ mL σ) (hs : st < mL σ) (f1 : ∀ i, ¬ F st i) (f2 : ∀ q, q < l.length → ¬ F 43 (b + q)) : rSeg τ st a b l :=
  ⟨fun j hj => by rw [k.2.2.2 _ _ hs (f1 _), k.2.2.2 43 _ (by omega) (f2 j hj)]; exact h.1 j hj, h.2⟩
theorem rRu.fx {σ τ : Mem} {G F : Nat → Nat → Prop} {T t r st nm sk : Nat} {l0 l1 l2 : List Int32} (h : rRu σ t r st nm sk l0 l1 l2) (ht : t < T) (k : Kg G F σ τ) (hL : 68 ≤ mL σ) (f1 : ∀ i, ¬ F r i) (f2 : ∀ i, ¬ F st i) (f3 : ∀ i, i < 480 * T → ¬ F 43 i) (f4 : ∀ i, i < 3 * T → ¬ F 44 i) (g1 : ¬ G 4 t) (g2 : ∀ i, ¬ G r i) : rRu τ t r st nm sk l0 l1 l2 := by
  obtain ⟨a1, a2, a3, a4, a5, a6, a7, a8, a9, a10, a11, a12, a13, a14, a15, a16, a17, a18, a19, a20, a21, a22⟩ := h
  have hr := mT_lt a6
  have hs := mT_lt a10
  refine ⟨by rw [k.2.1 4 t (by omega) g1]; exact a1, a2, a3, a4, a5, by rw [k.2.2.1 _ hr]; exact a6, by rw [k.2.1 _ _ hr (g2 _)]; exact a7, by rw [k.2.1 _ _ hr (g2 _)]; exact a8, by rw [k.2.1 _ _ hr (g2 _)]; exact a9, by rw [k.2.2.1 _ hs]; exact a10, by rw [k.2.2.1 _ (mT_lt a11)]; exact a11, by rw [k.2.2.1 _ (mT_lt a12)]; exact a12, a13, a14, ?_, ?_, ?_, ?_, ?_, a20.fx k hL hs f2 (fun q hq => f3 _ (by omega)), a21.fx k hL hs f2 (fun q hq => f3 _ (by omega)), a22.fx k hL hs f2 (fun q hq => f3 _ (by omega))⟩
  · rw [k.2.2.2 _ _ hr (f1 _)]; exact a15
  · rw [k.2.2.2 _ _ hr (f1 _)]; exact a16
  · rw [k.2.2.2 44 _ (by omega) (f4 _ (by omega))]; exact a17
  · rw [k.2.2.2 44 _ (by omega) (f4 _ (by omega))]; exact a18
  · rw [k.2.2.2 44 _ (by omega) (f4 _ (by omega))]; exact a19
/-- what the call may change in the cells that were there -/
def FTx (T a k : Nat) : Prop := (a = 5) ∨ a = 7 ∨ (a = 0 ∧ k = 6) ∨ (a = 37 ∧ (k = 8 ∨ k = 9 ∨ (13 ≤ k ∧ k ≤ 25))) ∨ (a = 43 ∧ 480 * T ≤ k) ∨ a = 47 ∨ a = 48 ∨ (a = 44 ∧ 3 * T ≤ k)
def GTx (T a k : Nat) : Prop := a = 4 ∧ k = T
theorem txc_n {σ : Mem} {T : Nat} (hTx : rTx σ T) {a : Nat} (hc : txc σ T a) (i : Nat) : ¬ FTx T a i := by
  have := hc.dyn hTx
  unfold dyn at this
  unfold FTx
  omega
/-- the old texts stay -/
theorem rTx.fx {σ τ : Mem} {T : Nat} (h : rTx σ T) (k : Kg (GTx T) (FTx T) σ τ) (hL : 68 ≤ mL σ) : (∀ t, t < T → ∃ (r st nm sk : Nat) (l0 l1 l2 : List Int32), rRu σ t r st nm sk l0 l1 l2 ∧ rRu τ t r st nm sk l0 l1 l2) := fun t ht => by
  obtain ⟨r, st, nm, sk, l0, l1, l2, hr⟩ := h.2.2.2.2.1 t ht
  exact ⟨r, st, nm, sk, l0, l1, l2, hr, hr.fx ht k hL (txc_n h ⟨t, r, ht, hr.1, Or.inl rfl⟩) (txc_n h ⟨t, r, ht, hr.1, Or.inr hr.2.2.2.2.2.2.1⟩) (fun i hi => by unfold FTx; omega) (fun i hi => by unfold FTx; omega) (by unfold GTx; omega) (fun i => by have hd := hr.2.1; unfold dyn at hd; unfold GTx; omega)⟩
/-- a text's cells are old ones -/
theorem rRu.old {σ : Mem} {t r st nm sk : Nat} {l0 l1 l2 : List Int32} (h : rRu σ t r st nm sk l0 l1 l2) : r < mL σ ∧ ∀ k x, (k = 0 ∨ k = 3 ∨ k = 4) → mP σ r k = some x → x < mL σ := by
  obtain ⟨a1, a2, a3, a4, a5, a6, a7, a8, a9, a10, a11, a12, -⟩ := h
  refine ⟨mT_lt a6, fun k x hk e => ?_⟩
  rcases hk with rfl | rfl | rfl
  · rw [a7] at e; cases e; exact mT_lt a10
  · rw [a8] at e; cases e; exact mT_lt a11
  · rw [a9] at e; cases e; exact mT_lt a12
/-- all but the texts and the tape -/
theorem rest_fx {σ τ : Mem} {N L T T' : Nat} (hL : 68 ≤ mL σ) (hT : T ≤ T') (hTx : rTx σ T) (k : Kg (GTx T) (FTx T) σ τ) (hS : mS psA tsA σ) (hPl : rPl σ N) (hLa : rLa σ L) (hHi : rHi σ T) (hTb : rTb σ N) (hSh : rSh σ) (hMo : rMo σ) : mS psA tsA τ ∧ 68 ≤ mL τ ∧ rPl τ N ∧ rLa τ L ∧ rHi τ T' ∧ rTb τ N ∧ rSh τ ∧ rMo τ := by
  refine ⟨k.mS hS (fun e he q => (show ∀ e ∈ psA, e.1 ≠ 4 by decide) e he q.1), Nat.le_trans hL k.1, ?_, ?_, ?_, ?_, ?_, ?_⟩
  · exact hPl.fg k hL (by unfold FTx; omega) (by unfold FTx; omega) (fun i => by unfold FTx; omega) (fun i => by unfold FTx; omega) (fun i => by unfold FTx; omega) (fun i => by unfold FTx; omega)
  · exact hLa.fg k hL (by unfold FTx; omega) (by unfold FTx; omega) (fun a i ha _ => by unfold FTx; omega) (fun i => by unfold FTx; omega) (fun i => by unfold FTx; omega) (fun i _ => by unfold GTx; omega)
  · obtain ⟨⟨u, hu, g1, g2⟩, g3⟩ := hHi.fg k hL (by unfold FTx; omega) (by unfold FTx; omega) (by unfold FTx; omega) (by unfold FTx; omega)
    exact ⟨⟨u, by omega, g1, g2⟩, g3⟩
  · exact hTb.fg k hL (by unfold FTx; omega) (by unfold FTx; omega) (by unfold FTx; omega) (by unfold FTx; omega) (fun i => by unfold FTx; omega) (fun i => by unfold FTx; omega) (fun i => by unfold FTx; omega) (fun i => by unfold FTx; omega)
  · exact hSh.fg k hL (fun a i h1 h2 => by unfold FTx; omega) (fun i => by unfold FTx; omega) (fun i => by unfold FTx; omega) (fun i => by unfold FTx; omega)
  · exact hMo.fg k hL (fun i => by unfold FTx; omega) (fun i => by unfold FTx; omega) (fun i => by unfold FTx; omega)
theorem Kg.tr {G F : Nat → Nat → Prop} {σ τ υ : Mem} (h : Kg G F σ τ) (h2 : Kg G F τ υ) : Kg G F σ υ :=
  ⟨Nat.le_trans h.1 h2.1, fun a k ha g => (h2.2.1 a k (Nat.lt_of_lt_of_le ha h.1) g).trans (h.2.1 a k ha g), fun a ha => (h2.2.2.1 a (Nat.lt_of_lt_of_le ha h.1)).trans (h.2.2.1 a ha), fun a k ha f => (h2.2.2.2 a k (Nat.lt_of_lt_of_le ha h.1) f).trans (h.2.2.2 a k ha f)⟩
theorem Kg.mono {G F G' F' : Nat → Nat → Prop} {σ τ : Mem} (h : Kg G F σ τ) (hG : ∀ a k, G a k → G' a k) (hF : ∀ a k, F a k → F' a k) : Kg G' F' σ τ :=
  ⟨h.1, fun a k ha g => h.2.1 a k ha (fun z => g (hG a k z)), h.2.2.1, fun a k ha f => h.2.2.2 a k ha (fun z => f (hF a k z))⟩
theorem getD_l {l l' : List Int32} {k : Nat} (h : k < l.length) : (l ++ l').getD k 0 = l.getD k 0 := by
  rw [List.getD_eq_getElem?_getD, List.getD_eq_getElem?_getD, List.getElem?_append_left h]
theorem getD_r {l l' : List Int32} {k : Nat} : (l ++ l').getD (l.length + k) 0 = l'.getD k 0 := by
  rw [List.getD_eq_getElem?_getD, List.getD_eq_getElem?_getD, List.getElem?_append_right (by omega), Nat.add_sub_cancel_left]
theorem FCr_T {T : Nat} : ∀ a k, FCr a k → FTx T a k := fun a k h => by unfold FCr at h; unfold FTx; omega
theorem FMt_T {T : Nat} : ∀ a k, FMt T a k → FTx T a k := fun a k h => by unfold FMt at h; unfold FTx; omega
theorem tape_0 {τ : Mem} (h1 : mI τ 5 1 = 0) (h2 : mI τ 37 8 = 0) : rTa τ := ⟨0, by omega, h1, h2, fun i hi => absurd hi (by omega)⟩
/-- no two texts share a cell, still -/
theorem dis_fx {σ τ : Mem} {T : Nat} (h : rTx σ T) (k : Kg (GTx T) (FTx T) σ τ) (hL : 68 ≤ mL σ) : ∀ t u r r', t < T → u < T → t ≠ u → mP τ 4 t = some r → mP τ 4 u = some r' → r ≠ r' ∧ (∀ k k' x x', (k = 0 ∨ k = 3 ∨ k = 4) → (k' = 0 ∨ k' = 3 ∨ k' = 4) → mP τ r k = some x → mP τ r' k' = some x' → x ≠ x') := by
  intro t u r r' ht hu hn e1 e2
  rw [k.2.1 4 t (by omega) (by unfold GTx; omega)] at e1
  rw [k.2.1 4 u (by omega) (by unfold GTx; omega)] at e2
  obtain ⟨h1, h2, h3, h4, h5, h6⟩ := h
  obtain ⟨ra, st, nm, sk, l0, l1, l2, hr⟩ := h5 t ht
  obtain ⟨rb, st', nm', sk', l0', l1', l2', hr'⟩ := h5 u hu
  have ea : ra = r := Option.some.inj (hr.1.symm.trans e1)
  have eb : rb = r' := Option.some.inj (hr'.1.symm.trans e2)
  subst ea; subst eb
  have da := hr.2.1
  have db := hr'.2.1
  unfold dyn at da db
  refine ⟨(h6 t u ra rb ht hu hn e1 e2).1, fun q q' x x' b1 b2 b3 b4 => ?_⟩
  rw [k.2.1 _ _ hr.old.1 (by unfold GTx; omega)] at b3
  rw [k.2.1 _ _ hr'.old.1 (by unfold GTx; omega)] at b4
  exact (h6 t u ra rb ht hu hn e1 e2).2 q q' x x' b1 b2 b3 b4
set_option maxHeartbeats 2000000 in
theorem p_text (σ : Mem) (h : Rel σ) : w_X11_text σ (fun r1 s1 => w_X12_text s1 (fun r2 s2 => r1 = r2 ∧ Rel s2)) := by
  have h' := h
  obtain ⟨N, L, T, hS, hL, hPl, hLa, hTx, hHi, hTa, hTb, hIm, hSh, hMo⟩ := h.x
  have hTx' := hTx
  obtain ⟨t1, t6, e06, e379, hT5, hT6⟩ := hTx'
  unfold w_X11_text
  rw [e06]
  by_cases c6 : T < 6
  · refine ⟨fun _ => ?_, fun z => absurd (nI_lt (b := 6) c6 (by omega)) z⟩
    obtain ⟨S, hS160, e51, e378, htp⟩ := hTa
    have hC : tpC σ (fun i => (mI σ 6 i).toNatClampNeg) S := ⟨e51, hS160, fun i hi => by
      obtain ⟨-, b, hb, e⟩ := htp i hi
      dsimp only
      rw [e, k_cl (by omega)]; exact ⟨rfl, hb⟩⟩
    have hM : tpM σ (fun i => (mI σ 6 i).toNatClampNeg) S := ⟨e378, hS160, fun i hi => by
      obtain ⟨e0, b, hb, e⟩ := htp i hi
      dsimp only
      rw [e0, e, k_cl (by omega)]; exact ⟨rfl, hb⟩⟩
    have hm : moM σ := ⟨hMo.2.1, hMo.2.2⟩
    generalize (fun i => (mI σ 6 i).toNatClampNeg) = tp at hC hM
    have hT := tkS_ok (tp := tp) hS160
    refine rd_C hC (fun l0 l1 l2 tx hlen τ5 k5 h8 h7 => ?_) (fun j tx τ5 k5 e52 => ?_)
    · have n5 : mL τ5 = mL σ := k5.2.2.1
      refine mk_rule (by omega) hlen h8 h7 (fun D kD LD d1 d2 d3 d4 d5 d6 d7 d8 d9 d10 => ?_)
      rw [n5] at LD d1 d2 d3 d4 d5 d6 d7 d8 d9 d10
      have K5 : Kg (GTx T) (FTx T) σ τ5 := (k5.mono FCr_T).g
      have KD : Kg (GTx T) (FTx T) σ D := K5.tr (kD.mono (fun _ _ z => z.elim) (fun _ _ z => z.elim))
      have fD : ∀ a k, a < mL σ → ¬ FCr a k → mI D a k = mI σ a k := fun a k ha q => by rw [kD.2.2.2 a k (by omega) (fun z => z), k5.2.2.2 a k q]
      have eD06 : mI D 0 6 = nI T := by rw [fD _ _ (by omega) (by unfold FCr; omega)]; exact e06
      rw [n5]
      refine ⟨fun z => (by cases z), fun r hr => ?_⟩
      have er : mL σ = r := Option.some.inj hr
      rw [← er, eD06, k_cl (by omega), show nI T + 1 = nI (T + 1) from nI_add T 1, nI_pred]
      refine ⟨vp_in_nI c6 (by omega), d1, ?_⟩
      generalize hE : sI (sP (sI D 5 1 0) 4 T (some (mL σ))) 0 6 (nI (T + 1)) = E
      have KE0 : Kg (GTx T) (FTx T) D E := by
        rw [← hE]
        exact ((Kg.rf.sI _ (Or.inr (Or.inl rfl))).sP _ (Or.inr ⟨rfl, rfl⟩)).sI _ (Or.inr (Or.inr (Or.inr (Or.inl ⟨rfl, rfl⟩))))
      have fE : ∀ a k, a < mL σ → ¬ FCr a k → ¬ (a = 5 ∧ k = 1) → ¬ (a = 0 ∧ k = 6) → mI E a k = mI σ a k := fun a k ha q q1 q2 => by
        rw [← hE, mI_sI]
        by_cases z : a = 0
        · rw [if_pos z, if_neg (fun z2 => q2 ⟨z, z2⟩), mI_sP, mI_sI, if_neg (by omega)]; exact fD a k ha q
        · rw [if_neg z, mI_sP, mI_sI]
          by_cases z2 : a = 5
          · rw [if_pos z2, if_neg (fun z3 => q1 ⟨z2, z3⟩)]; exact fD a k ha q
          · rw [if_neg z2]; exact fD a k ha q
      have eE379 : mI E 37 9 = nI T := by rw [fE _ _ (by omega) (by unfold FCr; omega) (by omega) (by omega)]; exact e379
      have hM' : tpM E tp S := ⟨by rw [fE _ _ (by omega) (by unfold FCr; omega) (by omega) (by omega)]; exact hM.1, hM.2.1, fun i hi => by rw [fE _ _ (by omega) (by unfold FCr; omega) (by omega) (by omega)]; exact hM.2.2 i hi⟩
      have hm' : moM E := ⟨fun i hi => by rw [fE _ _ (by omega) (by unfold FCr; omega) (by omega) (by omega)]; exact hm.1 i hi, fun i hi => by rw [fE _ _ (by omega) (by unfold FCr; omega) (by omega) (by omega)]; exact hm.2 i hi⟩
      unfold w_X12_text
      rw [eE379]
      refine ⟨fun _ => ra_M hS160 hM' hm' c6 (Or.inl ⟨l0, l1, l2, tx, fun τ' k' s0 s1 s2 => ⟨fun _ => ?_, fun z => absurd rfl z⟩⟩), fun z => absurd ((nI_is (n := 6) (by omega) (by omega)).mp z) (by omega)⟩
      have e9 : mI τ' 37 9 = nI T := by rw [k'.2.2.2 _ _ (by unfold FMt; omega)]; exact eE379
      rw [e9, show nI T + 1 = nI (T + 1) from nI_add T 1, nI_pred]
      refine ⟨rfl, ?_⟩
      generalize hZ : sI (sI τ' 37 8 0) 37 9 (nI (T + 1)) = Z
      have KEZ : Kg (GTx T) (FTx T) E Z := by
        rw [← hZ]
        exact ((k'.mono FMt_T).g.sI _ (Or.inr (Or.inr (Or.inr (Or.inr (Or.inl ⟨rfl, Or.inl rfl⟩)))))).sI _ (Or.inr (Or.inr (Or.inr (Or.inr (Or.inl ⟨rfl, Or.inr (Or.inl rfl)⟩)))))
      have KDZ : Kg (GTx T) (FTx T) D Z := KE0.tr KEZ
      have KZ : Kg (GTx T) (FTx T) σ Z := KD.tr KDZ
      have nFn : ∀ a k, mL σ ≤ a → ¬ FTx T a k := fun a k ha => by unfold FTx; omega
      have nGn : ∀ a k, mL σ ≤ a → ¬ GTx T a k := fun a k ha => by unfold GTx; omega
      have zT : ∀ a, a < mL σ + 4 → mT Z a = mT D a := fun a ha => KDZ.2.2.1 a (by omega)
      have zP : ∀ a k, mL σ ≤ a → a < mL σ + 4 → mP Z a k = mP D a k := fun a k ha hb => KDZ.2.1 a k (by omega) (nGn a k ha)
      have zI : ∀ a k, mL σ ≤ a → a < mL σ + 4 → mI Z a k = mI D a k := fun a k ha hb => KDZ.2.2.2 a k (by omega) (nFn a k ha)
      have z37 : ∀ a k, ¬ a = 37 → mI Z a k = mI τ' a k := fun a k ha => by rw [← hZ, mI_sI_n _ _ ha, mI_sI_n _ _ ha]
      have z4 : mP Z 4 T = some (mL σ) := by
        rw [← hZ, mP_sI, mP_sI, k'.1, ← hE, mP_sI, mP_sP, if_pos rfl, if_pos rfl]
      obtain ⟨j0, j1, j2, q0, q1, q2, q3⟩ := tx
      have newR : rRu Z T (mL σ) (mL σ + 1) (mL σ + 2) (mL σ + 3) l0 l1 l2 := by
        refine ⟨z4, by unfold dyn; omega, by unfold dyn; omega, by unfold dyn; omega, by unfold dyn; omega, by rw [zT _ (by omega)]; exact d1, by rw [zP _ _ (by omega) (by omega)]; exact d2, by rw [zP _ _ (by omega) (by omega)]; exact d3, by rw [zP _ _ (by omega) (by omega)]; exact d4, by rw [zT _ (by omega)]; exact d5, by rw [zT _ (by omega)]; exact d6, by rw [zT _ (by omega)]; exact d7, ⟨by omega, by omega, by omega⟩, by omega, by rw [zI _ _ (by omega) (by omega)]; exact d8, by rw [zI _ _ (by omega) (by omega)]; exact d9, by rw [z37 _ _ (by omega)]; exact s0.1, by rw [z37 _ _ (by omega)]; exact s1.1, by rw [z37 _ _ (by omega)]; exact s2.1, ⟨fun k hk => ⟨?_, ?_⟩, ptO_seg hT q0⟩, ⟨fun k hk => ⟨?_, ?_⟩, ptO_seg hT q1⟩, ⟨fun k hk => ⟨?_, ?_⟩, ptO_seg hT q2⟩⟩
        · rw [zI _ _ (by omega) (by omega), Nat.zero_add, d10 k (by omega), getD_l (by rw [List.length_append]; omega), getD_l hk]
        · rw [z37 _ _ (by omega)]; exact s0.2 k hk
        · rw [zI _ _ (by omega) (by omega), d10 _ (by omega), getD_l (by rw [List.length_append]; omega), getD_r]
        · rw [z37 _ _ (by omega)]; exact s1.2 k hk
        · rw [zI _ _ (by omega) (by omega), d10 _ (by omega), ← List.length_append, getD_r]
        · rw [z37 _ _ (by omega)]; exact s2.2 k hk
      obtain ⟨y1, y2, y3, y4, y5, y6, y7, y8⟩ := rest_fx (T' := T + 1) hL (by omega) hTx KZ hS hPl hLa hHi hTb hSh hMo
      have old := hTx.fx KZ hL
      have newc : ∀ q x, (q = 0 ∨ q = 3 ∨ q = 4) → mP Z (mL σ) q = some x → mL σ ≤ x := fun q x hq e => by
        rcases hq with rfl | rfl | rfl
        · rw [newR.2.2.2.2.2.2.1] at e; cases e; omega
        · rw [newR.2.2.2.2.2.2.2.1] at e; cases e; omega
        · rw [newR.2.2.2.2.2.2.2.2.1] at e; cases e; omega
      have oldc : ∀ t r, t < T → mP Z 4 t = some r → r < mL σ ∧ 33 ≤ r ∧ ∀ q x, (q = 0 ∨ q = 3 ∨ q = 4) → mP Z r q = some x → x < mL σ := fun t r ht e => by
        obtain ⟨ra, st, nm, sk, a0, a1, a2, hr, hr'⟩ := old t ht
        have ea : ra = r := Option.some.inj (hr'.1.symm.trans e)
        subst ea
        have da := hr.2.1
        unfold dyn at da
        refine ⟨hr.old.1, by omega, fun q x hq e2 => hr.old.2 q x hq ?_⟩
        rw [KZ.2.1 _ _ hr.old.1 (by unfold GTx; omega)] at e2
        exact e2
      refine ⟨y1, y2, N, L, T + 1, y3, y4, ⟨by omega, by omega, ?_, ?_, fun t ht => ?_, fun t u r r' ht hu hn g1 g2 => ?_⟩, y5, tape_0 ?_ ?_, y6, ?_, y7, y8⟩
      · rw [z37 _ _ (by omega), k'.2.2.2 _ _ (by unfold FMt; omega), ← hE, mI_sI_s]
      · rw [← hZ, mI_sI_s]
      · by_cases c : t = T
        · subst c; exact ⟨_, _, _, _, l0, l1, l2, newR⟩
        · obtain ⟨ra, st, nm, sk, a0, a1, a2, -, hr'⟩ := old t (by omega)
          exact ⟨ra, st, nm, sk, a0, a1, a2, hr'⟩
      · by_cases ct : t = T
        · subst ct
          have er1 : mL σ = r := Option.some.inj (z4.symm.trans g1)
          subst er1
          obtain ⟨o1, o2, o3⟩ := oldc u r' (by omega) g2
          refine ⟨by omega, fun q q' x x' b1 b2 b3 b4 => ?_⟩
          have := newc q x b1 b3
          have := o3 q' x' b2 b4
          omega
        · by_cases cu : u = T
          · subst cu
            have er1 : mL σ = r' := Option.some.inj (z4.symm.trans g2)
            subst er1
            obtain ⟨o1, o2, o3⟩ := oldc t r (by omega) g1
            refine ⟨by omega, fun q q' x x' b1 b2 b3 b4 => ?_⟩
            have := newc q' x' b2 b4
            have := o3 q x b1 b3
            omega
          · exact dis_fx hTx KZ hL t u r r' (by omega) (by omega) hn g1 g2
      · rw [z37 _ _ (by omega), k'.2.2.2 _ _ (by unfold FMt; omega), ← hE, mI_sI_n _ _ (by omega), mI_sP, mI_sI_s]
      · rw [← hZ, mI_sI_k _ _ (by omega), mI_sI_s]
      · have im := hIm.fg KZ hL hTx ⟨by unfold FTx; omega, by unfold FTx; omega, by unfold FTx; omega, by unfold FTx; omega, by unfold FTx; omega⟩ (fun a i hc => by have := hc.dyn hIm; unfold FTx; omega) (fun i => by unfold FTx; omega) (fun i => by unfold FTx; omega) (by unfold GTx; omega) (fun a i ha => by unfold GTx; omega) (fun t ht => by unfold GTx; omega)
        rcases im with im | ⟨i1, t, hh, c0, c1, c3, c4, g1, g2, g3, g4, g5, g6, g7, g8, g9, g10, g11, g12, g13, g14, g15, g16, g17, g18, g19, g20, l, M, hi, u, ht, p1, p2, p3⟩
        · exact Or.inl im
        · have lts : t < mL σ ∧ hh < mL σ ∧ c0 < mL σ ∧ c1 < mL σ ∧ c3 < mL σ ∧ c4 < mL σ := by
            rcases hIm with ⟨q, -⟩ | ⟨-, t', hh', c0', c1', c3', c4', q1, q2, q3, q4, q5, q6, q7, q8, q9, q10, q11, q12, q13, q14, q15, q16, q17, q18, -⟩
            · rw [KZ.2.1 0 9 (by omega) (by unfold GTx; omega), q] at g1; cases g1
            · have lt := mT_lt q8
              have lh := mT_lt q10
              rw [KZ.2.1 0 9 (by omega) (by unfold GTx; omega), q1] at g1; cases g1
              rw [KZ.2.1 _ _ lt (by unfold GTx; omega), q9] at g9; cases g9
              rw [KZ.2.1 _ _ lh (by unfold GTx; omega), q11] at g11; cases g11
              rw [KZ.2.1 _ _ lh (by unfold GTx; omega), q12] at g12; cases g12
              rw [KZ.2.1 _ _ lh (by unfold GTx; omega), q13] at g13; cases g13
              rw [KZ.2.1 _ _ lh (by unfold GTx; omega), q14] at g14; cases g14
              exact ⟨lt, lh, mT_lt q15, mT_lt q16, mT_lt q17, mT_lt q18⟩
          refine Or.inr ⟨i1, t, hh, c0, c1, c3, c4, g1, g2, g3, g4, g5, g6, g7, g8, g9, g10, g11, g12, g13, g14, g15, g16, g17, g18, g19, fun w r x q hw e1 => ?_, l, M, hi, u, ht, p1, by omega, p3⟩
          by_cases cw2 : w = T
          · subst cw2
            have er1 : mL σ = r := Option.some.inj (z4.symm.trans e1)
            subst er1
            refine ⟨by omega, by omega, fun hq e2 => ?_⟩
            have := newc q x hq e2
            omega
          · exact g20 w r x q (by omega) e1
    · have n5 : mL τ5 = mL σ := k5.2.2.1
      refine ⟨fun _ => ?_, fun r hr => (by cases hr)⟩
      rw [e52]
      have fE : ∀ a k, ¬ FCr a k → ¬ (a = 5 ∧ k = 1) → mI (sI τ5 5 1 0) a k = mI σ a k := fun a k q q1 => by
        rw [mI_sI]
        by_cases z2 : a = 5
        · rw [if_pos z2, if_neg (fun z3 => q1 ⟨z2, z3⟩)]; exact k5.2.2.2 a k q
        · rw [if_neg z2]; exact k5.2.2.2 a k q
      have eE379 : mI (sI τ5 5 1 0) 37 9 = nI T := by rw [fE _ _ (by unfold FCr; omega) (by omega)]; exact e379
      have hM' : tpM (sI τ5 5 1 0) tp S := ⟨by rw [fE _ _ (by unfold FCr; omega) (by omega)]; exact hM.1, hM.2.1, fun i hi => by rw [fE _ _ (by unfold FCr; omega) (by omega)]; exact hM.2.2 i hi⟩
      have hm' : moM (sI τ5 5 1 0) := ⟨fun i hi => by rw [fE _ _ (by unfold FCr; omega) (by omega)]; exact hm.1 i hi, fun i hi => by rw [fE _ _ (by unfold FCr; omega) (by omega)]; exact hm.2 i hi⟩
      have hp := (strm_p tp S j).1
      show w_X12_text (sI τ5 5 1 0) _
      unfold w_X12_text
      rw [eE379]
      refine ⟨fun _ => ra_M hS160 hM' hm' c6 (Or.inr ⟨j, tx, fun τ' k' => ⟨fun z => absurd z (of_eq_false (k_eqm (by omega))), fun _ => ⟨rfl, ?_⟩⟩⟩), fun z => absurd ((nI_is (n := 6) (by omega) (by omega)).mp z) (by omega)⟩
      generalize hZ : sI τ' 37 8 0 = Z
      have KpZ : Kp (FTx T) σ Z := by
        rw [← hZ]
        exact (((k5.mono FCr_T).sI _ (Or.inl rfl)).tr (k'.mono FMt_T)).sI _ (Or.inr (Or.inr (Or.inr (Or.inl ⟨rfl, Or.inl rfl⟩))))
      have KZ : Kg (GTx T) (FTx T) σ Z := KpZ.g
      obtain ⟨y1, y2, y3, y4, y5, y6, y7, y8⟩ := rest_fx (T' := T) hL (by omega) hTx KZ hS hPl hLa hHi hTb hSh hMo
      have old := hTx.fx KZ hL
      refine ⟨y1, y2, N, L, T, y3, y4, ⟨t1, t6, ?_, ?_, fun t ht => ?_, dis_fx hTx KZ hL⟩, y5, tape_0 ?_ ?_, y6, ?_, y7, y8⟩
      · rw [← hZ, mI_sI_n _ _ (by omega), k'.2.2.2 _ _ (by unfold FMt; omega), fE _ _ (by unfold FCr; omega) (by omega)]; exact e06
      · rw [← hZ, mI_sI_k _ _ (by omega), k'.2.2.2 _ _ (by unfold FMt; omega)]; exact eE379
      · obtain ⟨ra, st, nm, sk, a0, a1, a2, -, hr'⟩ := old t ht
        exact ⟨ra, st, nm, sk, a0, a1, a2, hr'⟩
      · rw [← hZ, mI_sI_n _ _ (by omega), k'.2.2.2 _ _ (by unfold FMt; omega), mI_sI_s]
      · rw [← hZ, mI_sI_s]
      · exact hIm.fg KZ hL hTx ⟨by unfold FTx; omega, by unfold FTx; omega, by unfold FTx; omega, by unfold FTx; omega, by unfold FTx; omega⟩ (fun a i hc => by have := hc.dyn hIm; unfold FTx; omega) (fun i => by unfold FTx; omega) (fun i => by unfold FTx; omega) (by unfold GTx; omega) (fun a i ha => by unfold GTx; omega) (fun t ht => by unfold GTx; omega)
  · have eT : T = 6 := by omega
    subst eT
    refine ⟨fun z => absurd z (nI_nlt (b := 6) (by omega) (by omega)), fun _ => ?_⟩
    show w_X12_text σ _
    unfold w_X12_text
    rw [e379]
    exact ⟨fun z => absurd rfl z, fun _ => ⟨rfl, h'⟩⟩
