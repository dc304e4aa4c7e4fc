/-! STAGE 2: who is a layer, who a plate; all laid in the order of now -/
theorem env_ex {σ : Mem} {N L T : Nat} (h : RelX σ N L T) : ∃ E : EN, Env σ T N E.1 E.2.1 E.2.2.1 E.2.2.2 ∧ (∀ i, E.1 i = mI σ 1 i) ∧ ∀ i, E.2.1 i = mI σ 2 i := by
  obtain ⟨hi, V, hE⟩ := env_of h
  exact ⟨(fun i => mI σ 1 i, fun i => mI σ 2 i, hi, V), hE, fun i => rfl, fun i => rfl⟩
section NowA
variable {σ : Mem} {N L T : Nat}
theorem lay_cases (h : RelX σ N L T) (x : Int32) : ((∀ (Q : Option Nat → Mem → Prop) (τ : Mem), Kp (SC σ T) σ τ → Q none τ → w_X11_layerAt τ x Q) ∧ (∀ (Q : Int32 → Mem → Prop) (τ : Mem), Kp (SC σ T) σ τ → Q 0 τ → w_X12_isLayer τ x Q)) ∨ ∃ l a kd nu : Nat, l < L ∧ l < 5 ∧ x = nI l ∧ kd ≤ 5 ∧ (∀ τ, Kp (SC σ T) σ τ → mT τ a = some (kcl kd, 0) ∧ mI τ a 1 = nI nu) ∧ (∀ τ, Kp (SC σ T) σ τ → mI τ 40 l = nI kd ∧ mI τ 41 l = nI nu) ∧ (∀ (Q : Option Nat → Mem → Prop) (τ : Mem), Kp (SC σ T) σ τ → Q (some a) τ → w_X11_layerAt τ x Q) ∧ (∀ (Q : Int32 → Mem → Prop) (τ : Mem), Kp (SC σ T) σ τ → Q 1 τ → w_X12_isLayer τ x Q) ∧ (∀ τ, Kp (SC σ T) σ τ → mI τ a 0 = nI kd) ∧ kd = (mI σ 40 l).toNatClampNeg ∧ nu = (mI σ 41 l).toNatClampNeg := by
  obtain ⟨hS, hL, hPl, ⟨hL5, g1, g2, g3⟩, hTx, -⟩ := h
  have e04 : ∀ τ, Kp (SC σ T) σ τ → mI τ 0 4 = nI L := fun τ hk => by rw [hk.2.2.2 _ _ (fun q => by have := SC.st hTx q; omega)]; exact g1
  have e3 : ∀ τ, Kp (SC σ T) σ τ → mI τ 37 3 = nI L := fun τ hk => by rw [hk.2.2.2 _ _ (fun q => by have := SC.st hTx q; omega)]; exact g2
  by_cases c : 0 ≤ x ∧ x < nI L
  · obtain ⟨l, hl, rfl⟩ := lt_nI (by omega) c
    obtain ⟨a, kd, nu, a1, a2, a3, a4, a5, a6, a7, a8, a9⟩ := g3 l hl
    have hkd : ∀ i, ¬ SC σ T a i := fun i q => by
      unfold SC SC0 tbl at q
      rcases q with (q | q | q | q | q | q | q) | q
      · omega
      · omega
      · omega
      · omega
      · omega
      · omega
      · obtain ⟨n, hn⟩ := q.kind hTx
        rw [hn] at a5
        have := (Prod.mk.inj (Option.some.inj a5)).1
        unfold kcl at this
        split at this <;> omega
      · omega
    refine Or.inr ⟨l, a, kd, nu, hl, by omega, rfl, a3, fun τ hk => ⟨by rw [hk.2.1]; exact a5, by rw [hk.2.2.2 _ _ (hkd 1)]; exact a7⟩, fun τ hk => ⟨?_, ?_⟩, fun Q τ hk hq => ?_, fun Q τ hk hq => ?_, fun τ hk => by rw [hk.2.2.2 _ _ (hkd 0)]; exact a6, by rw [a8, k_cl (by omega)], by rw [a9, k_cl (by omega)]⟩
    · rw [hk.2.2.2 _ _ (fun q => by have := SC.st hTx q; omega)]; exact a8
    · rw [hk.2.2.2 _ _ (fun q => by have := SC.st hTx q; omega)]; exact a9
    · unfold w_X11_layerAt
      rw [e04 τ hk]
      refine ⟨fun z => absurd c.1 (Int32.not_le.mpr z), fun _ => ⟨fun z => absurd c.2 (Int32.not_lt.mpr z), fun _ => ⟨vp_in_nI (by omega) (by omega), fun o ho => ?_⟩⟩⟩
      rw [k_cl (by omega), hk.1, a1] at ho
      subst ho
      exact hq
    · unfold w_X12_isLayer
      rw [q_isIn, e3 τ hk, if_pos ((le_m1 (by omega)).mpr c)]
      exact ⟨bz1, hq⟩
  · refine Or.inl ⟨fun Q τ hk hq => ?_, fun Q τ hk hq => ?_⟩
    · unfold w_X11_layerAt
      rw [e04 τ hk]
      exact ⟨fun _ => hq, fun z => ⟨fun _ => hq, fun z2 => absurd ⟨Int32.not_lt.mp z, Int32.not_le.mp z2⟩ c⟩⟩
    · unfold w_X12_isLayer
      rw [q_isIn, e3 τ hk, if_neg (fun z => c ((le_m1 (by omega)).mp z))]
      exact ⟨bz0, hq⟩
theorem plate_cases (h : RelX σ N L T) (x : Int32) : ((∀ (Q : Int32 → Mem → Prop) (τ : Mem), Kp (SC σ T) σ τ → Q 0 τ → w_X11_isPlate τ x Q) ∧ (∀ (Q : Int32 → Mem → Prop) (τ : Mem), Kp (SC σ T) σ τ → Q 0 τ → w_X12_isPlate τ x Q)) ∨ ∃ p : Nat, p < N ∧ x = nI p ∧ (∀ (Q : Int32 → Mem → Prop) (τ : Mem), Kp (SC σ T) σ τ → Q 1 τ → w_X11_isPlate τ x Q) ∧ (∀ (Q : Int32 → Mem → Prop) (τ : Mem), Kp (SC σ T) σ τ → Q 1 τ → w_X12_isPlate τ x Q) := by
  obtain ⟨hS, hL, ⟨hN, g1, g2, g3⟩, hLa, hTx, -⟩ := h
  have e02 : ∀ τ, Kp (SC σ T) σ τ → mI τ 0 2 = nI N := fun τ hk => by rw [hk.2.2.2 _ _ (fun q => by have := SC.st hTx q; omega)]; exact g1
  have e3 : ∀ τ, Kp (SC σ T) σ τ → mI τ 37 0 = nI N := fun τ hk => by rw [hk.2.2.2 _ _ (fun q => by have := SC.st hTx q; omega)]; exact g2
  by_cases c : 0 ≤ x ∧ x < nI N
  · obtain ⟨p, hp, rfl⟩ := lt_nI (by omega) c
    refine Or.inr ⟨p, hp, rfl, fun Q τ hk hq => ?_, fun Q τ hk hq => ?_⟩
    · rw [q_isPlateC, e02 τ hk, if_pos c]; exact hq
    · unfold w_X12_isPlate
      rw [q_isIn, e3 τ hk, if_pos ((le_m1 (by omega)).mpr c)]
      exact ⟨bz1, hq⟩
  · refine Or.inl ⟨fun Q τ hk hq => ?_, fun Q τ hk hq => ?_⟩
    · rw [q_isPlateC, e02 τ hk, if_neg c]; exact hq
    · unfold w_X12_isPlate
      rw [q_isIn, e3 τ hk, if_neg (fun z => c ((le_m1 (by omega)).mp z))]
      exact ⟨bz0, hq⟩
theorem order_go {Q : Mem → Prop} (hN : N ≤ 8) : ∀ (d i : Nat) (τ : Mem), i + d = N → mI τ 0 2 = nI N → (∀ j, j < i → mI τ 20 j = nI j) → (∀ τ', Kp (fun a _ => a = 20) τ τ' → (∀ j, j < N → mI τ' 20 j = nI j) → Q τ') → w_X11_orderOfNow_2 Q (d + 1) (nI i) τ := by
  intro d
  induction d with
  | zero =>
    intro i τ hd h02 h20 hq
    have e : i = N := by omega
    subst e
    rw [w_X11_orderOfNow_2, h02]
    exact ⟨fun _ => hq τ Kp.rf h20, fun c => absurd (Int32.le_refl _) c⟩
  | succ d ih =>
    intro i τ hd h02 h20 hq
    have nle : ¬ nI N ≤ nI i := fun z => of_eq_false (k_nle (a := N) (b := i) (by omega) (by omega)) z
    have k0 : Kp (fun a _ => a = 20) τ (sI τ 20 i (nI i)) := (by repeat (first | exact Kp.rf | refine Kp.sI ?_ _ (by first | exact rfl | omega | (dsimp only; omega))))
    rw [w_X11_orderOfNow_2, h02, k_cl (by omega), show nI i + 1 = nI (i + 1) from nI_add i 1]
    refine ⟨fun c => absurd c nle, fun _ => ⟨vp_in_nI (by omega) (by omega), ih (i + 1) _ (by omega) (by rw [mI_sI_n _ _ (by omega)]; exact h02) (fun j hj => ?_) (fun τ' k1 h1 => hq τ' (k0.tr k1) h1)⟩⟩
    by_cases c : j = i
    · rw [c, mI_sI_s]
    · rw [mI_sI_k _ _ c]; exact h20 j (by omega)
theorem order_ok {Q : Mem → Prop} {τ : Mem} (hN : N ≤ 8) (h02 : mI τ 0 2 = nI N) (hq : ∀ τ', Kp (fun a _ => a = 20) τ τ' → (∀ j, j < N → mI τ' 20 j = nI j) → Q τ') : w_X11_orderOfNow τ Q := ⟨N + 1, order_go hN N 0 τ (by omega) h02 (fun j hj => by omega) hq⟩
/-- the class's scribbling where all are laid in the order of now -/
def FC (σ : Mem) (T a k : Nat) : Prop := txs σ T a ∨ (a = 15 ∧ k = 2) ∨ (16 ≤ a ∧ a ≤ 20)
/-- the model's -/
def FM (a k : Nat) : Prop := a = 49 ∨ a = 50 ∨ (a = 37 ∧ (k = 28 ∨ k = 34)) ∨ a = 51 ∨ a = 52 ∨ a = 54 ∨ a = 55
theorem FC.sc {a k : Nat} (h : FC σ T a k) : SC0 σ T a k := by
  unfold SC0
  rcases h with h | h | h
  · exact Or.inr (Or.inr (Or.inr (Or.inr (Or.inr (Or.inr h)))))
  · exact Or.inr (Or.inl h)
  · exact Or.inr (Or.inr (Or.inl (by omega)))
theorem FM.sc {a k : Nat} (h : FM a k) : SC0 σ T a k := by
  unfold SC0
  unfold FM at h
  omega
theorem Kp.s0 {τ : Mem} (h : Kp (SC0 σ T) σ τ) : Kp (SC σ T) σ τ := h.mono (fun a k q => Or.inl q)
theorem C_now {τ : Mem} {E : EN} {Q : Int32 → Mem → Prop} (hE : Env σ T N E.1 E.2.1 E.2.2.1 E.2.2.2) {a kd nu : Nat} (hkd : kd ≤ 5) (ht : ∀ τ, Kp (SC σ T) σ τ → mT τ a = some (kcl kd, 0) ∧ mI τ a 1 = nI nu) (hk : Kp (SC σ T) σ τ) (hq : ∀ τ', Kp (FC σ T) τ τ' → hoA 15 2 17 16 τ' (laA E kd nu (fun j => j) N).1 → (∀ j, j < N → mI τ' 18 j = nI (laW E kd nu (fun j => j) j) ∧ mI τ' 19 j = laB E kd nu (fun j => j) j) → Q (nI (laA E kd nu (fun j => j) N).2) τ') : w_X11_orderOfNow τ (fun s => w_X11_layInOrder s a (mI s 0 2) Q) := by
  have hN := hE.1
  refine order_ok hN (hE.2.2.2.2.2.1 τ hk).1 (fun τ1 k1 h20 => ?_)
  have hk1 : Kp (SC σ T) σ τ1 := hk.tr (k1.mono (fun a k q => Or.inl (FC.sc (Or.inr (Or.inr (by omega))))))
  rw [(hE.2.2.2.2.2.1 τ1 hk1).1]
  refine laC_ok (o := fun j => j) hE hN (fun j hj => hj) hkd ht hk1 h20 (fun τ2 k2 hH f => ?_)
  refine hq τ2 ((k1.mono (fun a k q => Or.inr (Or.inr (by omega)))).tr (k2.mono (fun a k q => ?_))) hH (fun j hj => f j hj (fun j' h1 h2 => by omega))
  rcases q with q | q | q
  · exact Or.inl q
  · exact Or.inr (Or.inl q)
  · exact Or.inr (Or.inr (by omega))
theorem M_now {τ : Mem} {E : EN} {Q : Mem → Prop} (hE : Env σ T N E.1 E.2.1 E.2.2.1 E.2.2.2) {l kd nu : Nat} (hkd : kd ≤ 5) (hl : l < 5) (ht : ∀ τ, Kp (SC σ T) σ τ → mI τ 40 l = nI kd ∧ mI τ 41 l = nI nu) (hk : Kp (SC σ T) σ τ) (h53 : ∀ j, j < 8 → mI τ 53 j = nI j) (hq : ∀ τ', Kp FM τ τ' → hoA 37 28 51 52 τ' (laA E kd nu (fun j => j) N).1 → mI τ' 37 34 = nI (laA E kd nu (fun j => j) N).2 → (∀ j, j < N → mI τ' 54 j = nI (laW E kd nu (fun j => j) j) ∧ mI τ' 55 j = laB E kd nu (fun j => j) j) → Q τ') : w_X12_layAll τ (nI l) Q := by
  have hN := hE.1
  exact laM_ok (o := fun j => j) hE (fun j hj => hj) hkd hl ht hk (fun j hj => h53 j (by omega)) (fun τ' k hH h34 f => hq τ' k hH h34 (fun j hj => f j hj (fun j' h1 h2 => by omega)))
theorem FC.n53 {E : EN} (hE : Env σ T N E.1 E.2.1 E.2.2.1 E.2.2.2) {τ τ' : Mem} (k : Kp (FC σ T) τ τ') (j : Nat) : mI τ' 53 j = mI τ 53 j := by
  refine k.2.2.2 _ _ (fun q => ?_)
  rcases q with q | q | q
  · have := hE.2.2.2.2.1 _ q; omega
  · omega
  · omega
end NowA
theorem in01 {x : Int32} {P A B : Prop} (h1 : 0 ≤ x ∧ x ≤ 1 → A) (h2 : ¬ (0 ≤ x ∧ x ≤ 1) → B) : (x < 0 → B) ∧ (¬ x < 0 → ((x ≤ 1 → A) ∧ (¬ x ≤ 1 → B))) :=
  ⟨fun c => h2 (fun z => absurd z.1 (Int32.not_le.mpr c)), fun c => ⟨fun c2 => h1 ⟨Int32.not_lt.mp c, c2⟩, fun c2 => h2 (fun z => c2 z.2)⟩⟩
set_option maxHeartbeats 1000000 in
theorem p_by (σ : Mem) (x0 x1 : Int32) (h : Rel σ) : w_X11_by σ x0 x1 (fun r1 s1 => w_X12_by s1 x0 x1 (fun r2 s2 => r1 = r2 ∧ Rel s2)) := by
  obtain ⟨N, L, T, hx⟩ := h.x
  obtain ⟨E, hE, -, -⟩ := env_ex hx
  have h53 : ∀ j, j < 8 → mI σ 53 j = nI j := hx.2.2.2.2.2.2.2.2.2.2.1
  unfold w_X11_by w_X12_by
  rcases lay_cases hx x0 with ⟨c1, c2⟩ | ⟨l, a, kd, nu, hl, hl5, rfl, hkd, ht, htM, d1, d2, -⟩
  · exact c1 _ σ Kp.rf ⟨fun _ => c2 _ σ Kp.rf ⟨fun _ => ⟨rfl, h⟩, fun c => absurd rfl c⟩, fun r hr => (by cases hr)⟩
  · refine d1 _ σ Kp.rf ⟨fun c => (by cases c), fun r hr => ?_⟩
    cases hr
    refine in01 (P := True) (fun c => ?_) (fun c => ?_)
    · refine C_now hE hkd ht Kp.rf (fun τ1 k1 hH1 f1 => ?_)
      have hk1 : Kp (SC0 σ T) σ τ1 := k1.mono (fun a k q => q.sc)
      refine ⟨fun c3 => ?_, fun c3 => ?_⟩
      · refine d2 _ τ1 hk1.s0 ⟨fun c => absurd c (by decide), fun _ => ?_⟩
        rw [q_isIn, if_pos c]
        refine ⟨fun _ => M_now hE hkd hl5 htM hk1.s0 (fun j hj => by rw [FC.n53 hE k1]; exact h53 j hj) (fun τ2 k2 hH2 h34 f2 => ?_), fun c => absurd c (by decide)⟩
        have hR : Rel τ2 := (hx.sc (hk1.tr (k2.mono (fun a k q => FM.sc q))) (fun j hj => by
          rw [k2.2.2.2 _ _ (by unfold FM; omega), FC.n53 hE k1]; exact h53 j hj)).rel
        exact ⟨fun _ => ⟨h34.symm, hR⟩, fun c => absurd c c3⟩
      · refine d2 _ τ1 hk1.s0 ⟨fun c => absurd c (by decide), fun _ => ?_⟩
        rw [q_isIn, if_pos c]
        refine ⟨fun _ => M_now hE hkd hl5 htM hk1.s0 (fun j hj => by rw [FC.n53 hE k1]; exact h53 j hj) (fun τ2 k2 hH2 h34 f2 => ?_), fun c => absurd c (by decide)⟩
        have hR : Rel τ2 := (hx.sc (hk1.tr (k2.mono (fun a k q => FM.sc q))) (fun j hj => by
          rw [k2.2.2.2 _ _ (by unfold FM; omega), FC.n53 hE k1]; exact h53 j hj)).rel
        exact ⟨fun c => absurd c3 c, fun _ => ⟨by rw [hH1.1, hH2.1], hR⟩⟩
    · refine d2 _ σ Kp.rf ⟨fun c => absurd c (by decide), fun _ => ?_⟩
      rw [q_isIn, if_neg c]
      exact ⟨fun c => absurd rfl c, fun _ => ⟨rfl, h⟩⟩
set_option maxHeartbeats 1000000 in
theorem p_heapOf (σ : Mem) (x0 x1 : Int32) (h : Rel σ) : w_X11_heapOf σ x0 x1 (fun r1 s1 => w_X12_heapOf s1 x0 x1 (fun r2 s2 => r1 = r2 ∧ Rel s2)) := by
  obtain ⟨N, L, T, hx⟩ := h.x
  obtain ⟨E, hE, -, -⟩ := env_ex hx
  have hN := hE.1
  have h53 : ∀ j, j < 8 → mI σ 53 j = nI j := hx.2.2.2.2.2.2.2.2.2.2.1
  unfold w_X11_heapOf w_X12_heapOf
  rcases lay_cases hx x0 with ⟨c1, c2⟩ | ⟨l, a, kd, nu, hl, hl5, rfl, hkd, ht, htM, d1, d2, -⟩
  · exact c1 _ σ Kp.rf ⟨fun _ => c2 _ σ Kp.rf ⟨fun _ => ⟨rfl, h⟩, fun c => absurd rfl c⟩, fun r hr => (by cases hr)⟩
  · refine d1 _ σ Kp.rf ⟨fun c => (by cases c), fun r hr => ?_⟩
    cases hr
    rcases plate_cases hx x1 with ⟨e1, e2⟩ | ⟨p, hp, rfl, e1, e2⟩
    · refine e1 _ σ Kp.rf ⟨fun c => absurd rfl c, fun _ => d2 _ σ Kp.rf ⟨fun c => absurd c (by decide), fun _ => e2 _ σ Kp.rf ⟨fun c => absurd rfl c, fun _ => ⟨rfl, h⟩⟩⟩⟩
    · refine e1 _ σ Kp.rf ⟨fun _ => C_now hE hkd ht Kp.rf (fun τ1 k1 hH1 f1 => ⟨vp_in_nI (by omega) (by omega), ?_⟩), fun c => absurd c (by decide)⟩
      have hk1 : Kp (SC0 σ T) σ τ1 := k1.mono (fun a k q => q.sc)
      refine d2 _ τ1 hk1.s0 ⟨fun c => absurd c (by decide), fun _ => e2 _ τ1 hk1.s0 ⟨fun _ => M_now hE hkd hl5 htM hk1.s0 (fun j hj => by rw [FC.n53 hE k1]; exact h53 j hj) (fun τ2 k2 hH2 h34 f2 => ⟨vp_in_nI (by omega) (by omega), ?_⟩), fun c => absurd c (by decide)⟩⟩
      have hR : Rel τ2 := (hx.sc (hk1.tr (k2.mono (fun a k q => FM.sc q))) (fun j hj => by
        rw [k2.2.2.2 _ _ (by unfold FM; omega), FC.n53 hE k1]; exact h53 j hj)).rel
      rw [k_cl (by omega), (f1 p hp).1, (f2 p hp).1]
      exact ⟨rfl, hR⟩
