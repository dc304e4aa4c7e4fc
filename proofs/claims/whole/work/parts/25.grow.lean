/-! STAGE 2: frames where cells are made: references G and numbers F may change, cells come -/
def Kg (G F : Nat → Nat → Prop) (σ τ : Mem) : Prop := mL σ ≤ mL τ ∧ (∀ a k, a < mL σ → ¬ G a k → mP τ a k = mP σ a k) ∧ (∀ a, a < mL σ → mT τ a = mT σ a) ∧ ∀ a k, a < mL σ → ¬ F a k → mI τ a k = mI σ a k
theorem Kg.rf {G F : Nat → Nat → Prop} {σ : Mem} : Kg G F σ σ := ⟨Nat.le_refl _, fun _ _ _ _ => rfl, fun _ _ => rfl, fun _ _ _ _ => rfl⟩
theorem Kg.sI {G F : Nat → Nat → Prop} {σ τ : Mem} (h : Kg G F σ τ) {a k : Nat} (v : Int32) (hF : mL σ ≤ a ∨ F a k) : Kg G F σ (sI τ a k v) := by
  refine ⟨h.1, h.2.1, h.2.2.1, fun b j hb q => ?_⟩
  rw [mI_sI]
  by_cases e1 : b = a
  · by_cases e2 : j = k
    · subst e1; subst e2
      rcases hF with hF | hF
      · omega
      · exact absurd hF q
    · rw [if_pos e1, if_neg e2]; exact h.2.2.2 b j hb q
  · rw [if_neg e1]; exact h.2.2.2 b j hb q
theorem Kg.sR {G F : Nat → Nat → Prop} {σ τ : Mem} (h : Kg G F σ τ) {a : Nat} (f : Nat → Int32) (hF : mL σ ≤ a ∨ ∀ k, F a k) : Kg G F σ (sR τ a f) := by
  refine ⟨h.1, h.2.1, h.2.2.1, fun b j hb q => ?_⟩
  rw [mI_sR]
  by_cases e1 : b = a
  · subst e1
    rcases hF with hF | hF
    · omega
    · exact absurd (hF j) q
  · rw [if_neg e1]; exact h.2.2.2 b j hb q
theorem Kg.sP {G F : Nat → Nat → Prop} {σ τ : Mem} (h : Kg G F σ τ) {a k : Nat} (r : Option Nat) (hG : mL σ ≤ a ∨ G a k) : Kg G F σ (sP τ a k r) := by
  refine ⟨h.1, fun b j hb q => ?_, h.2.2.1, h.2.2.2⟩
  rw [mP_sP]
  by_cases e1 : b = a
  · by_cases e2 : j = k
    · subst e1; subst e2
      rcases hG with hG | hG
      · omega
      · exact absurd hG q
    · rw [if_pos e1, if_neg e2]; exact h.2.1 b j hb q
  · rw [if_neg e1]; exact h.2.1 b j hb q
theorem Kg.mN {G F : Nat → Nat → Prop} {σ τ : Mem} (h : Kg G F σ τ) (t : Nat × Nat) : Kg G F σ (mN τ t) := by
  have h1 := h.1
  refine ⟨by rw [mL_mN]; omega, fun b j hb q => ?_, fun b hb => ?_, fun b j hb q => ?_⟩
  · rw [mP_mN, if_neg (by omega)]; exact h.2.1 b j hb q
  · rw [mT_mN, if_neg (by omega)]; exact h.2.2.1 b hb
  · rw [mI_mN, if_neg (by omega)]; exact h.2.2.2 b j hb q
theorem Kp.g {F G : Nat → Nat → Prop} {σ τ : Mem} (h : Kp F σ τ) : Kg G F σ τ := ⟨Nat.le_of_eq h.2.2.1.symm, fun a k _ _ => h.1 a k, fun a _ => h.2.1 a, fun a k _ q => h.2.2.2 a k q⟩
theorem Kg.mS {G F : Nat → Nat → Prop} {σ τ : Mem} {ps ts : List (Nat × Nat × Nat)} (h : Kg G F σ τ) (hS : mS ps ts σ) (hG : ∀ e ∈ ps, ¬ G e.1 e.2.1) : mS ps ts τ :=
  ⟨fun e he => ⟨by rw [h.2.1 _ _ (hS.1 e he).2 (hG e he)]; exact (hS.1 e he).1, Nat.lt_of_lt_of_le (hS.1 e he).2 h.1⟩, fun e he => by rw [h.2.2.1 _ (mT_lt (hS.2 e he))]; exact hS.2 e he⟩
section Grow
variable {σ τ : Mem} {G F : Nat → Nat → Prop} {N L T : Nat}
theorem rPl.fg (h : rPl σ N) (k : Kg G F σ τ) (hL : 68 ≤ mL σ) (f1 : ¬ F 0 2) (f2 : ¬ F 37 0) (f3 : ∀ i, ¬ F 1 i) (f4 : ∀ i, ¬ F 2 i) (f5 : ∀ i, ¬ F 38 i) (f6 : ∀ i, ¬ F 39 i) : rPl τ N := by
  obtain ⟨h1, h2, h3, h4⟩ := h
  have e : ∀ a i, a < 68 → ¬ F a i → mI τ a i = mI σ a i := fun a i ha q => k.2.2.2 a i (by omega) q
  refine ⟨h1, by rw [e _ _ (by decide) f1]; exact h2, by rw [e _ _ (by decide) f2]; exact h3, fun i hi => ?_⟩
  rw [e _ _ (by decide) (f3 i), e _ _ (by decide) (f4 i), e _ _ (by decide) (f5 i), e _ _ (by decide) (f6 i)]
  exact h4 i hi
theorem rLa.fg (h : rLa σ L) (k : Kg G F σ τ) (hL : 68 ≤ mL σ) (f1 : ¬ F 0 4) (f2 : ¬ F 37 3) (f3 : ∀ a i, 68 ≤ a → (∃ kd, mT σ a = some (kcl kd, 0)) → ¬ F a i) (f4 : ∀ i, ¬ F 40 i) (f5 : ∀ i, ¬ F 41 i) (g : ∀ i, i < L → ¬ G 3 i) : rLa τ L := by
  obtain ⟨h1, h2, h3, h4⟩ := h
  have e : ∀ a i, a < 68 → ¬ F a i → mI τ a i = mI σ a i := fun a i ha q => k.2.2.2 a i (by omega) q
  refine ⟨h1, by rw [e _ _ (by decide) f1]; exact h2, by rw [e _ _ (by decide) f2]; exact h3, fun i hi => ?_⟩
  obtain ⟨a, kd, nu, g1, g2, g3, g4, g5, g6, g7, g8, g9⟩ := h4 i hi
  have ha := mT_lt g5
  refine ⟨a, kd, nu, by rw [k.2.1 _ _ (by omega) (g i hi)]; exact g1, g2, g3, g4, by rw [k.2.2.1 _ ha]; exact g5, ?_, ?_, ?_, ?_⟩
  · rw [k.2.2.2 _ _ ha (f3 a 0 g2 ⟨kd, g5⟩)]; exact g6
  · rw [k.2.2.2 _ _ ha (f3 a 1 g2 ⟨kd, g5⟩)]; exact g7
  · rw [e _ _ (by decide) (f4 i)]; exact g8
  · rw [e _ _ (by decide) (f5 i)]; exact g9
theorem rSeg.fg {st a b : Nat} {l : List Int32} (h : rSeg σ st a b l) (k : Kg G F σ τ) (hL : 68 ≤ mL σ) (hs : st < mL σ) (f1 : ∀ i, ¬ F st i) (f2 : ∀ i, ¬ F 43 i) : rSeg τ st a b l :=
  ⟨fun j hj => by rw [k.2.2.2 _ _ hs (f1 _), k.2.2.2 43 _ (by omega) (f2 _)]; exact h.1 j hj, h.2⟩
theorem rRu.fg {t r st nm sk : Nat} {l0 l1 l2 : List Int32} (h : rRu σ t r st nm sk l0 l1 l2) (k : Kg G F σ τ) (hL : 68 ≤ mL σ) (f1 : ∀ i, ¬ F r i) (f2 : ∀ i, ¬ F st i) (f3 : ∀ i, ¬ F 43 i) (f4 : ∀ i, ¬ F 44 i) (g1 : ¬ G 4 t) (g2 : ∀ i, ¬ G r i) : rRu τ t r st nm sk l0 l1 l2 := by
  obtain ⟨a1, a2, a3, a4, a5, a6, a7, a8, a9, a10, a11, a12, a13, a14, a15, a16, a17, a18, a19, a20, a21, a22⟩ := h
  have hr := mT_lt a6
  have hs := mT_lt a10
  refine ⟨by rw [k.2.1 4 t (by omega) g1]; exact a1, a2, a3, a4, a5, by rw [k.2.2.1 _ hr]; exact a6, by rw [k.2.1 _ _ hr (g2 _)]; exact a7, by rw [k.2.1 _ _ hr (g2 _)]; exact a8, by rw [k.2.1 _ _ hr (g2 _)]; exact a9, by rw [k.2.2.1 _ hs]; exact a10, by rw [k.2.2.1 _ (mT_lt a11)]; exact a11, by rw [k.2.2.1 _ (mT_lt a12)]; exact a12, a13, a14, ?_, ?_, ?_, ?_, ?_, a20.fg k hL hs f2 f3, a21.fg k hL hs f2 f3, a22.fg k hL hs f2 f3⟩
  · rw [k.2.2.2 _ _ hr (f1 _)]; exact a15
  · rw [k.2.2.2 _ _ hr (f1 _)]; exact a16
  · rw [k.2.2.2 44 _ (by omega) (f4 _)]; exact a17
  · rw [k.2.2.2 44 _ (by omega) (f4 _)]; exact a18
  · rw [k.2.2.2 44 _ (by omega) (f4 _)]; exact a19
/-- the texts but for their number -/
theorem rTx.fg (h : rTx σ T) (k : Kg G F σ τ) (hL : 68 ≤ mL σ) (f1 : ¬ F 0 6) (f2 : ¬ F 37 9) (f3 : ∀ a i, txc σ T a → ¬ F a i) (f4 : ∀ i, ¬ F 43 i) (f5 : ∀ i, ¬ F 44 i) (g1 : ∀ t, t < T → ¬ G 4 t) (g2 : ∀ a i, 33 ≤ a → ¬ G a i) : rTx τ T := by
  obtain ⟨h1, h2, h3, h4, h5, h6⟩ := h
  refine ⟨h1, h2, by rw [k.2.2.2 0 _ (by omega) f1]; exact h3, by rw [k.2.2.2 37 _ (by omega) f2]; exact h4, fun t ht => ?_, fun t u r r' ht hu hn q1 q2 => ?_⟩
  · obtain ⟨r, st, nm, sk, l0, l1, l2, hr⟩ := h5 t ht
    have hd := hr.2.1
    exact ⟨r, st, nm, sk, l0, l1, l2, hr.fg k hL (fun i => f3 r i ⟨t, r, ht, hr.1, Or.inl rfl⟩) (fun i => f3 st i ⟨t, r, ht, hr.1, Or.inr hr.2.2.2.2.2.2.1⟩) f4 f5 (g1 t ht) (fun i => g2 r i (by unfold dyn at hd; omega))⟩
  · rw [k.2.1 4 _ (by omega) (g1 _ ht)] at q1
    rw [k.2.1 4 _ (by omega) (g1 _ hu)] at q2
    have hr : r < mL σ ∧ 33 ≤ r := by
      obtain ⟨r2, st, nm, sk, l0, l1, l2, hr⟩ := h5 t ht
      have e : r2 = r := Option.some.inj (hr.1.symm.trans q1)
      subst e
      have hd := hr.2.1
      exact ⟨mT_lt hr.2.2.2.2.2.1, by unfold dyn at hd; omega⟩
    have hr' : r' < mL σ ∧ 33 ≤ r' := by
      obtain ⟨r2, st, nm, sk, l0, l1, l2, hr⟩ := h5 u hu
      have e : r2 = r' := Option.some.inj (hr.1.symm.trans q2)
      subst e
      have hd := hr.2.1
      exact ⟨mT_lt hr.2.2.2.2.2.1, by unfold dyn at hd; omega⟩
    refine ⟨(h6 t u r r' ht hu hn q1 q2).1, fun x x' y y' b1 b2 b3 b4 => ?_⟩
    rw [k.2.1 _ _ hr.1 (g2 _ _ hr.2)] at b3
    rw [k.2.1 _ _ hr'.1 (g2 _ _ hr'.2)] at b4
    exact (h6 t u r r' ht hu hn q1 q2).2 x x' y y' b1 b2 b3 b4
theorem rHi.fg (h : rHi σ T) (k : Kg G F σ τ) (hL : 68 ≤ mL σ) (f1 : ¬ F 8 3) (f2 : ¬ F 37 10) (f3 : ¬ F 8 2) (f4 : ¬ F 37 6) : rHi τ T := by
  unfold rHi
  rw [k.2.2.2 8 _ (by omega) f1, k.2.2.2 37 _ (by omega) f2, k.2.2.2 8 _ (by omega) f3, k.2.2.2 37 _ (by omega) f4]
  exact h
theorem rTa.fg (h : rTa σ) (k : Kg G F σ τ) (hL : 68 ≤ mL σ) (f1 : ¬ F 5 1) (f2 : ¬ F 37 8) (f3 : ∀ i, ¬ F 6 i) (f4 : ∀ i, ¬ F 42 i) : rTa τ := by
  obtain ⟨S, h1, h2, h3, h4⟩ := h
  refine ⟨S, h1, by rw [k.2.2.2 5 _ (by omega) f1]; exact h2, by rw [k.2.2.2 37 _ (by omega) f2]; exact h3, fun i hi => ?_⟩
  rw [k.2.2.2 6 _ (by omega) (f3 i), k.2.2.2 42 _ (by omega) (f4 i)]
  exact h4 i hi
theorem rHe.fg {cr ch mr mh M l : Nat} {ht : Nat → Nat} (h : rHe σ cr ch mr mh M l ht) (k : Kg G F σ τ) (l1 : cr < mL σ) (l2 : ch < mL σ) (l3 : mr < mL σ) (l4 : mh < mL σ) (f1 : ∀ i, ¬ F cr i) (f2 : ∀ i, ¬ F ch i) (f3 : ∀ i, ¬ F mr i) (f4 : ∀ i, ¬ F mh i) : rHe τ cr ch mr mh M l ht := by
  obtain ⟨h1, h2, h3, h4⟩ := h
  refine ⟨h1, h2, fun i hi => ?_, fun i j hi hj => ?_⟩
  · rw [k.2.2.2 _ _ l2 (f2 i), k.2.2.2 _ _ l4 (f4 i)]; exact h3 i hi
  · obtain ⟨p, hp, g1, g2⟩ := h4 i j hi hj
    exact ⟨p, hp, by rw [k.2.2.2 _ _ l1 (f1 _)]; exact g1, by rw [k.2.2.2 _ _ l3 (f3 _)]; exact g2⟩
theorem rTb.fg (h : rTb σ N) (k : Kg G F σ τ) (hL : 68 ≤ mL σ) (f1 : ¬ F 8 1) (f2 : ¬ F 37 45) (f3 : ¬ F 9 2) (f4 : ¬ F 37 46) (f5 : ∀ i, ¬ F 10 i) (f6 : ∀ i, ¬ F 11 i) (f7 : ∀ i, ¬ F 61 i) (f8 : ∀ i, ¬ F 60 i) : rTb τ N := by
  obtain ⟨l, M, ht, h1, h2, h3, h4, h5, h6⟩ := h
  exact ⟨l, M, ht, h1, by rw [k.2.2.2 8 _ (by omega) f1]; exact h2, by rw [k.2.2.2 37 _ (by omega) f2]; exact h3, by rw [k.2.2.2 9 _ (by omega) f3]; exact h4, by rw [k.2.2.2 37 _ (by omega) f4]; exact h5, h6.fg k (by omega) (by omega) (by omega) (by omega) f5 f6 f7 f8⟩
theorem rIm.fg (h : rIm σ N T) (k : Kg G F σ τ) (hL : 68 ≤ mL σ) (hTx : rTx σ T) (f1 : ¬ F 37 49 ∧ ¬ F 37 50 ∧ ¬ F 37 51 ∧ ¬ F 37 52 ∧ ¬ F 37 53) (f2 : ∀ a i, imc σ a → ¬ F a i) (f3 : ∀ i, ¬ F 63 i) (f4 : ∀ i, ¬ F 62 i) (g1' : ¬ G 0 9) (g2' : ∀ a i, 33 ≤ a → ¬ G a i) (g3' : ∀ t, t < T → ¬ G 4 t) : rIm τ N T := by
  rcases h with ⟨h1, h2⟩ | ⟨h1, t, h, c0, c1, c3, c4, g1, g2, g3, g4, g5, g6, g7, g8, g9, g10, g11, g12, g13, g14, g15, g16, g17, g18, g19, g20, l, M, hh, u, ht, p1, p2, p3, p4, p5, p6, p7, p8, p9, p10, p11, p12, p13⟩
  · exact Or.inl ⟨by rw [k.2.1 0 9 (by omega) g1']; exact h1, by rw [k.2.2.2 37 _ (by omega) f1.1]; exact h2⟩
  · have ft : ∀ i, ¬ F t i := fun i => f2 t i ⟨t, h, g1, g9, Or.inl rfl⟩
    have fh : ∀ i, ¬ F h i := fun i => f2 h i ⟨t, h, g1, g9, Or.inr (Or.inl rfl)⟩
    have f0 : ∀ i, ¬ F c0 i := fun i => f2 c0 i ⟨t, h, g1, g9, Or.inr (Or.inr (Or.inl g11))⟩
    have fc1 : ∀ i, ¬ F c1 i := fun i => f2 c1 i ⟨t, h, g1, g9, Or.inr (Or.inr (Or.inr g12))⟩
    have lt := mT_lt g8
    have lh := mT_lt g10
    have e37 : ∀ i, ¬ F 37 i → mI τ 37 i = mI σ 37 i := fun i q => k.2.2.2 37 i (by omega) q
    have eP : ∀ a i, a < mL σ → 68 ≤ a → mP τ a i = mP σ a i := fun a i ha hb => k.2.1 a i ha (g2' a i (by omega))
    refine Or.inr ⟨by rw [e37 _ f1.1]; exact h1, t, h, c0, c1, c3, c4, by rw [k.2.1 0 9 (by omega) g1']; exact g1, g2, g3, g4, g5, g6, g7, by rw [k.2.2.1 _ lt]; exact g8, by rw [eP _ _ lt g2]; exact g9, by rw [k.2.2.1 _ lh]; exact g10, by rw [eP _ _ lh g3]; exact g11, by rw [eP _ _ lh g3]; exact g12, by rw [eP _ _ lh g3]; exact g13, by rw [eP _ _ lh g3]; exact g14, by rw [k.2.2.1 _ (mT_lt g15)]; exact g15, by rw [k.2.2.1 _ (mT_lt g16)]; exact g16, by rw [k.2.2.1 _ (mT_lt g17)]; exact g17, by rw [k.2.2.1 _ (mT_lt g18)]; exact g18, g19, fun u r x j hu q1 => ?_, l, M, hh, u, ht, p1, p2, p3, p4, by rw [k.2.2.2 _ _ lt (ft _)]; exact p5, by rw [e37 _ f1.2.1]; exact p6, by rw [k.2.2.2 _ _ lh (fh _)]; exact p7, by rw [e37 _ f1.2.2.1]; exact p8, by rw [k.2.2.2 _ _ lt (ft _)]; exact p9, by rw [e37 _ f1.2.2.2.1]; exact p10, by rw [k.2.2.2 _ _ lt (ft _)]; exact p11, by rw [e37 _ f1.2.2.2.2]; exact p12, p13.fg k (mT_lt g15) (mT_lt g16) (by omega) (by omega) f0 fc1 f3 f4⟩
    rw [k.2.1 4 _ (by omega) (g3' u hu)] at q1
    have hr : r < mL σ ∧ 33 ≤ r := by
      obtain ⟨r2, st, nm, sk, l0, l1, l2, hr⟩ := hTx.2.2.2.2.1 u hu
      have e : r2 = r := Option.some.inj (hr.1.symm.trans q1)
      subst e
      have hd := hr.2.1
      exact ⟨mT_lt hr.2.2.2.2.2.1, by unfold dyn at hd; omega⟩
    refine ⟨(g20 u r x j hu q1).1, (g20 u r x j hu q1).2.1, fun b1 b2 => ?_⟩
    rw [k.2.1 _ _ hr.1 (g2' _ _ hr.2)] at b2
    exact (g20 u r x j hu q1).2.2 b1 b2
theorem rSh.fg (h : rSh σ) (k : Kg G F σ τ) (hL : 68 ≤ mL σ) (f1 : ∀ a i, 25 ≤ a → a ≤ 32 → ¬ F a i) (f2 : ∀ i, ¬ F 64 i) (f3 : ∀ i, ¬ F 65 i) (f4 : ∀ i, ¬ F 66 i) : rSh τ := by
  intro i hi
  obtain ⟨g1, ⟨n, g2, g3, g4⟩, g5⟩ := h i hi
  have q1 : ∀ j, mI τ (25 + 2 * i) j = mI σ (25 + 2 * i) j := fun j => k.2.2.2 _ _ (by omega) (f1 _ j (by omega) (by omega))
  have q2 : ∀ j, mI τ (26 + 2 * i) j = mI σ (26 + 2 * i) j := fun j => k.2.2.2 _ _ (by omega) (f1 _ j (by omega) (by omega))
  refine ⟨?_, ⟨n, g2, ?_, ?_⟩, fun j hj => ?_⟩
  · rw [q1, k.2.2.2 64 _ (by omega) (f2 i)]; exact g1
  · rw [q1]; exact g3
  · rw [k.2.2.2 65 _ (by omega) (f3 i)]; exact g4
  · rw [q2, k.2.2.2 66 _ (by omega) (f4 _)]; exact g5 j hj
theorem rMo.fg (h : rMo σ) (k : Kg G F σ τ) (hL : 68 ≤ mL σ) (f1 : ∀ i, ¬ F 53 i) (f2 : ∀ i, ¬ F 45 i) (f3 : ∀ i, ¬ F 46 i) : rMo τ :=
  ⟨fun i hi => by rw [k.2.2.2 53 _ (by omega) (f1 i)]; exact h.1 i hi, fun i hi => by rw [k.2.2.2 45 _ (by omega) (f2 i)]; exact h.2.1 i hi, fun i hi => by rw [k.2.2.2 46 _ (by omega) (f3 i)]; exact h.2.2 i hi⟩
end Grow
