/-! STAGE 2: the easy calls -/
theorem q_isIn {σ : Mem} {v lo hi : Int32} {Q : Int32 → Mem → Prop} : w_X12_isIn σ v lo hi Q ↔ Q (if lo ≤ v ∧ v ≤ hi then 1 else 0) σ := by
  unfold w_X12_isIn
  by_cases h1 : v < lo
  · have : ¬ (lo ≤ v ∧ v ≤ hi) := fun q => Int32.not_le.mpr h1 q.1
    simp [h1, this]
  · by_cases h2 : hi < v
    · have : ¬ (lo ≤ v ∧ v ≤ hi) := fun q => Int32.not_le.mpr h2 q.2
      simp [h1, h2, this]
    · have : lo ≤ v ∧ v ≤ hi := ⟨Int32.not_lt.mp h1, Int32.not_lt.mp h2⟩
      simp [h1, h2, this]
theorem q_isMeasure {σ : Mem} {v : Int32} {Q : Int32 → Mem → Prop} : w_X11_isMeasure σ v Q ↔ Q (if 0 ≤ v ∧ v ≤ 99 then 1 else 0) σ := by
  unfold w_X11_isMeasure
  by_cases h1 : v < 0
  · have : ¬ (0 ≤ v ∧ v ≤ 99) := fun q => Int32.not_le.mpr h1 q.1
    simp [h1, this]
  · by_cases h2 : 99 < v
    · have : ¬ (0 ≤ v ∧ v ≤ 99) := fun q => Int32.not_le.mpr h2 q.2
      simp [h1, h2, this]
    · have : 0 ≤ v ∧ v ≤ 99 := ⟨Int32.not_lt.mp h1, Int32.not_lt.mp h2⟩
      simp [h1, h2, this]
theorem bnd_of {v : Int32} (h : 0 ≤ v ∧ v ≤ 99) : bnd v := by
  obtain ⟨j, hj, e⟩ := nI_of2 (M := 99) (n := 99) (by decide) (Int32.not_lt.mpr h.1) h.2
  exact ⟨j, hj, e⟩
/-- what a change of numbers leaves: references, kinds, and numbers but those of F -/
def Kp (F : Nat → Nat → Prop) (σ τ : Mem) : Prop := (∀ a k, mP τ a k = mP σ a k) ∧ (∀ a, mT τ a = mT σ a) ∧ mL τ = mL σ ∧ ∀ a k, ¬ F a k → mI τ a k = mI σ a k
theorem Kp.rf {F : Nat → Nat → Prop} {σ : Mem} : Kp F σ σ := ⟨fun _ _ => rfl, fun _ => rfl, rfl, fun _ _ _ => rfl⟩
theorem Kp.tr {F : Nat → Nat → Prop} {σ τ υ : Mem} (h : Kp F σ τ) (h2 : Kp F τ υ) : Kp F σ υ := ⟨fun a k => (h2.1 a k).trans (h.1 a k), fun a => (h2.2.1 a).trans (h.2.1 a), h2.2.2.1.trans h.2.2.1, fun a k q => (h2.2.2.2 a k q).trans (h.2.2.2 a k q)⟩
theorem Kp.sI {F : Nat → Nat → Prop} {σ τ : Mem} (h : Kp F σ τ) {a k : Nat} (v : Int32) (hF : F a k) : Kp F σ (sI τ a k v) := by
  refine ⟨h.1, h.2.1, h.2.2.1, fun b j q => ?_⟩
  rw [mI_sI]
  by_cases e1 : b = a
  · by_cases e2 : j = k
    · subst e1; subst e2; exact absurd hF q
    · rw [if_pos e1, if_neg e2]; exact h.2.2.2 b j q
  · rw [if_neg e1]; exact h.2.2.2 b j q
theorem Kp.mono {F G : Nat → Nat → Prop} {σ τ : Mem} (h : Kp F σ τ) (hFG : ∀ a k, F a k → G a k) : Kp G σ τ := ⟨h.1, h.2.1, h.2.2.1, fun a k q => h.2.2.2 a k (fun z => q (hFG a k z))⟩
theorem Kp.mS {F : Nat → Nat → Prop} {σ τ : Mem} {ps ts : List (Nat × Nat × Nat)} (h : Kp F σ τ) (hS : mS ps ts σ) : mS ps ts τ := ⟨fun e he => ⟨by rw [h.1]; exact (hS.1 e he).1, by rw [h.2.2.1]; exact (hS.1 e he).2⟩, fun e he => by rw [h.2.1]; exact hS.2 e he⟩
section Frames
variable {σ τ : Mem} {F : Nat → Nat → Prop} {N L T : Nat}
theorem rPl.fr (h : rPl σ N) (k : Kp F σ τ) (f1 : ¬ F 0 2) (f2 : ¬ F 37 0) (f3 : ∀ i, ¬ F 1 i) (f4 : ∀ i, ¬ F 2 i) (f5 : ∀ i, ¬ F 38 i) (f6 : ∀ i, ¬ F 39 i) : rPl τ N := by
  obtain ⟨h1, h2, h3, h4⟩ := h
  refine ⟨h1, by rw [k.2.2.2 _ _ f1]; exact h2, by rw [k.2.2.2 _ _ f2]; exact h3, fun i hi => ?_⟩
  rw [k.2.2.2 _ _ (f3 i), k.2.2.2 _ _ (f4 i), k.2.2.2 _ _ (f5 i), k.2.2.2 _ _ (f6 i)]
  exact h4 i hi
theorem rLa.fr (h : rLa σ L) (k : Kp F σ τ) (f1 : ¬ F 0 4) (f2 : ¬ F 37 3) (f3 : ∀ a i, 68 ≤ a → (∃ kd, mT σ a = some (kcl kd, 0)) → ¬ F a i) (f4 : ∀ i, ¬ F 40 i) (f5 : ∀ i, ¬ F 41 i) : rLa τ L := by
  obtain ⟨h1, h2, h3, h4⟩ := h
  refine ⟨h1, by rw [k.2.2.2 _ _ f1]; exact h2, by rw [k.2.2.2 _ _ f2]; exact h3, fun i hi => ?_⟩
  obtain ⟨a, kd, nu, g1, g2, g3, g4, g5, g6, g7, g8, g9⟩ := h4 i hi
  refine ⟨a, kd, nu, by rw [k.1]; exact g1, g2, g3, g4, by rw [k.2.1]; exact g5, ?_, ?_, ?_, ?_⟩
  · rw [k.2.2.2 _ _ (f3 a 0 g2 ⟨kd, g5⟩)]; exact g6
  · rw [k.2.2.2 _ _ (f3 a 1 g2 ⟨kd, g5⟩)]; exact g7
  · rw [k.2.2.2 _ _ (f4 i)]; exact g8
  · rw [k.2.2.2 _ _ (f5 i)]; exact g9
theorem rSeg.fr {st a b : Nat} {l : List Int32} (h : rSeg σ st a b l) (k : Kp F σ τ) (f1 : ∀ i, ¬ F st i) (f2 : ∀ i, ¬ F 43 i) : rSeg τ st a b l :=
  ⟨fun j hj => by rw [k.2.2.2 _ _ (f1 _), k.2.2.2 _ _ (f2 _)]; exact h.1 j hj, h.2⟩
theorem rRu.fr {t r st nm sk : Nat} {l0 l1 l2 : List Int32} (h : rRu σ t r st nm sk l0 l1 l2) (k : Kp F σ τ) (f1 : ∀ i, ¬ F r i) (f2 : ∀ i, ¬ F st i) (f3 : ∀ i, ¬ F 43 i) (f4 : ∀ i, ¬ F 44 i) : rRu τ t r st nm sk l0 l1 l2 := by
  obtain ⟨a1, a2, a3, a4, a5, a6, a7, a8, a9, a10, a11, a12, a13, a14, a15, a16, a17, a18, a19, a20, a21, a22⟩ := h
  refine ⟨by rw [k.1]; exact a1, a2, a3, a4, a5, by rw [k.2.1]; exact a6, by rw [k.1]; exact a7, by rw [k.1]; exact a8, by rw [k.1]; exact a9, by rw [k.2.1]; exact a10, by rw [k.2.1]; exact a11, by rw [k.2.1]; exact a12, a13, a14, ?_, ?_, ?_, ?_, ?_, a20.fr k f2 f3, a21.fr k f2 f3, a22.fr k f2 f3⟩
  · rw [k.2.2.2 _ _ (f1 _)]; exact a15
  · rw [k.2.2.2 _ _ (f1 _)]; exact a16
  · rw [k.2.2.2 _ _ (f4 _)]; exact a17
  · rw [k.2.2.2 _ _ (f4 _)]; exact a18
  · rw [k.2.2.2 _ _ (f4 _)]; exact a19
/-- which cells a text's row is: the rule and its steps -/
def txc (σ : Mem) (T a : Nat) : Prop := ∃ t r : Nat, t < T ∧ mP σ 4 t = some r ∧ (a = r ∨ mP σ r 0 = some a)
theorem txc.dyn {a : Nat} (h : rTx σ T) (hc : txc σ T a) : dyn a := by
  obtain ⟨t, r, ht, h1, h2⟩ := hc
  obtain ⟨r', st, nm, sk, l0, l1, l2, hr⟩ := h.2.2.2.2.1 t ht
  have e : r' = r := Option.some.inj (hr.1.symm.trans h1)
  subst e
  rcases h2 with rfl | h2
  · exact hr.2.1
  · have e2 : st = a := Option.some.inj (hr.2.2.2.2.2.2.1.symm.trans h2)
    subst e2
    exact hr.2.2.1
theorem rTx.fr (h : rTx σ T) (k : Kp F σ τ) (f1 : ¬ F 0 6) (f2 : ¬ F 37 9) (f3 : ∀ a i, txc σ T a → ¬ F a i) (f4 : ∀ i, ¬ F 43 i) (f5 : ∀ i, ¬ F 44 i) : rTx τ T := by
  obtain ⟨h1, h2, h3, h4, h5, h6⟩ := h
  refine ⟨h1, h2, by rw [k.2.2.2 _ _ f1]; exact h3, by rw [k.2.2.2 _ _ f2]; exact h4, fun t ht => ?_, fun t u r r' ht hu hn g1 g2 => ?_⟩
  · obtain ⟨r, st, nm, sk, l0, l1, l2, hr⟩ := h5 t ht
    exact ⟨r, st, nm, sk, l0, l1, l2, hr.fr k (fun i => f3 r i ⟨t, r, ht, hr.1, Or.inl rfl⟩) (fun i => f3 st i ⟨t, r, ht, hr.1, Or.inr hr.2.2.2.2.2.2.1⟩) f4 f5⟩
  · rw [k.1] at g1 g2
    refine ⟨(h6 t u r r' ht hu hn g1 g2).1, fun x x' y y' b1 b2 b3 b4 => ?_⟩
    rw [k.1] at b3 b4
    exact (h6 t u r r' ht hu hn g1 g2).2 x x' y y' b1 b2 b3 b4
theorem rHi.fr (h : rHi σ T) (k : Kp F σ τ) (f1 : ¬ F 8 3) (f2 : ¬ F 37 10) (f3 : ¬ F 8 2) (f4 : ¬ F 37 6) : rHi τ T := by
  unfold rHi
  rw [k.2.2.2 _ _ f1, k.2.2.2 _ _ f2, k.2.2.2 _ _ f3, k.2.2.2 _ _ f4]
  exact h
theorem rTa.fr (h : rTa σ) (k : Kp F σ τ) (f1 : ¬ F 5 1) (f2 : ¬ F 37 8) (f3 : ∀ i, ¬ F 6 i) (f4 : ∀ i, ¬ F 42 i) : rTa τ := by
  obtain ⟨S, h1, h2, h3, h4⟩ := h
  refine ⟨S, h1, by rw [k.2.2.2 _ _ f1]; exact h2, by rw [k.2.2.2 _ _ f2]; exact h3, fun i hi => ?_⟩
  rw [k.2.2.2 _ _ (f3 i), k.2.2.2 _ _ (f4 i)]
  exact h4 i hi
theorem rHe.fr {cr ch mr mh M l : Nat} {ht : Nat → Nat} (h : rHe σ cr ch mr mh M l ht) (k : Kp F σ τ) (f1 : ∀ i, ¬ F cr i) (f2 : ∀ i, ¬ F ch i) (f3 : ∀ i, ¬ F mr i) (f4 : ∀ i, ¬ F mh i) : rHe τ cr ch mr mh M l ht := by
  obtain ⟨h1, h2, h3, h4⟩ := h
  refine ⟨h1, h2, fun i hi => ?_, fun i j hi hj => ?_⟩
  · rw [k.2.2.2 _ _ (f2 i), k.2.2.2 _ _ (f4 i)]; exact h3 i hi
  · obtain ⟨p, hp, g1, g2⟩ := h4 i j hi hj
    exact ⟨p, hp, by rw [k.2.2.2 _ _ (f1 _)]; exact g1, by rw [k.2.2.2 _ _ (f3 _)]; exact g2⟩
theorem rTb.fr (h : rTb σ N) (k : Kp F σ τ) (f1 : ¬ F 8 1) (f2 : ¬ F 37 45) (f3 : ¬ F 9 2) (f4 : ¬ F 37 46) (f5 : ∀ i, ¬ F 10 i) (f6 : ∀ i, ¬ F 11 i) (f7 : ∀ i, ¬ F 61 i) (f8 : ∀ i, ¬ F 60 i) : rTb τ N := by
  obtain ⟨l, M, ht, h1, h2, h3, h4, h5, h6⟩ := h
  exact ⟨l, M, ht, h1, by rw [k.2.2.2 _ _ f1]; exact h2, by rw [k.2.2.2 _ _ f2]; exact h3, by rw [k.2.2.2 _ _ f3]; exact h4, by rw [k.2.2.2 _ _ f4]; exact h5, h6.fr k f5 f6 f7 f8⟩
/-- the image's cells -/
def imc (σ : Mem) (a : Nat) : Prop := ∃ t h : Nat, mP σ 0 9 = some t ∧ mP σ t 0 = some h ∧ (a = t ∨ a = h ∨ mP σ h 0 = some a ∨ mP σ h 1 = some a)
theorem imc.dyn {a : Nat} (h : rIm σ N T) (hc : imc σ a) : 68 ≤ a := by
  obtain ⟨t', h', e1, e2, e3⟩ := hc
  rcases h with ⟨h1, -⟩ | ⟨-, t, h, c0, c1, c3, c4, g1, g2, g3, g4, g5, g6, g7, g8, g9, g10, g11, g12, -⟩
  · rw [h1] at e1; cases e1
  · have q1 : t = t' := Option.some.inj (g1.symm.trans e1)
    subst q1
    have q2 : h = h' := Option.some.inj (g9.symm.trans e2)
    subst q2
    rcases e3 with rfl | rfl | e3 | e3
    · exact g2
    · exact g3
    · rw [← Option.some.inj (g11.symm.trans e3)]; exact g4
    · rw [← Option.some.inj (g12.symm.trans e3)]; exact g5
theorem rIm.fr (h : rIm σ N T) (k : Kp F σ τ) (f1 : ¬ F 37 49 ∧ ¬ F 37 50 ∧ ¬ F 37 51 ∧ ¬ F 37 52 ∧ ¬ F 37 53) (f2 : ∀ a i, imc σ a → ¬ F a i) (f3 : ∀ i, ¬ F 63 i) (f4 : ∀ i, ¬ F 62 i) : rIm τ N T := by
  rcases h with ⟨h1, h2⟩ | ⟨h1, t, h, c0, c1, c3, c4, g1, g2, g3, g4, g5, g6, g7, g8, g9, g10, g11, g12, g13, g14, g15, g16, g17, g18, g19, g20, l, M, hh, u, ht, p1, p2, p3, p4, p5, p6, p7, p8, p9, p10, p11, p12, p13⟩
  · exact Or.inl ⟨by rw [k.1]; exact h1, by rw [k.2.2.2 _ _ f1.1]; exact h2⟩
  · have ft : ∀ i, ¬ F t i := fun i => f2 t i ⟨t, h, g1, g9, Or.inl rfl⟩
    have fh : ∀ i, ¬ F h i := fun i => f2 h i ⟨t, h, g1, g9, Or.inr (Or.inl rfl)⟩
    have f0 : ∀ i, ¬ F c0 i := fun i => f2 c0 i ⟨t, h, g1, g9, Or.inr (Or.inr (Or.inl g11))⟩
    have fc1 : ∀ i, ¬ F c1 i := fun i => f2 c1 i ⟨t, h, g1, g9, Or.inr (Or.inr (Or.inr g12))⟩
    refine Or.inr ⟨by rw [k.2.2.2 _ _ f1.1]; exact h1, t, h, c0, c1, c3, c4, by rw [k.1]; exact g1, g2, g3, g4, g5, g6, g7, by rw [k.2.1]; exact g8, by rw [k.1]; exact g9, by rw [k.2.1]; exact g10, by rw [k.1]; exact g11, by rw [k.1]; exact g12, by rw [k.1]; exact g13, by rw [k.1]; exact g14, by rw [k.2.1]; exact g15, by rw [k.2.1]; exact g16, by rw [k.2.1]; exact g17, by rw [k.2.1]; exact g18, g19, fun u r x j hu q1 => ?_, l, M, hh, u, ht, p1, p2, p3, p4, by rw [k.2.2.2 _ _ (ft _)]; exact p5, by rw [k.2.2.2 _ _ f1.2.1]; exact p6, by rw [k.2.2.2 _ _ (fh _)]; exact p7, by rw [k.2.2.2 _ _ f1.2.2.1]; exact p8, by rw [k.2.2.2 _ _ (ft _)]; exact p9, by rw [k.2.2.2 _ _ f1.2.2.2.1]; exact p10, by rw [k.2.2.2 _ _ (ft _)]; exact p11, by rw [k.2.2.2 _ _ f1.2.2.2.2]; exact p12, p13.fr k f0 fc1 f3 f4⟩
    rw [k.1] at q1
    refine ⟨(g20 u r x j hu q1).1, (g20 u r x j hu q1).2.1, fun b1 b2 => ?_⟩
    rw [k.1] at b2
    exact (g20 u r x j hu q1).2.2 b1 b2
theorem rSh.fr (h : rSh σ) (k : Kp F σ τ) (f1 : ∀ a i, 25 ≤ a → a ≤ 32 → ¬ F a i) (f2 : ∀ i, ¬ F 64 i) (f3 : ∀ i, ¬ F 65 i) (f4 : ∀ i, ¬ F 66 i) : rSh τ := by
  intro i hi
  obtain ⟨g1, ⟨n, g2, g3, g4⟩, g5⟩ := h i hi
  have q1 : ∀ j, mI τ (25 + 2 * i) j = mI σ (25 + 2 * i) j := fun j => k.2.2.2 _ _ (f1 _ j (by omega) (by omega))
  have q2 : ∀ j, mI τ (26 + 2 * i) j = mI σ (26 + 2 * i) j := fun j => k.2.2.2 _ _ (f1 _ j (by omega) (by omega))
  refine ⟨?_, ⟨n, g2, ?_, ?_⟩, fun j hj => ?_⟩
  · rw [q1, k.2.2.2 _ _ (f2 i)]; exact g1
  · rw [q1]; exact g3
  · rw [k.2.2.2 _ _ (f3 i)]; exact g4
  · rw [q2, k.2.2.2 _ _ (f4 _)]; exact g5 j hj
theorem rMo.fr (h : rMo σ) (k : Kp F σ τ) (f1 : ∀ i, ¬ F 53 i) (f2 : ∀ i, ¬ F 45 i) (f3 : ∀ i, ¬ F 46 i) : rMo τ :=
  ⟨fun i hi => by rw [k.2.2.2 _ _ (f1 i)]; exact h.1 i hi, fun i hi => by rw [k.2.2.2 _ _ (f2 i)]; exact h.2.1 i hi, fun i hi => by rw [k.2.2.2 _ _ (f3 i)]; exact h.2.2 i hi⟩
end Frames
