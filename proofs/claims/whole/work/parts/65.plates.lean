/-! STAGE 2: plates -/
/-- how many plates, how many came, sizes, depths -/
abbrev PS : Type := Nat × Nat × (Nat → Int32) × (Nat → Int32)
def msr (v : Int32) : Prop := 0 ≤ v ∧ v ≤ 99
def plS (u v : Int32) (P : PS) : PS := if 0 ≤ u ∧ u ≤ 99 ∧ 0 ≤ v ∧ v ≤ 99 ∧ P.1 < 8 then (P.1 + 1, P.2.1 + 1, fun i => if i = P.1 then u else P.2.2.1 i, fun i => if i = P.1 then v else P.2.2.2 i) else P
def plG (sz : Nat) (it : Nat → Int32) (f : Nat) : Nat → Nat → PS → Int32 × PS
  | 0, _, P => (nI P.2.1, P)
  | d + 1, k, P => if f + 2 * k + 1 < sz then plG sz it f d (k + 1) (plS (it (f + 2 * k)) (it (f + 2 * k + 1)) P) else (-12, P)
def okP (cN fN cS cD : Nat) (τ : Mem) (P : PS) : Prop := mI τ cN fN = nI P.1 ∧ ∀ i, i < P.1 → mI τ cS i = P.2.2.1 i ∧ mI τ cD i = P.2.2.2 i
theorem plS_8 {u v : Int32} {P : PS} (h : P.1 ≤ 8) : (plS u v P).1 ≤ 8 ∧ P.1 ≤ (plS u v P).1 := by
  unfold plS
  split
  · exact ⟨by show P.1 + 1 ≤ 8; omega, by show P.1 ≤ P.1 + 1; omega⟩
  · exact ⟨h, Nat.le_refl _⟩
theorem plS_c {u v : Int32} {P : PS} {k : Nat} (h : P.2.1 ≤ k) : (plS u v P).2.1 ≤ k + 1 := by
  unfold plS
  split
  · show P.2.1 + 1 ≤ k + 1; omega
  · omega
theorem plC {Q : Int32 → Mem → Prop} {τ : Mem} {u v : Int32} {P : PS} (h8 : P.1 ≤ 8) (hP : okP 0 2 1 2 τ P) (hq : ∀ r τ', Kp (fun a k => (a = 0 ∧ k = 2) ∨ a = 1 ∨ a = 2) τ τ' → okP 0 2 1 2 τ' (plS u v P) → ((r < 0 ∧ (plS u v P).2.1 = P.2.1) ∨ (¬ r < 0 ∧ (plS u v P).2.1 = P.2.1 + 1)) → Q r τ') : w_X11_plate τ u v Q := by
  unfold w_X11_plate
  have bad : ∀ r : Int32, r < 0 → ¬ (0 ≤ u ∧ u ≤ 99 ∧ 0 ≤ v ∧ v ≤ 99 ∧ P.1 < 8) → Q r τ := fun r hr hn => by
    have e : plS u v P = P := by unfold plS; rw [if_neg hn]
    exact hq r τ Kp.rf (by rw [e]; exact hP) (Or.inl ⟨hr, by rw [e]⟩)
  rw [q_isMeasure]
  by_cases cu : 0 ≤ u ∧ u ≤ 99
  · rw [if_pos cu]
    refine ⟨fun z => absurd z (by decide), fun _ => ?_⟩
    rw [q_isMeasure]
    by_cases cv : 0 ≤ v ∧ v ≤ 99
    · rw [if_pos cv]
      refine ⟨fun _ => ?_, fun z => absurd z (by decide)⟩
      rw [hP.1]
      by_cases c8 : P.1 < 8
      · have lt : nI P.1 < 8 := nI_lt (b := 8) c8 (by omega)
        have vp : vp_in (nI P.1) 8 := vp_in_nI (by omega) (by omega)
        refine ⟨fun _ => ⟨vp, vp, ?_⟩, fun z => absurd lt z⟩
        rw [k_cl (by omega), show nI P.1 + 1 = nI (P.1 + 1) from nI_add _ 1, nI_pred]
        have e : plS u v P = (P.1 + 1, P.2.1 + 1, fun i => if i = P.1 then u else P.2.2.1 i, fun i => if i = P.1 then v else P.2.2.2 i) := by unfold plS; rw [if_pos ⟨cu.1, cu.2, cv.1, cv.2, c8⟩]
        refine hq _ _ (by repeat (first | exact Kp.rf | refine Kp.sI ?_ _ (by first | exact rfl | omega | (dsimp only; omega)))) ?_ (Or.inr ⟨nI_pos (by omega), by rw [e]⟩)
        rw [e]
        refine ⟨by rw [mI_sI_s], fun i hi => ?_⟩
        have hi' : i < P.1 + 1 := hi
        show _ = (if i = P.1 then u else P.2.2.1 i) ∧ _ = (if i = P.1 then v else P.2.2.2 i)
        by_cases c : i = P.1
        · rw [if_pos c, if_pos c, c]; simp [mI_sI]
        · rw [if_neg c, if_neg c]; have := hP.2 i (by omega); simp [mI_sI, c]; exact this
      · have nlt : ¬ nI P.1 < 8 := fun z => of_eq_false (k_nlt (a := P.1) (b := 8) (by omega) (by omega)) z
        exact ⟨fun z => absurd z nlt, fun _ => bad _ (by decide) (fun q => c8 q.2.2.2.2)⟩
    · rw [if_neg cv]
      exact ⟨fun z => absurd rfl z, fun _ => bad _ (by decide) (fun q => cv ⟨q.2.2.1, q.2.2.2.1⟩)⟩
  · rw [if_neg cu]
    exact ⟨fun _ => bad _ (by decide) (fun q => cu ⟨q.1, q.2.1⟩), fun z => absurd rfl z⟩
theorem plM {Q : Int32 → Mem → Prop} {τ : Mem} {u v : Int32} {P : PS} (h8 : P.1 ≤ 8) (hP : okP 37 0 38 39 τ P) (hq : ∀ r τ', Kp (fun a k => (a = 37 ∧ k = 0) ∨ a = 38 ∨ a = 39) τ τ' → okP 37 0 38 39 τ' (plS u v P) → ((r < 0 ∧ (plS u v P).2.1 = P.2.1) ∨ (¬ r < 0 ∧ (plS u v P).2.1 = P.2.1 + 1)) → Q r τ') : w_X12_plate τ u v Q := by
  unfold w_X12_plate
  have bad : ∀ r : Int32, r < 0 → ¬ (0 ≤ u ∧ u ≤ 99 ∧ 0 ≤ v ∧ v ≤ 99 ∧ P.1 < 8) → Q r τ := fun r hr hn => by
    have e : plS u v P = P := by unfold plS; rw [if_neg hn]
    exact hq r τ Kp.rf (by rw [e]; exact hP) (Or.inl ⟨hr, by rw [e]⟩)
  rw [q_isIn]
  by_cases cu : 0 ≤ u ∧ u ≤ 99
  · rw [if_pos cu]
    refine ⟨fun z => absurd z (by decide), fun _ => ?_⟩
    rw [q_isIn]
    by_cases cv : 0 ≤ v ∧ v ≤ 99
    · rw [if_pos cv]
      refine ⟨fun _ => ?_, fun z => absurd z (by decide)⟩
      rw [hP.1]
      by_cases c8 : P.1 < 8
      · have ne : ¬ nI P.1 = 8 := fun z => by rw [show (8 : Int32) = nI 8 from rfl, nI_eq (by omega) (by omega)] at z; omega
        have vp : vp_in (nI P.1) 8 := vp_in_nI (by omega) (by omega)
        refine ⟨fun _ => ⟨vp, vp, ?_⟩, fun z => absurd z ne⟩
        rw [k_cl (by omega), show nI P.1 + 1 = nI (P.1 + 1) from nI_add _ 1, nI_pred]
        have e : plS u v P = (P.1 + 1, P.2.1 + 1, fun i => if i = P.1 then u else P.2.2.1 i, fun i => if i = P.1 then v else P.2.2.2 i) := by unfold plS; rw [if_pos ⟨cu.1, cu.2, cv.1, cv.2, c8⟩]
        refine hq _ _ (by repeat (first | exact Kp.rf | refine Kp.sI ?_ _ (by first | exact rfl | omega | (dsimp only; omega)))) ?_ (Or.inr ⟨nI_pos (by omega), by rw [e]⟩)
        rw [e]
        refine ⟨by rw [mI_sI_s], fun i hi => ?_⟩
        have hi' : i < P.1 + 1 := hi
        show _ = (if i = P.1 then u else P.2.2.1 i) ∧ _ = (if i = P.1 then v else P.2.2.2 i)
        by_cases c : i = P.1
        · rw [if_pos c, if_pos c, c]; simp [mI_sI]
        · rw [if_neg c, if_neg c]; have := hP.2 i (by omega); simp [mI_sI, c]; exact this
      · have e8 : nI P.1 = 8 := by rw [show P.1 = 8 by omega]; rfl
        exact ⟨fun z => absurd e8 z, fun _ => bad _ (by decide) (fun q => c8 q.2.2.2.2)⟩
    · rw [if_neg cv]
      exact ⟨fun z => absurd rfl z, fun _ => bad _ (by decide) (fun q => cv ⟨q.2.2.1, q.2.2.2.1⟩)⟩
  · rw [if_neg cu]
    exact ⟨fun _ => bad _ (by decide) (fun q => cu ⟨q.1, q.2.1⟩), fun z => absurd rfl z⟩
theorem has7_t {τ : Mem} {c n j : Nat} {Q : Int32 → Mem → Prop} (hT : mT τ c = some (7, 0)) (hn : mI τ c 2 = nI n) (hn40 : n ≤ 40) (hj : j < n) (hq : Q 1 τ) : w_X7_has τ c (nI j) Q :=
  (has7 hT hn).mpr ((hIn_t ⟨nI_pos' (by omega), nI_lt hj (by omega)⟩).mpr hq)
theorem has7_f {τ : Mem} {c n : Nat} {x : Int32} {Q : Int32 → Mem → Prop} (hT : mT τ c = some (7, 0)) (hn : mI τ c 2 = nI n) (hx : ¬ (0 ≤ x ∧ x < nI n)) (hq : Q 0 τ) : w_X7_has τ c x Q :=
  (has7 hT hn).mpr ((hIn_f hx).mpr hq)
set_option maxHeartbeats 1000000 in
theorem ptC {Q : Int32 → Mem → Prop} {s sz f n : Nat} {it : Nat → Int32} (hs : s < 4) (hsz : sz ≤ 40) (hf : f < 2147483648) (hn : n ≤ 8) : ∀ (d k : Nat) (P : PS) (τ : Mem), k + d = n → P.1 ≤ 8 → P.2.1 ≤ k → mT τ (25 + 2 * s) = some (7, 0) → mP τ (25 + 2 * s) 0 = some (26 + 2 * s) → mT τ (26 + 2 * s) = some (14, 40) → mI τ (25 + 2 * s) 2 = nI sz → (∀ j, j < 40 → mI τ (26 + 2 * s) j = it j) → okP 0 2 1 2 τ P → (∀ τ', Kp (fun a k => (a = 0 ∧ k = 2) ∨ a = 1 ∨ a = 2) τ τ' → okP 0 2 1 2 τ' (plG sz it f d k P).2 → Q (plG sz it f d k P).1 τ') → w_X11_plates_65 Q (d + 1) (nI f) (nI n) (25 + 2 * s) (nI P.2.1) (nI k) τ := by
  intro d
  induction d with
  | zero =>
    intro k P τ hd h8 hc t1 p1 t2 m1 hit hP hq
    have e : k = n := by omega
    subst e
    rw [w_X11_plates_65]
    exact ⟨fun _ => hq τ Kp.rf hP, fun z => absurd (Int32.le_refl _) z⟩
  | succ d ih =>
    intro k P τ hd h8 hc t1 p1 t2 m1 hit hP hq
    have nle : ¬ nI n ≤ nI k := fun z => of_eq_false (k_nle (a := n) (b := k) (by omega) (by omega)) z
    rw [plG] at hq
    rw [w_X11_plates_65]
    refine ⟨fun z => absurd z nle, fun _ => ⟨t1, ?_⟩⟩
    have outs : ¬ f + 2 * k + 1 < sz → Q (-12) τ := fun hz => by
      have := hq τ Kp.rf
      rw [if_neg hz] at this
      exact this hP
    by_cases c0 : f < sz
    · refine has7_t t1 m1 hsz c0 ⟨fun z => absurd z (by decide), fun _ => ⟨t1, ?_⟩⟩
      have e2 : nI f + 2 * nI k = nI (f + 2 * k) := by rw [show (2 : Int32) = nI 2 from rfl, k_mul, nI_add]
      have e3 : nI (f + 2 * k) + 1 = nI (f + 2 * k + 1) := nI_add _ 1
      rw [e2, e3]
      by_cases c1 : f + 2 * k + 1 < sz
      · rw [if_pos c1] at hq
        refine has7_t t1 m1 hsz (by omega) ⟨fun z => absurd z (by decide), fun _ => ⟨t1, has7_t t1 m1 hsz c1 ⟨fun _ => ?_, fun z => absurd z (by decide)⟩⟩⟩
        refine ⟨t1, _, p1, _, t2, vp_in_nI (by omega) (by omega), t1, _, p1, _, t2, vp_in_nI (by omega) (by omega), ?_⟩
        rw [k_cl (by omega), k_cl (by omega), hit _ (by omega), hit _ (by omega)]
        refine plC h8 hP (fun r τ1 k1 hP1 hr => ?_)
        unfold w_X11_plates_150
        rw [show nI k + 1 = nI (k + 1) from nI_add k 1]
        have nx := ih (k + 1) (plS (it (f + 2 * k)) (it (f + 2 * k + 1)) P) τ1 (by omega) (plS_8 h8).1 (plS_c hc) (by rw [k1.2.1]; exact t1) (by rw [k1.1]; exact p1) (by rw [k1.2.1]; exact t2) (by rw [k1.2.2.2 _ _ (by omega)]; exact m1) (fun j hj => by rw [k1.2.2.2 _ _ (by omega)]; exact hit j hj) hP1 (fun τ' k2 => hq τ' (k1.tr k2))
        rcases hr with ⟨r1, r2⟩ | ⟨r1, r2⟩
        · rw [r2] at nx
          exact ⟨fun _ => nx, fun z => absurd r1 z⟩
        · rw [r2] at nx
          refine ⟨fun z => absurd z r1, fun _ => ?_⟩
          rw [show nI P.2.1 + 1 = nI (P.2.1 + 1) from nI_add _ 1]
          exact nx
      · by_cases c2 : f + 2 * k < sz
        · refine has7_t t1 m1 hsz c2 ⟨fun z => absurd z (by decide), fun _ => ⟨t1, has7_f t1 m1 (fun q => ?_) ⟨fun z => absurd rfl z, fun _ => outs c1⟩⟩⟩
          rw [nI_ltI (by omega) (by omega)] at q
          omega
        · refine has7_f t1 m1 (fun q => ?_) ⟨fun _ => outs c1, fun z => absurd rfl z⟩
          rw [nI_ltI (by omega) (by omega)] at q
          omega
    · refine has7_f t1 m1 (fun q => ?_) ⟨fun _ => outs (by omega), fun z => absurd rfl z⟩
      rw [nI_ltI (by omega) (by omega)] at q
      omega
set_option maxHeartbeats 1000000 in
theorem ptM {Q : Int32 → Mem → Prop} {s sz f n : Nat} {it : Nat → Int32} (hs : s < 4) (hsz : sz ≤ 40) (hf : f < 2147483648) (hn : n ≤ 8) : ∀ (d k : Nat) (P : PS) (τ : Mem), k + d = n → P.1 ≤ 8 → P.2.1 ≤ k → mI τ 65 s = nI sz → (∀ j, j < 40 → mI τ 66 (40 * s + j) = it j) → okP 37 0 38 39 τ P → (∀ τ', Kp (fun a k => (a = 37 ∧ k = 0) ∨ a = 38 ∨ a = 39) τ τ' → okP 37 0 38 39 τ' (plG sz it f d k P).2 → Q (plG sz it f d k P).1 τ') → w_X12_plates_70 Q (d + 1) (nI s) (nI f) (nI n) (nI P.2.1) (nI k) τ := by
  have vs : vp_in (nI s) 4 := vp_in_nI (by omega) (by omega)
  intro d
  induction d with
  | zero =>
    intro k P τ hd h8 hc m1 hit hP hq
    have e : k = n := by omega
    subst e
    rw [w_X12_plates_70]
    exact ⟨fun _ => hq τ Kp.rf hP, fun z => absurd (Int32.le_refl _) z⟩
  | succ d ih =>
    intro k P τ hd h8 hc m1 hit hP hq
    have nle : ¬ nI n ≤ nI k := fun z => of_eq_false (k_nle (a := n) (b := k) (by omega) (by omega)) z
    rw [plG] at hq
    rw [w_X12_plates_70]
    refine ⟨fun z => absurd z nle, fun _ v hv => ?_⟩
    rw [nI_l hf, nI_l (by omega), show (2 : Int64) = lN 2 from rfl, lN_mul, lN_add] at hv
    subst hv
    have z0 : ¬ lg_cmp (lN (f + 2 * k)) 0 < 0 := by
      unfold lg_cmp
      have e0 : (0 : Int64) = lN 0 := rfl
      rw [e0]
      by_cases c : lN (f + 2 * k) > lN 0
      · rw [if_pos c]; decide
      · rw [if_neg c]
        have : f + 2 * k = 0 := by
          have c' : ¬ lN 0 < lN (f + 2 * k) := c
          rw [pk_lLT (by omega) (by omega)] at c'
          omega
        rw [if_pos (by rw [this])]; decide
    refine ⟨fun z => absurd z z0, fun _ => ⟨vs, ?_⟩⟩
    rw [k_cl (a := s) (by omega), m1, nI_l (by omega), lN_1]
    have z1 : lg_cmp (lN (f + 2 * k + 1)) (lN sz) < 0 ↔ f + 2 * k + 1 < sz := by
      unfold lg_cmp
      by_cases c : f + 2 * k + 1 < sz
      · rw [if_neg (by show ¬ lN sz < lN (f + 2 * k + 1); rw [pk_lLT (by omega) (by omega)]; omega), if_neg (by rw [pk_lEQ (by omega) (by omega)]; omega)]
        exact ⟨fun _ => c, fun _ => by decide⟩
      · refine ⟨fun z => ?_, fun z => absurd z c⟩
        exfalso
        by_cases c2 : sz < f + 2 * k + 1
        · rw [if_pos (by show lN sz < lN (f + 2 * k + 1); rw [pk_lLT (by omega) (by omega)]; exact c2)] at z
          exact absurd z (by decide)
        · have e : f + 2 * k + 1 = sz := by omega
          rw [e, if_neg (by show ¬ lN sz < lN sz; rw [pk_lLT (by omega) (by omega)]; omega), if_pos rfl] at z
          exact absurd z (by decide)
    rw [z1]
    refine ⟨fun c1 v2 hv2 => ?_, fun c1 => ?_⟩
    · rw [if_pos c1] at hq
      rw [lN_i, show (40 : Int32) = nI 40 from rfl, k_mul, nI_add] at hv2
      subst hv2
      rw [show nI (40 * s + (f + 2 * k)) + 1 = nI (40 * s + (f + 2 * k + 1)) from nI_add _ 1, k_cl (by omega), k_cl (by omega), hit _ (by omega), hit _ (by omega)]
      refine ⟨vp_in_nI (by omega) (by omega), vp_in_nI (by omega) (by omega), plM h8 hP (fun r τ1 k1 hP1 hr => ?_)⟩
      unfold w_X12_plates_154
      rw [show nI k + 1 = nI (k + 1) from nI_add k 1]
      have nx := ih (k + 1) (plS (it (f + 2 * k)) (it (f + 2 * k + 1)) P) τ1 (by omega) (plS_8 h8).1 (plS_c hc) (by rw [k1.2.2.2 _ _ (by omega)]; exact m1) (fun j hj => by rw [k1.2.2.2 _ _ (by omega)]; exact hit j hj) hP1 (fun τ' k2 => hq τ' (k1.tr k2))
      rcases hr with ⟨r1, r2⟩ | ⟨r1, r2⟩
      · rw [r2] at nx
        refine ⟨fun _ => ?_, fun z => absurd r1 z⟩
        rw [show nI P.2.1 + 0 = nI P.2.1 from nI_add _ 0]
        exact nx
      · rw [r2] at nx
        refine ⟨fun z => absurd z r1, fun _ => ?_⟩
        rw [show nI P.2.1 + 1 = nI (P.2.1 + 1) from nI_add _ 1]
        exact nx
    · have := hq τ Kp.rf
      rw [if_neg c1] at this
      exact this hP
theorem plS_b {u v : Int32} {P : PS} (h : ∀ i, i < P.1 → bnd (P.2.2.1 i) ∧ bnd (P.2.2.2 i)) : ∀ i, i < (plS u v P).1 → bnd ((plS u v P).2.2.1 i) ∧ bnd ((plS u v P).2.2.2 i) := by
  unfold plS
  by_cases c : 0 ≤ u ∧ u ≤ 99 ∧ 0 ≤ v ∧ v ≤ 99 ∧ P.1 < 8
  · rw [if_pos c]
    intro i hi
    have hi' : i < P.1 + 1 := hi
    show bnd (if i = P.1 then u else P.2.2.1 i) ∧ bnd (if i = P.1 then v else P.2.2.2 i)
    by_cases e : i = P.1
    · rw [if_pos e, if_pos e]; exact ⟨bnd_of ⟨c.1, c.2.1⟩, bnd_of ⟨c.2.2.1, c.2.2.2.1⟩⟩
    · rw [if_neg e, if_neg e]; exact h i (by omega)
  · rw [if_neg c]; exact h
theorem plG_ok {sz : Nat} {it : Nat → Int32} {f : Nat} : ∀ (d k : Nat) (P : PS), P.1 ≤ 8 → (∀ i, i < P.1 → bnd (P.2.2.1 i) ∧ bnd (P.2.2.2 i)) → (plG sz it f d k P).2.1 ≤ 8 ∧ P.1 ≤ (plG sz it f d k P).2.1 ∧ ∀ i, i < (plG sz it f d k P).2.1 → bnd ((plG sz it f d k P).2.2.2.1 i) ∧ bnd ((plG sz it f d k P).2.2.2.2 i)
  | 0, k, P, h8, hb => ⟨h8, Nat.le_refl _, hb⟩
  | d + 1, k, P, h8, hb => by
    rw [plG]
    by_cases c : f + 2 * k + 1 < sz
    · rw [if_pos c]
      have h1 := plS_8 (u := it (f + 2 * k)) (v := it (f + 2 * k + 1)) h8
      obtain ⟨g1, g2, g3⟩ := plG_ok (sz := sz) (it := it) (f := f) d (k + 1) _ h1.1 (plS_b hb)
      exact ⟨g1, Nat.le_trans h1.2 g2, g3⟩
    · rw [if_neg c]
      exact ⟨h8, Nat.le_refl _, hb⟩
set_option maxHeartbeats 2000000 in
theorem p_plates (σ : Mem) (x0 x1 x2 x3 : Int32) (h : Rel σ) : w_X11_plates σ x0 x1 x2 x3 (fun r1 s1 => w_X12_plates s1 x0 x1 x2 x3 (fun r2 s2 => r1 = r2 ∧ Rel s2)) := by
  obtain ⟨N, L, T, hx⟩ := h.x
  have hx0 := hx
  obtain ⟨hS, hL, hPl, hLa, hTx, hHi, hTa, hTb, hIm, hSh, hMo⟩ := hx0
  unfold w_X11_plates
  by_cases c : 0 ≤ x0 ∧ x0 ≤ 3
  · obtain ⟨i, sz, so, hi, rfl, hsz, hso, hf⟩ := sheet_cases hx c
    obtain ⟨f1, f2, f3, f4, f5, f6, f7, f8, f9⟩ := hf σ Kp.rf
    have vi : vp_in (nI i) 4 := vp_in_nI (by omega) (by omega)
    have ei : (nI i).toNatClampNeg = i := k_cl (by omega)
    refine (sheetAt_t hi f1).mpr ⟨fun z => (by cases z), fun r hr => ?_⟩
    cases hr
    by_cases cs : 0 ≤ x1 ∧ x1 ≤ 2
    · by_cases cn : 0 ≤ x3 ∧ x3 ≤ 8
      · obtain ⟨n, hn, rfl⟩ := nI_of2 (M := 8) (n := 8) (by decide) (Int32.not_lt.mpr cn.1) cn.2
        have model : ∀ (v : Int32) (s1 : Mem), mI s1 64 i = so → (so < 0 → v = -11 ∧ Rel s1) → (0 ≤ so → so ≠ x1 → v = -13 ∧ Rel s1) → (0 ≤ so → so = x1 → ∃ m101 : Nat, w_X12_plates_70 (fun r2 s2 => v = r2 ∧ Rel s2) m101 (nI i) x2 (nI n) 0 0 s1) → w_X12_plates s1 (nI i) x1 x2 (nI n) (fun r2 s2 => v = r2 ∧ Rel s2) := by
          intro v s1 a1 h1 h2 h3
          unfold w_X12_plates w_X12_plates_52
          refine r_isSheet.mpr ((in_t c).mpr ⟨fun z => absurd z (by decide), fun _ => (in_t cs).mpr ⟨fun z => absurd z (by decide), fun _ => (in_t cn).mpr ⟨fun _ => ?_, fun z => absurd z (by decide)⟩⟩⟩)
          rw [ei, a1]
          refine ⟨vi, fun z => ⟨vi, fun y => absurd z (Int32.not_lt.mpr y), fun _ => h1 z⟩, fun z => ⟨vi, fun y => ⟨vi, fun w => h3 w y, fun w => absurd (Int32.not_lt.mp z) w⟩, fun y => h2 (Int32.not_lt.mp z) y⟩⟩
        refine ⟨fun z => absurd cs.1 (Int32.not_le.mpr z), fun _ => ⟨fun z => absurd cs.2 (Int32.not_le.mpr z), fun _ => ⟨fun z => absurd cn.1 (Int32.not_le.mpr z), fun _ => ⟨fun _ => ⟨f2, ?_⟩, fun z => absurd cn.2 z⟩⟩⟩⟩
        rcases so_neg hso with ⟨e1, e2⟩ | ⟨e1, e2⟩
        · refine missing_ok f2 f5 (fun _ => ⟨fun z => absurd z (by decide), fun _ => ?_⟩) (fun z => absurd e1 z)
          exact model _ σ f7 (fun _ => ⟨rfl, h⟩) (fun z => absurd z e2) (fun z => absurd z e2)
        · refine missing_ok f2 f5 (fun z => absurd z e1) (fun _ => ⟨fun _ => ⟨f2, ?_⟩, fun z => absurd rfl z⟩)
          have neg : ¬ so < 0 := Int32.not_lt.mpr e2
          rw [f5]
          refine ⟨fun ce => ?_, fun ce => model _ σ f7 (fun z => absurd z neg) (fun _ _ => ⟨rfl, h⟩) (fun _ z => absurd z ce)⟩
          obtain ⟨hN, g1, g2, g3⟩ := hPl
          have hP0 : okP 0 2 1 2 σ (N, 0, fun i => mI σ 1 i, fun i => mI σ 2 i) := ⟨g1, fun i hi => ⟨rfl, rfl⟩⟩
          have hb0 : ∀ i, i < N → bnd (mI σ 1 i) ∧ bnd (mI σ 2 i) := fun i hi => ⟨(g3 i hi).2.1, (g3 i hi).2.2.2⟩
          by_cases cf : x2 < 0
          · -- nothing stands there
            rcases Nat.eq_zero_or_pos n with e0 | hp
            · subst e0
              refine ⟨1, ?_⟩
              rw [w_X11_plates_65]
              refine ⟨fun _ => model _ σ f7 (fun z => absurd z neg) (fun _ z => absurd ce z) (fun _ _ => ⟨1, ?_⟩), fun z => absurd (Int32.le_refl _) z⟩
              rw [w_X12_plates_70]
              exact ⟨fun _ => ⟨rfl, h⟩, fun z => absurd (Int32.le_refl _) z⟩
            · have nle : ¬ nI n ≤ 0 := fun z => of_eq_false (k_nle (a := n) (b := 0) (by omega) (by omega)) z
              refine ⟨1, ?_⟩
              rw [w_X11_plates_65]
              refine ⟨fun z => absurd z nle, fun _ => ⟨f2, has7_f f2 f6 (fun q => absurd q.1 (Int32.not_le.mpr cf)) ⟨fun _ => ?_, fun z => absurd rfl z⟩⟩⟩
              refine model _ σ f7 (fun z => absurd z neg) (fun _ z => absurd ce z) (fun _ _ => ⟨1, ?_⟩)
              rw [w_X12_plates_70]
              refine ⟨fun z => absurd z nle, fun _ v hv => ?_⟩
              have hneg : v < 0 := by
                rw [hv]
                have e2 : (2 : Int64) * (0 : Int32).toInt64 = 0 := by decide
                rw [e2, Int64.add_zero]
                rw [fa_lt64, Int32.toInt_toInt64]
                rw [fa_lt] at cf
                exact cf
              have hc : lg_cmp v 0 < 0 := by
                unfold lg_cmp
                have q1 : ¬ v > 0 := fun z => by
                  have z' : (0 : Int64) < v := z
                  rw [fa_lt64] at z' hneg
                  omega
                have q2 : ¬ v = 0 := fun z => by
                  rw [z] at hneg
                  exact absurd hneg (by decide)
                rw [if_neg q1, if_neg q2]; decide
              exact ⟨fun _ => ⟨rfl, h⟩, fun z => absurd hc z⟩
          · obtain ⟨f, hfl, rfl⟩ := nI_of cf
            refine ⟨n + 1, ptC (s := i) (it := fun j => mI σ (26 + 2 * i) j) hi hsz (by omega) hn n 0 (N, 0, fun i => mI σ 1 i, fun i => mI σ 2 i) σ (by omega) hN (Nat.le_refl _) f2 f3 f4 f6 (fun j hj => rfl) hP0 (fun τ1 k1 hP1 => ?_)⟩
            refine model _ τ1 (by rw [k1.2.2.2 _ _ (by omega)]; exact f7) (fun z => absurd z neg) (fun _ z => absurd ce z) (fun _ _ => ?_)
            have hP2 : okP 37 0 38 39 τ1 (N, 0, fun i => mI σ 1 i, fun i => mI σ 2 i) := ⟨by rw [k1.2.2.2 _ _ (by omega)]; exact g2, fun i hi => ⟨by rw [k1.2.2.2 _ _ (by omega)]; exact (g3 i hi).1, by rw [k1.2.2.2 _ _ (by omega)]; exact (g3 i hi).2.2.1⟩⟩
            refine ⟨n + 1, ptM (s := i) (it := fun j => mI σ (26 + 2 * i) j) hi hsz (by omega) hn n 0 (N, 0, fun i => mI σ 1 i, fun i => mI σ 2 i) τ1 (by omega) hN (Nat.le_refl _) (by rw [k1.2.2.2 _ _ (by omega)]; exact f8) (fun j hj => by rw [k1.2.2.2 _ _ (by omega)]; exact (f9 j hj).2) hP2 (fun τ2 k2 hP3 => ⟨rfl, ?_⟩)⟩
            obtain ⟨o1, o2, o3⟩ := plG_ok (sz := sz) (it := fun j => mI σ (26 + 2 * i) j) (f := f) n 0 (N, 0, fun i => mI σ 1 i, fun i => mI σ 2 i) hN hb0
            generalize plG sz (fun j => mI σ (26 + 2 * i) j) f n 0 (N, 0, fun i => mI σ 1 i, fun i => mI σ 2 i) = G at hP1 hP3 o1 o2 o3
            have kk : Kp (fun a k => (a = 0 ∧ k = 2) ∨ a = 1 ∨ a = 2 ∨ (a = 37 ∧ k = 0) ∨ a = 38 ∨ a = 39) σ τ2 := (k1.mono (fun a k q => by omega)).tr (k2.mono (fun a k q => by omega))
            refine RelX.rel (N := G.2.1) (L := L) (T := T) ⟨kk.mS hS, by rw [kk.2.2.1]; exact hL, ⟨o1, by rw [k2.2.2.2 _ _ (by omega)]; exact hP1.1, hP3.1, fun j hj => ?_⟩, hLa.fr kk (by omega) (by omega) (fun a j ha hc => by omega) (fun i => by omega) (fun i => by omega), hTx.fr kk (by omega) (by omega) (fun a j hc => by have hd := hc.dyn hTx; unfold dyn at hd; omega) (fun i => by omega) (fun i => by omega), hHi.fr kk (by omega) (by omega) (by omega) (by omega), hTa.fr kk (by omega) (by omega) (fun i => by omega) (fun i => by omega), (hTb.fr kk (by omega) (by omega) (by omega) (by omega) (fun i => by omega) (fun i => by omega) (fun i => by omega) (fun i => by omega)).mono o2, (hIm.fr kk (by omega) (fun a j hc => by have := hc.dyn hIm; omega) (fun i => by omega) (fun i => by omega)).mono o2, hSh.fr kk (fun a j h1 h2 => by omega) (fun i => by omega) (fun i => by omega) (fun i => by omega), hMo.fr kk (fun i => by omega) (fun i => by omega) (fun i => by omega)⟩
            have q1 := hP1.2 j hj
            have q3 := hP3.2 j hj
            rw [k2.2.2.2 1 j (by omega), k2.2.2.2 2 j (by omega), q3.1, q3.2, q1.1, q1.2]
            exact ⟨rfl, (o3 j hj).1, rfl, (o3 j hj).2⟩
      · have bad : w_X12_plates σ (nI i) x1 x2 x3 (fun r2 s2 => (-2 : Int32) = r2 ∧ Rel s2) := by
          unfold w_X12_plates
          exact r_isSheet.mpr ((in_t c).mpr ⟨fun z => absurd z (by decide), fun _ => (in_t cs).mpr ⟨fun z => absurd z (by decide), fun _ => (in_f cn).mpr ⟨fun z => absurd rfl z, fun _ => ⟨rfl, h⟩⟩⟩⟩)
        exact ⟨fun _ => bad, fun _ => ⟨fun _ => bad, fun _ => ⟨fun _ => bad, fun z => ⟨fun y => absurd ⟨Int32.not_lt.mp z, y⟩ cn, fun _ => bad⟩⟩⟩⟩
    · have bad : w_X12_plates σ (nI i) x1 x2 x3 (fun r2 s2 => (-2 : Int32) = r2 ∧ Rel s2) := by
        unfold w_X12_plates
        exact r_isSheet.mpr ((in_t c).mpr ⟨fun z => absurd z (by decide), fun _ => (in_f cs).mpr ⟨fun _ => ⟨rfl, h⟩, fun z => absurd rfl z⟩⟩)
      exact ⟨fun _ => bad, fun z => ⟨fun _ => bad, fun y => absurd ⟨Int32.not_lt.mp z, Int32.not_lt.mp y⟩ cs⟩⟩
  · refine (sheetAt_f c).mpr ⟨fun _ => ?_, fun r hr => (by cases hr)⟩
    unfold w_X12_plates
    exact r_isSheet.mpr ((in_f c).mpr ⟨fun _ => ⟨rfl, h⟩, fun z => absurd rfl z⟩)
