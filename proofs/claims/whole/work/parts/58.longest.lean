/-! STAGE 2: longest -/
/-- most, how many, in all, the first -/
abbrev LG : Type := Nat × Nat × Int32 × Int32
def lgS (row : Nat → Bool) (m : Nat) (A : LG) : LG := if row m = true ∧ A.1 ≤ pcN m 8 0 then (if A.1 < pcN m 8 0 then (pcN m 8 0, 1, nI m, nI m) else (pcN m 8 0, A.2.1 + 1, A.2.2.1 &&& nI m, A.2.2.2)) else A
def lgG (row : Nat → Bool) : Nat → Nat → LG → LG
  | 0, _, A => A
  | c + 1, m, A => lgG row c (m + 1) (lgS row m A)
def lgV (w : Nat) (A : LG) : Int32 := if w = 0 then nI A.1 else if w = 1 then nI A.2.1 else if w = 2 then A.2.2.1 else A.2.2.2
theorem pc_le8 (m : Nat) : ∀ d p, pcN m d p ≤ d := by
  intro d
  induction d with
  | zero => intro p; exact Nat.le_refl _
  | succ d ih => intro p; rw [pcN]; have := ih (p + 1); split <;> omega
theorem lgS_8 {row : Nat → Bool} {m : Nat} {A : LG} (h : A.1 ≤ 8) : (lgS row m A).1 ≤ 8 := by
  have := pc_le8 m 8 0
  unfold lgS
  split
  · split <;> exact this
  · exact h
section LongestA
variable {σ : Mem} {T N : Nat} {E : EN}
set_option maxHeartbeats 1000000 in
theorem lgC {Q : Int32 → Mem → Prop} {τ : Mem} {cv : Nat → Nat} {w : Nat} (hN : N ≤ 8) (hw : w ≤ 3) (h02 : mI τ 0 2 = nI N) (h24 : ∀ i, i < 2 ^ N → mI τ 24 i = nI (cv i)) (hsp : ∀ i, i < 2 ^ N → spC E N cv i) : ∀ (c m : Nat) (A : LG), m + c = 2 ^ N → 0 < m → A.1 ≤ 8 → Q (lgV w (lgG (fun m => cmR (rowR E) m N 0 none) c m A)) τ → w_X11_longest_29 Q (c + 1) (nI w) (nI A.1) (nI A.2.1) A.2.2.1 A.2.2.2 (nI m) τ := by
  have p8 := pow8 hN
  intro c
  induction c with
  | zero =>
    intro m A hc hm0 hA hq
    have e : m = 2 ^ N := by omega
    subst e
    rw [w_X11_longest_29, h02, shl8 N hN]
    refine ⟨fun _ => ?_, fun z => absurd (Int32.le_refl _) z⟩
    rw [lgG] at hq
    unfold lgV at hq
    have hc : w = 0 ∨ w = 1 ∨ w = 2 ∨ w = 3 := by omega
    rcases hc with rfl | rfl | rfl | rfl
    · exact ⟨fun _ => hq, fun z => absurd z (by decide), fun z => absurd z (by decide), fun z => absurd rfl z⟩
    · exact ⟨fun z => absurd z (by decide), fun _ => hq, fun z => absurd z (by decide), fun _ z => absurd rfl z⟩
    · exact ⟨fun z => absurd z (by decide), fun z => absurd z (by decide), fun _ => hq, fun _ _ z => absurd rfl z⟩
    · exact ⟨fun z => absurd z (by decide), fun z => absurd z (by decide), fun z => absurd z (by decide), fun _ _ _ => hq⟩
  | succ c ih =>
    intro m A hc hm0 hA hq
    have nle : ¬ nI (2 ^ N) ≤ nI m := fun z => of_eq_false (k_nle (a := 2 ^ N) (b := m) (by omega) (by omega)) z
    have e1 : nI m + 1 = nI (m + 1) := nI_add m 1
    have hpc := pc_le8 m 8 0
    have hsr := hsp m (by omega)
    have hone := hsr.one hm0
    have hle := hsr.ge.1
    rw [lgG] at hq
    have nx := ih (m + 1) (lgS (fun m => cmR (rowR E) m N 0 none) m A) (by omega) (by omega) (lgS_8 hA) hq
    have ev1 : nI (cv m) = 1 ↔ cv m = 1 := by rw [show (1 : Int32) = nI 1 from rfl, nI_eq (by omega) (by omega)]
    rw [w_X11_longest_29, h02, shl8 N hN]
    refine ⟨fun z => absurd z nle, fun _ => bitCount_ok (by omega) ⟨vp_in_nI (by omega) (by omega), ?_⟩⟩
    unfold w_X11_longest_78 w_X11_longest_95 w_X11_longest_111 w_X11_longest_125 w_X11_longest_127
    rw [k_cl (by omega), h24 m (by omega), ev1, hone, e1]
    unfold lgS at nx
    refine ⟨fun z => ?_, fun z => ⟨fun y => ⟨fun x => ?_, fun x => ?_⟩, fun y => ?_⟩⟩
    · rw [if_neg (fun q => z q.1)] at nx
      exact nx
    · have y' : A.1 ≤ pcN m 8 0 := by
        rcases Nat.lt_or_ge (pcN m 8 0) A.1 with q | q
        · exact absurd y (fun z => of_eq_false (k_nle (a := A.1) (b := pcN m 8 0) q (by omega)) z)
        · exact q
      have x' : ¬ A.1 < pcN m 8 0 := by
        intro q
        exact absurd x (fun z => of_eq_false (k_nle (a := pcN m 8 0) (b := A.1) q (by omega)) z)
      rw [if_pos ⟨z, y'⟩, if_neg x'] at nx
      refine ⟨fun _ => ⟨fun _ => ⟨fun _ => ?_, fun z => absurd rfl z⟩, fun z => absurd rfl z⟩, fun z => absurd rfl z⟩
      rw [show nI A.2.1 + 1 = nI (A.2.1 + 1) from nI_add _ 1]
      exact nx
    · have x' : A.1 < pcN m 8 0 := by
        rcases Nat.lt_or_ge A.1 (pcN m 8 0) with q | q
        · exact q
        · exact absurd (nI_le q (by omega)) x
      rw [if_pos ⟨z, by omega⟩, if_pos x'] at nx
      exact ⟨fun z => absurd z (by decide), fun _ => ⟨fun z => absurd z (by decide), fun _ => ⟨fun z => absurd z (by decide), fun _ => nx⟩⟩⟩
    · have y' : ¬ A.1 ≤ pcN m 8 0 := fun q => y (nI_le q (by omega))
      rw [if_neg (fun q => y' q.2)] at nx
      exact nx
theorem couldM {Q : Int32 → Mem → Prop} {τ : Mem} {p q : Nat} (hE : Env σ T N E.1 E.2.1 E.2.2.1 E.2.2.2) (hk : Kp (SC σ T) σ τ) (hp : p < N) (hq0 : q < N) (hq : ∀ τ', Kp (fun a _ => a = 49 ∨ a = 50) τ τ' → Q (if rowR E q p = true then 0 else 1) τ') : w_X12_couldLie τ (nI p) (nI q) Q := by
  have hN := hE.1
  obtain ⟨-, -, -, -, hSD⟩ := hE.2.2.2.2.2.1 τ hk
  have vq : vp_in (nI q) 8 := vp_in_nI (by omega) (by omega)
  unfold w_X12_couldLie
  rw [k_cl (by omega), (hSD q hq0).2.2.1, (hSD q hq0).2.2.2]
  refine ⟨vq, vq, name_ok (by omega) (hSD p hp).2.2.1 (hSD p hp).2.2.2 (fun τ1 k1 g1 => ?_)⟩
  have k1' : Kp (fun a _ => a = 49 ∨ a = 50) τ τ1 := k1.mono (fun a _ q => Or.inr q)
  refine hE.2.2.2.2.2.2.2 τ1 0 _ _ (hk.m5 k1') (by omega) g1 (fun τ2 k2 => ?_)
  have := hq τ2 (k1'.tr (k2.mono (fun a _ q => Or.inl q)))
  unfold rowR at this
  refine ⟨fun y => ?_, fun y => ?_⟩
  · rw [if_pos y, if_pos rfl] at this; exact this
  · rw [if_neg y, if_neg (by decide)] at this; exact this
set_option maxHeartbeats 1000000 in
theorem isRowM_go {Q : Int32 → Mem → Prop} {m : Nat} (hE : Env σ T N E.1 E.2.1 E.2.2.1 E.2.2.2) (hm : m < 256) : ∀ (d p : Nat) (a : Option Nat) (τ : Mem), p + d = N → (∀ q, a = some q → q < p) → Kp (SC σ T) σ τ → (∀ τ', Kp (fun a _ => a = 49 ∨ a = 50) τ τ' → Q (if cmR (rowR E) m d p a = true then 1 else 0) τ') → w_X12_isRow_7 Q (d + 1) (nI m) (aI a) 1 (nI p) τ := by
  have hN := hE.1
  intro d
  induction d with
  | zero =>
    intro p a τ hd ha hk hq
    have e : p = N := by omega
    subst e
    rw [w_X12_isRow_7, (hE.2.2.2.2.2.1 τ hk).2.1]
    exact ⟨fun _ => ⟨bz1, hq τ Kp.rf⟩, fun z => absurd (Int32.le_refl _) z⟩
  | succ d ih =>
    intro p a τ hd ha hk hq
    have nle : ¬ nI N ≤ nI p := fun z => of_eq_false (k_nle (a := N) (b := p) (by omega) (by omega)) z
    have e1 : nI p + 1 = nI (p + 1) := nI_add p 1
    rw [cmR] at hq
    rw [w_X12_isRow_7, (hE.2.2.2.2.2.1 τ hk).2.1]
    unfold w_X12_isRow_45 w_X12_isRow_50 w_X12_isRow_54
    rw [e1]
    refine ⟨fun z => absurd z nle, fun _ => ⟨fun z => absurd z (by decide), fun _ => ?_⟩⟩
    rcases bit1 hm (show p < 8 by omega) with ⟨b1, b2⟩ | ⟨b1, b2⟩
    · rw [if_pos b2] at hq
      refine ⟨fun z => absurd b1 z, fun _ => ?_⟩
      cases a with
      | none =>
        refine ⟨fun _ => ?_, fun z => absurd rfl z⟩
        have : okR (rowR E) none p = true := rfl
        rw [if_pos this] at hq
        exact ih (p + 1) (some p) τ (by omega) (fun q hq => by cases hq; omega) hk hq
      | some q =>
        have hqp := ha q rfl
        have q1 : ¬ aI (some q) = -1 := fun z => of_eq_false (k_eqm (a := q) (by omega)) z
        refine ⟨fun z => absurd z q1, fun _ => couldM hE hk (by omega) (by omega) (fun τ1 k1 => ?_)⟩
        by_cases c : rowR E q p = true
        · rw [if_pos c]
          have c' : okR (rowR E) (some q) p = true := c
          rw [if_pos c'] at hq
          refine ⟨fun z => absurd rfl z, fun _ => ?_⟩
          exact ih (p + 1) (some p) τ1 (by omega) (fun q hq => by cases hq; omega) (hk.m5 k1) (fun τ2 k2 => hq τ2 (k1.tr k2))
        · rw [if_neg c]
          have c' : ¬ okR (rowR E) (some q) p = true := c
          rw [if_neg c', if_neg (by decide)] at hq
          refine ⟨fun _ => ?_, fun z => absurd z (by decide)⟩
          show w_X12_isRow_7 Q (d + 1) (nI m) (nI p) 0 (nI (p + 1)) τ1
          rw [w_X12_isRow_7, (hE.2.2.2.2.2.1 τ1 (hk.m5 k1)).2.1]
          exact ⟨fun _ => ⟨bz0, hq τ1 k1⟩, fun _ => ⟨fun _ => ⟨bz0, hq τ1 k1⟩, fun z => absurd rfl z⟩⟩
    · rw [if_neg b2] at hq
      exact ⟨fun _ => ih (p + 1) a τ (by omega) (fun q hq => by have := ha q hq; omega) hk hq, fun z => absurd z b1⟩
set_option maxHeartbeats 1000000 in
theorem lgM {Q : Int32 → Mem → Prop} {w : Nat} (hE : Env σ T N E.1 E.2.1 E.2.2.1 E.2.2.2) (hw : w ≤ 3) : ∀ (c m : Nat) (A : LG) (τ : Mem), m + c = 2 ^ N → 0 < m → A.1 ≤ 8 → Kp (SC σ T) σ τ → (∀ τ', Kp (fun a _ => a = 49 ∨ a = 50) τ τ' → Q (lgV w (lgG (fun m => cmR (rowR E) m N 0 none) c m A)) τ') → w_X12_longest_25 Q (c + 1) (nI w) (nI A.1) (nI A.2.1) A.2.2.1 A.2.2.2 (nI m) τ := by
  have hN := hE.1
  have p8 := pow8 hN
  intro c
  induction c with
  | zero =>
    intro m A τ hc hm0 hA hk hq
    have e : m = 2 ^ N := by omega
    subst e
    rw [w_X12_longest_25, (hE.2.2.2.2.2.1 τ hk).2.1, shl8 N hN]
    refine ⟨fun _ => ?_, fun z => absurd (Int32.le_refl _) z⟩
    have hq := hq τ Kp.rf
    rw [lgG] at hq
    unfold lgV at hq
    have hc : w = 0 ∨ w = 1 ∨ w = 2 ∨ w = 3 := by omega
    rcases hc with rfl | rfl | rfl | rfl
    · exact ⟨fun z => absurd rfl z, fun _ => hq⟩
    · exact ⟨fun _ => ⟨fun z => absurd rfl z, fun _ => hq⟩, fun z => absurd z (by decide)⟩
    · exact ⟨fun _ => ⟨fun _ => ⟨fun z => absurd rfl z, fun _ => hq⟩, fun z => absurd z (by decide)⟩, fun z => absurd z (by decide)⟩
    · exact ⟨fun _ => ⟨fun _ => ⟨fun _ => hq, fun z => absurd z (by decide)⟩, fun z => absurd z (by decide)⟩, fun z => absurd z (by decide)⟩
  | succ c ih =>
    intro m A τ hc hm0 hA hk hq
    have nle : ¬ nI (2 ^ N) ≤ nI m := fun z => of_eq_false (k_nle (a := 2 ^ N) (b := m) (by omega) (by omega)) z
    have e1 : nI m + 1 = nI (m + 1) := nI_add m 1
    have hpc := pc_le8 m 8 0
    rw [lgG] at hq
    have nx : ∀ τ1, Kp (fun a _ => a = 49 ∨ a = 50) τ τ1 → _ := fun τ1 k1 => ih (m + 1) (lgS (fun m => cmR (rowR E) m N 0 none) m A) τ1 (by omega) (by omega) (lgS_8 hA) (hk.m5 k1) (fun τ2 k2 => hq τ2 (k1.tr k2))
    rw [w_X12_longest_25, (hE.2.2.2.2.2.1 τ hk).2.1, shl8 N hN]
    refine ⟨fun z => absurd z nle, fun _ => bits_ok (by omega) ?_⟩
    unfold w_X12_longest_74 w_X12_longest_89 w_X12_longest_104 w_X12_longest_108
    rw [e1]
    unfold lgS at nx
    refine ⟨fun z => ?_, fun z => ?_⟩
    · have z' : ¬ A.1 ≤ pcN m 8 0 := fun q => by
        exact absurd z (fun z => of_eq_false (k_nlt (a := pcN m 8 0) (b := A.1) q (by omega)) z)
      have := nx τ Kp.rf
      rw [if_neg (fun q => z' q.2)] at this
      exact this
    · have z' : A.1 ≤ pcN m 8 0 := by
        rcases Nat.lt_or_ge (pcN m 8 0) A.1 with q | q
        · exact absurd (nI_lt q (by omega)) z
        · exact q
      unfold w_X12_isRow
      refine ⟨N + 1, isRowM_go hE (by omega) N 0 none τ (by omega) (fun q hq => by cases hq) hk (fun τ1 k1 => ?_)⟩
      have nx1 := nx τ1 k1
      by_cases cr : cmR (rowR E) m N 0 none = true
      · rw [if_pos cr]
        refine ⟨fun z => absurd z (by decide), fun _ => ⟨fun x => ?_, fun x => ?_⟩⟩
        · have x' : ¬ A.1 < pcN m 8 0 := fun q => absurd x (fun z => of_eq_false (k_nle (a := pcN m 8 0) (b := A.1) q (by omega)) z)
          rw [if_pos ⟨cr, z'⟩, if_neg x'] at nx1
          refine ⟨fun _ => ⟨fun _ => ?_, fun q => absurd x q⟩, fun q => absurd x q⟩
          rw [show nI A.2.1 + 1 = nI (A.2.1 + 1) from nI_add _ 1]
          exact nx1
        · have x' : A.1 < pcN m 8 0 := by
            rcases Nat.lt_or_ge A.1 (pcN m 8 0) with q | q
            · exact q
            · exact absurd (nI_le q (by omega)) x
          rw [if_pos ⟨cr, z'⟩, if_pos x'] at nx1
          exact ⟨fun q => absurd q x, fun _ => ⟨fun q => absurd q x, fun _ => nx1⟩⟩
      · rw [if_neg cr]
        rw [if_neg (fun q => cr q.1)] at nx1
        exact ⟨fun _ => nx1, fun z => absurd rfl z⟩
end LongestA
theorem m5.sc {σ : Mem} {T : Nat} {τ τ' : Mem} (h : Kp (SC0 σ T) σ τ) (k : Kp (fun a _ => a = 49 ∨ a = 50) τ τ') : Kp (SC0 σ T) σ τ' := h.tr (k.mono (fun a i q => by unfold SC0; omega))
theorem FV.n53 {σ : Mem} {T N : Nat} {E : EN} (hE : Env σ T N E.1 E.2.1 E.2.2.1 E.2.2.2) {τ τ' : Mem} (k : Kp (FV σ T) τ τ') {a : Nat} (ha : 37 ≤ a ∧ a < 68) (j : Nat) : mI τ' a j = mI τ a j := by
  refine k.2.2.2 _ _ (fun q => ?_)
  rcases q with q | q
  · have := hE.2.2.2.2.1 _ q; omega
  · omega
set_option maxHeartbeats 1000000 in
theorem p_longest (σ : Mem) (x0 : Int32) (h : Rel σ) : w_X11_longest σ x0 (fun r1 s1 => w_X12_longest s1 x0 (fun r2 s2 => r1 = r2 ∧ Rel s2)) := by
  obtain ⟨N, L, T, hx⟩ := h.x
  obtain ⟨E, hE, -, -⟩ := env_ex hx
  have hN := hE.1
  have h53 : ∀ j, j < 8 → mI σ 53 j = nI j := hx.2.2.2.2.2.2.2.2.2.2.1
  have p2 := Nat.two_pow_pos N
  unfold w_X11_longest w_X12_longest
  by_cases c : 0 ≤ x0 ∧ x0 ≤ 3
  · obtain ⟨w, hw, rfl⟩ := nI_of2 (M := 3) (n := 3) (by decide) (Int32.not_lt.mpr c.1) c.2
    refine ⟨fun z => absurd c.1 (Int32.not_le.mpr z), fun _ => ⟨fun _ => fillC hE Kp.rf (fun τ1 cv k1 g1 g2 => ?_), fun z => absurd c.2 z⟩⟩
    have hk1 : Kp (SC0 σ T) σ τ1 := k1.mono (fun a k q => q.sc)
    refine ⟨(2 ^ N - 1) + 1, lgC (E := E) hN hw (hE.2.2.2.2.2.1 τ1 hk1.s0).1 g1 g2 (2 ^ N - 1) 1 (0, 0, 0, 0) (by omega) (by omega) (by show 0 ≤ 8; omega) ?_⟩
    refine (in_t c).mpr ⟨fun _ => ⟨(2 ^ N - 1) + 1, lgM hE hw (2 ^ N - 1) 1 (0, 0, 0, 0) τ1 (by omega) (by omega) (by show 0 ≤ 8; omega) hk1.s0 (fun τ2 k2 => ⟨rfl, ?_⟩)⟩, fun z => absurd z (by decide)⟩
    refine (hx.sc (m5.sc hk1 k2) (fun j hj => ?_)).rel
    rw [k2.2.2.2 _ _ (by omega), FV.n53 hE k1 (by omega)]
    exact h53 j hj
  · exact ⟨fun z => (in_f c).mpr ⟨fun z => absurd rfl z, fun _ => ⟨rfl, h⟩⟩, fun z => ⟨fun z2 => absurd ⟨Int32.not_lt.mp z, z2⟩ c, fun z2 => (in_f c).mpr ⟨fun z => absurd rfl z, fun _ => ⟨rfl, h⟩⟩⟩⟩
