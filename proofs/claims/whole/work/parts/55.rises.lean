/-! STAGE 2: rises -/
theorem bit1 {m p : Nat} (hm : m < 256) (hp : p < 8) : ((nI m >>> (nI p &&& 31)) &&& 1 = 1 ∧ m.testBit p = true) ∨ (¬ (nI m >>> (nI p &&& 31)) &&& 1 = 1 ∧ ¬ m.testBit p = true) := by
  rw [bit8 m hm p hp]
  cases hb : m.testBit p with
  | true => exact Or.inl ⟨rfl, rfl⟩
  | false => exact Or.inr ⟨by decide, by decide⟩
set_option maxHeartbeats 1000000 in
theorem rs35 {Q : Int32 → Mem → Prop} {K : Int32 → Int32 → Int32 → Mem → Prop} {τ : Mem} {N w m most : Nat} {S : Nat → Int32} (hN : N ≤ 8) (hw : w ≤ 1) (hm : m < 256) (hmo : most ≤ 8) (h0 : mI τ 37 0 = nI N) (hS : ∀ i, i < N → mI τ 38 i = S i) : ∀ (d p : Nat) (a : Option Nat) (b : Bool), p + d = N → (∀ q, a = some q → q < p) → K (nI w) (nI (if b = true ∧ cmR (rsR S w) m d p a = true then max most (pcN m 8 0) else most)) (nI (m + 1)) τ → w_X12_rises_35 Q K (d + 1) (nI w) (nI most) (nI m) (aI a) (if b = true then 1 else 0) (nI p) τ := by
  have hpc : ∀ d p, pcN m d p ≤ d := by
    intro d
    induction d with
    | zero => intro p; exact Nat.le_refl _
    | succ d ih => intro p; rw [pcN]; have := ih (p + 1); split <;> omega
  intro d
  induction d with
  | zero =>
    intro p a b hd ha hq
    have e : p = N := by omega
    subst e
    rw [w_X12_rises_35, h0]
    unfold w_X12_rises_140
    rw [show nI m + 1 = nI (m + 1) from nI_add m 1]
    refine ⟨fun _ => ?_, fun z => absurd (Int32.le_refl _) z⟩
    cases b with
    | false =>
      rw [if_neg (fun z => by cases z.1)] at hq
      exact ⟨fun _ => hq, fun z => absurd rfl z⟩
    | true =>
      rw [if_pos ⟨rfl, rfl⟩] at hq
      refine ⟨fun z => absurd z (by decide), fun _ => bits_ok hm ?_⟩
      have h8 := hpc 8 0
      have em : (if nI most < nI (pcN m 8 0) then nI (pcN m 8 0) else nI most) = nI (max most (pcN m 8 0)) := by
        by_cases z : most < pcN m 8 0
        · rw [if_pos (nI_lt z (by omega)), Nat.max_eq_right (by omega)]
        · rw [if_neg (fun q => of_eq_false (k_nlt (a := most) (b := pcN m 8 0) (by omega) (by omega)) q), Nat.max_eq_left (by omega)]
      rw [em]
      exact hq
  | succ d ih =>
    intro p a b hd ha hq
    have nle : ¬ nI N ≤ nI p := fun z => of_eq_false (k_nle (a := N) (b := p) (by omega) (by omega)) z
    have vpp : vp_in (nI p) 8 := vp_in_nI (by omega) (by omega)
    have e1 : nI p + 1 = nI (p + 1) := nI_add p 1
    rw [cmR] at hq
    rw [w_X12_rises_35, h0]
    unfold w_X12_rises_110 w_X12_rises_106 w_X12_rises_111 w_X12_rises_117
    rw [e1]
    refine ⟨fun z => absurd z nle, fun _ => ?_⟩
    rcases bit1 hm (show p < 8 by omega) with ⟨b1, b2⟩ | ⟨b1, b2⟩
    · rw [if_pos b2] at hq
      refine ⟨fun z => absurd b1 z, fun _ => ?_⟩
      have no : (¬ (b = true ∧ okR (rsR S w) a p = true)) → w_X12_rises_35 Q K (d + 1) (nI w) (nI most) (nI m) (nI p) 0 (nI (p + 1)) τ := by
        intro hb
        have e : ¬ (b = true ∧ (if okR (rsR S w) a p = true then cmR (rsR S w) m d (p + 1) (some p) else false) = true) := by
          rintro ⟨z1, z2⟩
          by_cases c : okR (rsR S w) a p = true
          · exact hb ⟨z1, c⟩
          · rw [if_neg c] at z2; cases z2
        rw [if_neg e] at hq
        have := ih (p + 1) (some p) false (by omega) (fun q hq => by cases hq; omega) (by rw [if_neg (fun z => by cases z.1)]; exact hq)
        exact this
      have yes : b = true → okR (rsR S w) a p = true → w_X12_rises_35 Q K (d + 1) (nI w) (nI most) (nI m) (nI p) 1 (nI (p + 1)) τ := by
        intro hb hc
        rw [if_pos hc, hb] at hq
        have := ih (p + 1) (some p) true (by omega) (fun q hq => by cases hq; omega) hq
        exact this
      cases b with
      | false => exact ⟨fun _ => no (fun z => by cases z.1), fun z => absurd rfl z⟩
      | true =>
        refine ⟨fun z => absurd z (by decide), fun _ => ?_⟩
        cases a with
        | none => exact ⟨fun _ => yes rfl rfl, fun z => absurd rfl z⟩
        | some q =>
          have hqp := ha q rfl
          have vq : vp_in (nI q) 8 := vp_in_nI (by omega) (by omega)
          have q1 : ¬ aI (some q) = -1 := fun z => of_eq_false (k_eqm (a := q) (by omega)) z
          have eq0 : (aI (some q)).toNatClampNeg = q := k_cl (by omega)
          rw [eq0, k_cl (by omega), hS q (by omega), hS p (by omega)]
          have hww : w = 0 ∨ w = 1 := by omega
          rcases hww with rfl | rfl
          · refine ⟨fun z => absurd z q1, fun _ => ⟨fun z => absurd rfl z, fun _ => ⟨vpp, vq, fun y => no ?_, fun y => yes rfl ?_⟩⟩⟩
            · rintro ⟨-, z⟩
              have z' : rsR S 0 q p = true := z
              unfold rsR at z'
              rw [if_pos rfl, if_pos y] at z'; cases z'
            · show rsR S 0 q p = true
              unfold rsR
              rw [if_pos rfl, if_neg y]
          · refine ⟨fun z => absurd z q1, fun _ => ⟨fun _ => ⟨vpp, vq, fun y => no ?_, fun y => yes rfl ?_⟩, fun z => absurd z (by decide)⟩⟩
            · rintro ⟨-, z⟩
              have z' : rsR S 1 q p = true := z
              unfold rsR at z'
              rw [if_neg (by omega), if_pos y] at z'; cases z'
            · show rsR S 1 q p = true
              unfold rsR
              rw [if_neg (by omega), if_neg y]
    · rw [if_neg b2] at hq
      exact ⟨fun _ => ih (p + 1) a b (by omega) (fun q hq => by have := ha q hq; omega) hq, fun z => absurd z b1⟩
theorem rs16 {Q : Int32 → Mem → Prop} {τ : Mem} {N w : Nat} {S : Nat → Int32} (hN : N ≤ 8) (hw : w ≤ 1) (h0 : mI τ 37 0 = nI N) (hS : ∀ i, i < N → mI τ 38 i = S i) : ∀ (c m most : Nat), m + c = 2 ^ N → most ≤ 8 → Q (nI (mxS (fun m => cmR (rsR S w) m N 0 none) (fun m => pcN m 8 0) c m most)) τ → w_X12_rises_16 Q (c + 1) (nI w) (nI most) (nI m) τ := by
  have p8 := pow8 hN
  intro c
  induction c with
  | zero =>
    intro m most hc hmo hq
    have e : m = 2 ^ N := by omega
    subst e
    rw [w_X12_rises_16, h0, shl8 N hN]
    exact ⟨fun _ => hq, fun z => absurd (Int32.le_refl _) z⟩
  | succ c ih =>
    intro m most hc hmo hq
    have nle : ¬ nI (2 ^ N) ≤ nI m := fun z => of_eq_false (k_nle (a := 2 ^ N) (b := m) (by omega) (by omega)) z
    rw [w_X12_rises_16, h0, shl8 N hN]
    have hpc : ∀ d p, pcN m d p ≤ d := by
      intro d
      induction d with
      | zero => intro p; exact Nat.le_refl _
      | succ d ih => intro p; rw [pcN]; have := ih (p + 1); split <;> omega
    have h8 := hpc 8 0
    refine ⟨fun z => absurd z nle, fun _ => ⟨N + 1, ?_⟩⟩
    have := rs35 (Q := Q) (K := fun z0 z1 z2 z3 => w_X12_rises_16 Q (c + 1) z0 z1 z2 z3) (τ := τ) (most := most) (m := m) hN hw (by omega) hmo h0 hS N 0 none true (by omega) (fun q hq => by cases hq) ?_
    · exact this
    · rw [mxS] at hq
      by_cases z : cmR (rsR S w) m N 0 none = true
      · rw [if_pos z] at hq
        rw [if_pos ⟨rfl, z⟩]
        exact ih (m + 1) _ (by omega) (Nat.max_le.mpr ⟨hmo, h8⟩) hq
      · rw [if_neg z] at hq
        rw [if_neg (fun y => z y.2)]
        exact ih (m + 1) _ (by omega) hmo hq
theorem p_rises (σ : Mem) (x0 : Int32) (h : Rel σ) : w_X11_rises σ x0 (fun r1 s1 => w_X12_rises s1 x0 (fun r2 s2 => r1 = r2 ∧ Rel s2)) := by
  obtain ⟨N, L, T, hx⟩ := h.x
  obtain ⟨hN, g1, g2, g3⟩ := hx.2.2.1
  unfold w_X11_rises w_X12_rises
  refine in01 (P := True) (fun c => ?_) (fun c => (in_f c).mpr ⟨fun z => absurd rfl z, fun _ => ⟨rfl, h⟩⟩)
  obtain ⟨w, hw, rfl⟩ := nI_of2 (M := 1) (n := 1) (by decide) (Int32.not_lt.mpr c.1) c.2
  refine ⟨N + 1, by omega, rbC (S := fun i => mI σ 1 i) hN hw g1 (fun i hi => rfl) (N + 1) N 0 none _ (by omega) (by omega) rfl ?_⟩
  refine (in_t c).mpr ⟨fun _ => ⟨2 ^ N + 1, rs16 (S := fun i => mI σ 1 i) hN hw g2 (fun i hi => (g3 i hi).1) (2 ^ N) 0 0 (by omega) (by omega) ⟨?_, h⟩⟩, fun z => absurd z (by decide)⟩
  rw [mxS_row hN]
