/-! STAGE 2: which bits make a row; how few rows make up a set -/
def cyR (m : Nat) : Nat → Nat → Option Nat → Option Nat
  | 0, _, a => a
  | d + 1, p, a => cyR m d (p + 1) (if m.testBit p = true then some p else a)
theorem cm_split {R : Nat → Nat → Bool} {m : Nat} : ∀ (d e p : Nat) (a : Option Nat), cmR R m (d + e) p a = (cmR R m d p a && cmR R m e (p + d) (cyR m d p a))
  | 0, e, p, a => by rw [Nat.zero_add, cmR, cyR, Bool.true_and, Nat.add_zero]
  | d + 1, e, p, a => by
    rw [show d + 1 + e = (d + e) + 1 by omega, cmR, cmR, cyR, show p + (d + 1) = p + 1 + d by omega]
    by_cases c : m.testBit p = true
    · rw [if_pos c, if_pos c, if_pos c]
      by_cases c2 : okR R a p = true
      · rw [if_pos c2, if_pos c2]; exact cm_split d e (p + 1) (some p)
      · rw [if_neg c2, if_neg c2, Bool.false_and]
    · rw [if_neg c, if_neg c, if_neg c]; exact cm_split d e (p + 1) a
theorem cm_congB {R : Nat → Nat → Bool} {m m' : Nat} : ∀ (d p : Nat) (a : Option Nat), (∀ q, p ≤ q → q < p + d → m.testBit q = m'.testBit q) → cmR R m d p a = cmR R m' d p a ∧ cyR m d p a = cyR m' d p a
  | 0, _, _, _ => ⟨rfl, rfl⟩
  | d + 1, p, a, h => by
    have h1 := cm_congB (R := R) d (p + 1) a (fun q hq h2 => h q (by omega) (by omega))
    have h2 := cm_congB (R := R) d (p + 1) (some p) (fun q hq h2 => h q (by omega) (by omega))
    rw [cmR, cmR, cyR, cyR, h p (Nat.le_refl _) (by omega), h1.1, h2.1]
    refine ⟨rfl, ?_⟩
    split
    · exact h2.2
    · exact h1.2
theorem cm_nil {R : Nat → Nat → Bool} {m : Nat} : ∀ (d p : Nat) (a : Option Nat), (∀ q, p ≤ q → q < p + d → ¬ m.testBit q = true) → cmR R m d p a = true ∧ cyR m d p a = a
  | 0, _, _, _ => ⟨rfl, rfl⟩
  | d + 1, p, a, h => by
    rw [cmR, cyR, if_neg (h p (Nat.le_refl _) (by omega)), if_neg (h p (Nat.le_refl _) (by omega))]
    exact cm_nil d (p + 1) a (fun q h1 h2 => h q (by omega) (by omega))
/-- the highest of some bits -/
theorem log8 : ∀ m, m < 256 → 0 < m → m.testBit (Nat.log2 m) = true ∧ m < 2 ^ (Nat.log2 m + 1) ∧ Nat.log2 m < 8 := by decide +kernel
theorem rest8 : ∀ m, m < 256 → ∀ l, l < 8 → m.testBit l = true → nI m &&& (((1 : Int32) <<< (nI l &&& 31)) ^^^ (-1)) = nI (m - 2 ^ l) ∧ 2 ^ l ≤ m ∧ ∀ q, q < 8 → (m - 2 ^ l).testBit q = (if q = l then false else m.testBit q) := by decide +kernel
theorem low8 : ∀ m, m < 256 → 0 < m → ∃ t, t < 8 ∧ m.testBit t = true ∧ nI m &&& (0 - nI m) = nI (2 ^ t) := by decide +kernel
theorem hiB {m N l : Nat} (h : m < 2 ^ (l + 1)) {q : Nat} (hq : l < q) : ¬ m.testBit q = true := by
  rw [tb_hi h (by omega)]; decide
theorem cy_top {m l : Nat} (h1 : m.testBit l = true) (h2 : m < 2 ^ (l + 1)) : ∀ (d p : Nat) (a : Option Nat), p ≤ l → l < p + d → cyR m d p a = some l
  | 0, p, a, h3, h4 => by omega
  | d + 1, p, a, h3, h4 => by
    rw [cyR]
    by_cases e : p = l
    · subst e
      rw [if_pos h1]
      exact (cm_nil (R := fun _ _ => true) d (p + 1) (some p) (fun q hq _ => hiB (N := 0) h2 (by omega))).2
    · exact cy_top h1 h2 d (p + 1) _ (by omega) (by omega)
/-- a row by its last one -/
theorem row_last {R : Nat → Nat → Bool} {m l N : Nat} (h1 : m.testBit l = true) (h2 : m < 2 ^ (l + 1)) (hl : l < N) (hN : N ≤ 8) {r : Nat} (hr : ∀ q, q < 8 → r.testBit q = (if q = l then false else m.testBit q)) (hr2 : r < 2 ^ l) : cmR R m N 0 none = (cmR R r N 0 none && okR R (cyR r N 0 none) l) := by
  have e1 : N = l + (N - l) := by omega
  have e2 : N - l = (N - l - 1) + 1 := by omega
  have hb := cm_congB (R := R) (m := m) (m' := r) l 0 none (fun q _ hq => by
    rw [hr q (by omega), if_neg (by omega)])
  have hn := cm_nil (R := R) (m := r) (N - l) (0 + l) (cyR r l 0 none) (fun q hq _ => by rw [tb_hi hr2 (by omega)]; decide)
  have hcy : cyR r N 0 none = cyR r l 0 none := by
    have : ∀ (d e p : Nat) (a : Option Nat), cyR r (d + e) p a = cyR r e (p + d) (cyR r d p a) := by
      intro d
      induction d with
      | zero => intro e p a; rw [Nat.zero_add, cyR, Nat.add_zero]
      | succ d ih => intro e p a; rw [show d + 1 + e = (d + e) + 1 by omega, cyR, ih, cyR, show p + 1 + d = p + (d + 1) by omega]
    rw [e1, this l (N - l) 0 none]
    exact hn.2
  have hm : cmR R m N 0 none = (cmR R m l 0 none && cmR R m (N - l) (0 + l) (cyR m l 0 none)) := by
    rw [← cm_split, ← e1]
  have hr' : cmR R r N 0 none = (cmR R r l 0 none && cmR R r (N - l) (0 + l) (cyR r l 0 none)) := by
    rw [← cm_split, ← e1]
  rw [hm, hr', hn.1, Bool.and_true, hb.1, hb.2, hcy]
  congr 1
  rw [e2, cmR, Nat.zero_add, if_pos h1]
  by_cases c : okR R (cyR r l 0 none) l = true
  · rw [if_pos c, (cm_nil (R := R) (m := m) (N - l - 1) (l + 1) (some l) (fun q hq _ => hiB (N := 0) h2 (by omega))).1, c]
  · rw [if_neg c]
    cases hz : okR R (cyR r l 0 none) l with
    | true => exact absurd hz c
    | false => rfl
theorem row_single {R : Nat → Nat → Bool} {m l N : Nat} (h1 : m.testBit l = true) (h2 : m < 2 ^ (l + 1)) (hl : l < N) (hN : N ≤ 8) (hr : ∀ q, q < 8 → Nat.testBit 0 q = (if q = l then false else m.testBit q)) : cmR R m N 0 none = true := by
  rw [row_last h1 h2 hl hN hr (Nat.two_pow_pos l)]
  have := cm_nil (R := R) (m := 0) N 0 none (fun q _ _ => by rw [Nat.zero_testBit]; decide)
  rw [this.1, this.2]; rfl
theorem lastOf_go {Q : Int32 → Mem → Prop} {τ : Mem} {m l : Nat} (hm : m < 256) (h1 : m.testBit l = true) (h2 : m < 2 ^ (l + 1)) (hq : Q (nI l) τ) : ∀ i, i < 8 → l ≤ i → w_X11_lastOf_3 Q (i + 1) (nI m) (nI i) τ := by
  intro i
  induction i with
  | zero =>
    intro _ hl
    have e : l = 0 := by omega
    subst e
    rw [w_X11_lastOf_3]
    exact ⟨fun _ => hq, fun z => absurd (Int32.le_refl _) z⟩
  | succ i ih =>
    intro h8 hl
    have nle : ¬ nI (i + 1) ≤ 0 := fun z => of_eq_false (k_nle (a := i + 1) (b := 0) (by omega) (by omega)) z
    rw [w_X11_lastOf_3, bit8 m hm (i + 1) h8]
    refine ⟨fun z => absurd z nle, fun _ => ?_⟩
    by_cases e : l = i + 1
    · subst e
      rw [if_pos h1]
      exact ⟨fun z => absurd z (by decide), fun _ => hq⟩
    · rw [if_neg (hiB (N := 0) h2 (by omega))]
      refine ⟨fun _ => ?_, fun z => absurd rfl z⟩
      rw [show nI (i + 1) + (-1) = nI i from pk_m1 i]
      exact ih (by omega) (by omega)
theorem lastOf_ok {Q : Int32 → Mem → Prop} {τ : Mem} {m l : Nat} (hm : m < 256) (hl : l < 8) (h1 : m.testBit l = true) (h2 : m < 2 ^ (l + 1)) (hq : Q (nI l) τ) : w_X11_lastOf τ (nI m) Q := ⟨8, lastOf_go hm h1 h2 hq 7 (by omega) (by omega)⟩
def rowR (E : EN) (q p : Nat) : Bool := if E.2.2.2 0 (nm6 (E.1 p) (E.1 q) (E.2.1 p) (E.2.1 q) 1 0) = 0 then true else false
/-- of which sets the cover is told, and how -/
def spC (E : EN) (N : Nat) (cv : Nat → Nat) (m : Nat) : Prop := (m = 0 → cv m = 0) ∧ (0 < m → cmR (rowR E) m N 0 none = true → cv m = 1) ∧ (0 < m → ¬ cmR (rowR E) m N 0 none = true → 2 ≤ cv m ∧ cv m ≤ 8 ∧ (cv m = 8 ∨ ∃ s, s &&& m = s ∧ 0 < s ∧ s < m ∧ cmR (rowR E) s N 0 none = true ∧ cv m = 1 + cv (m - s)) ∧ ∃ t, t < 8 ∧ m.testBit t = true ∧ ∀ s, s &&& m = s → 0 < s → s < m → s.testBit t = true → cmR (rowR E) s N 0 none = true → cv m ≤ 1 + cv (m - s))
theorem spC.one {E : EN} {N : Nat} {cv : Nat → Nat} {m : Nat} (h : spC E N cv m) (hm : 0 < m) : cv m = 1 ↔ cmR (rowR E) m N 0 none = true := by
  constructor
  · intro z
    by_cases c : cmR (rowR E) m N 0 none = true
    · exact c
    · have := (h.2.2 hm c).1
      omega
  · exact h.2.1 hm
theorem spC.ge {E : EN} {N : Nat} {cv : Nat → Nat} {m : Nat} (h : spC E N cv m) : cv m ≤ 8 ∧ (0 < m → 1 ≤ cv m) := by
  rcases Nat.eq_zero_or_pos m with e | hp
  · have := h.1 e
    omega
  · by_cases c : cmR (rowR E) m N 0 none = true
    · have := h.2.1 hp c; omega
    · have := (h.2.2 hp c); omega
section CoverA
variable {σ : Mem} {T N : Nat} {E : EN}
set_option maxHeartbeats 1000000 in
theorem isRowC {Q : Int32 → Mem → Prop} {τ : Mem} {m : Nat} {cv : Nat → Nat} (hE : Env σ T N E.1 E.2.1 E.2.2.1 E.2.2.2) (hk : Kp (SC σ T) σ τ) (hm : m < 2 ^ N) (hm0 : 0 < m) (h24 : ∀ i, i < m → mI τ 24 i = nI (cv i)) (hsp : ∀ i, i < m → spC E N cv i) (hq : ∀ τ', Kp (fun a _ => txs σ T a) τ τ' → Q (if cmR (rowR E) m N 0 none = true then 1 else 0) τ') : w_X11_isRow τ (nI m) Q := by
  have hN := hE.1
  have p8 := pow8 hN
  obtain ⟨l1, l2, l3⟩ := log8 m (by omega) hm0
  have hlN : Nat.log2 m < N := by
    rcases Nat.lt_or_ge (Nat.log2 m) N with q | q
    · exact q
    · rw [tb_hi hm q] at l1; cases l1
  obtain ⟨r1, r2, r3⟩ := rest8 m (by omega) (Nat.log2 m) l3 l1
  have hr2 : m - 2 ^ Nat.log2 m < 2 ^ Nat.log2 m := by rw [Nat.pow_succ] at l2; omega
  unfold w_X11_isRow
  refine lastOf_ok (by omega) l3 l1 l2 (fun v hv => ?_)
  rw [r1] at hv
  subst hv
  refine ⟨fun c => ⟨vp_in_nI (by omega) (by omega), ?_⟩, fun c => ?_⟩
  · have rp : 0 < m - 2 ^ Nat.log2 m := by
      rcases Nat.eq_zero_or_pos (m - 2 ^ Nat.log2 m) with z | z
      · rw [z] at c; exact absurd rfl c
      · exact z
    have hrm : m - 2 ^ Nat.log2 m < m := by have := Nat.two_pow_pos (Nat.log2 m); omega
    have hsr := hsp _ hrm
    have hone := hsr.one rp
    have hrow := row_last (R := rowR E) l1 l2 hlN hN r3 hr2
    have hle := hsr.ge.1
    rw [k_cl (by omega), h24 _ hrm]
    have e1 : nI (cv (m - 2 ^ Nat.log2 m)) = 1 ↔ cv (m - 2 ^ Nat.log2 m) = 1 := by
      rw [show (1 : Int32) = nI 1 from rfl, nI_eq (by omega) (by omega)]
    rw [e1, hone]
    refine ⟨fun z => ?_, fun z => ?_⟩
    · have hf : ¬ cmR (rowR E) m N 0 none = true := by
        rw [hrow, Bool.and_eq_true]
        exact fun y => z y.1
      have := hq τ Kp.rf
      rw [if_neg hf] at this
      exact this
    · obtain ⟨k1, k2, k3⟩ := log8 (m - 2 ^ Nat.log2 m) (by omega) rp
      have hkl : Nat.log2 (m - 2 ^ Nat.log2 m) < Nat.log2 m := by
        rcases Nat.lt_or_ge (Nat.log2 (m - 2 ^ Nat.log2 m)) (Nat.log2 m) with q | q
        · exact q
        · rw [tb_hi hr2 q] at k1; cases k1
      have hcy : cyR (m - 2 ^ Nat.log2 m) N 0 none = some (Nat.log2 (m - 2 ^ Nat.log2 m)) := cy_top k1 k2 N 0 none (by omega) (by omega)
      rw [hcy] at hrow
      refine lastOf_ok (by omega) k3 k1 k2 ?_
      refine hE.2.2.2.2.2.2.1 τ 0 (Nat.log2 m) (nI (Nat.log2 (m - 2 ^ Nat.log2 m))) 1 0 _ _ _ hk (by omega) hlN (Or.inr ⟨Nat.log2 (m - 2 ^ Nat.log2 m), by omega, rfl, rfl, rfl⟩) (fun τ' k => ?_)
      have := hq τ' k
      rw [hrow, z, Bool.true_and] at this
      have this' : Q (if rowR E (Nat.log2 (m - 2 ^ Nat.log2 m)) (Nat.log2 m) = true then 1 else 0) τ' := this
      unfold rowR at this'
      refine ⟨fun y => ?_, fun y => ?_⟩
      · rw [if_neg y, if_neg (by decide)] at this'; exact this'
      · rw [if_pos y, if_pos rfl] at this'; exact this'
  · have rz : m - 2 ^ Nat.log2 m = 0 := by
      rw [show (0 : Int32) = nI 0 from rfl, nI_eq (by omega) (by omega)] at c
      exact c
    rw [rz] at r3
    have := hq τ Kp.rf
    rw [if_pos (row_single l1 l2 hlN hN r3)] at this
    exact this
end CoverA
