/-! STAGE 2: rows of plates, by bits; rises -/
def okR (R : Nat → Nat → Bool) (a : Option Nat) (p : Nat) : Bool := match a with
  | none => true
  | some q => R q p
def fR (R : Nat → Nat → Bool) : Nat → Nat → Option Nat → Nat
  | 0, _, _ => 0
  | d + 1, p, a => max (fR R d (p + 1) a) (if okR R a p = true then 1 + fR R d (p + 1) (some p) else 0)
def cmR (R : Nat → Nat → Bool) (m : Nat) : Nat → Nat → Option Nat → Bool
  | 0, _, _ => true
  | d + 1, p, a => if m.testBit p = true then (if okR R a p = true then cmR R m d (p + 1) (some p) else false) else cmR R m d (p + 1) a
def pcN (m : Nat) : Nat → Nat → Nat
  | 0, _ => 0
  | d + 1, p => (if m.testBit p = true then 1 else 0) + pcN m d (p + 1)
theorem cm_cong {R : Nat → Nat → Bool} {m m' : Nat} : ∀ (d p : Nat) (a : Option Nat), (∀ q, p ≤ q → m.testBit q = m'.testBit q) → cmR R m d p a = cmR R m' d p a
  | 0, _, _, _ => rfl
  | d + 1, p, a, h => by
    rw [cmR, cmR, h p (Nat.le_refl _), cm_cong d (p + 1) a (fun q hq => h q (by omega)), cm_cong d (p + 1) (some p) (fun q hq => h q (by omega))]
theorem pc_cong {m m' : Nat} : ∀ (d p : Nat), (∀ q, p ≤ q → q < p + d → m.testBit q = m'.testBit q) → pcN m d p = pcN m' d p
  | 0, _, _ => rfl
  | d + 1, p, h => by
    rw [pcN, pcN, h p (Nat.le_refl _) (by omega), pc_cong d (p + 1) (fun q hq h2 => h q (by omega) (by omega))]
theorem pc_zero : ∀ (d p : Nat), pcN 0 d p = 0
  | 0, _ => rfl
  | d + 1, p => by rw [pcN, Nat.zero_testBit, pc_zero d (p + 1)]; rfl
theorem pc_split {m : Nat} : ∀ (d e p : Nat), pcN m (d + e) p = pcN m d p + pcN m e (p + d)
  | 0, e, p => by rw [Nat.zero_add, pcN, Nat.zero_add, Nat.add_zero]
  | d + 1, e, p => by
    rw [show d + 1 + e = (d + e) + 1 by omega, pcN, pcN, pc_split d e (p + 1), show p + 1 + d = p + (d + 1) by omega]
    omega
theorem tb_hi {m N q : Nat} (h : m < 2 ^ N) (hq : N ≤ q) : m.testBit q = false :=
  Nat.testBit_lt_two_pow (Nat.lt_of_lt_of_le h (Nat.pow_le_pow_right (by omega) hq))
theorem pc_8 {m N : Nat} (h : m < 2 ^ N) (hN : N ≤ 8) : pcN m 8 0 = pcN m N 0 := by
  have e : pcN m 8 0 = pcN m N 0 + pcN m (8 - N) (0 + N) := by
    rw [← pc_split, show N + (8 - N) = 8 by omega]
  rw [e, pc_cong (m := m) (m' := 0) (8 - N) (0 + N) (fun q h1 _ => by rw [tb_hi h (by omega), Nat.zero_testBit]), pc_zero]
  omega
theorem cm_up {R : Nat → Nat → Bool} {m : Nat} : ∀ (d p : Nat) (a : Option Nat), cmR R m d p a = true → pcN m d p ≤ fR R d p a
  | 0, _, _, _ => Nat.le_refl _
  | d + 1, p, a, h => by
    rw [cmR] at h
    rw [pcN, fR]
    by_cases c : m.testBit p = true
    · rw [if_pos c] at h ⊢
      by_cases c2 : okR R a p = true
      · rw [if_pos c2] at h ⊢
        have := cm_up d (p + 1) (some p) h
        exact Nat.le_trans (by omega) (Nat.le_max_right _ _)
      · rw [if_neg c2] at h; cases h
    · rw [if_neg c] at h ⊢
      have := cm_up d (p + 1) a h
      exact Nat.le_trans (by omega) (Nat.le_max_left _ _)
theorem cm_ex {R : Nat → Nat → Bool} : ∀ (d p : Nat) (a : Option Nat), ∃ m : Nat, (∀ q, m.testBit q = true → p ≤ q ∧ q < p + d) ∧ cmR R m d p a = true ∧ pcN m d p = fR R d p a
  | 0, p, a => ⟨0, fun q h => (by rw [Nat.zero_testBit] at h; cases h), rfl, rfl⟩
  | d + 1, p, a => by
    have left : fR R (d + 1) p a = fR R d (p + 1) a → ∃ m : Nat, (∀ q, m.testBit q = true → p ≤ q ∧ q < p + (d + 1)) ∧ cmR R m (d + 1) p a = true ∧ pcN m (d + 1) p = fR R (d + 1) p a := by
      intro e
      obtain ⟨m, h1, h2, h3⟩ := cm_ex (R := R) d (p + 1) a
      have hp : ¬ m.testBit p = true := fun z => by have := h1 p z; omega
      refine ⟨m, fun q hq => by have := h1 q hq; omega, ?_, ?_⟩
      · rw [cmR, if_neg hp]; exact h2
      · rw [pcN, if_neg hp, h3, e]; omega
    by_cases c : okR R a p = true
    · by_cases c2 : 1 + fR R d (p + 1) (some p) ≤ fR R d (p + 1) a
      · exact left (by rw [fR, if_pos c, Nat.max_eq_left c2])
      · obtain ⟨m, h1, h2, h3⟩ := cm_ex (R := R) d (p + 1) (some p)
        have hb : ∀ q, (m ||| 2 ^ p).testBit q = (m.testBit q || decide (p = q)) := fun q => bit_u
        have hp : (m ||| 2 ^ p).testBit p = true := by rw [hb]; simp
        have hc : ∀ q, p + 1 ≤ q → (m ||| 2 ^ p).testBit q = m.testBit q := fun q hq => by
          rw [hb]
          have : ¬ p = q := by omega
          simp [this]
        refine ⟨m ||| 2 ^ p, fun q hq => ?_, ?_, ?_⟩
        · rw [hb, Bool.or_eq_true, decide_eq_true_iff] at hq
          rcases hq with hq | hq
          · have := h1 q hq; omega
          · omega
        · rw [cmR, if_pos hp, if_pos c, cm_cong d (p + 1) (some p) hc]; exact h2
        · rw [pcN, if_pos hp, pc_cong d (p + 1) (fun q hq _ => hc q hq), h3, fR, if_pos c, Nat.max_eq_right (by omega)]
    · exact left (by rw [fR, if_neg c, Nat.max_eq_left (by omega)])
def mxS (g : Nat → Bool) (v : Nat → Nat) : Nat → Nat → Nat → Nat
  | 0, _, b => b
  | c + 1, m, b => mxS g v c (m + 1) (if g m = true then max b (v m) else b)
theorem mxS_le {g : Nat → Bool} {v : Nat → Nat} {X : Nat} : ∀ (c m b : Nat), (∀ i, m ≤ i → i < m + c → g i = true → v i ≤ X) → b ≤ X → mxS g v c m b ≤ X
  | 0, _, _, _, hb => hb
  | c + 1, m, b, h, hb => by
    rw [mxS]
    refine mxS_le c (m + 1) _ (fun i h1 h2 => h i (by omega) (by omega)) ?_
    by_cases z : g m = true
    · rw [if_pos z]; exact Nat.max_le.mpr ⟨hb, h m (Nat.le_refl _) (by omega) z⟩
    · rw [if_neg z]; exact hb
theorem mxS_ge {g : Nat → Bool} {v : Nat → Nat} {X : Nat} : ∀ (c m b : Nat), (X ≤ b ∨ ∃ i, m ≤ i ∧ i < m + c ∧ g i = true ∧ X ≤ v i) → X ≤ mxS g v c m b
  | 0, m, b, h => by
    rcases h with h | ⟨i, h1, h2, -⟩
    · exact h
    · omega
  | c + 1, m, b, h => by
    rw [mxS]
    refine mxS_ge c (m + 1) _ ?_
    rcases h with h | ⟨i, h1, h2, h3, h4⟩
    · left
      split
      · exact Nat.le_trans h (Nat.le_max_left _ _)
      · exact h
    · by_cases e : i = m
      · subst e
        left
        rw [if_pos h3]
        exact Nat.le_trans h4 (Nat.le_max_right _ _)
      · exact Or.inr ⟨i, by omega, by omega, h3, h4⟩
/-- the most of all bits that make a row -/
theorem mxS_row {R : Nat → Nat → Bool} {N : Nat} (hN : N ≤ 8) : mxS (fun m => cmR R m N 0 none) (fun m => pcN m 8 0) (2 ^ N) 0 0 = fR R N 0 none := by
  apply Nat.le_antisymm
  · refine mxS_le _ _ _ (fun i _ h2 h3 => ?_) (Nat.zero_le _)
    rw [pc_8 (by omega) hN]
    exact cm_up N 0 none h3
  · obtain ⟨m, h1, h2, h3⟩ := cm_ex (R := R) N 0 none
    have hm : m < 2 ^ N := Nat.lt_pow_two_of_testBit _ (fun q hq => by
      cases hb : m.testBit q with
      | false => rfl
      | true => have := h1 q hb; omega)
    refine mxS_ge _ _ _ (Or.inr ⟨m, by omega, by omega, h2, ?_⟩)
    rw [pc_8 hm hN, h3]
    exact Nat.le_refl _
theorem bit8 : ∀ m, m < 256 → ∀ k, k < 8 → (nI m >>> (nI k &&& 31)) &&& 1 = nI (if m.testBit k = true then 1 else 0) := by decide +kernel
theorem shl8 : ∀ N, N ≤ 8 → (1 : Int32) <<< (nI N &&& 31) = nI (2 ^ N) := by
  intro N hN
  have : N = 0 ∨ N = 1 ∨ N = 2 ∨ N = 3 ∨ N = 4 ∨ N = 5 ∨ N = 6 ∨ N = 7 ∨ N = 8 := by omega
  rcases this with rfl | rfl | rfl | rfl | rfl | rfl | rfl | rfl | rfl <;> decide
theorem pow8 {N : Nat} (hN : N ≤ 8) : 2 ^ N ≤ 256 := by
  have := Nat.pow_le_pow_right (n := 2) (by omega) hN
  omega
theorem bits_go {Q : Int32 → Mem → Prop} {τ : Mem} {m : Nat} (hm : m < 256) : ∀ (d i acc : Nat), i + d = 8 → Q (nI (acc + pcN m d i)) τ → w_X12_bits_4 Q (d + 1) (nI m) (nI acc) (nI i) τ := by
  intro d
  induction d with
  | zero =>
    intro i acc hd hq
    have e : i = 8 := by omega
    subst e
    rw [w_X12_bits_4]
    exact ⟨fun _ => hq, fun c => absurd (Int32.le_refl _) c⟩
  | succ d ih =>
    intro i acc hd hq
    have nle : ¬ (8 : Int32) ≤ nI i := fun z => of_eq_false (k_nle (a := 8) (b := i) (by omega) (by omega)) z
    rw [w_X12_bits_4]
    refine ⟨fun c => absurd c nle, fun _ v hv => ?_⟩
    rw [bit8 m hm i (by omega), nI_add] at hv
    subst hv
    rw [show nI i + 1 = nI (i + 1) from nI_add i 1]
    refine ih (i + 1) _ (by omega) ?_
    rw [pcN, ← Nat.add_assoc] at hq
    exact hq
theorem bits_ok {Q : Int32 → Mem → Prop} {τ : Mem} {m : Nat} (hm : m < 256) (hq : Q (nI (pcN m 8 0)) τ) : w_X12_bits τ (nI m) Q := ⟨9, bits_go hm 8 0 0 (by omega) (by rw [Nat.zero_add]; exact hq)⟩
def bcI (x0 : Int32) : Int32 :=
  let v101 := (x0 - ((Int32.toUInt32 x0 >>> (Int32.toUInt32 1 &&& Int32.toUInt32 31)).toInt32 &&& 1431655765))
  let v102 := ((v101 &&& 858993459) + ((Int32.toUInt32 v101 >>> (Int32.toUInt32 2 &&& Int32.toUInt32 31)).toInt32 &&& 858993459))
  let v103 := ((v102 + (Int32.toUInt32 v102 >>> (Int32.toUInt32 4 &&& Int32.toUInt32 31)).toInt32) &&& 252645135)
  let v104 := (v103 + (Int32.toUInt32 v103 >>> (Int32.toUInt32 8 &&& Int32.toUInt32 31)).toInt32)
  let v105 := (v104 + (Int32.toUInt32 v104 >>> (Int32.toUInt32 16 &&& Int32.toUInt32 31)).toInt32)
  v105 &&& 63
theorem bcI_eq : ∀ m, m < 256 → bcI (nI m) = nI (pcN m 8 0) := by decide +kernel
theorem bitCount_ok {Q : Int32 → Mem → Prop} {τ : Mem} {m : Nat} (hm : m < 256) (hq : Q (nI (pcN m 8 0)) τ) : w_J6_bitCount_0f7a4 τ (nI m) Q := by
  unfold w_J6_bitCount_0f7a4
  intro v1 h1 v2 h2 v3 h3 v4 h4 v5 h5
  rw [← bcI_eq m hm] at hq
  subst h1 h2 h3 h4 h5
  exact hq
def aI (a : Option Nat) : Int32 := match a with
  | none => -1
  | some q => nI q
def rsR (S : Nat → Int32) (w q p : Nat) : Bool := if w = 0 then (if S p ≤ S q then false else true) else (if S q ≤ S p then false else true)
set_option maxHeartbeats 1000000 in
theorem rbC {τ : Mem} {N w : Nat} {S : Nat → Int32} (hN : N ≤ 8) (hw : w ≤ 1) (h02 : mI τ 0 2 = nI N) (hS : ∀ i, i < N → mI τ 1 i = S i) : ∀ (fu d p : Nat) (a : Option Nat) (Q : Int32 → Mem → Prop), d < fu → p + d = N → (p = match a with | none => 0 | some q => q + 1) → Q (nI (fR (rsR S w) d p a)) τ → f_X11_riseBehind fu τ (aI a) (nI w) Q := by
  intro fu
  induction fu with
  | zero => intro d p a Q hd; omega
  | succ fu ih =>
    intro d p a Q hd hp ha hq
    rw [f_X11_riseBehind]
    unfold w_X11_riseBehind
    have ep : aI a + 1 = nI p := by
      cases a with
      | none => rw [ha]; rfl
      | some q => rw [ha]; exact nI_add q 1
    rw [ep]
    have hfd : ∀ d p a, fR (rsR S w) d p a ≤ d := by
      intro d
      induction d with
      | zero => intro p a; exact Nat.le_refl _
      | succ d ih =>
        intro p a
        rw [fR]
        have h1 := ih (p + 1) a
        have h2 := ih (p + 1) (some p)
        refine Nat.max_le.mpr ⟨by omega, ?_⟩
        split <;> omega
    have lp : ∀ (c i most : Nat), i + c = N → p ≤ i → most ≤ 8 → Q (nI (max most (fR (rsR S w) c i a))) τ → w_X11_riseBehind_7 (f_X11_riseBehind fu) Q (c + 1) (aI a) (nI w) (nI most) (nI i) τ := by
      intro c
      induction c with
      | zero =>
        intro i most hi hpi hmo hq'
        have e : i = N := by omega
        subst e
        rw [w_X11_riseBehind_7, h02]
        rw [fR, Nat.max_eq_left (by omega)] at hq'
        exact ⟨fun _ => hq', fun z => absurd (Int32.le_refl _) z⟩
      | succ c ihc =>
        intro i most hi hpi hmo hq'
        have nle : ¬ nI N ≤ nI i := fun z => of_eq_false (k_nle (a := N) (b := i) (by omega) (by omega)) z
        have vi : vp_in (nI i) 8 := vp_in_nI (by omega) (by omega)
        have e1 : nI i + 1 = nI (i + 1) := nI_add i 1
        rw [fR] at hq'
        have yes : okR (rsR S w) a i = true → w_X11_riseBehind_59 (f_X11_riseBehind fu) Q (fun z0 z1 z2 z3 z4 => w_X11_riseBehind_7 (f_X11_riseBehind fu) Q (c + 1) z0 z1 z2 z3 z4) (aI a) (nI w) (nI most) (nI i) τ := by
          intro hok
          rw [if_pos hok] at hq'
          unfold w_X11_riseBehind_59 w_X11_riseBehind_64 w_X11_riseBehind_85
          refine ⟨fun z => absurd z (by decide), fun _ => ?_⟩
          refine ih c (i + 1) (some i) _ (by omega) (by omega) rfl (fun v hv => ?_)
          have hb := hfd c (i + 1) (some i)
          have em : v = nI (max most (1 + fR (rsR S w) c (i + 1) (some i))) := by
            rw [hv, show (1 : Int32) = nI 1 from rfl, nI_add]
            by_cases z : most < 1 + fR (rsR S w) c (i + 1) (some i)
            · rw [if_pos (nI_lt z (by omega)), Nat.max_eq_right (by omega)]
            · rw [if_neg (fun q => of_eq_false (k_nlt (a := most) (b := 1 + fR (rsR S w) c (i + 1) (some i)) (by omega) (by omega)) q), Nat.max_eq_left (by omega)]
          subst em
          rw [e1]
          refine ihc (i + 1) _ (by omega) (by omega) (Nat.max_le.mpr ⟨hmo, by omega⟩) ?_
          have em2 : max (max most (1 + fR (rsR S w) c (i + 1) (some i))) (fR (rsR S w) c (i + 1) a) = max most (max (fR (rsR S w) c (i + 1) a) (1 + fR (rsR S w) c (i + 1) (some i))) := by
            rw [Nat.max_assoc, Nat.max_comm (1 + fR (rsR S w) c (i + 1) (some i))]
          rw [em2]
          exact hq'
        have no : ¬ okR (rsR S w) a i = true → w_X11_riseBehind_63 (f_X11_riseBehind fu) Q (fun z0 z1 z2 z3 z4 => w_X11_riseBehind_7 (f_X11_riseBehind fu) Q (c + 1) z0 z1 z2 z3 z4) (aI a) (nI w) (nI most) (nI i) τ := by
          intro hok
          rw [if_neg hok, Nat.max_eq_left (Nat.zero_le _)] at hq'
          unfold w_X11_riseBehind_63 w_X11_riseBehind_64 w_X11_riseBehind_85
          refine ⟨fun _ => ?_, fun z => absurd rfl z⟩
          rw [e1]
          exact ihc (i + 1) most (by omega) (by omega) hmo hq'
        rw [w_X11_riseBehind_7, h02]
        refine ⟨fun z => absurd z nle, fun _ => ?_⟩
        cases a with
        | none => exact ⟨fun _ => yes rfl, fun z => absurd (by decide) z⟩
        | some q =>
          have hpq : p = q + 1 := ha
          have vq : vp_in (nI q) 8 := vp_in_nI (by omega) (by omega)
          have q0 : ¬ aI (some q) < 0 := nI_pos (by omega)
          have eq0 : (aI (some q)).toNatClampNeg = q := k_cl (by omega)
          rw [eq0, k_cl (by omega), hS q (by omega), hS i (by omega)]
          refine ⟨fun z => absurd z q0, fun _ => ⟨fun z => ⟨vi, vq, fun y => no ?_, fun y => yes ?_⟩, fun z => ⟨vi, vq, fun y => no ?_, fun y => yes ?_⟩⟩⟩
          · have hw1 : ¬ w = 0 := fun q => z (by rw [q]; rfl)
            show ¬ rsR S w q i = true
            unfold rsR
            rw [if_neg hw1, if_pos y]; decide
          · have hw1 : ¬ w = 0 := fun q => z (by rw [q]; rfl)
            show rsR S w q i = true
            unfold rsR
            rw [if_neg hw1, if_neg y]
          · have hw1 : w = 0 := by
              rw [show (0 : Int32) = nI 0 from rfl, nI_eq (by omega) (by omega)] at z; exact z
            show ¬ rsR S w q i = true
            unfold rsR
            rw [if_pos hw1, if_pos y]; decide
          · have hw1 : w = 0 := by
              rw [show (0 : Int32) = nI 0 from rfl, nI_eq (by omega) (by omega)] at z; exact z
            show rsR S w q i = true
            unfold rsR
            rw [if_pos hw1, if_neg y]
    exact ⟨d + 1, lp d p 0 hp (Nat.le_refl _) (by omega) (by rw [Nat.max_eq_right (Nat.zero_le _)]; exact hq)⟩
