/-! STAGE 2: all orders, the class's way -/
theorem Kp.sR {F : Nat → Nat → Prop} {σ τ : Mem} (h : Kp F σ τ) {a : Nat} (f : Nat → Int32) (hF : ∀ k, F a k) : Kp F σ (sR τ a f) := by
  refine ⟨h.1, h.2.1, h.2.2.1, fun b j q => ?_⟩
  rw [mI_sR]
  by_cases e1 : b = a
  · subst e1; exact absurd (hF j) q
  · rw [if_neg e1]; exact h.2.2.2 b j q
abbrev AC : Type := (Nat → Nat) × Nat × Option Nat × (Nat → Nat)
def btA (b : Option Nat) (M : Nat) : Bool := match b with
  | none => true
  | some v => decide (M < v)
def visM (M : Nat) (sm : Bool) (o : Nat → Nat) (A : AC) : AC := (fun h => if h = M then A.1 M + 1 else A.1 h, A.2.1 + (if sm = true then 1 else 0), if btA A.2.2.1 M = true then some M else A.2.2.1, if btA A.2.2.1 M = true then o else A.2.2.2)
def smA (E : EN) (kd nu N : Nat) (bn : Nat → Int32) (o : Nat → Nat) : Bool := if ∀ j, j < N → laB E kd nu o j = bn (o j) then true else false
def upN (o : Nat → Nat) (k p : Nat) : Nat → Nat := fun j => if j = k then p else o j
def goL (f : Nat → AC → AC) : Nat → Nat → AC → AC
  | 0, _, A => A
  | c + 1, p, A => goL f c (p + 1) (f p A)
def goA (E : EN) (kd nu N : Nat) (bn : Nat → Int32) : Nat → Nat → Nat → (Nat → Nat) → AC → AC
  | 0, _, _, o, A => visM (laA E kd nu o N).1.1 (smA E kd nu N bn o) o A
  | d + 1, k, m, o, A => goL (fun p A => if m.testBit p = true then A else goA E kd nu N bn d (k + 1) (m ||| 2 ^ p) (upN o k p) A) N 0 A
theorem bit_t : ∀ m, m < 64 → ∀ q, q < 6 → (((nI m >>> (nI q &&& 31)) &&& 1) = 0 ↔ m.testBit q = false) := by decide +kernel
theorem bit_o : ∀ m, m < 64 → ∀ p, p < 6 → nI m ||| ((1 : Int32) <<< (nI p &&& 31)) = nI (m ||| 2 ^ p) ∧ m ||| 2 ^ p < 64 := by decide +kernel
theorem bit_u {m p q : Nat} : (m ||| 2 ^ p).testBit q = (m.testBit q || decide (p = q)) := by
  rw [Nat.testBit_or, Nat.testBit_two_pow]
/-- who of N are used: k of them -/
def msk (N k m : Nat) (o : Nat → Nat) : Prop := m < 64 ∧ (∀ q, q < N → (m.testBit q = true ↔ ∃ j, j < k ∧ o j = q)) ∧ fb_sm (fun q => if m.testBit q = true then 1 else 0) N = k ∧ (∀ j, j < k → o j < N) ∧ ∀ i j, i < k → j < k → o i = o j → i = j
theorem msk.up {N k m p : Nat} {o : Nat → Nat} (h : msk N k m o) (hN : N ≤ 6) (hp : p < N) (hu : ¬ m.testBit p = true) : msk N (k + 1) (m ||| 2 ^ p) (upN o k p) := by
  obtain ⟨h1, h2, h3, h4, h5⟩ := h
  have hnp : ∀ j, j < k → o j ≠ p := fun j hj e => hu ((h2 p hp).mpr ⟨j, hj, e⟩)
  refine ⟨(bit_o m h1 p (by omega)).2, fun q hq => ?_, ?_, fun j hj => ?_, fun i j hi hj e => ?_⟩
  · rw [bit_u, Bool.or_eq_true, decide_eq_true_iff]
    constructor
    · rintro (z | z)
      · obtain ⟨j, hj, e⟩ := (h2 q hq).mp z
        exact ⟨j, by omega, by unfold upN; rw [if_neg (by omega)]; exact e⟩
      · exact ⟨k, by omega, by unfold upN; rw [if_pos rfl]; exact z⟩
    · rintro ⟨j, hj, e⟩
      unfold upN at e
      by_cases c : j = k
      · rw [if_pos c] at e; exact Or.inr e
      · rw [if_neg c] at e; exact Or.inl ((h2 q hq).mpr ⟨j, by omega, e⟩)
  · have e : fb_sm (fun q => if (m ||| 2 ^ p).testBit q = true then 1 else 0) N = fb_sm (fun q => if q = p then 1 else (if m.testBit q = true then 1 else 0)) N := by
      refine fb_sm_cong (fun q hq => ?_)
      rw [bit_u]
      by_cases c : q = p
      · subst c; simp
      · have c' : ¬ p = q := fun z => c z.symm
        simp [c, c']
    have := fb_sm_upd (fun q => if m.testBit q = true then 1 else 0) 1 hp
    rw [if_neg hu] at this
    omega
  · unfold upN
    by_cases c : j = k
    · rw [if_pos c]; exact hp
    · rw [if_neg c]; exact h4 j (by omega)
  · unfold upN at e
    by_cases c1 : i = k
    · by_cases c2 : j = k
      · omega
      · rw [if_pos c1, if_neg c2] at e
        exact absurd e.symm (hnp j (by omega))
    · by_cases c2 : j = k
      · rw [if_neg c1, if_pos c2] at e
        exact absurd e (hnp i (by omega))
      · rw [if_neg c1, if_neg c2] at e
        exact h5 i j (by omega) (by omega) e
theorem cnt_le {f : Nat → Nat} (h : ∀ q, f q ≤ 1) : ∀ n, fb_sm f n ≤ n
  | 0 => Nat.le_refl _
  | n + 1 => by
    rw [fb_sm_succ]
    have := cnt_le h n
    have := h n
    omega
theorem cnt_all {f : Nat → Nat} (h : ∀ q, f q ≤ 1) : ∀ n, fb_sm f n = n → ∀ q, q < n → f q = 1
  | 0, _, q, hq => (by omega)
  | n + 1, e, q, hq => by
    rw [fb_sm_succ] at e
    have h1 := cnt_le h n
    have h2 := h n
    by_cases c : q = n
    · rw [c]; omega
    · exact cnt_all h n (by omega) q (by omega)
theorem cnt_ex {f : Nat → Nat} (h : ∀ q, f q ≤ 1) : ∀ n, fb_sm f n < n → ∃ q, q < n ∧ f q = 0
  | 0, e => (by omega)
  | n + 1, e => by
    rw [fb_sm_succ] at e
    have h2 := h n
    by_cases c : f n = 0
    · exact ⟨n, by omega, c⟩
    · obtain ⟨q, h3, h4⟩ := cnt_ex h n (by omega)
      exact ⟨q, by omega, h4⟩
theorem msk.all {N m : Nat} {o : Nat → Nat} (h : msk N N m o) : ∀ q, q < N → ∃ j, j < N ∧ o j = q := by
  intro q hq
  have := cnt_all (f := fun q => if m.testBit q = true then 1 else 0) (fun q => by split <;> omega) N h.2.2.1 q hq
  refine (h.2.1 q hq).mp ?_
  by_cases c : m.testBit q = true
  · exact c
  · rw [if_neg c] at this; omega
theorem msk.ex {N k m : Nat} {o : Nat → Nat} (h : msk N k m o) (hk : k < N) : ∃ q, q < N ∧ ¬ m.testBit q = true := by
  obtain ⟨q, h1, h2⟩ := cnt_ex (f := fun q => if m.testBit q = true then 1 else 0) (fun q => by split <;> omega) N (by rw [h.2.2.1]; exact hk)
  refine ⟨q, h1, fun z => ?_⟩
  rw [if_pos z] at h2
  omega
theorem msk.zero (N : Nat) (o : Nat → Nat) : msk N 0 0 o := by
  refine ⟨by omega, fun q hq => ⟨fun z => (by rw [Nat.zero_testBit] at z; cases z), fun ⟨j, hj, _⟩ => by omega⟩, ?_, fun j hj => by omega, fun i j hi => by omega⟩
  have : ∀ n, fb_sm (fun q => if Nat.testBit 0 q = true then 1 else 0) n = 0 := by
    intro n
    induction n with
    | zero => rfl
    | succ n ih => rw [fb_sm_succ, ih, Nat.zero_testBit]; rfl
  exact this N
def lsI (b : Option Nat) : Int32 := match b with
  | none => 793
  | some v => nI v
def acC (τ : Mem) (N : Nat) (A : AC) : Prop := (∀ h, h < 9 → mI τ 22 h = nI (A.1 h)) ∧ mI τ 0 16 = nI A.2.1 ∧ mI τ 0 13 = lsI A.2.2.1 ∧ ∀ b, A.2.2.1 = some b → b ≤ 8 ∧ ∀ j, j < N → mI τ 21 j = nI (A.2.2.2 j)
theorem acC.fr {σ τ : Mem} {N : Nat} {A : AC} {F : Nat → Nat → Prop} (h : acC σ N A) (k : Kp F σ τ) (f1 : ∀ i, ¬ F 22 i) (f2 : ¬ F 0 16) (f3 : ¬ F 0 13) (f4 : ∀ i, ¬ F 21 i) : acC τ N A :=
  ⟨fun i hi => by rw [k.2.2.2 _ _ (f1 i)]; exact h.1 i hi, by rw [k.2.2.2 _ _ f2]; exact h.2.1, by rw [k.2.2.2 _ _ f3]; exact h.2.2.1, fun b hb => ⟨(h.2.2.2 b hb).1, fun j hj => by rw [k.2.2.2 _ _ (f4 j)]; exact (h.2.2.2 b hb).2 j hj⟩⟩
theorem clamp8 {M : Nat} (h : M ≤ 8) : (if 0 < (if nI M < 8 then nI M else 8) then (if nI M < 8 then nI M else 8) else 0) = nI M := by
  have : ∀ M, M ≤ 8 → (if 0 < (if nI M < 8 then nI M else 8) then (if nI M < 8 then nI M else 8) else 0) = nI M := by
    intro M hM
    have : M = 0 ∨ M = 1 ∨ M = 2 ∨ M = 3 ∨ M = 4 ∨ M = 5 ∨ M = 6 ∨ M = 7 ∨ M = 8 := by omega
    rcases this with rfl | rfl | rfl | rfl | rfl | rfl | rfl | rfl | rfl <;> decide
  exact this M h
theorem n61 {Q : Mem → Prop} {τ : Mem} {N : Nat} (hN : N ≤ 8) (h02 : mI τ 0 2 = nI N) (hq0 : (¬ ∀ p, p < N → mI τ 19 p = mI τ 23 p) → Q τ) (hq1 : (∀ p, p < N → mI τ 19 p = mI τ 23 p) → Q (sI τ 0 16 (mI τ 0 16 + 1))) : ∀ (d i : Nat) (b : Int32), i + d = N → ((b = 1 ∧ ∀ p, p < i → mI τ 19 p = mI τ 23 p) ∨ (b = 0 ∧ ∃ p, p < N ∧ ¬ mI τ 19 p = mI τ 23 p)) → w_X11_noteOrder_61 Q (d + 1) b (nI i) τ := by
  intro d
  induction d with
  | zero =>
    intro i b hd hp
    have e : i = N := by omega
    subst e
    rw [w_X11_noteOrder_61, h02]
    refine ⟨fun _ => ⟨fun c => ?_, fun c => ?_⟩, fun c => absurd (Int32.le_refl _) c⟩
    · rcases hp with ⟨hb, -⟩ | ⟨hb, k, h1, h2⟩
      · rw [hb] at c; exact absurd c (by decide)
      · exact hq0 (fun z => h2 (z k h1))
    · rcases hp with ⟨hb, hp⟩ | ⟨hb, -⟩
      · exact hq1 hp
      · exact absurd hb c
  | succ d ih =>
    intro i b hd hp
    have nle : ¬ nI N ≤ nI i := fun z => of_eq_false (k_nle (a := N) (b := i) (by omega) (by omega)) z
    have vp : vp_in (nI i) 8 := vp_in_nI (by omega) (by omega)
    rw [w_X11_noteOrder_61, h02]
    unfold w_X11_noteOrder_95 w_X11_noteOrder_96
    rw [k_cl (by omega), show nI i + 1 = nI (i + 1) from nI_add i 1]
    refine ⟨fun c => absurd c nle, fun _ => ⟨fun c => ?_, fun c => ⟨vp, vp, fun z => ?_, fun z => ?_⟩⟩⟩
    · rcases hp with ⟨hb, -⟩ | hp
      · rw [hb] at c; exact absurd c (by decide)
      · exact ih (i + 1) 0 (by omega) (Or.inr ⟨rfl, hp.2⟩)
    · exact ih (i + 1) 0 (by omega) (Or.inr ⟨rfl, i, by omega, z⟩)
    · rcases hp with ⟨hb, hp⟩ | ⟨hb, -⟩
      · refine ih (i + 1) 1 (by omega) (Or.inl ⟨rfl, fun k hk => ?_⟩)
        by_cases q : k = i
        · rw [q]; exact z
        · exact hp k (by omega)
      · exact absurd hb c
def FNt (a k : Nat) : Prop := a = 21 ∨ a = 22 ∨ (a = 0 ∧ (k = 13 ∨ k = 16))
set_option maxHeartbeats 1000000 in
theorem note_ok {Q : Mem → Prop} {τ : Mem} {N M : Nat} {o : Nat → Nat} {sm : Bool} {A : AC} (hN : N ≤ 8) (hM8 : M ≤ 8) (h02 : mI τ 0 2 = nI N) (hM : mI τ 15 2 = nI M) (h20 : ∀ j, j < N → mI τ 20 j = nI (o j)) (hsm : sm = true ↔ ∀ p, p < N → mI τ 19 p = mI τ 23 p) (ac : acC τ N A) (hq : ∀ τ', Kp FNt τ τ' → acC τ' N (visM M sm o A) → Q τ') : w_X11_noteOrder τ Q := by
  obtain ⟨a1, a2, a3, a4⟩ := ac
  have vp : vp_in (nI M) 9 := vp_in_nI (by omega) (by omega)
  unfold w_X11_noteOrder
  intro v hv
  rw [hM, clamp8 hM8] at hv
  subst hv
  refine ⟨vp, fun v2 hv2 => ⟨vp, ?_⟩⟩
  rw [k_cl (by omega), a1 M (by omega), show nI (A.1 M) + 1 = nI (A.1 M + 1) from nI_add _ 1] at hv2
  subst hv2
  rw [k_cl (by omega), a3, h02]
  have fin : ∀ τ1, Kp (fun a k => a = 21 ∨ a = 22 ∨ (a = 0 ∧ k = 13)) τ τ1 → (∀ h, h < 9 → mI τ1 22 h = nI (if h = M then A.1 M + 1 else A.1 h)) → mI τ1 0 13 = lsI (if btA A.2.2.1 M = true then some M else A.2.2.1) → (∀ b, (if btA A.2.2.1 M = true then some M else A.2.2.1) = some b → b ≤ 8 ∧ ∀ j, j < N → mI τ1 21 j = nI ((if btA A.2.2.1 M = true then o else A.2.2.2) j)) → w_X11_noteOrder_57 Q τ1 := by
    intro τ1 k1 g1 g2 g3
    have u : ∀ a k, (a = 19 ∨ a = 23 ∨ (a = 0 ∧ k ≠ 13)) → mI τ1 a k = mI τ a k := fun a k h => k1.2.2.2 _ _ (by omega)
    have hsm1 : sm = true ↔ ∀ p, p < N → mI τ1 19 p = mI τ1 23 p := by
      rw [hsm]
      constructor
      · intro z p hp; rw [u 19 p (by omega), u 23 p (by omega)]; exact z p hp
      · intro z p hp; have := z p hp; rw [u 19 p (by omega), u 23 p (by omega)] at this; exact this
    have e16 : mI τ1 0 16 = nI A.2.1 := by rw [u 0 16 (by omega)]; exact a2
    unfold w_X11_noteOrder_57
    refine ⟨N + 1, n61 hN (by rw [u 0 2 (by omega)]; exact h02) (fun z => ?_) (fun z => ?_) N 0 1 (by omega) (Or.inl ⟨rfl, fun p hp => by omega⟩)⟩
    · refine hq τ1 (k1.mono (fun a k q => by unfold FNt; omega)) ⟨g1, ?_, g2, g3⟩
      show _ = nI (A.2.1 + (if sm = true then 1 else 0))
      rw [if_neg (fun w => z (hsm1.mp w)), e16, Nat.add_zero]
    · refine hq _ (Kp.sI (k1.mono (fun a k q => by unfold FNt; omega)) _ (by unfold FNt; omega)) ⟨fun h hh => ?_, ?_, ?_, fun b hb => ⟨(g3 b hb).1, fun j hj => ?_⟩⟩
      · rw [mI_sI_n _ _ (by omega)]; exact g1 h hh
      · show _ = nI (A.2.1 + (if sm = true then 1 else 0))
        rw [if_pos (hsm1.mpr z), mI_sI_s, e16]
        exact nI_add _ 1
      · rw [mI_sI_k _ _ (by omega)]; exact g2
      · rw [mI_sI_n _ _ (by omega)]; exact (g3 b hb).2 j hj
  have t22 : ∀ h, h < 9 → mI (sI τ 22 M (nI (A.1 M + 1))) 22 h = nI (if h = M then A.1 M + 1 else A.1 h) := fun h hh => by
    by_cases c : h = M
    · rw [if_pos c, c, mI_sI_s]
    · rw [if_neg c, mI_sI_k _ _ c]; exact a1 h hh
  refine ⟨fun c => ?_, fun c => ?_⟩
  · have hb : btA A.2.2.1 M = false := by
      cases hA : A.2.2.1 with
      | none => rw [hA] at c; exact absurd c (fun z => of_eq_false (k_nle (a := 793) (b := M) (by omega) (by omega)) z)
      | some b =>
        rw [hA] at c
        have c' : nI b ≤ nI M := c
        have := (a4 b hA).1
        show decide (M < b) = false
        rw [decide_eq_false_iff_not]
        intro z
        exact absurd c' (fun w => of_eq_false (k_nle (a := b) (b := M) z (by omega)) w)
    have hb' : ¬ btA A.2.2.1 M = true := by rw [hb]; decide
    refine fin _ (by repeat (first | exact Kp.rf | refine Kp.sI ?_ _ (by first | exact rfl | omega | (dsimp only; omega)))) t22 ?_ (fun b hbb => ?_)
    · rw [if_neg hb', mI_sI_n _ _ (by omega)]; exact a3
    · rw [if_neg hb'] at hbb
      refine ⟨(a4 b hbb).1, fun j hj => ?_⟩
      rw [if_neg hb', mI_sI_n _ _ (by omega)]
      exact (a4 b hbb).2 j hj
  · have hb : btA A.2.2.1 M = true := by
      cases hA : A.2.2.1 with
      | none => rfl
      | some b =>
        rw [hA] at c
        have c' : ¬ nI b ≤ nI M := c
        have := (a4 b hA).1
        show decide (M < b) = true
        rw [decide_eq_true_iff]
        rcases Nat.lt_or_ge M b with q | q
        · exact q
        · exact absurd (nI_le q (by omega)) c'
    refine ⟨⟨by decide, by decide, nI_pos (by omega), ?_, ?_⟩, fin _ ?_ (fun h hh => ?_) ?_ (fun b hbb => ?_)⟩
    · rw [k_cl (by omega)]; show 0 + N ≤ 8; omega
    · rw [k_cl (by omega)]; show 0 + N ≤ 8; omega
    · exact Kp.sR (by repeat (first | exact Kp.rf | refine Kp.sI ?_ _ (by first | exact rfl | omega | (dsimp only; omega)))) _ (fun k => Or.inl rfl)
    · rw [mI_sR, if_neg (by omega), mI_sI_n _ _ (by omega)]; exact t22 h hh
    · rw [if_pos hb, mI_sR, if_neg (by omega), mI_sI_s]; rfl
    · rw [if_pos hb] at hbb
      cases hbb
      refine ⟨hM8, fun j hj => ?_⟩
      rw [if_pos hb, mI_sR, if_pos rfl, k_cl (by omega)]
      show (if (0 : Int32).toNatClampNeg ≤ j ∧ j < (0 : Int32).toNatClampNeg + N then _ else _) = _
      have z0 : (0 : Int32).toNatClampNeg = 0 := rfl
      rw [z0, if_pos ⟨by omega, by omega⟩]
      show mI (sI (sI τ 22 M (nI (A.1 M + 1))) 0 13 (nI M)) 20 (0 + (j - 0)) = nI (o j)
      rw [mI_sI_n _ _ (by omega), mI_sI_n _ _ (by omega), show 0 + (j - 0) = j by omega]
      exact h20 j hj
