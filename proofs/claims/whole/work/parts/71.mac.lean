/-! STAGE 2: TEXT: the model's machine -/
def rk (p : Nat) : Nat := if p = 10 then 1 else if p = 11 then 2 else if p = 12 then 3 else if p = 13 then 4 else if p = 14 then 4 else if p = 15 then 5 else if p = 16 then 5 else if p = 17 then 6 else if p = 18 then 7 else 0
theorem rk_lt (p : Nat) : rk p < 8 := by
  unfold rk
  repeat' split
  all_goals omega
theorem q_rank {τ : Mem} {p : Nat} {Q : Int32 → Mem → Prop} (hp : p < 256) (h : Q (nI (rk p)) τ) : w_X12_rank τ (nI p) Q := by
  unfold w_X12_rank
  have e : ∀ n : Nat, n < 256 → (nI p = nI n ↔ p = n) := fun n hn => nI_is hp hn
  rw [show (nI p = 10) = (p = 10) from propext (e 10 (by omega)), show (nI p = 11) = (p = 11) from propext (e 11 (by omega)), show (nI p = 12) = (p = 12) from propext (e 12 (by omega)), show (nI p = 13) = (p = 13) from propext (e 13 (by omega)), show (nI p = 14) = (p = 14) from propext (e 14 (by omega)), show (nI p = 15) = (p = 15) from propext (e 15 (by omega)), show (nI p = 16) = (p = 16) from propext (e 16 (by omega)), show (nI p = 17) = (p = 17) from propext (e 17 (by omega)), show (nI p = 18) = (p = 18) from propext (e 18 (by omega))]
  by_cases c10 : p = 10
  · subst c10; simp; exact h
  by_cases c11 : p = 11
  · subst c11; simp; exact h
  by_cases c12 : p = 12
  · subst c12; simp; exact h
  by_cases c13 : p = 13
  · subst c13; simp; exact h
  by_cases c14 : p = 14
  · subst c14; simp; exact h
  by_cases c15 : p = 15
  · subst c15; simp; exact h
  by_cases c16 : p = 16
  · subst c16; simp; exact h
  by_cases c17 : p = 17
  · subst c17; simp; exact h
  by_cases c18 : p = 18
  · subst c18; simp; exact h
  unfold rk at h
  simp [c10, c11, c12, c13, c14, c15, c16, c17, c18] at h ⊢
  exact h
def pop (r : Nat) : List Nat → List Int32 → List Nat × List Int32
  | [], em => ([], em)
  | p :: W, em => if p = 30 ∨ rk p < r then (p :: W, em) else pop r W (em ++ [nI p])
def cO : List Nat → Nat
  | [] => 0
  | p :: W => (if p = 12 ∨ p = 18 ∨ p = 30 then 1 else 0) + cO W
def cN : List Nat → Nat
  | [] => 0
  | p :: W => (if p = 30 then 1 else 0) + cN W
theorem cN_le : ∀ W, cN W ≤ cO W
  | [] => Nat.le_refl _
  | p :: W => by
    have := cN_le W
    unfold cN cO
    by_cases c : p = 30
    · rw [if_pos c, if_pos (Or.inr (Or.inr c))]; omega
    · rw [if_neg c]; omega
def topR (r : Nat) (W : List Nat) : Prop := ∀ p W', W = p :: W' → p = 30 ∨ rk p < r
theorem topR_cons {r p : Nat} {W : List Nat} (h : p = 30 ∨ rk p < r) : topR r (p :: W) := fun q W' e => by
  rw [← (List.cons.inj e).1]; exact h
theorem topR.mono {r s : Nat} {W : List Nat} (h : topR r W) (hs : r ≤ s) : topR s W := fun p W' e => by
  rcases h p W' e with q | q
  · exact Or.inl q
  · exact Or.inr (by omega)
theorem pop_top {r : Nat} {W : List Nat} (h : topR r W) (em : List Int32) : pop r W em = (W, em) := by
  cases W with
  | nil => rfl
  | cons p W => unfold pop; rw [if_pos (h p W rfl)]
theorem pop_app {r : Nat} {W : List Nat} (h : topR r W) : ∀ (Pd : List Nat) (em : List Int32), (∀ p ∈ Pd, ¬ p = 30 ∧ r ≤ rk p) → pop r (Pd ++ W) em = (W, em ++ Pd.map nI)
  | [], em, _ => by rw [List.nil_append, pop_top h]; simp
  | p :: Pd, em, hp => by
    have g := hp p List.mem_cons_self
    rw [List.cons_append, pop, if_neg (by omega), pop_app h Pd _ (fun q hq => hp q (List.mem_cons_of_mem _ hq))]
    simp
def stk (τ : Mem) : List Nat → Prop
  | [] => True
  | p :: W => mI τ 47 W.length = nI p ∧ stk τ W
theorem stk.fr {τ τ' : Mem} : ∀ {W : List Nat}, stk τ W → (∀ k, k < W.length → mI τ' 47 k = mI τ 47 k) → stk τ' W
  | [], _, _ => trivial
  | p :: W, h, k => ⟨by rw [k _ (by simp)]; exact h.1, h.2.fr (fun q hq => k q (by rw [List.length_cons]; omega))⟩
def FMr (row a k : Nat) : Prop := (a = 37 ∧ 13 ≤ k ∧ k ≤ 25) ∨ (a = 43 ∧ 160 * row ≤ k ∧ k < 160 * row + 160) ∨ a = 47 ∨ a = 48 ∨ (a = 44 ∧ k = row)
theorem F37_FMr {row : Nat} : ∀ a k, F37 a k → FMr row a k := fun a k h => Or.inl ⟨h.1, h.2.1, by have := h.2; omega⟩
/-- the model reads: at token i, codes em, waiting W -/
def MS (tp : Nat → Nat) (sz : Nat) (τ : Mem) (row i : Nat) (em : List Int32) (W : List Nat) (cf : Nat → Bool) : Prop :=
  (tpM τ tp sz ∧ moM τ ∧ tkM τ (strm tp sz i)) ∧ (mI τ 37 24 = nI (160 * row) ∧ mI τ 37 25 = nI em.length ∧ ∀ k, k < em.length → mI τ 43 (160 * row + k) = em.getD k 0) ∧ (mI τ 37 20 = nI W.length ∧ stk τ W) ∧ (mI τ 37 21 = nI (cO W) ∧ mI τ 37 22 = nI (cN W)) ∧ (∀ n, n ≤ cN W → mI τ 48 n = if cf n = true then 1 else 0) ∧ row < 18 ∧ cO W ≤ 5 ∧ ∀ p ∈ W, p < 256
section Mac
variable {tp : Nat → Nat} {sz : Nat}
theorem mac_fr {τ τ' : Mem} {row i : Nat} (k : Kp (FMr row) τ τ') (h : tpM τ tp sz ∧ moM τ) : tpM τ' tp sz ∧ moM τ' :=
  ⟨h.1.fr k (by unfold FMr; omega) (fun i => by unfold FMr; omega), h.2.fr k (fun i => by unfold FMr; omega) (fun i => by unfold FMr; omega)⟩
theorem nx_S {Q : Mem → Prop} {τ : Mem} {row i : Nat} {em : List Int32} {W : List Nat} {cf : Nat → Bool} (h : MS tp sz τ row i em W cf) (hq : ∀ τ', Kp (FMr row) τ τ' → MS tp sz τ' row (i + 1) em W cf → Q τ') : w_X12_next τ Q := by
  obtain ⟨⟨a1, a2, a3⟩, ⟨b1, b2, b3⟩, ⟨c1, c2⟩, ⟨d1, d2⟩, e1, f1⟩ := h
  refine nx12 a1 a2 (strm_p tp sz i).2.1 a3.2.2.1 (fun τ' k ht => ?_)
  have e : ∀ a q, ¬ F37 a q → mI τ' a q = mI τ a q := fun a q z => k.2.2.2 a q z
  refine hq τ' (k.mono F37_FMr) ⟨⟨a1.fr k F37n8 F37n42, a2.fr k F37n45 F37n46, ht⟩, ⟨?_, ?_, fun q hq => ?_⟩, ⟨?_, c2.fr (fun q _ => ?_)⟩, ⟨?_, ?_⟩, fun n hn => ?_, f1⟩
  · rw [e _ _ (by unfold F37; omega)]; exact b1
  · rw [e _ _ (by unfold F37; omega)]; exact b2
  · rw [e _ _ (by unfold F37; omega)]; exact b3 q hq
  · rw [e _ _ (by unfold F37; omega)]; exact c1
  · rw [e _ _ (by unfold F37; omega)]
  · rw [e _ _ (by unfold F37; omega)]; exact d1
  · rw [e _ _ (by unfold F37; omega)]; exact d2
  · rw [e _ _ (by unfold F37; omega)]; exact e1 n hn
/-- a waiting one is done -/
theorem da1 {τ : Mem} {row i p : Nat} {em : List Int32} {W : List Nat} {cf : Nat → Bool} (h : MS tp sz τ row i em (p :: W) cf) (hp : ¬ p = 30) (hl : em.length < 160) : Kp (FMr row) τ (sI (sI (sI (sI τ 37 20 (nI W.length)) 37 21 (nI (cO W))) 43 (160 * row + em.length) (nI p)) 37 25 (nI (em.length + 1))) ∧ MS tp sz (sI (sI (sI (sI τ 37 20 (nI W.length)) 37 21 (nI (cO W))) 43 (160 * row + em.length) (nI p)) 37 25 (nI (em.length + 1))) row i (em ++ [nI p]) W cf := by
  obtain ⟨⟨a1, a2, a3⟩, ⟨b1, b2, b3⟩, ⟨c1, c2⟩, ⟨d1, d2⟩, e1, f1, f2, f3⟩ := h
  have k : Kp (FMr row) τ (sI (sI (sI (sI τ 37 20 (nI W.length)) 37 21 (nI (cO W))) 43 (160 * row + em.length) (nI p)) 37 25 (nI (em.length + 1))) :=
    (((Kp.rf.sI _ (Or.inl ⟨rfl, by omega, by omega⟩)).sI _ (Or.inl ⟨rfl, by omega, by omega⟩)).sI _ (Or.inr (Or.inl ⟨rfl, by omega, by omega⟩))).sI _ (Or.inl ⟨rfl, by omega, by omega⟩)
  have m := mac_fr (i := i) k ⟨a1, a2⟩
  have en : cN (p :: W) = cN W := by rw [cN, if_neg hp]; omega
  have eo : cO W ≤ cO (p :: W) := by rw [cO]; omega
  refine ⟨k, ⟨m.1, m.2, ⟨?_, ?_, ?_, fun z => ?_⟩⟩, ⟨?_, ?_, fun q hq => ?_⟩, ⟨?_, c2.2.fr (fun q _ => ?_)⟩, ⟨?_, ?_⟩, fun n hn => ?_, f1, by omega, fun q hq => f3 q (List.mem_cons_of_mem _ hq)⟩
  · simp [mI_sI]; exact a3.1
  · simp [mI_sI]; exact a3.2.1
  · simp [mI_sI]; exact a3.2.2.1
  · simp [mI_sI]; exact a3.2.2.2 z
  · simp [mI_sI]; exact b1
  · rw [mI_sI_s, List.length_append, List.length_singleton]
  · rw [List.length_append, List.length_singleton] at hq
    rw [getD_app1 em _ hq]
    by_cases e : q = em.length
    · rw [if_pos e, e]; simp [mI_sI]
    · rw [if_neg e]
      have := b3 q (by omega)
      simp [mI_sI, e]; exact this
  · simp [mI_sI]
  · simp [mI_sI]
  · simp [mI_sI]
  · simp [mI_sI]; rw [← en]; exact d2
  · simp [mI_sI]; exact e1 n (by omega)
theorem da0 {Q : Mem → Prop} {row i r : Nat} {cf : Nat → Bool} (hr : r < 256) : ∀ (W : List Nat) (em : List Int32) (τ : Mem), MS tp sz τ row i em W cf → em.length + W.length ≤ 160 → (∀ τ', Kp (FMr row) τ τ' → MS tp sz τ' row i (pop r W em).2 (pop r W em).1 cf → Q τ') → w_X12_doAll_0 Q (W.length + 1) (nI r) τ
  | [], em, τ, h, hl, hq => by
    refine ⟨fun _ => hq τ Kp.rf h, fun z => absurd ?_ z⟩
    rw [h.2.2.1.1]; decide
  | p :: W, em, τ, h, hl, hq => by
    rw [List.length_cons] at hl
    have g := h.2.2.1
    have d := h.2.2.2.1
    have p256 : p < 256 := h.2.2.2.2.2.2.2 p List.mem_cons_self
    have e20 : mI τ 37 20 - 1 = nI W.length := by rw [g.1]; exact nI_pred _
    have vp : vp_in (nI W.length) 170 := vp_in_nI (by omega) (by omega)
    refine ⟨fun z => absurd z ?_, fun _ => ?_⟩
    · rw [g.1, List.length_cons]; exact of_eq_false (k_nle (b := 0) (by omega) (by omega))
    rw [e20, k_cl (by omega), g.2.1]
    refine ⟨vp, fun z => ?_, fun z => ⟨vp, q_rank p256 ?_⟩⟩
    · have e30 : p = 30 := (nI_is (n := 30) p256 (by omega)).mp z
      exact hq τ Kp.rf (by rw [pop, if_pos (Or.inl e30)]; exact h)
    have n30 : ¬ p = 30 := fun q => z (by rw [q]; rfl)
    rw [e20, k_cl (by omega), g.2.1]
    refine ⟨fun z1 => hq τ Kp.rf ?_, fun z1 => ⟨vp, ?_⟩⟩
    · have lt : rk p < r := by
        by_cases c : rk p < r
        · exact c
        · have := rk_lt p
          exact absurd z1 (nI_nlt (by omega) (by omega))
      rw [pop, if_pos (Or.inr lt)]; exact h
    have ge : ¬ rk p < r := fun c => z1 (nI_lt c (by omega))
    have pe : pop r (p :: W) em = pop r W (em ++ [nI p]) := by rw [pop, if_neg (fun q => q.elim n30 ge)]
    rw [pe] at hq
    have s := da1 h n30 (by omega)
    have rec0 := da0 hr W (em ++ [nI p]) _ s.2 (by rw [List.length_append, List.length_singleton]; omega) (fun τ' k hk => hq τ' (s.1.tr k) hk)
    have go : ∀ v, v = nI (cO W) → vp_in (mI (sI τ 37 20 (nI W.length)) 37 20) 170 ∧ w_X12_emit (sI (sI τ 37 20 (nI W.length)) 37 21 v) (mI (sI τ 37 20 (nI W.length)) 47 (Int32.toNatClampNeg (mI (sI τ 37 20 (nI W.length)) 37 20))) (fun s103 => w_X12_doAll_0 Q (W.length + 1) (nI r) s103) := fun v hv => by
      subst hv
      rw [mI_sI_s]
      refine ⟨vp, ?_⟩
      unfold w_X12_emit
      rw [k_cl (by omega), mI_sI_n τ (b := 47) _ (by omega), g.2.1, mI_sI_k _ _ (by omega), mI_sI_k _ _ (by omega), mI_sI_k _ _ (by omega), mI_sI_k _ _ (by omega), h.2.1.1, h.2.1.2.1, nI_add, show nI em.length + 1 = nI (em.length + 1) from nI_add _ 1]
      have := h.2.2.2.2.2.1
      rw [k_cl (by omega)]
      exact ⟨vp_in_nI (by omega) (by omega), rec0⟩
    refine ⟨fun z2 => ?_, fun z2 => ⟨vp, fun z3 => ?_, fun z3 => ?_⟩⟩
    · have e : p = 12 := (nI_is (n := 12) p256 (by omega)).mp z2
      show vp_in _ _ ∧ w_X12_emit (sI _ 37 21 (mI τ 37 21 - 1)) _ _
      exact go _ (by rw [d.1, cO, if_pos (Or.inl e), show 1 + cO W = cO W + 1 by omega]; exact nI_pred _)
    · have e12 : ¬ p = 12 := fun q => z2 (by rw [q]; rfl)
      have e18 : ¬ p = 18 := fun q => z3 (by rw [q]; rfl)
      show vp_in _ _ ∧ w_X12_emit (sI _ 37 21 (mI τ 37 21 - 0)) _ _
      exact go _ (by rw [d.1, cO, if_neg (by omega), Nat.zero_add]; exact Int32.sub_zero _)
    · have e : p = 18 := (nI_is (n := 18) p256 (by omega)).mp z3
      show vp_in _ _ ∧ w_X12_emit (sI _ 37 21 (mI τ 37 21 - 1)) _ _
      exact go _ (by rw [d.1, cO, if_pos (Or.inr (Or.inl e)), show 1 + cO W = cO W + 1 by omega]; exact nI_pred _)
theorem da_S {Q : Mem → Prop} {τ : Mem} {row i r : Nat} {em : List Int32} {W : List Nat} {cf : Nat → Bool} (hr : r < 256) (h : MS tp sz τ row i em W cf) (hl : em.length + W.length ≤ 160) {v : Int32} (hv : v = nI r) (hq : ∀ τ', Kp (FMr row) τ τ' → MS tp sz τ' row i (pop r W em).2 (pop r W em).1 cf → Q τ') : w_X12_doAll τ v Q := by
  subst hv
  exact ⟨_, da0 hr W em τ h hl hq⟩
/-- a sign, a key -/
theorem q_sg {Q : Int32 → Mem → Prop} {τ : Mem} {s : (Nat × Nat) × Nat × Nat} (h : tkM τ s) (hw : wfT s.1) {c : Nat} (hc : c < 256) {v : Int32} (hv : v = nI c) (hq : Q (if s.1 = (4, c) then 1 else 0) τ) : w_X12_isSign τ v Q := by
  subst hv
  have w := wfT_c hw
  unfold w_X12_isSign
  rw [h.1]
  by_cases e : s.1.1 = 4
  · rw [h.2.2.2 (by omega), e]
    refine ⟨fun z => absurd rfl z, fun _ => ?_⟩
    by_cases e2 : s.1.2 = c
    · rw [if_pos (Prod.ext e e2)] at hq
      exact ⟨fun z => absurd (by rw [e2]) z, fun _ => hq⟩
    · rw [if_neg (fun z => e2 (by rw [z]))] at hq
      exact ⟨fun _ => hq, fun z => absurd ((nI_is (by omega) hc).mp z) e2⟩
  · rw [if_neg (fun z => e (by rw [z]))] at hq
    exact ⟨fun _ => hq, fun z => absurd ((nI_is (n := 4) (by omega) (by omega)).mp z) e⟩
theorem q_ky {Q : Int32 → Mem → Prop} {τ : Mem} {s : (Nat × Nat) × Nat × Nat} (h : tkM τ s) (hw : wfT s.1) {c : Nat} (hc : c < 256) {v : Int32} (hv : v = nI c) (hq : Q (if s.1 = (3, c) then 1 else 0) τ) : w_X12_isKey τ v Q := by
  subst hv
  have w := wfT_c hw
  unfold w_X12_isKey
  rw [h.1]
  by_cases e : s.1.1 = 3
  · rw [h.2.2.2 (by omega), e]
    refine ⟨fun z => absurd rfl z, fun _ => ?_⟩
    by_cases e2 : s.1.2 = c
    · rw [if_pos (Prod.ext e e2)] at hq
      exact ⟨fun z => absurd (by rw [e2]) z, fun _ => hq⟩
    · rw [if_neg (fun z => e2 (by rw [z]))] at hq
      exact ⟨fun _ => hq, fun z => absurd ((nI_is (by omega) hc).mp z) e2⟩
  · rw [if_neg (fun z => e (by rw [z]))] at hq
    exact ⟨fun _ => hq, fun z => absurd ((nI_is (n := 3) (by omega) (by omega)).mp z) e⟩
end Mac
