/-! STAGE 2: TEXT: the model's steps behind an operand -/
def opq (t : Nat × Nat) : Nat := if t = (4, 43) then 15 else if t = (4, 45) then 16 else if t = (4, 42) then 17 else if t = (4, 60) then 13 else if t = (4, 61) then 14 else if t = (3, 4) then 11 else if t = (3, 3) then 10 else 0
theorem opq_c {x : Nat} {t : Nat × Nat} {c : Int32} (h : opc x t = some c) : trS c = nI (opq t) ∧ rk (opq t) = x ∧ ¬ opq t = 12 ∧ ¬ opq t = 18 ∧ ¬ opq t = 30 ∧ ¬ opq t = 0 ∧ opq t < 256 := by
  by_cases x1 : x = 1
  · subst x1; have e := opc_ee h; subst e; have e2 : (-11 : Int32) = c := Option.some.inj h; subst e2; decide
  by_cases x2 : x = 2
  · subst x2; have e := opc_an h; subst e; have e2 : (-12 : Int32) = c := Option.some.inj h; subst e2; decide
  by_cases x4 : x = 4
  · subst x4
    rcases opc_cm h with e | e
    · rw [e.1, e.2]; decide
    · rw [e.1, e.2]; decide
  by_cases x5 : x = 5
  · subst x5
    rcases opc_su h with e | e
    · subst e; have e2 : (-15 : Int32) = c := Option.some.inj h; subst e2; decide
    · subst e; have e2 : (-16 : Int32) = c := Option.some.inj h; subst e2; decide
  by_cases x6 : x = 6
  · subst x6; have e := opc_te h; subst e; have e2 : (-17 : Int32) = c := Option.some.inj h; subst e2; decide
  unfold opc at h
  rw [if_neg x1, if_neg x2, if_neg x4, if_neg x5, if_neg x6] at h
  cases h
theorem opq_lt (t : Nat × Nat) : opq t < 256 := by
  unfold opq
  repeat' split
  all_goals omega
theorem opq_n {t : Nat × Nat} (h1 : opc 1 t = none) (h2 : opc 2 t = none) (h5 : opc 5 t = none) (h6 : opc 6 t = none) : opq t = 0 ∨ (rk (opq t) = 4 ∧ ¬ opc 4 t = none) := by
  unfold opq
  by_cases e1 : t = (4, 43)
  · subst e1; cases h5
  by_cases e2 : t = (4, 45)
  · subst e2; cases h5
  by_cases e3 : t = (4, 42)
  · subst e3; cases h6
  by_cases e4 : t = (4, 60)
  · subst e4; exact Or.inr ⟨by decide, by decide⟩
  by_cases e5 : t = (4, 61)
  · subst e5; exact Or.inr ⟨by decide, by decide⟩
  by_cases e6 : t = (3, 4)
  · subst e6; cases h2
  by_cases e7 : t = (3, 3)
  · subst e7; cases h1
  · rw [if_neg e1, if_neg e2, if_neg e3, if_neg e4, if_neg e5, if_neg e6, if_neg e7]; exact Or.inl rfl
theorem cN_app {W : List Nat} : ∀ Pd : List Nat, (∀ p ∈ Pd, ¬ p = 30) → cN (Pd ++ W) = cN W
  | [], _ => rfl
  | p :: Pd, h => by
    rw [List.cons_append, cN, if_neg (h p List.mem_cons_self), cN_app Pd (fun q hq => h q (List.mem_cons_of_mem _ hq))]; omega
def cfn (x : Nat) (cf : Nat → Bool) (m n : Nat) : Bool := if n = m then (if x = 4 then true else if x < 4 then false else cf n) else cf n
section Stp2
variable {tp : Nat → Nat} {sz : Nat} {τ : Mem} {row i : Nat} {em : List Int32} {W : List Nat} {cf : Nat → Bool} {mn : Int32} {F : Nat}
theorem bt_S {K : Int32 → Mem → Prop} (h : MS tp sz τ row i em W cf) (hq : w_X12_between_97 K (if opq (tkS tp sz i) = 0 then -1 else nI (opq (tkS tp sz i))) τ) : w_X12_between τ K := by
  unfold w_X12_between
  unfold opq at hq
  refine h.sg (c := 43) (by omega) rfl ?_
  by_cases e1 : tkS tp sz i = (4, 43)
  · rw [if_pos e1]; rw [if_pos e1] at hq; exact ⟨fun z => absurd z one_ne, fun _ => hq⟩
  rw [if_neg e1]; rw [if_neg e1] at hq; refine ⟨fun _ => ?_, fun z => absurd rfl z⟩
  refine h.sg (c := 45) (by omega) rfl ?_
  by_cases e2 : tkS tp sz i = (4, 45)
  · rw [if_pos e2]; rw [if_pos e2] at hq; exact ⟨fun z => absurd z one_ne, fun _ => hq⟩
  rw [if_neg e2]; rw [if_neg e2] at hq; refine ⟨fun _ => ?_, fun z => absurd rfl z⟩
  refine h.sg (c := 42) (by omega) rfl ?_
  by_cases e3 : tkS tp sz i = (4, 42)
  · rw [if_pos e3]; rw [if_pos e3] at hq; exact ⟨fun z => absurd z one_ne, fun _ => hq⟩
  rw [if_neg e3]; rw [if_neg e3] at hq; refine ⟨fun _ => ?_, fun z => absurd rfl z⟩
  refine h.sg (c := 60) (by omega) rfl ?_
  by_cases e4 : tkS tp sz i = (4, 60)
  · rw [if_pos e4]; rw [if_pos e4] at hq; exact ⟨fun z => absurd z one_ne, fun _ => hq⟩
  rw [if_neg e4]; rw [if_neg e4] at hq; refine ⟨fun _ => ?_, fun z => absurd rfl z⟩
  refine h.sg (c := 61) (by omega) rfl ?_
  by_cases e5 : tkS tp sz i = (4, 61)
  · rw [if_pos e5]; rw [if_pos e5] at hq; exact ⟨fun z => absurd z one_ne, fun _ => hq⟩
  rw [if_neg e5]; rw [if_neg e5] at hq; refine ⟨fun _ => ?_, fun z => absurd rfl z⟩
  refine h.ky (c := 4) (by omega) rfl ?_
  by_cases e6 : tkS tp sz i = (3, 4)
  · rw [if_pos e6]; rw [if_pos e6] at hq; exact ⟨fun z => absurd z one_ne, fun _ => hq⟩
  rw [if_neg e6]; rw [if_neg e6] at hq; refine ⟨fun _ => ?_, fun z => absurd rfl z⟩
  refine h.ky (c := 3) (by omega) rfl ?_
  by_cases e7 : tkS tp sz i = (3, 3)
  · rw [if_pos e7]; rw [if_pos e7] at hq; exact ⟨fun z => absurd z one_ne, fun _ => hq⟩
  rw [if_neg e7]; rw [if_neg e7] at hq
  exact ⟨fun _ => hq, fun z => absurd rfl z⟩
theorem bt0 {K : Int32 → Mem → Prop} (h : MS tp sz τ row i em W cf) (ho : opq (tkS tp sz i) = 0 ∨ (rk (opq (tkS tp sz i)) = 4 ∧ cf (cN W) = true)) (hq : K 0 τ) : w_X12_between τ K := by
  refine bt_S h ?_
  have q256 : opq (tkS tp sz i) < 256 := opq_lt _
  by_cases c : opq (tkS tp sz i) = 0
  · rw [if_pos c]; exact ⟨fun _ => hq, fun z => absurd rfl z⟩
  · rw [if_neg c]
    rcases ho with q | q
    · exact absurd q c
    refine ⟨fun z => absurd z (of_eq_false (k_eqm (by omega))), fun _ => q_rank q256 ?_⟩
    rw [q.1]
    refine ⟨fun z => absurd rfl z, fun _ => ?_⟩
    have hn := cN_le W
    have h5 := h.2.2.2.2.2.2.1
    rw [h.2.2.2.1.2, k_cl (by omega), h.2.2.2.2.1 (cN W) (Nat.le_refl _), if_pos q.2]
    exact ⟨vp_in_nI (by omega) (by omega), fun z => absurd z one_ne, fun _ => hq⟩
theorem bt1 {K : Int32 → Mem → Prop} {x : Nat} {c : Int32} {Pd : List Nat} (h : MS tp sz τ row i em (Pd ++ W) cf) (hl : em.length + (Pd ++ W).length ≤ i) (hi : i < 160) (hx : opc x (tkS tp sz i) = some c) (hPd : ∀ p ∈ Pd, ¬ p = 30 ∧ x ≤ rk p) (hW : topR x W) (h4 : x = 4 → cf (cN W) = false) (hq : ∀ τ', Kp (FMr row) τ τ' → MS tp sz τ' row i (em ++ Pd.map nI) (opq (tkS tp sz i) :: W) (cfn x cf (cN W)) → K 1 τ') : w_X12_between τ K := by
  obtain ⟨o1, o2, o12, o18, o30, o0, o256⟩ := opq_c hx
  refine bt_S h ?_
  rw [if_neg o0]
  generalize opq (tkS tp sz i) = q at *
  have eN : cN (Pd ++ W) = cN W := cN_app Pd (fun p hp => (hPd p hp).1)
  have hn := cN_le (Pd ++ W)
  have h5 := h.2.2.2.2.2.2.1
  have g125 : w_X12_between_125 K (nI q) τ := by
    unfold w_X12_between_125
    refine q_rank o256 (da_S (r := x) (by have := rk_lt q; omega) h (by omega) (by rw [o2]) (fun τ1 k1 h1 => ?_))
    rw [pop_app hW Pd em hPd] at h1
    dsimp only at h1
    have lW : W.length < 170 := by rw [List.length_append] at hl; omega
    unfold w_X12_await
    rw [h1.2.2.1.1, k_cl (by omega), show nI W.length + 1 = nI (W.length + 1) from nI_add _ 1]
    refine ⟨vp_in_nI (by omega) (by omega), q_rank o256 ?_⟩
    have e22 : mI (sI (sI τ1 47 W.length (nI q)) 37 20 (nI (W.length + 1))) 37 22 = nI (cN W) := by simp [mI_sI]; exact h1.2.2.2.1.2
    have vp : vp_in (nI (cN W)) 8 := vp_in_nI (by omega) (by omega)
    have k2 : Kp (FMr row) τ1 (sI (sI τ1 47 W.length (nI q)) 37 20 (nI (W.length + 1))) := (Kp.rf.sI _ (Or.inr (Or.inr (Or.inl rfl)))).sI _ (Or.inl ⟨rfl, by omega, by omega⟩)
    have eO : cO (q :: W) = cO W := by rw [cO, if_neg (by omega)]; omega
    have eN2 : cN (q :: W) = cN W := by rw [cN, if_neg (by omega)]; omega
    have fin : ∀ v : Int32, v = (if cfn x cf (cN W) (cN W) = true then 1 else 0) → K 1 (sI (sI (sI τ1 47 W.length (nI q)) 37 20 (nI (W.length + 1))) 48 (cN W) v) := fun v hv => by
      have k3 : Kp (FMr row) τ1 (sI (sI (sI τ1 47 W.length (nI q)) 37 20 (nI (W.length + 1))) 48 (cN W) v) := k2.sI _ (Or.inr (Or.inr (Or.inr (Or.inl rfl))))
      refine hq _ (k1.tr k3) (push_S (n' := 0) h1 (p := q) (by omega) o256 (by rw [eO]; exact h1.2.2.2.2.2.2.1) (cfn x cf (cN W)) _ k3 ?_ ?_ ?_ ?_ ?_ ?_ ?_ ?_ ?_ ?_)
      · exact tkM_of h1.1.2.2 (fun q h1 h2 => by rw [mI_sI_n _ _ (by omega), mI_sI_k _ _ (by omega), mI_sI_n _ _ (by omega)])
      · simp [mI_sI]
      · simp [mI_sI]
      · intro q; simp [mI_sI]
      · simp [mI_sI]
      · simp [mI_sI]
      · intro q hq2
        have : ¬ q = W.length := by omega
        simp [mI_sI, this]
      · rw [eO]; simp [mI_sI]; exact h1.2.2.2.1.1
      · rw [eN2]; simp [mI_sI]; exact h1.2.2.2.1.2
      · intro n hn2
        rw [eN2] at hn2
        by_cases e : n = cN W
        · rw [e, mI_sI_s]; exact hv
        · have := h1.2.2.2.2.1 n hn2
          have e3 : cfn x cf (cN W) n = cf n := by unfold cfn; rw [if_neg e]
          rw [e3]
          simp [mI_sI, e]; simpa using this
    rw [o2]
    rw [e22, k_cl (by omega)]
    by_cases x4 : x = 4
    · subst x4
      refine ⟨fun _ => ⟨vp, fin 1 ?_⟩, fun z => absurd rfl z⟩
      unfold cfn; rw [if_pos rfl, if_pos rfl]; rfl
    · refine ⟨fun z => absurd ((nI_is (n := 4) (by have := rk_lt q; omega) (by omega)).mp z) x4, fun _ => q_rank o256 ?_⟩
      rw [o2]
      have e48 : mI (sI (sI τ1 47 W.length (nI q)) 37 20 (nI (W.length + 1))) 48 (cN W) = if cf (cN W) = true then 1 else 0 := by
        have := h1.2.2.2.2.1 (cN W) (Nat.le_refl _)
        simp [mI_sI]; simpa using this
      rw [e22, k_cl (by omega), e48]
      by_cases xl : x < 4
      · refine ⟨fun _ => ⟨vp, fin 0 ?_⟩, fun z => absurd (nI_le (b := 4) (by omega) (by omega)) z⟩
        unfold cfn; rw [if_pos rfl, if_neg x4, if_pos xl]; rfl
      · have ev : cfn x cf (cN W) (cN W) = cf (cN W) := by unfold cfn; rw [if_pos rfl, if_neg x4, if_neg xl]
        refine ⟨fun z => absurd z (of_eq_false (k_nle (b := 4) (by omega) (by have := rk_lt q; omega))), fun _ => ⟨vp, fun z => ⟨vp, fin 0 ?_⟩, fun z => ⟨vp, fin 1 ?_⟩⟩⟩
        · rw [ev]
          by_cases b : cf (cN W) = true
          · rw [if_pos b] at z; exact absurd z one_ne
          · rw [if_neg b]
        · rw [ev]
          by_cases b : cf (cN W) = true
          · rw [if_pos b]
          · rw [if_neg b] at z; exact absurd rfl z
  refine ⟨fun z => absurd z (of_eq_false (k_eqm (by omega))), fun _ => q_rank o256 ?_⟩
  rw [o2]
  refine ⟨fun _ => g125, fun z => ?_⟩
  have x4 : x = 4 := (nI_is (n := 4) (by have := rk_lt q; omega) (by omega)).mp z
  rw [h.2.2.2.1.2, k_cl (by omega), h.2.2.2.2.1 _ (Nat.le_refl _), eN, h4 x4]
  exact ⟨vp_in_nI (by omega) (by omega), fun _ => g125, fun z => absurd rfl z⟩
theorem opc_t59 {x : Nat} {t : Nat × Nat} {c : Int32} (h : opc x t = some c) : ¬ t = (4, 59) ∧ ¬ t = (4, 41) := by
  constructor
  · intro e; subst e
    unfold opc at h; simp at h
  · intro e; subst e
    unfold opc at h; simp at h
theorem opc_key {x : Nat} {t : Nat × Nat} {c : Int32} (h : opc x t = some c) : (t = (3, 4) ∨ t = (3, 3)) ↔ x ≤ 2 := by
  unfold opc at h
  repeat' split at h
  all_goals first
    | (cases h; done)
    | (subst_vars; decide)
theorem s_op {Q : Int32 → Mem → Prop} {x : Nat} {c : Int32} {Pd : List Nat} (h : MS tp sz τ row i em (Pd ++ W) cf) (hl : em.length + (Pd ++ W).length ≤ i) (hi : i < 160) (hF : 161 < F) (hx : opc x (tkS tp sz i) = some c) (hPd : ∀ p ∈ Pd, ¬ p = 30 ∧ x ≤ rk p) (hW : topR x W) (h4 : x = 4 → cf (cN W) = false) (hq : ∀ τ', Kp (FMr row) τ τ' → MS tp sz τ' row (i + 1) (em ++ Pd.map nI) (opq (tkS tp sz i) :: W) (cfn x cf (cN W)) → w_X12_readE_40 Q (F - (i + 1)) (nI row) 1 (if x ≤ 2 then 1 else 0) τ') : w_X12_readE_40 Q (F - i) (nI row) 0 mn τ := by
  rw [F_suc (by omega) hF]
  refine ⟨fun _ => ⟨fun _ => h.sg0 (c := 59) (by omega) rfl (opc_t59 hx).1 ⟨fun _ => ?_, fun z => absurd rfl z⟩, fun z => absurd rfl z⟩, fun z => absurd rfl z⟩
  refine bt1 h hl hi hx hPd hW h4 (fun τ1 k1 h1 => ⟨fun z => absurd z one_ne, fun _ => ?_⟩)
  have go : ∀ v : Int32, v = (if x ≤ 2 then 1 else 0) → w_X12_readE_195 Q (fun z0 z1 z2 z3 => w_X12_readE_40 Q (F - (i + 1)) z0 z1 z2 z3) (nI row) 1 v τ1 := fun v hv => by
    subst hv
    exact nx_S h1 (fun τ2 k2 h2 => hq τ2 (k1.tr k2) h2)
  refine h1.ky (c := 4) (by omega) rfl ?_
  by_cases c4 : tkS tp sz i = (3, 4)
  · rw [if_pos c4]
    exact ⟨fun _ => go 1 (by rw [if_pos ((opc_key hx).mp (Or.inl c4))]), fun z => absurd z one_ne⟩
  · rw [if_neg c4]
    refine ⟨fun z => absurd rfl z, fun _ => h1.ky (c := 3) (by omega) rfl ?_⟩
    by_cases c3 : tkS tp sz i = (3, 3)
    · rw [if_pos c3]
      exact ⟨fun z => absurd z one_ne, fun _ => go 1 (by rw [if_pos ((opc_key hx).mp (Or.inr c3))])⟩
    · rw [if_neg c3]
      exact ⟨fun _ => go 0 (by rw [if_neg (fun q => ((opc_key hx).mpr q).elim c4 c3)]), fun z => absurd rfl z⟩
theorem s_no {Q : Int32 → Mem → Prop} (h : MS tp sz τ row i em W cf) (hi : i ≤ 160) (hF : 161 < F) (ho : opq (tkS tp sz i) = 0 ∨ (rk (opq (tkS tp sz i)) = 4 ∧ cf (cN W) = true)) (hc : ¬ tkS tp sz i = (4, 41) ∨ cN W = 0) (he : ¬ tkS tp sz i = (4, 59) ∨ ¬ cN W = 0) (hq : Q 0 τ) : w_X12_readE_40 Q (F - i) (nI row) 0 mn τ := by
  rw [F_suc hi hF]
  have hn := cN_le W
  have h5 := h.2.2.2.2.2.2.1
  have g165 : w_X12_readE_165 Q (fun z0 z1 z2 z3 => w_X12_readE_40 Q (F - (i + 1)) z0 z1 z2 z3) (nI row) 0 mn τ := by
    refine bt0 h ho ⟨fun _ => ?_, fun z => absurd rfl z⟩
    refine h.sg (c := 41) (by omega) rfl ?_
    have fin : (¬ (0 : Int32) = 0 → (w_X12_readE_208 Q (fun z0 z1 z2 z3 => w_X12_readE_40 Q (F - (i + 1)) z0 z1 z2 z3) (nI row) 0 mn τ)) ∧ ((0 : Int32) = 0 → (Q 0 τ)) := ⟨fun z => absurd rfl z, fun _ => hq⟩
    by_cases c : tkS tp sz i = (4, 41)
    · rw [if_pos c]
      refine ⟨fun z => absurd z one_ne, fun _ => ⟨fun z => ?_, fun _ => fin⟩⟩
      rcases hc with q | q
      · exact absurd c q
      · rw [h.2.2.2.1.2, q] at z; exact absurd rfl z
    · rw [if_neg c]
      exact ⟨fun _ => fin, fun z => absurd rfl z⟩
  refine ⟨fun _ => ⟨fun _ => h.sg (c := 59) (by omega) rfl ?_, fun z => absurd rfl z⟩, fun z => absurd rfl z⟩
  by_cases c : tkS tp sz i = (4, 59)
  · rw [if_pos c]
    refine ⟨fun z => absurd z one_ne, fun _ => ⟨fun _ => g165, fun z => ?_⟩⟩
    rcases he with q | q
    · exact absurd c q
    · rw [h.2.2.2.1.2] at z
      exact absurd ((nI_is (n := 0) (by omega) (by omega)).mp z) q
  · rw [if_neg c]
    exact ⟨fun _ => g165, fun z => absurd rfl z⟩
theorem s_end {Q : Int32 → Mem → Prop} (h : MS tp sz τ row i em W cf) (hl : em.length + W.length ≤ i) (hi : i < 160) (hF : 161 < F) (ht : tkS tp sz i = (4, 59)) (hW : ∀ p ∈ W, ¬ p = 30 ∧ 1 ≤ rk p) (hq : ∀ τ1, Kp (FMr row) τ τ1 → MS tp sz τ1 row i (em ++ W.map nI) [] cf → Q 1 (sI τ1 44 row (nI (em ++ W.map nI).length))) : w_X12_readE_40 Q (F - i) (nI row) 0 mn τ := by
  rw [F_suc (by omega) hF]
  have e0 : cN W = 0 := by
    have := cN_app (W := []) W (fun p hp => (hW p hp).1)
    rw [List.append_nil] at this
    rw [this]; rfl
  have hr := h.2.2.2.2.2.1
  refine ⟨fun _ => ⟨fun _ => h.sg1 (c := 59) (by omega) rfl ht ⟨fun z => absurd z one_ne, fun _ => ⟨fun z => ?_, fun _ => ?_⟩⟩, fun z => absurd rfl z⟩, fun z => absurd rfl z⟩
  · rw [h.2.2.2.1.2, e0] at z; exact absurd rfl z
  · refine da_S (r := 1) (by omega) h (by omega) rfl (fun τ1 k1 h1 => ?_)
    have pe := pop_app (r := 1) (W := []) (fun p W' e => by cases e) W em hW
    rw [List.append_nil] at pe
    rw [pe] at h1
    dsimp only at h1
    rw [k_cl (by omega), h1.2.1.2.1]
    exact ⟨vp_in_nI (by omega) (by omega), hq τ1 k1 h1⟩
theorem s_close {Q : Int32 → Mem → Prop} {Pd : List Nat} (h : MS tp sz τ row i em (Pd ++ 30 :: W) cf) (hl : em.length + (Pd ++ 30 :: W).length ≤ i) (hi : i < 160) (hF : 161 < F) (ht : tkS tp sz i = (4, 41)) (hPd : ∀ p ∈ Pd, ¬ p = 30 ∧ 1 ≤ rk p) (hq : ∀ τ', Kp (FMr row) τ τ' → MS tp sz τ' row (i + 1) (pop 7 W (em ++ Pd.map nI)).2 (pop 7 W (em ++ Pd.map nI)).1 cf → w_X12_readE_40 Q (F - (i + 1)) (nI row) 0 mn τ') : w_X12_readE_40 Q (F - i) (nI row) 0 mn τ := by
  rw [F_suc (by omega) hF]
  have eN : cN (Pd ++ 30 :: W) = cN W + 1 := by rw [cN_app Pd (fun p hp => (hPd p hp).1), cN, if_pos rfl]; omega
  have eO : cO (30 :: W) = cO W + 1 := by rw [cO, if_pos (Or.inr (Or.inr rfl))]; omega
  have eN1 : cN (30 :: W) = cN W + 1 := by rw [cN, if_pos rfl]; omega
  have hn := cN_le (Pd ++ 30 :: W)
  have h5 := h.2.2.2.2.2.2.1
  rw [List.length_append, List.length_cons] at hl
  refine ⟨fun _ => ⟨fun _ => h.sg0 (c := 59) (by omega) rfl (by rw [ht]; decide) ⟨fun _ => ?_, fun z => absurd rfl z⟩, fun z => absurd rfl z⟩, fun z => absurd rfl z⟩
  refine bt0 h (Or.inl (by rw [ht]; decide)) ⟨fun _ => ?_, fun z => absurd rfl z⟩
  refine h.sg1 (c := 41) (by omega) rfl ht ⟨fun z => absurd z one_ne, fun _ => ⟨fun _ => ?_, fun z => ?_⟩⟩
  · refine da_S (r := 1) (by omega) h (by rw [List.length_append, List.length_cons]; omega) rfl (fun τ1 k1 h1 => ?_)
    rw [pop_app (topR_cons (Or.inl rfl)) Pd em hPd] at h1
    dsimp only at h1
    rw [h1.2.2.1.1, h1.2.2.2.1.1, h1.2.2.2.1.2, eO, eN1, List.length_cons, nI_pred, nI_pred, nI_pred]
    have k2 : Kp (FMr row) τ1 (sI (sI (sI τ1 37 20 (nI W.length)) 37 22 (nI (cN W))) 37 21 (nI (cO W))) := ((Kp.rf.sI _ (Or.inl ⟨rfl, by omega, by omega⟩)).sI _ (Or.inl ⟨rfl, by omega, by omega⟩)).sI _ (Or.inl ⟨rfl, by omega, by omega⟩)
    have s2 : MS tp sz (sI (sI (sI τ1 37 20 (nI W.length)) 37 22 (nI (cN W))) 37 21 (nI (cO W))) row i (em ++ Pd.map nI) W cf := by
      obtain ⟨⟨a1, a2, a3⟩, ⟨b1, b2, b3⟩, ⟨c1, c2⟩, ⟨d1, d2⟩, e1, f1, f2, f3⟩ := h1
      have m := mac_fr (i := i) k2 ⟨a1, a2⟩
      refine ⟨⟨m.1, m.2, tkM_of a3 (fun q h1 h2 => by rw [mI_sI_k _ _ (by omega), mI_sI_k _ _ (by omega), mI_sI_k _ _ (by omega)])⟩, ⟨?_, ?_, fun q hq => ?_⟩, ⟨?_, c2.2.fr (fun q _ => ?_)⟩, ⟨?_, ?_⟩, fun n hn => ?_, f1, by omega, fun q hq => f3 q (List.mem_cons_of_mem _ hq)⟩
      · simp [mI_sI]; exact b1
      · rw [mI_sI_k _ _ (by omega), mI_sI_k _ _ (by omega), mI_sI_k _ _ (by omega)]; exact b2
      · rw [mI_sI_n _ _ (by omega), mI_sI_n _ _ (by omega), mI_sI_n _ _ (by omega)]; exact b3 q hq
      · simp [mI_sI]
      · simp [mI_sI]
      · simp [mI_sI]
      · simp [mI_sI]
      · have := e1 n (by omega)
        simp [mI_sI]; simpa using this
    refine da_S (r := 7) (by omega) s2 (by rw [List.length_append, List.length_map]; omega) rfl (fun τ3 k3 h3 => ⟨fun _ => ?_, fun z => absurd z one_ne⟩)
    exact nx_S h3 (fun τ4 k4 h4 => hq τ4 (((k1.tr k2).tr k3).tr k4) h4)
  · rw [h.2.2.2.1.2, eN] at z
    exact absurd ((nI_is (n := 0) (by omega) (by omega)).mp z) (by omega)
end Stp2
