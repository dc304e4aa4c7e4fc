/-! STAGE 2: whom he chooses -/
def chSt (E : EN) (kd nu : Nat) (H : HP) (p h : Nat) (b : Option (Nat × Int32)) : Option (Nat × Int32) :=
  if mayA E H h p = true then (match b with
    | none => some (h, rkH E kd nu H h p)
    | some q => if q.2 ≤ rkH E kd nu H h p then some q else some (h, rkH E kd nu H h p)) else b
def chGo (E : EN) (kd nu : Nat) (H : HP) (p : Nat) : Nat → Nat → Option (Nat × Int32) → Option (Nat × Int32)
  | 0, _, b => b
  | d + 1, h, b => chGo E kd nu H p d (h + 1) (chSt E kd nu H p h b)
def chF (kd nu : Nat) (H : HP) (b : Option (Nat × Int32)) : Nat := match b with
  | none => H.1
  | some q => if lkA kd (nI nu) q.2 (nI H.1) = true then H.1 else q.1
def chA (E : EN) (kd nu : Nat) (H : HP) (p : Nat) : Nat := chF kd nu H (chGo E kd nu H p H.1 0 none)
def bI (b : Option (Nat × Int32)) : Int32 := match b with
  | none => -1
  | some q => nI q.1
def lI (b : Option (Nat × Int32)) : Int32 := match b with
  | none => 0
  | some q => q.2
theorem chSt_lt {E : EN} {kd nu : Nat} {H : HP} {p h M : Nat} {b : Option (Nat × Int32)} (hb : ∀ q, b = some q → q.1 < M) (hh : h < M) : ∀ q, chSt E kd nu H p h b = some q → q.1 < M := by
  intro q hq
  unfold chSt at hq
  by_cases c : mayA E H h p = true
  · rw [if_pos c] at hq
    cases b with
    | none => cases hq; exact hh
    | some q0 =>
      dsimp only at hq
      by_cases c2 : q0.2 ≤ rkH E kd nu H h p
      · rw [if_pos c2] at hq; exact hb q hq
      · rw [if_neg c2] at hq; cases hq; exact hh
  · rw [if_neg c] at hq
    exact hb q hq
theorem chGo_lt {E : EN} {kd nu : Nat} {H : HP} {p M : Nat} : ∀ (d h : Nat) (b : Option (Nat × Int32)), h + d = M → (∀ q, b = some q → q.1 < M) → ∀ q, chGo E kd nu H p d h b = some q → q.1 < M
  | 0, _, _, _, hb => hb
  | d + 1, h, b, hd, hb => chGo_lt d (h + 1) _ (by omega) (chSt_lt hb (by omega))
theorem chA_le (E : EN) (kd nu : Nat) (H : HP) (p : Nat) : chA E kd nu H p ≤ H.1 := by
  have := chGo_lt (E := E) (kd := kd) (nu := nu) (H := H) (p := p) (M := H.1) H.1 0 none (by omega) (fun q hq => by cases hq)
  unfold chA chF
  cases hc : chGo E kd nu H p H.1 0 none with
  | none => exact Nat.le_refl _
  | some q =>
    have := this q hc
    dsimp only
    split <;> omega
section ChooseA
variable {σ : Mem} {T N : Nat} {E : EN} {H : HP} {n p : Nat}
set_option maxHeartbeats 2000000 in
theorem ch_go_15 {Q : Int32 → Mem → Prop} (hE : Env σ T N E.1 E.2.1 E.2.2.1 E.2.2.2) (ho : okH N n H) (hn : n ≤ 8) (hp : p < N) {a kd nu : Nat} (hkd : kd ≤ 5) (ht : ∀ τ, Kp (SC σ T) σ τ → mT τ a = some (kcl kd, 0) ∧ mI τ a 1 = nI nu) : ∀ (d h : Nat) (b : Option (Nat × Int32)) (τ : Mem), h + d = H.1 → (∀ q, b = some q → q.1 < H.1) → Kp (SC σ T) σ τ → hoA 15 2 17 16 τ H → (∀ τ', Kp (fun a _ => txs σ T a) τ τ' → Q (nI (chF kd nu H (chGo E kd nu H p d h b))) τ') → w_X11_chosenBy_d_15_9 Q (d + 1) a (nI p) (bI b) (lI b) (nI h) τ := by
  have h1 := ho.1
  intro d
  induction d with
  | zero =>
    intro h b τ hd hb hk hH hq
    have hh : h = H.1 := by omega
    have hq' := hq τ Kp.rf
    rw [w_X11_chosenBy_d_15_9]
    rw [hH.1, hh]
    refine ⟨fun _ => ?_, fun c => absurd (Int32.le_refl _) c⟩
    cases b with
    | none => exact ⟨fun _ => hq', fun c => absurd rfl c⟩
    | some q =>
      have hq1 := hb q rfl
      refine ⟨fun c => ?_, fun _ => ?_⟩
      · exact absurd c (by
          show ¬ nI q.1 = -1
          exact fun z => by have := k_eqm (a := q.1) (by omega); exact (of_eq_false this) z)
      · refine likesD_ok hkd (ht τ hk).1 (ht τ hk).2 ?_
        show _ ∧ _
        have hq2 : Q (nI (if lkA kd (nI nu) q.2 (nI H.1) = true then H.1 else q.1)) τ := hq'
        by_cases c : lkA kd (nI nu) q.2 (nI H.1) = true
        · rw [if_pos c] at hq2
          have c' : lkA kd (nI nu) (lI (some q)) (nI H.1) = true := c
          rw [if_pos c']
          exact ⟨fun z => absurd z (by decide), fun _ => by rw [hH.1]; exact hq2⟩
        · rw [if_neg c] at hq2
          have c' : ¬ lkA kd (nI nu) (lI (some q)) (nI H.1) = true := c
          rw [if_neg c']
          exact ⟨fun _ => hq2, fun z => absurd rfl z⟩
  | succ d ih =>
    intro h b τ hd hb hk hH hq
    have hh : h < H.1 := by omega
    have e1 : nI h + 1 = nI (h + 1) := nI_add h 1
    have nle : ¬ nI H.1 ≤ nI h := fun z => of_eq_false (k_nle (a := H.1) (b := h) (by omega) (by omega)) z
    rw [w_X11_chosenBy_d_15_9]
    unfold w_X11_chosenBy_d_15_56 w_X11_chosenBy_d_15_64
    rw [hH.1]
    refine ⟨fun c => absurd c nle, fun _ => may_ok_15 hE hk hH ho hn hh hp (fun τ' k => ?_)⟩
    have key := ih (h + 1) (chSt E kd nu H p h b) τ' (by omega) (chSt_lt hb hh) (hk.cwsc k) (hH.cw hE k (by decide) (by decide) (by decide)) (fun τ2 k2 => hq τ2 (k.tr k2))
    by_cases c : mayA E H h p = true
    · rw [if_pos c]
      refine ⟨fun _ => rank_ok_15 hE (hk.cwsc k) (hH.cw hE k (by decide) (by decide) (by decide)) ho hn hh hp hkd (ht τ' (hk.cwsc k)).1 (ht τ' (hk.cwsc k)).2 ?_, fun z => absurd z (by decide)⟩
      unfold chSt at key
      rw [if_pos c] at key
      rw [e1]
      cases b with
      | none => exact ⟨fun _ => key, fun z => absurd rfl z⟩
      | some q =>
        have hq1 := hb q rfl
        dsimp only at key
        refine ⟨fun z => ?_, fun _ => ⟨fun z => ?_, fun z => ?_⟩⟩
        · have z' : nI q.1 = -1 := z
          exact absurd z' (fun z => of_eq_false (k_eqm (a := q.1) (by omega)) z)
        · have z' : q.2 ≤ rkH E kd nu H h p := z
          rw [if_pos z'] at key
          exact key
        · have z' : ¬ q.2 ≤ rkH E kd nu H h p := z
          rw [if_neg z'] at key
          exact key
    · rw [if_neg c]
      unfold chSt at key
      rw [if_neg c] at key
      rw [e1]
      exact ⟨fun z => absurd rfl z, fun _ => key⟩
theorem ch_ok_15 {τ : Mem} {Q : Int32 → Mem → Prop} (hE : Env σ T N E.1 E.2.1 E.2.2.1 E.2.2.2) (hk : Kp (SC σ T) σ τ) (hH : hoA 15 2 17 16 τ H) (ho : okH N n H) (hn : n ≤ 8) (hp : p < N) {a kd nu : Nat} (hkd : kd ≤ 5) (ht : ∀ τ, Kp (SC σ T) σ τ → mT τ a = some (kcl kd, 0) ∧ mI τ a 1 = nI nu) (hq : ∀ τ', Kp (fun a _ => txs σ T a) τ τ' → Q (nI (chA E kd nu H p)) τ') : w_X11_chosenBy_d_15 τ a (nI p) Q :=
  ⟨H.1 + 1, ch_go_15 hE ho hn hp hkd ht H.1 0 none τ (by omega) (fun q hq => by cases hq) hk hH hq⟩
set_option maxHeartbeats 2000000 in
theorem ch_go_9 {Q : Int32 → Mem → Prop} (hE : Env σ T N E.1 E.2.1 E.2.2.1 E.2.2.2) (ho : okH N n H) (hn : n ≤ 8) (hp : p < N) {a kd nu : Nat} (hkd : kd ≤ 5) (ht : ∀ τ, Kp (SC σ T) σ τ → mT τ a = some (kcl kd, 0) ∧ mI τ a 1 = nI nu) : ∀ (d h : Nat) (b : Option (Nat × Int32)) (τ : Mem), h + d = H.1 → (∀ q, b = some q → q.1 < H.1) → Kp (SC σ T) σ τ → hoA 9 2 11 10 τ H → (∀ τ', Kp (fun a _ => txs σ T a) τ τ' → Q (nI (chF kd nu H (chGo E kd nu H p d h b))) τ') → w_X11_chosenBy_d_9_9 Q (d + 1) a (nI p) (bI b) (lI b) (nI h) τ := by
  have h1 := ho.1
  intro d
  induction d with
  | zero =>
    intro h b τ hd hb hk hH hq
    have hh : h = H.1 := by omega
    have hq' := hq τ Kp.rf
    rw [w_X11_chosenBy_d_9_9]
    rw [hH.1, hh]
    refine ⟨fun _ => ?_, fun c => absurd (Int32.le_refl _) c⟩
    cases b with
    | none => exact ⟨fun _ => hq', fun c => absurd rfl c⟩
    | some q =>
      have hq1 := hb q rfl
      refine ⟨fun c => ?_, fun _ => ?_⟩
      · exact absurd c (by
          show ¬ nI q.1 = -1
          exact fun z => by have := k_eqm (a := q.1) (by omega); exact (of_eq_false this) z)
      · refine likesD_ok hkd (ht τ hk).1 (ht τ hk).2 ?_
        show _ ∧ _
        have hq2 : Q (nI (if lkA kd (nI nu) q.2 (nI H.1) = true then H.1 else q.1)) τ := hq'
        by_cases c : lkA kd (nI nu) q.2 (nI H.1) = true
        · rw [if_pos c] at hq2
          have c' : lkA kd (nI nu) (lI (some q)) (nI H.1) = true := c
          rw [if_pos c']
          exact ⟨fun z => absurd z (by decide), fun _ => by rw [hH.1]; exact hq2⟩
        · rw [if_neg c] at hq2
          have c' : ¬ lkA kd (nI nu) (lI (some q)) (nI H.1) = true := c
          rw [if_neg c']
          exact ⟨fun _ => hq2, fun z => absurd rfl z⟩
  | succ d ih =>
    intro h b τ hd hb hk hH hq
    have hh : h < H.1 := by omega
    have e1 : nI h + 1 = nI (h + 1) := nI_add h 1
    have nle : ¬ nI H.1 ≤ nI h := fun z => of_eq_false (k_nle (a := H.1) (b := h) (by omega) (by omega)) z
    rw [w_X11_chosenBy_d_9_9]
    unfold w_X11_chosenBy_d_9_56 w_X11_chosenBy_d_9_64
    rw [hH.1]
    refine ⟨fun c => absurd c nle, fun _ => may_ok_9 hE hk hH ho hn hh hp (fun τ' k => ?_)⟩
    have key := ih (h + 1) (chSt E kd nu H p h b) τ' (by omega) (chSt_lt hb hh) (hk.cwsc k) (hH.cw hE k (by decide) (by decide) (by decide)) (fun τ2 k2 => hq τ2 (k.tr k2))
    by_cases c : mayA E H h p = true
    · rw [if_pos c]
      refine ⟨fun _ => rank_ok_9 hE (hk.cwsc k) (hH.cw hE k (by decide) (by decide) (by decide)) ho hn hh hp hkd (ht τ' (hk.cwsc k)).1 (ht τ' (hk.cwsc k)).2 ?_, fun z => absurd z (by decide)⟩
      unfold chSt at key
      rw [if_pos c] at key
      rw [e1]
      cases b with
      | none => exact ⟨fun _ => key, fun z => absurd rfl z⟩
      | some q =>
        have hq1 := hb q rfl
        dsimp only at key
        refine ⟨fun z => ?_, fun _ => ⟨fun z => ?_, fun z => ?_⟩⟩
        · have z' : nI q.1 = -1 := z
          exact absurd z' (fun z => of_eq_false (k_eqm (a := q.1) (by omega)) z)
        · have z' : q.2 ≤ rkH E kd nu H h p := z
          rw [if_pos z'] at key
          exact key
        · have z' : ¬ q.2 ≤ rkH E kd nu H h p := z
          rw [if_neg z'] at key
          exact key
    · rw [if_neg c]
      unfold chSt at key
      rw [if_neg c] at key
      rw [e1]
      exact ⟨fun z => absurd rfl z, fun _ => key⟩
theorem ch_ok_9 {τ : Mem} {Q : Int32 → Mem → Prop} (hE : Env σ T N E.1 E.2.1 E.2.2.1 E.2.2.2) (hk : Kp (SC σ T) σ τ) (hH : hoA 9 2 11 10 τ H) (ho : okH N n H) (hn : n ≤ 8) (hp : p < N) {a kd nu : Nat} (hkd : kd ≤ 5) (ht : ∀ τ, Kp (SC σ T) σ τ → mT τ a = some (kcl kd, 0) ∧ mI τ a 1 = nI nu) (hq : ∀ τ', Kp (fun a _ => txs σ T a) τ τ' → Q (nI (chA E kd nu H p)) τ') : w_X11_chosenBy_d_9 τ a (nI p) Q :=
  ⟨H.1 + 1, ch_go_9 hE ho hn hp hkd ht H.1 0 none τ (by omega) (fun q hq => by cases hq) hk hH hq⟩
set_option maxHeartbeats 2000000 in
theorem ch_goM {Q : Int32 → Mem → Prop} (hE : Env σ T N E.1 E.2.1 E.2.2.1 E.2.2.2) (ho : okH N n H) (hn : n ≤ 8) (hp : p < N) {l kd nu : Nat} (hkd : kd ≤ 5) (hl : l < 5) (ht : ∀ τ, Kp (SC σ T) σ τ → mI τ 40 l = nI kd ∧ mI τ 41 l = nI nu) : ∀ (d h : Nat) (b : Option (Nat × Int32)) (τ : Mem), h + d = H.1 → (∀ q, b = some q → q.1 < H.1) → Kp (SC σ T) σ τ → hoA 37 28 51 52 τ H → (∀ τ', Kp (fun a _ => a = 49 ∨ a = 50) τ τ' → Q (nI (chF kd nu H (chGo E kd nu H p d h b))) τ') → w_X12_choice_8 Q (d + 1) (nI l) (nI p) (bI b) (lI b) (nI h) τ := by
  have h1 := ho.1
  intro d
  induction d with
  | zero =>
    intro h b τ hd hb hk hH hq
    have hh : h = H.1 := by omega
    have hq' := hq τ Kp.rf
    rw [w_X12_choice_8]
    rw [hH.1, hh]
    refine ⟨fun _ => ?_, fun c => absurd (Int32.le_refl _) c⟩
    cases b with
    | none => exact ⟨fun _ => hq', fun c => absurd rfl c⟩
    | some q =>
      have hq1 := hb q rfl
      refine ⟨fun c => ?_, fun _ => ?_⟩
      · have z' : nI q.1 = -1 := c
        exact absurd z' (fun z => of_eq_false (k_eqm (a := q.1) (by omega)) z)
      · refine likesM_ok hkd hl (ht τ hk).1 (ht τ hk).2 hH.1 ?_
        show _ ∧ _
        have hq2 : Q (nI (if lkA kd (nI nu) q.2 (nI H.1) = true then H.1 else q.1)) τ := hq'
        by_cases c : lkA kd (nI nu) q.2 (nI H.1) = true
        · rw [if_pos c] at hq2
          have c' : lkA kd (nI nu) (lI (some q)) (nI H.1) = true := c
          rw [if_pos c']
          exact ⟨fun z => absurd z (by decide), fun _ => by rw [hH.1]; exact hq2⟩
        · rw [if_neg c] at hq2
          have c' : ¬ lkA kd (nI nu) (lI (some q)) (nI H.1) = true := c
          rw [if_neg c']
          exact ⟨fun _ => hq2, fun z => absurd rfl z⟩
  | succ d ih =>
    intro h b τ hd hb hk hH hq
    have hh : h < H.1 := by omega
    have e1 : nI h + 1 = nI (h + 1) := nI_add h 1
    have nle : ¬ nI H.1 ≤ nI h := fun z => of_eq_false (k_nle (a := H.1) (b := h) (by omega) (by omega)) z
    rw [w_X12_choice_8]
    unfold w_X12_choice_49 w_X12_choice_56
    rw [hH.1]
    refine ⟨fun c => absurd c nle, fun _ => mayM_ok hE hk hH ho hn hh hp (fun τ' k => ?_)⟩
    have key := ih (h + 1) (chSt E kd nu H p h b) τ' (by omega) (chSt_lt hb hh) (hk.m5 k) (hH.m5 k) (fun τ2 k2 => hq τ2 (k.tr k2))
    by_cases c : mayA E H h p = true
    · rw [if_pos c]
      refine ⟨fun z => absurd z (by decide), fun _ => rankM_ok hE (hk.m5 k) (hH.m5 k) ho hn hh hp hkd hl (ht τ' (hk.m5 k)).1 (ht τ' (hk.m5 k)).2 ?_⟩
      unfold chSt at key
      rw [if_pos c] at key
      rw [e1]
      cases b with
      | none => exact ⟨fun _ => key, fun z => absurd rfl z⟩
      | some q =>
        have hq1 := hb q rfl
        dsimp only at key
        refine ⟨fun z => ?_, fun _ => ⟨fun z => ?_, fun z => ?_⟩⟩
        · have z' : nI q.1 = -1 := z
          exact absurd z' (fun z => of_eq_false (k_eqm (a := q.1) (by omega)) z)
        · have z' : q.2 ≤ rkH E kd nu H h p := z
          rw [if_pos z'] at key
          exact key
        · have z' : ¬ q.2 ≤ rkH E kd nu H h p := z
          rw [if_neg z'] at key
          exact key
    · rw [if_neg c]
      unfold chSt at key
      rw [if_neg c] at key
      rw [e1]
      exact ⟨fun _ => key, fun z => absurd rfl z⟩
theorem chM_ok {τ : Mem} {Q : Int32 → Mem → Prop} (hE : Env σ T N E.1 E.2.1 E.2.2.1 E.2.2.2) (hk : Kp (SC σ T) σ τ) (hH : hoA 37 28 51 52 τ H) (ho : okH N n H) (hn : n ≤ 8) (hp : p < N) {l kd nu : Nat} (hkd : kd ≤ 5) (hl : l < 5) (ht : ∀ τ, Kp (SC σ T) σ τ → mI τ 40 l = nI kd ∧ mI τ 41 l = nI nu) (hq : ∀ τ', Kp (fun a _ => a = 49 ∨ a = 50) τ τ' → Q (nI (chA E kd nu H p)) τ') : w_X12_choice τ (nI l) (nI p) Q :=
  ⟨H.1 + 1, ch_goM hE ho hn hp hkd hl ht H.1 0 none τ (by omega) (fun q hq => by cases hq) hk hH hq⟩
end ChooseA
