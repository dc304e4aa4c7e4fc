/-! STAGE 2: less -/
def fwW (E : EN) (o : Nat → Nat) (n : Nat) : Nat := mnL 8 ((lvs E o n 0 (0, fun _ => 0, fun _ _ => 0) 0).map (sel 0))
theorem fwW_eq (E : EN) (o : Nat → Nat) {n : Nat} (hn : n ≤ 8) : fwW E o n ≤ 8 ∧ mnO none ((lvs E o n 0 (0, fun _ => 0, fun _ _ => 0) 0).map (sel 0)) = some (fwW E o n) ∧ ∀ b, mnL b ((lvs E o n 0 (0, fun _ => 0, fun _ _ => 0) 0).map (sel 0)) = min b (fwW E o n) := by
  obtain ⟨m, h1, h2, h3, h4⟩ := way_mn E o n 0 hn (by omega)
  have e : fwW E o n = m := by
    unfold fwW
    rw [h4, Nat.min_eq_right (h2 rfl)]
  rw [e]
  exact ⟨h2 rfl, h3, h4⟩
def lsGo (p : Nat → Bool) : Nat → Nat → Int32
  | 0, _ => -1
  | d + 1, i => if p i = true then nI i else lsGo p d (i + 1)
def oOut (u j : Nat) : Nat := if j < u then j else j + 1
def oSw (u j : Nat) : Nat := if j = u then u + 1 else if j = u + 1 then u else j
def FL (σ : Mem) (T a k : Nat) : Prop := FS σ T a k ∨ a = 20
theorem FL.sc {σ : Mem} {T a k : Nat} (h : FL σ T a k) : SC0 σ T a k := by
  rcases h with h | h
  · exact h.sc
  · unfold SC0; omega
def FX (a k : Nat) : Prop := FW a k ∨ a = 53
theorem FX.sc {σ : Mem} {T a k : Nat} (h : FX a k) : SC0 σ T a k := by
  rcases h with h | h
  · exact FW.sc h
  · unfold SC0; omega
section LessA
variable {σ : Mem} {T N : Nat} {E : EN}
theorem FL.un (hE : Env σ T N E.1 E.2.1 E.2.2.1 E.2.2.2) {τ τ' : Mem} (k : Kp (FL σ T) τ τ') {a : Nat} (ha : 37 ≤ a ∧ a < 68) (i : Nat) : mI τ' a i = mI τ a i := by
  refine k.2.2.2 a i (fun q => ?_)
  rcases q with (q | q | q | q) | q
  · have := hE.2.2.2.2.1 a q; omega
  · omega
  · omega
  · omega
  · omega
theorem out_go {Q : Int32 → Mem → Prop} {K : Int32 → Int32 → Mem → Prop} (hE : Env σ T N E.1 E.2.1 E.2.2.1 E.2.2.2) {u b : Nat} (hb : b ≤ 8) (hu : u < N) (hq : ∀ τ', Kp (SC σ T) σ τ' → True) : ∀ (d i : Nat) (τ : Mem), i + d + 1 = N → u ≤ i → Kp (SC σ T) σ τ → (∀ j, j < i → mI τ 20 j = nI (oOut u j)) → (∀ τ', Kp (FL σ T) τ τ' → (fwW E (oOut u) (N - 1) < b → Q (nI u) τ') ∧ (¬ fwW E (oOut u) (N - 1) < b → K (nI b) (nI (u + 1)) τ')) → w_X11_firstOut_16 Q K (d + 1) (nI b) (nI u) (nI i) τ := by
  have hN := hE.1
  intro d
  induction d with
  | zero =>
    intro i τ hd hui hk h20 hr
    have e1 : nI i + 1 = nI (i + 1) := nI_add i 1
    rw [w_X11_firstOut_16, (hE.2.2.2.2.2.1 τ hk).1, e1]
    refine ⟨fun _ => ?_, fun z => absurd (nI_le (by omega) (by omega)) z⟩
    rw [nI_m1 (by omega)]
    refine leastOf_ok (o := oOut u) hE (n := N - 1) (w := 0) (b := b) (by omega) (fun j hj => by unfold oOut; split <;> omega) (by omega) (by omega) hk (fun j hj => h20 j (by omega)) (fun τ' k1 => ?_)
    obtain ⟨g1, g2⟩ := hr τ' (k1.mono (fun a k q => Or.inl q))
    obtain ⟨m1, m2, m3⟩ := fwW_eq E (oOut u) (n := N - 1) (by omega)
    rw [m3]
    by_cases c : fwW E (oOut u) (N - 1) < b
    · rw [Nat.min_eq_right (by omega)]
      exact ⟨fun z => absurd z (fun z => of_eq_false (k_nle (a := b) (b := fwW E (oOut u) (N - 1)) c (by omega)) z), fun _ => g1 c⟩
    · rw [Nat.min_eq_left (by omega), show nI u + 1 = nI (u + 1) from nI_add u 1]
      exact ⟨fun _ => g2 c, fun z => absurd (Int32.le_refl _) z⟩
  | succ d ih =>
    intro i τ hd hui hk h20 hr
    have e1 : nI i + 1 = nI (i + 1) := nI_add i 1
    have nle : ¬ nI N ≤ nI (i + 1) := fun z => of_eq_false (k_nle (a := N) (b := i + 1) (by omega) (by omega)) z
    rw [w_X11_firstOut_16, (hE.2.2.2.2.2.1 τ hk).1, e1, k_cl (by omega)]
    have k0 : Kp (FL σ T) τ (sI τ 20 i (nI (i + 1))) := Kp.sI Kp.rf _ (Or.inr rfl)
    refine ⟨fun z => absurd z nle, fun _ => ⟨vp_in_nI (by omega) (by omega), ih (i + 1) _ (by omega) (by omega) (hk.tr (k0.mono (fun a k q => Or.inl q.sc))) (fun j hj => ?_) (fun τ' k1 => hr τ' (k0.tr k1))⟩⟩
    by_cases c : j = i
    · rw [c, mI_sI_s]
      unfold oOut
      rw [if_neg (by omega)]
    · rw [mI_sI_k _ _ c]; exact h20 j (by omega)
set_option maxHeartbeats 1000000 in
theorem foC_go {Q : Int32 → Mem → Prop} (hE : Env σ T N E.1 E.2.1 E.2.2.1 E.2.2.2) {b : Nat} (hb : b ≤ 8) : ∀ (d i : Nat) (τ : Mem), i + d = N → Kp (SC σ T) σ τ → (∀ τ', Kp (FL σ T) τ τ' → Q (lsGo (fun u => decide (fwW E (oOut u) (N - 1) < b)) d i) τ') → w_X11_firstOut_2 Q (d + 1) (nI b) (nI i) τ := by
  have hN := hE.1
  intro d
  induction d with
  | zero =>
    intro i τ hd hk hq
    have e : i = N := by omega
    subst e
    rw [w_X11_firstOut_2, (hE.2.2.2.2.2.1 τ hk).1]
    exact ⟨fun _ => hq τ Kp.rf, fun z => absurd (Int32.le_refl _) z⟩
  | succ d ih =>
    intro i τ hd hk hq
    have nle : ¬ nI N ≤ nI i := fun z => of_eq_false (k_nle (a := N) (b := i) (by omega) (by omega)) z
    rw [w_X11_firstOut_2, (hE.2.2.2.2.2.1 τ hk).1]
    refine ⟨fun z => absurd z nle, fun _ => order_ok hN (hE.2.2.2.2.2.1 τ hk).1 (fun τ0 k0 h20 => ?_)⟩
    have k0' : Kp (FL σ T) τ τ0 := k0.mono (fun a k q => Or.inr q)
    have hk0 : Kp (SC σ T) σ τ0 := hk.tr (k0'.mono (fun a k q => Or.inl q.sc))
    refine ⟨(N - 1 - i) + 1, out_go hE hb (by omega) (fun _ _ => trivial) (N - 1 - i) i τ0 (by omega) (Nat.le_refl _) hk0 (fun j hj => ?_) (fun τ1 k1 => ⟨fun c => ?_, fun c => ?_⟩)⟩
    · rw [h20 j (by omega)]
      unfold oOut
      rw [if_pos hj]
    · have := hq τ1 (k0'.tr k1)
      rw [lsGo, if_pos (decide_eq_true c)] at this
      exact this
    · refine ih (i + 1) τ1 (by omega) (hk0.tr (k1.mono (fun a k q => Or.inl q.sc))) (fun τ2 k2 => ?_)
      have := hq τ2 ((k0'.tr k1).tr k2)
      rw [lsGo, if_neg (by rw [decide_eq_true_iff]; exact c)] at this
      exact this
set_option maxHeartbeats 1000000 in
theorem fsC_go {Q : Int32 → Mem → Prop} (hE : Env σ T N E.1 E.2.1 E.2.2.1 E.2.2.2) {b : Nat} (hb : b ≤ 8) : ∀ (d i : Nat) (τ : Mem), (i + d + 1 = N ∨ (N = 0 ∧ i = 0 ∧ d = 0)) → Kp (SC σ T) σ τ → (∀ τ', Kp (FL σ T) τ τ' → Q (lsGo (fun u => decide (fwW E (oSw u) N < b)) d i) τ') → w_X11_firstSwap_2 Q (d + 1) (nI b) (nI i) τ := by
  have hN := hE.1
  intro d
  induction d with
  | zero =>
    intro i τ hd hk hq
    have e1 : nI i + 1 = nI (i + 1) := nI_add i 1
    rw [w_X11_firstSwap_2, (hE.2.2.2.2.2.1 τ hk).1, e1]
    exact ⟨fun _ => hq τ Kp.rf, fun z => absurd (nI_le (by omega) (by omega)) z⟩
  | succ d ih =>
    intro i τ hd hk hq
    have e1 : nI i + 1 = nI (i + 1) := nI_add i 1
    have nle : ¬ nI N ≤ nI (i + 1) := fun z => of_eq_false (k_nle (a := N) (b := i + 1) (by omega) (by omega)) z
    rw [w_X11_firstSwap_2, (hE.2.2.2.2.2.1 τ hk).1, e1]
    refine ⟨fun z => absurd z nle, fun _ => order_ok hN (hE.2.2.2.2.2.1 τ hk).1 (fun τ0 k0 h20 => ?_)⟩
    have k0' : Kp (FL σ T) τ τ0 := k0.mono (fun a k q => Or.inr q)
    have hk0 : Kp (SC σ T) σ τ0 := hk.tr (k0'.mono (fun a k q => Or.inl q.sc))
    have h02 := (hE.2.2.2.2.2.1 τ0 hk0).1
    have v1 : vp_in (nI i) 8 := vp_in_nI (by omega) (by omega)
    have v2 : vp_in (nI (i + 1)) 8 := vp_in_nI (by omega) (by omega)
    unfold w_X11_changeAbout
    refine isP_ok h02 hN (by omega) ⟨fun c => absurd c (by decide), fun _ => isP_ok h02 hN (by omega) ⟨fun c => absurd c (by decide), fun _ => ⟨v1, fun w1 hw1 => ⟨v2, fun w2 hw2 => ⟨v1, v2, ?_⟩⟩⟩⟩⟩
    rw [k_cl (by omega), h20 i (by omega)] at hw1
    rw [k_cl (by omega), h20 _ (by omega)] at hw2
    subst hw1
    subst hw2
    rw [k_cl (a := i) (by omega), k_cl (a := i + 1) (by omega)]
    have k1 : Kp (FL σ T) τ0 (sI (sI τ0 20 i (nI (i + 1))) 20 (i + 1) (nI i)) := Kp.sI (Kp.sI Kp.rf _ (Or.inr rfl)) _ (Or.inr rfl)
    have hk1 := hk0.tr (k1.mono (fun a k q => Or.inl q.sc))
    rw [(hE.2.2.2.2.2.1 _ hk1).1]
    refine leastOf_ok (o := oSw i) hE (n := N) (w := 0) (b := b) hN (fun j hj => by unfold oSw; split <;> (try split) <;> omega) (by omega) (by omega) hk1 (fun j hj => ?_) (fun τ2 k2 => ?_)
    · unfold oSw
      by_cases c1 : j = i
      · rw [if_pos c1, c1, mI_sI_k _ _ (by omega), mI_sI_s]
      · rw [if_neg c1]
        by_cases c2 : j = i + 1
        · rw [if_pos c2, c2, mI_sI_s]
        · rw [if_neg c2, mI_sI_k _ _ c2, mI_sI_k _ _ c1]
          exact h20 j hj
    · have kk : Kp (FL σ T) τ τ2 := (k0'.tr k1).tr (k2.mono (fun a k q => Or.inl q))
      obtain ⟨m1, m2, m3⟩ := fwW_eq E (oSw i) (n := N) hN
      rw [m3]
      by_cases c : fwW E (oSw i) N < b
      · rw [Nat.min_eq_right (by omega)]
        refine ⟨fun z => absurd z (fun z => of_eq_false (k_nle (a := b) (b := fwW E (oSw i) N) c (by omega)) z), fun _ => ?_⟩
        have := hq τ2 kk
        rw [lsGo, if_pos (decide_eq_true c)] at this
        exact this
      · rw [Nat.min_eq_left (by omega)]
        refine ⟨fun _ => ?_, fun z => absurd (Int32.le_refl _) z⟩
        refine ih (i + 1) τ2 (by omega) (hk.tr (kk.mono (fun a k q => Or.inl q.sc))) (fun τ3 k3 => ?_)
        have := hq τ3 (kk.tr k3)
        rw [lsGo, if_neg (by rw [decide_eq_true_iff]; exact c)] at this
        exact this
set_option maxHeartbeats 1000000 in
theorem l107 {Q : Int32 → Mem → Prop} {K : Int32 → Int32 → Int32 → Int32 → Mem → Prop} {τ : Mem} (hE : Env σ T N E.1 E.2.1 E.2.2.1 E.2.2.2) {w b u : Nat} {o : Nat → Nat} (hw : w ≤ 1) (hb : b ≤ 8) (hu : u < N) (ho : ∀ j, j < (if w = 0 then N - 1 else N) → o j < N) (hk : Kp (SC σ T) σ τ) (h53 : ∀ j, j < (if w = 0 then N - 1 else N) → mI τ 53 j = nI (o j)) (hq : ∀ τ', Kp FX τ τ' → (∀ j, j < 8 → mI τ' 53 j = nI j) → K (nI w) (nI b) (if fwW E o (if w = 0 then N - 1 else N) < b then nI u else -1) (nI (u + 1)) τ') : w_X12_less_107 Q K (nI w) (nI b) (nI u) τ := by
  have hN := hE.1
  have e0 := (hE.2.2.2.2.2.1 τ hk).2.1
  have core : w_X12_less_125 Q K (nI w) (nI b) (nI u) (nI (if w = 0 then N - 1 else N)) τ := by
    unfold w_X12_less_125 w_X12_less_142
    refine goT_ok (o := o) hE (by split <;> omega) ho hk h53 (fun τ1 k1 g35 _ => ?_)
    obtain ⟨m1, m2, m3⟩ := fwW_eq E o (n := if w = 0 then N - 1 else N) (by split <;> omega)
    rw [m2] at g35
    have g35' : mI τ1 37 35 = nI (fwW E o (if w = 0 then N - 1 else N)) := g35
    rw [g35', show nI u + 1 = nI (u + 1) from nI_add u 1]
    by_cases c : fwW E o (if w = 0 then N - 1 else N) < b
    · refine ⟨fun z => absurd z (fun z => of_eq_false (k_nle (a := b) (b := fwW E o (if w = 0 then N - 1 else N)) c (by omega)) z), fun _ => asT_ok (fun τ2 k2 h2 => ?_)⟩
      have := hq τ2 ((k1.mono (fun a k q => Or.inl q)).tr (k2.mono (fun a k q => Or.inr q))) h2
      rw [if_pos c] at this
      exact this
    · refine ⟨fun _ => asT_ok (fun τ2 k2 h2 => ?_), fun z => absurd (nI_le (by omega) (by omega)) z⟩
      have := hq τ2 ((k1.mono (fun a k q => Or.inl q)).tr (k2.mono (fun a k q => Or.inr q))) h2
      rw [if_neg c] at this
      exact this
  unfold w_X12_less_107
  rw [e0]
  have hc : w = 0 ∨ w = 1 := by omega
  rcases hc with rfl | rfl
  · refine ⟨fun z => absurd rfl z, fun _ => ?_⟩
    rw [nI_m1 (by omega)]
    exact core
  · exact ⟨fun _ => core, fun z => absurd z (by decide)⟩
theorem l54 {Q : Int32 → Mem → Prop} {K : Int32 → Int32 → Int32 → Int32 → Mem → Prop} (hE : Env σ T N E.1 E.2.1 E.2.2.1 E.2.2.2) {b u : Nat} (hb : b ≤ 8) (hu : u < N) : ∀ (d i : Nat) (τ : Mem), i + d + 1 = N → u ≤ i → Kp (SC σ T) σ τ → (∀ j, j < i → mI τ 53 j = nI (oOut u j)) → (∀ τ', Kp FX τ τ' → (∀ j, j < 8 → mI τ' 53 j = nI j) → K (nI 0) (nI b) (if fwW E (oOut u) (N - 1) < b then nI u else -1) (nI (u + 1)) τ') → w_X12_less_54 Q K (d + 1) (nI 0) (nI b) (nI u) (nI i) τ := by
  have hN := hE.1
  intro d
  induction d with
  | zero =>
    intro i τ hd hui hk h53 hq
    rw [w_X12_less_54, (hE.2.2.2.2.2.1 τ hk).2.1, nI_m1 (by omega)]
    refine ⟨fun _ => l107 (w := 0) (o := oOut u) hE (by omega) hb hu (fun j hj => ?_) hk (fun j hj => ?_) hq, fun z => absurd (nI_le (by omega) (by omega)) z⟩
    · rw [if_pos rfl] at hj
      unfold oOut; split <;> omega
    · rw [if_pos rfl] at hj
      exact h53 j (by omega)
  | succ d ih =>
    intro i τ hd hui hk h53 hq
    have e1 : nI i + 1 = nI (i + 1) := nI_add i 1
    have nle : ¬ nI (N - 1) ≤ nI i := fun z => of_eq_false (k_nle (a := N - 1) (b := i) (by omega) (by omega)) z
    rw [w_X12_less_54, (hE.2.2.2.2.2.1 τ hk).2.1, nI_m1 (by omega), e1, k_cl (by omega)]
    have k0 : Kp FX τ (sI τ 53 i (nI (i + 1))) := Kp.sI Kp.rf _ (Or.inr rfl)
    refine ⟨fun z => absurd z nle, fun _ => ⟨vp_in_nI (by omega) (by omega), ih (i + 1) _ (by omega) (by omega) (hk.tr (k0.mono (fun a k q => Or.inl (FX.sc q)))) (fun j hj => ?_) (fun τ' k1 => hq τ' (k0.tr k1))⟩⟩
    by_cases c : j = i
    · rw [c, mI_sI_s]
      unfold oOut
      rw [if_neg (by omega)]
    · rw [mI_sI_k _ _ c]; exact h53 j (by omega)
def lsP (E : EN) (N w b u : Nat) : Bool := if w = 0 then decide (fwW E (oOut u) (N - 1) < b) else decide (fwW E (oSw u) N < b)
set_option maxHeartbeats 1000000 in
theorem lsM_go {Q : Int32 → Mem → Prop} (hE : Env σ T N E.1 E.2.1 E.2.2.1 E.2.2.2) {w b : Nat} (hw : w ≤ 1) (hb : b ≤ 8) : ∀ (d i : Nat) (r : Int32) (τ : Mem), (i + d + w = N ∨ (N = 0 ∧ i = 0 ∧ d = 0)) → Kp (SC σ T) σ τ → (∀ j, j < 8 → mI τ 53 j = nI j) → (∀ τ', Kp FX τ τ' → (∀ j, j < 8 → mI τ' 53 j = nI j) → Q (if r = -1 then lsGo (lsP E N w b) d i else r) τ') → w_X12_less_30 Q (d + 1) (nI w) (nI b) r (nI i) τ := by
  have hN := hE.1
  intro d
  induction d with
  | zero =>
    intro i r τ hd hk h53 hq
    have hle : nI N - nI w ≤ nI i := by
      rcases hd with hd | ⟨h1, h2, h3⟩
      · rw [k_sub (by omega)]; exact nI_le (by omega) (by omega)
      · subst h1; subst h2
        have hc : w = 0 ∨ w = 1 := by omega
        rcases hc with rfl | rfl <;> decide
    rw [w_X12_less_30, (hE.2.2.2.2.2.1 τ hk).2.1]
    refine ⟨fun _ => ?_, fun z => absurd hle z⟩
    have := hq τ Kp.rf h53
    rw [lsGo] at this
    by_cases c : r = -1
    · rw [if_pos c] at this; rw [c]; exact this
    · rw [if_neg c] at this; exact this
  | succ d ih =>
    intro i r τ hd hk h53 hq
    have e1 : nI i + 1 = nI (i + 1) := nI_add i 1
    have nle : ¬ nI N - nI w ≤ nI i := by
      rw [k_sub (by omega)]
      exact fun z => of_eq_false (k_nle (a := N - w) (b := i) (by omega) (by omega)) z
    rw [w_X12_less_30, (hE.2.2.2.2.2.1 τ hk).2.1]
    refine ⟨fun z => absurd z nle, fun _ => ⟨fun c => ?_, fun c => ?_⟩⟩
    · have := hq τ Kp.rf h53
      rw [if_neg c] at this; exact this
    · subst c
      have fin : ∀ (P : Prop) [Decidable P], (lsP E N w b i = true ↔ P) → ∀ τ', Kp FX τ τ' → (∀ j, j < 8 → mI τ' 53 j = nI j) → w_X12_less_30 Q (d + 1) (nI w) (nI b) (if P then nI i else -1) (nI (i + 1)) τ' := by
        intro P _ hP τ' k1 h1
        refine ih (i + 1) _ τ' (by omega) (hk.tr (k1.mono (fun a k q => Or.inl (FX.sc q)))) h1 (fun τ2 k2 h2 => ?_)
        have := hq τ2 (k1.tr k2) h2
        rw [if_pos rfl, lsGo] at this
        by_cases c : P
        · rw [if_pos (hP.mpr c)] at this
          rw [if_pos c, if_neg (show ¬ nI i = -1 from fun z => of_eq_false (k_eqm (a := i) (by omega)) z)]
          exact this
        · rw [if_neg (fun z => c (hP.mp z))] at this
          rw [if_neg c, if_pos rfl]
          exact this
      have hc : w = 0 ∨ w = 1 := by omega
      rcases hc with rfl | rfl
      · refine ⟨fun z => absurd rfl z, fun _ => ⟨(N - 1 - i) + 1, ?_⟩⟩
        refine l54 hE hb (by omega) (N - 1 - i) i τ (by omega) (Nat.le_refl _) hk (fun j hj => ?_) (fun τ' k1 h1 => fin _ ?_ τ' k1 h1)
        · rw [h53 j (by omega)]
          unfold oOut
          rw [if_pos hj]
        · unfold lsP
          rw [if_pos rfl, decide_eq_true_iff]
      · refine ⟨fun _ => ⟨vp_in_nI (by omega) (by omega), ?_⟩, fun z => absurd z (by decide)⟩
        rw [e1, k_cl (a := i) (by omega), k_cl (a := i + 1) (by omega)]
        refine ⟨vp_in_nI (by omega) (by omega), ?_⟩
        have k0 : Kp FX τ (sI (sI τ 53 i (nI (i + 1))) 53 (i + 1) (nI i)) := Kp.sI (Kp.sI Kp.rf _ (Or.inr rfl)) _ (Or.inr rfl)
        refine l107 (w := 1) (o := oSw i) hE (by omega) hb (by omega) (fun j hj => ?_) (hk.tr (k0.mono (fun a k q => Or.inl (FX.sc q)))) (fun j hj => ?_) (fun τ' k1 h1 => fin _ ?_ τ' (k0.tr k1) h1)
        · rw [if_neg (by omega)] at hj
          unfold oSw; split <;> (try split) <;> omega
        · rw [if_neg (by omega)] at hj
          unfold oSw
          by_cases c1 : j = i
          · rw [if_pos c1, c1, mI_sI_k _ _ (by omega), mI_sI_s]
          · rw [if_neg c1]
            by_cases c2 : j = i + 1
            · rw [if_pos c2, c2, mI_sI_s]
            · rw [if_neg c2, mI_sI_k _ _ c2, mI_sI_k _ _ c1]
              exact h53 j (by omega)
        · unfold lsP
          rw [if_neg (by omega), decide_eq_true_iff, if_neg (by omega)]
end LessA
set_option maxHeartbeats 1000000 in
theorem p_less (σ : Mem) (x0 : Int32) (h : Rel σ) : w_X11_less σ x0 (fun r1 s1 => w_X12_less s1 x0 (fun r2 s2 => r1 = r2 ∧ Rel s2)) := by
  obtain ⟨N, L, T, hx⟩ := h.x
  obtain ⟨E, hE, -, -⟩ := env_ex hx
  have hN := hE.1
  have h53 : ∀ j, j < 8 → mI σ 53 j = nI j := hx.2.2.2.2.2.2.2.2.2.2.1
  unfold w_X11_less w_X12_less
  refine in01 (P := True) (fun c => ?_) (fun c => (in_f c).mpr ⟨fun z => absurd rfl z, fun _ => ⟨rfl, h⟩⟩)
  obtain ⟨w, hw, rfl⟩ := nI_of2 (M := 1) (n := 1) (by decide) (Int32.not_lt.mpr c.1) c.2
  refine order_ok hN (hE.2.2.2.2.2.1 σ Kp.rf).1 (fun τ0 k0 h20 => ?_)
  have k0' : Kp (FL σ T) σ τ0 := k0.mono (fun a k q => Or.inr q)
  have hk0 : Kp (SC0 σ T) σ τ0 := k0'.mono (fun a k q => q.sc)
  rw [(hE.2.2.2.2.2.1 τ0 hk0.s0).1]
  obtain ⟨m1, m2, m3⟩ := fwW_eq E (fun j => j) (n := N) hN
  refine leastOf_ok (o := fun j => j) (w := 0) (b := 793) hE hN (fun j hj => hj) (by omega) (Nat.le_refl _) hk0.s0 h20 (fun τ1 k1 => ?_)
  rw [m3, Nat.min_eq_right (by omega)]
  have k01 : Kp (FL σ T) σ τ1 := k0'.tr (k1.mono (fun a k q => Or.inl q))
  have hk1 : Kp (SC0 σ T) σ τ1 := k01.mono (fun a k q => q.sc)
  have model : ∀ τ2, Kp (FL σ T) σ τ2 → ∀ v, v = lsGo (lsP E N w (fwW E (fun j => j) N)) (N - w) 0 → w_X12_isIn τ2 (nI w) 0 1 (fun v101 s103 => (¬v101 = 0 → w_X12_goThrough s103 (mI s103 37 0) fun s106 => ∃ m107, w_X12_less_30 (fun r2 s2 => v = r2 ∧ Rel s2) m107 (nI w) (mI s106 37 35) (-1) 0 s106) ∧ (v101 = 0 → v = -2 ∧ Rel s103)) := by
    intro τ2 k2 v hv
    have hk2 : Kp (SC0 σ T) σ τ2 := k2.mono (fun a k q => q.sc)
    have u53 : ∀ j, j < 8 → mI τ2 53 j = nI j := fun j hj => by rw [FL.un hE k2 (a := 53) (by omega)]; exact h53 j hj
    refine (in_t c).mpr ⟨fun _ => ?_, fun z => absurd z (by decide)⟩
    rw [(hE.2.2.2.2.2.1 τ2 hk2.s0).2.1]
    refine goT_ok (o := fun j => j) hE hN (fun j hj => hj) hk2.s0 (fun j hj => u53 j (by omega)) (fun τ3 k3 g35 _ => ?_)
    rw [m2] at g35
    have g35' : mI τ3 37 35 = nI (fwW E (fun j => j) N) := g35
    rw [g35']
    have hk3 : Kp (SC0 σ T) σ τ3 := hk2.tr (k3.mono (fun a k q => FW.sc q))
    refine ⟨(N - w) + 1, lsM_go hE hw m1 (N - w) 0 (-1) τ3 (by omega) hk3.s0 (fun j hj => by rw [k3.2.2.2 _ _ (by unfold FW; omega)]; exact u53 j hj) (fun τ4 k4 h4 => ⟨?_, ?_⟩)⟩
    · rw [hv, if_pos rfl]
    · exact (hx.sc (hk3.tr (k4.mono (fun a k q => FX.sc q))) h4).rel
  have hc : w = 0 ∨ w = 1 := by omega
  rcases hc with rfl | rfl
  · refine ⟨fun z => absurd rfl z, fun _ => ?_⟩
    unfold w_X11_firstOut
    refine ⟨N + 1, foC_go hE m1 N 0 τ1 (by omega) hk1.s0 (fun τ2 k2 => ?_)⟩
    exact model τ2 (k01.tr k2) _ rfl
  · refine ⟨fun _ => ?_, fun z => absurd z (by decide)⟩
    unfold w_X11_firstSwap
    refine ⟨(N - 1) + 1, fsC_go hE m1 (N - 1) 0 τ1 (by omega) hk1.s0 (fun τ2 k2 => ?_)⟩
    exact model τ2 (k01.tr k2) _ rfl
