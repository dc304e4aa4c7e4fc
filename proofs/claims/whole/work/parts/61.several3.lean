/-! STAGE 2: several, the model's way -/
theorem fold_le {f : Nat → Bool} {v : Nat → Nat} {X : Nat} : ∀ (l : List Nat) (b : Nat), (∀ r, r ∈ l → f r = true → v r ≤ X) → b ≤ X → l.foldl (fun b r => if f r = true then max b (v r) else b) b ≤ X
  | [], b, _, hb => hb
  | r :: l, b, h, hb => by
    show l.foldl _ (if f r = true then max b (v r) else b) ≤ X
    refine fold_le l _ (fun s hs => h s (List.mem_cons_of_mem _ hs)) ?_
    by_cases c : f r = true
    · rw [if_pos c]; exact Nat.max_le.mpr ⟨hb, h r List.mem_cons_self c⟩
    · rw [if_neg c]; exact hb
theorem gR_le {R : Nat → Nat → Bool} {k : Nat} : ∀ (d p : Nat) (e : Nat → Option Nat), gR R k d p e ≤ d
  | 0, _, _ => Nat.le_refl _
  | d + 1, p, e => by
    rw [gR]
    refine fold_le (f := fun r => okR R (e r) p) (v := fun r => 1 + gR R k d (p + 1) (fun i => if i = r then some p else e i)) _ _ (fun r _ _ => ?_) ?_
    · have := gR_le (R := R) (k := k) d (p + 1) (fun i => if i = r then some p else e i)
      omega
    · have := gR_le (R := R) (k := k) d (p + 1) e
      omega
theorem kp_back {F : Nat → Nat → Prop} {τ s : Mem} {a k : Nat} {v w : Int32} (h : Kp F (sI τ a k v) s) (hw : mI τ a k = w) (hF : ¬ F a k) : Kp F τ (sI s a k w) := by
  refine ⟨fun b j => h.1 b j, fun b => h.2.1 b, h.2.2.1, fun b j q => ?_⟩
  rw [mI_sI]
  by_cases e1 : b = a
  · by_cases e2 : j = k
    · rw [if_pos e1, if_pos e2, e1, e2, hw]
    · rw [if_pos e1, if_neg e2, h.2.2.2 b j q, mI_sI_k _ _ e2]
  · rw [if_neg e1, h.2.2.2 b j q, mI_sI_n _ _ e1]
section SeveralM
variable {σ : Mem} {T N : Nat} {E : EN}
set_option maxHeartbeats 1000000 in
theorem mfM (hE : Env σ T N E.1 E.2.1 E.2.2.1 E.2.2.2) {k : Nat} (hk3 : k ≤ 3) : ∀ (fu d p : Nat) (e : Nat → Option Nat) (τ : Mem) (Q : Int32 → Mem → Prop), d < fu → p + d = N → Kp (SC σ T) σ τ → (∀ r, r < k → mI τ 56 r = aI (e r)) → (∀ r q, r < k → e r = some q → q < p) → (∀ τ', Kp (fun a _ => a = 49 ∨ a = 50) τ τ' → Q (nI (gR (rowR E) k d p e)) τ') → f_X12_mostFrom fu τ (nI p) (nI k) Q := by
  have hN := hE.1
  intro fu
  induction fu with
  | zero => intro d p e τ Q hd; omega
  | succ fu ih =>
    intro d p e τ Q hd hp hk h56 he hq
    rw [f_X12_mostFrom]
    unfold w_X12_mostFrom
    rw [(hE.2.2.2.2.2.1 τ hk).2.1]
    cases d with
    | zero =>
      have ep : p = N := by omega
      subst ep
      exact ⟨fun z => absurd rfl z, fun _ => hq τ Kp.rf⟩
    | succ d =>
      refine ⟨fun _ => ?_, fun z => by rw [nI_eq (by omega) (by omega)] at z; omega⟩
      rw [show nI p + 1 = nI (p + 1) from nI_add p 1]
      refine ih d (p + 1) e τ _ (by omega) (by omega) hk h56 (fun r q hr hq => by have := he r q hr hq; omega) (fun τ1 k1 => ?_)
      rw [gR, List.range_eq_range'] at hq
      have lp : ∀ (c r most : Nat) (τ2 : Mem), r + c = k → most ≤ 8 → Kp (fun a _ => a = 49 ∨ a = 50) τ τ2 → (∀ τ', Kp (fun a _ => a = 49 ∨ a = 50) τ τ' → Q (nI ((List.range' r c).foldl (fun b r => if okR (rowR E) (e r) p = true then max b (1 + gR (rowR E) k d (p + 1) (fun i => if i = r then some p else e i)) else b) most)) τ') → w_X12_mostFrom_22 (f_X12_mostFrom fu) Q (c + 1) (nI p) (nI k) (nI most) (nI r) τ2 := by
        intro c
        induction c with
        | zero =>
          intro r most τ2 hr hmo k2 hq2
          have er : r = k := by omega
          subst er
          rw [w_X12_mostFrom_22]
          exact ⟨fun _ => hq2 τ2 k2, fun z => absurd (Int32.le_refl _) z⟩
        | succ c ihc =>
          intro r most τ2 hr hmo k2 hq2
          have nle : ¬ nI k ≤ nI r := fun z => of_eq_false (k_nle (a := k) (b := r) (by omega) (by omega)) z
          have vr : vp_in (nI r) 3 := vp_in_nI (by omega) (by omega)
          have e1 : nI r + 1 = nI (r + 1) := nI_add r 1
          have hk2 := hk.m5 k2
          have g56 : ∀ τ3, Kp (fun a _ => a = 49 ∨ a = 50) τ τ3 → ∀ i, i < k → mI τ3 56 i = aI (e i) := fun τ3 k3 i hi => by rw [k3.2.2.2 _ _ (by omega)]; exact h56 i hi
          rw [List.range'_succ, List.foldl_cons] at hq2
          rw [w_X12_mostFrom_22, k_cl (by omega), g56 τ2 k2 r (by omega)]
          refine ⟨fun z => absurd z nle, fun _ => ⟨vr, fun v hv => ?_⟩⟩
          subst hv
          have yes : okR (rowR E) (e r) p = true → ∀ τ3, Kp (fun a _ => a = 49 ∨ a = 50) τ τ3 → w_X12_mostFrom_53 (f_X12_mostFrom fu) Q (fun z0 z1 z2 z3 z4 => w_X12_mostFrom_22 (f_X12_mostFrom fu) Q (c + 1) z0 z1 z2 z3 z4) (nI p) (nI k) (nI most) (nI r) (aI (e r)) τ3 := by
            intro hok τ3 k3
            rw [if_pos hok] at hq2
            unfold w_X12_mostFrom_53 w_X12_mostFrom_85
            rw [k_cl (by omega), e1, show nI p + 1 = nI (p + 1) from nI_add p 1]
            have hk3' := hk.m5 k3
            have k4 : Kp (fun a _ => a = 56) τ3 (sI τ3 56 r (nI p)) := (by repeat (first | exact Kp.rf | refine Kp.sI ?_ _ (by first | exact rfl | omega | (dsimp only; omega))))
            refine ⟨vr, ih d (p + 1) (fun i => if i = r then some p else e i) _ _ (by omega) (by omega) (hk3'.tr (k4.mono (fun a i q => by unfold SC SC0; omega))) (fun i hi => ?_) (fun i q hi hq => ?_) (fun τ5 k5 v hv => ⟨vr, ?_⟩)⟩
            · by_cases c2 : i = r
              · rw [if_pos c2, c2, mI_sI_s]; rfl
              · rw [if_neg c2, mI_sI_k _ _ c2]; exact g56 τ3 k3 i hi
            · by_cases c2 : i = r
              · rw [if_pos c2] at hq; cases hq; omega
              · rw [if_neg c2] at hq; have := he i q hi hq; omega
            · have hgl := gR_le (R := rowR E) (k := k) d (p + 1) (fun i => if i = r then some p else e i)
              have em : v = nI (max most (1 + gR (rowR E) k d (p + 1) (fun i => if i = r then some p else e i))) := by
                rw [hv, show (1 : Int32) = nI 1 from rfl, nI_add]
                by_cases y : most < 1 + gR (rowR E) k d (p + 1) (fun i => if i = r then some p else e i)
                · rw [if_pos (nI_lt y (by omega)), Nat.max_eq_right (by omega)]
                · rw [if_neg (fun q => of_eq_false (k_nlt (a := most) (b := 1 + gR (rowR E) k d (p + 1) (fun i => if i = r then some p else e i)) (by omega) (by omega)) q), Nat.max_eq_left (by omega)]
              subst em
              have k6 := k3.tr (kp_back k5 (g56 τ3 k3 r (by omega)) (by omega))
              exact ihc (r + 1) _ _ (by omega) (Nat.max_le.mpr ⟨hmo, by omega⟩) k6 hq2
          have no : ¬ okR (rowR E) (e r) p = true → ∀ τ3, Kp (fun a _ => a = 49 ∨ a = 50) τ τ3 → w_X12_mostFrom_85 (f_X12_mostFrom fu) Q (fun z0 z1 z2 z3 z4 => w_X12_mostFrom_22 (f_X12_mostFrom fu) Q (c + 1) z0 z1 z2 z3 z4) (nI p) (nI k) (nI most) (nI r) τ3 := by
            intro hok τ3 k3
            rw [if_neg hok] at hq2
            unfold w_X12_mostFrom_85
            rw [e1]
            exact ihc (r + 1) most τ3 (by omega) hmo k3 hq2
          cases hee : e r with
          | none =>
            rw [hee] at yes
            exact ⟨fun _ => yes rfl τ2 k2, fun z => absurd rfl z⟩
          | some q =>
            have hqp := he r q (by omega) hee
            have q1 : ¬ aI (some q) = -1 := fun z => of_eq_false (k_eqm (a := q) (by omega)) z
            rw [hee] at yes no
            refine ⟨fun z => absurd z q1, fun _ => couldM hE hk2 (by omega) (by omega) (fun τ3 k3 => ?_)⟩
            by_cases c : rowR E q p = true
            · rw [if_pos c]
              exact ⟨fun z => absurd rfl z, fun _ => yes c τ3 (k2.tr k3)⟩
            · rw [if_neg c]
              exact ⟨fun _ => no c τ3 (k2.tr k3), fun z => absurd z (by decide)⟩
      have hgl := gR_le (R := rowR E) (k := k) d (p + 1) e
      exact ⟨k + 1, lp k 0 _ τ1 (by omega) (by omega) k1 hq⟩
theorem sv14 {Q : Int32 → Mem → Prop} {k : Nat} : ∀ (d i : Nat) (τ : Mem), i + d = 3 → (∀ j, j < i → mI τ 56 j = -1) → (∀ τ', Kp (fun a _ => a = 56) τ τ' → (∀ j, j < 3 → mI τ' 56 j = -1) → ∃ m104 : Nat, m104 ≤ 12 ∧ f_X12_mostFrom m104 τ' 0 (nI k) (fun v101 s103 => Q v101 s103)) → w_X12_several_14 Q (d + 1) (nI k) (nI i) τ := by
  intro d
  induction d with
  | zero =>
    intro i τ hd h56 hq
    have e : i = 3 := by omega
    subst e
    rw [w_X12_several_14]
    exact ⟨fun _ => hq τ Kp.rf h56, fun c => absurd (Int32.le_refl _) c⟩
  | succ d ih =>
    intro i τ hd h56 hq
    have nle : ¬ (3 : Int32) ≤ nI i := fun z => of_eq_false (k_nle (a := 3) (b := i) (by omega) (by omega)) z
    have k0 : Kp (fun a _ => a = 56) τ (sI τ 56 i (-1)) := (by repeat (first | exact Kp.rf | refine Kp.sI ?_ _ (by first | exact rfl | omega | (dsimp only; omega))))
    rw [w_X12_several_14, k_cl (by omega), show nI i + 1 = nI (i + 1) from nI_add i 1]
    refine ⟨fun c => absurd c nle, fun _ => ⟨vp_in_nI (by omega) (by omega), ih (i + 1) _ (by omega) (fun j hj => ?_) (fun τ' k1 h1 => hq τ' (k0.tr k1) h1)⟩⟩
    by_cases c : j = i
    · rw [c, mI_sI_s]
    · rw [mI_sI_k _ _ c]; exact h56 j (by omega)
end SeveralM
set_option maxHeartbeats 1000000 in
theorem p_several (σ : Mem) (x0 : Int32) (h : Rel σ) : w_X11_several σ x0 (fun r1 s1 => w_X12_several s1 x0 (fun r2 s2 => r1 = r2 ∧ Rel s2)) := by
  obtain ⟨N, L, T, hx⟩ := h.x
  obtain ⟨E, hE, -, -⟩ := env_ex hx
  have hN := hE.1
  have h53 : ∀ j, j < 8 → mI σ 53 j = nI j := hx.2.2.2.2.2.2.2.2.2.2.1
  unfold w_X11_several w_X12_several
  by_cases c : 1 ≤ x0 ∧ x0 ≤ 3
  · have c0 : ¬ x0 < 0 := Int32.not_lt.mpr (Int32.le_trans (by decide) c.1)
    obtain ⟨k, hk, rfl⟩ := nI_of2 (M := 3) (n := 3) (by decide) c0 c.2
    refine ⟨fun z => absurd c.1 (Int32.not_le.mpr z), fun _ => ⟨fun _ => fillC hE Kp.rf (fun τ1 cv k1 g1 g2 => ?_), fun z => absurd c.2 z⟩⟩
    have hk1 : Kp (SC0 σ T) σ τ1 := k1.mono (fun a k q => q.sc)
    refine ⟨2 ^ N + 1, svC hN hk (hE.2.2.2.2.2.1 τ1 hk1.s0).1 g1 (fun i hi => (g2 i hi).ge.1) (2 ^ N) 0 0 (by omega) (by omega) ?_⟩
    rw [sev_eq hN (by omega) g2]
    refine (in_t c).mpr ⟨fun _ => ⟨4, sv14 3 0 τ1 (by omega) (fun j hj => by omega) (fun τ2 k2 g56 => ⟨N + 1, by omega, ?_⟩)⟩, fun z => absurd z (by decide)⟩
    have hk2 : Kp (SC0 σ T) σ τ2 := hk1.tr (k2.mono (fun a i q => by unfold SC0; omega))
    refine mfM hE hk (N + 1) N 0 (fun _ => none) τ2 _ (by omega) (by omega) hk2.s0 (fun r hr => g56 r (by omega)) (fun r q _ hq => by cases hq) (fun τ3 k3 => ⟨rfl, ?_⟩)
    refine (hx.sc (m5.sc hk2 k3) (fun j hj => ?_)).rel
    rw [k3.2.2.2 _ _ (by omega), k2.2.2.2 _ _ (by omega), FV.n53 hE k1 (by omega)]
    exact h53 j hj
  · exact ⟨fun z => (in_f c).mpr ⟨fun z => absurd rfl z, fun _ => ⟨rfl, h⟩⟩, fun z => ⟨fun z2 => absurd ⟨Int32.not_lt.mp z, z2⟩ c, fun z2 => (in_f c).mpr ⟨fun z => absurd rfl z, fun _ => ⟨rfl, h⟩⟩⟩⟩
