/-! STAGE 2: TEXT: the class goes to the next token -/
/-- the class's word k is the model's -/
def cw (k : Nat) : List Nat := wds.getD (if k ≤ 6 then k + 5 else k - 7) []
theorem cw_len : ∀ k, k < 13 → 1 ≤ k → lenX.getD k 0 = (cw k).length ∧ (cw k).length ≤ 6 := by decide
theorem cw_byt : ∀ k, k < 13 → 1 ≤ k → ∀ x, x < (cw k).length → (bytX.getD k []).getD x 0 &&& 255 = nI ((cw k).getD x 0) ∧ (cw k).getD x 0 < 256 := by decide
theorem mws_ne1 (l : List Nat) : ∀ w, ¬ (mws l w).1 = 1
  | 0 => fun z => absurd z (show ¬ (6 = 1) by omega)
  | w + 1 => by
    unfold mws
    split
    · split
      · exact fun z => absurd z (show ¬ (2 = 1) by omega)
      · exact fun z => absurd z (show ¬ (3 = 1) by omega)
    · exact mws_ne1 l w
section Adv
variable {tp : Nat → Nat} {sz : Nat}
theorem spL {Q : Int32 → Mem → Prop} {τ : Mem} {k p : Nat} (hC : tpC τ tp sz) (hk : k < 13) (hk1 : 1 ≤ k) (hp : mI τ 5 4 = nI p) (hz : p + (cw k).length ≤ sz) (hq : Q (if wb tp p (cw k).length = cw k then 1 else 0) τ) : ∀ (d x : Nat), x + d = (cw k).length → (∀ y, y < x → tp (p + y) = (cw k).getD y 0) → w_X5_spells_20 Q (d + 1) k (nI x) τ := by
  have hl := cw_len k hk hk1
  have h160 := hC.2.1
  intro d
  induction d with
  | zero =>
    intro x hx hy
    refine ⟨hk, fun _ => ?_, fun z => absurd ?_ z⟩
    · rw [if_pos (wb_eq.mpr ⟨rfl, fun y h => hy y (by omega)⟩)] at hq; exact hq
    · rw [hl.1]; exact nI_le (by omega) (by omega)
  | succ d ih =>
    intro x hx hy
    refine ⟨hk, fun z => absurd z ?_, fun _ => ?_⟩
    · rw [hl.1]; exact of_eq_false (k_nle (by omega) (by omega))
    · rw [hC.1, hp, nI_add]
      refine ⟨fun z => absurd z (of_eq_false (k_nle (by omega) (by omega))), fun _ => ⟨vp_in_nI (by omega) (by omega), ⟨hk, ?_⟩, ?_⟩⟩
      · rw [hl.1]; exact vp_in_nI (by omega) (by omega)
      · rw [k_cl (by omega), k_cl (by omega), (hC.2.2 (p + x) (by omega)).1, (cw_byt k hk hk1 x (by omega)).1]
        have hb := (hC.2.2 (p + x) (by omega)).2
        have hc := (cw_byt k hk hk1 x (by omega)).2
        refine ⟨fun z => ?_, fun z => ?_⟩
        · rw [show nI x + 1 = nI (x + 1) from nI_add x 1]
          refine ih (x + 1) (by omega) (fun y h => ?_)
          by_cases c : y = x
          · subst c; exact (nI_is hb hc).mp z
          · exact hy y (by omega)
        · rw [if_neg (fun q => z (by rw [(wb_eq.mp q).2 x (by omega)]))] at hq
          exact hq
theorem sp5 {Q : Int32 → Mem → Prop} {τ : Mem} {k p e : Nat} (hC : tpC τ tp sz) (hk : k < 13) (hk1 : 1 ≤ k) (hp : mI τ 5 4 = nI p) (he : mI τ 5 5 = nI e) (hpe : p ≤ e) (hz : e ≤ sz) (hq : Q (if wb tp p (e - p) = cw k then 1 else 0) τ) : w_X5_spells τ k Q := by
  have hl := cw_len k hk hk1
  have h160 := hC.2.1
  unfold w_X5_spells
  rw [hp, he, hl.1, k_sub hpe]
  refine ⟨hk, fun z => ?_, fun z => ?_⟩
  · have ez : e - p = (cw k).length := (nI_eq (by omega) (by omega)).mp z
    rw [ez] at hq
    exact ⟨_, spL hC hk hk1 hp (by omega) hq (cw k).length 0 (by omega) (fun y h => absurd h (by omega))⟩
  · rw [if_neg (fun q => z (by rw [(wb_eq.mp q).1]))] at hq
    exact hq
theorem one_ne : ¬ (1 : Int32) = 0 := by decide
theorem wd5 {Q : Mem → Prop} {τ : Mem} {p e : Nat} (hC : tpC τ tp sz) (hp : mI τ 5 4 = nI p) (he : mI τ 5 5 = nI e) (hpe : p ≤ e) (hz : e ≤ sz) (hq : ∀ v, v = ckd (mws (wb tp p (e - p)) 12) → Q (sI τ 5 3 v)) : w_X5_scanWord_39 Q τ := by
  unfold w_X5_scanWord_39
  refine sp5 hC (by decide) (by decide) hp he hpe hz ?_
  by_cases c1 : wb tp p (e - p) = cw 1
  · rw [if_pos c1]; exact ⟨fun z => absurd z one_ne, fun _ => hq _ (by rw [c1]; decide)⟩
  rw [if_neg c1]; refine ⟨fun _ => ?_, fun z => absurd rfl z⟩
  refine sp5 hC (by decide) (by decide) hp he hpe hz ?_
  by_cases c2 : wb tp p (e - p) = cw 2
  · rw [if_pos c2]; exact ⟨fun z => absurd z one_ne, fun _ => hq _ (by rw [c2]; decide)⟩
  rw [if_neg c2]; refine ⟨fun _ => ?_, fun z => absurd rfl z⟩
  refine sp5 hC (by decide) (by decide) hp he hpe hz ?_
  by_cases c3 : wb tp p (e - p) = cw 3
  · rw [if_pos c3]; exact ⟨fun z => absurd z one_ne, fun _ => hq _ (by rw [c3]; decide)⟩
  rw [if_neg c3]; refine ⟨fun _ => ?_, fun z => absurd rfl z⟩
  refine sp5 hC (by decide) (by decide) hp he hpe hz ?_
  by_cases c4 : wb tp p (e - p) = cw 4
  · rw [if_pos c4]; exact ⟨fun z => absurd z one_ne, fun _ => hq _ (by rw [c4]; decide)⟩
  rw [if_neg c4]; refine ⟨fun _ => ?_, fun z => absurd rfl z⟩
  refine sp5 hC (by decide) (by decide) hp he hpe hz ?_
  by_cases c5 : wb tp p (e - p) = cw 5
  · rw [if_pos c5]; exact ⟨fun z => absurd z one_ne, fun _ => hq _ (by rw [c5]; decide)⟩
  rw [if_neg c5]; refine ⟨fun _ => ?_, fun z => absurd rfl z⟩
  refine sp5 hC (by decide) (by decide) hp he hpe hz ?_
  by_cases c6 : wb tp p (e - p) = cw 6
  · rw [if_pos c6]; exact ⟨fun z => absurd z one_ne, fun _ => hq _ (by rw [c6]; decide)⟩
  rw [if_neg c6]; refine ⟨fun _ => ?_, fun z => absurd rfl z⟩
  refine sp5 hC (by decide) (by decide) hp he hpe hz ?_
  by_cases c7 : wb tp p (e - p) = cw 7
  · rw [if_pos c7]; exact ⟨fun z => absurd z one_ne, fun _ => hq _ (by rw [c7]; decide)⟩
  rw [if_neg c7]; refine ⟨fun _ => ?_, fun z => absurd rfl z⟩
  refine sp5 hC (by decide) (by decide) hp he hpe hz ?_
  by_cases c8 : wb tp p (e - p) = cw 8
  · rw [if_pos c8]; exact ⟨fun z => absurd z one_ne, fun _ => hq _ (by rw [c8]; decide)⟩
  rw [if_neg c8]; refine ⟨fun _ => ?_, fun z => absurd rfl z⟩
  refine sp5 hC (by decide) (by decide) hp he hpe hz ?_
  by_cases c9 : wb tp p (e - p) = cw 9
  · rw [if_pos c9]; exact ⟨fun z => absurd z one_ne, fun _ => hq _ (by rw [c9]; decide)⟩
  rw [if_neg c9]; refine ⟨fun _ => ?_, fun z => absurd rfl z⟩
  refine sp5 hC (by decide) (by decide) hp he hpe hz ?_
  by_cases c10 : wb tp p (e - p) = cw 10
  · rw [if_pos c10]; exact ⟨fun z => absurd z one_ne, fun _ => hq _ (by rw [c10]; decide)⟩
  rw [if_neg c10]; refine ⟨fun _ => ?_, fun z => absurd rfl z⟩
  refine sp5 hC (by decide) (by decide) hp he hpe hz ?_
  by_cases c11 : wb tp p (e - p) = cw 11
  · rw [if_pos c11]; exact ⟨fun z => absurd z one_ne, fun _ => hq _ (by rw [c11]; decide)⟩
  rw [if_neg c11]; refine ⟨fun _ => ?_, fun z => absurd rfl z⟩
  refine sp5 hC (by decide) (by decide) hp he hpe hz ?_
  by_cases c12 : wb tp p (e - p) = cw 12
  · rw [if_pos c12]; exact ⟨fun z => absurd z one_ne, fun _ => hq _ (by rw [c12]; decide)⟩
  rw [if_neg c12]; refine ⟨fun _ => ?_, fun z => absurd rfl z⟩
  refine hq _ ?_
  have e0 : mws (wb tp p (e - p)) 12 = (6, 0) := by
    simp only [mws]
    rw [if_neg (show ¬ wb tp p (e - p) = wds.getD 11 [] from c6), if_neg (show ¬ wb tp p (e - p) = wds.getD 10 [] from c5), if_neg (show ¬ wb tp p (e - p) = wds.getD 9 [] from c4), if_neg (show ¬ wb tp p (e - p) = wds.getD 8 [] from c3), if_neg (show ¬ wb tp p (e - p) = wds.getD 7 [] from c2), if_neg (show ¬ wb tp p (e - p) = wds.getD 6 [] from c1), if_neg (show ¬ wb tp p (e - p) = wds.getD 5 [] from c12), if_neg (show ¬ wb tp p (e - p) = wds.getD 4 [] from c11), if_neg (show ¬ wb tp p (e - p) = wds.getD 3 [] from c10), if_neg (show ¬ wb tp p (e - p) = wds.getD 2 [] from c9), if_neg (show ¬ wb tp p (e - p) = wds.getD 1 [] from c8), if_neg (show ¬ wb tp p (e - p) = wds.getD 0 [] from c7)]
  rw [e0]; rfl
theorem wl5 {Q : Mem → Prop} : ∀ (d b : Nat) (τ : Mem), tpC τ tp sz → b + d = sz → mI τ 5 5 = nI b → (∀ τ', Kp F5 τ τ' → mI τ' 5 4 = mI τ 5 4 → mI τ' 5 5 = nI (rn (fun i => isL (tp i)) d b) → w_X5_scanWord_39 Q τ') → w_X5_scanWord_0 Q (d + 1) τ := by
  intro d
  induction d with
  | zero =>
    intro b τ hC hb he hq
    refine ⟨fun _ => hq τ Kp.rf rfl he, fun z => absurd ?_ z⟩
    rw [hC.1, he]; exact nI_le (by omega) (by have := hC.2.1; omega)
  | succ d ih =>
    intro b τ hC hb he hq
    have h160 := hC.2.1
    refine ⟨fun z => absurd z ?_, fun _ => ⟨?_, ?_⟩⟩
    · rw [hC.1, he]; exact of_eq_false (k_nle (by omega) (by omega))
    · rw [he]; exact vp_in_nI (by omega) (by omega)
    · have g := hC.2.2 b (by omega)
      rw [he, k_cl (by omega), g.1]
      refine q_L5 g.2 ?_
      by_cases c : isL (tp b) = true
      · rw [if_pos c]
        refine ⟨fun z => absurd z one_ne, fun _ => ?_⟩
        rw [he, show nI b + 1 = nI (b + 1) from nI_add b 1]
        have k1 : Kp F5 τ (sI τ 5 5 (nI (b + 1))) := Kp.rf.sI _ ⟨rfl, by omega, by omega⟩
        refine ih (b + 1) _ (hC.fr k1 F5n1 F5n6) (by omega) (by rw [mI_sI_s]) (fun τ' k e1 e2 => hq τ' (k1.tr k) (by rw [e1, mI_sI_k _ _ (by omega)]) ?_)
        rw [e2, rn, if_pos c]
      · rw [if_neg c]
        refine ⟨fun _ => hq τ Kp.rf rfl ?_, fun z => absurd rfl z⟩
        rw [he, rn, if_neg c]
theorem nl5 {Q : Mem → Prop} {p : Nat} : ∀ (d b v : Nat) (τ : Mem), tpC τ tp sz → b + d = sz → p ≤ b → mI τ 5 4 = nI p → mI τ 5 5 = nI b → mI τ 5 6 = nI v → (∀ τ', Kp F5 τ τ' → mI τ' 5 4 = nI p → mI τ' 5 5 = nI (rn (fun i => isD (tp i)) d b) → mI τ' 5 6 = nI (nmv tp p d b v) → w_X5_scanNumber_81 Q τ') → w_X5_scanNumber_5 Q (d + 1) τ := by
  intro d
  induction d with
  | zero =>
    intro b v τ hC hb hpb hp he hv hq
    refine ⟨fun _ => hq τ Kp.rf hp he hv, fun z => absurd ?_ z⟩
    rw [hC.1, he]; exact nI_le (by omega) (by have := hC.2.1; omega)
  | succ d ih =>
    intro b v τ hC hb hpb hp he hv hq
    have h160 := hC.2.1
    refine ⟨fun z => absurd z ?_, fun _ => ⟨?_, ?_⟩⟩
    · rw [hC.1, he]; exact of_eq_false (k_nle (by omega) (by omega))
    · rw [he]; exact vp_in_nI (by omega) (by omega)
    · have g := hC.2.2 b (by omega)
      rw [he, k_cl (by omega), g.1]
      refine q_D5 g.2 ?_
      by_cases c : isD (tp b) = true
      · have hD' : 48 ≤ tp b ∧ tp b ≤ 57 := of_decide_eq_true c
        rw [if_pos c]
        refine ⟨fun z => absurd z one_ne, fun _ => ?_⟩
        have er : rn (fun i => isD (tp i)) (d + 1) b = rn (fun i => isD (tp i)) d (b + 1) := by rw [rn, if_pos c]
        rw [he, hp, k_sub hpb]
        by_cases c4 : b - p < 4
        · refine ⟨fun z => absurd z (of_eq_false (k_nle (a := 4) c4 (by omega))), fun _ => ⟨vp_in_nI (by omega) (by omega), ?_⟩⟩
          intro w hw
          have ew : w = nI (v * 10 + (tp b - 48)) := by
            rw [hw, hv, k_cl (by omega), g.1, show (10 : Int32) = nI 10 from rfl, show (48 : Int32) = nI 48 from rfl, k_mul, k_sub hD'.1, nI_add]
          subst ew
          unfold w_X5_scanNumber_68
          rw [mI_sI_k _ _ (by omega), he, show nI b + 1 = nI (b + 1) from nI_add b 1]
          have k1 : Kp F5 τ (sI (sI τ 5 6 (nI (v * 10 + (tp b - 48)))) 5 5 (nI (b + 1))) := (Kp.rf.sI _ ⟨rfl, by omega, by omega⟩).sI _ ⟨rfl, by omega, by omega⟩
          refine ih (b + 1) _ _ (hC.fr k1 F5n1 F5n6) (by omega) (by omega) (by rw [mI_sI_k _ _ (by omega), mI_sI_k _ _ (by omega)]; exact hp) (by rw [mI_sI_s]) (by rw [mI_sI_k _ _ (by omega), mI_sI_s]) (fun τ' k e1 e2 e3 => hq τ' (k1.tr k) e1 (by rw [e2, er]) ?_)
          rw [e3]; rw [nmv, if_pos c, if_pos c4]
        · refine ⟨fun _ => ?_, fun z => absurd (nI_le (a := 4) (by omega) (by omega)) z⟩
          unfold w_X5_scanNumber_68
          rw [he, show nI b + 1 = nI (b + 1) from nI_add b 1]
          have k1 : Kp F5 τ (sI τ 5 5 (nI (b + 1))) := Kp.rf.sI _ ⟨rfl, by omega, by omega⟩
          refine ih (b + 1) v _ (hC.fr k1 F5n1 F5n6) (by omega) (by omega) (by rw [mI_sI_k _ _ (by omega)]; exact hp) (by rw [mI_sI_s]) (by rw [mI_sI_k _ _ (by omega)]; exact hv) (fun τ' k e1 e2 e3 => hq τ' (k1.tr k) e1 (by rw [e2, er]) ?_)
          rw [e3]; rw [nmv, if_pos c, if_neg c4]
      · rw [if_neg c]
        refine ⟨fun _ => hq τ Kp.rf hp ?_ ?_, fun z => absurd rfl z⟩
        · rw [he, rn, if_neg c]
        · rw [hv, nmv, if_neg c]
theorem ad61 {Q : Mem → Prop} {τ : Mem} {b : Nat} (hC : tpC τ tp sz) (hb : b ≤ sz) (he : mI τ 5 5 = nI b) (hbn : ¬ (b < sz ∧ isB (tp b) = true)) (hq : ∀ τ', Kp F5 τ τ' → tkC τ' (scn tp sz b) → Q τ') : w_X5_advance_61 Q τ := by
  have h160 := hC.2.1
  unfold w_X5_advance_61
  rw [hC.1, he, k_cl (by omega)]
  have eb : rn (fun i => isB (tp i)) (sz - b) b = b := by
    by_cases c : b < sz
    · obtain ⟨d, hd⟩ : ∃ d, sz - b = d + 1 := ⟨sz - b - 1, by omega⟩
      rw [hd, rn, if_neg (fun z => hbn ⟨c, z⟩)]
    · rw [show sz - b = 0 by omega, rn]
  by_cases c : b < sz
  · have g := hC.2.2 b c
    have es : scn tp sz b = if isL (tp b) = true then (mws (wb tp b (rn (fun i => isL (tp i)) (sz - b) b - b)) 12, b, rn (fun i => isL (tp i)) (sz - b) b) else if isD (tp b) = true then ((if 4 < rn (fun i => isD (tp i)) (sz - b) b - b then (6, 0) else (1, nmv tp b (sz - b) b 0)), b, rn (fun i => isD (tp i)) (sz - b) b) else ((if isG (tp b) = true then (4, tp b) else (6, 0)), b, b + 1) := by
      unfold scn; simp only [eb]; rw [if_neg (by omega)]
    refine ⟨fun _ => ⟨vp_in_nI (by omega) (by omega), ?_⟩, fun z => absurd (nI_lt c (by omega)) z⟩
    rw [g.1]
    refine q_L5 g.2 ?_
    have k1 : Kp F5 τ (sI τ 5 4 (nI b)) := Kp.rf.sI _ ⟨rfl, by omega, by omega⟩
    have hC1 := hC.fr k1 F5n1 F5n6
    have e5 : mI (sI τ 5 4 (nI b)) 5 5 = nI b := by rw [mI_sI_k _ _ (by omega)]; exact he
    by_cases cL : isL (tp b) = true
    · rw [if_pos cL]
      rw [if_pos cL] at es
      refine ⟨fun z => absurd z one_ne, fun _ => ⟨_, wl5 (sz - b) b _ hC1 (by omega) e5 (fun τ' k e1 e2 => ?_)⟩⟩
      have k2 := k1.tr k
      have l1 := rn_ge (fun i => isL (tp i)) (sz - b) b
      have l2 := rn_le (fun i => isL (tp i)) (sz - b) b
      refine wd5 (hC.fr k2 F5n1 F5n6) (by rw [e1, mI_sI_s]) e2 l1 (by omega) (fun v hv => hq _ (k2.sI _ ⟨rfl, by omega, by omega⟩) ?_)
      rw [es]
      refine ⟨by rw [mI_sI_s]; exact hv, by rw [mI_sI_k _ _ (by omega), e1, mI_sI_s], by rw [mI_sI_k _ _ (by omega)]; exact e2, fun z => ?_⟩
      exact absurd z (mws_ne1 _ 12)
    · rw [if_neg cL]
      rw [if_neg cL] at es
      refine ⟨fun _ => ?_, fun z => absurd rfl z⟩
      rw [mI_sI_s, k_cl (by omega), mI_sI_n _ _ (by omega), g.1]
      refine ⟨vp_in_nI (by omega) (by omega), q_D5 g.2 ?_⟩
      by_cases cD : isD (tp b) = true
      · rw [if_pos cD]
        rw [if_pos cD] at es
        refine ⟨fun z => absurd z one_ne, fun _ => ⟨_, nl5 (p := b) (sz - b) b 0 _ (hC1.fr (Kp.rf.sI (F := F5) (k := 6) _ ⟨rfl, by omega, by omega⟩) F5n1 F5n6) (by omega) (by omega) (by rw [mI_sI_k _ _ (by omega), mI_sI_s]) (by rw [mI_sI_k _ _ (by omega)]; exact e5) (by rw [mI_sI_s]; rfl) (fun τ' k e1 e2 e3 => ?_)⟩⟩
        have k2 := (k1.sI (a := 5) (k := 6) 0 ⟨rfl, by omega, by omega⟩).tr k
        have l1 := rn_ge (fun i => isD (tp i)) (sz - b) b
        have l2 := rn_le (fun i => isD (tp i)) (sz - b) b
        unfold w_X5_scanNumber_81
        rw [e1, e2, k_sub l1]
        rw [es] at hq
        by_cases c4 : 4 < rn (fun i => isD (tp i)) (sz - b) b - b
        · rw [if_pos c4] at hq
          refine ⟨fun z => absurd z (of_eq_false (k_nle (b := 4) c4 (by omega))), fun _ => hq _ (k2.sI _ ⟨rfl, by omega, by omega⟩) ?_⟩
          exact ⟨by rw [mI_sI_s]; rfl, by rw [mI_sI_k _ _ (by omega)]; exact e1, by rw [mI_sI_k _ _ (by omega)]; exact e2, fun z => absurd z (show ¬ (6 = 1) by omega)⟩
        · rw [if_neg c4] at hq
          refine ⟨fun _ => hq _ (k2.sI _ ⟨rfl, by omega, by omega⟩) ?_, fun z => absurd (nI_le (b := 4) (by omega) (by omega)) z⟩
          exact ⟨by rw [mI_sI_s]; rfl, by rw [mI_sI_k _ _ (by omega)]; exact e1, by rw [mI_sI_k _ _ (by omega)]; exact e2, fun _ => by rw [mI_sI_k _ _ (by omega)]; exact e3⟩
      · rw [if_neg cD]
        rw [if_neg cD] at es
        refine ⟨fun _ => ?_, fun z => absurd rfl z⟩
        rw [e5, mI_sI_s, k_cl (by omega), mI_sI_n τ (b := 6) _ (by omega), g.1, show nI b + 1 = nI (b + 1) from nI_add b 1]
        refine ⟨vp_in_nI (by omega) (by omega), q_G5 g.2 ?_⟩
        have k2 : Kp F5 τ (sI (sI τ 5 4 (nI b)) 5 5 (nI (b + 1))) := k1.sI _ ⟨rfl, by omega, by omega⟩
        rw [es] at hq
        by_cases cG : isG (tp b) = true
        · rw [if_pos cG]
          rw [if_pos cG] at hq
          refine ⟨fun z => absurd z one_ne, fun _ => ⟨?_, fun v hv => hq _ (k2.sI _ ⟨rfl, by omega, by omega⟩) ?_⟩⟩
          · rw [mI_sI_k _ _ (by omega), mI_sI_s]; exact vp_in_nI (by omega) (by omega)
          · rw [mI_sI_n _ _ (by omega), mI_sI_n _ _ (by omega), mI_sI_k _ _ (by omega), mI_sI_s, k_cl (by omega), g.1] at hv
            exact ⟨by rw [mI_sI_s, hv]; rfl, by rw [mI_sI_k _ _ (by omega), mI_sI_k _ _ (by omega), mI_sI_s], by rw [mI_sI_k _ _ (by omega), mI_sI_s], fun z => absurd z (show ¬ (4 = 1) by omega)⟩
        · rw [if_neg cG]
          rw [if_neg cG] at hq
          refine ⟨fun _ => hq _ (k2.sI _ ⟨rfl, by omega, by omega⟩) ?_, fun z => absurd rfl z⟩
          exact ⟨by rw [mI_sI_s]; rfl, by rw [mI_sI_k _ _ (by omega), mI_sI_k _ _ (by omega), mI_sI_s], by rw [mI_sI_k _ _ (by omega), mI_sI_s], fun z => absurd z (show ¬ (6 = 1) by omega)⟩
  · have es : scn tp sz b = ((5, 0), b, b) := by unfold scn; simp only [eb]; rw [if_pos (by omega)]
    refine ⟨fun z => absurd z (of_eq_false (k_nlt (by omega) (by omega))), fun _ => hq _ ((Kp.rf.sI _ ⟨rfl, by omega, by omega⟩).sI _ ⟨rfl, by omega, by omega⟩) ?_⟩
    rw [es]
    exact ⟨by rw [mI_sI_s]; rfl, by rw [mI_sI_k _ _ (by omega), mI_sI_s], by rw [mI_sI_k _ _ (by omega), mI_sI_k _ _ (by omega)]; exact he, fun z => absurd z (show ¬ (5 = 1) by omega)⟩
theorem scn_sk {b : Nat} (h : b < sz) (hB : isB (tp b) = true) : scn tp sz b = scn tp sz (b + 1) := by
  have e : rn (fun i => isB (tp i)) (sz - b) b = rn (fun i => isB (tp i)) (sz - (b + 1)) (b + 1) := by
    obtain ⟨d, hd⟩ : ∃ d, sz - b = d + 1 := ⟨sz - b - 1, by omega⟩
    rw [hd, rn, if_pos hB, show sz - (b + 1) = d by omega]
  unfold scn; rw [e]
theorem ad9 {Q : Mem → Prop} : ∀ (d b : Nat) (τ : Mem), tpC τ tp sz → b + d = sz → mI τ 5 5 = nI b → (∀ τ', Kp F5 τ τ' → tkC τ' (scn tp sz b) → Q τ') → w_X5_advance_9 Q (d + 1) τ := by
  intro d
  induction d with
  | zero =>
    intro b τ hC hb he hq
    refine ⟨fun _ => ad61 hC (by omega) he (fun z => by omega) hq, fun z => absurd ?_ z⟩
    rw [hC.1, he]; exact nI_le (by omega) (by have := hC.2.1; omega)
  | succ d ih =>
    intro b τ hC hb he hq
    have h160 := hC.2.1
    have g := hC.2.2 b (by omega)
    have vp : vp_in (nI b) 160 := vp_in_nI (by omega) (by omega)
    refine ⟨fun z => absurd z ?_, fun _ => ?_⟩
    · rw [hC.1, he]; exact of_eq_false (k_nle (by omega) (by omega))
    · rw [he, k_cl (by omega), g.1]
      have go : isB (tp b) = true → w_X5_advance_48 Q (fun z0 => w_X5_advance_9 Q (d + 1) z0) τ := fun c => by
        unfold w_X5_advance_48
        rw [he, show nI b + 1 = nI (b + 1) from nI_add b 1]
        have k1 : Kp F5 τ (sI τ 5 5 (nI (b + 1))) := Kp.rf.sI _ ⟨rfl, by omega, by omega⟩
        exact ih (b + 1) _ (hC.fr k1 F5n1 F5n6) (by omega) (by rw [mI_sI_s]) (fun τ' k h => hq τ' (k1.tr k) (by rw [scn_sk (by omega) c]; exact h))
      refine ⟨vp, fun z => go (decide_eq_true (Or.inl ((nI_is (n := 32) g.2 (by omega)).mp z))), fun z1 => ⟨vp, fun z2 => ?_, fun z => go (decide_eq_true (Or.inr ((nI_is (n := 10) g.2 (by omega)).mp z)))⟩⟩
      refine ad61 hC (by omega) he (fun z => ?_) hq
      rcases of_decide_eq_true z.2 with q | q
      · exact z1 ((nI_is (n := 32) g.2 (by omega)).mpr q)
      · exact z2 ((nI_is (n := 10) g.2 (by omega)).mpr q)
/-- the class goes on -/
theorem ad5 {Q : Mem → Prop} {τ : Mem} {b : Nat} (hC : tpC τ tp sz) (hf : mI τ 5 2 = -1) (hb : b ≤ sz) (he : mI τ 5 5 = nI b) (hq : ∀ τ', Kp F5 τ τ' → tkC τ' (scn tp sz b) → Q τ') : w_X5_advance τ Q :=
  ⟨fun _ => ⟨_, ad9 (sz - b) b τ hC (by omega) he hq⟩, fun z => absurd hf z⟩
/-- behind a fault it stays -/
theorem ad5f {Q : Mem → Prop} {τ : Mem} (hf : ¬ mI τ 5 2 = -1) (hq : Q τ) : w_X5_advance τ Q := ⟨fun z => absurd z hf, fun _ => hq⟩
end Adv
