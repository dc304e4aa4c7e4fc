/-! STAGE 2: TEXT: the model goes to the next token -/
def bg (w : Nat) : Nat := (begX.getD w 0).toNatClampNeg
theorem bg_1 : ∀ w, w < 12 → begX.getD w 0 = nI (bg w) ∧ begX.getD (w + 1) 0 - nI (bg w) = nI (wds.getD w []).length ∧ (wds.getD w []).length ≤ 6 ∧ bg w + (wds.getD w []).length ≤ 45 ∧ 0 < (wds.getD w []).length := by decide
theorem bg_2 : ∀ w, w < 12 → ∀ k, k < (wds.getD w []).length → lettX.getD (bg w + k) 0 = nI ((wds.getD w []).getD k 0) ∧ (wds.getD w []).getD k 0 < 256 := by decide
def moM (τ : Mem) : Prop := (∀ k, k < 45 → mI τ 45 k = lettX.getD k 0) ∧ ∀ k, k < 13 → mI τ 46 k = begX.getD k 0
theorem moM.fr {τ τ' : Mem} {F : Nat → Nat → Prop} (h : moM τ) (k : Kp F τ τ') (h1 : ∀ i, ¬ F 45 i) (h2 : ∀ i, ¬ F 46 i) : moM τ' :=
  ⟨fun i hi => by rw [k.2.2.2 _ _ (h1 i)]; exact h.1 i hi, fun i hi => by rw [k.2.2.2 _ _ (h2 i)]; exact h.2 i hi⟩
theorem F37n45 (i : Nat) : ¬ F37 45 i := by unfold F37; omega
theorem F37n46 (i : Nat) : ¬ F37 46 i := by unfold F37; omega
section Nxt
variable {tp : Nat → Nat} {sz : Nat}
theorem rw76 {Q : Mem → Prop} {K : Int32 → Mem → Prop} {τ : Mem} {w p : Nat} (hM : tpM τ tp sz) (hm : moM τ) (hw : w < 12) (hp : mI τ 37 16 = nI p) (hz : p + (wds.getD w []).length ≤ sz) (hq : w_X12_readWord_127 Q K (nI w) (if wb tp p (wds.getD w []).length = wds.getD w [] then 1 else 0) τ) : ∀ (d k : Nat), k + d = (wds.getD w []).length → (∀ y, y < k → tp (p + y) = (wds.getD w []).getD y 0) → w_X12_readWord_76 Q K (d + 1) (nI w) (nI (wds.getD w []).length) 1 (nI k) τ := by
  have hl := bg_1 w hw
  have h160 := hM.2.1
  intro d
  induction d with
  | zero =>
    intro k hk hy
    refine ⟨fun _ => ?_, fun z => absurd (nI_le (by omega) (by omega)) z⟩
    rw [if_pos (wb_eq.mpr ⟨rfl, fun y h => hy y (by omega)⟩)] at hq; exact hq
  | succ d ih =>
    intro k hk hy
    refine ⟨fun z => absurd z (of_eq_false (k_nle (by omega) (by omega))), fun _ => ⟨fun z => absurd z one_ne, fun _ => ?_⟩⟩
    rw [hp, nI_add, k_cl (a := w) (by omega), hm.2 w (by omega), hl.1, nI_add, k_cl (by omega), k_cl (by omega), (hM.2.2 (p + k) (by omega)).1, hm.1 _ (by omega), (bg_2 w hw k (by omega)).1]
    have hb := (hM.2.2 (p + k) (by omega)).2
    have hc := (bg_2 w hw k (by omega)).2
    refine ⟨vp_in_nI (by omega) (by omega), vp_in_nI (by omega) (by omega), vp_in_nI (by omega) (by omega), fun z => ?_, fun z => ?_⟩
    · unfold w_X12_readWord_120
      rw [if_neg (fun q => z (by rw [(wb_eq.mp q).2 k (by omega)]))] at hq
      obtain ⟨d', hd'⟩ : ∃ d', d + 1 = d' + 1 := ⟨d, rfl⟩
      exact ⟨fun _ => hq, fun _ => ⟨fun _ => hq, fun z2 => absurd rfl z2⟩⟩
    · unfold w_X12_readWord_120
      rw [show nI k + 1 = nI (k + 1) from nI_add k 1]
      refine ih (k + 1) (by omega) (fun y h => ?_)
      by_cases c : y = k
      · subst c; exact (nI_is hb hc).mp z
      · exact hy y (by omega)
theorem rw32 {Q : Mem → Prop} {p e : Nat} (hpe : p ≤ e) (hz : e ≤ sz) : ∀ (d w : Nat) (τ : Mem), w + d = 12 → tpM τ tp sz → moM τ → mI τ 37 16 = nI p → mI τ 37 13 = nI e → mI τ 37 14 = nI (mws (wb tp p (e - p)) w).1 → ((mws (wb tp p (e - p)) w).1 < 5 → mI τ 37 15 = nI (mws (wb tp p (e - p)) w).2) → (∀ τ', Kp F37 τ τ' → tkM τ' (mws (wb tp p (e - p)) 12, p, e) → Q τ') → w_X12_readWord_32 Q (d + 1) (nI w) τ := by
  intro d
  induction d with
  | zero =>
    intro w τ hw hM hm hp he h1 h2 hq
    have e12 : w = 12 := by omega
    subst e12
    exact ⟨fun _ => hq τ Kp.rf ⟨h1, hp, he, h2⟩, fun z => absurd (nI_le (a := 12) (b := 12) (by omega) (by omega)) z⟩
  | succ d ih =>
    intro w τ hw hM hm hp he h1 h2 hq
    have h160 := hM.2.1
    have hl := bg_1 w (by omega)
    refine ⟨fun z => absurd z (of_eq_false (k_nle (a := 12) (b := w) (by omega) (by omega))), fun _ => ?_⟩
    rw [show nI w + 1 = nI (w + 1) from nI_add w 1]
    refine ⟨vp_in_nI (by omega) (by omega), vp_in_nI (by omega) (by omega), fun n hn => ?_⟩
    rw [k_cl (by omega), k_cl (by omega), hm.2 (w + 1) (by omega), hm.2 w (by omega), hl.1, hl.2.1] at hn
    subst hn
    rw [he, hp, k_sub hpe]
    have fin : w_X12_readWord_127 Q (fun z0 z1 => w_X12_readWord_32 Q (d + 1) z0 z1) (nI w) (if wb tp p (e - p) = wds.getD w [] then 1 else 0) τ := by
      unfold w_X12_readWord_127
      by_cases c : wb tp p (e - p) = wds.getD w []
      · rw [if_pos c]
        refine ⟨fun z => absurd z one_ne, fun _ => ?_⟩
        have em : mws (wb tp p (e - p)) (w + 1) = if w < 6 then (2, w) else (3, w - 6) := by rw [mws, if_pos c]
        by_cases c6 : w < 6
        · rw [if_pos c6] at em
          refine ⟨fun z => absurd z (of_eq_false (k_nle (a := 6) c6 (by omega))), fun _ => ⟨fun z => absurd z (of_eq_false (k_nle (a := 6) c6 (by omega))), fun _ => ?_⟩⟩
          show w_X12_readWord_32 Q (d + 1) (nI w + 1) (sI (sI τ 37 14 2) 37 15 (nI w))
          rw [show nI w + 1 = nI (w + 1) from nI_add w 1]
          have k1 : Kp F37 τ (sI (sI τ 37 14 2) 37 15 (nI w)) := (Kp.rf.sI _ ⟨rfl, by omega, by omega⟩).sI _ ⟨rfl, by omega, by omega⟩
          refine ih (w + 1) _ (by omega) (hM.fr k1 F37n8 F37n42) (hm.fr k1 F37n45 F37n46) ?_ ?_ ?_ ?_ (fun τ' k h => hq τ' (k1.tr k) h)
          · rw [mI_sI_k _ _ (by omega), mI_sI_k _ _ (by omega)]; exact hp
          · rw [mI_sI_k _ _ (by omega), mI_sI_k _ _ (by omega)]; exact he
          · rw [em, mI_sI_k _ _ (by omega), mI_sI_s]; rfl
          · rw [em, mI_sI_s]; exact fun _ => rfl
        · rw [if_neg c6] at em
          refine ⟨fun _ => ⟨fun _ => ?_, fun z => absurd (nI_le (a := 6) (by omega) (by omega)) z⟩, fun z => absurd (nI_le (a := 6) (by omega) (by omega)) z⟩
          show w_X12_readWord_32 Q (d + 1) (nI w + 1) (sI (sI τ 37 14 3) 37 15 (nI w - nI 6))
          rw [show nI w + 1 = nI (w + 1) from nI_add w 1, k_sub (by omega)]
          have k1 : Kp F37 τ (sI (sI τ 37 14 3) 37 15 (nI (w - 6))) := (Kp.rf.sI _ ⟨rfl, by omega, by omega⟩).sI _ ⟨rfl, by omega, by omega⟩
          refine ih (w + 1) _ (by omega) (hM.fr k1 F37n8 F37n42) (hm.fr k1 F37n45 F37n46) ?_ ?_ ?_ ?_ (fun τ' k h => hq τ' (k1.tr k) h)
          · rw [mI_sI_k _ _ (by omega), mI_sI_k _ _ (by omega)]; exact hp
          · rw [mI_sI_k _ _ (by omega), mI_sI_k _ _ (by omega)]; exact he
          · rw [em, mI_sI_k _ _ (by omega), mI_sI_s]; rfl
          · rw [em, mI_sI_s]; exact fun _ => rfl
      · rw [if_neg c]
        refine ⟨fun _ => ?_, fun z => absurd rfl z⟩
        show w_X12_readWord_32 Q (d + 1) (nI w + 1) τ
        rw [show nI w + 1 = nI (w + 1) from nI_add w 1]
        have em : mws (wb tp p (e - p)) (w + 1) = mws (wb tp p (e - p)) w := by rw [mws, if_neg c]
        exact ih (w + 1) τ (by omega) hM hm hp he (by rw [em]; exact h1) (by rw [em]; exact h2) hq
    refine ⟨fun z => ?_, fun z => ?_⟩
    · rw [if_neg (fun q => z (by rw [(wb_eq.mp q).1]))] at fin
      exact ⟨1, fun _ => fin, fun _ => ⟨fun _ => fin, fun z2 => absurd rfl z2⟩⟩
    · have el : (wds.getD w []).length = e - p := (nI_eq (by omega) (by omega)).mp z
      rw [← el] at fin
      exact ⟨_, rw76 hM hm (by omega) hp (by omega) fin _ 0 (Nat.zero_add _) (fun y h => absurd h (by omega))⟩
theorem rw0 {Q : Mem → Prop} {p : Nat} : ∀ (d b : Nat) (τ : Mem), b + d = sz → p ≤ b → tpM τ tp sz → moM τ → mI τ 37 16 = nI p → mI τ 37 13 = nI b → (∀ τ', Kp F37 τ τ' → tkM τ' (mws (wb tp p (rn (fun i => isL (tp i)) d b - p)) 12, p, rn (fun i => isL (tp i)) d b) → Q τ') → w_X12_readWord_0 Q (d + 1) τ := by
  intro d
  induction d with
  | zero =>
    intro b τ hb hpb hM hm hp he hq
    have h160 := hM.2.1
    show w_X12_isLetter τ (mI τ 37 13) _
    rw [he]
    refine q_L12 hM (by omega) ?_
    rw [if_neg (by omega)]
    refine ⟨fun _ => ⟨13, ?_⟩, fun z => absurd rfl z⟩
    have k1 : Kp F37 τ (sI τ 37 14 6) := Kp.rf.sI _ ⟨rfl, by omega, by omega⟩
    exact rw32 hpb (by omega) 12 0 _ (by omega) (hM.fr k1 F37n8 F37n42) (hm.fr k1 F37n45 F37n46) (by rw [mI_sI_k _ _ (by omega)]; exact hp) (by rw [mI_sI_k _ _ (by omega)]; exact he) (by rw [mI_sI_s]; rfl) (fun z => absurd z (show ¬ (6 < 5) by omega)) (fun τ' k h => hq τ' (k1.tr k) h)
  | succ d ih =>
    intro b τ hb hpb hM hm hp he hq
    have h160 := hM.2.1
    show w_X12_isLetter τ (mI τ 37 13) _
    rw [he]
    refine q_L12 hM (by omega) ?_
    by_cases c : isL (tp b) = true
    · rw [if_pos ⟨by omega, c⟩]
      refine ⟨fun z => absurd z one_ne, fun _ => ?_⟩
      rw [he, show nI b + 1 = nI (b + 1) from nI_add b 1]
      have k1 : Kp F37 τ (sI τ 37 13 (nI (b + 1))) := Kp.rf.sI _ ⟨rfl, by omega, by omega⟩
      refine ih (b + 1) _ (by omega) (by omega) (hM.fr k1 F37n8 F37n42) (hm.fr k1 F37n45 F37n46) (by rw [mI_sI_k _ _ (by omega)]; exact hp) (by rw [mI_sI_s]) (fun τ' k h => hq τ' (k1.tr k) ?_)
      rw [rn, if_pos c]; exact h
    · rw [if_neg (fun z => c z.2)]
      refine ⟨fun _ => ⟨13, ?_⟩, fun z => absurd rfl z⟩
      have k1 : Kp F37 τ (sI τ 37 14 6) := Kp.rf.sI _ ⟨rfl, by omega, by omega⟩
      rw [rn, if_neg c] at hq
      exact rw32 hpb (by omega) 12 0 _ (by omega) (hM.fr k1 F37n8 F37n42) (hm.fr k1 F37n45 F37n46) (by rw [mI_sI_k _ _ (by omega)]; exact hp) (by rw [mI_sI_k _ _ (by omega)]; exact he) (by rw [mI_sI_s]; rfl) (fun z => absurd z (show ¬ (6 < 5) by omega)) (fun τ' k h => hq τ' (k1.tr k) h)
theorem rn12 {Q : Mem → Prop} {p : Nat} : ∀ (d b v : Nat) (τ : Mem), b + d = sz → p ≤ b → tpM τ tp sz → mI τ 37 16 = nI p → mI τ 37 13 = nI b → mI τ 37 15 = nI v → (∀ τ', Kp F37 τ τ' → tkM τ' ((if 4 < rn (fun i => isD (tp i)) d b - p then (6, 0) else (1, nmv tp p d b v)), p, rn (fun i => isD (tp i)) d b) → Q τ') → w_X12_readNumber_5 Q (d + 1) τ := by
  have fin : ∀ (b v : Nat) (τ : Mem), b ≤ sz → sz ≤ 160 → p ≤ b → mI τ 37 16 = nI p → mI τ 37 13 = nI b → mI τ 37 15 = nI v → (∀ τ', Kp F37 τ τ' → tkM τ' ((if 4 < b - p then (6, 0) else (1, v)), p, b) → Q τ') → ((((mI τ 37 13) - (mI τ 37 16)) ≤ 4 → (Q (sI τ 37 14 1))) ∧ (¬ ((mI τ 37 13) - (mI τ 37 16)) ≤ 4 → (Q (sI τ 37 14 6)))) := fun b v τ hb hs hpb hp he hv hq => by
    rw [he, hp, k_sub hpb]
    by_cases c : 4 < b - p
    · rw [if_pos c] at hq
      exact ⟨fun z => absurd z (of_eq_false (k_nle (b := 4) c (by omega))), fun _ => hq _ (Kp.rf.sI _ ⟨rfl, by omega, by omega⟩) ⟨by rw [mI_sI_s]; rfl, by rw [mI_sI_k _ _ (by omega)]; exact hp, by rw [mI_sI_k _ _ (by omega)]; exact he, fun z => absurd z (show ¬ (6 < 5) by omega)⟩⟩
    · rw [if_neg c] at hq
      exact ⟨fun _ => hq _ (Kp.rf.sI _ ⟨rfl, by omega, by omega⟩) ⟨by rw [mI_sI_s]; rfl, by rw [mI_sI_k _ _ (by omega)]; exact hp, by rw [mI_sI_k _ _ (by omega)]; exact he, fun _ => by rw [mI_sI_k _ _ (by omega)]; exact hv⟩, fun z => absurd (nI_le (b := 4) (by omega) (by omega)) z⟩
  intro d
  induction d with
  | zero =>
    intro b v τ hb hpb hM hp he hv hq
    have h160 := hM.2.1
    show w_X12_isDigit τ (mI τ 37 13) _
    have f := fin b v τ (by omega) h160 hpb hp he hv hq
    rw [he]
    refine q_D12 hM (by omega) ?_
    rw [if_neg (by omega)]
    exact ⟨fun _ => f, fun z => absurd rfl z⟩
  | succ d ih =>
    intro b v τ hb hpb hM hp he hv hq
    have h160 := hM.2.1
    show w_X12_isDigit τ (mI τ 37 13) _
    by_cases c : isD (tp b) = true
    · have hD' : 48 ≤ tp b ∧ tp b ≤ 57 := of_decide_eq_true c
      rw [he]
      refine q_D12 hM (by omega) ?_
      rw [if_pos ⟨by omega, c⟩]
      refine ⟨fun z => absurd z one_ne, fun _ => ?_⟩
      rw [he, hp, k_sub hpb, k_cl (by omega), (hM.2.2 b (by omega)).1, hv]
      rw [rn, if_pos c, nmv, if_pos c] at hq
      by_cases c4 : b - p < 4
      · rw [if_pos c4] at hq
        refine ⟨fun z => absurd z (of_eq_false (k_nle (a := 4) c4 (by omega))), fun _ => ⟨vp_in_nI (by omega) (by omega), ?_⟩⟩
        unfold w_X12_readNumber_57
        rw [he, show nI b + 1 = nI (b + 1) from nI_add b 1, show (10 : Int32) = nI 10 from rfl, show (48 : Int32) = nI 48 from rfl, k_mul, nI_add, k_sub (by omega), show 10 * v + tp b - 48 = v * 10 + (tp b - 48) by omega]
        have k1 : Kp F37 τ (sI (sI τ 37 15 (nI (v * 10 + (tp b - 48)))) 37 13 (nI (b + 1))) := (Kp.rf.sI _ ⟨rfl, by omega, by omega⟩).sI _ ⟨rfl, by omega, by omega⟩
        exact ih (b + 1) _ _ (by omega) (by omega) (hM.fr k1 F37n8 F37n42) (by rw [mI_sI_k _ _ (by omega), mI_sI_k _ _ (by omega)]; exact hp) (by rw [mI_sI_s]) (by rw [mI_sI_k _ _ (by omega), mI_sI_s]) (fun τ' k h => hq τ' (k1.tr k) h)
      · rw [if_neg c4] at hq
        refine ⟨fun _ => ?_, fun z => absurd (nI_le (a := 4) (by omega) (by omega)) z⟩
        unfold w_X12_readNumber_57
        rw [he, show nI b + 1 = nI (b + 1) from nI_add b 1]
        have k1 : Kp F37 τ (sI (sI τ 37 15 (nI v)) 37 13 (nI (b + 1))) := (Kp.rf.sI _ ⟨rfl, by omega, by omega⟩).sI _ ⟨rfl, by omega, by omega⟩
        exact ih (b + 1) _ _ (by omega) (by omega) (hM.fr k1 F37n8 F37n42) (by rw [mI_sI_k _ _ (by omega), mI_sI_k _ _ (by omega)]; exact hp) (by rw [mI_sI_s]) (by rw [mI_sI_k _ _ (by omega), mI_sI_s]) (fun τ' k h => hq τ' (k1.tr k) h)
    · rw [rn, if_neg c, nmv, if_neg c] at hq
      have f := fin b v τ (by omega) h160 hpb hp he hv hq
      rw [he]
      refine q_D12 hM (by omega) ?_
      rw [if_neg (fun z => c z.2)]
      exact ⟨fun _ => f, fun z => absurd rfl z⟩
theorem nx52 {Q : Mem → Prop} {τ : Mem} {b : Nat} (hM : tpM τ tp sz) (hm : moM τ) (hb : b ≤ sz) (he : mI τ 37 13 = nI b) (hbn : ¬ (b < sz ∧ isB (tp b) = true)) (hq : ∀ τ', Kp F37 τ τ' → tkM τ' (scn tp sz b) → Q τ') : w_X12_next_52 Q τ := by
  have h160 := hM.2.1
  unfold w_X12_next_52
  rw [hM.1, he]
  have eb : rn (fun i => isB (tp i)) (sz - b) b = b := by
    by_cases c : b < sz
    · obtain ⟨d, hd⟩ : ∃ d, sz - b = d + 1 := ⟨sz - b - 1, by omega⟩
      rw [hd, rn, if_neg (fun z => hbn ⟨c, z⟩)]
    · rw [show sz - b = 0 by omega, rn]
  by_cases c : b < sz
  · have g := hM.2.2 b c
    have es : scn tp sz b = if isL (tp b) = true then (mws (wb tp b (rn (fun i => isL (tp i)) (sz - b) b - b)) 12, b, rn (fun i => isL (tp i)) (sz - b) b) else if isD (tp b) = true then ((if 4 < rn (fun i => isD (tp i)) (sz - b) b - b then (6, 0) else (1, nmv tp b (sz - b) b 0)), b, rn (fun i => isD (tp i)) (sz - b) b) else ((if isG (tp b) = true then (4, tp b) else (6, 0)), b, b + 1) := by
      unfold scn; simp only [eb]; rw [if_neg (by omega)]
    rw [es] at hq
    have k1 : Kp F37 τ (sI τ 37 16 (nI b)) := Kp.rf.sI _ ⟨rfl, by omega, by omega⟩
    have hM1 := hM.fr k1 F37n8 F37n42
    have hm1 := hm.fr k1 F37n45 F37n46
    have e13 : mI (sI τ 37 16 (nI b)) 37 13 = nI b := by rw [mI_sI_k _ _ (by omega)]; exact he
    refine ⟨fun _ => ?_, fun z => absurd ((nI_eq (by omega) (by omega)).mp z) (by omega)⟩
    refine q_L12 hM1 (by omega) ?_
    by_cases cL : isL (tp b) = true
    · rw [if_pos ⟨c, cL⟩]
      rw [if_pos cL] at hq
      exact ⟨fun z => absurd z one_ne, fun _ => ⟨_, rw0 (sz - b) b _ (by omega) (Nat.le_refl _) hM1 hm1 (by rw [mI_sI_s]) e13 (fun τ' k h => hq τ' (k1.tr k) h)⟩⟩
    · rw [if_neg (fun z => cL z.2)]
      rw [if_neg cL] at hq
      refine ⟨fun _ => ?_, fun z => absurd rfl z⟩
      rw [e13]
      refine q_D12 hM1 (by omega) ?_
      by_cases cD : isD (tp b) = true
      · rw [if_pos ⟨c, cD⟩]
        rw [if_pos cD] at hq
        have k2 : Kp F37 (sI τ 37 16 (nI b)) (sI (sI τ 37 16 (nI b)) 37 15 0) := Kp.rf.sI _ ⟨rfl, by omega, by omega⟩
        exact ⟨fun z => absurd z one_ne, fun _ => ⟨_, rn12 (sz - b) b 0 _ (by omega) (Nat.le_refl _) (hM1.fr k2 F37n8 F37n42) (by rw [mI_sI_k _ _ (by omega), mI_sI_s]) (by rw [mI_sI_k _ _ (by omega)]; exact e13) (by rw [mI_sI_s]; rfl) (fun τ' k h => hq τ' ((k1.tr k2).tr k) h)⟩⟩
      · rw [if_neg (fun z => cD z.2)]
        rw [if_neg cD] at hq
        refine ⟨fun _ => ?_, fun z => absurd rfl z⟩
        rw [e13, k_cl (by omega), mI_sI_n τ (b := 42) _ (by omega), g.1]
        refine ⟨vp_in_nI (by omega) (by omega), fun v hv => ?_⟩
        subst hv
        have e : ∀ n : Nat, n < 256 → (nI (tp b) = nI n ↔ tp b = n) := fun n hn => nI_is g.2 hn
        rw [show (nI (tp b) = 40) = (tp b = 40) from propext (e 40 (by omega)), show (nI (tp b) = 41) = (tp b = 41) from propext (e 41 (by omega)), show (nI (tp b) = 59) = (tp b = 59) from propext (e 59 (by omega)), show (nI (tp b) = 43) = (tp b = 43) from propext (e 43 (by omega)), show (nI (tp b) = 45) = (tp b = 45) from propext (e 45 (by omega)), show (nI (tp b) = 42) = (tp b = 42) from propext (e 42 (by omega)), show (nI (tp b) = 60) = (tp b = 60) from propext (e 60 (by omega)), show (nI (tp b) = 61) = (tp b = 61) from propext (e 61 (by omega))]
        have fin : ∀ (t : Nat) (v : Int32), v = nI t → (t < 5 → t = 4) → (isG (tp b) = true → t = 4) → (¬ isG (tp b) = true → t = 6) → w_X12_next_217 Q v (sI (sI τ 37 16 (nI b)) 37 15 (nI (tp b))) := fun t v hv ht h1 h2 => by
          unfold w_X12_next_217
          rw [mI_sI_k _ _ (by omega), e13, show nI b + 1 = nI (b + 1) from nI_add b 1]
          refine hq _ (((k1.sI _ ⟨rfl, by omega, by omega⟩).sI _ ⟨rfl, by omega, by omega⟩).sI _ ⟨rfl, by omega, by omega⟩) ?_
          by_cases cG : isG (tp b) = true
          · rw [if_pos cG]
            exact ⟨by rw [mI_sI_k _ _ (by omega), mI_sI_s, hv, h1 cG], by rw [mI_sI_k _ _ (by omega), mI_sI_k _ _ (by omega), mI_sI_k _ _ (by omega), mI_sI_s], by rw [mI_sI_s], fun _ => by rw [mI_sI_k _ _ (by omega), mI_sI_k _ _ (by omega), mI_sI_s]⟩
          · rw [if_neg cG]
            exact ⟨by rw [mI_sI_k _ _ (by omega), mI_sI_s, hv, h2 cG], by rw [mI_sI_k _ _ (by omega), mI_sI_k _ _ (by omega), mI_sI_k _ _ (by omega), mI_sI_s], by rw [mI_sI_s], fun z => absurd z (show ¬ (6 < 5) by omega)⟩
        have yes : isG (tp b) = true → w_X12_next_200 Q (sI (sI τ 37 16 (nI b)) 37 15 (nI (tp b))) := fun cG => ⟨fun z => absurd z one_ne, fun _ => fin 4 4 rfl (fun _ => rfl) (fun _ => rfl) (fun z => absurd cG z)⟩
        by_cases cG : isG (tp b) = true
        · have y := yes cG
          rcases of_decide_eq_true cG with q | q | q | q | q | q | q | q <;> rw [q] at y ⊢ <;> simp <;> exact y
        · have y : w_X12_next_205 Q 0 (sI (sI τ 37 16 (nI b)) 37 15 (nI (tp b))) := ⟨fun _ => fin 6 6 rfl (fun z => absurd z (by omega)) (fun z => absurd z cG) (fun _ => rfl), fun z => absurd rfl z⟩
          have cG2 : ¬ (tp b = 40 ∨ tp b = 41 ∨ tp b = 59 ∨ tp b = 43 ∨ tp b = 45 ∨ tp b = 42 ∨ tp b = 60 ∨ tp b = 61) := fun z => cG (decide_eq_true z)
          simp only [not_or] at cG2
          obtain ⟨c1, c2, c3, c4, c5, c6, c7, c8⟩ := cG2
          simp only [c1, c2, c3, c4, c5, c6, c7, c8, false_implies, true_and, not_false_eq_true, true_implies, and_true]
          exact y
  · have es : scn tp sz b = ((5, 0), b, b) := by unfold scn; simp only [eb]; rw [if_pos (by omega)]
    have ebz : b = sz := by omega
    refine ⟨fun z => absurd (by rw [ebz]) z, fun _ => hq _ ((Kp.rf.sI _ ⟨rfl, by omega, by omega⟩).sI _ ⟨rfl, by omega, by omega⟩) ?_⟩
    rw [es]
    exact ⟨by rw [mI_sI_s]; rfl, by rw [mI_sI_k _ _ (by omega), mI_sI_s], by rw [mI_sI_k _ _ (by omega), mI_sI_k _ _ (by omega)]; exact he, fun z => absurd z (show ¬ (5 < 5) by omega)⟩
theorem nx0 {Q : Mem → Prop} : ∀ (d b : Nat) (τ : Mem), tpM τ tp sz → moM τ → b + d = sz → mI τ 37 13 = nI b → (∀ τ', Kp F37 τ τ' → tkM τ' (scn tp sz b) → Q τ') → w_X12_next_0 Q (d + 1) τ := by
  intro d
  induction d with
  | zero =>
    intro b τ hM hm hb he hq
    refine ⟨fun _ => nx52 hM hm (by omega) he (fun z => by omega) hq, fun z => absurd ?_ z⟩
    rw [hM.1, he]; exact nI_le (by omega) (by have := hM.2.1; omega)
  | succ d ih =>
    intro b τ hM hm hb he hq
    have h160 := hM.2.1
    have g := hM.2.2 b (by omega)
    have vp : vp_in (nI b) 160 := vp_in_nI (by omega) (by omega)
    refine ⟨fun z => absurd z ?_, fun _ => ?_⟩
    · rw [hM.1, he]; exact of_eq_false (k_nle (by omega) (by omega))
    · rw [he, k_cl (by omega), g.1]
      have go : isB (tp b) = true → w_X12_next_39 Q (fun z0 => w_X12_next_0 Q (d + 1) z0) τ := fun c => by
        unfold w_X12_next_39
        rw [he, show nI b + 1 = nI (b + 1) from nI_add b 1]
        have k1 : Kp F37 τ (sI τ 37 13 (nI (b + 1))) := Kp.rf.sI _ ⟨rfl, by omega, by omega⟩
        exact ih (b + 1) _ (hM.fr k1 F37n8 F37n42) (hm.fr k1 F37n45 F37n46) (by omega) (by rw [mI_sI_s]) (fun τ' k h => hq τ' (k1.tr k) (by rw [scn_sk (by omega) c]; exact h))
      refine ⟨vp, fun z => go (decide_eq_true (Or.inl ((nI_is (n := 32) g.2 (by omega)).mp z))), fun z1 => ⟨vp, fun z2 => ?_, fun z => go (decide_eq_true (Or.inr ((nI_is (n := 10) g.2 (by omega)).mp z)))⟩⟩
      refine nx52 hM hm (by omega) he (fun z => ?_) hq
      rcases of_decide_eq_true z.2 with q | q
      · exact z1 ((nI_is (n := 32) g.2 (by omega)).mpr q)
      · exact z2 ((nI_is (n := 10) g.2 (by omega)).mpr q)
/-- the model goes on -/
theorem nx12 {Q : Mem → Prop} {τ : Mem} {b : Nat} (hM : tpM τ tp sz) (hm : moM τ) (hb : b ≤ sz) (he : mI τ 37 13 = nI b) (hq : ∀ τ', Kp F37 τ τ' → tkM τ' (scn tp sz b) → Q τ') : w_X12_next τ Q :=
  ⟨_, nx0 (sz - b) b τ hM hm (by omega) he hq⟩
end Nxt
