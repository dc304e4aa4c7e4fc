/-! STAGE 2: stranger, sheet -/
theorem lay_at {σ : Mem} {N L T : Nat} (h : RelX σ N L T) {l : Nat} (hl : l < L) : ∃ a kd nu : Nat, l < 5 ∧ kd ≤ 5 ∧ kd = (mI σ 40 l).toNatClampNeg ∧ nu = (mI σ 41 l).toNatClampNeg ∧ (∀ τ, Kp (SC σ T) σ τ → mT τ a = some (kcl kd, 0) ∧ mI τ a 1 = nI nu) ∧ (∀ τ, Kp (SC σ T) σ τ → mI τ 40 l = nI kd ∧ mI τ 41 l = nI nu) ∧ (∀ (Q : Option Nat → Mem → Prop) (τ : Mem), Kp (SC σ T) σ τ → Q (some a) τ → w_X11_layerAt τ (nI l) Q) ∧ ∀ τ, Kp (SC σ T) σ τ → mI τ 0 4 = nI L ∧ mI τ 37 3 = nI L := by
  obtain ⟨hS, hL, hPl, ⟨hL5, g1, g2, g3⟩, hTx, -⟩ := h
  have e04 : ∀ τ, Kp (SC σ T) σ τ → mI τ 0 4 = nI L := fun τ hk => by rw [hk.2.2.2 _ _ (fun q => by have := SC.st hTx q; omega)]; exact g1
  have e3 : ∀ τ, Kp (SC σ T) σ τ → mI τ 37 3 = nI L := fun τ hk => by rw [hk.2.2.2 _ _ (fun q => by have := SC.st hTx q; omega)]; exact g2
  obtain ⟨a, kd, nu, a1, a2, a3, a4, a5, a6, a7, a8, a9⟩ := g3 l hl
  have hkd : ∀ i, ¬ SC σ T a i := fun i q => by
    unfold SC SC0 tbl at q
    rcases q with (q | q | q | q | q | q | q) | q
    · omega
    · omega
    · omega
    · omega
    · omega
    · omega
    · obtain ⟨n, hn⟩ := q.kind hTx
      rw [hn] at a5
      have := (Prod.mk.inj (Option.some.inj a5)).1
      unfold kcl at this
      split at this <;> omega
    · omega
  refine ⟨a, kd, nu, by omega, a3, by rw [a8, k_cl (by omega)], by rw [a9, k_cl (by omega)], fun τ hk => ⟨by rw [hk.2.1]; exact a5, by rw [hk.2.2.2 _ _ (hkd 1)]; exact a7⟩, fun τ hk => ⟨?_, ?_⟩, fun Q τ hk hq => ?_, fun τ hk => ⟨e04 τ hk, e3 τ hk⟩⟩
  · rw [hk.2.2.2 _ _ (fun q => by have := SC.st hTx q; omega)]; exact a8
  · rw [hk.2.2.2 _ _ (fun q => by have := SC.st hTx q; omega)]; exact a9
  · exact (layerAt_t hL5 (e04 τ hk) hl (by rw [hk.1]; exact a1)).mpr hq
def soA (E : EN) (kd nu N : Nat) (it : Nat → Int32) : Bool := if ∀ j, j < N → nI (laW E kd nu (fun j => j) j) = it j then true else false
theorem soA_t {E : EN} {kd nu N : Nat} {it : Nat → Int32} (h : ∀ j, j < N → nI (laW E kd nu (fun j => j) j) = it j) : soA E kd nu N it = true := by unfold soA; exact if_pos h
theorem soA_f {E : EN} {kd nu N : Nat} {it : Nat → Int32} (h : ¬ ∀ j, j < N → nI (laW E kd nu (fun j => j) j) = it j) : ¬ soA E kd nu N it = true := by unfold soA; rw [if_neg h]; decide
def stGo (so : Nat → Bool) : Nat → Nat → Int32 → Int32
  | 0, _, acc => acc
  | d + 1, i, acc => stGo so d (i + 1) (if so i = true then acc ||| ((1 : Int32) <<< (nI i &&& 31)) else acc)
section StrangerA
variable {σ : Mem} {N L T : Nat} {E : EN}
theorem soC_go {Q : Int32 → Mem → Prop} {kd nu s : Nat} {it : Nat → Int32} {τ : Mem} (hN : N ≤ 8) (h02 : mI τ 0 2 = nI N) (h18 : ∀ j, j < N → mI τ 18 j = nI (laW E kd nu (fun j => j) j)) (f1 : mT τ (25 + 2 * s) = some (7, 0)) (f2 : mP τ (25 + 2 * s) 0 = some (26 + 2 * s)) (f3 : mT τ (26 + 2 * s) = some (14, 40)) (f5 : ∀ k, k < 40 → mI τ (26 + 2 * s) k = it k) (hq : Q (if soA E kd nu N it = true then 1 else 0) τ) : ∀ (d i : Nat), i + d = N → (∀ j, j < i → nI (laW E kd nu (fun j => j) j) = it j) → w_X11_laysJustSo_22 Q (d + 1) (25 + 2 * s) (nI i) τ := by
  intro d
  induction d with
  | zero =>
    intro i hd hp
    have e : i = N := by omega
    subst e
    rw [w_X11_laysJustSo_22, h02]
    rw [if_pos (soA_t hp)] at hq
    exact ⟨fun _ => hq, fun c => absurd (Int32.le_refl _) c⟩
  | succ d ih =>
    intro i hd hp
    have nle : ¬ nI N ≤ nI i := fun z => of_eq_false (k_nle (a := N) (b := i) (by omega) (by omega)) z
    rw [w_X11_laysJustSo_22, h02, k_cl (by omega), h18 i (by omega), show nI i + 1 = nI (i + 1) from nI_add i 1]
    refine ⟨fun c => absurd c nle, fun _ => ⟨vp_in_nI (by omega) (by omega), f1, _, f2, _, f3, vp_in_nI (by omega) (by omega), ?_⟩⟩
    rw [f5 i (by omega)]
    refine ⟨fun c => ih (i + 1) (by omega) (fun j hj => ?_), fun c => ?_⟩
    · by_cases z : j = i
      · rw [z]; exact c
      · exact hp j (by omega)
    · rw [if_neg (soA_f (fun z => c (z i (by omega))))] at hq
      exact hq
set_option maxHeartbeats 1000000 in
theorem stC_go {Q : Int32 → Mem → Prop} (hx : RelX σ N L T) (hE : Env σ T N E.1 E.2.1 E.2.2.1 E.2.2.2) {s n : Nat} {it : Nat → Int32} (hf : ∀ τ, Kp (SC σ T) σ τ → mT τ (25 + 2 * s) = some (7, 0) ∧ mP τ (25 + 2 * s) 0 = some (26 + 2 * s) ∧ mT τ (26 + 2 * s) = some (14, 40) ∧ mI τ (25 + 2 * s) 2 = nI n ∧ ∀ k, k < 40 → mI τ (26 + 2 * s) k = it k) (h04 : ∀ τ, Kp (SC σ T) σ τ → mI τ 0 4 = nI L) (hL : L ≤ 5) : ∀ (d i : Nat) (acc : Int32) (τ : Mem), i + d = L → Kp (SC σ T) σ τ → (∀ τ', Kp (FC σ T) τ τ' → Q (stGo (fun l => soA E (mI σ 40 l).toNatClampNeg (mI σ 41 l).toNatClampNeg N it) d i acc) τ') → w_X11_stranger_42 Q (d + 1) (25 + 2 * s) acc (nI i) τ := by
  have hN := hE.1
  intro d
  induction d with
  | zero =>
    intro i acc τ hd hk hq
    have e : i = L := by omega
    subst e
    rw [w_X11_stranger_42, h04 τ hk]
    exact ⟨fun _ => hq τ Kp.rf, fun c => absurd (Int32.le_refl _) c⟩
  | succ d ih =>
    intro i acc τ hd hk hq
    have nle : ¬ nI L ≤ nI i := fun z => of_eq_false (k_nle (a := L) (b := i) (by omega) (by omega)) z
    obtain ⟨a, kd, nu, hl5, hkd, ekd, enu, ht, htM, d1, -⟩ := lay_at hx (show i < L by omega)
    rw [w_X11_stranger_42, h04 τ hk]
    refine ⟨fun c => absurd c nle, fun _ => d1 _ τ hk ?_⟩
    unfold w_X11_laysJustSo
    refine ⟨fun c => (by cases c), fun r hr => ?_⟩
    cases hr
    refine C_now hE hkd ht hk (fun τ1 k1 hH1 f1 => ?_)
    have hk1 : Kp (SC σ T) σ τ1 := hk.tr (k1.mono (fun a i q => Or.inl q.sc))
    obtain ⟨g1, g2, g3, g4, g5⟩ := hf τ1 hk1
    refine ⟨N + 1, soC_go (E := E) (kd := kd) (nu := nu) (it := it) hN (hE.2.2.2.2.2.1 τ1 hk1).1 (fun j hj => (f1 j hj).1) g1 g2 g3 g5 ?_ N 0 (by omega) (fun j hj => by omega)⟩
    unfold w_X11_stranger_72
    rw [show nI i + 1 = nI (i + 1) from nI_add i 1]
    by_cases c : soA E kd nu N it = true
    · rw [if_pos c]
      refine ⟨fun z => absurd z (by decide), fun _ v hv => ?_⟩
      subst hv
      refine ih (i + 1) _ τ1 (by omega) hk1 (fun τ2 k2 => ?_)
      have := hq τ2 (k1.tr k2)
      rw [stGo] at this
      rw [← ekd, ← enu, if_pos c] at this
      exact this
    · rw [if_neg c]
      refine ⟨fun _ => ?_, fun z => absurd rfl z⟩
      refine ih (i + 1) _ τ1 (by omega) hk1 (fun τ2 k2 => ?_)
      have := hq τ2 (k1.tr k2)
      rw [stGo] at this
      rw [← ekd, ← enu, if_neg c] at this
      exact this
theorem soM_go {Q : Int32 → Mem → Prop} {K : Int32 → Int32 → Int32 → Mem → Prop} {kd nu s i : Nat} {acc : Int32} {it : Nat → Int32} {τ : Mem} (hN : N ≤ 8) (hs : s < 4) (h0 : mI τ 37 0 = nI N) (h54 : ∀ j, j < N → mI τ 54 j = nI (laW E kd nu (fun j => j) j)) (f5 : ∀ k, k < 40 → mI τ 66 (40 * s + k) = it k) (hq : K (nI s) (if soA E kd nu N it = true then acc ||| ((1 : Int32) <<< (nI i &&& 31)) else acc) (nI (i + 1)) τ) : ∀ (d j : Nat) (b : Int32), j + d = N → ((b = 1 ∧ ∀ k, k < j → nI (laW E kd nu (fun j => j) k) = it k) ∨ (b = 0 ∧ ∃ k, k < N ∧ ¬ nI (laW E kd nu (fun j => j) k) = it k)) → w_X12_stranger_61 Q K (d + 1) (nI s) acc (nI i) b (nI j) τ := by
  intro d
  induction d with
  | zero =>
    intro j b hd hp
    have e : j = N := by omega
    subst e
    rw [w_X12_stranger_61, h0]
    unfold w_X12_stranger_123
    rw [show nI i + 1 = nI (i + 1) from nI_add i 1]
    refine ⟨fun _ => ⟨fun c => ?_, fun c => ?_⟩, fun c => absurd (Int32.le_refl _) c⟩
    · rcases hp with ⟨hb, -⟩ | ⟨hb, k, h1, h2⟩
      · rw [hb] at c; exact absurd c (by decide)
      · rw [if_neg (soA_f (fun z => h2 (z k h1)))] at hq
        rw [Int32.or_zero]
        exact hq
    · rcases hp with ⟨hb, hp⟩ | ⟨hb, -⟩
      · rw [if_pos (soA_t hp)] at hq
        exact hq
      · exact absurd hb c
  | succ d ih =>
    intro j b hd hp
    have nle : ¬ nI N ≤ nI j := fun z => of_eq_false (k_nle (a := N) (b := j) (by omega) (by omega)) z
    have e40 : (40 : Int32) * nI s + nI j = nI (40 * s + j) := by rw [show (40 : Int32) = nI 40 from rfl, k_mul, nI_add]
    rw [w_X12_stranger_61, h0]
    unfold w_X12_stranger_101 w_X12_stranger_102
    rw [e40, k_cl (a := 40 * s + j) (by omega), k_cl (a := j) (by omega), show nI j + 1 = nI (j + 1) from nI_add j 1, f5 j (by omega), h54 j (by omega)]
    refine ⟨fun c => absurd c nle, fun _ => ⟨fun c => ?_, fun c => ⟨vp_in_nI (by omega) (by omega), vp_in_nI (by omega) (by omega), fun z => ?_, fun z => ?_⟩⟩⟩
    · rcases hp with ⟨hb, -⟩ | hp
      · rw [hb] at c; exact absurd c (by decide)
      · exact ih (j + 1) 0 (by omega) (Or.inr ⟨rfl, hp.2⟩)
    · exact ih (j + 1) 0 (by omega) (Or.inr ⟨rfl, j, by omega, fun q => z q.symm⟩)
    · rcases hp with ⟨hb, hp⟩ | ⟨hb, -⟩
      · refine ih (j + 1) 1 (by omega) (Or.inl ⟨rfl, fun k hk => ?_⟩)
        by_cases q : k = j
        · rw [q]; exact z.symm
        · exact hp k (by omega)
      · exact absurd hb c
set_option maxHeartbeats 1000000 in
theorem stM_go {Q : Int32 → Mem → Prop} (hx : RelX σ N L T) (hE : Env σ T N E.1 E.2.1 E.2.2.1 E.2.2.2) {s : Nat} (hs : s < 4) {it : Nat → Int32} (hf : ∀ τ, Kp (SC σ T) σ τ → ∀ k, k < 40 → mI τ 66 (40 * s + k) = it k) (h3 : ∀ τ, Kp (SC σ T) σ τ → mI τ 37 3 = nI L) (hL : L ≤ 5) : ∀ (d i : Nat) (acc : Int32) (τ : Mem), i + d = L → Kp (SC σ T) σ τ → (∀ j, j < 8 → mI τ 53 j = nI j) → (∀ τ', Kp FM τ τ' → Q (stGo (fun l => soA E (mI σ 40 l).toNatClampNeg (mI σ 41 l).toNatClampNeg N it) d i acc) τ') → w_X12_stranger_42 Q (d + 1) (nI s) acc (nI i) τ := by
  have hN := hE.1
  intro d
  induction d with
  | zero =>
    intro i acc τ hd hk h53 hq
    have e : i = L := by omega
    subst e
    rw [w_X12_stranger_42, h3 τ hk]
    exact ⟨fun _ => hq τ Kp.rf, fun c => absurd (Int32.le_refl _) c⟩
  | succ d ih =>
    intro i acc τ hd hk h53 hq
    have nle : ¬ nI L ≤ nI i := fun z => of_eq_false (k_nle (a := L) (b := i) (by omega) (by omega)) z
    obtain ⟨a, kd, nu, hl5, hkd, ekd, enu, ht, htM, -⟩ := lay_at hx (show i < L by omega)
    rw [w_X12_stranger_42, h3 τ hk]
    refine ⟨fun c => absurd c nle, fun _ => M_now hE hkd hl5 htM hk h53 (fun τ1 k1 hH1 h34 f1 => ?_)⟩
    have hk1 : Kp (SC σ T) σ τ1 := hk.tr (k1.mono (fun a i q => Or.inl (FM.sc q)))
    refine ⟨N + 1, soM_go (E := E) (kd := kd) (nu := nu) (it := it) hN hs (hE.2.2.2.2.2.1 τ1 hk1).2.1 (fun j hj => (f1 j hj).1) (hf τ1 hk1) ?_ N 0 1 (by omega) (Or.inl ⟨rfl, fun k hk => by omega⟩)⟩
    refine ih (i + 1) _ τ1 (by omega) hk1 (fun j hj => by rw [k1.2.2.2 _ _ (by unfold FM; omega)]; exact h53 j hj) (fun τ2 k2 => ?_)
    have := hq τ2 (k1.tr k2)
    rw [stGo] at this
    rw [← ekd, ← enu] at this
    exact this
end StrangerA
set_option maxHeartbeats 1000000 in
theorem p_stranger (σ : Mem) (x0 : Int32) (h : Rel σ) : w_X11_stranger σ x0 (fun r1 s1 => w_X12_stranger s1 x0 (fun r2 s2 => r1 = r2 ∧ Rel s2)) := by
  obtain ⟨N, L, T, hx⟩ := h.x
  obtain ⟨E, hE, -, -⟩ := env_ex hx
  have hN := hE.1
  have h53 : ∀ j, j < 8 → mI σ 53 j = nI j := hx.2.2.2.2.2.2.2.2.2.2.1
  have hL5 : L ≤ 5 := hx.2.2.2.1.1
  have hTx : rTx σ T := hx.2.2.2.2.1
  have e04 : ∀ τ, Kp (SC σ T) σ τ → mI τ 0 4 = nI L := fun τ hk => by rw [hk.2.2.2 _ _ (fun q => by have := SC.st hTx q; omega)]; exact hx.2.2.2.1.2.1
  have e3 : ∀ τ, Kp (SC σ T) σ τ → mI τ 37 3 = nI L := fun τ hk => by rw [hk.2.2.2 _ _ (fun q => by have := SC.st hTx q; omega)]; exact hx.2.2.2.1.2.2.1
  unfold w_X11_stranger w_X12_stranger
  by_cases c : 0 ≤ x0 ∧ x0 ≤ 3
  · obtain ⟨i, n, so, hi, rfl, hn, hso, hf⟩ := sheet_cases hx c
    obtain ⟨f1, f2, f3, f4, f5, f6, f7, f8, f9⟩ := hf σ Kp.rf
    have vp : vp_in (nI i) 4 := vp_in_nI (by omega) (by omega)
    refine (sheetAt_t hi f1).mpr ⟨fun z => (by cases z), fun r hr => ?_⟩
    cases hr
    refine ⟨f2, ?_⟩
    rcases so_neg hso with ⟨e1, e2⟩ | ⟨e1, e2⟩
    · refine missing_ok f2 f5 (fun _ => ⟨fun z => absurd z (by decide), fun _ => ?_⟩) (fun z => absurd e1 z)
      refine r_isSheet.mpr ((in_t c).mpr ⟨fun _ => ⟨vp, ?_⟩, fun z => absurd z (by decide)⟩)
      rw [k_cl (by omega), f7]
      exact ⟨fun z => absurd z e2, fun _ => ⟨rfl, h⟩⟩
    · refine missing_ok f2 f5 (fun z => absurd z e1) (fun _ => ⟨fun _ => ⟨f2, ?_⟩, fun z => absurd rfl z⟩)
      rw [f6, (hE.2.2.2.2.2.1 σ Kp.rf).1]
      refine ⟨fun cn => ?_, fun cn => ?_⟩
      · refine ⟨L + 1, stC_go (n := n) (it := fun k => mI σ (26 + 2 * i) k) hx hE (fun τ hk => ?_) e04 hL5 L 0 0 σ (by omega) Kp.rf (fun τ1 k1 => ?_)⟩
        · obtain ⟨g1, g2, g3, g4, g5, g6, g7, g8, g9⟩ := hf τ hk
          exact ⟨g2, g3, g4, g6, fun k hk => (g9 k hk).1⟩
        · have hk1 : Kp (SC0 σ T) σ τ1 := k1.mono (fun a i q => q.sc)
          obtain ⟨g1, g2, g3, g4, g5, g6, g7, g8, g9⟩ := hf τ1 hk1.s0
          refine r_isSheet.mpr ((in_t c).mpr ⟨fun _ => ⟨vp, ?_⟩, fun z => absurd z (by decide)⟩)
          rw [k_cl (by omega), g7, g8, (hE.2.2.2.2.2.1 τ1 hk1.s0).2.1]
          refine ⟨fun _ => ⟨vp, fun _ => ?_, fun z => absurd cn z⟩, fun z => absurd e2 z⟩
          refine ⟨L + 1, stM_go (it := fun k => mI σ (26 + 2 * i) k) hx hE hi (fun τ hk k hk2 => ((hf τ hk).2.2.2.2.2.2.2.2 k hk2).2) e3 hL5 L 0 0 τ1 (by omega) hk1.s0 (fun j hj => by rw [FC.n53 hE k1]; exact h53 j hj) (fun τ2 k2 => ⟨rfl, ?_⟩)⟩
          refine (hx.sc (hk1.tr (k2.mono (fun a k q => FM.sc q))) (fun j hj => ?_)).rel
          rw [k2.2.2.2 _ _ (by unfold FM; omega), FC.n53 hE k1]
          exact h53 j hj
      · refine r_isSheet.mpr ((in_t c).mpr ⟨fun _ => ⟨vp, ?_⟩, fun z => absurd z (by decide)⟩)
        rw [k_cl (by omega), f7, f8, (hE.2.2.2.2.2.1 σ Kp.rf).2.1]
        exact ⟨fun _ => ⟨vp, fun z => absurd z cn, fun _ => ⟨rfl, h⟩⟩, fun z => absurd e2 z⟩
  · refine (sheetAt_f c).mpr ⟨fun _ => ?_, fun r hr => (by cases hr)⟩
    exact r_isSheet.mpr ((in_f c).mpr ⟨fun z => absurd rfl z, fun _ => ⟨rfl, h⟩⟩)
theorem sheetM_eq {s : Mem} {i : Nat} {so x3 : Int32} {Q : Int32 → Mem → Prop} (hi : i < 4) (hs : -1 ≤ so ∧ so ≤ 2) (h3 : so < 0 ∨ (0 ≤ x3 ∧ x3 ≤ 40)) : w_X12_sheet s (nI i) so x3 Q ↔ w_X12_sheet_40 Q (nI i) so x3 s := by
  have c : (0 : Int32) ≤ nI i ∧ nI i ≤ 3 := ⟨nI_pos' (by omega), nI_le (b := 3) (by omega) (by omega)⟩
  unfold w_X12_sheet w_X12_sheet_29
  rw [r_isSheet, in_t c]
  constructor
  · intro hw
    have h1 := (in_t hs).mp (hw.2 (by decide))
    have h2 := h1.2 (by decide)
    by_cases z : so < 0
    · exact (h2.1 z).1 z
    · rcases h3 with q | q
      · exact absurd q z
      · exact (((h2.2 z).1 q.2).2 z).1 q.1
  · intro hw
    refine ⟨fun z => absurd z (by decide), fun _ => (in_t hs).mpr ⟨fun z => absurd z (by decide), fun _ => ⟨fun z => ⟨fun _ => hw, fun q => absurd z q⟩, fun z => ?_⟩⟩⟩
    rcases h3 with q | q
    · exact absurd q z
    · exact ⟨fun _ => ⟨fun q => absurd q z, fun _ => ⟨fun _ => hw, fun w => absurd q.1 w⟩⟩, fun w => absurd q.2 w⟩
theorem p_sheet (σ : Mem) (x0 x1 x2 : Int32) (h : Rel σ) : w_X11_sheet σ x0 x1 x2 (fun r1 s1 => w_X12_sheet s1 x0 x1 x2 (fun r2 s2 => r1 = r2 ∧ Rel s2)) := by
  obtain ⟨N, L, T, hx⟩ := h.x
  unfold w_X11_sheet
  by_cases c : 0 ≤ x0 ∧ x0 ≤ 3
  · obtain ⟨i, n, so, hi, rfl, hn, hso, hf⟩ := sheet_cases hx c
    obtain ⟨f1, f2, -⟩ := hf σ Kp.rf
    refine (sheetAt_t hi f1).mpr ⟨fun z => (by cases z), fun r hr => ?_⟩
    cases hr
    have badM : ∀ v : Int32, (¬ (-1 ≤ x1 ∧ x1 ≤ 2) → v = -2) → ((-1 ≤ x1 ∧ x1 ≤ 2) → ¬ x1 < 0 → ¬ x2 ≤ 40 → v = -2) → ((-1 ≤ x1 ∧ x1 ≤ 2) → ¬ x1 < 0 → x2 ≤ 40 → ¬ 0 ≤ x2 → v = -14) → (¬ (-1 ≤ x1 ∧ x1 ≤ 2) ∨ (¬ x1 < 0 ∧ ¬ (0 ≤ x2 ∧ x2 ≤ 40))) → w_X12_sheet σ (nI i) x1 x2 (fun r2 s2 => v = r2 ∧ Rel s2) := by
      intro v v1 v2 v3 hb
      unfold w_X12_sheet w_X12_sheet_29
      refine r_isSheet.mpr ((in_t c).mpr ⟨fun z => absurd z (by decide), fun _ => ?_⟩)
      by_cases cs : -1 ≤ x1 ∧ x1 ≤ 2
      · refine (in_t cs).mpr ⟨fun z => absurd z (by decide), fun _ => ?_⟩
        rcases hb with hb | ⟨b1, b2⟩
        · exact absurd cs hb
        · refine ⟨fun z => absurd z b1, fun _ => ⟨fun z => ⟨fun q => absurd q b1, fun _ => ⟨fun q => absurd ⟨q, z⟩ b2, fun q => ⟨v3 cs b1 z q, h⟩⟩⟩, fun z => ⟨v2 cs b1 z, h⟩⟩⟩
      · exact (in_f cs).mpr ⟨fun _ => ⟨v1 cs, h⟩, fun z => absurd rfl z⟩
    refine ⟨fun z => badM (-2) (fun _ => rfl) (fun _ _ _ => rfl) (fun cs => absurd cs.1 (Int32.not_le.mpr z)) (Or.inl (fun cs => absurd cs.1 (Int32.not_le.mpr z))), fun z => ⟨fun z2 => ⟨fun z3 => ⟨fun z4 => ⟨fun z5 => ⟨f2, ?_⟩, fun z5 => ?_⟩, fun z4 => ?_⟩, fun z3 => ⟨f2, ?_⟩⟩, fun z2 => badM (-2) (fun _ => rfl) (fun _ _ _ => rfl) (fun cs => absurd cs.2 z2) (Or.inl (fun cs => z2 cs.2))⟩⟩
    · have n0 : ¬ x1 < 0 := fun q => by
        have q1 : -1 ≤ x1 := Int32.not_lt.mp z
        rw [fa_le] at q1
        rw [fa_lt] at q
        have q2 : ¬ x1.toInt = (-1 : Int32).toInt := fun w => z3 ((fa_eq _ _).mpr w)
        have q3 : (-1 : Int32).toInt = -1 := by decide
        have q4 : (0 : Int32).toInt = 0 := by decide
        omega
      obtain ⟨m, hm, rfl⟩ := nI_of2 (M := 40) (n := 40) (by decide) (Int32.not_lt.mpr z5) z4
      have hs2 : x1 = -1 ∨ x1 = 0 ∨ x1 = 1 ∨ x1 = 2 := by
        obtain ⟨j, hj, rfl⟩ := nI_of2 (M := 2) (n := 2) (by decide) n0 z2
        have : j = 0 ∨ j = 1 ∨ j = 2 := by omega
        rcases this with rfl | rfl | rfl
        · exact Or.inr (Or.inl rfl)
        · exact Or.inr (Or.inr (Or.inl rfl))
        · exact Or.inr (Or.inr (Or.inr rfl))
      have e : (fun s1 => w_X12_sheet s1 (nI i) x1 (nI m) (fun r2 s2 => (1 : Int32) = r2 ∧ Rel s2)) = (fun s1 => w_X12_sheet_40 (fun r2 s2 => (1 : Int32) = r2 ∧ Rel s2) (nI i) x1 (nI m) s1) := funext fun s1 => propext (sheetM_eq hi ⟨Int32.not_lt.mp z, z2⟩ (Or.inr ⟨z5, z4⟩))
      show w_X7_become σ (25 + 2 * i) x1 (nI m) (fun s1 => w_X12_sheet s1 (nI i) x1 (nI m) (fun r2 s2 => (1 : Int32) = r2 ∧ Rel s2))
      rw [e]
      exact sheet_go h hi hm hs2 (fun q => absurd (Int32.not_lt.mp n0) q) (fun _ => rfl)
    · have n0 : ¬ x1 < 0 := fun q => by
        have q1 : -1 ≤ x1 := Int32.not_lt.mp z
        rw [fa_le] at q1
        rw [fa_lt] at q
        have q2 : ¬ x1.toInt = (-1 : Int32).toInt := fun w => z3 ((fa_eq _ _).mpr w)
        have q3 : (-1 : Int32).toInt = -1 := by decide
        have q4 : (0 : Int32).toInt = 0 := by decide
        omega
      exact badM (-14) (fun cs => absurd ⟨Int32.not_lt.mp z, z2⟩ cs) (fun _ _ q => absurd z4 q) (fun _ _ _ _ => rfl) (Or.inr ⟨n0, fun q => z5 q.1⟩)
    · have n0 : ¬ x1 < 0 := fun q => by
        have q1 : -1 ≤ x1 := Int32.not_lt.mp z
        rw [fa_le] at q1
        rw [fa_lt] at q
        have q2 : ¬ x1.toInt = (-1 : Int32).toInt := fun w => z3 ((fa_eq _ _).mpr w)
        have q3 : (-1 : Int32).toInt = -1 := by decide
        have q4 : (0 : Int32).toInt = 0 := by decide
        omega
      exact badM (-2) (fun _ => rfl) (fun _ _ _ => rfl) (fun _ _ q => absurd q z4) (Or.inr ⟨n0, fun q => z4 q.2⟩)
    · subst z3
      have e : (fun s1 => w_X12_sheet s1 (nI i) (-1) x2 (fun r2 s2 => (1 : Int32) = r2 ∧ Rel s2)) = (fun s1 => w_X12_sheet_40 (fun r2 s2 => (1 : Int32) = r2 ∧ Rel s2) (nI i) (-1) x2 s1) := funext fun s1 => propext (sheetM_eq hi ⟨by decide, by decide⟩ (Or.inl (by decide)))
      show w_X7_become σ (25 + 2 * i) (-1) 0 (fun s1 => w_X12_sheet s1 (nI i) (-1) x2 (fun r2 s2 => (1 : Int32) = r2 ∧ Rel s2))
      rw [e]
      exact sheet_go h hi (n := 0) (by omega) (Or.inl rfl) (fun _ => rfl) (fun q => absurd q (by decide))
  · refine (sheetAt_f c).mpr ⟨fun _ => ?_, fun r hr => (by cases hr)⟩
    unfold w_X12_sheet
    exact r_isSheet.mpr ((in_f c).mpr ⟨fun _ => ⟨rfl, h⟩, fun z => absurd rfl z⟩)
