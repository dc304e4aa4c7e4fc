/-! STAGE 2: all orders, one by one -/
def FG (σ : Mem) (T a k : Nat) : Prop := txs σ T a ∨ (a = 15 ∧ k = 2) ∨ (16 ≤ a ∧ a ≤ 22) ∨ (a = 0 ∧ (k = 13 ∨ k = 16))
theorem FG.sc {σ : Mem} {T a k : Nat} (h : FG σ T a k) : SC0 σ T a k := by
  unfold SC0
  rcases h with h | h | h | h
  · exact Or.inr (Or.inr (Or.inr (Or.inr (Or.inr (Or.inr h)))))
  · exact Or.inr (Or.inl h)
  · exact Or.inr (Or.inr (Or.inl (by omega)))
  · exact Or.inl (by omega)
section GoOnA
variable {σ : Mem} {T N : Nat} {E : EN} {kd nu : Nat}
theorem FG.un (hE : Env σ T N E.1 E.2.1 E.2.2.1 E.2.2.2) {τ τ' : Mem} (k : Kp (FG σ T) τ τ') {a : Nat} (ha : a = 23 ∨ (37 ≤ a ∧ a < 68)) (i : Nat) : mI τ' a i = mI τ a i := by
  refine k.2.2.2 a i (fun q => ?_)
  rcases q with q | q | q | q
  · have := hE.2.2.2.2.1 a q; omega
  · omega
  · omega
  · omega
theorem upN_lt {o : Nat → Nat} {k p j : Nat} (h : j < k) : upN o k p j = o j := by unfold upN; rw [if_neg (by omega)]
theorem upN_k {o : Nat → Nat} {k p : Nat} : upN o k p k = p := by unfold upN; rw [if_pos rfl]
theorem laA_up {o : Nat → Nat} {k p : Nat} : laA E kd nu (upN o k p) k = laA E kd nu o k := laA_cong k (fun j hj => upN_lt hj)
theorem laA_up1 {o : Nat → Nat} {k p : Nat} : (laA E kd nu (upN o k p) (k + 1)).1 = puA (laA E kd nu o k).1 (chA E kd nu (laA E kd nu o k).1 p) p := by
  rw [laA, laA_up, upN_k]
theorem laB_up {o : Nat → Nat} {k p j : Nat} (h : j < k) : laB E kd nu (upN o k p) j = laB E kd nu o j := by
  unfold laB laW
  rw [laA_cong (o := upN o k p) (o' := o) j (fun i hi => upN_lt (by omega)), upN_lt h]
theorem laB_upk {o : Nat → Nat} {k p : Nat} : laB E kd nu (upN o k p) k = topI (laA E kd nu o k).1 (chA E kd nu (laA E kd nu o k).1 p) := by
  unfold laB laW
  rw [laA_up, upN_k]
theorem smA_iff {bn : Nat → Int32} {o : Nat → Nat} {bl : Nat → Int32} (h1 : ∀ q, q < N → ∃ j, j < N ∧ o j = q) (h2 : ∀ j, j < N → o j < N) (h3 : ∀ j, j < N → bl (o j) = laB E kd nu o j) : smA E kd nu N bn o = true ↔ ∀ p, p < N → bl p = bn p := by
  unfold smA
  constructor
  · intro z p hp
    have z' : ∀ j, j < N → laB E kd nu o j = bn (o j) := by
      by_cases c : ∀ j, j < N → laB E kd nu o j = bn (o j)
      · exact c
      · rw [if_neg c] at z; cases z
    obtain ⟨j, hj, e⟩ := h1 p hp
    rw [← e, h3 j hj]
    exact z' j hj
  · intro z
    rw [if_pos]
    intro j hj
    rw [← h3 j hj]
    exact z (o j) (h2 j hj)
set_option maxHeartbeats 4000000 in
theorem goC (hE : Env σ T N E.1 E.2.1 E.2.2.1 E.2.2.2) (hN6 : N ≤ 6) {a : Nat} (hkd : kd ≤ 5) (ht : ∀ τ, Kp (SC σ T) σ τ → mT τ a = some (kcl kd, 0) ∧ mI τ a 1 = nI nu) {bn : Nat → Int32} : ∀ (d k m : Nat) (o : Nat → Nat) (A : AC) (τ : Mem) (Q : Mem → Prop), k + d = N → Kp (SC σ T) σ τ → hoA 15 2 17 16 τ (laA E kd nu o k).1 → msk N k m o → (∀ j, j < k → mI τ 20 j = nI (o j)) → (∀ j, j < k → mI τ 19 (o j) = laB E kd nu o j) → (∀ p, p < N → mI τ 23 p = bn p) → acC τ N A → (∀ τ', Kp (FG σ T) τ τ' → hoA 15 2 17 16 τ' (laA E kd nu o k).1 → (∀ q, q < N → m.testBit q = true → mI τ' 19 q = mI τ 19 q) → (∀ j, j < k → mI τ' 20 j = mI τ 20 j) → acC τ' N (goA E kd nu N bn d k m o A) → Q τ') → f_X11_goOn (d + 1) τ a (nI k) (nI m) Q := by
  have hN := hE.1
  intro d
  induction d with
  | zero =>
    intro k m o A τ Q hd hk hH hm h20 h19 h23 ac hq
    have e : k = N := by omega
    subst e
    have h02 := (hE.2.2.2.2.2.1 τ hk).1
    obtain ⟨okA, -⟩ := laA_ok (E := E) (kd := kd) (nu := nu) (n := k) hm.2.2.2.1 k (Nat.le_refl _)
    have h1 := okA.1
    rw [f_X11_goOn]
    unfold w_X11_goOn w_X11_goOn_14
    rw [h02]
    refine ⟨fun _ => ?_, fun c => absurd (Int32.le_refl _) c⟩
    refine note_ok (o := o) (sm := smA E kd nu k bn o) (A := A) (M := (laA E kd nu o k).1.1) (by omega) (by omega) h02 hH.1 h20 ?_ ac (fun τ' k1 ac' => ?_)
    · have := smA_iff (E := E) (kd := kd) (nu := nu) (N := k) (bn := bn) (bl := fun p => mI τ 19 p) hm.all hm.2.2.2.1 h19
      rw [this]
      constructor
      · intro z p hp; rw [h23 p hp]; exact z p hp
      · intro z p hp; have := z p hp; rw [h23 p hp] at this; exact this
    · refine hq τ' (k1.mono (fun a k q => ?_)) (hH.fr k1 (by unfold FNt; omega) (fun i => by unfold FNt; omega) (fun i => by unfold FNt; omega)) (fun q _ _ => k1.2.2.2 _ _ (by unfold FNt; omega)) (fun j hj => k1.2.2.2 _ _ (by unfold FNt; omega)) ac'
      unfold FNt at q
      unfold FG
      rcases q with q | q | q
      · exact Or.inr (Or.inr (Or.inl (by omega)))
      · exact Or.inr (Or.inr (Or.inl (by omega)))
      · exact Or.inr (Or.inr (Or.inr q))
  | succ d ih =>
    intro k m o A τ Q hd hk hH hm h20 h19 h23 ac hq
    have hkn : k < N := by omega
    have h02 := (hE.2.2.2.2.2.1 τ hk).1
    obtain ⟨okA, posA⟩ := laA_ok (E := E) (kd := kd) (nu := nu) (n := k) hm.2.2.2.1 k (Nat.le_refl _)
    have okN : okH N k (laA E kd nu o k).1 := okA
    have h1 := okA.1
    have nle : ¬ nI N ≤ nI k := fun z => of_eq_false (k_nle (a := N) (b := k) (by omega) (by omega)) z
    have lt8 : nI k < 8 := nI_lt (b := 8) (by omega) (by omega)
    have hm64 := hm.1
    rw [f_X11_goOn]
    unfold w_X11_goOn
    rw [h02]
    rw [goA] at hq
    have lp : ∀ (c p : Nat) (A' : AC) (τ' : Mem), p + c = N → Kp (SC σ T) σ τ' → hoA 15 2 17 16 τ' (laA E kd nu o k).1 → (∀ j, j < k → mI τ' 20 j = nI (o j)) → (∀ j, j < k → mI τ' 19 (o j) = laB E kd nu o j) → (∀ p, p < N → mI τ' 23 p = bn p) → acC τ' N A' → (∀ τ'', Kp (FG σ T) τ' τ'' → hoA 15 2 17 16 τ'' (laA E kd nu o k).1 → (∀ q, q < N → m.testBit q = true → mI τ'' 19 q = mI τ' 19 q) → (∀ j, j < k → mI τ'' 20 j = mI τ' 20 j) → acC τ'' N (goL (fun p A => if m.testBit p = true then A else goA E kd nu N bn d (k + 1) (m ||| 2 ^ p) (upN o k p) A) c p A') → Q τ'') → w_X11_goOn_22 (f_X11_goOn (d + 1)) Q (c + 1) a (nI k) (nI m) (nI p) τ' := by
      intro c
      induction c with
      | zero =>
        intro p A' τ' hc hk' hH' h20' h19' h23' ac' hq'
        have e : p = N := by omega
        subst e
        rw [w_X11_goOn_22, (hE.2.2.2.2.2.1 τ' hk').1]
        exact ⟨fun _ => hq' τ' Kp.rf hH' (fun _ _ _ => rfl) (fun _ _ => rfl) ac', fun z => absurd (Int32.le_refl _) z⟩
      | succ c ihc =>
        intro p A' τ' hc hk' hH' h20' h19' h23' ac' hq'
        have hp : p < N := by omega
        have nlep : ¬ nI N ≤ nI p := fun z => of_eq_false (k_nle (a := N) (b := p) (by omega) (by omega)) z
        have bt := bit_t m hm64 p (by omega)
        rw [w_X11_goOn_22, (hE.2.2.2.2.2.1 τ' hk').1]
        unfold w_X11_goOn_98
        rw [show nI p + 1 = nI (p + 1) from nI_add p 1]
        rw [goL] at hq'
        refine ⟨fun z => absurd z nlep, fun _ => ⟨fun z => ?_, fun z => ?_⟩⟩
        · have hu : ¬ m.testBit p = true := by rw [bt.mp z]; decide
          rw [if_neg hu] at hq'
          have hmu := hm.up hN6 hp hu
          have hnp : ∀ j, j < k → o j ≠ p := fun j hj e => hu ((hm.2.1 p hp).mpr ⟨j, hj, e⟩)
          have hle := chA_le E kd nu (laA E kd nu o k).1 p
          refine ch_ok_15 hE hk' hH' okN (by omega) hp hkd ht (fun τ1 k1 => ⟨vp_in_nI (by omega) (by omega), ?_⟩)
          rw [k_cl (a := k) (by omega)]
          have hk1 := hk'.cwsc k1
          have hH1 := hH'.cw hE k1 (by decide) (by decide) (by decide)
          have k2 : Kp (fun a _ => a = 20) τ1 (sI τ1 20 k (nI p)) := (by repeat (first | exact Kp.rf | refine Kp.sI ?_ _ (by first | exact rfl | omega | (dsimp only; omega))))
          refine put_ok_15 (hH1.fr k2 (by omega) (fun i => by omega) (fun i => by omega)) okN (by omega) hN hle hp (fun τ3 k3 hH3 _ e19 o19 => ?_)
          have k13 : Kp (FG σ T) τ' τ3 := ((k1.mono (fun a k q => Or.inl q)).tr (k2.mono (fun a k q => Or.inr (Or.inr (Or.inl (by omega)))))).tr (k3.mono (fun a k q => by
            rcases q with q | q
            · exact Or.inr (Or.inl q)
            · exact Or.inr (Or.inr (Or.inl (by omega)))))
          have hk3 : Kp (SC σ T) σ τ3 := hk'.tr (k13.mono (fun a k q => Or.inl q.sc))
          rw [(bit_o m hm64 p (by omega)).1, show nI k + 1 = nI (k + 1) from nI_add k 1]
          rw [← laA_up1] at hH3
          have u19 : ∀ q, q ≠ p → mI τ3 19 q = mI τ' 19 q := fun q hq => by
            rw [(o19 q hq).2, mI_sI_n _ _ (by omega), hE.cw k1 (a := 19) (by omega)]
          refine ih (k + 1) (m ||| 2 ^ p) (upN o k p) A' τ3 _ (by omega) hk3 hH3 hmu (fun j hj => ?_) (fun j hj => ?_) (fun q hq => by rw [FG.un hE k13 (a := 23) (by omega)]; exact h23' q hq) ?_ (fun τ4 k4 hH4 u4 v4 ac4 => ?_)
          · rw [k3.2.2.2 _ _ (by omega)]
            by_cases c2 : j = k
            · rw [c2, mI_sI_s, upN_k]
            · rw [mI_sI_k _ _ c2, hE.cw k1 (a := 20) (by omega), upN_lt (by omega)]
              exact h20' j (by omega)
          · by_cases c2 : j = k
            · rw [c2, upN_k, laB_upk]; exact e19
            · rw [upN_lt (by omega), laB_up (by omega), u19 _ (hnp j (by omega))]
              exact h19' j (by omega)
          · exact ((ac'.fr k1 (fun i q => by have := hE.2.2.2.2.1 _ q; omega) (fun q => by have := hE.2.2.2.2.1 _ q; omega) (fun q => by have := hE.2.2.2.2.1 _ q; omega) (fun i q => by have := hE.2.2.2.2.1 _ q; omega)).fr k2 (fun i => by omega) (by omega) (by omega) (fun i => by omega)).fr k3 (fun i => by omega) (by omega) (by omega) (fun i => by omega)
          · rw [laA_up1] at hH4
            refine undo_ok hH4 okN (by omega) hN hle hp posA (fun τ5 k5 hH5 => ?_)
            have k15 : Kp (FG σ T) τ' τ5 := (k13.tr k4).tr (k5.mono (fun a k q => by
              rcases q with q | q
              · exact Or.inr (Or.inl q)
              · exact Or.inr (Or.inr (Or.inl (by omega)))))
            have w19 : ∀ q, q < N → m.testBit q = true → mI τ5 19 q = mI τ' 19 q := fun q hq1 hq2 => by
              rw [k5.2.2.2 _ _ (by omega), u4 q hq1 (by rw [bit_u, hq2]; rfl), u19 q (fun z => hu (by rw [← z]; exact hq2))]
            have w20 : ∀ j, j < k → mI τ5 20 j = mI τ' 20 j := fun j hj => by
              rw [k5.2.2.2 _ _ (by omega), v4 j (by omega), k3.2.2.2 _ _ (by omega), mI_sI_k _ _ (by omega), hE.cw k1 (a := 20) (by omega)]
            refine ihc (p + 1) _ τ5 (by omega) (hk'.tr (k15.mono (fun a k q => Or.inl q.sc))) hH5 (fun j hj => by rw [w20 j hj]; exact h20' j hj) (fun j hj => ?_) (fun q hq => by rw [FG.un hE k15 (a := 23) (by omega)]; exact h23' q hq) (ac4.fr k5 (fun i => by omega) (by omega) (by omega) (fun i => by omega)) (fun τ6 k6 hH6 u6 v6 ac6 => ?_)
            · have hoj := hm.2.2.2.1 j hj
              rw [w19 (o j) hoj ((hm.2.1 _ hoj).mpr ⟨j, hj, rfl⟩)]
              exact h19' j hj
            · exact hq' τ6 (k15.tr k6) hH6 (fun q hq1 hq2 => by rw [u6 q hq1 hq2]; exact w19 q hq1 hq2) (fun j hj => by rw [v6 j hj]; exact w20 j hj) ac6
        · have hu : m.testBit p = true := by
            cases hb : m.testBit p with
            | true => rfl
            | false => exact absurd (bt.mpr hb) z
          rw [if_pos hu] at hq'
          exact ihc (p + 1) A' τ' (by omega) hk' hH' h20' h19' h23' ac' hq'
    exact ⟨fun z => absurd z nle, fun _ => ⟨fun _ => ⟨N + 1, lp N 0 A τ (by omega) hk hH h20 h19 h23 ac hq⟩, fun z => absurd lt8 z⟩⟩
end GoOnA
