/-! STAGE 2: the model's ways; fewest -/
def FW (a k : Nat) : Prop := a = 49 ∨ a = 50 ∨ (a = 37 ∧ (k = 28 ∨ k = 35 ∨ k = 36)) ∨ a = 51 ∨ a = 52
theorem FW.sc {σ : Mem} {T a k : Nat} (h : FW a k) : SC0 σ T a k := by
  unfold SC0
  unfold FW at h
  omega
theorem oI_lt {a : Option Nat} {B : Nat} (hB : B < 2147483648) (h : ∀ v, a = some v → v ≤ B) : (oI a < 0 ∧ a = none) ∨ (¬ oI a < 0 ∧ ∃ v, a = some v ∧ v ≤ B) := by
  cases a with
  | none => exact Or.inl ⟨by decide, rfl⟩
  | some v => exact Or.inr ⟨nI_pos (by have := h v rfl; omega), v, rfl, h v rfl⟩
section WaysM
variable {σ : Mem} {T N : Nat} {E : EN} {n : Nat} {o : Nat → Nat}
theorem wy35 {rec : Mem → Int32 → Int32 → Int32 → (Mem → Prop) → Prop} {Q : Mem → Prop} {τ : Mem} {s : Nat} {x : Int32} {ac : Option Nat} (hs : s ≤ 792) (h36 : mI τ 37 36 = oI ac) (hc : ∀ v, ac = some v → v ≤ 792) (hq : Q (sI (sI τ 37 35 x) 37 36 (oI (mmn ac s)))) : w_X12_ways_35 rec Q (nI s) x τ := by
  unfold w_X12_ways_35
  rw [h36]
  rcases oI_lt (by decide) hc with ⟨h1, rfl⟩ | ⟨h1, v, rfl, h2⟩
  · exact ⟨fun _ => hq, fun z => absurd h1 z⟩
  · have hq' : Q (sI (sI τ 37 35 x) 37 36 (nI (min v s))) := hq
    refine ⟨fun z => absurd z h1, fun _ => ⟨fun z => ?_, fun z => ?_⟩⟩
    · have z' : nI v ≤ nI s := z
      have : v ≤ s := by
        rcases Nat.lt_or_ge s v with q | q
        · exact absurd z' (fun z => of_eq_false (k_nle (a := v) (b := s) q (by omega)) z)
        · exact q
      rw [Nat.min_eq_left this] at hq'
      exact hq'
    · have z' : ¬ nI v ≤ nI s := z
      have : s ≤ v := by
        rcases Nat.lt_or_ge v s with q | q
        · exact absurd (nI_le (by omega) (by omega)) z'
        · exact q
      rw [Nat.min_eq_right this] at hq'
      exact hq'
set_option maxHeartbeats 2000000 in
theorem wyM (hE : Env σ T N E.1 E.2.1 E.2.2.1 E.2.2.2) (hn : n ≤ 8) (ho : ∀ j, j < n → o j < N) : ∀ (d k : Nat) (H : HP) (s : Nat) (af ac : Option Nat) (τ : Mem) (Q : Mem → Prop), k + d = n → Kp (SC σ T) σ τ → hoA 37 28 51 52 τ H → okH N k H → (∀ i, i < H.1 → 0 < H.2.1 i) → (∀ j, j < n → mI τ 53 j = nI (o j)) → s ≤ 99 * k → (∀ v, af = some v → v ≤ 8) → (∀ v, ac = some v → v ≤ 792) → mI τ 37 35 = oI af → mI τ 37 36 = oI ac → (∀ τ', Kp FW τ τ' → hoA 37 28 51 52 τ' H → mI τ' 37 35 = oI (mnO af ((lvs E o d k H s).map (sel 0))) → mI τ' 37 36 = oI (mnO ac ((lvs E o d k H s).map (sel 1))) → Q τ') → f_X12_ways (d + 1) τ (nI k) (nI n) (nI s) Q := by
  have hN := hE.1
  intro d
  induction d with
  | zero =>
    intro k H s af ac τ Q hd hk hH okA hpos h53 hs hf hc h35 h36 hq
    have h1 := okA.1
    have e : k = n := by omega
    subst e
    rw [f_X12_ways]
    unfold w_X12_ways w_X12_ways_24
    rw [lvs] at hq
    have hq' : Q (sI (sI τ 37 35 (oI (mmn af H.1))) 37 36 (oI (mmn ac s))) := hq _ (Kp.sI (Kp.sI Kp.rf _ (by unfold FW; omega)) _ (by unfold FW; omega)) (hH.fr (F := fun a k => a = 37 ∧ (k = 35 ∨ k = 36)) (by repeat (first | exact Kp.rf | refine Kp.sI ?_ _ (by first | exact rfl | omega | (dsimp only; omega)))) (by omega) (fun i => by omega) (fun i => by omega)) (by rw [mI_sI_k _ _ (by omega), mI_sI_s]; rfl) (by rw [mI_sI_s]; rfl)
    refine ⟨fun z => absurd rfl z, fun _ => ?_⟩
    rw [h35, hH.1]
    rcases oI_lt (by decide) hf with ⟨g1, rfl⟩ | ⟨g1, v, rfl, g2⟩
    · exact ⟨fun _ => wy35 (by omega) h36 hc hq', fun z => absurd g1 z⟩
    · refine ⟨fun z => absurd z g1, fun _ => ⟨fun z => ?_, fun z => ?_⟩⟩
      · have z' : nI v ≤ nI H.1 := z
        have : v ≤ H.1 := by
          rcases Nat.lt_or_ge H.1 v with q | q
          · exact absurd z' (fun z => of_eq_false (k_nle (a := v) (b := H.1) q (by omega)) z)
          · exact q
        refine wy35 (by omega) h36 hc ?_
        have hq2 : Q (sI (sI τ 37 35 (nI (min v H.1))) 37 36 (oI (mmn ac s))) := hq'
        rw [Nat.min_eq_left this] at hq2
        exact hq2
      · have z' : ¬ nI v ≤ nI H.1 := z
        have : H.1 ≤ v := by
          rcases Nat.lt_or_ge v H.1 with q | q
          · exact absurd (nI_le (by omega) (by omega)) z'
          · exact q
        refine wy35 (by omega) h36 hc ?_
        have hq2 : Q (sI (sI τ 37 35 (nI (min v H.1))) 37 36 (oI (mmn ac s))) := hq'
        rw [Nat.min_eq_right this] at hq2
        exact hq2
  | succ d ih =>
    intro k H s af ac τ Q hd hk hH okA hpos h53 hs hf hc h35 h36 hq
    have h1 := okA.1
    have hkn : k < n := by omega
    have hp := ho k hkn
    rw [f_X12_ways]
    unfold w_X12_ways
    refine ⟨fun _ => ⟨vp_in_nI (by omega) (by omega), fun v hv => ?_⟩, fun z => by rw [nI_eq (by omega) (by omega)] at z; omega⟩
    rw [k_cl (by omega), h53 k hkn] at hv
    subst hv
    rw [hH.1]
    rw [lvs] at hq
    have lp : ∀ (c h : Nat) (bf bc : Option Nat) (τ' : Mem), h + c = H.1 + 1 → Kp (SC σ T) σ τ' → hoA 37 28 51 52 τ' H → (∀ j, j < n → mI τ' 53 j = nI (o j)) → (∀ v, bf = some v → v ≤ 8) → (∀ v, bc = some v → v ≤ 792) → mI τ' 37 35 = oI bf → mI τ' 37 36 = oI bc → (∀ τ'', Kp FW τ' τ'' → hoA 37 28 51 52 τ'' H → mI τ'' 37 35 = oI (mnO bf ((lvI (fun h => if h = H.1 ∨ mayA E H h (o k) = true then lvs E o d (k + 1) (puA H h (o k)) (s + payA E H h (o k)) else []) c h).map (sel 0))) → mI τ'' 37 36 = oI (mnO bc ((lvI (fun h => if h = H.1 ∨ mayA E H h (o k) = true then lvs E o d (k + 1) (puA H h (o k)) (s + payA E H h (o k)) else []) c h).map (sel 1))) → Q τ'') → w_X12_ways_83 (f_X12_ways (d + 1)) Q (c + 1) (nI k) (nI n) (nI s) (nI (o k)) (nI H.1) (nI h) τ' := by
      intro c
      induction c with
      | zero =>
        intro h bf bc τ' hcc hk' hH' h53' hf' hc' h35' h36' hq'
        have e : h = H.1 + 1 := by omega
        subst e
        rw [w_X12_ways_83]
        exact ⟨fun _ => hq' τ' Kp.rf hH' h35' h36', fun z => absurd (nI_lt (by omega) (by omega)) z⟩
      | succ c ihc =>
        intro h bf bc τ' hcc hk' hH' h53' hf' hc' h35' h36' hq'
        have hh : h ≤ H.1 := by omega
        rw [lvI, List.map_append, List.map_append] at hq'
        have nlt : ¬ nI H.1 < nI h := fun z => of_eq_false (k_nlt (a := H.1) (b := h) (by omega) (by omega)) z
        rw [w_X12_ways_83]
        have body : (h = H.1 ∨ mayA E H h (o k) = true) → ∀ τ1, Kp (fun a _ => a = 49 ∨ a = 50) τ' τ1 → w_X12_ways_108 (f_X12_ways (d + 1)) Q (fun z0 z1 z2 z3 z4 z5 z6 => w_X12_ways_83 (f_X12_ways (d + 1)) Q (c + 1) z0 z1 z2 z3 z4 z5 z6) (nI k) (nI n) (nI s) (nI (o k)) (nI H.1) (nI h) τ1 := by
          intro hm τ1 k1
          have hk1 := hk'.m5 k1
          have hH1 := hH'.m5 k1
          unfold w_X12_ways_108 w_X12_ways_152
          refine payM_ok hE hk1 hH1 okA (by omega) hh hp (fun τx τ2 kx k2 => ?_)
          have hk2 := hk1.m5 k2
          have hH2 := hH1.m5 k2
          refine putM_ok hH2 okA (by omega) hN hh hp (fun τ3 k3 hH3 => ?_)
          have k13 : Kp FW τ' τ3 := ((k1.tr k2).mono (fun a k q => by unfold FW; omega)).tr (k3.mono (fun a k q => by unfold FW; omega))
          have hk3 : Kp (SC σ T) σ τ3 := hk'.tr (k13.mono (fun a k q => Or.inl (FW.sc q)))
          have u : ∀ k, k = 35 ∨ k = 36 → mI τ3 37 k = mI τ' 37 k := fun k hk => by
            rw [k3.2.2.2 _ _ (by omega), k2.2.2.2 _ _ (by omega), k1.2.2.2 _ _ (by omega)]
          rw [nI_add, show nI k + 1 = nI (k + 1) from nI_add k 1]
          have pb := payA_le E H h (o k)
          refine ih (k + 1) (puA H h (o k)) (s + payA E H h (o k)) bf bc τ3 _ (by omega) hk3 hH3 (okA.put hh hp) (posH_put hpos hh) (fun j hj => by rw [k13.2.2.2 _ _ (by unfold FW; omega)]; exact h53' j hj) (by omega) hf' hc' (by rw [u 35 (by omega)]; exact h35') (by rw [u 36 (by omega)]; exact h36') (fun τ4 k4 hH4 h35'' h36'' => ?_)
          refine putBack_ok hH4 okA (by omega) hh hpos (fun τ5 k5 hH5 => ?_)
          have k15 : Kp FW τ' τ5 := (k13.tr k4).tr (k5.mono (fun a k q => by unfold FW; omega))
          have hk5 : Kp (SC σ T) σ τ5 := hk'.tr (k15.mono (fun a k q => Or.inl (FW.sc q)))
          rw [show nI h + 1 = nI (h + 1) from nI_add h 1]
          have bdm : ∀ q, q ∈ lvs E o d (k + 1) (puA H h (o k)) (s + payA E H h (o k)) → q.1 ≤ 8 ∧ q.2 ≤ 792 := fun q hq => by
            obtain ⟨g1, g2, g3, g4⟩ := lvs_bd _ _ _ _ hq
            have := puA_1 H h (o k)
            omega
          refine ihc (h + 1) (mnO bf ((lvs E o d (k + 1) (puA H h (o k)) (s + payA E H h (o k))).map (sel 0))) (mnO bc ((lvs E o d (k + 1) (puA H h (o k)) (s + payA E H h (o k))).map (sel 1))) τ5 (by omega) hk5 hH5 (fun j hj => by rw [k15.2.2.2 _ _ (by unfold FW; omega)]; exact h53' j hj) (mnO_bd _ _ hf' (fun x hx => ?_)) (mnO_bd _ _ hc' (fun x hx => ?_)) ?_ ?_ (fun τ6 k6 hH6 g35 g36 => ?_)
          · obtain ⟨q, hq1, rfl⟩ := List.mem_map.mp hx
            exact (bdm q hq1).1
          · obtain ⟨q, hq1, rfl⟩ := List.mem_map.mp hx
            exact (bdm q hq1).2
          · rw [k5.2.2.2 _ _ (by omega)]; exact h35''
          · rw [k5.2.2.2 _ _ (by omega)]; exact h36''
          · refine hq' τ6 (k15.tr k6) hH6 ?_ ?_
            · rw [if_pos hm, mnO_app]; exact g35
            · rw [if_pos hm, mnO_app]; exact g36
        refine ⟨fun z => absurd z nlt, fun _ => ⟨fun z => ?_, fun z => ?_⟩⟩
        · rw [nI_eq (by omega) (by omega)] at z
          exact body (Or.inl z) τ' Kp.rf
        · have zne : h ≠ H.1 := fun q => z (by rw [q])
          refine mayM_ok hE hk' hH' okA (by omega) (by omega) hp (fun τ1 k1 => ?_)
          by_cases cm : mayA E H h (o k) = true
          · rw [if_pos cm]
            exact ⟨fun z => absurd z (by decide), fun _ => body (Or.inr cm) τ1 k1⟩
          · rw [if_neg cm]
            refine ⟨fun _ => ?_, fun z => absurd rfl z⟩
            unfold w_X12_ways_152
            rw [show nI h + 1 = nI (h + 1) from nI_add h 1]
            have k1' : Kp FW τ' τ1 := k1.mono (fun a k q => by unfold FW; omega)
            refine ihc (h + 1) bf bc τ1 (by omega) (hk'.m5 k1) (hH'.m5 k1) (fun j hj => by rw [k1.2.2.2 _ _ (by omega)]; exact h53' j hj) hf' hc' (by rw [k1.2.2.2 _ _ (by omega)]; exact h35') (by rw [k1.2.2.2 _ _ (by omega)]; exact h36') (fun τ6 k6 hH6 g35 g36 => ?_)
            refine hq' τ6 (k1'.tr k6) hH6 ?_ ?_
            · rw [if_neg (by rintro (q | q); exact zne q; exact cm q), mnO_app]; exact g35
            · rw [if_neg (by rintro (q | q); exact zne q; exact cm q), mnO_app]; exact g36
    exact ⟨H.1 + 1 + 1, lp (H.1 + 1) 0 af ac τ (by omega) hk hH h53 hf hc h35 h36 hq⟩
/-- the least of a sort over all ways -/
theorem way_mn (E : EN) (o : Nat → Nat) (n w : Nat) (hn : n ≤ 8) (hw : w ≤ 1) : ∃ m : Nat, m ≤ 792 ∧ (w = 0 → m ≤ 8) ∧ mnO none ((lvs E o n 0 (0, fun _ => 0, fun _ _ => 0) 0).map (sel w)) = some m ∧ ∀ b, mnL b ((lvs E o n 0 (0, fun _ => 0, fun _ _ => 0) 0).map (sel w)) = min b m := by
  obtain ⟨q, hq⟩ := lvs_ex (E := E) (o := o) n 0 (0, fun _ => 0, fun _ _ => 0) 0
  have hne : (lvs E o n 0 (0, fun _ => 0, fun _ _ => 0) 0).map (sel w) ≠ [] := fun z => by
    have := List.map_eq_nil_iff.mp z
    rw [this] at hq
    cases hq
  obtain ⟨m, h1, h2, h3⟩ := mn_both hne
  have hb : ∀ q, q ∈ lvs E o n 0 (0, fun _ => 0, fun _ _ => 0) 0 → q.1 ≤ 8 ∧ q.2 ≤ 792 := fun q hq => by
    obtain ⟨g1, g2, g3, g4⟩ := lvs_bd _ _ _ _ hq
    have g3' : q.1 ≤ 0 + n := g3
    omega
  refine ⟨m, h3 792 (fun v hv => ?_), fun hw0 => h3 8 (fun v hv => ?_), h1, h2⟩
  · obtain ⟨q, hq1, rfl⟩ := List.mem_map.mp hv
    have := hb q hq1
    unfold sel; split <;> omega
  · obtain ⟨q, hq1, rfl⟩ := List.mem_map.mp hv
    have := hb q hq1
    subst hw0
    exact this.1
theorem leastOf_ok {τ : Mem} {Q : Int32 → Mem → Prop} (hE : Env σ T N E.1 E.2.1 E.2.2.1 E.2.2.2) (hn : n ≤ 8) (ho : ∀ j, j < n → o j < N) {w b : Nat} (hw : w ≤ 1) (hb : b ≤ 793) (hk : Kp (SC σ T) σ τ) (h20 : ∀ j, j < n → mI τ 20 j = nI (o j)) (hq : ∀ τ', Kp (FS σ T) τ τ' → Q (nI (mnL b ((lvs E o n 0 (0, fun _ => 0, fun _ _ => 0) 0).map (sel w)))) τ') : w_X11_leastOf τ (nI w) (nI n) (nI b) Q := by
  unfold w_X11_leastOf w_X1_clear_15
  have k0 : Kp (FS σ T) τ (sI (sI τ 15 2 0) 0 13 (nI b)) := Kp.sI (Kp.sI Kp.rf _ (Or.inr (Or.inl ⟨rfl, rfl⟩))) _ (Or.inr (Or.inr (Or.inr ⟨rfl, rfl⟩)))
  refine ⟨n + 1, by omega, ?_⟩
  have := skC (σ := σ) (T := T) (N := N) (E := E) (n := n) (o := o) hE hn ho hw n 0 (0, fun _ => 0, fun _ _ => 0) 0 b (sI (sI τ 15 2 0) 0 13 (nI b)) (fun s106 => Q (mI s106 0 13) s106) (by omega) (hk.tr (k0.mono (fun a k q => Or.inl q.sc))) ⟨by rw [mI_sI_n _ _ (by omega), mI_sI_s]; rfl, fun h hh => absurd hh (Nat.not_lt_zero _), fun h k hh => absurd hh (Nat.not_lt_zero _)⟩ ⟨Nat.le_refl _, fun h hh => absurd hh (Nat.not_lt_zero _), fun h k hh => absurd hh (Nat.not_lt_zero _)⟩ (fun i hi => absurd hi (Nat.not_lt_zero _)) (fun j hj => by rw [mI_sI_n _ _ (by omega), mI_sI_n _ _ (by omega)]; exact h20 j hj) hb (by omega) (by rw [mI_sI_s]) (fun τ' k1 _ h13 => by rw [h13]; exact hq τ' (k0.tr k1))
  have e : sel w ((0 : Nat), 0) = 0 := by unfold sel; split <;> rfl
  rw [e] at this
  exact this
theorem goT_ok {τ : Mem} {Q : Mem → Prop} (hE : Env σ T N E.1 E.2.1 E.2.2.1 E.2.2.2) (hn : n ≤ 8) (ho : ∀ j, j < n → o j < N) (hk : Kp (SC σ T) σ τ) (h53 : ∀ j, j < n → mI τ 53 j = nI (o j)) (hq : ∀ τ', Kp FW τ τ' → mI τ' 37 35 = oI (mnO none ((lvs E o n 0 (0, fun _ => 0, fun _ _ => 0) 0).map (sel 0))) → mI τ' 37 36 = oI (mnO none ((lvs E o n 0 (0, fun _ => 0, fun _ _ => 0) 0).map (sel 1))) → Q τ') : w_X12_goThrough τ (nI n) Q := by
  unfold w_X12_goThrough
  have k0 : Kp FW τ (sI (sI (sI τ 37 28 0) 37 35 (-1)) 37 36 (-1)) := Kp.sI (Kp.sI (Kp.sI Kp.rf _ (by unfold FW; omega)) _ (by unfold FW; omega)) _ (by unfold FW; omega)
  refine ⟨n + 1, by omega, ?_⟩
  exact wyM (σ := σ) (T := T) (N := N) (E := E) (n := n) (o := o) hE hn ho n 0 (0, fun _ => 0, fun _ _ => 0) 0 none none _ _ (by omega) (hk.tr (k0.mono (fun a k q => Or.inl (FW.sc q)))) ⟨by rw [mI_sI_k _ _ (by omega), mI_sI_k _ _ (by omega), mI_sI_s]; rfl, fun h hh => absurd hh (Nat.not_lt_zero _), fun h k hh => absurd hh (Nat.not_lt_zero _)⟩ ⟨Nat.le_refl _, fun h hh => absurd hh (Nat.not_lt_zero _), fun h k hh => absurd hh (Nat.not_lt_zero _)⟩ (fun i hi => absurd hi (Nat.not_lt_zero _)) (fun j hj => by rw [mI_sI_n _ _ (by omega), mI_sI_n _ _ (by omega), mI_sI_n _ _ (by omega)]; exact h53 j hj) (by omega) (fun v hv => by cases hv) (fun v hv => by cases hv) (by rw [mI_sI_k _ _ (by omega), mI_sI_s]; rfl) (by rw [mI_sI_s]; rfl) (fun τ' k1 _ g1 g2 => hq τ' (k0.tr k1) g1 g2)
end WaysM
set_option maxHeartbeats 1000000 in
theorem p_fewest (σ : Mem) (x0 : Int32) (h : Rel σ) : w_X11_fewest σ x0 (fun r1 s1 => w_X12_fewest s1 x0 (fun r2 s2 => r1 = r2 ∧ Rel s2)) := by
  obtain ⟨N, L, T, hx⟩ := h.x
  obtain ⟨E, hE, -, -⟩ := env_ex hx
  have hN := hE.1
  have h53 : ∀ j, j < 8 → mI σ 53 j = nI j := hx.2.2.2.2.2.2.2.2.2.2.1
  unfold w_X11_fewest w_X12_fewest
  refine in01 (P := True) (fun c => ?_) (fun c => (in_f c).mpr ⟨fun z => absurd rfl z, fun _ => ⟨rfl, h⟩⟩)
  obtain ⟨w, hw, rfl⟩ := nI_of2 (M := 1) (n := 1) (by decide) (Int32.not_lt.mpr c.1) c.2
  refine order_ok hN (hE.2.2.2.2.2.1 σ Kp.rf).1 (fun τ0 k0 h20 => ?_)
  have hk0 : Kp (SC0 σ T) σ τ0 := k0.mono (fun a k q => by unfold SC0; omega)
  rw [(hE.2.2.2.2.2.1 τ0 hk0.s0).1]
  refine leastOf_ok (o := fun j => j) (b := 793) hE hN (fun j hj => hj) hw (Nat.le_refl _) hk0.s0 h20 (fun τ1 k1 => ?_)
  have hk1 : Kp (SC0 σ T) σ τ1 := hk0.tr (k1.mono (fun a k q => q.sc))
  have u53 : ∀ j, j < 8 → mI τ1 53 j = nI j := fun j hj => by rw [FS.un hE k1 (a := 53) (by omega), k0.2.2.2 _ _ (by omega)]; exact h53 j hj
  refine (in_t c).mpr ⟨fun _ => ?_, fun z => absurd z (by decide)⟩
  rw [(hE.2.2.2.2.2.1 τ1 hk1.s0).2.1]
  refine goT_ok (o := fun j => j) hE hN (fun j hj => hj) hk1.s0 (fun j hj => u53 j (by omega)) (fun τ2 k2 g35 g36 => ?_)
  have hR : Rel τ2 := (hx.sc (hk1.tr (k2.mono (fun a k q => FW.sc q))) (fun j hj => by
    rw [k2.2.2.2 _ _ (by unfold FW; omega)]; exact u53 j hj)).rel
  obtain ⟨m, hm, -, e1, e2⟩ := way_mn E (fun j => j) N w hN hw
  rw [e2, Nat.min_eq_right (by omega)]
  have hc : w = 0 ∨ w = 1 := by omega
  rcases hc with rfl | rfl
  · refine ⟨fun z => absurd rfl z, fun _ => ⟨?_, hR⟩⟩
    rw [g35, e1]; rfl
  · refine ⟨fun _ => ⟨?_, hR⟩, fun z => absurd z (by decide)⟩
    rw [g36, e1]; rfl
