/-! STAGE 2: all ways to lay them -/
def lvI (f : Nat → List (Nat × Nat)) : Nat → Nat → List (Nat × Nat)
  | 0, _ => []
  | c + 1, h => f h ++ lvI f c (h + 1)
def lvs (E : EN) (o : Nat → Nat) : Nat → Nat → HP → Nat → List (Nat × Nat)
  | 0, _, H, s => [(H.1, s)]
  | d + 1, k, H, s => lvI (fun h => if h = H.1 ∨ mayA E H h (o k) = true then lvs E o d (k + 1) (puA H h (o k)) (s + payA E H h (o k)) else []) (H.1 + 1) 0
def sel (w : Nat) (q : Nat × Nat) : Nat := if w = 0 then q.1 else q.2
def mnL (a : Nat) (l : List Nat) : Nat := l.foldl min a
def mmn (a : Option Nat) (v : Nat) : Option Nat := match a with
  | none => some v
  | some w => some (min w v)
def mnO (a : Option Nat) (l : List Nat) : Option Nat := l.foldl mmn a
def oI (a : Option Nat) : Int32 := match a with
  | none => -1
  | some v => nI v
theorem mnL_app (a : Nat) (l l' : List Nat) : mnL a (l ++ l') = mnL (mnL a l) l' := List.foldl_append
theorem mnO_app (a : Option Nat) (l l' : List Nat) : mnO a (l ++ l') = mnO (mnO a l) l' := List.foldl_append
theorem mnL_le : ∀ (l : List Nat) (a : Nat), mnL a l ≤ a
  | [], a => Nat.le_refl a
  | v :: l, a => Nat.le_trans (mnL_le l (min a v)) (Nat.min_le_left a v)
theorem mnL_ge : ∀ (l : List Nat) (b : Nat), (∀ v, v ∈ l → b ≤ v) → mnL b l = b
  | [], b, _ => rfl
  | v :: l, b, h => by
    show mnL (min b v) l = b
    rw [Nat.min_eq_left (h v List.mem_cons_self)]
    exact mnL_ge l b (fun x hx => h x (List.mem_cons_of_mem _ hx))
theorem mnL_min : ∀ (l : List Nat) (b v : Nat), mnL (min b v) l = min b (mnL v l)
  | [], b, v => rfl
  | w :: l, b, v => by
    show mnL (min (min b v) w) l = min b (mnL (min v w) l)
    rw [Nat.min_assoc]
    exact mnL_min l b (min v w)
theorem mnO_some : ∀ (l : List Nat) (v : Nat), mnO (some v) l = some (mnL v l)
  | [], v => rfl
  | w :: l, v => mnO_some l (min v w)
theorem mn_both {l : List Nat} (h : l ≠ []) : ∃ m, mnO none l = some m ∧ (∀ b, mnL b l = min b m) ∧ ∀ B, (∀ v, v ∈ l → v ≤ B) → m ≤ B := by
  cases l with
  | nil => exact absurd rfl h
  | cons v t => exact ⟨mnL v t, mnO_some t v, fun b => mnL_min t b v, fun B hB => Nat.le_trans (mnL_le t v) (hB v List.mem_cons_self)⟩
theorem mnO_bd {B : Nat} : ∀ (l : List Nat) (a : Option Nat), (∀ v, a = some v → v ≤ B) → (∀ x, x ∈ l → x ≤ B) → ∀ v, mnO a l = some v → v ≤ B
  | [], a, h, _ => h
  | w :: l, a, h, hl => by
    refine mnO_bd (B := B) l (mmn a w) (fun v hv => ?_) (fun x hx => hl x (List.mem_cons_of_mem _ hx))
    cases a with
    | none => cases hv; exact hl _ List.mem_cons_self
    | some u =>
      cases hv
      exact Nat.le_trans (Nat.min_le_left u w) (h u rfl)
theorem lvI_mem {f : Nat → List (Nat × Nat)} : ∀ (c h : Nat) {q : Nat × Nat}, q ∈ lvI f c h → ∃ i, h ≤ i ∧ i < h + c ∧ q ∈ f i
  | 0, _, _, hq => (by cases hq)
  | c + 1, h, q, hq => by
    rcases List.mem_append.mp hq with hq | hq
    · exact ⟨h, Nat.le_refl _, by omega, hq⟩
    · obtain ⟨i, h1, h2, h3⟩ := lvI_mem c (h + 1) hq
      exact ⟨i, by omega, by omega, h3⟩
theorem lvI_in {f : Nat → List (Nat × Nat)} : ∀ (c h i : Nat) {q : Nat × Nat}, h ≤ i → i < h + c → q ∈ f i → q ∈ lvI f c h
  | 0, _, _, _, h1, h2, _ => (by omega)
  | c + 1, h, i, q, h1, h2, hq => by
    by_cases e : i = h
    · subst e; exact List.mem_append_left _ hq
    · exact List.mem_append_right _ (lvI_in c (h + 1) i (by omega) (by omega) hq)
theorem puA_1 (H : HP) (h p : Nat) : H.1 ≤ (puA H h p).1 ∧ (puA H h p).1 ≤ H.1 + 1 := by
  show H.1 ≤ (if h = H.1 then H.1 + 1 else H.1) ∧ (if h = H.1 then H.1 + 1 else H.1) ≤ H.1 + 1
  split <;> omega
theorem payA_le (E : EN) (H : HP) (h p : Nat) : payA E H h p ≤ 99 := bdA_le _
theorem lvs_bd {E : EN} {o : Nat → Nat} : ∀ (d k : Nat) (H : HP) (s : Nat) {q : Nat × Nat}, q ∈ lvs E o d k H s → H.1 ≤ q.1 ∧ s ≤ q.2 ∧ q.1 ≤ H.1 + d ∧ q.2 ≤ s + 99 * d
  | 0, k, H, s, q, hq => by
    rw [lvs] at hq
    rw [List.mem_singleton.mp hq]
    exact ⟨Nat.le_refl _, Nat.le_refl _, Nat.le_refl _, Nat.le_refl _⟩
  | d + 1, k, H, s, q, hq => by
    rw [lvs] at hq
    obtain ⟨i, h1, h2, h3⟩ := lvI_mem _ _ hq
    by_cases c : i = H.1 ∨ mayA E H i (o k) = true
    · rw [if_pos c] at h3
      obtain ⟨g1, g2, g3, g4⟩ := lvs_bd d (k + 1) _ _ h3
      have := puA_1 H i (o k)
      have := payA_le E H i (o k)
      omega
    · rw [if_neg c] at h3; cases h3
theorem lvs_ex {E : EN} {o : Nat → Nat} : ∀ (d k : Nat) (H : HP) (s : Nat), ∃ q, q ∈ lvs E o d k H s
  | 0, k, H, s => ⟨_, by rw [lvs]; exact List.mem_singleton.mpr rfl⟩
  | d + 1, k, H, s => by
    obtain ⟨q, hq⟩ := lvs_ex (E := E) (o := o) d (k + 1) (puA H H.1 (o k)) (s + payA E H H.1 (o k))
    refine ⟨q, ?_⟩
    rw [lvs]
    exact lvI_in _ _ H.1 (by omega) (by omega) (by rw [if_pos (Or.inl rfl)]; exact hq)
def dl (E : EN) (w : Nat) (H : HP) (h p : Nat) : Nat := if w = 0 then (if h = H.1 then 1 else 0) else payA E H h p
theorem sel_dl {E : EN} {w : Nat} {H : HP} {h p s : Nat} : sel w (H.1, s) + dl E w H h p = sel w ((puA H h p).1, s + payA E H h p) := by
  unfold sel dl
  by_cases c : w = 0
  · rw [if_pos c, if_pos c, if_pos c]
    show H.1 + _ = (if h = H.1 then H.1 + 1 else H.1)
    split <;> omega
  · rw [if_neg c, if_neg c, if_neg c]
def FS (σ : Mem) (T a k : Nat) : Prop := txs σ T a ∨ (a = 15 ∧ k = 2) ∨ (16 ≤ a ∧ a ≤ 19) ∨ (a = 0 ∧ k = 13)
theorem FS.sc {σ : Mem} {T a k : Nat} (h : FS σ T a k) : SC0 σ T a k := by
  unfold SC0
  rcases h with h | h | h | h
  · exact Or.inr (Or.inr (Or.inr (Or.inr (Or.inr (Or.inr h)))))
  · exact Or.inr (Or.inl h)
  · exact Or.inr (Or.inr (Or.inl (by omega)))
  · exact Or.inl (by omega)
section WaysA
variable {σ : Mem} {T N : Nat} {E : EN} {n : Nat} {o : Nat → Nat}
theorem FS.un (hE : Env σ T N E.1 E.2.1 E.2.2.1 E.2.2.2) {τ τ' : Mem} (k : Kp (FS σ T) τ τ') {a : Nat} (ha : a = 20 ∨ (37 ≤ a ∧ a < 68)) (i : Nat) : mI τ' a i = mI τ a i := by
  refine k.2.2.2 a i (fun q => ?_)
  rcases q with q | q | q | q
  · have := hE.2.2.2.2.1 a q; omega
  · omega
  · omega
  · omega
theorem priceW_ok {τ : Mem} {H : HP} {h p w k : Nat} {Q : Int32 → Mem → Prop} (hE : Env σ T N E.1 E.2.1 E.2.2.1 E.2.2.2) (hk : Kp (SC σ T) σ τ) (hH : hoA 15 2 17 16 τ H) (ho : okH N k H) (hk8 : k ≤ 8) (hh : h ≤ H.1) (hp : p < N) (hw : w ≤ 1) (hq : ∀ τ', Kp (fun a _ => txs σ T a) τ τ' → Q (nI (dl E w H h p)) τ') : w_X11_priceOf τ (nI w) (nI h) (nI p) Q := by
  have h1 := ho.1
  have hc : w = 0 ∨ w = 1 := by omega
  rcases hc with rfl | rfl
  · unfold w_X11_priceOf
    have := hq τ Kp.rf
    unfold dl at this
    rw [if_pos rfl] at this
    rw [hH.1]
    refine ⟨fun _ => ⟨fun c => ?_, fun c => ?_⟩, fun c => absurd c (by decide)⟩
    · rw [if_neg (fun z => c (by rw [z]))] at this
      exact this
    · rw [nI_eq (by omega) (by omega)] at c
      rw [if_pos c] at this
      exact this
  · exact price_ok hE hk hH ho hk8 hh hp hq
set_option maxHeartbeats 2000000 in
theorem skC (hE : Env σ T N E.1 E.2.1 E.2.2.1 E.2.2.2) (hn : n ≤ 8) (ho : ∀ j, j < n → o j < N) {w : Nat} (hw : w ≤ 1) : ∀ (d k : Nat) (H : HP) (s b : Nat) (τ : Mem) (Q : Mem → Prop), k + d = n → Kp (SC σ T) σ τ → hoA 15 2 17 16 τ H → okH N k H → (∀ i, i < H.1 → 0 < H.2.1 i) → (∀ j, j < n → mI τ 20 j = nI (o j)) → b ≤ 793 → s ≤ 99 * k → mI τ 0 13 = nI b → (∀ τ', Kp (FS σ T) τ τ' → hoA 15 2 17 16 τ' H → mI τ' 0 13 = nI (mnL b ((lvs E o d k H s).map (sel w))) → Q τ') → f_X11_seekLess (d + 1) τ (nI w) (nI k) (nI n) (nI (sel w (H.1, s))) Q := by
  have hN := hE.1
  intro d
  induction d with
  | zero =>
    intro k H s b τ Q hd hk hH okA hpos h20 hb hs h13 hq
    have h1 := okA.1
    have e : k = n := by omega
    subst e
    have hsb : sel w (H.1, s) ≤ 792 := by unfold sel; split <;> dsimp only <;> omega
    rw [f_X11_seekLess]
    unfold w_X11_seekLess
    rw [h13]
    rw [lvs] at hq
    have hq' : ∀ τ', Kp (FS σ T) τ τ' → hoA 15 2 17 16 τ' H → mI τ' 0 13 = nI (min b (sel w (H.1, s))) → Q τ' := hq
    by_cases c : sel w (H.1, s) < b
    · have lt : nI (sel w (H.1, s)) < nI b := nI_lt c (by omega)
      refine ⟨fun _ => ⟨fun _ => hq' _ (Kp.sI Kp.rf _ (Or.inr (Or.inr (Or.inr ⟨rfl, rfl⟩)))) (hH.fr (F := fun a _ => a = 0) (by repeat (first | exact Kp.rf | refine Kp.sI ?_ _ (by first | exact rfl | omega | (dsimp only; omega)))) (by omega) (fun i => by omega) (fun i => by omega)) (by rw [mI_sI_s, Nat.min_eq_right (by omega)]), fun z => absurd (Int32.le_refl _) z⟩, fun z => absurd lt z⟩
    · have nlt : ¬ nI (sel w (H.1, s)) < nI b := fun z => of_eq_false (k_nlt (a := sel w (H.1, s)) (b := b) (by omega) (by omega)) z
      exact ⟨fun z => absurd z nlt, fun _ => hq' τ Kp.rf hH (by rw [h13, Nat.min_eq_left (by omega)])⟩
  | succ d ih =>
    intro k H s b τ Q hd hk hH okA hpos h20 hb hs h13 hq
    have h1 := okA.1
    have hkn : k < n := by omega
    have hp := ho k hkn
    have hsb : sel w (H.1, s) ≤ 792 := by unfold sel; split <;> dsimp only <;> omega
    have nle : ¬ nI n ≤ nI k := fun z => of_eq_false (k_nle (a := n) (b := k) (by omega) (by omega)) z
    have lt8 : nI k < 8 := nI_lt (b := 8) (by omega) (by omega)
    rw [f_X11_seekLess]
    unfold w_X11_seekLess
    rw [h13]
    by_cases c : sel w (H.1, s) < b
    · have lt : nI (sel w (H.1, s)) < nI b := nI_lt c (by omega)
      refine ⟨fun _ => ⟨fun z => absurd z nle, fun _ => ⟨fun _ => ⟨vp_in_nI (by omega) (by omega), fun v hv => ?_⟩, fun z => absurd lt8 z⟩⟩, fun z => absurd lt z⟩
      rw [k_cl (by omega), h20 k hkn] at hv
      subst hv
      rw [hH.1]
      rw [lvs] at hq
      have lp : ∀ (c h b' : Nat) (τ' : Mem), h + c = H.1 + 1 → Kp (SC σ T) σ τ' → hoA 15 2 17 16 τ' H → (∀ j, j < n → mI τ' 20 j = nI (o j)) → b' ≤ 793 → mI τ' 0 13 = nI b' → (∀ τ'', Kp (FS σ T) τ' τ'' → hoA 15 2 17 16 τ'' H → mI τ'' 0 13 = nI (mnL b' ((lvI (fun h => if h = H.1 ∨ mayA E H h (o k) = true then lvs E o d (k + 1) (puA H h (o k)) (s + payA E H h (o k)) else []) c h).map (sel w))) → Q τ'') → w_X11_seekLess_48 (f_X11_seekLess (d + 1)) Q (c + 1) (nI w) (nI k) (nI n) (nI (sel w (H.1, s))) (nI (o k)) (nI H.1) (nI h) τ' := by
        intro c
        induction c with
        | zero =>
          intro h b' τ' hc hk' hH' h20' hb' h13' hq'
          have e : h = H.1 + 1 := by omega
          subst e
          rw [w_X11_seekLess_48]
          exact ⟨fun _ => hq' τ' Kp.rf hH' h13', fun z => absurd (nI_lt (by omega) (by omega)) z⟩
        | succ c ihc =>
          intro h b' τ' hc hk' hH' h20' hb' h13' hq'
          have hh : h ≤ H.1 := by omega
          rw [lvI, List.map_append, ] at hq'
          have nlt : ¬ nI H.1 < nI h := fun z => of_eq_false (k_nlt (a := H.1) (b := h) (by omega) (by omega)) z
          rw [w_X11_seekLess_48]
          have body : (h = H.1 ∨ mayA E H h (o k) = true) → ∀ τ1, Kp (fun a _ => txs σ T a) τ' τ1 → w_X11_seekLess_77 (f_X11_seekLess (d + 1)) Q (fun z0 z1 z2 z3 z4 z5 z6 z7 => w_X11_seekLess_48 (f_X11_seekLess (d + 1)) Q (c + 1) z0 z1 z2 z3 z4 z5 z6 z7) (nI w) (nI k) (nI n) (nI (sel w (H.1, s))) (nI (o k)) (nI H.1) (nI h) τ1 := by
            intro hm τ1 k1
            have hk1 := hk'.cwsc k1
            have hH1 := hH'.cw hE k1 (by decide) (by decide) (by decide)
            unfold w_X11_seekLess_77 w_X11_seekLess_122
            refine priceW_ok hE hk1 hH1 okA (by omega) hh hp hw (fun τ2 k2 => ?_)
            have hk2 := hk1.cwsc k2
            have hH2 := hH1.cw hE k2 (by decide) (by decide) (by decide)
            refine put_ok_15 hH2 okA (by omega) hN hh hp (fun τ3 k3 hH3 _ _ _ => ?_)
            have k13 : Kp (FS σ T) τ' τ3 := ((k1.tr k2).mono (fun a k q => Or.inl q)).tr (k3.mono (fun a k q => Or.inr (by omega)))
            have hk3 : Kp (SC σ T) σ τ3 := hk'.tr (k13.mono (fun a k q => Or.inl q.sc))
            have e13 : mI τ3 0 13 = nI b' := by
              rw [k3.2.2.2 _ _ (by omega), hE.cw k2 (a := 0) (by omega), hE.cw k1 (a := 0) (by omega)]
              exact h13'
            rw [nI_add, sel_dl, show nI k + 1 = nI (k + 1) from nI_add k 1]
            have pb := payA_le E H h (o k)
            refine ih (k + 1) (puA H h (o k)) (s + payA E H h (o k)) b' τ3 _ (by omega) hk3 hH3 (okA.put hh hp) (posH_put hpos hh) (fun j hj => by rw [FS.un hE k13 (a := 20) (by omega)]; exact h20' j hj) hb' (by omega) e13 (fun τ4 k4 hH4 h13'' => ?_)
            refine undo_ok hH4 okA (by omega) hN hh hp hpos (fun τ5 k5 hH5 => ?_)
            have k15 : Kp (FS σ T) τ' τ5 := (k13.tr k4).tr (k5.mono (fun a k q => Or.inr (by omega)))
            have hk5 : Kp (SC σ T) σ τ5 := hk'.tr (k15.mono (fun a k q => Or.inl q.sc))
            rw [show nI h + 1 = nI (h + 1) from nI_add h 1]
            refine ihc (h + 1) (mnL b' ((lvs E o d (k + 1) (puA H h (o k)) (s + payA E H h (o k))).map (sel w))) τ5 (by omega) hk5 hH5 (fun j hj => by rw [FS.un hE k15 (a := 20) (by omega)]; exact h20' j hj) (Nat.le_trans (mnL_le _ _) hb') ?_ (fun τ6 k6 hH6 h13''' => ?_)
            · rw [k5.2.2.2 _ _ (by omega)]; exact h13''
            · refine hq' τ6 (k15.tr k6) hH6 ?_
              rw [if_pos hm, mnL_app]
              exact h13'''
          refine ⟨fun z => absurd z nlt, fun _ => ⟨fun z => ?_, fun z => ?_⟩⟩
          · rw [nI_eq (by omega) (by omega)] at z
            exact body (Or.inl z) τ' Kp.rf
          · have zne : h ≠ H.1 := fun q => z (by rw [q])
            refine may_ok_15 hE hk' hH' okA (by omega) (by omega) hp (fun τ1 k1 => ?_)
            by_cases cm : mayA E H h (o k) = true
            · rw [if_pos cm]
              exact ⟨fun z => absurd z (by decide), fun _ => body (Or.inr cm) τ1 k1⟩
            · rw [if_neg cm]
              refine ⟨fun _ => ?_, fun z => absurd rfl z⟩
              unfold w_X11_seekLess_122
              rw [show nI h + 1 = nI (h + 1) from nI_add h 1]
              refine ihc (h + 1) b' τ1 (by omega) (hk'.cwsc k1) (hH'.cw hE k1 (by decide) (by decide) (by decide)) (fun j hj => by rw [hE.cw k1 (a := 20) (by omega)]; exact h20' j hj) hb' (by rw [hE.cw k1 (a := 0) (by omega)]; exact h13') (fun τ6 k6 hH6 h13''' => ?_)
              refine hq' τ6 ((k1.mono (fun a k q => Or.inl q)).tr k6) hH6 ?_
              rw [if_neg (by rintro (q | q); exact zne q; exact cm q), mnL_app]
              exact h13'''
      exact ⟨H.1 + 1 + 1, lp (H.1 + 1) 0 b τ (by omega) hk hH h20 hb h13 hq⟩
    · have nlt : ¬ nI (sel w (H.1, s)) < nI b := fun z => of_eq_false (k_nlt (a := sel w (H.1, s)) (b := b) (by omega) (by omega)) z
      refine ⟨fun z => absurd z nlt, fun _ => hq τ Kp.rf hH ?_⟩
      rw [h13, mnL_ge _ _ (fun v hv => ?_)]
      obtain ⟨q, hq1, hq2⟩ := List.mem_map.mp hv
      obtain ⟨g1, g2, -, -⟩ := lvs_bd _ _ _ _ hq1
      subst hq2
      have : sel w (H.1, s) ≤ sel w q := by unfold sel; split <;> omega
      omega
end WaysA
