/-! STAGE 2: the cover is filled -/
theorem and_nI (a b : Nat) : nI a &&& nI b = nI (a &&& b) := by
  apply Int32.toBitVec_inj.1
  show BitVec.ofNat 32 a &&& BitVec.ofNat 32 b = BitVec.ofNat 32 (a &&& b)
  apply BitVec.eq_of_getLsbD_eq
  intro i hi
  simp [hi]
theorem tb8 : ∀ p, p < 256 → ∀ t, t < 8 → ((nI p &&& nI (2 ^ t)) = 0 ↔ ¬ p.testBit t = true) := by decide +kernel
theorem sub8 : ∀ m, m < 256 → ∀ p, p < 256 → p &&& m = p → nI m &&& (nI p ^^^ (-1)) = nI (m - p) := by decide +kernel
theorem sub8b : ∀ m, m < 256 → ∀ p, p < 256 → p &&& m = p → p ≤ m ∧ ∀ q, q < 8 → (m - p).testBit q = (m.testBit q && !p.testBit q) := by decide +kernel
theorem sub_next : ∀ (m p s : Nat), p &&& m = p → s &&& m = s → s < p → s ≤ (p - 1) &&& m := by
  intro m
  induction m using Nat.strongRecOn with
  | _ m ih =>
    intro p s hp hs hlt
    have hp2 : (p / 2) &&& (m / 2) = p / 2 := by rw [← Nat.and_div_two, hp]
    have hs2 : (s / 2) &&& (m / 2) = s / 2 := by rw [← Nat.and_div_two, hs]
    have hpm : p % 2 = 1 → m % 2 = 1 := fun z => by
      rw [← hp] at z
      exact (Nat.and_mod_two_eq_one.mp z).2
    have hsm : s % 2 = 1 → m % 2 = 1 := fun z => by
      rw [← hs] at z
      exact (Nat.and_mod_two_eq_one.mp z).2
    have d1 : ((p - 1) &&& m) / 2 = (p - 1) / 2 &&& m / 2 := Nat.and_div_two
    by_cases c : p % 2 = 1
    · have e : (p - 1) / 2 = p / 2 := by omega
      rw [e, hp2] at d1
      omega
    · have hm0 : m ≠ 0 := by
        intro z
        subst z
        rw [Nat.and_zero] at hp
        omega
      have hi := ih (m / 2) (by omega) (p / 2) (s / 2) hp2 hs2 (by omega)
      have e : (p - 1) / 2 = p / 2 - 1 := by omega
      rw [e] at d1
      have e2 : ((p - 1) &&& m) % 2 = 1 ↔ m % 2 = 1 := by
        rw [Nat.and_mod_two_eq_one]
        constructor
        · exact fun z => z.2
        · exact fun z => ⟨by omega, z⟩
      omega
def rtP (E : EN) (N : Nat) (cv : Nat → Nat) (m t b : Nat) : Prop := 2 ≤ b ∧ b ≤ 8 ∧ (b = 8 ∨ ∃ s, s &&& m = s ∧ 0 < s ∧ s < m ∧ cmR (rowR E) s N 0 none = true ∧ b = 1 + cv (m - s)) ∧ ∀ s, s &&& m = s → 0 < s → s < m → s.testBit t = true → cmR (rowR E) s N 0 none = true → b ≤ 1 + cv (m - s)
set_option maxHeartbeats 1000000 in
theorem rtm_go {Q : Int32 → Mem → Prop} {τ : Mem} {E : EN} {N m t : Nat} {cv : Nat → Nat} (hm : m < 256) (ht : t < 8) (h24 : ∀ i, i < m → mI τ 24 i = nI (cv i)) (hsp : ∀ i, i < m → spC E N cv i) (hq : ∀ b, rtP E N cv m t b → Q (nI b) τ) : ∀ (fu p b : Nat), p < fu → p &&& m = p → p < m → 2 ≤ b → b ≤ 8 → (b = 8 ∨ ∃ s, s &&& m = s ∧ 0 < s ∧ s < m ∧ cmR (rowR E) s N 0 none = true ∧ b = 1 + cv (m - s)) → (∀ s, s &&& m = s → p < s → s < m → s.testBit t = true → cmR (rowR E) s N 0 none = true → b ≤ 1 + cv (m - s)) → w_X11_rowsThatMake_15 Q fu (nI m) (nI (2 ^ t)) (nI b) (nI p) τ := by
  intro fu
  induction fu with
  | zero => intro p b hp; omega
  | succ fu ih =>
    intro p b hpf hpm hplt hb2 hb8 hw hv
    rw [w_X11_rowsThatMake_15]
    unfold w_X11_rowsThatMake_56
    rcases Nat.eq_zero_or_pos p with e | hp
    · subst e
      refine ⟨fun _ => hq b ⟨hb2, hb8, hw, fun s h1 h2 h3 h4 h5 => hv s h1 h2 h3 h4 h5⟩, fun z => absurd (Int32.le_refl _) z⟩
    · have nle : ¬ nI p ≤ 0 := fun z => of_eq_false (k_nle (a := p) (b := 0) hp (by omega)) z
      have hnx : (p - 1) &&& m ≤ p - 1 := Nat.and_le_left
      have hns : ((p - 1) &&& m) &&& m = (p - 1) &&& m := by rw [Nat.and_assoc, Nat.and_self]
      have hge : ∀ s, s &&& m = s → (p - 1) &&& m < s → p ≤ s := fun s h1 h2 => by
        rcases Nat.lt_or_ge s p with q | q
        · have := sub_next m p s hpm h1 q; omega
        · exact q
      have enx : (nI p - 1) &&& nI m = nI ((p - 1) &&& m) := by rw [nI_m1 hp, and_nI]
      rw [enx]
      have skip : (¬ (p.testBit t = true ∧ cmR (rowR E) p N 0 none = true)) → w_X11_rowsThatMake_15 Q fu (nI m) (nI (2 ^ t)) (nI b) (nI ((p - 1) &&& m)) τ := by
        intro hno
        refine ih _ b (by omega) hns (by omega) hb2 hb8 hw (fun s h1 h2 h3 h4 h5 => ?_)
        have := hge s h1 h2
        rcases Nat.lt_or_ge p s with q | q
        · exact hv s h1 q h3 h4 h5
        · have e : s = p := by omega
          subst e
          exact absurd ⟨h4, h5⟩ hno
      have tb := tb8 p (by omega) t ht
      have hsr := hsp p hplt
      have hone := hsr.one hp
      have hle := hsr.ge.1
      refine ⟨fun z => absurd z nle, fun _ => ⟨fun z => skip (fun y => (tb.mp z) y.1), fun z => ⟨vp_in_nI (by omega) (by omega), ?_⟩⟩⟩
      have htb : p.testBit t = true := by
        cases hb : p.testBit t with
        | true => rfl
        | false => exact absurd (tb.mpr (by rw [hb]; decide)) z
      have e1 : nI (cv p) = 1 ↔ cv p = 1 := by
        rw [show (1 : Int32) = nI 1 from rfl, nI_eq (by omega) (by omega)]
      rw [k_cl (by omega), h24 p hplt, e1, hone, sub8 m hm p (by omega) hpm]
      refine ⟨fun y => skip (fun w => y w.2), fun y => ⟨vp_in_nI (by omega) (by omega), fun v hvv => ?_⟩⟩
      have hsr2 := hsp (m - p) (by omega)
      have hg2 := hsr2.ge
      have hg3 := hg2.2 (by omega)
      rw [k_cl (by omega), h24 _ (by omega), show (1 : Int32) = nI 1 from rfl, nI_add] at hvv
      have hv2 : v = nI (min b (1 + cv (m - p))) := by
        rw [hvv]
        by_cases c : 1 + cv (m - p) < b
        · rw [if_pos (nI_lt c (by omega)), Nat.min_eq_right (by omega)]
        · rw [if_neg (fun q => of_eq_false (k_nlt (a := 1 + cv (m - p)) (b := b) (by omega) (by omega)) q), Nat.min_eq_left (by omega)]
      subst hv2
      refine ih _ _ (by omega) hns (by omega) (Nat.le_min.mpr ⟨hb2, by omega⟩) (Nat.le_trans (Nat.min_le_left _ _) hb8) ?_ (fun s h1 h2 h3 h4 h5 => ?_)
      · by_cases c : 1 + cv (m - p) < b
        · rw [Nat.min_eq_right (by omega)]
          exact Or.inr ⟨p, hpm, hp, hplt, y, rfl⟩
        · rw [Nat.min_eq_left (by omega)]
          exact hw
      · have := hge s h1 h2
        rcases Nat.lt_or_ge p s with q | q
        · exact Nat.le_trans (Nat.min_le_left _ _) (hv s h1 q h3 h4 h5)
        · have e : s = p := by omega
          subst e
          exact Nat.min_le_right _ _
theorem spC.ext {E : EN} {N : Nat} {cv cv' : Nat → Nat} {m : Nat} (h : spC E N cv m) (he : ∀ i, i ≤ m → cv' i = cv i) : spC E N cv' m := by
  obtain ⟨h1, h2, h3⟩ := h
  refine ⟨fun z => by rw [he m (Nat.le_refl _)]; exact h1 z, fun z y => by rw [he m (Nat.le_refl _)]; exact h2 z y, fun z y => ?_⟩
  obtain ⟨a1, a2, a3, t, a4, a5, a6⟩ := h3 z y
  rw [he m (Nat.le_refl _)]
  refine ⟨a1, a2, ?_, t, a4, a5, fun s s1 s2 s3 s4 s5 => ?_⟩
  · rcases a3 with a3 | ⟨s, s1, s2, s3, s4, s5⟩
    · exact Or.inl a3
    · exact Or.inr ⟨s, s1, s2, s3, s4, by rw [he (m - s) (by omega)]; exact s5⟩
  · rw [he (m - s) (by omega)]; exact a6 s s1 s2 s3 s4 s5
def FV (σ : Mem) (T a k : Nat) : Prop := txs σ T a ∨ a = 24
theorem FV.sc {σ : Mem} {T a k : Nat} (h : FV σ T a k) : SC0 σ T a k := by
  unfold SC0
  rcases h with h | h
  · exact Or.inr (Or.inr (Or.inr (Or.inr (Or.inr (Or.inr h)))))
  · exact Or.inr (Or.inr (Or.inl (by omega)))
section Cover2
variable {σ : Mem} {T N : Nat} {E : EN}
set_option maxHeartbeats 1000000 in
theorem fcC {Q : Mem → Prop} (hE : Env σ T N E.1 E.2.1 E.2.2.1 E.2.2.2) : ∀ (c m : Nat) (cv : Nat → Nat) (τ : Mem), m + c = 2 ^ N → 0 < m → Kp (SC σ T) σ τ → (∀ i, i < m → mI τ 24 i = nI (cv i)) → (∀ i, i < m → spC E N cv i) → (∀ τ' cv', Kp (FV σ T) τ τ' → (∀ i, i < 2 ^ N → mI τ' 24 i = nI (cv' i)) → (∀ i, i < 2 ^ N → spC E N cv' i) → Q τ') → w_X11_fillCover_9 Q (c + 1) (nI m) τ := by
  have hN := hE.1
  have p8 := pow8 hN
  intro c
  induction c with
  | zero =>
    intro m cv τ hc hm0 hk h24 hsp hq
    have e : m = 2 ^ N := by omega
    subst e
    rw [w_X11_fillCover_9, (hE.2.2.2.2.2.1 τ hk).1, shl8 N hN]
    exact ⟨fun _ => hq τ cv Kp.rf h24 hsp, fun z => absurd (Int32.le_refl _) z⟩
  | succ c ih =>
    intro m cv τ hc hm0 hk h24 hsp hq
    have nle : ¬ nI (2 ^ N) ≤ nI m := fun z => of_eq_false (k_nle (a := 2 ^ N) (b := m) (by omega) (by omega)) z
    rw [w_X11_fillCover_9, (hE.2.2.2.2.2.1 τ hk).1, shl8 N hN]
    refine ⟨fun z => absurd z nle, fun _ => isRowC (cv := cv) hE hk (by omega) hm0 h24 hsp (fun τ1 k1 => ?_)⟩
    have k1' : Kp (FV σ T) τ τ1 := k1.mono (fun a k q => Or.inl q)
    have h24' : ∀ i, i < m → mI τ1 24 i = nI (cv i) := fun i hi => by rw [hE.cw k1 (a := 24) (by omega)]; exact h24 i hi
    have fin : ∀ b, spC E N (fun i => if i = m then b else cv i) m → w_X11_fillCover_41 Q (fun z0 z1 => w_X11_fillCover_9 Q (c + 1) z0 z1) (nI m) (nI b) (nI m) τ1 := by
      intro b hb
      unfold w_X11_fillCover_41
      rw [k_cl (by omega), show nI m + 1 = nI (m + 1) from nI_add m 1]
      have k2 : Kp (FV σ T) τ1 (sI τ1 24 m (nI b)) := Kp.sI Kp.rf _ (Or.inr rfl)
      refine ⟨vp_in_nI (by omega) (by omega), ih (m + 1) (fun i => if i = m then b else cv i) _ (by omega) (by omega) ((hk.tr (k1'.mono (fun a k q => Or.inl q.sc))).tr (k2.mono (fun a k q => Or.inl q.sc))) (fun i hi => ?_) (fun i hi => ?_) (fun τ' cv' k3 g1 g2 => hq τ' cv' ((k1'.tr k2).tr k3) g1 g2)⟩
      · by_cases e : i = m
        · rw [if_pos e, e, mI_sI_s]
        · rw [if_neg e, mI_sI_k _ _ e]; exact h24' i (by omega)
      · by_cases e : i = m
        · rw [e]; exact hb
        · exact (hsp i (by omega)).ext (fun j hj => if_neg (by omega))
    by_cases cr : cmR (rowR E) m N 0 none = true
    · rw [if_pos cr]
      refine ⟨fun z => absurd z (by decide), fun _ => fin 1 ⟨fun z => by omega, fun _ _ => if_pos rfl, fun _ z => absurd cr z⟩⟩
    · rw [if_neg cr]
      refine ⟨fun _ => ?_, fun z => absurd rfl z⟩
      obtain ⟨t, ht, htb, et⟩ := low8 m (by omega) hm0
      unfold w_X11_rowsThatMake
      rw [et, nI_m1 hm0, and_nI]
      have hnx : (m - 1) &&& m ≤ m - 1 := Nat.and_le_left
      refine ⟨256, rtm_go (E := E) (N := N) (cv := cv) (by omega) ht h24' hsp (fun b hb => ?_) 256 _ 8 (by omega) (by rw [Nat.and_assoc, Nat.and_self]) (by omega) (by omega) (by omega) (Or.inl rfl) (fun s h1 h2 h3 h4 h5 => ?_)⟩
      · obtain ⟨b1, b2, b3, b4⟩ := hb
        refine fin b ⟨fun z => by omega, fun _ z => absurd z cr, fun _ _ => ?_⟩
        show 2 ≤ (if m = m then b else cv m) ∧ (if m = m then b else cv m) ≤ 8 ∧ ((if m = m then b else cv m) = 8 ∨ ∃ s, s &&& m = s ∧ 0 < s ∧ s < m ∧ cmR (rowR E) s N 0 none = true ∧ (if m = m then b else cv m) = 1 + (if m - s = m then b else cv (m - s))) ∧ ∃ t, t < 8 ∧ m.testBit t = true ∧ ∀ s, s &&& m = s → 0 < s → s < m → s.testBit t = true → cmR (rowR E) s N 0 none = true → (if m = m then b else cv m) ≤ 1 + (if m - s = m then b else cv (m - s))
        rw [if_pos rfl]
        refine ⟨b1, b2, ?_, t, ht, htb, fun s s1 s2 s3 s4 s5 => ?_⟩
        · rcases b3 with b3 | ⟨s, s1, s2, s3, s4, s5⟩
          · exact Or.inl b3
          · exact Or.inr ⟨s, s1, s2, s3, s4, by rw [if_neg (by omega)]; exact s5⟩
        · rw [if_neg (by omega)]; exact b4 s s1 s2 s3 s4 s5
      · have := sub_next m m s (Nat.and_self m) h1 h3
        omega
theorem fillC {Q : Mem → Prop} {τ : Mem} (hE : Env σ T N E.1 E.2.1 E.2.2.1 E.2.2.2) (hk : Kp (SC σ T) σ τ) (hq : ∀ τ' cv', Kp (FV σ T) τ τ' → (∀ i, i < 2 ^ N → mI τ' 24 i = nI (cv' i)) → (∀ i, i < 2 ^ N → spC E N cv' i) → Q τ') : w_X11_fillCover τ Q := by
  unfold w_X11_fillCover
  have hp := Nat.two_pow_pos N
  have k0 : Kp (FV σ T) τ (sI τ 24 0 0) := Kp.sI Kp.rf _ (Or.inr rfl)
  refine ⟨(2 ^ N - 1) + 1, fcC hE (2 ^ N - 1) 1 (fun _ => 0) _ (by omega) (by omega) (hk.tr (k0.mono (fun a k q => Or.inl q.sc))) (fun i hi => ?_) (fun i hi => ⟨fun _ => rfl, fun z => by omega, fun z => by omega⟩) (fun τ' cv' k1 g1 g2 => hq τ' cv' (k0.tr k1) g1 g2)⟩
  have e : i = 0 := by omega
  rw [e, mI_sI_s]; rfl
end Cover2
