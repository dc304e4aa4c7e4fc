/-! STAGE 2: copy -/
def SP (n : Nat) (x k : Int32) : Prop := ∃ a b : Nat, x = nI a ∧ k = nI b ∧ a + b ≤ n
theorem sp_sub {n a b : Nat} (hn : n ≤ 40) (ha : a < 2147483648) (hb : b < 2147483648) : nI n - nI a < nI b ↔ ¬ a + b ≤ n := by
  rcases Nat.lt_or_ge n a with h | h
  · have e1 := nI_toInt (n := n) (by omega)
    have e2 := nI_toInt (n := a) (by omega)
    have e3 := nI_toInt (n := b) (by omega)
    have e4 : (nI n - nI a).toInt = (n : Int) - a := by
      rw [fb_subI (by rw [e1, e2]; omega) (by rw [e1, e2]; omega), e1, e2]
    rw [fa_lt, e4, e3]
    omega
  · rw [k_sub h, nI_ltI (by omega) (by omega)]
    omega
theorem sp_iff {n : Nat} {x k : Int32} (hn : n ≤ 40) : SP n x k ↔ (¬ x < 0 ∧ ¬ k < 0 ∧ ¬ nI n - x < k) := by
  constructor
  · rintro ⟨a, b, rfl, rfl, h⟩
    exact ⟨nI_pos (by omega), nI_pos (by omega), fun z => (sp_sub hn (by omega) (by omega)).mp z h⟩
  · rintro ⟨h1, h2, h3⟩
    obtain ⟨a, ha, rfl⟩ := nI_of h1
    obtain ⟨b, hb, rfl⟩ := nI_of h2
    refine ⟨a, b, rfl, rfl, ?_⟩
    rcases Nat.lt_or_ge n (a + b) with q | q
    · exact absurd ((sp_sub hn (by omega) (by omega)).mpr (by omega)) h3
    · exact q
theorem hs_ok {τ : Mem} {c n : Nat} {x k : Int32} {Q : Int32 → Mem → Prop} (hn : n ≤ 40) (ht : mT τ c = some (7, 0)) (e : mI τ c 2 = nI n) (h1 : SP n x k → Q 1 τ) (h2 : ¬ SP n x k → Q 0 τ) : w_X7_hasSpan τ c x k Q := by
  unfold w_X7_hasSpan
  rw [e]
  refine ⟨fun z => h2 (fun q => ((sp_iff hn).mp q).1 z), fun z => ⟨fun y => h2 (fun q => ((sp_iff hn).mp q).2.1 y), fun y => ⟨ht, fun w => h2 (fun q => ?_), fun w => ⟨ht, fun v => h2 (fun q => ((sp_iff hn).mp q).2.2 v), fun v => h1 ((sp_iff hn).mpr ⟨z, y, v⟩)⟩⟩⟩⟩
  obtain ⟨a, b, rfl, rfl, h⟩ := q
  rw [nI_ltI (by omega) (by omega)] at w
  omega
theorem cp140 {Q : Int32 → Mem → Prop} {s c b : Nat} (hs : s < 4) (hcb : c + b ≤ 40) : ∀ (d k : Nat) (τ : Mem), k + d = b → (∀ τ', Kp (fun a j => a = 66 ∧ 40 * s ≤ j ∧ j < 40 * s + 40) τ τ' → (∀ j, j < 40 → mI τ' 66 (40 * s + j) = if c + k ≤ j ∧ j < c + b then mI τ 67 (j - c) else mI τ 66 (40 * s + j)) → Q (nI b) τ') → w_X12_copy_140 Q (d + 1) (nI s) (nI c) (nI b) (nI k) τ := by
  intro d
  induction d with
  | zero =>
    intro k τ hd hq
    have e : k = b := by omega
    subst e
    rw [w_X12_copy_140]
    exact ⟨fun _ => hq τ Kp.rf (fun j hj => by rw [if_neg (by omega)]), fun z => absurd (Int32.le_refl _) z⟩
  | succ d ih =>
    intro k τ hd hq
    have nle : ¬ nI b ≤ nI k := fun z => of_eq_false (k_nle (a := b) (b := k) (by omega) (by omega)) z
    have e40 : (40 : Int32) * nI s + nI c + nI k = nI (40 * s + c + k) := by rw [show (40 : Int32) = nI 40 from rfl, k_mul, nI_add, nI_add]
    rw [w_X12_copy_140, e40, k_cl (a := 40 * s + c + k) (by omega), k_cl (a := k) (by omega), show nI k + 1 = nI (k + 1) from nI_add k 1]
    refine ⟨fun z => absurd z nle, fun _ => ⟨vp_in_nI (by omega) (by omega), fun v hv => ⟨vp_in_nI (by omega) (by omega), ?_⟩⟩⟩
    subst hv
    have k0 : Kp (fun a j => a = 66 ∧ 40 * s ≤ j ∧ j < 40 * s + 40) τ (sI τ 66 (40 * s + c + k) (mI τ 67 k)) := (by repeat (first | exact Kp.rf | refine Kp.sI ?_ _ (by first | exact rfl | omega | (dsimp only; omega))))
    refine ih (k + 1) _ (by omega) (fun τ' k1 h1 => hq τ' (k0.tr k1) (fun j hj => ?_))
    rw [h1 j hj]
    by_cases c1 : c + (k + 1) ≤ j ∧ j < c + b
    · rw [if_pos c1, if_pos (by omega), mI_sI_n _ _ (by omega)]
    · rw [if_neg c1]
      by_cases c2 : j = c + k
      · rw [if_pos (by omega), c2, show 40 * s + (c + k) = 40 * s + c + k by omega, mI_sI_s, show c + k - c = k by omega]
      · rw [if_neg (by omega), mI_sI_k _ _ (by omega)]
theorem cp103 {Q : Int32 → Mem → Prop} {i a s c b : Nat} (hi : i < 4) (hab : a + b ≤ 40) : ∀ (d k : Nat) (τ : Mem), k + d = b → (∀ τ', Kp (fun x _ => x = 67) τ τ' → (∀ j, j < b → mI τ' 67 j = if k ≤ j then mI τ 66 (40 * i + a + j) else mI τ 67 j) → ∃ m101 : Nat, w_X12_copy_140 Q m101 (nI s) (nI c) (nI b) 0 τ') → w_X12_copy_103 Q (d + 1) (nI i) (nI a) (nI s) (nI c) (nI b) (nI k) τ := by
  intro d
  induction d with
  | zero =>
    intro k τ hd hq
    have e : k = b := by omega
    subst e
    rw [w_X12_copy_103]
    exact ⟨fun _ => hq τ Kp.rf (fun j hj => by rw [if_neg (by omega)]), fun z => absurd (Int32.le_refl _) z⟩
  | succ d ih =>
    intro k τ hd hq
    have nle : ¬ nI b ≤ nI k := fun z => of_eq_false (k_nle (a := b) (b := k) (by omega) (by omega)) z
    have e40 : (40 : Int32) * nI i + nI a + nI k = nI (40 * i + a + k) := by rw [show (40 : Int32) = nI 40 from rfl, k_mul, nI_add, nI_add]
    rw [w_X12_copy_103, e40, k_cl (a := 40 * i + a + k) (by omega), k_cl (a := k) (by omega), show nI k + 1 = nI (k + 1) from nI_add k 1]
    refine ⟨fun z => absurd z nle, fun _ => ⟨vp_in_nI (by omega) (by omega), fun v hv => ⟨vp_in_nI (by omega) (by omega), ?_⟩⟩⟩
    subst hv
    have k0 : Kp (fun x _ => x = 67) τ (sI τ 67 k (mI τ 66 (40 * i + a + k))) := (by repeat (first | exact Kp.rf | refine Kp.sI ?_ _ (by first | exact rfl | omega | (dsimp only; omega))))
    refine ih (k + 1) _ (by omega) (fun τ' k1 h1 => hq τ' (k0.tr k1) (fun j hj => ?_))
    rw [h1 j hj]
    by_cases c1 : k + 1 ≤ j
    · rw [if_pos c1, if_pos (by omega), mI_sI_n _ _ (by omega)]
    · rw [if_neg c1]
      by_cases c2 : j = k
      · rw [if_pos (by omega), c2, mI_sI_s]
      · rw [if_neg (by omega), mI_sI_k _ _ c2]
theorem rel_sh {σ τ : Mem} {s : Nat} (h : Rel σ) (hs : s < 4) (k : Kp (fun a j => a = 26 + 2 * s ∨ (a = 66 ∧ 40 * s ≤ j ∧ j < 40 * s + 40) ∨ a = 67) σ τ) (h40 : ∀ j, j < 40 → mI τ (26 + 2 * s) j = mI τ 66 (40 * s + j)) : Rel τ := by
  obtain ⟨N, L, T, hS, hL, hPl, hLa, hTx, hHi, hTa, hTb, hIm, hSh, hMo⟩ := h.x
  refine RelX.rel (N := N) (L := L) (T := T) ⟨k.mS hS, by rw [k.2.2.1]; exact hL, hPl.fr k (by omega) (by omega) (fun i => by omega) (fun i => by omega) (fun i => by omega) (fun i => by omega), hLa.fr k (by omega) (by omega) (fun a j ha hc => by omega) (fun i => by omega) (fun i => by omega), hTx.fr k (by omega) (by omega) (fun a j hc => by have hd := hc.dyn hTx; unfold dyn at hd; omega) (fun i => by omega) (fun i => by omega), hHi.fr k (by omega) (by omega) (by omega) (by omega), hTa.fr k (by omega) (by omega) (fun i => by omega) (fun i => by omega), hTb.fr k (by omega) (by omega) (by omega) (by omega) (fun i => by omega) (fun i => by omega) (fun i => by omega) (fun i => by omega), hIm.fr k (by omega) (fun a j hc => by have := hc.dyn hIm; omega) (fun i => by omega) (fun i => by omega), fun i hi => ?_, hMo.fr k (fun i => by omega) (fun i => by omega) (fun i => by omega)⟩
  obtain ⟨g1, ⟨n, g2, g3, g4⟩, g5⟩ := hSh i hi
  rw [k.2.2.2 (25 + 2 * i) 1 (by omega), k.2.2.2 64 i (by omega), k.2.2.2 (25 + 2 * i) 2 (by omega), k.2.2.2 65 i (by omega)]
  refine ⟨g1, ⟨n, g2, g3, g4⟩, fun j hj => ?_⟩
  by_cases c : i = s
  · subst c; exact h40 j hj
  · rw [k.2.2.2 (26 + 2 * i) j (by omega), k.2.2.2 66 (40 * i + j) (by omega)]
    exact g5 j hj
set_option maxHeartbeats 2000000 in
theorem p_copy (σ : Mem) (x0 x1 x2 x3 x4 : Int32) (h : Rel σ) : w_X11_copy σ x0 x1 x2 x3 x4 (fun r1 s1 => w_X12_copy s1 x0 x1 x2 x3 x4 (fun r2 s2 => r1 = r2 ∧ Rel s2)) := by
  obtain ⟨N, L, T, hx⟩ := h.x
  unfold w_X11_copy
  by_cases c : 0 ≤ x0 ∧ x0 ≤ 3
  · by_cases c' : 0 ≤ x2 ∧ x2 ≤ 3
    · obtain ⟨i, n, so, hi, rfl, hn, hso, hf⟩ := sheet_cases hx c
      obtain ⟨s, n', so', hs, rfl, hn', hso', hf'⟩ := sheet_cases hx c'
      obtain ⟨f1, f2, f3, f4, f5, f6, f7, f8, f9⟩ := hf σ Kp.rf
      obtain ⟨f1', f2', f3', f4', f5', f6', f7', f8', f9'⟩ := hf' σ Kp.rf
      have vi : vp_in (nI i) 4 := vp_in_nI (by omega) (by omega)
      have vs : vp_in (nI s) 4 := vp_in_nI (by omega) (by omega)
      have ei : (nI i).toNatClampNeg = i := k_cl (by omega)
      have es : (nI s).toNatClampNeg = s := k_cl (by omega)
      have neg : ∀ {z : Int32}, 0 ≤ z → ¬ z < 0 := fun hz => Int32.not_lt.mpr hz
      -- the model behind its first doors
      have model : ∀ (v : Int32) (s1 : Mem), mI s1 64 i = so → mI s1 64 s = so' → mI s1 65 i = nI n → mI s1 65 s = nI n' → (so < 0 → v = -11 ∧ Rel s1) → (0 ≤ so → so' < 0 → v = -11 ∧ Rel s1) → (0 ≤ so → 0 ≤ so' → so ≠ so' → v = -13 ∧ Rel s1) → (0 ≤ so → so = so' → ¬ (SP n x1 x4 ∧ SP n' x3 x4) → v = -12 ∧ Rel s1) → (0 ≤ so → so = so' → SP n x1 x4 → SP n' x3 x4 → ∃ m107 : Nat, w_X12_copy_103 (fun r2 s2 => v = r2 ∧ Rel s2) m107 (nI i) x1 (nI s) x3 x4 0 s1) → w_X12_copy s1 (nI i) x1 (nI s) x3 x4 (fun r2 s2 => v = r2 ∧ Rel s2) := by
        intro v s1 a1 a2 a3 a4 h1 h2 h3 h4 h5
        unfold w_X12_copy
        refine r_isSheet.mpr ((in_t c).mpr ⟨fun z => absurd z (by decide), fun _ => r_isSheet.mpr ((in_t c').mpr ⟨fun _ => ?_, fun z => absurd z (by decide)⟩)⟩)
        rw [ei, es, a1, a2, a3, a4]
        refine ⟨vi, fun z => h1 z, fun z => ⟨vs, fun y => ⟨vi, vs, fun w => ?_, fun w => h3 (Int32.not_lt.mp z) y w⟩, fun y => h2 (Int32.not_lt.mp z) (Int32.not_le.mp y)⟩⟩
        have z' : 0 ≤ so := Int32.not_lt.mp z
        have bad : ¬ (SP n x1 x4 ∧ SP n' x3 x4) → v = -12 ∧ Rel s1 := h4 z' w
        refine ⟨fun u1 => bad (fun q => ((sp_iff hn).mp q.1).2.1 u1), fun u1 => ⟨fun u2 => bad (fun q => ((sp_iff hn).mp q.1).1 u2), fun u2 => ⟨fun u3 => bad (fun q => ((sp_iff hn').mp q.2).1 u3), fun u3 => ⟨vi, fun u4 => bad (fun q => ((sp_iff hn).mp q.1).2.2 u4), fun u4 => ⟨vs, fun u5 => h5 z' w ((sp_iff hn).mpr ⟨u2, u1, u4⟩) ((sp_iff hn').mpr ⟨u3, u1, Int32.not_lt.mpr u5⟩), fun u5 => bad (fun q => ((sp_iff hn').mp q.2).2.2 (Int32.not_le.mp u5))⟩⟩⟩⟩⟩
      refine (sheetAt_t hi f1).mpr ((sheetAt_t hs f1').mpr ⟨fun z => (by cases z), fun r hr => ?_⟩)
      cases hr
      refine ⟨fun z => (by cases z), fun r' hr' => ?_⟩
      cases hr'
      refine ⟨f2, ?_⟩
      rcases so_neg hso with ⟨e1, e2⟩ | ⟨e1, e2⟩
      · refine missing_ok f2 f5 (fun _ => ⟨fun _ => ?_, fun z => absurd z (by decide)⟩) (fun z => absurd e1 z)
        exact model _ σ f7 f7' f8 f8' (fun _ => ⟨rfl, h⟩) (fun z => absurd z e2) (fun z => absurd z e2) (fun z => absurd z e2) (fun z => absurd z e2)
      · refine missing_ok f2 f5 (fun z => absurd z e1) (fun _ => ⟨fun z => absurd rfl z, fun _ => ⟨f2', ?_⟩⟩)
        rcases so_neg hso' with ⟨e1', e2'⟩ | ⟨e1', e2'⟩
        · refine missing_ok f2' f5' (fun _ => ⟨fun z => absurd z (by decide), fun _ => ?_⟩) (fun z => absurd e1' z)
          exact model _ σ f7 f7' f8 f8' (fun z => absurd z (neg e2)) (fun _ _ => ⟨rfl, h⟩) (fun _ z => absurd z e2') (fun _ z => absurd (z ▸ e2) e2') (fun _ z => absurd (z ▸ e2) e2')
        · refine missing_ok f2' f5' (fun z => absurd z e1') (fun _ => ⟨fun _ => ⟨f2, f2', ?_⟩, fun z => absurd rfl z⟩)
          rw [f5, f5']
          refine ⟨fun ce => ⟨f2, ?_⟩, fun ce => ?_⟩
          · have badm : ¬ (SP n x1 x4 ∧ SP n' x3 x4) → w_X12_copy σ (nI i) x1 (nI s) x3 x4 (fun r2 s2 => (-12 : Int32) = r2 ∧ Rel s2) := fun hb =>
              model _ σ f7 f7' f8 f8' (fun z => absurd z (neg e2)) (fun _ z => absurd z (neg e2')) (fun _ _ z => absurd ce z) (fun _ _ _ => ⟨rfl, h⟩) (fun _ _ z1 z2 => absurd ⟨z1, z2⟩ hb)
            refine hs_ok hn f2 f6 (fun s1 => ⟨fun z => absurd z (by decide), fun _ => ⟨f2', hs_ok hn' f2' f6' (fun s2 => ⟨fun _ => ?_, fun z => absurd z (by decide)⟩) (fun s2 => ⟨fun z => absurd rfl z, fun _ => badm (fun q => s2 q.2)⟩)⟩⟩) (fun s1 => ⟨fun _ => badm (fun q => s1 q.1), fun z => absurd rfl z⟩)
            have s1' := s1
            have s2' := s2
            obtain ⟨a, b, rfl, rfl, hab⟩ := s1
            obtain ⟨cc, b', rfl, hb', hcb⟩ := s2
            have eb : b' = b := by rw [nI_eq (by omega) (by omega)] at hb'; exact hb'.symm
            subst eb
            refine ⟨f2, _, f3, f2', _, f3', _, f4, _, f4', ⟨nI_pos (by omega), nI_pos (by omega), nI_pos (by omega), by rw [k_cl (by omega), k_cl (by omega)]; omega, by rw [k_cl (by omega), k_cl (by omega)]; omega⟩, ?_⟩
            rw [k_cl (a := a) (by omega), k_cl (a := cc) (by omega), k_cl (a := b') (by omega)]
            have k1 : Kp (fun a j => a = 26 + 2 * s ∨ (a = 66 ∧ 40 * s ≤ j ∧ j < 40 * s + 40) ∨ a = 67) σ (sR σ (26 + 2 * s) (va_cpy (σ.1 (26 + 2 * i)) (σ.1 (26 + 2 * s)) a cc b')) := Kp.sR Kp.rf _ (fun k => Or.inl rfl)
            have v1 : ∀ j, j < 40 → mI (sR σ (26 + 2 * s) (va_cpy (σ.1 (26 + 2 * i)) (σ.1 (26 + 2 * s)) a cc b')) (26 + 2 * s) j = if cc ≤ j ∧ j < cc + b' then mI σ (26 + 2 * i) (a + (j - cc)) else mI σ (26 + 2 * s) j := fun j hj => by
              rw [mI_sR, if_pos rfl]; rfl
            have v2 : ∀ q j, q ≠ 26 + 2 * s → mI (sR σ (26 + 2 * s) (va_cpy (σ.1 (26 + 2 * i)) (σ.1 (26 + 2 * s)) a cc b')) q j = mI σ q j := fun q j hq => by
              rw [mI_sR, if_neg hq]
            generalize sR σ (26 + 2 * s) (va_cpy (σ.1 (26 + 2 * i)) (σ.1 (26 + 2 * s)) a cc b') = τ1 at k1 v1 v2
            refine model _ τ1 (by rw [v2 _ _ (by omega)]; exact f7) (by rw [v2 _ _ (by omega)]; exact f7') (by rw [v2 _ _ (by omega)]; exact f8) (by rw [v2 _ _ (by omega)]; exact f8') (fun z => absurd z (neg e2)) (fun _ z => absurd z (neg e2')) (fun _ _ z => absurd ce z) (fun _ _ z => absurd ⟨s1', s2'⟩ z) (fun _ _ _ _ => ?_)
            refine ⟨b' + 1, cp103 hi (by omega) b' 0 τ1 (by omega) (fun τ2 k2 g2 => ⟨b' + 1, cp140 hs (by omega) b' 0 τ2 (by omega) (fun τ3 k3 g3 => ⟨rfl, ?_⟩)⟩)⟩
            refine rel_sh h hs ((k1.tr (k2.mono (fun a j q => by omega))).tr (k3.mono (fun a j q => by omega))) (fun j hj => ?_)
            rw [k3.2.2.2 _ _ (by omega), k2.2.2.2 _ _ (by omega), v1 j hj, g3 j hj]
            by_cases cj : cc ≤ j ∧ j < cc + b'
            · rw [if_pos cj, if_pos (by omega), g2 (j - cc) (by omega), if_pos (by omega), v2 _ _ (by omega), show 40 * i + a + (j - cc) = 40 * i + (a + (j - cc)) by omega, (f9 _ (by omega)).2]
            · rw [if_neg cj, if_neg (by omega), k2.2.2.2 _ _ (by omega), v2 _ _ (by omega), (f9' j hj).2]
          · exact model _ σ f7 f7' f8 f8' (fun z => absurd z (neg e2)) (fun _ z => absurd z (neg e2')) (fun _ _ _ => ⟨rfl, h⟩) (fun _ z => absurd z ce) (fun _ z => absurd z ce)
    · obtain ⟨i, n, so, hi, rfl, hn, hso, hf⟩ := sheet_cases hx c
      obtain ⟨f1, -⟩ := hf σ Kp.rf
      refine (sheetAt_t hi f1).mpr ((sheetAt_f c').mpr ⟨fun z => (by cases z), fun r hr => ⟨fun _ => ?_, fun r' hr' => (by cases hr')⟩⟩)
      unfold w_X12_copy
      exact r_isSheet.mpr ((in_t c).mpr ⟨fun z => absurd z (by decide), fun _ => r_isSheet.mpr ((in_f c').mpr ⟨fun z => absurd rfl z, fun _ => ⟨rfl, h⟩⟩)⟩)
  · refine (sheetAt_f c).mpr ?_
    have fin : w_X12_copy σ x0 x1 x2 x3 x4 (fun r2 s2 => (-2 : Int32) = r2 ∧ Rel s2) := by
      unfold w_X12_copy
      exact r_isSheet.mpr ((in_f c).mpr ⟨fun _ => ⟨rfl, h⟩, fun z => absurd rfl z⟩)
    by_cases c' : 0 ≤ x2 ∧ x2 ≤ 3
    · obtain ⟨s, n', so', hs, rfl, hn', hso', hf'⟩ := sheet_cases hx c'
      obtain ⟨f1', -⟩ := hf' σ Kp.rf
      exact (sheetAt_t hs f1').mpr ⟨fun _ => fin, fun r hr => (by cases hr)⟩
    · exact (sheetAt_f c').mpr ⟨fun _ => fin, fun r hr => (by cases hr)⟩
