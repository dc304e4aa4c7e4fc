/-! STAGE 2: loops over rows: fill, a sheet's making -/
/-- Arrays.fill from i on -/
theorem fill_ok {Q : Mem → Prop} {a m : Nat} {v : Int32} (hm : m < 2 ^ 30) : ∀ (d i : Nat) (σ : Mem), i + d = m → mT σ a = some (14, m) → (∀ τ, Kp (fun b _ => b = a) σ τ → (∀ k, k < i → mI τ a k = mI σ a k) → (∀ k, i ≤ k → k < m → mI τ a k = v) → Q τ) → ∃ n, w_J7_fill_53178_5 Q n a v (nI i) (nI m) σ := by
  intro d
  induction d with
  | zero =>
    intro i σ hi hT hq
    refine ⟨1, ?_⟩
    rw [w_J7_fill_53178_5]
    refine ⟨fun _ => hq σ Kp.rf (fun _ _ => rfl) (fun k h1 h2 => by omega), fun q => absurd (nI_le (by omega) (by omega)) q⟩
  | succ d ih =>
    intro i σ hi hT hq
    have c4 : (nI i).toNatClampNeg = i := nI_clamp (by omega)
    obtain ⟨n, hn⟩ := ih (i + 1) (sI σ a i v) (by omega) hT (fun τ k1 k2 k3 => hq τ (((Kp.rf (F := fun b _ => b = a)).sI (a := a) (k := i) v rfl).tr k1) (fun k hk => by rw [k2 k (by omega), mI_sI_k _ _ (by omega)]) (fun k h1 h2 => by
      by_cases e : k = i
      · subst e; rw [k2 k (by omega), mI_sI_s]
      · exact k3 k (by omega) h2))
    refine ⟨n + 1, ?_⟩
    rw [w_J7_fill_53178_5]
    refine ⟨fun q => absurd q (Int32.not_le.mpr (nI_lt (by omega) (by omega))), fun _ => ⟨m, hT, vp_in_nI (by omega) (by omega), ?_⟩⟩
    rw [c4, nI_1]
    exact hn
/-- the model's clearing of a sheet -/
theorem clear_ok {Q : Int32 → Mem → Prop} {s : Nat} (hs : s < 4) : ∀ (d i : Nat) (σ : Mem), i + d = 40 → (∀ τ, Kp (fun b k => b = 66 ∧ 40 * s ≤ k ∧ k < 40 * s + 40) σ τ → (∀ k, k < i → mI τ 66 (40 * s + k) = mI σ 66 (40 * s + k)) → (∀ k, i ≤ k → k < 40 → mI τ 66 (40 * s + k) = 0) → Q 1 τ) → ∃ n, w_X12_sheet_65 Q n (nI s) (nI i) σ := by
  intro d
  induction d with
  | zero =>
    intro i σ hi hq
    refine ⟨1, ?_⟩
    rw [w_X12_sheet_65]
    refine ⟨fun _ => hq σ Kp.rf (fun _ _ => rfl) (fun k h1 h2 => by omega), fun q => absurd (nI_le (a := 40) (by omega) (by omega)) q⟩
  | succ d ih =>
    intro i σ hi hq
    have z5 : 40 * nI s + nI i = nI (40 * s + i) := by
      have e8 : (40 : Int32) = nI 40 := rfl
      rw [e8, pk_mul, nI_add]
    have c4 : (nI (40 * s + i)).toNatClampNeg = 40 * s + i := nI_clamp (by omega)
    obtain ⟨n, hn⟩ := ih (i + 1) (sI σ 66 (40 * s + i) 0) (by omega) (fun τ k1 k2 k3 => hq τ (((Kp.rf (F := fun b k => b = 66 ∧ 40 * s ≤ k ∧ k < 40 * s + 40)).sI (a := 66) (k := 40 * s + i) 0 (by constructor <;> first | rfl | omega)).tr k1) (fun k hk => by rw [k2 k (by omega), mI_sI_k _ _ (by omega)]) (fun k h1 h2 => by
      by_cases e : k = i
      · subst e; rw [k2 k (by omega), mI_sI_s]
      · exact k3 k (by omega) h2))
    refine ⟨n + 1, ?_⟩
    rw [w_X12_sheet_65]
    refine ⟨fun q => absurd q (Int32.not_le.mpr (nI_lt (b := 40) (by omega) (by omega))), fun _ => ?_⟩
    rw [z5, c4, nI_1]
    exact ⟨vp_in_nI (by omega) (by decide), hn⟩
/-- both make a sheet of sort so with n items, all 0 -/
theorem sheet_go {σ : Mem} (h : Rel σ) {i n : Nat} {so : Int32} (hi : i < 4) (hn : n ≤ 40) (hso : so = -1 ∨ so = 0 ∨ so = 1 ∨ so = 2) (hz : ¬ 0 ≤ so → n = 0) {x3 : Int32} (hx : 0 ≤ so → x3 = nI n) : w_X7_become σ (25 + 2 * i) so (nI n) (fun s1 => w_X12_sheet_40 (fun r2 s2 => (1 : Int32) = r2 ∧ Rel s2) (nI i) so x3 s1) := by
  obtain ⟨hS, hL, N, L, T, hPl, hLa, hTx, hHi, hTa, hTb, hIm, hSh, hMo⟩ := h
  obtain ⟨f1, f2, f3, f4⟩ := sh_facts hS hi
  have q4 : (nI i).toNatClampNeg = i := nI_clamp (by omega)
  have q3 : vp_in (nI i) 4 := vp_in_nI hi (by decide)
  have e40 : (40 : Int32) = nI 40 := rfl
  have hv : (if 0 < (if nI n < 40 then nI n else 40) then (if nI n < 40 then nI n else 40) else 0) = nI n := by
    have q : (if nI n < 40 then nI n else 40) = nI n := by
      by_cases c : n < 40
      · have q0 : nI n < 40 := nI_lt (b := 40) c (by decide)
        rw [if_pos q0]
      · have : n = 40 := by omega
        subst this; rfl
    rw [q]
    by_cases c : 0 < n
    · have q0 : 0 < nI n := nI_lt (a := 0) c (by omega)
      rw [if_pos q0]
    · have : n = 0 := by omega
      subst this; rfl
  unfold w_X7_become
  refine ⟨f2, fun v ev => ?_⟩
  rw [hv] at ev
  subst ev
  refine ⟨f2, f2, 26 + 2 * i, f3, 40, f4, ?_⟩
  refine fill_ok (by decide) 40 0 _ rfl f4 (fun τ k1 k2 k3 => ?_)
  have key : ∀ υ : Mem, Kp (fun b k => b = 66 ∧ 40 * i ≤ k ∧ k < 40 * i + 40) (sI (sI τ 64 i so) 65 i (nI n)) υ → (∀ k, k < 40 → mI υ 66 (40 * i + k) = 0) → Rel υ := by
    intro υ k4 k5
    have hk : Kp (fun a k => (25 ≤ a ∧ a ≤ 32) ∨ a = 64 ∨ a = 65 ∨ a = 66) σ υ := (((((Kp.rf.sI (a := 25 + 2 * i) (k := 1) so (by simp; omega)).sI (a := 25 + 2 * i) (k := 2) (nI n) (by simp; omega)).tr (k1.mono (fun a k q => by omega))).sI (a := 64) (k := i) so (by simp)).sI (a := 65) (k := i) (nI n) (by simp)).tr (k4.mono (fun a k q => by omega))
    refine ⟨hk.mS hS, by rw [hk.2.2.1]; exact hL, N, L, T, hPl.fr hk (by simp) (by simp) (fun i => by simp) (fun i => by simp) (fun i => by simp) (fun i => by simp), hLa.fr hk (by simp) (by simp) (fun a i h _ => by simp; omega) (fun i => by simp) (fun i => by simp), hTx.fr hk (by simp) (by simp) (fun a i hc => by have := hc.dyn hTx; unfold dyn at this; simp; omega) (fun i => by simp) (fun i => by simp), hHi.fr hk (by simp) (by simp) (by simp) (by simp), hTa.fr hk (by simp) (by simp) (fun i => by simp) (fun i => by simp), hTb.fr hk (by simp) (by simp) (by simp) (by simp) (fun i => by simp) (fun i => by simp) (fun i => by simp) (fun i => by simp), hIm.fr hk (by simp) (fun a i hc => by have := hc.dyn hIm; simp; omega) (fun i => by simp) (fun i => by simp), ?_, hMo.fr hk (fun i => by simp) (fun i => by simp) (fun i => by simp)⟩
    intro i2 hi2
    obtain ⟨g1, ⟨n2, g2, g3, g4⟩, g5⟩ := hSh i2 hi2
    have a25 : ∀ k, mI υ (25 + 2 * i2) k = mI (sI (sI σ (25 + 2 * i) 1 so) (25 + 2 * i) 2 (nI n)) (25 + 2 * i2) k := fun k => by
      rw [k4.2.2.2 _ _ (by simp; omega), mI_sI_n _ _ (by omega), mI_sI_n _ _ (by omega), k1.2.2.2 _ _ (by simp; omega)]
    have a64 : mI υ 64 i2 = if i2 = i then so else mI σ 64 i2 := by
      rw [k4.2.2.2 _ _ (by simp), mI_sI_n _ _ (by decide), mI_sI, if_pos rfl]
      by_cases e : i2 = i
      · rw [if_pos e, if_pos e]
      · rw [if_neg e, if_neg e, k1.2.2.2 _ _ (by simp; omega), mI_sI_n _ _ (by omega), mI_sI_n _ _ (by omega)]
    have a65 : mI υ 65 i2 = if i2 = i then nI n else mI σ 65 i2 := by
      rw [k4.2.2.2 _ _ (by simp), mI_sI, if_pos rfl]
      by_cases e : i2 = i
      · rw [if_pos e, if_pos e]
      · rw [if_neg e, if_neg e, mI_sI_n _ _ (by decide), k1.2.2.2 _ _ (by simp; omega), mI_sI_n _ _ (by omega), mI_sI_n _ _ (by omega)]
    rw [a64, a65, a25, a25]
    by_cases e : i2 = i
    · subst e
      refine ⟨⟨by simp [mI_sI], by simpa using hso⟩, ⟨n, hn, by simp [mI_sI], by simp⟩, fun k hk2 => ?_⟩
      rw [k5 k hk2, k4.2.2.2 _ _ (by simp; omega), mI_sI_n _ _ (by omega), mI_sI_n _ _ (by omega)]
      exact k3 k (by omega) hk2
    · have d1 : 25 + 2 * i2 ≠ 25 + 2 * i := by omega
      rw [mI_sI_n _ _ d1, mI_sI_n _ _ d1, mI_sI_n _ _ d1, mI_sI_n _ _ d1, if_neg e, if_neg e]
      refine ⟨g1, ⟨n2, g2, g3, g4⟩, fun k hk2 => ?_⟩
      rw [k4.2.2.2 66 _ (by simp; omega), mI_sI_n _ _ (by decide), mI_sI_n _ _ (by decide), k1.2.2.2 66 _ (by simp; omega), mI_sI_n _ _ (by omega), mI_sI_n _ _ (by omega)]
      rw [k4.2.2.2 _ _ (by simp; omega), mI_sI_n _ _ (by omega), mI_sI_n _ _ (by omega), k1.2.2.2 _ _ (by simp; omega), mI_sI_n _ _ (by omega), mI_sI_n _ _ (by omega)]
      exact g5 k hk2
  unfold w_X12_sheet_40 w_X12_sheet_61
  rw [q4]
  refine ⟨q3, fun c => ⟨q3, ?_⟩, fun c => ⟨q3, ?_⟩⟩
  · rw [hx c]
    exact clear_ok hi 40 0 _ rfl (fun υ k4 _ k5 => ⟨rfl, key υ k4 (fun k hk2 => k5 k (by omega) hk2)⟩)
  · have := hz c
    subst this
    exact clear_ok hi 40 0 _ rfl (fun υ k4 _ k5 => ⟨rfl, key υ k4 (fun k hk2 => k5 k (by omega) hk2)⟩)
