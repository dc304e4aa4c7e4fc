/-! STAGE 2: TEXT: a whole text, the model's and the class's -/
def txO (T : Nat → Nat × Nat) (l0 l1 l2 : List Int32) : Prop := ∃ j0 j1 j2, ptO T 0 0 l0 j0 ∧ ptO T 1 (j0 + 1) l1 j1 ∧ ptO T 2 (j1 + 1) l2 j2 ∧ (T (j2 + 1)).1 = 5
def txF (T : Nat → Nat × Nat) (j : Nat) : Prop := ptF T 0 0 j ∨ (∃ l0 j0, ptO T 0 0 l0 j0 ∧ ptF T 1 (j0 + 1) j) ∨ (∃ l0 j0 l1 j1, ptO T 0 0 l0 j0 ∧ ptO T 1 (j0 + 1) l1 j1 ∧ ptF T 2 (j1 + 1) j) ∨ ∃ l0 j0 l1 j1 l2 j2, ptO T 0 0 l0 j0 ∧ ptO T 1 (j0 + 1) l1 j1 ∧ ptO T 2 (j1 + 1) l2 j2 ∧ ¬ (T (j2 + 1)).1 = 5 ∧ j = j2 + 1
theorem ptO_len {T : Nat → Nat × Nat} (hT : okTk T) {k i : Nat} {l : List Int32} {j : Nat} (h : ptO T k i l j) : i + 1 + l.length ≤ j ∧ j < 160 ∧ i < 160 := by
  have h1 := rdO_len hT h.2.1
  have h2 := hT.2 j (by rw [h.2.2]; exact (show ¬ (4 = 5) by omega))
  have h3 := hT.2 i (by rw [h.1]; exact (show ¬ (3 = 5) by omega))
  exact ⟨h1.1, h2, h3⟩
theorem ptO_seg {T : Nat → Nat × Nat} (hT : okTk T) {k i : Nat} {l : List Int32} {j : Nat} (h : ptO T k i l j) : (∀ s ∈ l, okS s) ∧ hgL 0 l = some 1 :=
  ⟨rdO_ok hT h.2.1, (rdO_hg hT h.2.1).1 (by omega) 0 (by decide)⟩
section Txt
variable {tp : Nat → Nat} {sz : Nat}
/-- the model stands ahead of token i -/
def MB (tp : Nat → Nat) (sz : Nat) (τ : Mem) (i : Nat) : Prop := tpM τ tp sz ∧ moM τ ∧ ∃ b, b ≤ sz ∧ mI τ 37 13 = nI b ∧ scn tp sz b = strm tp sz i
theorem MB.nx {Q : Mem → Prop} {τ : Mem} {i : Nat} (h : MB tp sz τ i) (hq : ∀ τ', Kp F37 τ τ' → tpM τ' tp sz → moM τ' → tkM τ' (strm tp sz i) → Q τ') : w_X12_next τ Q := by
  obtain ⟨h1, h2, b, hb, h3, h4⟩ := h
  refine nx12 h1 h2 hb h3 (fun τ' k ht => hq τ' k (h1.fr k F37n8 F37n42) (h2.fr k F37n45 F37n46) ?_)
  rw [← h4]; exact ht
theorem MB.of {τ : Mem} {i : Nat} (h1 : tpM τ tp sz) (h2 : moM τ) (h3 : tkM τ (strm tp sz i)) : MB tp sz τ (i + 1) := ⟨h1, h2, _, (strm_p tp sz i).2.1, h3.2.2.1, rfl⟩
/-- where the model's codes of a part lie -/
def mSeg (τ : Mem) (row : Nat) (l : List Int32) : Prop := mI τ 44 row = nI l.length ∧ ∀ q, q < l.length → mI τ 43 (160 * row + q) = trS (l.getD q 0)
theorem getD_map {l : List Int32} {q : Nat} (h : q < l.length) : (l.map trS).getD q 0 = trS (l.getD q 0) := by
  rw [List.getD_eq_getElem?_getD, List.getD_eq_getElem?_getD, List.getElem?_map, List.getElem?_eq_getElem h]; rfl
/-- the model reads an E -/
theorem re_M (hz : sz ≤ 160) {A : List Int32 → Nat → Prop} {B : Nat → Prop} {Q : Int32 → Mem → Prop} {τ : Mem} {row i : Nat} (h1 : tpM τ tp sz) (h2 : moM τ) (h3 : tkM τ (strm tp sz i)) (hr : row < 18) (hi : i ≤ 160) {v : Int32} (hv : v = nI row) (hO : ∀ l j, A l j → ∀ τ', Kp (FMr row) τ τ' → MB tp sz τ' (j + 1) → mSeg τ' row l → Q 1 τ') (hF : ∀ j, B j → ∀ τ', Kp (FMr row) τ τ' → mI τ' 37 16 = nI (strm tp sz j).2.1 → Q 0 τ') (hD : (∃ l j, A l j ∧ rdO (tkS tp sz) 1 0 i l j ∧ tkS tp sz j = (4, 59)) ∨ ∃ j, B j ∧ (rdF (tkS tp sz) 1 0 i j ∨ ∃ l, rdO (tkS tp sz) 1 0 i l j ∧ ¬ tkS tp sz j = (4, 59))) : w_X12_readE τ v Q := by
  have hT := tkS_ok (tp := tp) hz
  subst hv
  unfold w_X12_readE
  have e160 : (160 : Int32) * nI row = nI (160 * row) := by rw [show (160 : Int32) = nI 160 from rfl, k_mul]
  rw [e160]
  have k0 : Kp (FMr row) τ (sI (sI (sI (sI (sI (sI τ 37 24 (nI (160 * row))) 37 25 0) 37 20 0) 37 21 0) 37 22 0) 48 0 0) :=
    (((((Kp.rf.sI _ (Or.inl ⟨rfl, by omega, by omega⟩)).sI _ (Or.inl ⟨rfl, by omega, by omega⟩)).sI _ (Or.inl ⟨rfl, by omega, by omega⟩)).sI _ (Or.inl ⟨rfl, by omega, by omega⟩)).sI _ (Or.inl ⟨rfl, by omega, by omega⟩)).sI _ (Or.inr (Or.inr (Or.inr (Or.inl rfl))))
  have m := mac_fr (i := i) k0 ⟨h1, h2⟩
  have s0 : MS tp sz (sI (sI (sI (sI (sI (sI τ 37 24 (nI (160 * row))) 37 25 0) 37 20 0) 37 21 0) 37 22 0) 48 0 0) row i [] [] (fun _ => false) := by
    refine ⟨⟨m.1, m.2, tkM_of h3 (fun q a b => by rw [mI_sI_n _ _ (by omega), mI_sI_k _ _ (by omega), mI_sI_k _ _ (by omega), mI_sI_k _ _ (by omega), mI_sI_k _ _ (by omega), mI_sI_k _ _ (by omega)])⟩, ⟨?_, ?_, fun q hq => absurd hq (Nat.not_lt_zero q)⟩, ⟨?_, trivial⟩, ⟨?_, ?_⟩, fun n hn => ?_, hr, by decide, fun p hp => by cases hp⟩
    · simp [mI_sI]
    · simp [mI_sI]; rfl
    · simp [mI_sI]; rfl
    · simp [mI_sI, cO]; rfl
    · simp [mI_sI, cN]; rfl
    · have : n = 0 := by have : cN [] = 0 := rfl; omega
      subst this
      rw [mI_sI_s]; rfl
  refine ⟨400 - i, ?_⟩
  have hD' : (∃ l j, rdO (tkS tp sz) 1 0 i l j ∧ ((A l j ∧ tkS tp sz j = (4, 59)) ∨ (B j ∧ ¬ tkS tp sz j = (4, 59)))) ∨ ∃ j, B j ∧ rdF (tkS tp sz) 1 0 i j := by
    rcases hD with ⟨l, j, a, d, e⟩ | ⟨j, b, d | ⟨l, d, e⟩⟩
    · exact Or.inl ⟨l, j, d, Or.inl ⟨a, e⟩⟩
    · exact Or.inr ⟨j, b, d⟩
    · exact Or.inl ⟨l, j, d, Or.inr ⟨b, e⟩⟩
  rcases hD' with ⟨l, j, d, ab⟩ | ⟨j, b, d⟩
  · have le := rdO_len hT d
    refine (rdO_M hz d).2.1 (by omega) _ row [] [] _ 1 400 Q s0 (by simp) hi (by omega) rfl (fun p W' e => by cases e) ⟨fun _ => one_ne, fun z => absurd z (by omega)⟩ (fun _ => rfl) (fun τ2 Pd em2 cf2 mn2 k2 s2 r2 e2 c2 n2 => ?_)
    rw [List.append_nil] at s2
    have eN : cN Pd = 0 := by
      have := cN_app (W := []) Pd (fun p hp => (r2 p hp).1)
      rw [List.append_nil] at this
      rw [this]; rfl
    have l2 : em2.length + Pd.length ≤ j := by
      have := len_go (W := []) (em := []) (l := l) e2 (i := i) (j := j) (by simp) le.1
      rw [List.append_nil] at this
      exact this
    rcases ab with ⟨a, ht⟩ | ⟨b, ht⟩
    · have j160 : j < 160 := hT.2 j (by rw [ht]; exact (show ¬ (4 = 5) by omega))
      refine s_end s2 l2 j160 (by omega) ht r2 (fun τ3 k3 s3 => hO l j a _ ((k0.tr k2).tr (k3.sI _ (Or.inr (Or.inr (Or.inr (Or.inr ⟨rfl, rfl⟩)))))) ?_ ?_)
      · refine ⟨?_, ?_, _, (strm_p tp sz j).2.1, ?_, rfl⟩
        · exact s3.1.1.fr (Kp.rf.sI (F := fun a _ => a = 44) _ rfl) (by omega) (fun i => by omega)
        · exact s3.1.2.1.fr (Kp.rf.sI (F := fun a _ => a = 44) _ rfl) (fun i => by omega) (fun i => by omega)
        · rw [mI_sI_n _ _ (by omega)]; exact s3.1.2.2.2.2.1
      · rw [e2, List.nil_append] at s3 ⊢
        refine ⟨by rw [mI_sI_s, List.length_map], fun q hq => ?_⟩
        rw [mI_sI_n _ _ (by omega), s3.2.1.2.2 q (by rw [List.length_map]; exact hq), getD_map hq]
    · refine s_no s2 (le.2 hi) (by omega) ?_ (Or.inr eN) (Or.inl ht) (hF j b τ2 (k0.tr k2) s2.pl)
      rcases opq_n (n2.2.2.2.2 (by omega)) (n2.2.2.2.1 (by omega)) (n2.2.1 (by omega)) (n2.1 (by omega)) with q | q
      · exact Or.inl q
      · exact Or.inr ⟨q.1, by rw [eN]; exact n2.2.2.1 (by omega) q.2⟩
  · exact (rdF_M hz d).1 (by omega) _ row [] [] _ 1 400 Q s0 (by simp) hi (by omega) rfl (fun _ p W' e => by cases e) ⟨fun _ => one_ne, fun z => absurd z (by omega)⟩ (fun _ => rfl) (fun τ2 k2 e2 => hF j b τ2 (k0.tr k2) e2)
def FMt (t a k : Nat) : Prop := (a = 37 ∧ 13 ≤ k ∧ k ≤ 25) ∨ (a = 43 ∧ 480 * t ≤ k ∧ k < 480 * t + 480) ∨ a = 47 ∨ a = 48 ∨ (a = 44 ∧ 3 * t ≤ k ∧ k < 3 * t + 3)
theorem FMr_t {t p : Nat} (hp : p < 3) : ∀ a k, FMr (3 * t + p) a k → FMt t a k := fun a k h => by unfold FMr at h; unfold FMt; omega
theorem F37_t {t : Nat} : ∀ a k, F37 a k → FMt t a k := fun a k h => by unfold F37 at h; unfold FMt; omega
/-- the model reads a part -/
theorem pt_M (hz : sz ≤ 160) {A : List Int32 → Nat → Prop} {B : Nat → Prop} {Q : Int32 → Mem → Prop} {τ : Mem} {t p i n : Nat} (h : MB tp sz τ i) (ht : t < 6) (hp : p < 3) (hO : ∀ l j, A l j → ∀ τ', Kp (fun a k => F37 a k ∨ FMr (3 * t + p) a k) τ τ' → MB tp sz τ' (j + 1) → mSeg τ' (3 * t + p) l → w_X12_readAll_7 Q n (nI t) (nI (p + 1)) τ') (hF : ∀ j, B j → ∀ τ', Kp (fun a k => F37 a k ∨ FMr (3 * t + p) a k) τ τ' → Q (nI (strm tp sz j).2.1) τ') (hD : (∃ l j, A l j ∧ ptO (tkS tp sz) p i l j) ∨ ∃ j, B j ∧ ptF (tkS tp sz) p i j) : w_X12_readAll_7 Q (n + 1) (nI t) (nI p) τ := by
  have hT := tkS_ok (tp := tp) hz
  refine ⟨fun z => absurd z (of_eq_false (k_nle (a := 3) hp (by omega))), fun _ => h.nx (fun τ1 k1 m1 o1 t1 => ?_)⟩
  refine q_ky t1 (hT.1 i) (by omega) rfl ?_
  by_cases c : tkS tp sz i = (3, p)
  · rw [if_pos (show (strm tp sz i).1 = (3, p) from c)]
    refine ⟨fun _ => (MB.of m1 o1 t1).nx (fun τ2 k2 m2 o2 t2 => ?_), fun z => absurd z one_ne⟩
    have i160 : i < 160 := hT.2 i (by rw [c]; exact (show ¬ (3 = 5) by omega))
    refine re_M (A := A) (B := B) hz m2 o2 t2 (row := 3 * t + p) (by omega) (by omega) (by rw [show (3 : Int32) = nI 3 from rfl, k_mul, nI_add]) (fun l j d τ3 k3 b3 s3 => ⟨fun _ => ?_, fun z => absurd z one_ne⟩) (fun j d τ3 k3 e3 => ⟨fun z => absurd rfl z, fun _ => ?_⟩) ?_
    · rw [show nI p + 1 = nI (p + 1) from nI_add p 1]
      exact hO l j d τ3 (((k1.mono (fun a k z => Or.inl z)).tr (k2.mono (fun a k z => Or.inl z))).tr (k3.mono (fun a k z => Or.inr z))) b3 s3
    · rw [e3]
      exact hF j d τ3 (((k1.mono (fun a k z => Or.inl z)).tr (k2.mono (fun a k z => Or.inl z))).tr (k3.mono (fun a k z => Or.inr z)))
    · rcases hD with ⟨l, j, a, d⟩ | ⟨j, b, d⟩
      · exact Or.inl ⟨l, j, a, d.2.1, d.2.2⟩
      · rcases d with d | d | d
        · exact absurd c d.1
        · exact Or.inr ⟨j, b, Or.inl d.2⟩
        · exact Or.inr ⟨j, b, Or.inr d.2⟩
  · rw [if_neg (show ¬ (strm tp sz i).1 = (3, p) from c)]
    refine ⟨fun z => absurd rfl z, fun _ => ?_⟩
    rw [t1.2.1]
    rcases hD with ⟨l, j, a, d⟩ | ⟨j, b, d⟩
    · exact absurd d.1 c
    · rcases d with d | d | d
      · rw [d.2] at b
        exact hF i b τ1 (k1.mono (fun a k z => Or.inl z))
      · exact absurd d.1 c
      · exact absurd d.1 c
/-- the model reads a text -/
theorem ra_M (hz : sz ≤ 160) {Q : Int32 → Mem → Prop} {τ : Mem} {t : Nat} (h1 : tpM τ tp sz) (h2 : moM τ) (ht : t < 6) (hD : (∃ l0 l1 l2, txO (tkS tp sz) l0 l1 l2 ∧ ∀ τ', Kp (FMt t) τ τ' → mSeg τ' (3 * t) l0 → mSeg τ' (3 * t + 1) l1 → mSeg τ' (3 * t + 2) l2 → Q (-1) τ') ∨ ∃ j, txF (tkS tp sz) j ∧ ∀ τ', Kp (FMt t) τ τ' → Q (nI (strm tp sz j).2.1) τ') : w_X12_readAll τ (nI t) Q := by
  have hT := tkS_ok (tp := tp) hz
  have mo : ∀ p, p < 3 → ∀ a k, (F37 a k ∨ FMr (3 * t + p) a k) → FMt t a k := fun p hp a k z => z.elim (F37_t a k) (FMr_t hp a k)
  have seg : ∀ (τ1 τ2 : Mem) (r p : Nat) (l : List Int32), l.length ≤ 160 → ¬ r = 3 * t + p → Kp (fun a k => F37 a k ∨ FMr (3 * t + p) a k) τ1 τ2 → mSeg τ1 r l → mSeg τ2 r l := fun τ1 τ2 r p l hl hr k s => by
    refine ⟨?_, fun q hq => ?_⟩
    · rw [k.2.2.2 _ _ (by unfold F37 FMr; omega)]; exact s.1
    · rw [k.2.2.2 _ _ (by unfold F37 FMr; omega)]; exact s.2 q hq
  have seg' : ∀ (τ1 τ2 : Mem) (r : Nat) (l : List Int32), Kp F37 τ1 τ2 → mSeg τ1 r l → mSeg τ2 r l := fun τ1 τ2 r l k s => by
    refine ⟨?_, fun q hq => ?_⟩
    · rw [k.2.2.2 _ _ (by unfold F37; omega)]; exact s.1
    · rw [k.2.2.2 _ _ (by unfold F37; omega)]; exact s.2 q hq
  have k0 : Kp F37 τ (sI τ 37 13 0) := Kp.rf.sI _ ⟨rfl, by omega, by omega⟩
  have b0 : MB tp sz (sI τ 37 13 0) 0 := ⟨h1.fr k0 F37n8 F37n42, h2.fr k0 F37n45 F37n46, 0, Nat.zero_le _, by rw [mI_sI_s]; rfl, rfl⟩
  have k0' := k0.mono (F37_t (t := t))
  refine ⟨4, ?_⟩
  rcases hD with ⟨l0, l1, l2, ⟨j0, j1, j2, d0, d1, d2, d3⟩, hq⟩ | ⟨j, d, hq⟩
  · have n0 := ptO_len hT d0
    have n1 := ptO_len hT d1
    have n2 := ptO_len hT d2
    refine pt_M (p := 0) hz (A := fun l j => l = l0 ∧ j = j0) (B := fun _ => False) b0 ht (by omega) (fun la ja e τ1 k1 b1 s1 => ?_) (fun j e => e.elim) (Or.inl ⟨l0, j0, ⟨rfl, rfl⟩, d0⟩)
    obtain ⟨rfl, rfl⟩ := e
    refine pt_M (p := 1) hz (A := fun l j => l = l1 ∧ j = j1) (B := fun _ => False) b1 ht (by omega) (fun l' j' e τ2 k2 b2 s2 => ?_) (fun j e => e.elim) (Or.inl ⟨l1, j1, ⟨rfl, rfl⟩, d1⟩)
    obtain ⟨rfl, rfl⟩ := e
    refine pt_M (p := 2) hz (A := fun l j => l = l2 ∧ j = j2) (B := fun _ => False) b2 ht (by omega) (fun l' j' e τ3 k3 b3 s3 => ?_) (fun j e => e.elim) (Or.inl ⟨l2, j2, ⟨rfl, rfl⟩, d2⟩)
    obtain ⟨rfl, rfl⟩ := e
    refine ⟨fun _ => b3.nx (fun τ4 k4 m4 o4 t4 => ⟨fun z => ?_, fun _ => ?_⟩), fun z => absurd (by decide) z⟩
    · rw [t4.1, show (strm tp sz _).1.1 = 5 from d3] at z; exact absurd rfl z
    · refine hq τ4 ((((k0'.tr (k1.mono (mo 0 (by omega)))).tr (k2.mono (mo 1 (by omega)))).tr (k3.mono (mo 2 (by omega)))).tr (k4.mono F37_t)) ?_ ?_ ?_
      · exact seg' _ _ _ _ k4 (seg _ _ _ 2 _ (by omega) (by omega) k3 (seg _ _ _ 1 _ (by omega) (by omega) k2 s1))
      · exact seg' _ _ _ _ k4 (seg _ _ _ 2 _ (by omega) (by omega) k3 s2)
      · exact seg' _ _ _ _ k4 s3
  · rcases d with d | ⟨l0, j0, d0, d⟩ | ⟨l0, j0, l1, j1, d0, d1, d⟩ | ⟨l0, j0, l1, j1, l2, j2, d0, d1, d2, d3, e⟩
    · refine pt_M (p := 0) hz (A := fun _ _ => False) (B := fun q => q = j) b0 ht (by omega) (fun l j e => e.elim) (fun q e τ1 k1 => ?_) (Or.inr ⟨j, rfl, d⟩)
      subst e
      exact hq τ1 (k0'.tr (k1.mono (mo 0 (by omega))))
    · refine pt_M (p := 0) hz (A := fun l j => l = l0 ∧ j = j0) (B := fun _ => False) b0 ht (by omega) (fun la ja e τ1 k1 b1 s1 => ?_) (fun j e => e.elim) (Or.inl ⟨l0, j0, ⟨rfl, rfl⟩, d0⟩)
      obtain ⟨rfl, rfl⟩ := e
      refine pt_M (p := 1) hz (A := fun _ _ => False) (B := fun q => q = j) b1 ht (by omega) (fun l j e => e.elim) (fun q e τ2 k2 => ?_) (Or.inr ⟨j, rfl, d⟩)
      subst e
      exact hq τ2 ((k0'.tr (k1.mono (mo 0 (by omega)))).tr (k2.mono (mo 1 (by omega))))
    · refine pt_M (p := 0) hz (A := fun l j => l = l0 ∧ j = j0) (B := fun _ => False) b0 ht (by omega) (fun la ja e τ1 k1 b1 s1 => ?_) (fun j e => e.elim) (Or.inl ⟨l0, j0, ⟨rfl, rfl⟩, d0⟩)
      obtain ⟨rfl, rfl⟩ := e
      refine pt_M (p := 1) hz (A := fun l j => l = l1 ∧ j = j1) (B := fun _ => False) b1 ht (by omega) (fun l' j' e τ2 k2 b2 s2 => ?_) (fun j e => e.elim) (Or.inl ⟨l1, j1, ⟨rfl, rfl⟩, d1⟩)
      obtain ⟨rfl, rfl⟩ := e
      refine pt_M (p := 2) hz (A := fun _ _ => False) (B := fun q => q = j) b2 ht (by omega) (fun l j e => e.elim) (fun q e τ3 k3 => ?_) (Or.inr ⟨j, rfl, d⟩)
      subst e
      exact hq τ3 (((k0'.tr (k1.mono (mo 0 (by omega)))).tr (k2.mono (mo 1 (by omega)))).tr (k3.mono (mo 2 (by omega))))
    · refine pt_M (p := 0) hz (A := fun l j => l = l0 ∧ j = j0) (B := fun _ => False) b0 ht (by omega) (fun la ja e τ1 k1 b1 s1 => ?_) (fun j e => e.elim) (Or.inl ⟨l0, j0, ⟨rfl, rfl⟩, d0⟩)
      obtain ⟨rfl, rfl⟩ := e
      refine pt_M (p := 1) hz (A := fun l j => l = l1 ∧ j = j1) (B := fun _ => False) b1 ht (by omega) (fun l' j' e τ2 k2 b2 s2 => ?_) (fun j e => e.elim) (Or.inl ⟨l1, j1, ⟨rfl, rfl⟩, d1⟩)
      obtain ⟨rfl, rfl⟩ := e
      refine pt_M (p := 2) hz (A := fun l j => l = l2 ∧ j = j2) (B := fun _ => False) b2 ht (by omega) (fun l' j' e τ3 k3 b3 s3 => ?_) (fun j e => e.elim) (Or.inl ⟨l2, j2, ⟨rfl, rfl⟩, d2⟩)
      obtain ⟨rfl, rfl⟩ := e
      refine ⟨fun _ => b3.nx (fun τ4 k4 m4 o4 t4 => ⟨fun _ => ?_, fun z => ?_⟩), fun z => absurd (by decide) z⟩
      · rw [t4.2.1]
        subst e
        exact hq τ4 ((((k0'.tr (k1.mono (mo 0 (by omega)))).tr (k2.mono (mo 1 (by omega)))).tr (k3.mono (mo 2 (by omega)))).tr (k4.mono F37_t))
      · rw [t4.1] at z
        have w := wfT_c (hT.1 (j' + 1))
        exact absurd ((nI_is (n := 5) (show (strm tp sz (j' + 1)).1.1 < 256 by unfold tkS at w; omega) (by omega)).mp z) d3
end Txt
