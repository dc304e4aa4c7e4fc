/-! STAGE 2: TEXT: the model's steps, a token each -/
section Stp
variable {tp : Nat → Nat} {sz : Nat} {Q : Int32 → Mem → Prop} {τ : Mem} {row i : Nat} {em : List Int32} {W : List Nat} {cf : Nat → Bool} {mn : Int32} {F : Nat}
theorem MS.wf (h : MS tp sz τ row i em W cf) : wfT (tkS tp sz i) := (tkS_ok h.1.1.2.1).1 i
theorem MS.sg (h : MS tp sz τ row i em W cf) {c : Nat} (hc : c < 256) {v : Int32} (hv : v = nI c) (hq : Q (if tkS tp sz i = (4, c) then 1 else 0) τ) : w_X12_isSign τ v Q := q_sg h.1.2.2 h.wf hc hv hq
theorem MS.ky (h : MS tp sz τ row i em W cf) {c : Nat} (hc : c < 256) {v : Int32} (hv : v = nI c) (hq : Q (if tkS tp sz i = (3, c) then 1 else 0) τ) : w_X12_isKey τ v Q := q_ky h.1.2.2 h.wf hc hv hq
theorem MS.sg1 (h : MS tp sz τ row i em W cf) {c : Nat} (hc : c < 256) {v : Int32} (hv : v = nI c) (ht : tkS tp sz i = (4, c)) (hq : Q 1 τ) : w_X12_isSign τ v Q := h.sg hc hv (by rw [if_pos ht]; exact hq)
theorem MS.sg0 (h : MS tp sz τ row i em W cf) {c : Nat} (hc : c < 256) {v : Int32} (hv : v = nI c) (ht : ¬ tkS tp sz i = (4, c)) (hq : Q 0 τ) : w_X12_isSign τ v Q := h.sg hc hv (by rw [if_neg ht]; exact hq)
theorem MS.ky1 (h : MS tp sz τ row i em W cf) {c : Nat} (hc : c < 256) {v : Int32} (hv : v = nI c) (ht : tkS tp sz i = (3, c)) (hq : Q 1 τ) : w_X12_isKey τ v Q := h.ky hc hv (by rw [if_pos ht]; exact hq)
theorem MS.ky0 (h : MS tp sz τ row i em W cf) {c : Nat} (hc : c < 256) {v : Int32} (hv : v = nI c) (ht : ¬ tkS tp sz i = (3, c)) (hq : Q 0 τ) : w_X12_isKey τ v Q := h.ky hc hv (by rw [if_neg ht]; exact hq)
theorem F_suc (hi : i ≤ 160) (hF : 161 < F) : F - i = (F - (i + 1)) + 1 := by omega
/-- a number or a name -/
theorem s_num (h : MS tp sz τ row i em W cf) (hl : em.length + W.length ≤ i) (hi : i < 160) (hF : 161 < F) (ht : (tkS tp sz i).1 = 1 ∨ (tkS tp sz i).1 = 2) (hq : ∀ τ', Kp (FMr row) τ τ' → MS tp sz τ' row (i + 1) (pop 7 W (em ++ [if (tkS tp sz i).1 = 1 then -1 - nI (tkS tp sz i).2 else nI (tkS tp sz i).2])).2 (pop 7 W (em ++ [if (tkS tp sz i).1 = 1 then -1 - nI (tkS tp sz i).2 else nI (tkS tp sz i).2])).1 cf → w_X12_readE_40 Q (F - (i + 1)) (nI row) 0 mn τ') : w_X12_readE_40 Q (F - i) (nI row) 1 mn τ := by
  have wf := h.wf
  rw [F_suc (by omega) hF]
  have tk := h.1.2.2
  have t14 : mI τ 37 14 = nI (tkS tp sz i).1 := tk.1
  have t15 : mI τ 37 15 = nI (tkS tp sz i).2 := tk.2.2.2 (show (tkS tp sz i).1 < 5 by omega)
  have go : ∀ v, v = (if (tkS tp sz i).1 = 1 then -1 - nI (tkS tp sz i).2 else nI (tkS tp sz i).2) → w_X12_readE_82 Q (fun z0 z1 z2 z3 => w_X12_readE_40 Q (F - (i + 1)) z0 z1 z2 z3) (nI row) mn v τ := fun v hv => by
    subst hv
    generalize (if (tkS tp sz i).1 = 1 then -1 - nI (tkS tp sz i).2 else nI (tkS tp sz i).2) = v at hq ⊢
    unfold w_X12_readE_82 w_X12_emit
    have h' := h
    obtain ⟨⟨a1, a2, a3⟩, ⟨b1, b2, b3⟩, ⟨c1, c2⟩, ⟨d1, d2⟩, e1, f1, f2, f3⟩ := h'
    rw [b1, b2, nI_add, k_cl (by omega), show nI em.length + 1 = nI (em.length + 1) from nI_add _ 1]
    refine ⟨vp_in_nI (by omega) (by omega), ?_⟩
    have k : Kp (FMr row) τ (sI (sI τ 43 (160 * row + em.length) v) 37 25 (nI (em.length + 1))) := (Kp.rf.sI _ (Or.inr (Or.inl ⟨rfl, by omega, by omega⟩))).sI _ (Or.inl ⟨rfl, by omega, by omega⟩)
    have m := mac_fr (i := i) k ⟨a1, a2⟩
    have s1 : MS tp sz (sI (sI τ 43 (160 * row + em.length) v) 37 25 (nI (em.length + 1))) row i (em ++ [v]) W cf := by
      refine ⟨⟨m.1, m.2, ⟨?_, ?_, ?_, fun z => ?_⟩⟩, ⟨?_, ?_, fun q hq => ?_⟩, ⟨?_, c2.fr (fun q _ => ?_)⟩, ⟨?_, ?_⟩, fun n hn => ?_, f1, f2, f3⟩
      · simp [mI_sI]; exact a3.1
      · simp [mI_sI]; exact a3.2.1
      · simp [mI_sI]; exact a3.2.2.1
      · simp [mI_sI]; exact a3.2.2.2 z
      · simp [mI_sI]; exact b1
      · rw [mI_sI_s, List.length_append, List.length_singleton]
      · rw [List.length_append, List.length_singleton] at hq
        rw [getD_app1 em _ hq]
        by_cases e : q = em.length
        · rw [if_pos e, e]; simp [mI_sI]
        · rw [if_neg e]
          have := b3 q (by omega)
          simp [mI_sI, e]; exact this
      · simp [mI_sI]; exact c1
      · simp [mI_sI]
      · simp [mI_sI]; exact d1
      · simp [mI_sI]; exact d2
      · simp [mI_sI]; exact e1 n hn
    refine da_S (r := 7) (by omega) s1 (by rw [List.length_append, List.length_singleton]; omega) rfl (fun τ2 k2 h2 => ?_)
    exact nx_S h2 (fun τ3 k3 h3 => hq τ3 ((k.tr k2).tr k3) h3)
  have g60 : w_X12_readE_60 Q (fun z0 z1 z2 z3 => w_X12_readE_40 Q (F - (i + 1)) z0 z1 z2 z3) (nI row) mn τ := by
    unfold w_X12_readE_60
    rw [t14, t15]
    refine ⟨fun z => go _ ?_, fun z => go _ ?_⟩
    · rw [if_neg (fun q => z (by rw [q]; rfl))]
    · rw [if_pos ((nI_is (n := 1) (by omega) (by omega)).mp z)]
  refine ⟨fun z => absurd z one_ne, fun _ => ⟨fun _ => g60, fun z1 => ⟨fun z2 => ?_, fun _ => g60⟩⟩⟩
  rw [t14] at z1 z2
  rcases ht with q | q
  · exact absurd (by rw [q]; rfl) z1
  · exact absurd (by rw [q]; rfl) z2
/-- what stands ahead waits -/
theorem push_S {p : Nat} {n' : Nat} (h : MS tp sz τ row i em W cf) (hl : W.length < 170) (hp : p < 256) (ho : cO (p :: W) ≤ 5) (cf' : Nat → Bool) (τ' : Mem) (k : Kp (FMr row) τ τ') (t : tkM τ' (strm tp sz i)) (g24 : mI τ' 37 24 = mI τ 37 24) (g25 : mI τ' 37 25 = mI τ 37 25) (g43 : ∀ q, mI τ' 43 q = mI τ 43 q) (g20 : mI τ' 37 20 = nI (W.length + 1)) (g47 : mI τ' 47 W.length = nI p) (g47' : ∀ q, q < W.length → mI τ' 47 q = mI τ 47 q) (g21 : mI τ' 37 21 = nI (cO (p :: W))) (g22 : mI τ' 37 22 = nI (cN (p :: W))) (g48 : ∀ n, n ≤ cN (p :: W) → mI τ' 48 n = if cf' n = true then 1 else 0) : MS tp sz τ' row i em (p :: W) cf' := by
  obtain ⟨⟨a1, a2, a3⟩, ⟨b1, b2, b3⟩, ⟨c1, c2⟩, ⟨d1, d2⟩, e1, f1, f2, f3⟩ := h
  have m := mac_fr (i := i) k ⟨a1, a2⟩
  refine ⟨⟨m.1, m.2, t⟩, ⟨by rw [g24]; exact b1, by rw [g25]; exact b2, fun q hq => by rw [g43]; exact b3 q hq⟩, ⟨g20, g47, c2.fr g47'⟩, ⟨g21, g22⟩, g48, f1, ho, fun q hq => ?_⟩
  rcases List.mem_cons.mp hq with e | e
  · rw [e]; exact hp
  · exact f3 q e
theorem tkM_of {τ' : Mem} {s : (Nat × Nat) × Nat × Nat} (h : tkM τ s) (g : ∀ k, 13 ≤ k → k ≤ 16 → mI τ' 37 k = mI τ 37 k) : tkM τ' s :=
  ⟨by rw [g _ (by omega) (by omega)]; exact h.1, by rw [g _ (by omega) (by omega)]; exact h.2.1, by rw [g _ (by omega) (by omega)]; exact h.2.2.1, fun z => by rw [g _ (by omega) (by omega)]; exact h.2.2.2 z⟩
/-- it wants, and a sign ( stands there -/
theorem s_open (h : MS tp sz τ row i em W cf) (hl : em.length + W.length ≤ i) (hi : i < 160) (hF : 161 < F) (ht : tkS tp sz i = (4, 40)) (ho : cO W < 5) (hq : ∀ τ', Kp (FMr row) τ τ' → MS tp sz τ' row (i + 1) em (30 :: W) (fun n => if n = cN W + 1 then false else cf n) → w_X12_readE_40 Q (F - (i + 1)) (nI row) 1 1 τ') : w_X12_readE_40 Q (F - i) (nI row) 1 mn τ := by
  rw [F_suc (by omega) hF]
  have tk := h.1.2.2
  have t14 : mI τ 37 14 = 4 := by rw [tk.1, show (strm tp sz i).1 = (4, 40) from ht]; rfl
  have n45 : ¬ tkS tp sz i = (4, 45) := by rw [ht]; decide
  have hn := cN_le W
  have h96 : w_X12_readE_96 Q (fun z0 z1 z2 z3 => w_X12_readE_40 Q (F - (i + 1)) z0 z1 z2 z3) (nI row) 1 mn τ := by
    refine ⟨fun z => absurd z one_ne, fun _ => h.sg0 (c := 45) (by omega) rfl n45 ?_⟩
    refine h.sg1 (c := 40) (by omega) rfl ht ⟨fun _ => ?_, fun z => absurd z one_ne⟩
    refine ⟨fun z => absurd z one_ne, fun _ => ⟨fun _ => ?_, fun z => ?_⟩⟩
    · rw [h.2.2.2.1.1, show nI (cO W) + 1 = nI (cO W + 1) from nI_add _ 1]
      have tk2 : tkM (sI τ 37 21 (nI (cO W + 1))) (strm tp sz i) := tkM_of tk (fun k h1 h2 => by rw [mI_sI_k _ _ (by omega)])
      refine q_sg (c := 40) tk2 h.wf (by omega) rfl ?_
      rw [show (strm tp sz i).1 = (4, 40) from ht, if_pos rfl]
      refine ⟨fun z => absurd z one_ne, fun _ => ?_⟩
      unfold w_X12_await
      rw [mI_sI_k _ _ (by omega), h.2.2.1.1, k_cl (by omega), show nI W.length + 1 = nI (W.length + 1) from nI_add _ 1]
      refine ⟨vp_in_nI (by omega) (by omega), ?_⟩
      have e22 : mI (sI (sI (sI τ 37 21 (nI (cO W + 1))) 47 W.length 30) 37 20 (nI (W.length + 1))) 37 22 = nI (cN W) := by simp [mI_sI]; exact h.2.2.2.1.2
      dsimp only
      rw [e22, show nI (cN W) + 1 = nI (cN W + 1) from nI_add _ 1, k_cl (by omega)]
      refine ⟨vp_in_nI (by omega) (by omega), ⟨fun _ => ⟨fun z => absurd rfl z, fun _ => ?_⟩, fun z => absurd z one_ne⟩⟩
      have k : Kp (FMr row) τ (sI (sI (sI (sI (sI τ 37 21 (nI (cO W + 1))) 47 W.length 30) 37 20 (nI (W.length + 1))) 37 22 (nI (cN W + 1))) 48 (cN W + 1) 0) :=
        ((((Kp.rf.sI _ (Or.inl ⟨rfl, by omega, by omega⟩)).sI _ (Or.inr (Or.inr (Or.inl rfl)))).sI _ (Or.inl ⟨rfl, by omega, by omega⟩)).sI _ (Or.inl ⟨rfl, by omega, by omega⟩)).sI _ (Or.inr (Or.inr (Or.inr (Or.inl rfl))))
      have eO : cO (30 :: W) = cO W + 1 := by rw [cO, if_pos (Or.inr (Or.inr rfl))]; omega
      have eN : cN (30 :: W) = cN W + 1 := by rw [cN, if_pos rfl]; omega
      refine nx_S (push_S (n' := 0) h (p := 30) (by omega) (by omega) (by omega) (fun n => if n = cN W + 1 then false else cf n) _ k ?_ ?_ ?_ ?_ ?_ ?_ ?_ ?_ ?_ ?_) (fun τ3 k3 h3 => hq τ3 (k.tr k3) h3)
      · exact tkM_of tk (fun q h1 h2 => by rw [mI_sI_n _ _ (by omega), mI_sI_k _ _ (by omega), mI_sI_k _ _ (by omega), mI_sI_n _ _ (by omega), mI_sI_k _ _ (by omega)])
      · simp [mI_sI]
      · simp [mI_sI]
      · intro q; simp [mI_sI]
      · simp [mI_sI]
      · simp [mI_sI]; rfl
      · intro q hq2
        have : ¬ q = W.length := by omega
        simp [mI_sI, this]
      · rw [eO]; simp [mI_sI]
      · rw [eN]; simp [mI_sI]
      · intro n hn2
        rw [eN] at hn2
        have := h.2.2.2.2.1
        by_cases c : n = cN W + 1
        · simp [mI_sI, c]
        · have := this n (by omega)
          simp [mI_sI, c]; simpa using this
    · rw [h.2.2.2.1.1] at z
      exact absurd ((nI_is (n := 5) (by omega) (by omega)).mp z) (by omega)
  refine ⟨fun z => absurd z one_ne, fun _ => ⟨fun z => ?_, fun _ => ⟨fun _ => h96, fun z => ?_⟩⟩⟩
  · rw [t14] at z; exact absurd z (by decide)
  · rw [t14] at z; exact absurd z (by decide)
/-- it wants, and a sign - or a word not stands there -/
theorem s_pre {p : Nat} (h : MS tp sz τ row i em W cf) (hl : em.length + W.length ≤ i) (hi : i < 160) (hF : 161 < F) (ht : (tkS tp sz i = (4, 45) ∧ p = 18) ∨ (tkS tp sz i = (3, 5) ∧ p = 12 ∧ ¬ mn = 0)) (ho : cO W < 5) (hq : ∀ τ', Kp (FMr row) τ τ' → MS tp sz τ' row (i + 1) em (p :: W) cf → w_X12_readE_40 Q (F - (i + 1)) (nI row) 1 (if p = 18 then 0 else 1) τ') : w_X12_readE_40 Q (F - i) (nI row) 1 mn τ := by
  rw [F_suc (by omega) hF]
  have tk := h.1.2.2
  have t14 : mI τ 37 14 = nI (tkS tp sz i).1 := tk.1
  have t34 : (tkS tp sz i).1 = 3 ∨ (tkS tp sz i).1 = 4 := by
    rcases ht with q | q
    · rw [q.1]; exact Or.inr rfl
    · rw [q.1]; exact Or.inl rfl
  have n40 : ¬ tkS tp sz i = (4, 40) := by
    rcases ht with q | q
    · rw [q.1]; decide
    · rw [q.1]; decide
  have hn := cN_le W
  have p2 : p = 12 ∨ p = 18 := by rcases ht with q | q <;> omega
  have h35 : ∀ (K : Int32 → Mem → Prop), (∀ τ', Kp (FMr row) τ τ' → MS tp sz τ' row i em (p :: W) cf → K 1 τ') → w_X12_ahead_35 K 1 τ := fun K hK => by
    refine ⟨fun z => absurd z one_ne, fun _ => ⟨fun _ => ?_, fun z => ?_⟩⟩
    · rw [h.2.2.2.1.1, show nI (cO W) + 1 = nI (cO W + 1) from nI_add _ 1]
      have tk2 : tkM (sI τ 37 21 (nI (cO W + 1))) (strm tp sz i) := tkM_of tk (fun k h1 h2 => by rw [mI_sI_k _ _ (by omega)])
      refine q_sg (c := 40) tk2 h.wf (by omega) rfl ?_
      rw [if_neg (show ¬ (strm tp sz i).1 = (4, 40) from n40)]
      refine ⟨fun _ => ?_, fun z => absurd rfl z⟩
      have fin : ∀ v, v = nI p → w_X12_ahead_114 K v (sI τ 37 21 (nI (cO W + 1))) := fun v hv => by
        subst hv
        unfold w_X12_ahead_114 w_X12_await
        rw [mI_sI_k _ _ (by omega), h.2.2.1.1, k_cl (by omega), show nI W.length + 1 = nI (W.length + 1) from nI_add _ 1]
        refine ⟨vp_in_nI (by omega) (by omega), ?_⟩
        have k : Kp (FMr row) τ (sI (sI (sI τ 37 21 (nI (cO W + 1))) 47 W.length (nI p)) 37 20 (nI (W.length + 1))) :=
          ((Kp.rf.sI _ (Or.inl ⟨rfl, by omega, by omega⟩)).sI _ (Or.inr (Or.inr (Or.inl rfl)))).sI _ (Or.inl ⟨rfl, by omega, by omega⟩)
        have eO : cO (p :: W) = cO W + 1 := by rw [cO, if_pos (by omega)]; omega
        have eN : cN (p :: W) = cN W := by rw [cN, if_neg (by omega)]; omega
        refine hK _ k (push_S (n' := 0) h (p := p) (by omega) (by omega) (by omega) cf _ k ?_ ?_ ?_ ?_ ?_ ?_ ?_ ?_ ?_ ?_)
        · exact tkM_of tk (fun q h1 h2 => by rw [mI_sI_k _ _ (by omega), mI_sI_n _ _ (by omega), mI_sI_k _ _ (by omega)])
        · simp [mI_sI]
        · simp [mI_sI]
        · intro q; simp [mI_sI]
        · simp [mI_sI]
        · simp [mI_sI]
        · intro q hq2
          have : ¬ q = W.length := by omega
          simp [mI_sI, this]
        · rw [eO]; simp [mI_sI]
        · rw [eN]; simp [mI_sI]; exact h.2.2.2.1.2
        · intro n hn2
          rw [eN] at hn2
          have := h.2.2.2.2.1 n hn2
          simp [mI_sI]; simpa using this
      rw [mI_sI_k _ _ (by omega), t14]
      refine ⟨fun z => fin _ ?_, fun z => fin _ ?_⟩
      · rcases ht with q | q
        · rw [q.2]; rfl
        · exact absurd (by rw [q.1]; rfl) z
      · have t3 : (tkS tp sz i).1 = 3 := (nI_is (n := 3) (by omega) (by omega)).mp z
        rcases ht with q | q
        · rw [q.1] at t3; exact absurd t3 (by decide)
        · rw [q.2.1]; rfl
    · rw [h.2.2.2.1.1] at z
      exact absurd ((nI_is (n := 5) (by omega) (by omega)).mp z) (by omega)
  have h96 : w_X12_readE_96 Q (fun z0 z1 z2 z3 => w_X12_readE_40 Q (F - (i + 1)) z0 z1 z2 z3) (nI row) 1 mn τ := by
    refine ⟨fun z => absurd z one_ne, fun _ => ?_⟩
    rcases ht with q | q
    · refine h.sg1 (c := 45) (by omega) rfl q.1 ?_
      refine h.sg0 (c := 40) (by omega) rfl n40 ⟨fun z => absurd rfl z, fun _ => ?_⟩
      refine h.sg1 (c := 45) (by omega) rfl q.1 ⟨fun _ => ?_, fun z => absurd z one_ne⟩
      refine h35 _ (fun τ2 k2 h2 => ⟨fun _ => ⟨fun _ => ?_, fun z => absurd z one_ne⟩, fun z => absurd z one_ne⟩)
      refine nx_S h2 (fun τ3 k3 h3 => ?_)
      have := hq τ3 (k2.tr k3) h3
      rw [if_pos q.2] at this
      exact this
    · have n45 : ¬ tkS tp sz i = (4, 45) := by rw [q.1]; decide
      refine h.sg0 (c := 45) (by omega) rfl n45 ?_
      refine h.sg0 (c := 40) (by omega) rfl n40 ⟨fun z => absurd rfl z, fun _ => ?_⟩
      refine h.sg0 (c := 45) (by omega) rfl n45 ⟨fun z => absurd rfl z, fun _ => ⟨fun z => absurd z q.2.2, fun _ => ?_⟩⟩
      refine h.ky1 (c := 5) (by omega) rfl q.1 ⟨fun z => absurd z one_ne, fun _ => ?_⟩
      refine h35 _ (fun τ2 k2 h2 => ⟨fun _ => ⟨fun z => absurd rfl z, fun _ => ?_⟩, fun z => absurd z one_ne⟩)
      refine nx_S h2 (fun τ3 k3 h3 => ?_)
      have := hq τ3 (k2.tr k3) h3
      rw [if_neg (by omega)] at this
      exact this
  refine ⟨fun z => absurd z one_ne, fun _ => ⟨fun z => ?_, fun _ => ⟨fun _ => h96, fun z => ?_⟩⟩⟩
  · rw [t14] at z; exact absurd ((nI_is (n := 1) (by omega) (by omega)).mp z) (by omega)
  · rw [t14] at z; exact absurd ((nI_is (n := 2) (by omega) (by omega)).mp z) (by omega)
/-- it wants, and nothing that can begin stands there, or too many are open -/
theorem s_bad (h : MS tp sz τ row i em W cf) (hi : i ≤ 160) (hF : 161 < F) (h1 : ¬ (tkS tp sz i).1 = 1) (h2 : ¬ (tkS tp sz i).1 = 2) (ht : (¬ tkS tp sz i = (4, 45) ∧ ¬ tkS tp sz i = (4, 40) ∧ (mn = 0 ∨ ¬ tkS tp sz i = (3, 5))) ∨ cO W = 5) (hq : Q 0 τ) : w_X12_readE_40 Q (F - i) (nI row) 1 mn τ := by
  rw [F_suc hi hF]
  have tk := h.1.2.2
  have wf := wfT_c h.wf
  have t14 : mI τ 37 14 = nI (tkS tp sz i).1 := tk.1
  have h35 : ∀ (K : Int32 → Mem → Prop), K 0 τ → cO W = 5 → w_X12_ahead_35 K 1 τ := fun K hK h5 => by
    refine ⟨fun z => absurd z one_ne, fun _ => ⟨fun z => ?_, fun _ => hK⟩⟩
    rw [h.2.2.2.1.1, h5] at z; exact absurd rfl z
  have h34 : ∀ (K : Int32 → Mem → Prop), K 0 τ → w_X12_ahead_34 K τ := fun K hK => ⟨fun _ => hK, fun z => absurd rfl z⟩
  have h96 : w_X12_readE_96 Q (fun z0 z1 z2 z3 => w_X12_readE_40 Q (F - (i + 1)) z0 z1 z2 z3) (nI row) 1 mn τ := by
    refine ⟨fun z => absurd z one_ne, fun _ => h.sg (c := 45) (by omega) rfl ?_⟩
    generalize (if tkS tp sz i = (4, 45) then (1 : Int32) else 0) = v107
    have end0 : (¬ (0 : Int32) = 0 → ((¬ v107 = 0 → (w_X12_readE_128 Q (fun z0 z1 z2 z3 => w_X12_readE_40 Q (F - (i + 1)) z0 z1 z2 z3) (nI row) 1 0 τ)) ∧ (v107 = 0 → (w_X12_readE_128 Q (fun z0 z1 z2 z3 => w_X12_readE_40 Q (F - (i + 1)) z0 z1 z2 z3) (nI row) 1 1 τ)))) ∧ ((0 : Int32) = 0 → (Q 0 τ)) := ⟨fun z => absurd rfl z, fun _ => hq⟩
    unfold w_X12_ahead
    refine h.sg (c := 40) (by omega) rfl ?_
    by_cases c40 : tkS tp sz i = (4, 40)
    · rw [if_pos c40]
      refine ⟨fun _ => h35 _ end0 ?_, fun z => absurd z one_ne⟩
      rcases ht with q | q
      · exact absurd c40 q.2.1
      · exact q
    rw [if_neg c40]
    refine ⟨fun z => absurd rfl z, fun _ => h.sg (c := 45) (by omega) rfl ?_⟩
    by_cases c45 : tkS tp sz i = (4, 45)
    · rw [if_pos c45]
      refine ⟨fun _ => h35 _ end0 ?_, fun z => absurd z one_ne⟩
      rcases ht with q | q
      · exact absurd c45 q.1
      · exact q
    rw [if_neg c45]
    refine ⟨fun z => absurd rfl z, fun _ => ⟨fun _ => h34 _ end0, fun z => h.ky (c := 5) (by omega) rfl ?_⟩⟩
    by_cases c5 : tkS tp sz i = (3, 5)
    · rw [if_pos c5]
      refine ⟨fun z => absurd z one_ne, fun _ => h35 _ end0 ?_⟩
      rcases ht with q | q
      · exact (q.2.2.elim (fun z2 => absurd z2 z) (fun z2 => absurd c5 z2))
      · exact q
    rw [if_neg c5]
    exact ⟨fun _ => h34 _ end0, fun z => absurd rfl z⟩
  refine ⟨fun z => absurd z one_ne, fun _ => ⟨fun z => ?_, fun _ => ⟨fun _ => h96, fun z => ?_⟩⟩⟩
  · rw [t14] at z; exact absurd ((nI_is (n := 1) (by omega) (by omega)).mp z) h1
  · rw [t14] at z; exact absurd ((nI_is (n := 2) (by omega) (by omega)).mp z) h2
end Stp
