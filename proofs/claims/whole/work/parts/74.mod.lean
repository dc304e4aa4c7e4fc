/-! STAGE 2: TEXT: the model's machine does the grammar -/
def ax (x : Nat) : Nat := if x = 3 then 4 else x
def nxt (x : Nat) (t : Nat × Nat) (c : Bool) : Prop := (x ≤ 6 → opc 6 t = none) ∧ (x ≤ 5 → opc 5 t = none) ∧ (x ≤ 4 → ¬ opc 4 t = none → c = true) ∧ (x ≤ 2 → opc 2 t = none) ∧ (x ≤ 1 → opc 1 t = none)
def cfp (x m : Nat) (cf cf' : Nat → Bool) : Prop := ∀ n, n ≤ m → (n < m ∨ 5 ≤ x) → cf' n = cf n
def mnp (x : Nat) (mn : Int32) (t : Nat × Nat) : Prop := (x ≤ 3 → ¬ mn = 0) ∧ (5 ≤ x → mn = 0 ∨ ¬ t = (3, 5))
def cA (tp : Nat → Nat) (sz x o i : Nat) (l : List Int32) (j : Nat) : Prop := ∀ (τ : Mem) (row : Nat) (em : List Int32) (W : List Nat) (cf : Nat → Bool) (mn : Int32) (F : Nat) (Q : Int32 → Mem → Prop), MS tp sz τ row i em W cf → em.length + W.length ≤ i → i ≤ 160 → 161 < F → cO W = o → topR (ax x) W → mnp x mn (tkS tp sz i) → (x ≤ 3 → cf (cN W) = false) → (∀ (τ' : Mem) (Pd : List Nat) (em' : List Int32) (cf' : Nat → Bool) (mn' : Int32), Kp (FMr row) τ τ' → MS tp sz τ' row j em' (Pd ++ W) cf' → (∀ p ∈ Pd, ¬ p = 30 ∧ x ≤ rk p) → em' ++ Pd.map nI = em ++ l.map trS → cfp x (cN W) cf cf' → nxt x (tkS tp sz j) (cf' (cN W)) → w_X12_readE_40 Q (F - j) (nI row) 0 mn' τ') → w_X12_readE_40 Q (F - i) (nI row) 1 mn τ
def cB (tp : Nat → Nat) (sz o i : Nat) (l : List Int32) (j : Nat) : Prop := ∀ (τ : Mem) (row : Nat) (em : List Int32) (W : List Nat) (cf : Nat → Bool) (mn : Int32) (F : Nat) (Q : Int32 → Mem → Prop), MS tp sz τ row i em W cf → em.length + W.length ≤ i → i ≤ 160 → 161 < F → cO W = o → mnp 7 mn (tkS tp sz i) → (∀ (τ' : Mem) (cf' : Nat → Bool) (mn' : Int32), Kp (FMr row) τ τ' → MS tp sz τ' row j (pop 7 W (em ++ l.map trS)).2 (pop 7 W (em ++ l.map trS)).1 cf' → (∀ n, n ≤ cN W → cf' n = cf n) → w_X12_readE_40 Q (F - j) (nI row) 0 mn' τ') → w_X12_readE_40 Q (F - i) (nI row) 1 mn τ
def cC (tp : Nat → Nat) (sz x o i : Nat) (l : List Int32) (j : Nat) : Prop := ∀ (τ : Mem) (row : Nat) (em : List Int32) (W Pd : List Nat) (cf : Nat → Bool) (mn : Int32) (F : Nat) (Q : Int32 → Mem → Prop), MS tp sz τ row i em (Pd ++ W) cf → em.length + (Pd ++ W).length ≤ i → i ≤ 160 → 161 < F → cO W = o → topR (ax x) W → (∀ p ∈ Pd, ¬ p = 30 ∧ x ≤ rk p) → nxt (sbl x) (tkS tp sz i) (cf (cN W)) → (∀ (τ' : Mem) (Pd' : List Nat) (em' : List Int32) (cf' : Nat → Bool) (mn' : Int32), Kp (FMr row) τ τ' → MS tp sz τ' row j em' (Pd' ++ W) cf' → (∀ p ∈ Pd', ¬ p = 30 ∧ x ≤ rk p) → em' ++ Pd'.map nI = em ++ Pd.map nI ++ l.map trS → cfp x (cN W) cf cf' → nxt x (tkS tp sz j) (cf' (cN W)) → w_X12_readE_40 Q (F - j) (nI row) 0 mn' τ') → w_X12_readE_40 Q (F - i) (nI row) 0 mn τ
def mO (tp : Nat → Nat) (sz x o i : Nat) (l : List Int32) (j : Nat) : Prop := rdO (tkS tp sz) x o i l j ∧ (x < 10 → cA tp sz x o i l j) ∧ (x = 7 → cB tp sz o i l j) ∧ (10 ≤ x → cC tp sz (x - 10) o i l j)
section Mod
variable {tp : Nat → Nat} {sz : Nat}
theorem cB_A {o i : Nat} {l : List Int32} {j : Nat} (h : cB tp sz o i l j) : cA tp sz 7 o i l j := by
  intro τ row em W cf mn F Q hM hl hi hF ho hW hm _ hq
  refine h τ row em W cf mn F Q hM hl hi hF ho hm (fun τ' cf' mn' k s c => ?_)
  rw [pop_top (show topR 7 W from hW)] at s
  dsimp only at s
  exact hq τ' [] _ cf' mn' k s (fun p hp => by cases hp) (by simp) (fun n hn _ => c n hn) ⟨fun z => absurd z (by omega), fun z => absurd z (by omega), fun z => absurd z (by omega), fun z => absurd z (by omega), fun z => absurd z (by omega)⟩
theorem mO_1 {o i : Nat} {l : List Int32} {j : Nat} (hr : rdO (tkS tp sz) 7 o i l j) (h : cB tp sz o i l j) : mO tp sz 7 o i l j := ⟨hr, fun _ => cB_A h, fun _ => h, fun z => absurd z (by omega)⟩
theorem mO_A {x o i : Nat} {l : List Int32} {j : Nat} (hx : x < 7) (hr : rdO (tkS tp sz) x o i l j) (h : cA tp sz x o i l j) : mO tp sz x o i l j := ⟨hr, fun _ => h, fun z => absurd z (by omega), fun z => absurd z (by omega)⟩
theorem mO_C {x o i : Nat} {l : List Int32} {j : Nat} (hr : rdO (tkS tp sz) (10 + x) o i l j) (h : cC tp sz x o i l j) : mO tp sz (10 + x) o i l j := ⟨hr, fun z => absurd z (by omega), fun z => absurd z (by omega), fun _ => by rw [show 10 + x - 10 = x by omega]; exact h⟩
theorem trS_nu {v : Nat} (h : v < 10000) : trS (nI v) = -1 - nI v := by
  unfold trS
  rw [if_pos]
  rw [fa_le, nI_toInt (by omega)]
  have : (-6 : Int32).toInt = -6 := by decide
  omega
theorem trS_nm : ∀ a, a < 6 → trS (-1 - nI a) = nI a := by decide
theorem lvl_s {x : Nat} (h : lvl x) : x ≤ sbl x ∧ sbl x < 10 ∧ ax x ≤ ax (sbl x) ∧ x < ax (sbl x) ∧ ¬ x = 4 ∧ ax x = x ∧ (x ≤ 3 → x ≤ 2) ∧ (sbl x ≤ 3 ↔ x ≤ 2) ∧ (5 ≤ sbl x ↔ 5 ≤ x) ∧ x < 7 ∧ (x ≤ 2 ∨ 5 ≤ x) := by
  rcases h with rfl | rfl | rfl | rfl <;> decide
/-- the lengths go on -/
theorem len_go {em em' : List Int32} {Pd W : List Nat} {l : List Int32} {i j : Nat} (e : em' ++ Pd.map nI = em ++ l.map trS) (hl : em.length + W.length ≤ i) (hj : i + l.length ≤ j) : em'.length + (Pd ++ W).length ≤ j := by
  have := congrArg List.length e
  rw [List.length_append, List.length_append, List.length_map, List.length_map] at this
  rw [List.length_append]
  omega
theorem len_g2 {em em' : List Int32} {Pd Pd' W : List Nat} {l : List Int32} {i j : Nat} (e : em' ++ Pd'.map nI = em ++ Pd.map nI ++ l.map trS) (hl : em.length + (Pd ++ W).length ≤ i) (hj : i + l.length ≤ j) : em'.length + (Pd' ++ W).length ≤ j := by
  have := congrArg List.length e
  rw [List.length_append, List.length_append, List.length_append, List.length_map, List.length_map, List.length_map] at this
  rw [List.length_append] at hl ⊢
  omega
theorem nxt_1 {x : Nat} (hx : lvl x) {t : Nat × Nat} {c : Bool} (h : nxt (sbl x) t c) (h2 : opc x t = none) : nxt x t c := by
  obtain ⟨a, b, d, e, f⟩ := h
  rcases hx with rfl | rfl | rfl | rfl
  · exact ⟨fun _ => a (by decide), fun _ => b (by decide), fun _ => d (by decide), fun _ => e (by decide), fun _ => h2⟩
  · exact ⟨fun _ => a (by decide), fun _ => b (by decide), fun _ => d (by decide), fun _ => h2, fun z => absurd z (by decide)⟩
  · exact ⟨fun _ => a (by decide), fun _ => h2, fun z => absurd z (by decide), fun z => absurd z (by decide), fun z => absurd z (by decide)⟩
  · exact ⟨fun _ => h2, fun z => absurd z (by decide), fun z => absurd z (by decide), fun z => absurd z (by decide), fun z => absurd z (by decide)⟩
theorem rdO_M (hz : sz ≤ 160) {x o i : Nat} {l : List Int32} {j : Nat} (h : rdO (tkS tp sz) x o i l j) : mO tp sz x o i l j := by
  have hT := tkS_ok (tp := tp) hz
  have tk : ∀ {i : Nat} {a b : Nat}, tkS tp sz i = (a, b) → ¬ a = 5 → i < 160 := fun {i a b} e n => hT.2 i (by rw [e]; exact n)
  refine h (mO tp sz) ⟨?_, ?_, ?_, ?_, ?_, ?_, ?_, ?_, ?_, ?_⟩
  · intro o i v ht
    refine mO_1 ((rdO_cl _).1 o i v ht) (fun τ row em W cf mn F Q hM hl hi hF ho hm hq => ?_)
    refine s_num hM hl (tk ht (by omega)) hF (Or.inl (by rw [ht])) (fun τ' k s => hq τ' cf mn k ?_ (fun n _ => rfl))
    rw [ht] at s
    rw [List.map_cons, List.map_nil, trS_nu (wf_1 hT ht)]
    exact s
  · intro o i a ht
    refine mO_1 ((rdO_cl _).2.1 o i a ht) (fun τ row em W cf mn F Q hM hl hi hF ho hm hq => ?_)
    refine s_num hM hl (tk ht (by omega)) hF (Or.inr (by rw [ht])) (fun τ' k s => hq τ' cf mn k ?_ (fun n _ => rfl))
    rw [ht] at s
    rw [List.map_cons, List.map_nil, trS_nm a (wf_2 hT ht)]
    exact s
  · intro o i l j ht h5 ih
    refine mO_1 ((rdO_cl _).2.2.1 o i l j ht h5 ih.1) (fun τ row em W cf mn F Q hM hl hi hF ho hm hq => ?_)
    have i160 := tk ht (by omega)
    refine s_pre (p := 18) hM hl i160 hF (Or.inl ⟨ht, rfl⟩) (by omega) (fun τ1 k1 s1 => ?_)
    have eO : cO (18 :: W) = o + 1 := by rw [cO, if_pos (Or.inr (Or.inl rfl))]; omega
    have eN : cN (18 :: W) = cN W := by rw [cN, if_neg (by omega)]; omega
    refine ih.2.2.1 rfl τ1 row em (18 :: W) cf _ F Q s1 (by rw [List.length_cons]; omega) (by omega) hF eO ⟨fun z => absurd z (by omega), fun _ => Or.inl rfl⟩ (fun τ2 cf2 mn2 k2 s2 c2 => ?_)
    have ep : pop 7 (18 :: W) (em ++ l.map trS) = pop 7 W (em ++ (l ++ [-22]).map trS) := by
      rw [pop, if_neg (by decide), List.map_append, ← List.append_assoc]; rfl
    rw [ep] at s2
    rw [eN] at c2
    exact hq τ2 cf2 mn2 (k1.tr k2) s2 c2
  · intro o i l j ht h5 ih htj
    refine mO_1 ((rdO_cl _).2.2.2.1 o i l j ht h5 ih.1 htj) (fun τ row em W cf mn F Q hM hl hi hF ho hm hq => ?_)
    have i160 := tk ht (by omega)
    have j160 := tk htj (by omega)
    have le := rdO_len hT ih.1
    refine s_open hM hl i160 hF ht (by omega) (fun τ1 k1 s1 => ?_)
    have eO : cO (30 :: W) = o + 1 := by rw [cO, if_pos (Or.inr (Or.inr rfl))]; omega
    have eN : cN (30 :: W) = cN W + 1 := by rw [cN, if_pos rfl]; omega
    refine ih.2.1 (by omega) τ1 row em (30 :: W) _ 1 F Q s1 (by rw [List.length_cons]; omega) (by omega) hF eO (topR_cons (Or.inl rfl)) ⟨fun _ => one_ne, fun z => absurd z (by omega)⟩ (fun _ => by rw [eN]; simp) (fun τ2 Pd em2 cf2 mn2 k2 s2 r2 e2 c2 n2 => ?_)
    refine s_close s2 (len_go e2 (by rw [List.length_cons]; omega) le.1) j160 hF htj r2 (fun τ3 k3 s3 => ?_)
    rw [e2] at s3
    refine hq τ3 cf2 mn2 ((k1.tr k2).tr k3) s3 (fun n hn => ?_)
    have := c2 n (by omega) (Or.inl (by omega))
    rw [this]; exact if_neg (by omega)
  · intro o i l j ht h5 ih
    refine mO_A (by omega) ((rdO_cl _).2.2.2.2.1 o i l j ht h5 ih.1) (fun τ row em W cf mn F Q hM hl hi hF ho hW hm hc hq => ?_)
    have i160 := tk ht (by omega)
    refine s_pre (p := 12) hM hl i160 hF (Or.inr ⟨ht, rfl, hm.1 (by omega)⟩) (by omega) (fun τ1 k1 s1 => ?_)
    have eO : cO (12 :: W) = o + 1 := by rw [cO, if_pos (Or.inl rfl)]; omega
    have eN : cN (12 :: W) = cN W := by rw [cN, if_neg (by omega)]; omega
    refine ih.2.1 (by omega) τ1 row em (12 :: W) cf _ F Q s1 (by rw [List.length_cons]; omega) (by omega) hF eO (topR_cons (Or.inr (by decide))) ⟨fun _ => one_ne, fun z => absurd z (by omega)⟩ (fun _ => by rw [eN]; exact hc (by omega)) (fun τ2 Pd em2 cf2 mn2 k2 s2 r2 e2 c2 n2 => ?_)
    rw [show Pd ++ 12 :: W = (Pd ++ [12]) ++ W by simp] at s2
    rw [eN] at c2 n2
    refine hq τ2 (Pd ++ [12]) em2 cf2 mn2 (k1.tr k2) s2 (fun p hp => ?_) ?_ c2 n2
    · rcases List.mem_append.mp hp with q | q
      · exact r2 p q
      · rw [List.mem_singleton.mp q]; decide
    · rw [List.map_append, List.map_append, ← List.append_assoc, e2, List.append_assoc]; rfl
  · intro o i l j ht ih h4
    refine mO_A (by omega) ((rdO_cl _).2.2.2.2.2.1 o i l j ht ih.1 h4) (fun τ row em W cf mn F Q hM hl hi hF ho hW hm hc hq => ?_)
    refine ih.2.1 (by omega) τ row em W cf mn F Q hM hl hi hF ho (hW.mono (by decide)) ⟨fun z => absurd z (by omega), fun _ => Or.inr ht⟩ (fun z => absurd z (by omega)) (fun τ2 Pd em2 cf2 mn2 k2 s2 r2 e2 c2 n2 => ?_)
    exact hq τ2 Pd em2 cf2 mn2 k2 s2 (fun p hp => ⟨(r2 p hp).1, by have := (r2 p hp).2; omega⟩) e2 (fun n hn _ => c2 n hn (Or.inr (by omega))) ⟨fun _ => n2.1 (by omega), fun _ => n2.2.1 (by omega), fun _ z => absurd h4 z, fun z => absurd z (by omega), fun z => absurd z (by omega)⟩
  · intro o i l j c l2 k ht ih h4 ih2
    refine mO_A (by omega) ((rdO_cl _).2.2.2.2.2.2.1 o i l j c l2 k ht ih.1 h4 ih2.1) (fun τ row em W cf mn F Q hM hl hi hF ho hW hm hc hq => ?_)
    have le := rdO_len hT ih.1
    have le2 := rdO_len hT ih2.1
    have j160 : j < 160 := hT.2 j (opc_n5 h4)
    refine ih.2.1 (by omega) τ row em W cf mn F Q hM hl hi hF ho (hW.mono (by decide)) ⟨fun z => absurd z (by omega), fun _ => Or.inr ht⟩ (fun z => absurd z (by omega)) (fun τ1 Pd1 em1 cf1 mn1 k1 s1 r1 e1 c1 n1 => ?_)
    have l1 := len_go (W := W) e1 hl le.1
    obtain ⟨o1, o2, o12, o18, o30, o0, o256⟩ := opq_c h4
    refine s_op s1 l1 j160 hF h4 (fun p hp => ⟨(r1 p hp).1, by have := (r1 p hp).2; omega⟩) hW (fun _ => by rw [c1 _ (Nat.le_refl _) (Or.inr (by omega))]; exact hc (by omega)) (fun τ2 k2 s2 => ?_)
    generalize opq (tkS tp sz j) = q at *
    have eO : cO (q :: W) = o := by rw [cO, if_neg (by omega)]; omega
    have eN : cN (q :: W) = cN W := by rw [cN, if_neg (by omega)]; omega
    have l2' : (em1 ++ Pd1.map nI).length + (q :: W).length ≤ j + 1 := by
      rw [List.length_append, List.length_map, List.length_cons]
      rw [List.length_append] at l1
      omega
    refine ih2.2.1 (by omega) τ2 row _ (q :: W) _ _ F Q s2 l2' (by omega) hF eO (topR_cons (Or.inr (show rk q < 5 by omega))) ⟨fun z => absurd z (by omega), fun _ => Or.inl rfl⟩ (fun z => absurd z (by omega)) (fun τ3 Pd3 em3 cf3 mn3 k3 s3 r3 e3 c3 n3 => ?_)
    rw [show Pd3 ++ q :: W = (Pd3 ++ [q]) ++ W by simp] at s3
    rw [eN] at c3 n3
    refine hq τ3 (Pd3 ++ [q]) em3 cf3 mn3 ((k1.tr k2).tr k3) s3 (fun p hp => ?_) ?_ (fun n hn hn2 => ?_) ⟨fun _ => n3.1 (by omega), fun _ => n3.2.1 (by omega), fun _ _ => ?_, fun z => absurd z (by omega), fun z => absurd z (by omega)⟩
    · rcases List.mem_append.mp hp with z | z
      · exact ⟨(r3 p z).1, by have := (r3 p z).2; omega⟩
      · rw [List.mem_singleton.mp z]; exact ⟨o30, by omega⟩
    · rw [List.map_append, ← List.append_assoc, e3, e1, List.map_append, List.map_append, List.map_cons, List.map_nil, List.map_cons, List.map_nil, o1]
      simp
    · rw [c3 n hn (Or.inr (by omega)), cfn, if_neg (by omega)]
      exact c1 n hn (Or.inr (by omega))
    · rw [c3 _ (Nat.le_refl _) (Or.inr (by omega)), cfn, if_pos rfl, if_pos rfl]
  · intro x o i l j l2 k hx ih ih2
    obtain ⟨p1, p2, p3, p4, p5, p6, p7, p8, p9, p10, p11⟩ := lvl_s hx
    refine mO_A p10 ((rdO_cl _).2.2.2.2.2.2.2.1 x o i l j l2 k hx ih.1 ih2.1) (fun τ row em W cf mn F Q hM hl hi hF ho hW hm hc hq => ?_)
    have le := rdO_len hT ih.1
    have ihC : cC tp sz x o j l2 k := by have := ih2.2.2.2 (by omega); rw [show 10 + x - 10 = x by omega] at this; exact this
    refine ih.2.1 p2 τ row em W cf mn F Q hM hl hi hF ho (hW.mono p3) ⟨fun z => hm.1 (by omega), fun z => hm.2 (by omega)⟩ (fun z => hc (by omega)) (fun τ1 Pd1 em1 cf1 mn1 k1 s1 r1 e1 c1 n1 => ?_)
    have l1 := len_go (W := W) e1 hl le.1
    refine ihC τ1 row em1 W Pd1 cf1 mn1 F Q s1 l1 (le.2 hi) hF ho hW (fun p hp => ⟨(r1 p hp).1, by have := (r1 p hp).2; omega⟩) n1 (fun τ2 Pd2 em2 cf2 mn2 k2 s2 r2 e2 c2 n2 => ?_)
    refine hq τ2 Pd2 em2 cf2 mn2 (k1.tr k2) s2 r2 ?_ (fun n hn hn2 => ?_) n2
    · rw [e2, e1, List.map_append, List.append_assoc]
    · rw [c2 n hn hn2]; exact c1 n hn (by omega)
  · intro x o i hx h0
    obtain ⟨p1, p2, p3, p4, p5, p6, p7, p8, p9, p10, p11⟩ := lvl_s hx
    refine mO_C ((rdO_cl _).2.2.2.2.2.2.2.2.1 x o i hx h0) (fun τ row em W Pd cf mn F Q hM hl hi hF ho hW hP hn hq => ?_)
    exact hq τ Pd em cf mn Kp.rf hM hP (by simp) (fun n _ _ => rfl) (nxt_1 hx hn h0)
  · intro x o i c l j l2 k hx hop ih ih2
    obtain ⟨p1, p2, p3, p4, p5, p6, p7, p8, p9, p10, p11⟩ := lvl_s hx
    refine mO_C ((rdO_cl _).2.2.2.2.2.2.2.2.2 x o i c l j l2 k hx hop ih.1 ih2.1) (fun τ row em W Pd cf mn F Q hM hl hi hF ho hW hP hn hq => ?_)
    have le := rdO_len hT ih.1
    have i160 : i < 160 := hT.2 i (opc_n5 hop)
    have ihC : cC tp sz x o j l2 k := by have := ih2.2.2.2 (by omega); rw [show 10 + x - 10 = x by omega] at this; exact this
    obtain ⟨o1, o2, o12, o18, o30, o0, o256⟩ := opq_c hop
    rw [p6] at hW
    refine s_op hM hl i160 hF hop hP hW (fun z => absurd z p5) (fun τ1 k1 s1 => ?_)
    generalize opq (tkS tp sz i) = q at *
    have eO : cO (q :: W) = o := by rw [cO, if_neg (by omega)]; omega
    have eN : cN (q :: W) = cN W := by rw [cN, if_neg (by omega)]; omega
    have l1 : (em ++ Pd.map nI).length + (q :: W).length ≤ i + 1 := by
      rw [List.length_append, List.length_map, List.length_cons]
      rw [List.length_append] at hl
      omega
    refine ih.2.1 p2 τ1 row _ (q :: W) _ _ F Q s1 l1 (by omega) hF eO (topR_cons (Or.inr (by omega))) ⟨fun z => by rw [if_pos (p8.mp z)]; exact one_ne, fun z => Or.inl (by rw [if_neg (by omega)])⟩ (fun z => by rw [eN, cfn, if_pos rfl, if_neg p5, if_pos (by omega)]) (fun τ2 Pd2 em2 cf2 mn2 k2 s2 r2 e2 c2 n2 => ?_)
    rw [show Pd2 ++ q :: W = (Pd2 ++ [q]) ++ W by simp] at s2
    rw [eN] at c2 n2
    have l3 : em2.length + ((Pd2 ++ [q]) ++ W).length ≤ j := by
      have := len_go (W := q :: W) e2 l1 le.1
      rw [show Pd2 ++ q :: W = (Pd2 ++ [q]) ++ W by simp] at this
      exact this
    refine ihC τ2 row em2 W (Pd2 ++ [q]) cf2 mn2 F Q s2 l3 (le.2 (by omega)) hF ho (by rw [p6]; exact hW) (fun p hp => ?_) n2 (fun τ3 Pd3 em3 cf3 mn3 k3 s3 r3 e3 c3 n3 => ?_)
    · rcases List.mem_append.mp hp with z | z
      · exact ⟨(r2 p z).1, by have := (r2 p z).2; omega⟩
      · rw [List.mem_singleton.mp z]; exact ⟨o30, by omega⟩
    · refine hq τ3 Pd3 em3 cf3 mn3 ((k1.tr k2).tr k3) s3 r3 ?_ (fun n hn2 hn3 => ?_) n3
      · rw [e3, List.map_append, ← List.append_assoc, e2, List.map_append, List.map_cons, List.map_cons, List.map_nil, o1]
        simp
      · rw [c3 n hn2 hn3, c2 n hn2 (by omega), cfn]
        by_cases e : n = cN W
        · rw [if_pos e, if_neg p5, if_neg (by omega)]
        · rw [if_neg e]
end Mod
