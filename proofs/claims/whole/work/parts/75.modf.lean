/-! STAGE 2: TEXT: the model's machine finds the grammar's fault -/
def fA (tp : Nat → Nat) (sz x o i j : Nat) : Prop := ∀ (τ : Mem) (row : Nat) (em : List Int32) (W : List Nat) (cf : Nat → Bool) (mn : Int32) (F : Nat) (Q : Int32 → Mem → Prop), MS tp sz τ row i em W cf → em.length + W.length ≤ i → i ≤ 160 → 161 < F → cO W = o → (¬ x = 7 → topR (ax x) W) → mnp x mn (tkS tp sz i) → (x ≤ 3 → cf (cN W) = false) → (∀ τ' : Mem, Kp (FMr row) τ τ' → mI τ' 37 16 = nI (strm tp sz j).2.1 → Q 0 τ') → w_X12_readE_40 Q (F - i) (nI row) 1 mn τ
def fC (tp : Nat → Nat) (sz x o i j : Nat) : Prop := ∀ (τ : Mem) (row : Nat) (em : List Int32) (W Pd : List Nat) (cf : Nat → Bool) (mn : Int32) (F : Nat) (Q : Int32 → Mem → Prop), MS tp sz τ row i em (Pd ++ W) cf → em.length + (Pd ++ W).length ≤ i → i ≤ 160 → 161 < F → cO W = o → topR (ax x) W → (∀ p ∈ Pd, ¬ p = 30 ∧ x ≤ rk p) → nxt (sbl x) (tkS tp sz i) (cf (cN W)) → (∀ τ' : Mem, Kp (FMr row) τ τ' → mI τ' 37 16 = nI (strm tp sz j).2.1 → Q 0 τ') → w_X12_readE_40 Q (F - i) (nI row) 0 mn τ
def mdF (tp : Nat → Nat) (sz x o i j : Nat) : Prop := (x < 10 → fA tp sz x o i j) ∧ (10 ≤ x → fC tp sz (x - 10) o i j)
section Modf
variable {tp : Nat → Nat} {sz : Nat}
theorem mdF_A {x o i j : Nat} (hx : x < 10) (h : fA tp sz x o i j) : mdF tp sz x o i j := ⟨fun _ => h, fun z => absurd z (by omega)⟩
theorem mdF_C {x o i j : Nat} (h : fC tp sz x o i j) : mdF tp sz (10 + x) o i j := ⟨fun z => absurd z (by omega), fun _ => by rw [show 10 + x - 10 = x by omega]; exact h⟩
theorem MS.pl {τ : Mem} {row i : Nat} {em : List Int32} {W : List Nat} {cf : Nat → Bool} (h : MS tp sz τ row i em W cf) : mI τ 37 16 = nI (strm tp sz i).2.1 := h.1.2.2.2.1
theorem sbl7 {x : Nat} (hx : lvl x) {W : List Nat} (h : topR (ax x) W) : ¬ sbl x = 7 → topR (ax (sbl x)) W := fun _ => h.mono (lvl_s hx).2.2.1
theorem rdF_M (hz : sz ≤ 160) {x o i j : Nat} (h : rdF (tkS tp sz) x o i j) : mdF tp sz x o i j := by
  have hT := tkS_ok (tp := tp) hz
  have tk : ∀ {i : Nat} {a b : Nat}, tkS tp sz i = (a, b) → ¬ a = 5 → i < 160 := fun {i a b} e n => hT.2 i (by rw [e]; exact n)
  refine h (mdF tp sz) ⟨?_, ?_, ?_, ?_, ?_, ?_, ?_, ?_, ?_, ?_, ?_, ?_, ?_⟩
  · intro o i h1 h2 h3 h4
    refine mdF_A (by omega) (fun τ row em W cf mn F Q hM hl hi hF ho hW hm hc hq => ?_)
    exact s_bad hM hi hF h1 h2 (Or.inl ⟨h3, h4, hm.2 (by omega)⟩) (hq τ Kp.rf hM.pl)
  · intro o i ht h5
    refine mdF_A (by omega) (fun τ row em W cf mn F Q hM hl hi hF ho hW hm hc hq => ?_)
    have := hM.2.2.2.2.2.2.1
    have t4 : (tkS tp sz i).1 = 4 := by rcases ht with q | q <;> rw [q]
    exact s_bad hM hi hF (by omega) (by omega) (Or.inr (by omega)) (hq τ Kp.rf hM.pl)
  · intro o i j ht h5 ih
    refine mdF_A (by omega) (fun τ row em W cf mn F Q hM hl hi hF ho hW hm hc hq => ?_)
    have i160 := tk ht (by omega)
    refine s_pre (p := 18) hM hl i160 hF (Or.inl ⟨ht, rfl⟩) (by omega) (fun τ1 k1 s1 => ?_)
    have eO : cO (18 :: W) = o + 1 := by rw [cO, if_pos (Or.inr (Or.inl rfl))]; omega
    exact ih.1 (by omega) τ1 row em (18 :: W) cf _ F Q s1 (by rw [List.length_cons]; omega) (by omega) hF eO (fun z => absurd rfl z) ⟨fun z => absurd z (by omega), fun _ => Or.inl rfl⟩ (fun z => absurd z (by omega)) (fun τ2 k2 e2 => hq τ2 (k1.tr k2) e2)
  · intro o i j ht h5 ih
    refine mdF_A (by omega) (fun τ row em W cf mn F Q hM hl hi hF ho hW hm hc hq => ?_)
    have i160 := tk ht (by omega)
    refine s_open hM hl i160 hF ht (by omega) (fun τ1 k1 s1 => ?_)
    have eO : cO (30 :: W) = o + 1 := by rw [cO, if_pos (Or.inr (Or.inr rfl))]; omega
    have eN : cN (30 :: W) = cN W + 1 := by rw [cN, if_pos rfl]; omega
    exact ih.1 (by omega) τ1 row em (30 :: W) _ 1 F Q s1 (by rw [List.length_cons]; omega) (by omega) hF eO (fun _ => topR_cons (Or.inl rfl)) ⟨fun _ => one_ne, fun z => absurd z (by omega)⟩ (fun _ => by rw [eN]; simp) (fun τ2 k2 e2 => hq τ2 (k1.tr k2) e2)
  · intro o i l j ht h5 hO htj
    refine mdF_A (by omega) (fun τ row em W cf mn F Q hM hl hi hF ho hW hm hc hq => ?_)
    have i160 := tk ht (by omega)
    have ih := rdO_M hz hO
    have le := rdO_len hT hO
    refine s_open hM hl i160 hF ht (by omega) (fun τ1 k1 s1 => ?_)
    have eO : cO (30 :: W) = o + 1 := by rw [cO, if_pos (Or.inr (Or.inr rfl))]; omega
    have eN : cN (30 :: W) = cN W + 1 := by rw [cN, if_pos rfl]; omega
    refine ih.2.1 (by omega) τ1 row em (30 :: W) _ 1 F Q s1 (by rw [List.length_cons]; omega) (by omega) hF eO (topR_cons (Or.inl rfl)) ⟨fun _ => one_ne, fun z => absurd z (by omega)⟩ (fun _ => by rw [eN]; simp) (fun τ2 Pd em2 cf2 mn2 k2 s2 r2 e2 c2 n2 => ?_)
    have eN2 : cN (Pd ++ 30 :: W) = cN (30 :: W) := cN_app Pd (fun p hp => (r2 p hp).1)
    refine s_no s2 (le.2 (by omega)) hF ?_ (Or.inl htj) (Or.inr (by rw [eN2, eN]; omega)) (hq τ2 (k1.tr k2) s2.pl)
    rcases opq_n (n2.2.2.2.2 (by omega)) (n2.2.2.2.1 (by omega)) (n2.2.1 (by omega)) (n2.1 (by omega)) with q | q
    · exact Or.inl q
    · exact Or.inr ⟨q.1, by rw [eN2]; exact n2.2.2.1 (by omega) q.2⟩
  · intro o i ht h5
    refine mdF_A (by omega) (fun τ row em W cf mn F Q hM hl hi hF ho hW hm hc hq => ?_)
    have := hM.2.2.2.2.2.2.1
    have t3 : (tkS tp sz i).1 = 3 := by rw [ht]
    exact s_bad hM hi hF (by omega) (by omega) (Or.inr (by omega)) (hq τ Kp.rf hM.pl)
  · intro o i j ht h5 ih
    refine mdF_A (by omega) (fun τ row em W cf mn F Q hM hl hi hF ho hW hm hc hq => ?_)
    have i160 := tk ht (by omega)
    refine s_pre (p := 12) hM hl i160 hF (Or.inr ⟨ht, rfl, hm.1 (by omega)⟩) (by omega) (fun τ1 k1 s1 => ?_)
    have eO : cO (12 :: W) = o + 1 := by rw [cO, if_pos (Or.inl rfl)]; omega
    have eN : cN (12 :: W) = cN W := by rw [cN, if_neg (by omega)]; omega
    exact ih.1 (by omega) τ1 row em (12 :: W) cf _ F Q s1 (by rw [List.length_cons]; omega) (by omega) hF eO (fun _ => topR_cons (Or.inr (by decide))) ⟨fun _ => one_ne, fun z => absurd z (by omega)⟩ (fun _ => by rw [eN]; exact hc (by omega)) (fun τ2 k2 e2 => hq τ2 (k1.tr k2) e2)
  · intro o i j ht ih
    refine mdF_A (by omega) (fun τ row em W cf mn F Q hM hl hi hF ho hW hm hc hq => ?_)
    exact ih.1 (by omega) τ row em W cf mn F Q hM hl hi hF ho (fun _ => (hW (by omega)).mono (by decide)) ⟨fun z => absurd z (by omega), fun _ => Or.inr ht⟩ (fun z => absurd z (by omega)) hq
  · intro o i l j c k ht hO h4 ih2
    refine mdF_A (by omega) (fun τ row em W cf mn F Q hM hl hi hF ho hW hm hc hq => ?_)
    have ih := rdO_M hz hO
    have le := rdO_len hT hO
    have j160 : j < 160 := hT.2 j (opc_n5 h4)
    have hW4 : topR 4 W := hW (by omega)
    refine ih.2.1 (by omega) τ row em W cf mn F Q hM hl hi hF ho (hW4.mono (by decide)) ⟨fun z => absurd z (by omega), fun _ => Or.inr ht⟩ (fun z => absurd z (by omega)) (fun τ1 Pd1 em1 cf1 mn1 k1 s1 r1 e1 c1 n1 => ?_)
    have l1 := len_go (W := W) e1 hl le.1
    obtain ⟨o1, o2, o12, o18, o30, o0, o256⟩ := opq_c h4
    refine s_op s1 l1 j160 hF h4 (fun p hp => ⟨(r1 p hp).1, by have := (r1 p hp).2; omega⟩) hW4 (fun _ => by rw [c1 _ (Nat.le_refl _) (Or.inr (by omega))]; exact hc (by omega)) (fun τ2 k2 s2 => ?_)
    generalize opq (tkS tp sz j) = q at *
    have eO : cO (q :: W) = o := by rw [cO, if_neg (by omega)]; omega
    have l2' : (em1 ++ Pd1.map nI).length + (q :: W).length ≤ j + 1 := by
      rw [List.length_append, List.length_map, List.length_cons]
      rw [List.length_append] at l1
      omega
    exact ih2.1 (by omega) τ2 row _ (q :: W) _ _ F Q s2 l2' (by omega) hF eO (fun _ => topR_cons (Or.inr (show rk q < 5 by omega))) ⟨fun z => absurd z (by omega), fun _ => Or.inl rfl⟩ (fun z => absurd z (by omega)) (fun τ3 k3 e3 => hq τ3 ((k1.tr k2).tr k3) e3)
  · intro x o i j hx ih
    obtain ⟨p1, p2, p3, p4, p5, p6, p7, p8, p9, p10, p11⟩ := lvl_s hx
    refine mdF_A (by omega) (fun τ row em W cf mn F Q hM hl hi hF ho hW hm hc hq => ?_)
    exact ih.1 p2 τ row em W cf mn F Q hM hl hi hF ho (sbl7 hx (hW (by omega))) ⟨fun z => hm.1 (by omega), fun z => hm.2 (by omega)⟩ (fun z => hc (by omega)) hq
  · intro x o i l j k hx hO ih2
    obtain ⟨p1, p2, p3, p4, p5, p6, p7, p8, p9, p10, p11⟩ := lvl_s hx
    refine mdF_A (by omega) (fun τ row em W cf mn F Q hM hl hi hF ho hW hm hc hq => ?_)
    have ih := rdO_M hz hO
    have le := rdO_len hT hO
    have hW' := hW (by omega)
    have ihC : fC tp sz x o j k := by have := ih2.2 (by omega); rw [show 10 + x - 10 = x by omega] at this; exact this
    refine ih.2.1 p2 τ row em W cf mn F Q hM hl hi hF ho (hW'.mono p3) ⟨fun z => hm.1 (by omega), fun z => hm.2 (by omega)⟩ (fun z => hc (by omega)) (fun τ1 Pd1 em1 cf1 mn1 k1 s1 r1 e1 c1 n1 => ?_)
    have l1 := len_go (W := W) e1 hl le.1
    exact ihC τ1 row em1 W Pd1 cf1 mn1 F Q s1 l1 (le.2 hi) hF ho hW' (fun p hp => ⟨(r1 p hp).1, by have := (r1 p hp).2; omega⟩) n1 (fun τ2 k2 e2 => hq τ2 (k1.tr k2) e2)
  · intro x o i c j hx hop ih
    obtain ⟨p1, p2, p3, p4, p5, p6, p7, p8, p9, p10, p11⟩ := lvl_s hx
    refine mdF_C (fun τ row em W Pd cf mn F Q hM hl hi hF ho hW hP hn hq => ?_)
    have i160 : i < 160 := hT.2 i (opc_n5 hop)
    obtain ⟨o1, o2, o12, o18, o30, o0, o256⟩ := opq_c hop
    rw [p6] at hW
    refine s_op hM hl i160 hF hop hP hW (fun z => absurd z p5) (fun τ1 k1 s1 => ?_)
    generalize opq (tkS tp sz i) = q at *
    have eO : cO (q :: W) = o := by rw [cO, if_neg (by omega)]; omega
    have eN : cN (q :: W) = cN W := by rw [cN, if_neg (by omega)]; omega
    have l1 : (em ++ Pd.map nI).length + (q :: W).length ≤ i + 1 := by
      rw [List.length_append, List.length_map, List.length_cons]
      rw [List.length_append] at hl
      omega
    exact ih.1 p2 τ1 row _ (q :: W) _ _ F Q s1 l1 (by omega) hF eO (fun _ => topR_cons (Or.inr (by omega))) ⟨fun z => by rw [if_pos (p8.mp z)]; exact one_ne, fun z => Or.inl (by rw [if_neg (by omega)])⟩ (fun z => by rw [eN, cfn, if_pos rfl, if_neg p5, if_pos (by omega)]) (fun τ2 k2 e2 => hq τ2 (k1.tr k2) e2)
  · intro x o i c l j k hx hop hO ih2
    obtain ⟨p1, p2, p3, p4, p5, p6, p7, p8, p9, p10, p11⟩ := lvl_s hx
    refine mdF_C (fun τ row em W Pd cf mn F Q hM hl hi hF ho hW hP hn hq => ?_)
    have ih := rdO_M hz hO
    have le := rdO_len hT hO
    have i160 : i < 160 := hT.2 i (opc_n5 hop)
    have ihC : fC tp sz x o j k := by have := ih2.2 (by omega); rw [show 10 + x - 10 = x by omega] at this; exact this
    obtain ⟨o1, o2, o12, o18, o30, o0, o256⟩ := opq_c hop
    rw [p6] at hW
    refine s_op hM hl i160 hF hop hP hW (fun z => absurd z p5) (fun τ1 k1 s1 => ?_)
    generalize opq (tkS tp sz i) = q at *
    have eO : cO (q :: W) = o := by rw [cO, if_neg (by omega)]; omega
    have eN : cN (q :: W) = cN W := by rw [cN, if_neg (by omega)]; omega
    have l1 : (em ++ Pd.map nI).length + (q :: W).length ≤ i + 1 := by
      rw [List.length_append, List.length_map, List.length_cons]
      rw [List.length_append] at hl
      omega
    refine ih.2.1 p2 τ1 row _ (q :: W) _ _ F Q s1 l1 (by omega) hF eO (topR_cons (Or.inr (by omega))) ⟨fun z => by rw [if_pos (p8.mp z)]; exact one_ne, fun z => Or.inl (by rw [if_neg (by omega)])⟩ (fun z => by rw [eN, cfn, if_pos rfl, if_neg p5, if_pos (by omega)]) (fun τ2 Pd2 em2 cf2 mn2 k2 s2 r2 e2 c2 n2 => ?_)
    rw [show Pd2 ++ q :: W = (Pd2 ++ [q]) ++ W by simp] at s2
    rw [eN] at n2
    have l3 : em2.length + ((Pd2 ++ [q]) ++ W).length ≤ j := by
      have := len_go (W := q :: W) e2 l1 le.1
      rw [show Pd2 ++ q :: W = (Pd2 ++ [q]) ++ W by simp] at this
      exact this
    refine ihC τ2 row em2 W (Pd2 ++ [q]) cf2 mn2 F Q s2 l3 (le.2 (by omega)) hF ho (by rw [p6]; exact hW) (fun p hp => ?_) n2 (fun τ3 k3 e3 => hq τ3 ((k1.tr k2).tr k3) e3)
    rcases List.mem_append.mp hp with z | z
    · exact ⟨(r2 p z).1, by have := (r2 p z).2; omega⟩
    · rw [List.mem_singleton.mp z]; exact ⟨o30, by omega⟩
end Modf
