/-! STAGE 2: TEXT: the class reads a text -/
section Txt2
variable {tp : Nat → Nat} {sz : Nat}
theorem Kp.mN {F : Nat → Nat → Prop} {σ τ : Mem} (h : Kp F σ τ) : Kg (fun _ _ => False) F σ τ := h.g
/-- the class reads; behind the last token it has the text, or its fault -/
theorem rd_C {τ : Mem} (hC : tpC τ tp sz) {Q : Option Nat → Mem → Prop} (hO : ∀ l0 l1 l2, txO (tkS tp sz) l0 l1 l2 → l0.length + l1.length + l2.length < 160 → ∀ τ', Kp FCr τ τ' → mI τ' 5 8 = nI (l0.length + l1.length + l2.length) → (∀ k, k < l0.length + l1.length + l2.length → mI τ' 7 k = (l0 ++ l1 ++ l2).getD k 0) → w_J7_copyOf_59c91_7 (mN τ' (6, 0)) (mI (mN τ' (6, 0)) 5 8) (fun o117 s118 => ∃ r119 : Nat, o117 = some r119 ∧ (w_X6_init s118 (mL τ') r119 (nI l0.length) (nI (l0.length + l1.length)) (fun s122 => Q (some (mL τ')) s122)))) (hF : ∀ j, txF (tkS tp sz) j → ∀ τ', Kp FCr τ τ' → mI τ' 5 2 = nI (strm tp sz j).2.1 → Q none τ') : w_X5_read τ Q := by
  have hT := tkS_ok (tp := tp) hC.2.1
  unfold w_X5_read
  have k0 : Kp FCr τ (sI (sI (sI τ 5 2 (-1)) 5 5 0) 5 8 0) := ((Kp.rf.sI _ (Or.inl ⟨rfl, by omega⟩)).sI _ (Or.inl ⟨rfl, by omega⟩)).sI _ (Or.inl ⟨rfl, by omega⟩)
  refine ad5 (b := 0) (hC.fr k0 FCr1 FCr6) (by simp [mI_sI]) (Nat.zero_le _) (by simp [mI_sI]; rfl) (fun τ1 k1 t1 => ?_)
  have c1 : CS tp sz τ1 0 [] := by
    refine ⟨(hC.fr k0 FCr1 FCr6).fr k1 F5n1 F5n6, ?_, t1, ?_, fun q hq => absurd hq (Nat.not_lt_zero q)⟩
    · rw [k1.2.2.2 _ _ (by unfold F5; omega)]; simp [mI_sI]
    · rw [k1.2.2.2 _ _ (by unfold F5; omega)]; simp [mI_sI]; rfl
  have K1 := k0.tr (k1.mono F5_FCr)
  have endF : ∀ (j : Nat) (τ' : Mem), Kp FCr τ τ' → CF tp sz τ' j → txF (tkS tp sz) j → ∀ (x y : Int32), ((mI τ' 5 2) = (-1) → (w_J7_copyOf_59c91_7 (mN τ' (6, 0)) (mI (mN τ' (6, 0)) 5 8) (fun o117 s118 => ∃ r119 : Nat, o117 = some r119 ∧ (w_X6_init s118 (mL τ') r119 x y (fun s122 => Q (some (mL τ')) s122))))) ∧ (¬ (mI τ' 5 2) = (-1) → (Q none τ')) := fun j τ' k c d x y =>
    ⟨fun z => absurd z c.n, fun _ => hF j d τ' k c.1⟩
  refine pt_S (k := 0) c1 (by omega) (by simp) (by omega) rfl (fun τ2 k2 g2 => ?_)
  rcases g2 with ⟨l0, j0, d0, c2⟩ | ⟨j, d, c2⟩
  · have n0 := ptO_len hT d0
    rw [List.nil_append] at c2
    refine pt_S (k := 1) c2 (by omega) (by omega) (by omega) rfl (fun τ3 k3 g3 => ?_)
    rcases g3 with ⟨l1, j1, d1, c3⟩ | ⟨j, d, c3⟩
    · have n1 := ptO_len hT d1
      refine pt_S (k := 2) c3 (by omega) (by rw [List.length_append]; omega) (by omega) rfl (fun τ4 k4 g4 => ?_)
      rcases g4 with ⟨l2, j2, d2, c4⟩ | ⟨j, d, c4⟩
      · have n2 := ptO_len hT d2
        refine ps_S (c := 0) c4 (by rw [List.length_append, List.length_append]; omega) rfl (by omega) (fun τ5 k5 g5 => ?_)
        have K5 := (((K1.tr k2).tr k3).tr k4).tr k5
        rcases g5 with ⟨e5, c5⟩ | ⟨e5, c5⟩
        · refine ⟨fun _ => ?_, fun z => absurd c5.2.1 z⟩
          have e2 : mI τ2 5 8 = nI l0.length := c2.2.2.2.1
          have e3 : mI τ3 5 8 = nI (l0.length + l1.length) := by rw [c3.2.2.2.1, List.length_append]
          rw [e2, e3]
          refine hO l0 l1 l2 ⟨j0, j1, j2, d0, d1, d2, (ck_en c4.wf).mp e5⟩ (by omega) τ5 K5 ?_ (fun k hk => ?_)
          · rw [c5.2.2.2.1, List.length_append, List.length_append]
          · exact c5.2.2.2.2 k (by rw [List.length_append, List.length_append]; exact hk)
        · exact endF (j2 + 1) τ5 K5 c5 (Or.inr (Or.inr (Or.inr ⟨l0, j0, l1, j1, l2, j2, d0, d1, d2, fun q => e5 ((ck_en c4.wf).mpr q), rfl⟩))) _ _
      · exact ps_F (c := 0) c4 rfl (by omega) (by omega) (fun τ5 k5 c5 => endF j τ5 ((((K1.tr k2).tr k3).tr k4).tr k5) c5 (Or.inr (Or.inr (Or.inl ⟨l0, j0, l1, j1, d0, d1, d⟩))) _ _)
    · refine pt_F (c := 5) c3 rfl (by omega) (by omega) (fun τ4 k4 c4 => ?_)
      exact ps_F (c := 0) c4 rfl (by omega) (by omega) (fun τ5 k5 c5 => endF j τ5 ((((K1.tr k2).tr k3).tr k4).tr k5) c5 (Or.inr (Or.inl ⟨l0, j0, d0, d⟩)) _ _)
  · refine pt_F (c := 4) c2 rfl (by omega) (by omega) (fun τ3 k3 c3 => ?_)
    refine pt_F (c := 5) c3 rfl (by omega) (by omega) (fun τ4 k4 c4 => ?_)
    exact ps_F (c := 0) c4 rfl (by omega) (by omega) (fun τ5 k5 c5 => endF j τ5 ((((K1.tr k2).tr k3).tr k4).tr k5) c5 (Or.inl d) _ _)
end Txt2
