/-! STAGE 2: TEXT: the class's reader does the grammar -/
def tkS (tp : Nat → Nat) (sz i : Nat) : Nat × Nat := (strm tp sz i).1
def FCr (a k : Nat) : Prop := (a = 5 ∧ 2 ≤ k) ∨ a = 7
theorem FCr1 : ¬ FCr 5 1 := by unfold FCr; omega
theorem FCr6 (i : Nat) : ¬ FCr 6 i := by unfold FCr; omega
/-- the class reads, at token i, with steps l -/
def CS (tp : Nat → Nat) (sz : Nat) (τ : Mem) (i : Nat) (l : List Int32) : Prop := tpC τ tp sz ∧ mI τ 5 2 = -1 ∧ tkC τ (strm tp sz i) ∧ mI τ 5 8 = nI l.length ∧ ∀ k, k < l.length → mI τ 7 k = l.getD k 0
/-- the class has a fault, token j -/
def CF (tp : Nat → Nat) (sz : Nat) (τ : Mem) (j : Nat) : Prop := mI τ 5 2 = nI (strm tp sz j).2.1 ∧ mI τ 5 3 = 1 ∧ sz ≤ 160 ∧ ∃ n, n ≤ 160 ∧ mI τ 5 8 = nI n
def RC (tp : Nat → Nat) (sz x o i : Nat) (l : List Int32) (τ : Mem) : Prop := (∃ l' j, rdO (tkS tp sz) x o i l' j ∧ CS tp sz τ j (l ++ l')) ∨ ∃ j, rdF (tkS tp sz) x o i j ∧ CF tp sz τ j
def Hy (tp : Nat → Nat) (sz x o : Nat) (w : Mem → Int32 → (Mem → Prop) → Prop) : Prop := ∀ i l τ Q, CS tp sz τ i l → l.length ≤ i → i ≤ 160 → (∀ τ', Kp FCr τ τ' → RC tp sz x o i l τ' → Q τ') → w τ (nI o) Q
/-- the class's kind as a count -/
def cn (t : Nat × Nat) : Nat := if t.1 = 1 then 2 else if t.1 = 3 then 3 + t.2 else if t.1 = 4 then t.2 else if t.1 = 5 then 0 else 1
theorem isG_c {b : Nat} (h : isG b = true) : b = 40 ∨ b = 41 ∨ b = 59 ∨ b = 43 ∨ b = 45 ∨ b = 42 ∨ b = 60 ∨ b = 61 := of_decide_eq_true h
theorem wfT_c {t : Nat × Nat} (h : wfT t) : (t.1 = 1 ∧ t.2 < 10000) ∨ (t.1 = 2 ∧ t.2 < 6) ∨ (t.1 = 3 ∧ t.2 < 6) ∨ (t.1 = 4 ∧ (t.2 = 40 ∨ t.2 = 41 ∨ t.2 = 59 ∨ t.2 = 43 ∨ t.2 = 45 ∨ t.2 = 42 ∨ t.2 = 60 ∨ t.2 = 61)) ∨ t.1 = 5 ∨ t.1 = 6 := by
  rcases h with h | h | h | h | h | h
  · exact Or.inl h
  · exact Or.inr (Or.inl h)
  · exact Or.inr (Or.inr (Or.inl h))
  · exact Or.inr (Or.inr (Or.inr (Or.inl ⟨h.1, isG_c h.2⟩)))
  · exact Or.inr (Or.inr (Or.inr (Or.inr (Or.inl h))))
  · exact Or.inr (Or.inr (Or.inr (Or.inr (Or.inr h))))
theorem ckd_n {t : Nat × Nat} (h : ¬ t.1 = 2) : ckd t = nI (cn t) := by
  unfold ckd cn
  rw [if_neg h]
  repeat' split
  all_goals first | rfl | omega
theorem cn_lt {t : Nat × Nat} (h : wfT t) : cn t < 256 := by
  have := wfT_c h
  unfold cn
  repeat' split
  all_goals omega
theorem ckd_2 {t : Nat × Nat} (hw : wfT t) (h : t.1 = 2) : ckd t < 0 := by
  have := wfT_c hw
  unfold ckd
  rw [if_neg (by omega), if_pos h]
  exact (show ∀ a, a < 6 → -1 - nI a < 0 by decide) t.2 (by omega)
theorem neg_ne {v : Int32} {c : Nat} (h : v < 0) (hc : c < 256) : ¬ v = nI c := fun z => by
  rw [z] at h
  exact absurd h (nI_nlt (b := 0) (by omega) (by omega))
theorem ck_is {t : Nat × Nat} (hw : wfT t) {c : Nat} (hc : c < 256) : ckd t = nI c ↔ (¬ t.1 = 2 ∧ cn t = c) := by
  by_cases h : t.1 = 2
  · exact ⟨fun z => absurd z (neg_ne (ckd_2 hw h) hc), fun z => absurd h z.1⟩
  · rw [ckd_n h, nI_is (cn_lt hw) hc]
    exact ⟨fun z => ⟨h, z⟩, fun z => z.2⟩
theorem ck_sg {t : Nat × Nat} (hw : wfT t) {c : Nat} (hc : c < 256) (h40 : 40 ≤ c) : ckd t = nI c ↔ t = (4, c) := by
  rw [ck_is hw hc, Prod.ext_iff]
  have := wfT_c hw
  unfold cn
  dsimp only
  constructor
  · rintro ⟨h1, h2⟩
    revert h2
    repeat' split
    all_goals omega
  · rintro ⟨h1, h2⟩
    rw [if_neg (by omega), if_neg (by omega), if_pos h1]
    exact ⟨by omega, h2⟩
theorem ck_ky {t : Nat × Nat} (hw : wfT t) {k : Nat} (hk : k < 6) : ckd t = nI (3 + k) ↔ t = (3, k) := by
  rw [ck_is hw (by omega), Prod.ext_iff]
  have := wfT_c hw
  unfold cn
  dsimp only
  constructor
  · rintro ⟨h1, h2⟩
    revert h2
    repeat' split
    all_goals omega
  · rintro ⟨h1, h2⟩
    rw [if_neg (by omega), if_pos h1]
    exact ⟨by omega, by omega⟩
theorem ck_nu {t : Nat × Nat} (hw : wfT t) : ckd t = 2 ↔ t.1 = 1 := by
  rw [show (2 : Int32) = nI 2 from rfl, ck_is hw (by omega)]
  have := wfT_c hw
  unfold cn
  constructor
  · rintro ⟨h1, h2⟩
    revert h2
    repeat' split
    all_goals omega
  · intro h1
    rw [if_pos h1]
    exact ⟨by omega, rfl⟩
theorem ck_en {t : Nat × Nat} (hw : wfT t) : ckd t = 0 ↔ t.1 = 5 := by
  rw [show (0 : Int32) = nI 0 from rfl, ck_is hw (by omega)]
  have := wfT_c hw
  unfold cn
  constructor
  · rintro ⟨h1, h2⟩
    revert h2
    repeat' split
    all_goals omega
  · intro h1
    rw [if_neg (by omega), if_neg (by omega), if_neg (by omega), if_pos h1]
    exact ⟨by omega, rfl⟩
theorem opc_te {t : Nat × Nat} {c : Int32} (h : opc 6 t = some c) : t = (4, 42) := by
  by_cases e : t = (4, 42)
  · exact e
  · rw [show opc 6 t = none by unfold opc; simp [e]] at h; cases h
theorem opc_su {t : Nat × Nat} {c : Int32} (h : opc 5 t = some c) : t = (4, 43) ∨ t = (4, 45) := by
  by_cases e : t = (4, 43)
  · exact Or.inl e
  by_cases e2 : t = (4, 45)
  · exact Or.inr e2
  · rw [show opc 5 t = none by unfold opc; simp [e, e2]] at h; cases h
theorem opc_cm {t : Nat × Nat} {c : Int32} (h : opc 4 t = some c) : (t = (4, 60) ∧ c = -13) ∨ (t = (4, 61) ∧ c = -14) := by
  by_cases e : t = (4, 60)
  · refine Or.inl ⟨e, ?_⟩
    rw [e] at h
    exact (Option.some.inj h).symm
  by_cases e2 : t = (4, 61)
  · refine Or.inr ⟨e2, ?_⟩
    rw [e2] at h
    exact (Option.some.inj h).symm
  · rw [show opc 4 t = none by unfold opc; simp [e, e2]] at h; cases h
theorem opc_an {t : Nat × Nat} {c : Int32} (h : opc 2 t = some c) : t = (3, 4) := by
  by_cases e : t = (3, 4)
  · exact e
  · rw [show opc 2 t = none by unfold opc; simp [e]] at h; cases h
theorem opc_ee {t : Nat × Nat} {c : Int32} (h : opc 1 t = some c) : t = (3, 3) := by
  by_cases e : t = (3, 3)
  · exact e
  · rw [show opc 1 t = none by unfold opc; simp [e]] at h; cases h
section RdC
variable {tp : Nat → Nat} {sz : Nat} {Q : Mem → Prop} {τ : Mem}
theorem tkS_ok (h : sz ≤ 160) : okTk (tkS tp sz) := strm_ok h
theorem CS.wf {i : Nat} {l : List Int32} (h : CS tp sz τ i l) : wfT (tkS tp sz i) := (tkS_ok h.1.2.1).1 i
theorem CS.kd {i : Nat} {l : List Int32} (h : CS tp sz τ i l) : mI τ 5 3 = ckd (tkS tp sz i) := h.2.2.1.1
theorem F5_FCr : ∀ a k, F5 a k → FCr a k := fun a k h => Or.inl ⟨h.1, by have := h.2; omega⟩
theorem ad_S {i : Nat} {l : List Int32} (h : CS tp sz τ i l) (hq : ∀ τ', Kp FCr τ τ' → CS tp sz τ' (i + 1) l → Q τ') : w_X5_advance τ Q := by
  obtain ⟨h1, h2, h3, h4, h5⟩ := h
  refine ad5 h1 h2 (strm_p tp sz i).2.1 h3.2.2.1 (fun τ' k ht => hq τ' (k.mono F5_FCr) ⟨h1.fr k F5n1 F5n6, ?_, ht, ?_, fun q hq => ?_⟩)
  · rw [k.2.2.2 _ _ (by unfold F5; omega)]; exact h2
  · rw [k.2.2.2 _ _ (by unfold F5; omega)]; exact h4
  · rw [k.2.2.2 _ _ (by unfold F5; omega)]; exact h5 q hq
theorem CF.n {j : Nat} (h : CF tp sz τ j) : ¬ mI τ 5 2 = -1 := by
  rw [h.1]
  have := (strm_p tp sz j).1
  have := h.2.2.1
  exact of_eq_false (k_eqm (by omega))
theorem ad_F {j : Nat} (h : CF tp sz τ j) (hq : Q τ) : w_X5_advance τ Q := ad5f h.n hq
theorem fl_S {i : Nat} {l : List Int32} (h : CS tp sz τ i l) (hl : l.length ≤ 160) (hq : ∀ τ', Kp FCr τ τ' → CF tp sz τ' i → Q τ') : w_X5_fail τ Q := by
  obtain ⟨h1, h2, h3, h4, h5⟩ := h
  refine ⟨fun z => absurd h2 z, fun _ => hq _ ((Kp.rf.sI _ (Or.inl ⟨rfl, by omega⟩)).sI _ (Or.inl ⟨rfl, by omega⟩)) ⟨?_, ?_, h1.2.1, l.length, hl, ?_⟩⟩
  · rw [mI_sI_k _ _ (by omega), mI_sI_s]; exact h3.2.1
  · rw [mI_sI_s]
  · rw [mI_sI_k _ _ (by omega), mI_sI_k _ _ (by omega)]; exact h4
theorem fl_F {j : Nat} (h : CF tp sz τ j) (hq : ∀ τ', Kp FCr τ τ' → CF tp sz τ' j → Q τ') : w_X5_fail τ Q := by
  refine ⟨fun _ => hq _ (Kp.rf.sI _ (Or.inl ⟨rfl, by omega⟩)) ⟨?_, ?_, h.2.2.1, ?_⟩, fun z => absurd z h.n⟩
  · rw [mI_sI_k _ _ (by omega)]; exact h.1
  · rw [mI_sI_s]
  · rw [mI_sI_k _ _ (by omega)]; exact h.2.2.2
theorem getD_app1 (l : List Int32) (c : Int32) {k : Nat} (h : k < l.length + 1) : (l ++ [c]).getD k 0 = if k = l.length then c else l.getD k 0 := by
  rw [List.getD_eq_getElem?_getD, List.getD_eq_getElem?_getD]
  by_cases e : k = l.length
  · rw [if_pos e, e]; simp
  · rw [if_neg e, List.getElem?_append_left (by omega)]
theorem st_S {i : Nat} {l : List Int32} {c : Int32} (h : CS tp sz τ i l) (hl : l.length < 160) (hq : ∀ τ', Kp FCr τ τ' → CS tp sz τ' i (l ++ [c]) → Q τ') : w_X5_add τ c Q := by
  obtain ⟨h1, h2, h3, h4, h5⟩ := h
  unfold w_X5_add
  rw [h4, k_cl (by omega), show nI l.length + 1 = nI (l.length + 1) from nI_add _ 1]
  have k : Kp FCr τ (sI (sI τ 7 l.length c) 5 8 (nI (l.length + 1))) := (Kp.rf.sI _ (Or.inr rfl)).sI _ (Or.inl ⟨rfl, by omega⟩)
  refine ⟨fun z => absurd z (of_eq_false (k_nle (a := 160) hl (by omega))), fun _ => ⟨vp_in_nI hl (by omega), hq _ k ⟨h1.fr k FCr1 FCr6, ?_, ⟨?_, ?_, ?_, fun q => ?_⟩, ?_, fun q hq => ?_⟩⟩⟩
  · rw [mI_sI_k _ _ (by omega), mI_sI_n _ _ (by omega)]; exact h2
  · rw [mI_sI_k _ _ (by omega), mI_sI_n _ _ (by omega)]; exact h3.1
  · rw [mI_sI_k _ _ (by omega), mI_sI_n _ _ (by omega)]; exact h3.2.1
  · rw [mI_sI_k _ _ (by omega), mI_sI_n _ _ (by omega)]; exact h3.2.2.1
  · rw [mI_sI_k _ _ (by omega), mI_sI_n _ _ (by omega)]; exact h3.2.2.2 q
  · rw [mI_sI_s, List.length_append, List.length_singleton]
  · rw [List.length_append, List.length_singleton] at hq
    rw [mI_sI_n _ _ (by omega), getD_app1 l c hq]
    by_cases e : q = l.length
    · rw [if_pos e, e, mI_sI_s]
    · rw [if_neg e, mI_sI_k _ _ e]; exact h5 q (by omega)
theorem st_F {j : Nat} {c : Int32} (h : CF tp sz τ j) (hq : ∀ τ', Kp FCr τ τ' → CF tp sz τ' j → Q τ') : w_X5_add τ c Q := by
  obtain ⟨h1, h2, h3, n, hn, h4⟩ := h
  unfold w_X5_add
  rw [h4]
  refine ⟨fun _ => hq τ Kp.rf ⟨h1, h2, h3, n, hn, h4⟩, fun z => ?_⟩
  have hlt : n < 160 := by
    by_cases c : n < 160
    · exact c
    · exact absurd (nI_le (a := 160) (by omega) (by omega)) z
  rw [k_cl (by omega), show nI n + 1 = nI (n + 1) from nI_add _ 1]
  refine ⟨vp_in_nI hlt (by omega), hq _ ((Kp.rf.sI _ (Or.inr rfl)).sI _ (Or.inl ⟨rfl, by omega⟩)) ⟨?_, ?_, h3, n + 1, by omega, ?_⟩⟩
  · rw [mI_sI_k _ _ (by omega), mI_sI_n _ _ (by omega)]; exact h1
  · rw [mI_sI_k _ _ (by omega), mI_sI_n _ _ (by omega)]; exact h2
  · rw [mI_sI_s]
theorem ne_k1 {c : Nat} (h : c < 256) (h1 : ¬ c = 1) : ¬ (1 : Int32) = nI c := fun z => h1 ((nI_is (x := 1) (by omega) h).mp z).symm
theorem ps_S {i c : Nat} {l : List Int32} (h : CS tp sz τ i l) (hl : l.length ≤ 160) {v : Int32} (hv : v = nI c) (hc : c < 256) (hq : ∀ τ', Kp FCr τ τ' → ((ckd (tkS tp sz i) = nI c ∧ CS tp sz τ' (i + 1) l) ∨ (¬ ckd (tkS tp sz i) = nI c ∧ CF tp sz τ' i)) → Q τ') : w_X5_pass τ v Q := by
  subst hv
  unfold w_X5_pass
  rw [h.kd]
  exact ⟨fun z => fl_S h hl (fun τ' k g => hq τ' k (Or.inr ⟨z, g⟩)), fun z => ad_S h (fun τ' k g => hq τ' k (Or.inl ⟨z, g⟩))⟩
theorem ps_F {j c : Nat} (h : CF tp sz τ j) {v : Int32} (hv : v = nI c) (hc : c < 256) (h1 : ¬ c = 1) (hq : ∀ τ', Kp FCr τ τ' → CF tp sz τ' j → Q τ') : w_X5_pass τ v Q := by
  subst hv
  unfold w_X5_pass
  rw [h.2.1]
  exact ⟨fun _ => fl_F h hq, fun z => absurd z (ne_k1 hc h1)⟩
theorem op_S {i o : Nat} {l : List Int32} {Q : Int32 → Mem → Prop} (h : CS tp sz τ i l) (hl : l.length ≤ 160) (ho : o < 256) (hq : ∀ τ', Kp FCr τ τ' → (o < 5 → CS tp sz τ' (i + 1) l → Q 1 τ') ∧ (¬ o < 5 → CF tp sz τ' i → Q 0 τ')) : w_X5_opens τ (nI o) Q := by
  unfold w_X5_opens
  by_cases c : o < 5
  · exact ⟨fun _ => ad_S h (fun τ' k g => (hq τ' k).1 c g), fun z => absurd (nI_lt (b := 5) c (by omega)) z⟩
  · exact ⟨fun z => absurd z (nI_nlt (b := 5) (by omega) (by omega)), fun _ => fl_S h hl (fun τ' k g => (hq τ' k).2 c g)⟩
variable {rE rN rO : Mem → Int32 → (Mem → Prop) → Prop}
/-- ONE -/
theorem one_H {o : Nat} (ho : o ≤ 5) (hE : o < 5 → Hy tp sz 1 (o + 1) rE) (hO : o < 5 → Hy tp sz 7 (o + 1) rO) : Hy tp sz 7 o (w_X5_readOne rE rN rO) := by
  intro i l τ Q h hl hi hq
  have hT := tkS_ok (tp := tp) h.1.2.1
  have wf := h.wf
  have wc := wfT_c wf
  have go : ∀ v, v = (if (tkS tp sz i).1 = 1 then nI (tkS tp sz i).2 else -1 - nI (tkS tp sz i).2) → ((tkS tp sz i).1 = 1 ∨ (tkS tp sz i).1 = 2) → w_X5_readOne_35 rE rN rO Q v τ := fun v hv ht => by
    have i160 : i < 160 := hT.2 i (by omega)
    refine st_S h (by omega) (fun τ1 k1 g1 => ad_S g1 (fun τ2 k2 g2 => hq τ2 (k1.tr k2) (Or.inl ⟨[v], i + 1, ?_, g2⟩)))
    by_cases c : (tkS tp sz i).1 = 1
    · rw [if_pos c] at hv
      subst hv
      exact (rdO_cl _).1 o i _ (Prod.ext c rfl)
    · rw [if_neg c] at hv
      subst hv
      exact (rdO_cl _).2.1 o i _ (Prod.ext (by omega) rfl)
  have g15 : ((tkS tp sz i).1 = 1 ∨ (tkS tp sz i).1 = 2) → w_X5_readOne_15 rE rN rO Q τ := fun ht => by
    unfold w_X5_readOne_15
    rw [h.kd]
    refine ⟨fun z => go _ ?_ ht, fun z => go _ ?_ ht⟩
    · have c : ¬ (tkS tp sz i).1 = 1 := fun q => z ((ck_nu wf).mpr q)
      rw [if_neg c]
      unfold ckd
      rw [if_neg c, if_pos (by omega)]
    · have c : (tkS tp sz i).1 = 1 := (ck_nu wf).mp z
      rw [if_pos c]
      exact h.2.2.1.2.2.2 c
  unfold w_X5_readOne
  rw [h.kd]
  refine ⟨fun z => g15 (Or.inl ((ck_nu wf).mp z)), fun z1 => ⟨fun z2 => ⟨fun z3 => ⟨fun z4 => ?_, fun z4 => ?_⟩, fun z3 => ?_⟩, fun z2 => ?_⟩⟩
  · -- no token that can begin
    refine fl_S h (by omega) (fun τ' k g => hq τ' k (Or.inr ⟨i, (rdF_cl _).1 o i (fun q => z1 ((ck_nu wf).mpr q)) (fun q => ?_) (fun q => z3 ((ck_sg (c := 45) wf (by omega) (by omega)).mpr q)) (fun q => z4 ((ck_sg (c := 40) wf (by omega) (by omega)).mpr q)), g⟩))
    exact absurd z2 (Int32.not_le.mpr (ckd_2 wf q))
  · have et : tkS tp sz i = (4, 40) := (ck_sg (c := 40) wf (by omega) (by omega)).mp z4
    have i160 : i < 160 := hT.2 i (by rw [et]; exact (show ¬ (4 = 5) by omega))
    refine op_S h (by omega) (by omega) (fun τ1 k1 => ⟨fun c g1 => ⟨fun z => absurd z one_ne, fun _ => ?_⟩, fun c g1 => ⟨fun _ => hq τ1 k1 (Or.inr ⟨i, (rdF_cl _).2.1 o i (Or.inr et) c, g1⟩), fun z => absurd rfl z⟩⟩)
    rw [show nI o + 1 = nI (o + 1) from nI_add o 1]
    refine hE c (i + 1) l τ1 _ g1 (by omega) (by omega) (fun τ2 k2 g2 => ?_)
    rcases g2 with ⟨l', j, d1, d2⟩ | ⟨j, d1, d2⟩
    · have le := rdO_len hT d1
      refine ps_S (c := 41) d2 (by rw [List.length_append]; have := le.2 (by omega); omega) rfl (by omega) (fun τ3 k3 g3 => ?_)
      rcases g3 with ⟨e3, g3⟩ | ⟨e3, g3⟩
      · exact hq τ3 ((k1.tr k2).tr k3) (Or.inl ⟨l', j + 1, (rdO_cl _).2.2.2.1 o i l' j et c d1 ((ck_sg (c := 41) d2.wf (by omega) (by omega)).mp e3), g3⟩)
      · exact hq τ3 ((k1.tr k2).tr k3) (Or.inr ⟨j, (rdF_cl _).2.2.2.2.1 o i l' j et c d1 (fun q => e3 ((ck_sg (c := 41) d2.wf (by omega) (by omega)).mpr q)), g3⟩)
    · exact ps_F (c := 41) d2 rfl (by omega) (by omega) (fun τ3 k3 g3 => hq τ3 ((k1.tr k2).tr k3) (Or.inr ⟨j, (rdF_cl _).2.2.2.1 o i j et c d1, g3⟩))
  · have et : tkS tp sz i = (4, 45) := (ck_sg (c := 45) wf (by omega) (by omega)).mp z3
    have i160 : i < 160 := hT.2 i (by rw [et]; exact (show ¬ (4 = 5) by omega))
    refine op_S h (by omega) (by omega) (fun τ1 k1 => ⟨fun c g1 => ⟨fun z => absurd z one_ne, fun _ => ?_⟩, fun c g1 => ⟨fun _ => hq τ1 k1 (Or.inr ⟨i, (rdF_cl _).2.1 o i (Or.inl et) c, g1⟩), fun z => absurd rfl z⟩⟩)
    rw [show nI o + 1 = nI (o + 1) from nI_add o 1]
    refine hO c (i + 1) l τ1 _ g1 (by omega) (by omega) (fun τ2 k2 g2 => ?_)
    rcases g2 with ⟨l', j, d1, d2⟩ | ⟨j, d1, d2⟩
    · have le := rdO_len hT d1
      refine st_S d2 (by rw [List.length_append]; have := le.2 (by omega); omega) (fun τ3 k3 g3 => ?_)
      rw [List.append_assoc] at g3
      exact hq τ3 ((k1.tr k2).tr k3) (Or.inl ⟨l' ++ [-22], j, (rdO_cl _).2.2.1 o i l' j et c d1, g3⟩)
    · exact st_F d2 (fun τ3 k3 g3 => hq τ3 ((k1.tr k2).tr k3) (Or.inr ⟨j, (rdF_cl _).2.2.1 o i j et c d1, g3⟩))
  · refine g15 (Or.inr ?_)
    by_cases q : (tkS tp sz i).1 = 2
    · exact q
    · refine absurd ?_ z2
      rw [ckd_n q]
      exact nI_le (a := 0) (by omega) (by have := cn_lt wf; omega)
/-- the loop of readTerm -/
theorem teL {o : Nat} (hS : Hy tp sz 7 o (w_X5_readOne rE rN rO)) : ∀ (d i m : Nat) (l : List Int32) (τ : Mem) (Q : Mem → Prop), 160 ≤ i + d → m ≤ i → CS tp sz τ i l → l.length ≤ i → i ≤ 160 → (∀ τ', Kp FCr τ τ' → RC tp sz 16 o i l τ' → Q τ') → w_X5_readTerm_7 rE rN rO Q (d + 1) (nI o) (nI m) τ := by
  intro d
  induction d with
  | zero =>
    intro i m l τ Q hd hm h hl hi hq
    have hT := tkS_ok (tp := tp) h.1.2.1
    have no : opc 6 (tkS tp sz i) = none := by
      cases e : opc 6 (tkS tp sz i) with
      | none => rfl
      | some c => exact absurd (hT.2 i (opc_n5 e)) (by omega)
    have fin : Q τ := hq τ Kp.rf (Or.inl ⟨[], i, (rdO_cl _).2.2.2.2.2.2.2.2.1 6 o i (Or.inr (Or.inr (Or.inr rfl))) no, by rw [List.append_nil]; exact h⟩)
    unfold w_X5_readTerm_7
    rw [h.kd]
    exact ⟨fun _ => fin, fun _ => ⟨fun _ => fin, fun z => absurd no (by rw [(ck_sg (c := 42) h.wf (by omega) (by omega)).mp z]; decide)⟩⟩
  | succ d ih =>
    intro i m l τ Q hd hm h hl hi hq
    have hT := tkS_ok (tp := tp) h.1.2.1
    have wf := h.wf
    have stop : opc 6 (tkS tp sz i) = none → Q τ := fun no => hq τ Kp.rf (Or.inl ⟨[], i, (rdO_cl _).2.2.2.2.2.2.2.2.1 6 o i (Or.inr (Or.inr (Or.inr rfl))) no, by rw [List.append_nil]; exact h⟩)
    have cont : ∀ c : Int32, opc 6 (tkS tp sz i) = some c → w_X5_advance τ (fun s103 => w_X5_readOne rE rN rO s103 (nI o) (fun s106 => w_X5_add s106 c (fun s109 => w_X5_readTerm_7 rE rN rO Q (d + 1) (nI o) (nI m + 1) s109))) := fun c ec => by
      have i160 : i < 160 := hT.2 i (opc_n5 ec)
      refine ad_S h (fun τ1 k1 g1 => hS (i + 1) l τ1 _ g1 (by omega) (by omega) (fun τ2 k2 g2 => ?_))
      rw [show nI m + 1 = nI (m + 1) from nI_add m 1]
      rcases g2 with ⟨l', j, d1, d2⟩ | ⟨j, d1, d2⟩
      · have le := rdO_len hT d1
        have j160 := le.2 (by omega)
        refine st_S d2 (by rw [List.length_append]; omega) (fun τ3 k3 g3 => ?_)
        refine ih j (m + 1) _ τ3 Q (by omega) (by omega) g3 (by rw [List.length_append, List.length_append, List.length_singleton]; omega) j160 (fun τ4 k4 g4 => ?_)
        refine hq τ4 (((k1.tr k2).tr k3).tr k4) ?_
        rcases g4 with ⟨l2, q, e1, e2⟩ | ⟨q, e1, e2⟩
        · refine Or.inl ⟨l' ++ c :: l2, q, (rdO_cl _).2.2.2.2.2.2.2.2.2 6 o i c l' j l2 q (Or.inr (Or.inr (Or.inr rfl))) ec d1 e1, ?_⟩
          rw [show l ++ (l' ++ c :: l2) = l ++ l' ++ [c] ++ l2 by simp]; exact e2
        · exact Or.inr ⟨q, (rdF_cl _).2.2.2.2.2.2.2.2.2.2.2.2 6 o i c l' j q (Or.inr (Or.inr (Or.inr rfl))) ec d1 e1, e2⟩
      · refine st_F d2 (fun τ3 k3 g3 => ?_)
        have fin : Q τ3 := hq τ3 ((k1.tr k2).tr k3) (Or.inr ⟨j, (rdF_cl _).2.2.2.2.2.2.2.2.2.2.2.1 6 o i c j (Or.inr (Or.inr (Or.inr rfl))) ec d1, g3⟩)
        unfold w_X5_readTerm_7
        rw [g3.2.1]
        exact ⟨fun _ => fin, fun _ => ⟨fun _ => fin, fun z => absurd z (ne_k1 (c := 42) (by omega) (by omega))⟩⟩
    unfold w_X5_readTerm_7
    rw [h.kd]
    refine ⟨fun z => stop ?_, fun _ => ⟨fun z => stop ?_, fun z => cont _ (by rw [(ck_sg (c := 42) wf (by omega) (by omega)).mp z]; rfl)⟩⟩
    · cases e : opc 6 (tkS tp sz i) with
      | none => rfl
      | some c => exact absurd z (of_eq_false (k_nle (a := 160) (by have := hT.2 i (opc_n5 e); omega) (by omega)))
    · cases e : opc 6 (tkS tp sz i) with
      | none => rfl
      | some c => exact absurd ((ck_sg (c := 42) wf (by omega) (by omega)).mpr (opc_te e)) z
theorem te_H {o : Nat} (hS : Hy tp sz 7 o (w_X5_readOne rE rN rO)) : Hy tp sz 6 o (w_X5_readTerm rE rN rO) := by
  intro i l τ Q h hl hi hq
  have hT := tkS_ok (tp := tp) h.1.2.1
  refine hS i l τ _ h hl hi (fun τ1 k1 g1 => ?_)
  rcases g1 with ⟨l', j, d1, d2⟩ | ⟨j, d1, d2⟩
  · have le := rdO_len hT d1
    refine ⟨_, teL hS (160 - j) j 0 _ τ1 Q (by omega) (by omega) d2 (by rw [List.length_append]; omega) (le.2 hi) (fun τ2 k2 g2 => hq τ2 (k1.tr k2) ?_)⟩
    rcases g2 with ⟨l2, q, e1, e2⟩ | ⟨q, e1, e2⟩
    · exact Or.inl ⟨l' ++ l2, q, (rdO_cl _).2.2.2.2.2.2.2.1 6 o i l' j l2 q (Or.inr (Or.inr (Or.inr rfl))) d1 e1, by rw [← List.append_assoc]; exact e2⟩
    · exact Or.inr ⟨q, (rdF_cl _).2.2.2.2.2.2.2.2.2.2.1 6 o i l' j q (Or.inr (Or.inr (Or.inr rfl))) d1 e1, e2⟩
  · have fin : Q τ1 := hq τ1 k1 (Or.inr ⟨j, (rdF_cl _).2.2.2.2.2.2.2.2.2.1 6 o i j (Or.inr (Or.inr (Or.inr rfl))) d1, d2⟩)
    refine ⟨1, ?_⟩
    unfold w_X5_readTerm_7
    rw [d2.2.1]
    exact ⟨fun _ => fin, fun _ => ⟨fun _ => fin, fun z => absurd z (ne_k1 (c := 42) (by omega) (by omega))⟩⟩
/-- the loop of readSum -/
theorem suL {o : Nat} (hS : Hy tp sz 6 o (w_X5_readTerm rE rN rO)) : ∀ (d i m : Nat) (l : List Int32) (τ : Mem) (Q : Mem → Prop), 160 ≤ i + d → m ≤ i → CS tp sz τ i l → l.length ≤ i → i ≤ 160 → (∀ τ', Kp FCr τ τ' → RC tp sz 15 o i l τ' → Q τ') → w_X5_readSum_7 rE rN rO Q (d + 1) (nI o) (nI m) τ := by
  intro d
  induction d with
  | zero =>
    intro i m l τ Q hd hm h hl hi hq
    have hT := tkS_ok (tp := tp) h.1.2.1
    have no : opc 5 (tkS tp sz i) = none := by
      cases e : opc 5 (tkS tp sz i) with
      | none => rfl
      | some c => exact absurd (hT.2 i (opc_n5 e)) (by omega)
    have fin : Q τ := hq τ Kp.rf (Or.inl ⟨[], i, (rdO_cl _).2.2.2.2.2.2.2.2.1 5 o i (Or.inr (Or.inr (Or.inl rfl))) no, by rw [List.append_nil]; exact h⟩)
    unfold w_X5_readSum_7
    rw [h.kd]
    exact ⟨fun _ => fin, fun _ => ⟨fun z => absurd no (by rw [(ck_sg (c := 43) h.wf (by omega) (by omega)).mp z]; decide), fun _ => ⟨fun _ => fin, fun z => absurd no (by rw [(ck_sg (c := 45) h.wf (by omega) (by omega)).mp z]; decide)⟩⟩⟩
  | succ d ih =>
    intro i m l τ Q hd hm h hl hi hq
    have hT := tkS_ok (tp := tp) h.1.2.1
    have wf := h.wf
    have stop : opc 5 (tkS tp sz i) = none → Q τ := fun no => hq τ Kp.rf (Or.inl ⟨[], i, (rdO_cl _).2.2.2.2.2.2.2.2.1 5 o i (Or.inr (Or.inr (Or.inl rfl))) no, by rw [List.append_nil]; exact h⟩)
    have cont : ∀ c : Int32, opc 5 (tkS tp sz i) = some c → w_X5_advance τ (fun s103 => w_X5_readTerm rE rN rO s103 (nI o) (fun s106 => w_X5_add s106 c (fun s109 => w_X5_readSum_7 rE rN rO Q (d + 1) (nI o) (nI m + 1) s109))) := fun c ec => by
      have i160 : i < 160 := hT.2 i (opc_n5 ec)
      refine ad_S h (fun τ1 k1 g1 => hS (i + 1) l τ1 _ g1 (by omega) (by omega) (fun τ2 k2 g2 => ?_))
      rw [show nI m + 1 = nI (m + 1) from nI_add m 1]
      rcases g2 with ⟨l', j, d1, d2⟩ | ⟨j, d1, d2⟩
      · have le := rdO_len hT d1
        have j160 := le.2 (by omega)
        refine st_S d2 (by rw [List.length_append]; omega) (fun τ3 k3 g3 => ?_)
        refine ih j (m + 1) _ τ3 Q (by omega) (by omega) g3 (by rw [List.length_append, List.length_append, List.length_singleton]; omega) j160 (fun τ4 k4 g4 => ?_)
        refine hq τ4 (((k1.tr k2).tr k3).tr k4) ?_
        rcases g4 with ⟨l2, q, e1, e2⟩ | ⟨q, e1, e2⟩
        · refine Or.inl ⟨l' ++ c :: l2, q, (rdO_cl _).2.2.2.2.2.2.2.2.2 5 o i c l' j l2 q (Or.inr (Or.inr (Or.inl rfl))) ec d1 e1, ?_⟩
          rw [show l ++ (l' ++ c :: l2) = l ++ l' ++ [c] ++ l2 by simp]; exact e2
        · exact Or.inr ⟨q, (rdF_cl _).2.2.2.2.2.2.2.2.2.2.2.2 5 o i c l' j q (Or.inr (Or.inr (Or.inl rfl))) ec d1 e1, e2⟩
      · refine st_F d2 (fun τ3 k3 g3 => ?_)
        have fin : Q τ3 := hq τ3 ((k1.tr k2).tr k3) (Or.inr ⟨j, (rdF_cl _).2.2.2.2.2.2.2.2.2.2.2.1 5 o i c j (Or.inr (Or.inr (Or.inl rfl))) ec d1, g3⟩)
        unfold w_X5_readSum_7
        rw [g3.2.1]
        exact ⟨fun _ => fin, fun _ => ⟨fun z => absurd z (ne_k1 (c := 43) (by omega) (by omega)), fun _ => ⟨fun _ => fin, fun z => absurd z (ne_k1 (c := 45) (by omega) (by omega))⟩⟩⟩
    unfold w_X5_readSum_7
    rw [h.kd]
    have w43 := (ck_sg (c := 43) wf (by omega) (by omega))
    have w45 := (ck_sg (c := 45) wf (by omega) (by omega))
    have both : (ckd (tkS tp sz i) = nI 43 ∨ ckd (tkS tp sz i) = nI 45) → w_X5_readSum_32 rE rN rO Q (fun z0 z1 z2 => w_X5_readSum_7 rE rN rO Q (d + 1) z0 z1 z2) (nI o) (nI m) τ := fun _ => by
      unfold w_X5_readSum_32
      rw [h.kd]
      refine ⟨fun z => cont _ (by rw [w45.mp (by rename_i q; rcases q with q | q; exact absurd q z; exact q)]; rfl), fun z => cont _ (by rw [w43.mp z]; rfl)⟩
    refine ⟨fun z => stop ?_, fun _ => ⟨fun z => both (Or.inl z), fun z1 => ⟨fun z => stop ?_, fun z => both (Or.inr z)⟩⟩⟩
    · cases e : opc 5 (tkS tp sz i) with
      | none => rfl
      | some c => exact absurd z (of_eq_false (k_nle (a := 160) (by have := hT.2 i (opc_n5 e); omega) (by omega)))
    · cases e : opc 5 (tkS tp sz i) with
      | none => rfl
      | some c =>
        rcases opc_su e with q | q
        · exact absurd (w43.mpr q) z1
        · exact absurd (w45.mpr q) z
theorem su_H {o : Nat} (hS : Hy tp sz 6 o (w_X5_readTerm rE rN rO)) : Hy tp sz 5 o (w_X5_readSum rE rN rO) := by
  intro i l τ Q h hl hi hq
  have hT := tkS_ok (tp := tp) h.1.2.1
  refine hS i l τ _ h hl hi (fun τ1 k1 g1 => ?_)
  rcases g1 with ⟨l', j, d1, d2⟩ | ⟨j, d1, d2⟩
  · have le := rdO_len hT d1
    refine ⟨_, suL hS (160 - j) j 0 _ τ1 Q (by omega) (by omega) d2 (by rw [List.length_append]; omega) (le.2 hi) (fun τ2 k2 g2 => hq τ2 (k1.tr k2) ?_)⟩
    rcases g2 with ⟨l2, q, e1, e2⟩ | ⟨q, e1, e2⟩
    · exact Or.inl ⟨l' ++ l2, q, (rdO_cl _).2.2.2.2.2.2.2.1 5 o i l' j l2 q (Or.inr (Or.inr (Or.inl rfl))) d1 e1, by rw [← List.append_assoc]; exact e2⟩
    · exact Or.inr ⟨q, (rdF_cl _).2.2.2.2.2.2.2.2.2.2.1 5 o i l' j q (Or.inr (Or.inr (Or.inl rfl))) d1 e1, e2⟩
  · have fin : Q τ1 := hq τ1 k1 (Or.inr ⟨j, (rdF_cl _).2.2.2.2.2.2.2.2.2.1 5 o i j (Or.inr (Or.inr (Or.inl rfl))) d1, d2⟩)
    refine ⟨1, ?_⟩
    unfold w_X5_readSum_7
    rw [d2.2.1]
    exact ⟨fun _ => fin, fun _ => ⟨fun z => absurd z (ne_k1 (c := 43) (by omega) (by omega)), fun _ => ⟨fun _ => fin, fun z => absurd z (ne_k1 (c := 45) (by omega) (by omega))⟩⟩⟩
/-- NOT -/
theorem not_H {o : Nat} (ho : o ≤ 5) (hN : o < 5 → Hy tp sz 3 (o + 1) rN) (hS : Hy tp sz 5 o (w_X5_readSum rE rN rO)) : Hy tp sz 3 o (w_X5_readNot rE rN rO) := by
  intro i l τ Q h hl hi hq
  have hT := tkS_ok (tp := tp) h.1.2.1
  have wf := h.wf
  unfold w_X5_readNot
  rw [h.kd]
  refine ⟨fun z => ?_, fun z => ?_⟩
  · have et : ¬ tkS tp sz i = (3, 5) := fun q => z ((ck_ky (k := 5) wf (by omega)).mpr q)
    refine hS i l τ _ h hl hi (fun τ1 k1 g1 => ?_)
    rcases g1 with ⟨l', j, d1, d2⟩ | ⟨j, d1, d2⟩
    · have le := rdO_len hT d1
      have w60 := ck_sg (c := 60) d2.wf (by omega) (by omega)
      have w61 := ck_sg (c := 61) d2.wf (by omega) (by omega)
      have go : ∀ c : Int32, opc 4 (tkS tp sz j) = some c → w_X5_readNot_70 rE rN rO Q (nI o) c τ1 := fun c ec => by
        have j160 : j < 160 := hT.2 j (opc_n5 ec)
        refine ad_S d2 (fun τ2 k2 g2 => hS (j + 1) _ τ2 _ g2 (by rw [List.length_append]; omega) (by omega) (fun τ3 k3 g3 => ?_))
        rcases g3 with ⟨l2, q, e1, e2⟩ | ⟨q, e1, e2⟩
        · have le2 := rdO_len hT e1
          refine st_S e2 (by rw [List.length_append, List.length_append]; have := le2.2 (by omega); omega) (fun τ4 k4 g4 => hq τ4 (((k1.tr k2).tr k3).tr k4) (Or.inl ⟨l' ++ (l2 ++ [c]), q, (rdO_cl _).2.2.2.2.2.2.1 o i l' j c l2 q et d1 ec e1, ?_⟩))
          rw [show l ++ (l' ++ (l2 ++ [c])) = l ++ l' ++ l2 ++ [c] by simp]; exact g4
        · exact st_F e2 (fun τ4 k4 g4 => hq τ4 (((k1.tr k2).tr k3).tr k4) (Or.inr ⟨q, (rdF_cl _).2.2.2.2.2.2.2.2.1 o i l' j c q et d1 ec e1, g4⟩))
      have g54 : (ckd (tkS tp sz j) = nI 60 ∨ ckd (tkS tp sz j) = nI 61) → w_X5_readNot_54 rE rN rO Q (nI o) τ1 := fun q => by
        unfold w_X5_readNot_54
        rw [d2.kd]
        refine ⟨fun z => go _ ?_, fun z => go _ (by rw [w60.mp z]; rfl)⟩
        rcases q with q | q
        · exact absurd q z
        · rw [w61.mp q]; rfl
      rw [d2.kd]
      refine ⟨fun z => g54 (Or.inl z), fun z1 => ⟨fun z2 => hq τ1 k1 (Or.inl ⟨l', j, (rdO_cl _).2.2.2.2.2.1 o i l' j et d1 ?_, d2⟩), fun z => g54 (Or.inr z)⟩⟩
      cases e : opc 4 (tkS tp sz j) with
      | none => rfl
      | some c =>
        rcases opc_cm e with q | q
        · exact absurd (w60.mpr q.1) z1
        · exact absurd (w61.mpr q.1) z2
    · have fin : Q τ1 := hq τ1 k1 (Or.inr ⟨j, (rdF_cl _).2.2.2.2.2.2.2.1 o i j et d1, d2⟩)
      rw [d2.2.1]
      exact ⟨fun z => absurd z (ne_k1 (c := 60) (by omega) (by omega)), fun _ => ⟨fun _ => fin, fun z => absurd z (ne_k1 (c := 61) (by omega) (by omega))⟩⟩
  · have et : tkS tp sz i = (3, 5) := (ck_ky (k := 5) wf (by omega)).mp z
    have i160 : i < 160 := hT.2 i (by rw [et]; exact (show ¬ (3 = 5) by omega))
    refine op_S h (by omega) (by omega) (fun τ1 k1 => ⟨fun c g1 => ⟨fun z => absurd z one_ne, fun _ => ?_⟩, fun c g1 => ⟨fun _ => hq τ1 k1 (Or.inr ⟨i, (rdF_cl _).2.2.2.2.2.1 o i et c, g1⟩), fun z => absurd rfl z⟩⟩)
    rw [show nI o + 1 = nI (o + 1) from nI_add o 1]
    refine hN c (i + 1) l τ1 _ g1 (by omega) (by omega) (fun τ2 k2 g2 => ?_)
    rcases g2 with ⟨l', j, d1, d2⟩ | ⟨j, d1, d2⟩
    · have le := rdO_len hT d1
      refine st_S d2 (by rw [List.length_append]; have := le.2 (by omega); omega) (fun τ3 k3 g3 => ?_)
      rw [List.append_assoc] at g3
      exact hq τ3 ((k1.tr k2).tr k3) (Or.inl ⟨l' ++ [-21], j, (rdO_cl _).2.2.2.2.1 o i l' j et c d1, g3⟩)
    · exact st_F d2 (fun τ3 k3 g3 => hq τ3 ((k1.tr k2).tr k3) (Or.inr ⟨j, (rdF_cl _).2.2.2.2.2.2.1 o i j et c d1, g3⟩))
/-- the loop of readAnd -/
theorem anL {o : Nat} (hS : Hy tp sz 3 o (w_X5_readNot rE rN rO)) : ∀ (d i m : Nat) (l : List Int32) (τ : Mem) (Q : Mem → Prop), 160 ≤ i + d → m ≤ i → CS tp sz τ i l → l.length ≤ i → i ≤ 160 → (∀ τ', Kp FCr τ τ' → RC tp sz 12 o i l τ' → Q τ') → w_X5_readAnd_7 rE rN rO Q (d + 1) (nI o) (nI m) τ := by
  intro d
  induction d with
  | zero =>
    intro i m l τ Q hd hm h hl hi hq
    have hT := tkS_ok (tp := tp) h.1.2.1
    have no : opc 2 (tkS tp sz i) = none := by
      cases e : opc 2 (tkS tp sz i) with
      | none => rfl
      | some c => exact absurd (hT.2 i (opc_n5 e)) (by omega)
    have fin : Q τ := hq τ Kp.rf (Or.inl ⟨[], i, (rdO_cl _).2.2.2.2.2.2.2.2.1 2 o i (Or.inr (Or.inl rfl)) no, by rw [List.append_nil]; exact h⟩)
    unfold w_X5_readAnd_7
    rw [h.kd]
    exact ⟨fun _ => fin, fun _ => ⟨fun _ => fin, fun z => absurd no (by rw [(ck_ky (k := 4) h.wf (by omega)).mp z]; decide)⟩⟩
  | succ d ih =>
    intro i m l τ Q hd hm h hl hi hq
    have hT := tkS_ok (tp := tp) h.1.2.1
    have wf := h.wf
    have stop : opc 2 (tkS tp sz i) = none → Q τ := fun no => hq τ Kp.rf (Or.inl ⟨[], i, (rdO_cl _).2.2.2.2.2.2.2.2.1 2 o i (Or.inr (Or.inl rfl)) no, by rw [List.append_nil]; exact h⟩)
    have cont : ∀ c : Int32, opc 2 (tkS tp sz i) = some c → w_X5_advance τ (fun s103 => w_X5_readNot rE rN rO s103 (nI o) (fun s106 => w_X5_add s106 c (fun s109 => w_X5_readAnd_7 rE rN rO Q (d + 1) (nI o) (nI m + 1) s109))) := fun c ec => by
      have i160 : i < 160 := hT.2 i (opc_n5 ec)
      refine ad_S h (fun τ1 k1 g1 => hS (i + 1) l τ1 _ g1 (by omega) (by omega) (fun τ2 k2 g2 => ?_))
      rw [show nI m + 1 = nI (m + 1) from nI_add m 1]
      rcases g2 with ⟨l', j, d1, d2⟩ | ⟨j, d1, d2⟩
      · have le := rdO_len hT d1
        have j160 := le.2 (by omega)
        refine st_S d2 (by rw [List.length_append]; omega) (fun τ3 k3 g3 => ?_)
        refine ih j (m + 1) _ τ3 Q (by omega) (by omega) g3 (by rw [List.length_append, List.length_append, List.length_singleton]; omega) j160 (fun τ4 k4 g4 => ?_)
        refine hq τ4 (((k1.tr k2).tr k3).tr k4) ?_
        rcases g4 with ⟨l2, q, e1, e2⟩ | ⟨q, e1, e2⟩
        · refine Or.inl ⟨l' ++ c :: l2, q, (rdO_cl _).2.2.2.2.2.2.2.2.2 2 o i c l' j l2 q (Or.inr (Or.inl rfl)) ec d1 e1, ?_⟩
          rw [show l ++ (l' ++ c :: l2) = l ++ l' ++ [c] ++ l2 by simp]; exact e2
        · exact Or.inr ⟨q, (rdF_cl _).2.2.2.2.2.2.2.2.2.2.2.2 2 o i c l' j q (Or.inr (Or.inl rfl)) ec d1 e1, e2⟩
      · refine st_F d2 (fun τ3 k3 g3 => ?_)
        have fin : Q τ3 := hq τ3 ((k1.tr k2).tr k3) (Or.inr ⟨j, (rdF_cl _).2.2.2.2.2.2.2.2.2.2.2.1 2 o i c j (Or.inr (Or.inl rfl)) ec d1, g3⟩)
        unfold w_X5_readAnd_7
        rw [g3.2.1]
        exact ⟨fun _ => fin, fun _ => ⟨fun _ => fin, fun z => absurd z (ne_k1 (c := 7) (by omega) (by omega))⟩⟩
    unfold w_X5_readAnd_7
    rw [h.kd]
    refine ⟨fun z => stop ?_, fun _ => ⟨fun z => stop ?_, fun z => cont _ (by rw [(ck_ky (k := 4) wf (by omega)).mp z]; rfl)⟩⟩
    · cases e : opc 2 (tkS tp sz i) with
      | none => rfl
      | some c => exact absurd z (of_eq_false (k_nle (a := 160) (by have := hT.2 i (opc_n5 e); omega) (by omega)))
    · cases e : opc 2 (tkS tp sz i) with
      | none => rfl
      | some c => exact absurd ((ck_ky (k := 4) wf (by omega)).mpr (opc_an e)) z
theorem an_H {o : Nat} (hS : Hy tp sz 3 o (w_X5_readNot rE rN rO)) : Hy tp sz 2 o (w_X5_readAnd rE rN rO) := by
  intro i l τ Q h hl hi hq
  have hT := tkS_ok (tp := tp) h.1.2.1
  refine hS i l τ _ h hl hi (fun τ1 k1 g1 => ?_)
  rcases g1 with ⟨l', j, d1, d2⟩ | ⟨j, d1, d2⟩
  · have le := rdO_len hT d1
    refine ⟨_, anL hS (160 - j) j 0 _ τ1 Q (by omega) (by omega) d2 (by rw [List.length_append]; omega) (le.2 hi) (fun τ2 k2 g2 => hq τ2 (k1.tr k2) ?_)⟩
    rcases g2 with ⟨l2, q, e1, e2⟩ | ⟨q, e1, e2⟩
    · exact Or.inl ⟨l' ++ l2, q, (rdO_cl _).2.2.2.2.2.2.2.1 2 o i l' j l2 q (Or.inr (Or.inl rfl)) d1 e1, by rw [← List.append_assoc]; exact e2⟩
    · exact Or.inr ⟨q, (rdF_cl _).2.2.2.2.2.2.2.2.2.2.1 2 o i l' j q (Or.inr (Or.inl rfl)) d1 e1, e2⟩
  · have fin : Q τ1 := hq τ1 k1 (Or.inr ⟨j, (rdF_cl _).2.2.2.2.2.2.2.2.2.1 2 o i j (Or.inr (Or.inl rfl)) d1, d2⟩)
    refine ⟨1, ?_⟩
    unfold w_X5_readAnd_7
    rw [d2.2.1]
    exact ⟨fun _ => fin, fun _ => ⟨fun _ => fin, fun z => absurd z (ne_k1 (c := 7) (by omega) (by omega))⟩⟩
/-- the loop of readE -/
theorem eeL {o : Nat} (hS : Hy tp sz 2 o (w_X5_readAnd rE rN rO)) : ∀ (d i m : Nat) (l : List Int32) (τ : Mem) (Q : Mem → Prop), 160 ≤ i + d → m ≤ i → CS tp sz τ i l → l.length ≤ i → i ≤ 160 → (∀ τ', Kp FCr τ τ' → RC tp sz 11 o i l τ' → Q τ') → w_X5_readE_7 rE rN rO Q (d + 1) (nI o) (nI m) τ := by
  intro d
  induction d with
  | zero =>
    intro i m l τ Q hd hm h hl hi hq
    have hT := tkS_ok (tp := tp) h.1.2.1
    have no : opc 1 (tkS tp sz i) = none := by
      cases e : opc 1 (tkS tp sz i) with
      | none => rfl
      | some c => exact absurd (hT.2 i (opc_n5 e)) (by omega)
    have fin : Q τ := hq τ Kp.rf (Or.inl ⟨[], i, (rdO_cl _).2.2.2.2.2.2.2.2.1 1 o i (Or.inl rfl) no, by rw [List.append_nil]; exact h⟩)
    unfold w_X5_readE_7
    rw [h.kd]
    exact ⟨fun _ => fin, fun _ => ⟨fun _ => fin, fun z => absurd no (by rw [(ck_ky (k := 3) h.wf (by omega)).mp z]; decide)⟩⟩
  | succ d ih =>
    intro i m l τ Q hd hm h hl hi hq
    have hT := tkS_ok (tp := tp) h.1.2.1
    have wf := h.wf
    have stop : opc 1 (tkS tp sz i) = none → Q τ := fun no => hq τ Kp.rf (Or.inl ⟨[], i, (rdO_cl _).2.2.2.2.2.2.2.2.1 1 o i (Or.inl rfl) no, by rw [List.append_nil]; exact h⟩)
    have cont : ∀ c : Int32, opc 1 (tkS tp sz i) = some c → w_X5_advance τ (fun s103 => w_X5_readAnd rE rN rO s103 (nI o) (fun s106 => w_X5_add s106 c (fun s109 => w_X5_readE_7 rE rN rO Q (d + 1) (nI o) (nI m + 1) s109))) := fun c ec => by
      have i160 : i < 160 := hT.2 i (opc_n5 ec)
      refine ad_S h (fun τ1 k1 g1 => hS (i + 1) l τ1 _ g1 (by omega) (by omega) (fun τ2 k2 g2 => ?_))
      rw [show nI m + 1 = nI (m + 1) from nI_add m 1]
      rcases g2 with ⟨l', j, d1, d2⟩ | ⟨j, d1, d2⟩
      · have le := rdO_len hT d1
        have j160 := le.2 (by omega)
        refine st_S d2 (by rw [List.length_append]; omega) (fun τ3 k3 g3 => ?_)
        refine ih j (m + 1) _ τ3 Q (by omega) (by omega) g3 (by rw [List.length_append, List.length_append, List.length_singleton]; omega) j160 (fun τ4 k4 g4 => ?_)
        refine hq τ4 (((k1.tr k2).tr k3).tr k4) ?_
        rcases g4 with ⟨l2, q, e1, e2⟩ | ⟨q, e1, e2⟩
        · refine Or.inl ⟨l' ++ c :: l2, q, (rdO_cl _).2.2.2.2.2.2.2.2.2 1 o i c l' j l2 q (Or.inl rfl) ec d1 e1, ?_⟩
          rw [show l ++ (l' ++ c :: l2) = l ++ l' ++ [c] ++ l2 by simp]; exact e2
        · exact Or.inr ⟨q, (rdF_cl _).2.2.2.2.2.2.2.2.2.2.2.2 1 o i c l' j q (Or.inl rfl) ec d1 e1, e2⟩
      · refine st_F d2 (fun τ3 k3 g3 => ?_)
        have fin : Q τ3 := hq τ3 ((k1.tr k2).tr k3) (Or.inr ⟨j, (rdF_cl _).2.2.2.2.2.2.2.2.2.2.2.1 1 o i c j (Or.inl rfl) ec d1, g3⟩)
        unfold w_X5_readE_7
        rw [g3.2.1]
        exact ⟨fun _ => fin, fun _ => ⟨fun _ => fin, fun z => absurd z (ne_k1 (c := 6) (by omega) (by omega))⟩⟩
    unfold w_X5_readE_7
    rw [h.kd]
    refine ⟨fun z => stop ?_, fun _ => ⟨fun z => stop ?_, fun z => cont _ (by rw [(ck_ky (k := 3) wf (by omega)).mp z]; rfl)⟩⟩
    · cases e : opc 1 (tkS tp sz i) with
      | none => rfl
      | some c => exact absurd z (of_eq_false (k_nle (a := 160) (by have := hT.2 i (opc_n5 e); omega) (by omega)))
    · cases e : opc 1 (tkS tp sz i) with
      | none => rfl
      | some c => exact absurd ((ck_ky (k := 3) wf (by omega)).mpr (opc_ee e)) z
theorem ee_H {o : Nat} (hS : Hy tp sz 2 o (w_X5_readAnd rE rN rO)) : Hy tp sz 1 o (w_X5_readE rE rN rO) := by
  intro i l τ Q h hl hi hq
  have hT := tkS_ok (tp := tp) h.1.2.1
  refine hS i l τ _ h hl hi (fun τ1 k1 g1 => ?_)
  rcases g1 with ⟨l', j, d1, d2⟩ | ⟨j, d1, d2⟩
  · have le := rdO_len hT d1
    refine ⟨_, eeL hS (160 - j) j 0 _ τ1 Q (by omega) (by omega) d2 (by rw [List.length_append]; omega) (le.2 hi) (fun τ2 k2 g2 => hq τ2 (k1.tr k2) ?_)⟩
    rcases g2 with ⟨l2, q, e1, e2⟩ | ⟨q, e1, e2⟩
    · exact Or.inl ⟨l' ++ l2, q, (rdO_cl _).2.2.2.2.2.2.2.1 1 o i l' j l2 q (Or.inl rfl) d1 e1, by rw [← List.append_assoc]; exact e2⟩
    · exact Or.inr ⟨q, (rdF_cl _).2.2.2.2.2.2.2.2.2.2.1 1 o i l' j q (Or.inl rfl) d1 e1, e2⟩
  · have fin : Q τ1 := hq τ1 k1 (Or.inr ⟨j, (rdF_cl _).2.2.2.2.2.2.2.2.2.1 1 o i j (Or.inl rfl) d1, d2⟩)
    refine ⟨1, ?_⟩
    unfold w_X5_readE_7
    rw [d2.2.1]
    exact ⟨fun _ => fin, fun _ => ⟨fun _ => fin, fun z => absurd z (ne_k1 (c := 6) (by omega) (by omega))⟩⟩
theorem all_H {o : Nat} (ho : o ≤ 5) (hE : o < 5 → Hy tp sz 1 (o + 1) rE) (hN : o < 5 → Hy tp sz 3 (o + 1) rN) (hO : o < 5 → Hy tp sz 7 (o + 1) rO) : Hy tp sz 1 o (w_X5_readE rE rN rO) ∧ Hy tp sz 3 o (w_X5_readNot rE rN rO) ∧ Hy tp sz 7 o (w_X5_readOne rE rN rO) := by
  have h7 : Hy tp sz 7 o (w_X5_readOne rE rN rO) := one_H ho hE hO
  have h3 : Hy tp sz 3 o (w_X5_readNot rE rN rO) := not_H ho hN (su_H (te_H h7))
  exact ⟨ee_H (an_H h3), h3, h7⟩
theorem fr_H : ∀ (n o : Nat), 6 ≤ o + n → o ≤ 5 → Hy tp sz 1 o (f_read n 0) ∧ Hy tp sz 3 o (f_read n 1) ∧ Hy tp sz 7 o (f_read n 2)
  | 0, o, h, ho => absurd h (by omega)
  | n + 1, o, h, ho => by
    have g : o < 5 → Hy tp sz 1 (o + 1) (f_read n 0) ∧ Hy tp sz 3 (o + 1) (f_read n 1) ∧ Hy tp sz 7 (o + 1) (f_read n 2) := fun c => fr_H n (o + 1) (by omega) (by omega)
    have a := all_H (rE := f_read n 0) (rN := f_read n 1) (rO := f_read n 2) ho (fun c => (g c).1) (fun c => (g c).2.1) (fun c => (g c).2.2)
    exact ⟨a.1, a.2.1, a.2.2⟩
/-- behind a fault readE does nothing -/
theorem re_F {j : Nat} (h : CF tp sz τ j) (hq : ∀ τ', Kp FCr τ τ' → CF tp sz τ' j → Q τ') : f_read 6 0 τ 0 Q := by
  show w_X5_readE (f_read 5 0) (f_read 5 1) (f_read 5 2) τ 0 Q
  unfold w_X5_readE w_X5_readAnd w_X5_readNot
  rw [h.2.1]
  refine ⟨fun _ => ?_, fun z => absurd z (ne_k1 (c := 8) (by omega) (by omega))⟩
  unfold w_X5_readSum w_X5_readTerm w_X5_readOne
  rw [h.2.1]
  refine ⟨fun z => absurd z (ne_k1 (c := 2) (by omega) (by omega)), fun _ => ⟨fun _ => ⟨fun _ => ⟨fun _ => ?_, fun z => absurd z (ne_k1 (c := 40) (by omega) (by omega))⟩, fun z => absurd z (ne_k1 (c := 45) (by omega) (by omega))⟩, fun z => absurd (show (0 : Int32) ≤ 1 by decide) z⟩⟩
  refine fl_F h (fun τ1 k1 g1 => ⟨1, ?_⟩)
  have e1 := g1.2.1
  have fin := hq τ1 k1 g1
  have p6 : w_X5_readE_7 (f_read 5 0) (f_read 5 1) (f_read 5 2) Q 1 0 0 τ1 := by
    unfold w_X5_readE_7; rw [e1]
    exact ⟨fun _ => fin, fun _ => ⟨fun _ => fin, fun z => absurd z (ne_k1 (c := 6) (by omega) (by omega))⟩⟩
  have p7 : w_X5_readAnd_7 (f_read 5 0) (f_read 5 1) (f_read 5 2) (fun s103 => ∃ m104 : Nat, w_X5_readE_7 (f_read 5 0) (f_read 5 1) (f_read 5 2) Q m104 0 0 s103) 1 0 0 τ1 := by
    unfold w_X5_readAnd_7; rw [e1]
    exact ⟨fun _ => ⟨1, p6⟩, fun _ => ⟨fun _ => ⟨1, p6⟩, fun z => absurd z (ne_k1 (c := 7) (by omega) (by omega))⟩⟩
  unfold w_X5_readTerm_7
  rw [e1]
  refine ⟨fun z => absurd z (by decide), fun _ => ⟨fun _ => ⟨1, ?_⟩, fun z => absurd z (ne_k1 (c := 42) (by omega) (by omega))⟩⟩
  unfold w_X5_readSum_7
  rw [e1]
  refine ⟨fun z => absurd z (by decide), fun _ => ⟨fun z => absurd z (ne_k1 (c := 43) (by omega) (by omega)), fun _ => ⟨fun _ => ?_, fun z => absurd z (ne_k1 (c := 45) (by omega) (by omega))⟩⟩⟩
  exact ⟨fun z => absurd z (ne_k1 (c := 60) (by omega) (by omega)), fun _ => ⟨fun _ => ⟨1, p7⟩, fun z => absurd z (ne_k1 (c := 61) (by omega) (by omega))⟩⟩
/-- a part's fault -/
def ptF (T : Nat → Nat × Nat) (k i j : Nat) : Prop := (¬ T i = (3, k) ∧ j = i) ∨ (T i = (3, k) ∧ rdF T 1 0 (i + 1) j) ∨ (T i = (3, k) ∧ ∃ l, rdO T 1 0 (i + 1) l j ∧ ¬ T j = (4, 59))
/-- a part -/
def ptO (T : Nat → Nat × Nat) (k i : Nat) (l : List Int32) (j : Nat) : Prop := T i = (3, k) ∧ rdO T 1 0 (i + 1) l j ∧ T j = (4, 59)
theorem pt_S {i k : Nat} {l : List Int32} (h : CS tp sz τ i l) (hk : k < 6) (hl : l.length ≤ i) (hi : i ≤ 160) {v : Int32} (hv : v = nI (3 + k)) (hq : ∀ τ', Kp FCr τ τ' → ((∃ l' j, ptO (tkS tp sz) k i l' j ∧ CS tp sz τ' (j + 1) (l ++ l')) ∨ ∃ j, ptF (tkS tp sz) k i j ∧ CF tp sz τ' j) → Q τ') : w_X5_readPart τ v Q := by
  have hT := tkS_ok (tp := tp) h.1.2.1
  unfold w_X5_readPart
  refine ps_S h (by omega) hv (by omega) (fun τ1 k1 g1 => ⟨6, by omega, ?_⟩)
  rcases g1 with ⟨e1, g1⟩ | ⟨e1, g1⟩
  · have et : tkS tp sz i = (3, k) := (ck_ky h.wf hk).mp e1
    have i160 : i < 160 := hT.2 i (by rw [et]; exact (show ¬ (3 = 5) by omega))
    refine (fr_H 6 0 (by omega) (by omega)).1 (i + 1) l τ1 _ g1 (by omega) (by omega) (fun τ2 k2 g2 => ?_)
    rcases g2 with ⟨l', j, d1, d2⟩ | ⟨j, d1, d2⟩
    · have le := rdO_len hT d1
      refine ps_S (c := 59) d2 (by rw [List.length_append]; have := le.2 (by omega); omega) rfl (by omega) (fun τ3 k3 g3 => hq τ3 ((k1.tr k2).tr k3) ?_)
      rcases g3 with ⟨e3, g3⟩ | ⟨e3, g3⟩
      · exact Or.inl ⟨l', j, ⟨et, d1, (ck_sg (c := 59) d2.wf (by omega) (by omega)).mp e3⟩, g3⟩
      · exact Or.inr ⟨j, Or.inr (Or.inr ⟨et, l', d1, fun q => e3 ((ck_sg (c := 59) d2.wf (by omega) (by omega)).mpr q)⟩), g3⟩
    · exact ps_F (c := 59) d2 rfl (by omega) (by omega) (fun τ3 k3 g3 => hq τ3 ((k1.tr k2).tr k3) (Or.inr ⟨j, Or.inr (Or.inl ⟨et, d1⟩), g3⟩))
  · refine re_F g1 (fun τ2 k2 g2 => ps_F (c := 59) g2 rfl (by omega) (by omega) (fun τ3 k3 g3 => hq τ3 ((k1.tr k2).tr k3) (Or.inr ⟨i, Or.inl ⟨fun q => e1 ((ck_ky h.wf hk).mpr q), rfl⟩, g3⟩)))
theorem pt_F {j : Nat} (h : CF tp sz τ j) {v : Int32} {c : Nat} (hv : v = nI c) (hc : c < 256) (h1 : ¬ c = 1) (hq : ∀ τ', Kp FCr τ τ' → CF tp sz τ' j → Q τ') : w_X5_readPart τ v Q := by
  unfold w_X5_readPart
  refine ps_F h hv hc h1 (fun τ1 k1 g1 => ⟨6, by omega, ?_⟩)
  exact re_F g1 (fun τ2 k2 g2 => ps_F (c := 59) g2 rfl (by omega) (by omega) (fun τ3 k3 g3 => hq τ3 ((k1.tr k2).tr k3) g3))
end RdC
