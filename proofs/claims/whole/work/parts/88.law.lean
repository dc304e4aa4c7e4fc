theorem tw_1028 : Cond.classLink "GreaterPlatesLaw" 7 "GreaterPlates" ∈ TB := TB_of 96 (by decide +kernel) (by decide +kernel)
theorem tw_1029 : Cond.instantiable "GreaterPlates" 19 ∈ TB := TB_of 97 (by decide +kernel) (by decide +kernel)
theorem tw_1030 : Cond.classLink "GreaterPlatesLaw" 10 "GreaterPlatesModel" ∈ TB := TB_of 1018 (by decide +kernel) (by decide +kernel)
theorem tw_1031 : Cond.instantiable "GreaterPlatesModel" 60 ∈ TB := TB_of 919 (by decide +kernel) (by decide +kernel)
set_option maxRecDepth 100000 in
theorem tw_1032 : Cond.code ⟨"GreaterPlates", "<init>", "()V"⟩ prog_1_method_1_code 2 none ∈ TB := TB_of 100 (by rfl) (by decide +kernel)
set_option maxRecDepth 100000 in
theorem tw_1033 : Cond.code ⟨"GreaterPlatesModel", "<init>", "()V"⟩ prog_14_method_27_code 2 none ∈ TB := TB_of 1021 (by rfl) (by decide +kernel)
theorem tw_1034 : Cond.instanceMethod ⟨"GreaterPlates", "<init>", "()V"⟩ ∈ TB := TB_of 99 (by decide +kernel) (by decide +kernel)
theorem tw_1035 : Cond.instanceMethod ⟨"GreaterPlatesModel", "<init>", "()V"⟩ ∈ TB := TB_of 1020 (by decide +kernel) (by decide +kernel)
theorem tw_1036 : Cond.methodLink "GreaterPlatesLaw" 9 ⟨"GreaterPlates", "<init>", "()V"⟩ ∈ TB := TB_of 98 (by decide +kernel) (by decide +kernel)
theorem tw_1037 : Cond.methodLink "GreaterPlatesLaw" 12 ⟨"GreaterPlatesModel", "<init>", "()V"⟩ ∈ TB := TB_of 1019 (by decide +kernel) (by decide +kernel)
theorem no_L_7 : nOK RL 7 11 := ⟨RX11, TX11, 19, rfl, fok_11, by decide, rfl, by decide, tw_1028, tw_1029, tw_31⟩
theorem no_L_10 : nOK RL 10 12 := ⟨RX12, TX12, 60, rfl, fok_12, by decide, rfl, by decide, tw_1030, tw_1031, tw_467⟩
theorem yw_X11_init : yW yX11_init cX11_init 2 none 0 := ⟨tw_1032, tw_31, by decide, by decide, by decide, by decide +kernel⟩
theorem yw_X12_init : yW yX12_init cX12_init 2 none 0 := ⟨tw_1033, tw_467, by decide, by decide, by decide, by decide +kernel⟩
theorem yi_X11_init : yI yX11_init := ⟨tw_1034, rfl⟩
theorem yi_X12_init : yI yX12_init := ⟨tw_1035, rfl⟩
/-! THE LAW, from its entry -/
theorem nil_p {X : Cx} (hp : xP X = []) : ∀ e ∈ xP X, e ∈ ([] : List (Nat × Nat × Nat)) := by rw [hp]; exact fun e h => h
theorem nil_t {X : Cx} (ht : xT X = []) : ∀ e ∈ xT X, e ∈ ([] : List (Nat × Nat × Nat)) := by rw [ht]; exact fun e h => h
theorem nil_S {σ : Mem} : mS [] [] σ := ⟨fun e h => absurd h List.not_mem_nil, fun e h => absurd h List.not_mem_nil⟩
set_option maxRecDepth 4000 in
theorem law_start {X : Cx} {b L : Nat} {xs : Nat → Int32} (hC : mOK X code R_law "law" ret 1400 600000 7302250) (hX : va_X b L xs X.2.1.1 X.2.1.1.heap) (hbl : b < X.2.1.1.heap.size) (hB : b < xB X) (hp : xP X = []) (ht : xT X = []) (hN : xN X = 4) (hL : L ≤ 384) {Q : State → Prop} (hend : ∀ (σ : Mem) (kc ks : Nat) (i : Int32), kc ≤ 600000 → ks ≤ 7302250 → mG (xKn X psA tsA) 1129 [(3, .int i), (2, .ref (xB X + 37)), (1, .ref (xB X + 0)), (0, .ref b)] [] σ kc ks Q) : mG X 0 [(0, .ref b)] [] za 0 0 Q := by
  have hn : ∀ i, i < 4 → i < xN X := fun i h => by rw [hN]; exact h
  refine k_new (r := 0) (τ := kC_0) hC no_L_7 (by decide) (by decide) dL_law_0 rfl rfl ?_
  refine g_dup hC dL_law_3 rfl ?_
  refine mG.st (st1 := ([] : List Value).reverse ++ .ref (xB X + 0) :: [.ref (xB X + 0)]) rfl ?_
  refine g_callI (As := []) (st := [.ref (xB X + 0)]) hC yw_X11_init yi_X11_init tw_1036 dL_law_4 (nil_p hp) (nil_t ht) (fun _ => nil_S) (c_X11_init (d := 198) (Nat.le_refl _) (Q := St0) (st_X11 (fun β h => h))) rfl (Nat.le_of_ble_eq_true rfl) (by omega) (by decide) (by decide) (kV fun β hβ => ?_)
  refine g_astore_n (lv' := [(1, .ref (xB X + 0)), (0, .ref b)]) hC dL_law_7 (hn 1 (by decide)) rfl ?_
  refine k_new (r := 37) (τ := kM_0 β) hC no_L_10 (by decide) (by decide) dL_law_8 hβ.1 rfl ?_
  refine g_dup hC dL_law_11 rfl ?_
  refine mG.st (st1 := ([] : List Value).reverse ++ .ref (xB X + 37) :: [.ref (xB X + 37)]) rfl ?_
  refine g_callI (As := []) (st := [.ref (xB X + 37)]) hC yw_X12_init yi_X12_init tw_1037 dL_law_12 (nil_p hp) (nil_t ht) (fun _ => nil_S) (c_X12_init (d := 1) (Nat.le_refl _) hβ.1 (Q := fun z => z = kM_142 β) rfl) rfl (Nat.le_of_ble_eq_true rfl) (by omega) (by decide) (by decide) (kV fun z hz => ?_)
  subst hz
  refine g_astore_n (lv' := [(2, .ref (xB X + 37)), (1, .ref (xB X + 0)), (0, .ref b)]) hC dL_law_15 (hn 2 (by decide)) rfl ?_
  refine g_iconst (v := 0) hC dL_law_16 (by decide) ?_
  refine g_istore_n (lv' := [(3, .int 0), (2, .ref (xB X + 37)), (1, .ref (xB X + 0)), (0, .ref b)]) hC dL_law_17 (hn 3 (by decide)) rfl ?_
  refine mG.widen (kc' := 1000 + 20 * 0) (ks' := 20000 + 600 * 0) (by decide) (by decide) ?_
  have hR := Rel_0 hβ
  have key := law_loop (X := xKn X psA tsA) hC hX hbl hB (fun e h => List.mem_append_left _ h) (fun e h => List.mem_append_left _ h) (fun e h => List.mem_append_right _ h) (fun e h => List.mem_append_right _ h) (fun e h => h) hN law_pairs hL hend 70 0 (kM_142 β) (by omega) (by omega) hR
  exact fun H locs ls hV hS hl => key H locs ls ⟨hV.1, hV.2.1, hR.1⟩ hS hl
/-- what is given at the start -/
def flX : List Cond := flatC (Jvm.Cond.and given_1 narrow_1)
theorem as_y {s : State} {A : Array Value} {C T : String} (h : (Cond.castable C T).before A s = true) : asg C T true s := Cond.castable_spec h
theorem as_n {s : State} {A : Array Value} {C T : String} {c t : ClassId} (h : (Cond.not (Cond.castable C T)).before A s = true) (f1 : s.vm.findClass C = some c) (f2 : s.vm.findClass T = some t) : asg C T false s := by
  refine ⟨c, t, f1, f2, ?_⟩
  simp only [Cond.before, Cond.holds, Cond.value] at h
  simpa [f1, f2] using h
theorem as_s {s : State} {C : String} {c : ClassId} (h : ClassAt s C c) : asg C C true s := ⟨c, c, h.1, h.1, va_assign h⟩
theorem ar_p {s : State} {A : Array Value} {ty : FieldType} (h : (Cond.arrayClass ty).before A s = true) (hv : ∀ cA : ClassId, s.vm.findClass ("[" ++ ty.toString) = some cA → va_RA s cA ty) : ∃ cA : ClassId, ArrOfT s cA ty ∧ va_RA s cA ty := by
  obtain ⟨c, k, comp, h1, h2, h3⟩ := Cond.arrayClass_spec h
  exact ⟨c, fun n z => ⟨fun k h => (by cases h), k, h2, comp, h3⟩, hv c h1⟩
theorem ar_o {s : State} {A : Array Value} {C : String} (h : (Cond.arrayOver (.object C)).before A s = true) : ∃ cA : ClassId, ArrOfT s cA (.object C) ∧ va_RA s cA (.object C) := by
  obtain ⟨comp, c, k, h1, h2, h3, h4, h5⟩ := Cond.arrayOver_spec h
  exact ⟨c, fun n z => ⟨fun k h => (by cases h), k, h3, comp, h4⟩, k, comp, h3, h4, h1, h5⟩
/-- the String constants -/
def tmX (i : Nat) : Term := .string (strX.getD i ("", 0, "")).1 (strX.getD i ("", 0, "")).2.1
theorem tm_ex : ∀ i : Nat, i < 13 → Cond.exactly (tmX i) "java/lang/String" ∈ flX := by decide +kernel
theorem tm_co : ∀ i : Nat, i < 13 → Cond.eq (.field (tmX i) "java/lang/String" "coder" "B") (.int 0) ∈ flX := by decide +kernel
theorem tm_ar : ∀ i : Nat, i < 13 → Cond.arrayOf (.field (tmX i) "java/lang/String" "value" "[B") .byte ∈ flX := by decide +kernel
theorem tm_le : ∀ i : Nat, i < 13 → Cond.eq (.length (.field (tmX i) "java/lang/String" "value" "[B")) (.int (Int32.ofNat (lenX.getD i 0))) ∈ flX := by decide +kernel
theorem tm_el : ∀ i : Nat, i < 13 → ∀ j : Nat, j < lenX.getD i 0 → Cond.eq (.elem (.field (tmX i) "java/lang/String" "value" "[B") (.int (Int32.ofNat j))) (.int ((bytX.getD i []).getD j 0)) ∈ flX := by decide +kernel
def bsX : List Nat := [0, 197, 206, 218, 227, 238, 250, 264, 278, 294, 312, 330, 349]
theorem tm_nj : ∀ j, j < 13 → ∀ i, i < j → flX[bsX.getD j 0 + i]? = some (Cond.not (Cond.eq (tmX i) (tmX j))) := by decide +kernel
theorem tm_ne (i : Nat) (hi : i < 13) (j : Nat) (hj : j < 13) (h : i ≠ j) : Cond.not (Cond.eq (tmX i) (tmX j)) ∈ flX ∨ Cond.not (Cond.eq (tmX j) (tmX i)) ∈ flX := by
  rcases Nat.lt_or_ge i j with q | q
  · exact Or.inl (List.mem_of_getElem? (tm_nj j hj i q))
  · exact Or.inr (List.mem_of_getElem? (tm_nj i hi j (by omega)))
theorem tm_rf : ∀ (i : Nat) (q : String × Nat × String), strX[i]? = some q → tmX i = .string q.1 q.2.1 ∧ i < 13 := by
  intro i q h
  have hi : i < 13 := (List.getElem?_eq_some_iff.mp h).1
  refine ⟨?_, hi⟩
  unfold tmX
  rw [List.getD_eq_getElem?_getD, h]; rfl
theorem st_rf : ∀ q ∈ strX, Cond.stringRef q.1 q.2.1 q.2.2 ∈ lw_tbl := by decide +kernel
theorem at_K {s : State} {A : Array Value} (hts : ∀ w ∈ lw_tbl, w.before A s = true) (hgv : (Jvm.Cond.and given_1 narrow_1).before A s = true) : ∃ (cy : Nat → ClassId) (D : va_G) (ad : (Nat → Nat) × (Nat → Nat)), mK cy D ad s.heap.size s := by
  have hTB : ∀ w ∈ TB, w.before A s = true := fun w hw => hts w (List.mem_filter.mp hw).1
  have hfl : ∀ w ∈ flX, w.before A s = true := flat_of_before _ hgv
  have hA : ∀ a : Nat, a < s.heap.size → ¬ (fun q : Nat => s.heap.size ≤ q) a := fun a h => Nat.not_le.mpr h
  -- classes
  have hc : ∀ k : Nat, ∃ q : ClassId × (Nat → Nat), ∀ x : vw_C, vwCl[k]? = some x → u_Kn s x.1 x.2.1 x.2.2 q.1 q.2 := by
    intro k
    match k with
    | 0 =>
      obtain ⟨c, i, h⟩ := u_known (C := RX0) (T := TX0) (N := 2) (n := 2) hTB fok_0.1 (hTB _ tw_53)
      exact ⟨(c, i), fun x hx => by cases hx; exact h⟩
    | 1 =>
      obtain ⟨c, i, h⟩ := u_known (C := RX1) (T := TX1) (N := 5) (n := 5) hTB fok_1.1 (hTB _ tw_417)
      exact ⟨(c, i), fun x hx => by cases hx; exact h⟩
    | 2 =>
      obtain ⟨c, i, h⟩ := u_known (C := RX2) (T := TX2) (N := 2) (n := 2) hTB fok_2.1 (hTB _ tw_60)
      exact ⟨(c, i), fun x hx => by cases hx; exact h⟩
    | 3 =>
      obtain ⟨c, i, h⟩ := u_known (C := RX3) (T := TX3) (N := 2) (n := 2) hTB fok_3.1 (hTB _ tw_77)
      exact ⟨(c, i), fun x hx => by cases hx; exact h⟩
    | 4 =>
      obtain ⟨c, i, h⟩ := u_known (C := RX4) (T := TX4) (N := 2) (n := 2) hTB fok_4.1 (hTB _ tw_47)
      exact ⟨(c, i), fun x hx => by cases hx; exact h⟩
    | 5 =>
      obtain ⟨c, i, h⟩ := u_known (C := RX5) (T := TX5) (N := 9) (n := 9) hTB fok_5.1 (hTB _ tw_1012)
      exact ⟨(c, i), fun x hx => by cases hx; exact h⟩
    | 6 =>
      obtain ⟨c, i, h⟩ := u_known (C := RX6) (T := TX6) (N := 5) (n := 5) hTB fok_6.1 (hTB _ tw_232)
      exact ⟨(c, i), fun x hx => by cases hx; exact h⟩
    | 7 =>
      obtain ⟨c, i, h⟩ := u_known (C := RX7) (T := TX7) (N := 3) (n := 3) hTB fok_7.1 (hTB _ tw_1019)
      exact ⟨(c, i), fun x hx => by cases hx; exact h⟩
    | 8 =>
      obtain ⟨c, i, h⟩ := u_known (C := RX8) (T := TX8) (N := 2) (n := 2) hTB fok_8.1 (hTB _ tw_74)
      exact ⟨(c, i), fun x hx => by cases hx; exact h⟩
    | 9 =>
      obtain ⟨c, i, h⟩ := u_known (C := RX9) (T := TX9) (N := 4) (n := 4) hTB fok_9.1 (hTB _ tw_423)
      exact ⟨(c, i), fun x hx => by cases hx; exact h⟩
    | 10 =>
      obtain ⟨c, i, h⟩ := u_known (C := RX10) (T := TX10) (N := 2) (n := 2) hTB fok_10.1 (hTB _ tw_67)
      exact ⟨(c, i), fun x hx => by cases hx; exact h⟩
    | 11 =>
      obtain ⟨c, i, h⟩ := u_known (C := RX11) (T := TX11) (N := 19) (n := 19) hTB fok_11.1 (hTB _ tw_1029)
      exact ⟨(c, i), fun x hx => by cases hx; exact h⟩
    | 12 =>
      obtain ⟨c, i, h⟩ := u_known (C := RX12) (T := TX12) (N := 60) (n := 60) hTB fok_12.1 (hTB _ tw_1031)
      exact ⟨(c, i), fun x hx => by cases hx; exact h⟩
    | k + 13 => exact ⟨(0, fun _ => 0), fun x h => by simp [vwCl] at h⟩
  obtain ⟨f, hf⟩ := Classical.axiomOfChoice hc
  have hcl : ∀ k x, vwCl[k]? = some x → ClassAt s x.1 (f k).1 := fun k x h => (hf k x h).2
  -- arrays
  obtain ⟨c13, h13⟩ := ar_p (hTB _ tw_1024) (fun cA h => h)
  obtain ⟨c14, h14⟩ := ar_p (hTB _ tw_223) (fun cA h => h)
  obtain ⟨c15, h15⟩ := ar_p (hTB _ tw_1025) (fun cA h => h)
  have ao : ∀ C ∈ overX, va_AO C s := (List.forall_mem_cons.mpr ⟨va_AO.of (A := A) (hts _ (List.mem_of_getElem? (show lw_tbl[105]? = some (Cond.arrayOver (Jvm.ClassFile.FieldType.object "GreaterPlates$Layer")) by decide +kernel))), (List.forall_mem_cons.mpr ⟨va_AO.of (A := A) (hts _ (List.mem_of_getElem? (show lw_tbl[107]? = some (Cond.arrayOver (Jvm.ClassFile.FieldType.object "GreaterPlates$Rule")) by decide +kernel))), (List.forall_mem_cons.mpr ⟨va_AO.of (A := A) (hts _ (List.mem_of_getElem? (show lw_tbl[194]? = some (Cond.arrayOver (Jvm.ClassFile.FieldType.object "GreaterPlates$Sheet")) by decide +kernel))), (fun e h => absurd h List.not_mem_nil)⟩)⟩)⟩)
  obtain ⟨c16, h16⟩ := ar_o (va_AO.use (A := A) (ao "GreaterPlates$Layer" (by decide)))
  obtain ⟨c17, h17⟩ := ar_o (va_AO.use (A := A) (ao "GreaterPlates$Rule" (by decide)))
  obtain ⟨c18, h18⟩ := ar_o (va_AO.use (A := A) (ao "GreaterPlates$Sheet" (by decide)))
  -- strings
  obtain ⟨adK, adV, hS, hSe⟩ := vk_Sof (tm := tmX) (N := 13) (len := lenX) (byt := bytX) (args := A) (s := s) (fun i _ => str_len i) (fun i h => hfl _ (tm_ex i h)) (fun i h => hfl _ (tm_co i h)) (fun i h => hfl _ (tm_ar i h)) (fun i h => hfl _ (tm_le i h)) (fun i h j hj => hfl _ (tm_el i h j hj)) (fun i j h1 h2 h3 => (tm_ne i h1 j h2 h3).imp (fun h => hfl _ h) (fun h => hfl _ h)) hA
  refine ⟨fun t => if t = 13 then c13 else if t = 14 then c14 else if t = 15 then c15 else if t = 16 then c16 else if t = 17 then c17 else c18, (fun k => (f k).1, fun k => (f k).2), (adK, adV), ⟨fun k x h => hf k x h, ?_⟩, hS, ?_, ?_, ao, ?_, ?_⟩
  · intro k q h
    match k, h with
    | 0, h => cases h; exact h13
    | 1, h => cases h; exact h14
    | 2, h => cases h; exact h15
    | 3, h => cases h; exact h16
    | 4, h => cases h; exact h17
    | 5, h => cases h; exact h18
    | k + 6, h => simp [mTys] at h
  · intro i q h
    obtain ⟨e, hi⟩ := tm_rf i q h
    refine vk_R.of (A := A) (hts _ (st_rf q (List.mem_of_getElem? h))) ?_
    rw [← e]; exact hSe i hi
  · exact (List.forall_mem_cons.mpr ⟨as_s (hcl 0 _ rfl), (List.forall_mem_cons.mpr ⟨as_n (A := A) (hfl _ (show Cond.not (Cond.castable "GreaterPlates$Free" "GreaterPlates$High") ∈ flX by decide +kernel)) (hcl 0 _ rfl).1 (hcl 2 _ rfl).1, (List.forall_mem_cons.mpr ⟨as_y (A := A) (hts _ (List.mem_of_getElem? (show lw_tbl[1395]? = some (Cond.castable "GreaterPlates$Free" "GreaterPlates$Layer") by decide +kernel))), (List.forall_mem_cons.mpr ⟨as_n (A := A) (hfl _ (show Cond.not (Cond.castable "GreaterPlates$Free" "GreaterPlates$Near") ∈ flX by decide +kernel)) (hcl 0 _ rfl).1 (hcl 4 _ rfl).1, (List.forall_mem_cons.mpr ⟨as_n (A := A) (hfl _ (show Cond.not (Cond.castable "GreaterPlates$Free" "GreaterPlates$Sulky") ∈ flX by decide +kernel)) (hcl 0 _ rfl).1 (hcl 8 _ rfl).1, (List.forall_mem_cons.mpr ⟨as_n (A := A) (hfl _ (show Cond.not (Cond.castable "GreaterPlates$Free" "GreaterPlates$Told") ∈ flX by decide +kernel)) (hcl 0 _ rfl).1 (hcl 10 _ rfl).1, (List.forall_mem_cons.mpr ⟨as_n (A := A) (hfl _ (show Cond.not (Cond.castable "GreaterPlates$High" "GreaterPlates$Free") ∈ flX by decide +kernel)) (hcl 2 _ rfl).1 (hcl 0 _ rfl).1, (List.forall_mem_cons.mpr ⟨as_s (hcl 2 _ rfl), (List.forall_mem_cons.mpr ⟨as_y (A := A) (hts _ (List.mem_of_getElem? (show lw_tbl[1396]? = some (Cond.castable "GreaterPlates$High" "GreaterPlates$Layer") by decide +kernel))), (List.forall_mem_cons.mpr ⟨as_y (A := A) (hts _ (List.mem_of_getElem? (show lw_tbl[1391]? = some (Cond.castable "GreaterPlates$High" "GreaterPlates$Near") by decide +kernel))), (List.forall_mem_cons.mpr ⟨as_n (A := A) (hfl _ (show Cond.not (Cond.castable "GreaterPlates$High" "GreaterPlates$Sulky") ∈ flX by decide +kernel)) (hcl 2 _ rfl).1 (hcl 8 _ rfl).1, (List.forall_mem_cons.mpr ⟨as_n (A := A) (hfl _ (show Cond.not (Cond.castable "GreaterPlates$High" "GreaterPlates$Told") ∈ flX by decide +kernel)) (hcl 2 _ rfl).1 (hcl 10 _ rfl).1, (List.forall_mem_cons.mpr ⟨as_n (A := A) (hfl _ (show Cond.not (Cond.castable "GreaterPlates$Layer" "GreaterPlates$Free") ∈ flX by decide +kernel)) (hcl 3 _ rfl).1 (hcl 0 _ rfl).1, (List.forall_mem_cons.mpr ⟨as_n (A := A) (hfl _ (show Cond.not (Cond.castable "GreaterPlates$Layer" "GreaterPlates$High") ∈ flX by decide +kernel)) (hcl 3 _ rfl).1 (hcl 2 _ rfl).1, (List.forall_mem_cons.mpr ⟨as_s (hcl 3 _ rfl), (List.forall_mem_cons.mpr ⟨as_n (A := A) (hfl _ (show Cond.not (Cond.castable "GreaterPlates$Layer" "GreaterPlates$Near") ∈ flX by decide +kernel)) (hcl 3 _ rfl).1 (hcl 4 _ rfl).1, (List.forall_mem_cons.mpr ⟨as_n (A := A) (hfl _ (show Cond.not (Cond.castable "GreaterPlates$Layer" "GreaterPlates$Sulky") ∈ flX by decide +kernel)) (hcl 3 _ rfl).1 (hcl 8 _ rfl).1, (List.forall_mem_cons.mpr ⟨as_n (A := A) (hfl _ (show Cond.not (Cond.castable "GreaterPlates$Layer" "GreaterPlates$Told") ∈ flX by decide +kernel)) (hcl 3 _ rfl).1 (hcl 10 _ rfl).1, (List.forall_mem_cons.mpr ⟨as_n (A := A) (hfl _ (show Cond.not (Cond.castable "GreaterPlates$Near" "GreaterPlates$Free") ∈ flX by decide +kernel)) (hcl 4 _ rfl).1 (hcl 0 _ rfl).1, (List.forall_mem_cons.mpr ⟨as_n (A := A) (hfl _ (show Cond.not (Cond.castable "GreaterPlates$Near" "GreaterPlates$High") ∈ flX by decide +kernel)) (hcl 4 _ rfl).1 (hcl 2 _ rfl).1, (List.forall_mem_cons.mpr ⟨as_y (A := A) (hts _ (List.mem_of_getElem? (show lw_tbl[1394]? = some (Cond.castable "GreaterPlates$Near" "GreaterPlates$Layer") by decide +kernel))), (List.forall_mem_cons.mpr ⟨as_s (hcl 4 _ rfl), (List.forall_mem_cons.mpr ⟨as_n (A := A) (hfl _ (show Cond.not (Cond.castable "GreaterPlates$Near" "GreaterPlates$Sulky") ∈ flX by decide +kernel)) (hcl 4 _ rfl).1 (hcl 8 _ rfl).1, (List.forall_mem_cons.mpr ⟨as_n (A := A) (hfl _ (show Cond.not (Cond.castable "GreaterPlates$Near" "GreaterPlates$Told") ∈ flX by decide +kernel)) (hcl 4 _ rfl).1 (hcl 10 _ rfl).1, (List.forall_mem_cons.mpr ⟨as_n (A := A) (hfl _ (show Cond.not (Cond.castable "GreaterPlates$Sulky" "GreaterPlates$Free") ∈ flX by decide +kernel)) (hcl 8 _ rfl).1 (hcl 0 _ rfl).1, (List.forall_mem_cons.mpr ⟨as_n (A := A) (hfl _ (show Cond.not (Cond.castable "GreaterPlates$Sulky" "GreaterPlates$High") ∈ flX by decide +kernel)) (hcl 8 _ rfl).1 (hcl 2 _ rfl).1, (List.forall_mem_cons.mpr ⟨as_y (A := A) (hts _ (List.mem_of_getElem? (show lw_tbl[1398]? = some (Cond.castable "GreaterPlates$Sulky" "GreaterPlates$Layer") by decide +kernel))), (List.forall_mem_cons.mpr ⟨as_y (A := A) (hts _ (List.mem_of_getElem? (show lw_tbl[1392]? = some (Cond.castable "GreaterPlates$Sulky" "GreaterPlates$Near") by decide +kernel))), (List.forall_mem_cons.mpr ⟨as_s (hcl 8 _ rfl), (List.forall_mem_cons.mpr ⟨as_n (A := A) (hfl _ (show Cond.not (Cond.castable "GreaterPlates$Sulky" "GreaterPlates$Told") ∈ flX by decide +kernel)) (hcl 8 _ rfl).1 (hcl 10 _ rfl).1, (List.forall_mem_cons.mpr ⟨as_y (A := A) (hts _ (List.mem_of_getElem? (show lw_tbl[1393]? = some (Cond.castable "GreaterPlates$Told" "GreaterPlates$Free") by decide +kernel))), (List.forall_mem_cons.mpr ⟨as_n (A := A) (hfl _ (show Cond.not (Cond.castable "GreaterPlates$Told" "GreaterPlates$High") ∈ flX by decide +kernel)) (hcl 10 _ rfl).1 (hcl 2 _ rfl).1, (List.forall_mem_cons.mpr ⟨as_y (A := A) (hts _ (List.mem_of_getElem? (show lw_tbl[1397]? = some (Cond.castable "GreaterPlates$Told" "GreaterPlates$Layer") by decide +kernel))), (List.forall_mem_cons.mpr ⟨as_n (A := A) (hfl _ (show Cond.not (Cond.castable "GreaterPlates$Told" "GreaterPlates$Near") ∈ flX by decide +kernel)) (hcl 10 _ rfl).1 (hcl 4 _ rfl).1, (List.forall_mem_cons.mpr ⟨as_n (A := A) (hfl _ (show Cond.not (Cond.castable "GreaterPlates$Told" "GreaterPlates$Sulky") ∈ flX by decide +kernel)) (hcl 10 _ rfl).1 (hcl 8 _ rfl).1, (List.forall_mem_cons.mpr ⟨as_s (hcl 10 _ rfl), (fun e h => absurd h List.not_mem_nil)⟩)⟩)⟩)⟩)⟩)⟩)⟩)⟩)⟩)⟩)⟩)⟩)⟩)⟩)⟩)⟩)⟩)⟩)⟩)⟩)⟩)⟩)⟩)⟩)⟩)⟩)⟩)⟩)⟩)⟩)⟩)⟩)⟩)⟩)⟩)⟩)
  · exact va_Zof (args := A) (hts _ (List.mem_of_getElem? (show lw_tbl[225]? = some (Cond.laysStatic "java/lang/String" "COMPACT_STRINGS" "Z") by decide +kernel))) (hts _ (List.mem_of_getElem? (show lw_tbl[80]? = some (Cond.initialized "java/lang/String") by decide +kernel))) (va_eqt (hfl _ (show Cond.eq (.static "java/lang/String" "COMPACT_STRINGS" "Z") (.int 1) ∈ flX by decide +kernel))) hA
  · exact va_Zqof (args := A) (hts _ (List.mem_of_getElem? (show lw_tbl[241]? = some (Cond.laysStatic "jdk/internal/util/Preconditions" "SIOOBE_FORMATTER" "Ljava/util/function/BiFunction;") by decide +kernel))) (hts _ (List.mem_of_getElem? (show lw_tbl[82]? = some (Cond.initialized "jdk/internal/util/Preconditions") by decide +kernel))) (hfl _ (show Cond.isRef (.static "jdk/internal/util/Preconditions" "SIOOBE_FORMATTER" "Ljava/util/function/BiFunction;") ∈ flX by decide +kernel)) hA
theorem whole_start {p : Program} {e : Jvm.Env} {s : State} {m : MethodId} {below : List Frame} {meth : Method} {c : Code} (l : Launch) {b L : Nat} {xs : Nat → Int32} (hL : L ≤ 384) (C0 : lw_At p s m meth c b L xs) (hnm : meth.name = "law") : W p l e room_1 s m #[Value.ref b] below meth c s.heap [] 0 0 (lw_Z below #[Value.ref b] s) (entryFrame m ([Value.ref b] : List Value).toArray 4) := by
  obtain ⟨hx, hb, hr, hml, hown, hts, hX, hbl, hlocks, hgv⟩ := C0
  obtain ⟨cy, D, ad, hK⟩ := at_K hts hgv
  have hC : mOK ((p, l, e, room_1), (s, m, #[Value.ref b], below), (meth, c), (cy, D, ad), (s.heap.size, 4), ([], [])) code R_law "law" ret 1400 600000 7302250 :=
    ⟨hx, hb, hml, hown, fun w hw => hts w (List.mem_filter.mp hw).1, hK, hr, hlocks, hnm, ⟨show 1400 ≤ room_1.frames by decide, rfl, rfl, show 60 * 1400 ≤ room_1.locals by decide⟩, Nat.le_refl _⟩
  have key := law_start hC hX hbl hbl rfl rfl rfl hL (Q := lw_Z below #[Value.ref b] s) (fun σ kc ks i h1 h2 => by
    refine mG.widen h1 h2 ?_
    refine g_iconst (X := xKn _ psA tsA) (v := 1) hC dL_law_1129 (by decide) ?_
    exact fun H locs ls hV hS hl => va_forget (fun q hq => hS.2.2 q hq) (lw_ret hx hb hr hlocks dL_law_1130))
  rw [lg_entry_eq]
  have hl := lv_entry ([.ref b]) (n := 4) (Nat.le_of_ble_eq_true rfl)
  exact key s.heap [] _ ⟨rfl, fun k q h => by simp [mW, za] at h, nil_S⟩ va_S.rf hl
