theorem str_len : ∀ k : Nat, lenX.getD k 0 < 2 ^ 31 := by
  intro k
  rcases Nat.lt_or_ge k 13 with h | h
  · exact (show ∀ k, k < 13 → lenX.getD k 0 < 2 ^ 31 by decide) k h
  · rw [List.getD_eq_getElem?_getD, List.getElem?_eq_none (by simpa [lenX] using h)]; decide
theorem vp_lt_nI {i : Int32} {n : Nat} (h : vp_in i n) (hn : n < 2 ^ 31) : i < nI n := by
  obtain ⟨j, hj, rfl⟩ := vp_in_of h hn
  exact nI_lt hj hn
set_option maxRecDepth 4000 in
theorem c_J0_coder_7d493 {Z : Fx} {ps ts : List (Nat × Nat × Nat)} {d : Nat} (hd : 0 ≤ d) {σ : Mem} {k : Nat} {Q : Int32 → Mem → Prop} (hk : k < 13) (hw : Q 0 σ) : mM Z ps ts yJ0_coder_7d493 cJ0_coder_7d493 1 (some .byte) d 0 0 [.ref (Z.2.1.2.2.1 k)] σ (qI Q) := by
  refine mM.of (by decide) (Nat.le_of_ble_eq_true rfl) rfl (fun X hZ hp ht hn hC => ?_)
  subst hZ; subst hp; subst ht
  refine g_getst hC tw_699 dJ0_coder_7d493_0 ?_
  refine g_if_eq (tgt := 13) hC dJ0_coder_7d493_3 rfl (fun c => absurd c (by decide)) (fun c => ?_)
  refine g_aload_n hC dJ0_coder_7d493_6 rfl ?_
  refine g_getcoder hC hk tw_700 dJ0_coder_7d493_7 ?_
  refine g_goto (tgt := 14) hC dJ0_coder_7d493_10 rfl ?_
  exact g_iret hC rfl (by decide) (by decide) dJ0_coder_7d493_14 (fun _ => ⟨_, rfl, hw⟩)
set_option maxRecDepth 4000 in
theorem c_J0_isLatin1_aae02 {Z : Fx} {ps ts : List (Nat × Nat × Nat)} {d : Nat} (hd : 0 ≤ d) {σ : Mem} {k : Nat} {Q : Int32 → Mem → Prop} (hk : k < 13) (hw : Q 1 σ) : mM Z ps ts yJ0_isLatin1_aae02 cJ0_isLatin1_aae02 1 (some .boolean) d 0 0 [.ref (Z.2.1.2.2.1 k)] σ (qI Q) := by
  refine mM.of (by decide) (Nat.le_of_ble_eq_true rfl) rfl (fun X hZ hp ht hn hC => ?_)
  subst hZ; subst hp; subst ht
  refine g_getst hC tw_699 dJ0_isLatin1_aae02_0 ?_
  refine g_if_eq (tgt := 17) hC dJ0_isLatin1_aae02_3 rfl (fun c => absurd c (by decide)) (fun c => ?_)
  refine g_aload_n hC dJ0_isLatin1_aae02_6 rfl ?_
  refine g_getcoder hC hk tw_700 dJ0_isLatin1_aae02_7 ?_
  refine g_if_ne (tgt := 17) hC dJ0_isLatin1_aae02_10 rfl (fun c => absurd rfl c) (fun c => ?_)
  refine g_iconst (v := 1) hC dJ0_isLatin1_aae02_13 (by decide) ?_
  refine g_goto (tgt := 18) hC dJ0_isLatin1_aae02_14 rfl ?_
  exact g_iret hC bz1 (by decide) (by decide) dJ0_isLatin1_aae02_18 (fun _ => ⟨_, rfl, hw⟩)
set_option maxRecDepth 4000 in
theorem c_J0_length_8abf5 {Z : Fx} {ps ts : List (Nat × Nat × Nat)} {d : Nat} (hd : 1 ≤ d) {σ : Mem} {k : Nat} {Q : Int32 → Mem → Prop} (hk : k < 13) (hw : Q (nI (lenX.getD k 0)) σ) : mM Z ps ts yJ0_length_8abf5 cJ0_length_8abf5 1 (some .int) d 0 0 [.ref (Z.2.1.2.2.1 k)] σ (qI Q) := by
  refine mM.of (by decide) (Nat.le_of_ble_eq_true rfl) rfl (fun X hZ hp ht hn hC => ?_)
  subst hZ; subst hp; subst ht
  refine g_aload_n hC dJ0_length_8abf5_0 rfl ?_
  refine g_getvalue hC hk tw_701 dJ0_length_8abf5_1 ?_
  refine g_bytlen hC hk dJ0_length_8abf5_4 ?_
  refine g_aload_n hC dJ0_length_8abf5_5 rfl ?_
  refine mG.st (st1 := ([] : List Value).reverse ++ .ref (xK X k) :: [.int (nI (lenX.getD k 0))]) rfl ?_
  refine g_callX (As := []) (st := [.int (nI (lenX.getD k 0))]) hC hk rfl yw_J0_coder_7d493 yv_J0_coder_7d493 tw_706 dJ0_length_8abf5_6 (c_J0_coder_7d493 (d := 0) (Nat.le_refl _) (Q := fun v s => v = 0 ∧ s = σ) hk ⟨rfl, rfl⟩) rfl (Nat.le_of_ble_eq_true rfl) (by omega) (by decide) (by decide) (kI fun v s hq => ?_)
  obtain ⟨rfl, rfl⟩ := hq
  refine g_ishr hC dJ0_length_8abf5_9 ?_
  exact g_iret hC rfl (by decide) (by decide) dJ0_length_8abf5_10 (fun _ => ⟨_, rfl, by rw [sb_shr0]; exact hw⟩)
set_option maxRecDepth 4000 in
theorem c_J3_checkIndex_8e157 {Z : Fx} {ps ts : List (Nat × Nat × Nat)} {d : Nat} {σ : Mem} {i : Int32} {n : Nat} {o : Option Nat} {Q : Int32 → Mem → Prop} (hin : vp_in i n) (hn2 : n < 2 ^ 31) (hw : Q i σ) : mM Z ps ts yJ3_checkIndex_8e157 cJ3_checkIndex_8e157 3 (some .int) d 0 0 [.int i, .int (nI n), va_rf o] σ (qI Q) := by
  refine mM.of (lv := [(0, .int i), (1, .int (nI n)), (2, va_rf o)]) (by decide) (by cases o <;> exact Nat.le_of_ble_eq_true rfl) (by cases o <;> rfl) (fun X hZ hp ht hn hC => ?_)
  subst hZ; subst hp; subst ht
  refine g_iload_n hC dJ3_checkIndex_8e157_0 rfl ?_
  refine g_if_lt (tgt := 9) hC dJ3_checkIndex_8e157_1 rfl (fun c => absurd (Or.inl c) hin) (fun c => ?_)
  refine g_iload_n hC dJ3_checkIndex_8e157_4 rfl ?_
  refine g_iload_n hC dJ3_checkIndex_8e157_5 rfl ?_
  refine g_icmp_lt (tgt := 16) hC dJ3_checkIndex_8e157_6 rfl (fun c => ?_) (fun c => absurd (vp_lt_nI hin hn2) c)
  refine g_iload_n hC dJ3_checkIndex_8e157_16 rfl ?_
  exact g_iret hC rfl (by decide) (by decide) dJ3_checkIndex_8e157_17 (fun _ => ⟨_, rfl, hw⟩)
set_option maxRecDepth 4000 in
theorem c_J0_checkIndex_df160 {Z : Fx} {ps ts : List (Nat × Nat × Nat)} {d : Nat} (hd : 1 ≤ d) {σ : Mem} {i : Int32} {n : Nat} {Q : Mem → Prop} (hin : vp_in i n) (hn2 : n < 2 ^ 31) (hw : Q σ) : mM Z ps ts yJ0_checkIndex_df160 cJ0_checkIndex_df160 2 none d 0 0 [.int i, .int (nI n)] σ (qV Q) := by
  refine mM.of (by decide) (Nat.le_of_ble_eq_true rfl) rfl (fun X hZ hp ht hn hC => ?_)
  subst hZ; subst hp; subst ht
  refine g_iload_n hC dJ0_checkIndex_df160_0 rfl ?_
  refine g_iload_n hC dJ0_checkIndex_df160_1 rfl ?_
  refine g_getfmt hC tw_707 dJ0_checkIndex_df160_2 (fun o => ?_)
  refine mG.st (st1 := ([.int i, .int (nI n), va_rf o] : List Value).reverse ++ []) rfl ?_
  refine g_callS (As := [.int i, .int (nI n), va_rf o]) (st := []) hC yw_J3_checkIndex_8e157 ys_J3_checkIndex_8e157 tw_711 dJ0_checkIndex_df160_5 (fun _ h => h) (fun _ h => h) (fun h => h) (c_J3_checkIndex_8e157 (d := 0) (Q := fun v t => t = σ) hin hn2 rfl) rfl (Nat.le_of_ble_eq_true rfl) (by omega) (by decide) (by decide) (kI fun v t hq => ?_)
  subst hq
  refine g_pop hC dJ0_checkIndex_df160_8 rfl ?_
  exact g_vret hC (by decide) (by decide) dJ0_checkIndex_df160_9 (fun _ => ⟨rfl, hw⟩)
set_option maxRecDepth 4000 in
theorem c_J1_charAt_3b067 {Z : Fx} {ps ts : List (Nat × Nat × Nat)} {d : Nat} (hd : 2 ≤ d) {σ : Mem} {k : Nat} {i : Int32} {Q : Int32 → Mem → Prop} (hk : k < 13) (hin : vp_in i (lenX.getD k 0)) (hw : Q ((bytX.getD k []).getD (Int32.toNatClampNeg i) 0 &&& 255) σ) : mM Z ps ts yJ1_charAt_3b067 cJ1_charAt_3b067 2 (some .char) d 0 0 [.ref (Z.2.1.2.2.2 k), .int i] σ (qI Q) := by
  refine mM.of (by decide) (Nat.le_of_ble_eq_true rfl) rfl (fun X hZ hp ht hn hC => ?_)
  subst hZ; subst hp; subst ht
  refine g_iload_n hC dJ1_charAt_3b067_0 rfl ?_
  refine g_aload_n hC dJ1_charAt_3b067_1 rfl ?_
  refine g_bytlen hC hk dJ1_charAt_3b067_2 ?_
  refine mG.st (st1 := ([.int i, .int (nI (lenX.getD k 0))] : List Value).reverse ++ []) rfl ?_
  refine g_callS (As := [.int i, .int (nI (lenX.getD k 0))]) (st := []) hC yw_J0_checkIndex_df160 ys_J0_checkIndex_df160 tw_714 dJ1_charAt_3b067_3 (fun _ h => h) (fun _ h => h) (fun h => h) (c_J0_checkIndex_df160 (d := 1) (Nat.le_refl _) (Q := fun t => t = σ) hin (str_len k) rfl) rfl (Nat.le_of_ble_eq_true rfl) (by omega) (by decide) (by decide) (kV fun t hq => ?_)
  subst hq
  refine g_aload_n hC dJ1_charAt_3b067_6 rfl ?_
  refine g_iload_n hC dJ1_charAt_3b067_7 rfl ?_
  refine g_bytat hC hk hin dJ1_charAt_3b067_8 ?_
  refine g_sipush (v := 255) hC dJ1_charAt_3b067_9 (by decide) ?_
  refine g_iand hC dJ1_charAt_3b067_12 ?_
  refine g_i2c hC dJ1_charAt_3b067_13 ?_
  exact g_iret hC (by rw [sc_c2]; exact sc_nar _) (by decide) (by decide) dJ1_charAt_3b067_14 (fun _ => ⟨_, rfl, by rw [sc_c2]; exact hw⟩)
set_option maxRecDepth 4000 in
theorem c_J0_charAt_5068e {Z : Fx} {ps ts : List (Nat × Nat × Nat)} {d : Nat} (hd : 3 ≤ d) {σ : Mem} {k : Nat} {i : Int32} {Q : Int32 → Mem → Prop} (hk : k < 13) (hin : vp_in i (lenX.getD k 0)) (hw : Q ((bytX.getD k []).getD (Int32.toNatClampNeg i) 0 &&& 255) σ) : mM Z ps ts yJ0_charAt_5068e cJ0_charAt_5068e 2 (some .char) d 0 0 [.ref (Z.2.1.2.2.1 k), .int i] σ (qI Q) := by
  refine mM.of (by decide) (Nat.le_of_ble_eq_true rfl) rfl (fun X hZ hp ht hn hC => ?_)
  subst hZ; subst hp; subst ht
  refine g_aload_n hC dJ0_charAt_5068e_0 rfl ?_
  refine mG.st (st1 := ([] : List Value).reverse ++ .ref (xK X k) :: []) rfl ?_
  refine g_callX (As := []) (st := []) hC hk rfl yw_J0_isLatin1_aae02 yv_J0_isLatin1_aae02 tw_718 dJ0_charAt_5068e_1 (c_J0_isLatin1_aae02 (d := 0) (Nat.le_refl _) (Q := fun v s => v = 1 ∧ s = σ) hk ⟨rfl, rfl⟩) rfl (Nat.le_of_ble_eq_true rfl) (by omega) (by decide) (by decide) (kI fun v s hq => ?_)
  obtain ⟨rfl, rfl⟩ := hq
  refine g_if_eq (tgt := 16) hC dJ0_charAt_5068e_4 rfl (fun c => absurd c (by decide)) (fun c => ?_)
  refine g_aload_n hC dJ0_charAt_5068e_7 rfl ?_
  refine g_getvalue hC hk tw_701 dJ0_charAt_5068e_8 ?_
  refine g_iload_n hC dJ0_charAt_5068e_11 rfl ?_
  refine mG.st (st1 := ([.ref (xV X k), .int i] : List Value).reverse ++ []) rfl ?_
  refine g_callS (As := [.ref (xV X k), .int i]) (st := []) hC yw_J1_charAt_3b067 ys_J1_charAt_3b067 tw_722 dJ0_charAt_5068e_12 (fun _ h => h) (fun _ h => h) (fun h => h) (c_J1_charAt_3b067 (d := 2) (Nat.le_refl _) (Q := fun v t => v = ((bytX.getD k []).getD (Int32.toNatClampNeg i) 0 &&& 255) ∧ t = s) hk hin ⟨rfl, rfl⟩) rfl (Nat.le_of_ble_eq_true rfl) (by omega) (by decide) (by decide) (kI fun v t hq => ?_)
  obtain ⟨rfl, rfl⟩ := hq
  exact g_iret hC (sc_nar _) (by decide) (by decide) dJ0_charAt_5068e_15 (fun _ => ⟨_, rfl, hw⟩)
section GT
variable {X : Cx} {cc : ByteArray} {own nm : String} {ret : Option FieldType} {d mc ms : Nat} {pc : Nat} {lv : List (Nat × Value)} {st : List Value} {σ : Mem} {kc ks : Nat} {Q : State → Prop} {index : Nat}
theorem g_strlen (hC : mOK X cc own nm ret d mc ms) {k : Nat} (hk : k < 13) (hL : Cond.methodLink own index yJ0_length_8abf5 ∈ TB) (hst : (st.map fun v => v.category).sum ≤ 8) (hd2 : 6 ≤ d) (hkc : kc ≤ mc) (hks : ks ≤ ms) (hd : decode cc pc = .ok (.invokevirtual index, 3)) (kk : mG X (pc + 3) lv (.int (nI (lenX.getD k 0)) :: st) σ kc ks Q) : mG X pc lv (.ref (xK X k) :: st) σ kc ks Q := by
  refine mG.st (st1 := ([] : List Value).reverse ++ .ref (xK X k) :: st) rfl ?_
  refine g_callX (As := []) (st := st) hC hk rfl yw_J0_length_8abf5 yv_J0_length_8abf5 hL hd (c_J0_length_8abf5 (d := 1) (Nat.le_refl _) (Q := fun v s => v = nI (lenX.getD k 0) ∧ s = σ) hk ⟨rfl, rfl⟩) rfl hst (by omega) hkc hks (kI fun v s hq => ?_)
  obtain ⟨rfl, rfl⟩ := hq
  exact kk
theorem g_charAt (hC : mOK X cc own nm ret d mc ms) {k : Nat} {i : Int32} (hk : k < 13) (hin : vp_in i (lenX.getD k 0)) (hL : Cond.methodLink own index yJ0_charAt_5068e ∈ TB) (hst : (st.map fun v => v.category).sum ≤ 8) (hd2 : 6 ≤ d) (hkc : kc ≤ mc) (hks : ks ≤ ms) (hd : decode cc pc = .ok (.invokevirtual index, 3)) (kk : mG X (pc + 3) lv (.int ((bytX.getD k []).getD (Int32.toNatClampNeg i) 0 &&& 255) :: st) σ kc ks Q) : mG X pc lv (.int i :: .ref (xK X k) :: st) σ kc ks Q := by
  refine mG.st (st1 := ([.int i] : List Value).reverse ++ .ref (xK X k) :: st) rfl ?_
  refine g_callX (As := [.int i]) (st := st) hC hk rfl yw_J0_charAt_5068e yv_J0_charAt_5068e hL hd (c_J0_charAt_5068e (d := 3) (Nat.le_refl _) (Q := fun v s => v = ((bytX.getD k []).getD (Int32.toNatClampNeg i) 0 &&& 255) ∧ s = σ) hk hin ⟨rfl, rfl⟩) rfl hst (by omega) hkc hks (kI fun v s hq => ?_)
  obtain ⟨rfl, rfl⟩ := hq
  exact kk
end GT
