def w_X11_isMeasure (σ : Mem) (x0 : Int32) (Q : Int32 → Mem → Prop) : Prop := (x0 < 0 → (Q 0 σ)) ∧ (¬ x0 < 0 → ((99 < x0 → (Q 0 σ)) ∧ (¬ 99 < x0 → (Q 1 σ))))
set_option maxRecDepth 4000 in
set_option maxHeartbeats 2000000 in
theorem t_X11_isMeasure {X : Cx} {d : Nat} (hC : mOK X cX11_isMeasure RX11 "isMeasure" (some .boolean) d 0 0) (hd : 0 ≤ d) (hN : ∀ i, i < 1 → i < xN X) {σ : Mem} {x0 : Int32} {Q : Int32 → Mem → Prop} (hw : w_X11_isMeasure σ x0 Q) : mG X 0 [(0, .int x0)] [] σ 0 0 (mQ X 0 0 (qI Q)) := by
  refine g_iload_n hC dX11_isMeasure_0 rfl ?_
  refine g_if_lt (tgt := 14) hC dX11_isMeasure_1 rfl (fun c => ?_) (fun c => ?_)
  · replace hw := hw.1 c
    refine g_iconst (v := 0) hC dX11_isMeasure_14 (by decide) ?_
    exact g_iret hC bz0 (by decide) (by decide) dX11_isMeasure_15 (fun _ => ⟨_, rfl, hw⟩)
  · replace hw := hw.2 c
    refine g_iload_n hC dX11_isMeasure_4 rfl ?_
    refine g_bipush (v := 99) hC dX11_isMeasure_5 (by decide) ?_
    refine g_icmp_gt (tgt := 14) hC dX11_isMeasure_7 rfl (fun c => ?_) (fun c => ?_)
    · replace hw := hw.1 c
      refine g_iconst (v := 0) hC dX11_isMeasure_14 (by decide) ?_
      exact g_iret hC bz0 (by decide) (by decide) dX11_isMeasure_15 (fun _ => ⟨_, rfl, hw⟩)
    · replace hw := hw.2 c
      refine g_iconst (v := 1) hC dX11_isMeasure_10 (by decide) ?_
      refine g_goto (tgt := 15) hC dX11_isMeasure_11 rfl ?_
      exact g_iret hC bz1 (by decide) (by decide) dX11_isMeasure_15 (fun _ => ⟨_, rfl, hw⟩)
set_option maxRecDepth 4000 in
theorem c_X11_isMeasure {Z : Fx} {ps ts : List (Nat × Nat × Nat)} {d : Nat} (hd : 0 ≤ d) {σ : Mem} {x0 : Int32} {Q : Int32 → Mem → Prop} (hw : w_X11_isMeasure σ x0 Q) : mM Z ps ts yX11_isMeasure cX11_isMeasure 1 (some .boolean) d 0 0 [.int x0] σ (qI Q) := by
  refine mM.of (by decide) (Nat.le_of_ble_eq_true rfl) rfl (fun X hZ hp ht hn hC => ?_)
  subst hZ; subst hp; subst ht
  exact t_X11_isMeasure hC hd (fun i h => by rw [hn]; exact h) hw
def w_X11_plate (σ : Mem) (x1 : Int32) (x2 : Int32) (Q : Int32 → Mem → Prop) : Prop := w_X11_isMeasure σ x1 (fun v101 s103 => (v101 = 0 → (Q (-2) s103)) ∧ (¬ v101 = 0 → (w_X11_isMeasure s103 x2 (fun v104 s106 => (¬ v104 = 0 → (((mI s106 0 2) < 8 → (vp_in (mI s106 0 2) 8 ∧ (vp_in (mI s106 0 2) 8 ∧ (Q (((mI s106 0 2) + 1) - 1) (sI (sI (sI s106 1 (Int32.toNatClampNeg (mI s106 0 2)) x1) 2 (Int32.toNatClampNeg (mI s106 0 2)) x2) 0 2 ((mI s106 0 2) + 1)))))) ∧ (¬ (mI s106 0 2) < 8 → (Q (-4) s106)))) ∧ (v104 = 0 → (Q (-2) s106))))))
set_option maxRecDepth 4000 in
set_option maxHeartbeats 2000000 in
theorem t_X11_plate {X : Cx} {d : Nat} (hC : mOK X cX11_plate RX11 "plate" (some .int) d 0 0) (hd : 1 ≤ d) (hN : ∀ i, i < 3 → i < xN X) (hP : ∀ e ∈ psG, e ∈ xP X) (hT : ∀ e ∈ tsG, e ∈ xT X) (hF : ∀ e ∈ xP X, e ∈ psA) {σ : Mem} {x1 : Int32} {x2 : Int32} {Q : Int32 → Mem → Prop} (hw : w_X11_plate σ x1 x2 Q) : mG X 0 [(0, .ref (xB X + 0)), (1, .int x1), (2, .int x2)] [] σ 0 0 (mQ X 0 0 (qI Q)) := by
  refine g_iload_n hC dX11_plate_0 rfl ?_
  refine mG.st (st1 := ([.int x1] : List Value).reverse ++ []) rfl ?_
  refine g_callS (As := [.int x1]) (st := []) hC yw_X11_isMeasure ys_X11_isMeasure tw_26 dX11_plate_1 (fun _ h => h) (fun _ h => h) (fun h => h) (c_X11_isMeasure (d := 0) (Nat.le_refl _) hw) rfl (Nat.le_of_ble_eq_true rfl) (by omega) (by decide) (by decide) (kI fun v101 s103 hw => ?_)
  refine g_if_eq (tgt := 14) hC dX11_plate_4 rfl (fun c => ?_) (fun c => ?_)
  · replace hw := hw.1 c
    refine g_bipush (v := (-2)) hC dX11_plate_14 (by decide) ?_
    exact g_iret hC rfl (by decide) (by decide) dX11_plate_16 (fun _ => ⟨_, rfl, hw⟩)
  · replace hw := hw.2 c
    refine g_iload_n hC dX11_plate_7 rfl ?_
    refine mG.st (st1 := ([.int x2] : List Value).reverse ++ []) rfl ?_
    refine g_callS (As := [.int x2]) (st := []) hC yw_X11_isMeasure ys_X11_isMeasure tw_26 dX11_plate_8 (fun _ h => h) (fun _ h => h) (fun h => h) (c_X11_isMeasure (d := 0) (Nat.le_refl _) hw) rfl (Nat.le_of_ble_eq_true rfl) (by omega) (by decide) (by decide) (kI fun v104 s106 hw => ?_)
    refine g_if_ne (tgt := 17) hC dX11_plate_11 rfl (fun c => ?_) (fun c => ?_)
    · replace hw := hw.1 c
      refine g_aload_n hC dX11_plate_17 rfl ?_
      refine g_getiSv (v := (mI s106 0 2)) hC fl_X11_101_11.s (hT _ tg_G_0) rfl dX11_plate_18 ?_
      refine g_bipush (v := 8) hC dX11_plate_21 (by decide) ?_
      refine g_icmp_lt (tgt := 29) hC dX11_plate_23 rfl (fun c => ?_) (fun c => ?_)
      · replace hw := hw.1 c
        refine g_aload_n hC dX11_plate_29 rfl ?_
        refine g_getrS hC fl_X11_9_11.s (hT _ tg_G_0) (hP _ pt_G_0_0) dX11_plate_30 ?_
        refine g_aload_n hC dX11_plate_33 rfl ?_
        refine g_getiSv (v := (mI s106 0 2)) hC fl_X11_101_11.s (hT _ tg_G_0) rfl dX11_plate_34 ?_
        refine g_iload_n hC dX11_plate_37 rfl ?_
        have hin := hw.1
        replace hw := hw.2
        refine g_iastS (k := (Int32.toNatClampNeg (mI s106 0 2))) hC (hT _ tg_G_1) rfl hin dX11_plate_38 ?_
        refine g_aload_n hC dX11_plate_39 rfl ?_
        refine g_getrS hC fl_X11_13_11.s (hT _ tg_G_0) (hP _ pt_G_0_1) dX11_plate_40 ?_
        refine g_aload_n hC dX11_plate_43 rfl ?_
        refine g_getiSv (v := (mI s106 0 2)) hC fl_X11_101_11.s (hT _ tg_G_0) (mI_sI_n _ _ (by decide)) dX11_plate_44 ?_
        refine g_iload_n hC dX11_plate_47 rfl ?_
        have hin := hw.1
        replace hw := hw.2
        refine g_iastS (k := (Int32.toNatClampNeg (mI s106 0 2))) hC (hT _ tg_G_2) rfl hin dX11_plate_48 ?_
        refine g_aload_n hC dX11_plate_49 rfl ?_
        refine g_dup hC dX11_plate_50 rfl ?_
        refine g_getiSv (v := (mI s106 0 2)) hC fl_X11_101_11.s (hT _ tg_G_0) ((mI_sI_n _ _ (by decide)).trans (mI_sI_n _ _ (by decide))) dX11_plate_51 ?_
        refine g_iconst (v := 1) hC dX11_plate_54 (by decide) ?_
        refine g_iadd hC dX11_plate_55 ?_
        refine g_putIS hC (fw_X11_101_11 _) (hT _ tg_G_0) rfl rfl dX11_plate_56 ?_
        refine g_aload_n hC dX11_plate_59 rfl ?_
        refine g_getiSv (v := ((mI s106 0 2) + 1)) hC fl_X11_101_11.s (hT _ tg_G_0) (mI_sI_s _ _ _ _) dX11_plate_60 ?_
        refine g_iconst (v := 1) hC dX11_plate_63 (by decide) ?_
        refine g_isub hC dX11_plate_64 ?_
        exact g_iret hC rfl (by decide) (by decide) dX11_plate_65 (fun _ => ⟨_, rfl, hw⟩)
      · replace hw := hw.2 c
        refine g_bipush (v := (-4)) hC dX11_plate_26 (by decide) ?_
        exact g_iret hC rfl (by decide) (by decide) dX11_plate_28 (fun _ => ⟨_, rfl, hw⟩)
    · replace hw := hw.2 c
      refine g_bipush (v := (-2)) hC dX11_plate_14 (by decide) ?_
      exact g_iret hC rfl (by decide) (by decide) dX11_plate_16 (fun _ => ⟨_, rfl, hw⟩)
set_option maxRecDepth 4000 in
theorem c_X11_plate {Z : Fx} {ps ts : List (Nat × Nat × Nat)} {d : Nat} (hd : 1 ≤ d) (hP : ∀ e ∈ psG, e ∈ ps) (hT : ∀ e ∈ tsG, e ∈ ts) (hF : ∀ e ∈ ps, e ∈ psA) {σ : Mem} {x1 : Int32} {x2 : Int32} {Q : Int32 → Mem → Prop} (hw : w_X11_plate σ x1 x2 Q) : mM Z ps ts yX11_plate cX11_plate 3 (some .int) d 0 0 [.ref (Z.2.2 + 0), .int x1, .int x2] σ (qI Q) := by
  refine mM.of (by decide) (Nat.le_of_ble_eq_true rfl) rfl (fun X hZ hp ht hn hC => ?_)
  subst hZ; subst hp; subst ht
  exact t_X11_plate hC hd (fun i h => by rw [hn]; exact h) hP hT hF hw
def w_X11_newLayer (σ : Mem) (x0 : Int32) (x1 : Int32) (Q : Option Nat → Mem → Prop) : Prop := (x0 = 1 → (w_X4_init (mN σ (4, 0)) (mL σ) x0 x1 (fun s103 => Q (some (mL σ)) s103))) ∧ (x0 = 2 → (w_X0_init (mN σ (0, 0)) (mL σ) x0 x1 (fun s106 => Q (some (mL σ)) s106))) ∧ (x0 = 3 → (w_X2_init (mN σ (2, 0)) (mL σ) x0 x1 (fun s109 => Q (some (mL σ)) s109))) ∧ (x0 = 4 → (w_X10_init (mN σ (10, 0)) (mL σ) x0 x1 (fun s112 => Q (some (mL σ)) s112))) ∧ (x0 = 5 → (w_X8_init (mN σ (8, 0)) (mL σ) x0 x1 (fun s115 => Q (some (mL σ)) s115))) ∧ (¬ x0 = 1 → ¬ x0 = 2 → ¬ x0 = 3 → ¬ x0 = 4 → ¬ x0 = 5 → (w_X3_init (mN σ (3, 0)) (mL σ) x0 x1 (fun s118 => Q (some (mL σ)) s118)))
set_option maxRecDepth 4000 in
set_option maxHeartbeats 2000000 in
theorem t_X11_newLayer {X : Cx} {d : Nat} (hC : mOK X cX11_newLayer RX11 "newLayer" (some (.object "GreaterPlates$Layer")) d 1 2) (hd : 4 ≤ d) (hN : ∀ i, i < 2 → i < xN X) {σ : Mem} {x0 : Int32} {x1 : Int32} {Q : Option Nat → Mem → Prop} (hw : w_X11_newLayer σ x0 x1 Q) : mG X 0 [(0, .int x0), (1, .int x1)] [] σ 0 0 (mQ X 1 2 ((qA (xB X)) Q)) := by
  refine g_iload_n hC dX11_newLayer_0 rfl ?_
  by_cases c0 : x0 = 1
  · replace hw := hw.1 c0
    refine g_tableIn (tgt := 36) hC dX11_newLayer_1 1 c0 (by decide) (by decide) rfl rfl ?_
    refine g_known (fun hS => ?_)
    have hfz : ∀ e ∈ xP X, e.1 ≠ (mL σ) := fun e he => Nat.ne_of_lt (hS.1 e he).2
    refine g_new hC no_X11_138 (by decide) (by decide) dX11_newLayer_36 ?_
    refine g_dup hC dX11_newLayer_39 rfl ?_
    refine g_iload_n hC dX11_newLayer_40 rfl ?_
    refine g_iload_n hC dX11_newLayer_41 rfl ?_
    refine mG.st (st1 := ([.int x0, .int x1] : List Value).reverse ++ .ref (xB X + (mL σ)) :: [.ref (xB X + (mL σ))]) rfl ?_
    refine g_callI (As := [.int x0, .int x1]) (st := [.ref (xB X + (mL σ))]) hC yw_X4_init yi_X4_init tw_34 dX11_newLayer_42 (fun _ h => h) (fun _ h => h) (fun h => h) (c_X4_init (d := 2) (Nat.le_refl _) hfz hw) rfl (Nat.le_of_ble_eq_true rfl) (by omega) (by decide) (by decide) (kV fun s103 hw => ?_)
    exact g_aretR hC (Or.inl ⟨_, rfl⟩) (by decide) (by decide) dX11_newLayer_45 (fun _ => ⟨some (mL σ), rfl, hw⟩)
  by_cases c1 : x0 = 2
  · replace hw := hw.2.1 c1
    refine g_tableIn (tgt := 46) hC dX11_newLayer_1 2 c1 (by decide) (by decide) rfl rfl ?_
    refine g_known (fun hS => ?_)
    have hfz : ∀ e ∈ xP X, e.1 ≠ (mL σ) := fun e he => Nat.ne_of_lt (hS.1 e he).2
    refine g_new hC no_X11_143 (by decide) (by decide) dX11_newLayer_46 ?_
    refine g_dup hC dX11_newLayer_49 rfl ?_
    refine g_iload_n hC dX11_newLayer_50 rfl ?_
    refine g_iload_n hC dX11_newLayer_51 rfl ?_
    refine mG.st (st1 := ([.int x0, .int x1] : List Value).reverse ++ .ref (xB X + (mL σ)) :: [.ref (xB X + (mL σ))]) rfl ?_
    refine g_callI (As := [.int x0, .int x1]) (st := [.ref (xB X + (mL σ))]) hC yw_X0_init yi_X0_init tw_48 dX11_newLayer_52 (fun _ h => h) (fun _ h => h) (fun h => h) (c_X0_init (d := 2) (Nat.le_refl _) hfz hw) rfl (Nat.le_of_ble_eq_true rfl) (by omega) (by decide) (by decide) (kV fun s106 hw => ?_)
    exact g_aretR hC (Or.inl ⟨_, rfl⟩) (by decide) (by decide) dX11_newLayer_55 (fun _ => ⟨some (mL σ), rfl, hw⟩)
  by_cases c2 : x0 = 3
  · replace hw := hw.2.2.1 c2
    refine g_tableIn (tgt := 56) hC dX11_newLayer_1 3 c2 (by decide) (by decide) rfl rfl ?_
    refine g_known (fun hS => ?_)
    have hfz : ∀ e ∈ xP X, e.1 ≠ (mL σ) := fun e he => Nat.ne_of_lt (hS.1 e he).2
    refine g_new hC no_X11_146 (by decide) (by decide) dX11_newLayer_56 ?_
    refine g_dup hC dX11_newLayer_59 rfl ?_
    refine g_iload_n hC dX11_newLayer_60 rfl ?_
    refine g_iload_n hC dX11_newLayer_61 rfl ?_
    refine mG.st (st1 := ([.int x0, .int x1] : List Value).reverse ++ .ref (xB X + (mL σ)) :: [.ref (xB X + (mL σ))]) rfl ?_
    refine g_callI (As := [.int x0, .int x1]) (st := [.ref (xB X + (mL σ))]) hC yw_X2_init yi_X2_init tw_54 dX11_newLayer_62 (fun _ h => h) (fun _ h => h) (fun h => h) (c_X2_init (d := 3) (Nat.le_refl _) hfz hw) rfl (Nat.le_of_ble_eq_true rfl) (by omega) (by decide) (by decide) (kV fun s109 hw => ?_)
    exact g_aretR hC (Or.inl ⟨_, rfl⟩) (by decide) (by decide) dX11_newLayer_65 (fun _ => ⟨some (mL σ), rfl, hw⟩)
  by_cases c3 : x0 = 4
  · replace hw := hw.2.2.2.1 c3
    refine g_tableIn (tgt := 66) hC dX11_newLayer_1 4 c3 (by decide) (by decide) rfl rfl ?_
    refine g_known (fun hS => ?_)
    have hfz : ∀ e ∈ xP X, e.1 ≠ (mL σ) := fun e he => Nat.ne_of_lt (hS.1 e he).2
    refine g_new hC no_X11_149 (by decide) (by decide) dX11_newLayer_66 ?_
    refine g_dup hC dX11_newLayer_69 rfl ?_
    refine g_iload_n hC dX11_newLayer_70 rfl ?_
    refine g_iload_n hC dX11_newLayer_71 rfl ?_
    refine mG.st (st1 := ([.int x0, .int x1] : List Value).reverse ++ .ref (xB X + (mL σ)) :: [.ref (xB X + (mL σ))]) rfl ?_
    refine g_callI (As := [.int x0, .int x1]) (st := [.ref (xB X + (mL σ))]) hC yw_X10_init yi_X10_init tw_61 dX11_newLayer_72 (fun _ h => h) (fun _ h => h) (fun h => h) (c_X10_init (d := 3) (Nat.le_refl _) hfz hw) rfl (Nat.le_of_ble_eq_true rfl) (by omega) (by decide) (by decide) (kV fun s112 hw => ?_)
    exact g_aretR hC (Or.inl ⟨_, rfl⟩) (by decide) (by decide) dX11_newLayer_75 (fun _ => ⟨some (mL σ), rfl, hw⟩)
  by_cases c4 : x0 = 5
  · replace hw := hw.2.2.2.2.1 c4
    refine g_tableIn (tgt := 76) hC dX11_newLayer_1 5 c4 (by decide) (by decide) rfl rfl ?_
    refine g_known (fun hS => ?_)
    have hfz : ∀ e ∈ xP X, e.1 ≠ (mL σ) := fun e he => Nat.ne_of_lt (hS.1 e he).2
    refine g_new hC no_X11_152 (by decide) (by decide) dX11_newLayer_76 ?_
    refine g_dup hC dX11_newLayer_79 rfl ?_
    refine g_iload_n hC dX11_newLayer_80 rfl ?_
    refine g_iload_n hC dX11_newLayer_81 rfl ?_
    refine mG.st (st1 := ([.int x0, .int x1] : List Value).reverse ++ .ref (xB X + (mL σ)) :: [.ref (xB X + (mL σ))]) rfl ?_
    refine g_callI (As := [.int x0, .int x1]) (st := [.ref (xB X + (mL σ))]) hC yw_X8_init yi_X8_init tw_68 dX11_newLayer_82 (fun _ h => h) (fun _ h => h) (fun h => h) (c_X8_init (d := 3) (Nat.le_refl _) hfz hw) rfl (Nat.le_of_ble_eq_true rfl) (by omega) (by decide) (by decide) (kV fun s115 hw => ?_)
    exact g_aretR hC (Or.inl ⟨_, rfl⟩) (by decide) (by decide) dX11_newLayer_85 (fun _ => ⟨some (mL σ), rfl, hw⟩)
  replace hw := hw.2.2.2.2.2 c0 c1 c2 c3 c4
  refine g_tableOut (tgt := 86) hC dX11_newLayer_1 (sw_out 1 5 x0 (by decide) [1, 2, 3, 4, 5] (by decide) (List.forall_mem_cons.mpr ⟨c0, (List.forall_mem_cons.mpr ⟨c1, (List.forall_mem_cons.mpr ⟨c2, (List.forall_mem_cons.mpr ⟨c3, (List.forall_mem_cons.mpr ⟨c4, (fun k h => absurd h List.not_mem_nil)⟩)⟩)⟩)⟩)⟩)) rfl ?_
  refine g_known (fun hS => ?_)
  have hfz : ∀ e ∈ xP X, e.1 ≠ (mL σ) := fun e he => Nat.ne_of_lt (hS.1 e he).2
  refine g_new hC no_X11_16 (by decide) (by decide) dX11_newLayer_86 ?_
  refine g_dup hC dX11_newLayer_89 rfl ?_
  refine g_iload_n hC dX11_newLayer_90 rfl ?_
  refine g_iload_n hC dX11_newLayer_91 rfl ?_
  refine mG.st (st1 := ([.int x0, .int x1] : List Value).reverse ++ .ref (xB X + (mL σ)) :: [.ref (xB X + (mL σ))]) rfl ?_
  refine g_callI (As := [.int x0, .int x1]) (st := [.ref (xB X + (mL σ))]) hC yw_X3_init yi_X3_init tw_75 dX11_newLayer_92 (fun _ h => h) (fun _ h => h) (fun h => h) (c_X3_init (d := 1) (Nat.le_refl _) hfz hw) rfl (Nat.le_of_ble_eq_true rfl) (by omega) (by decide) (by decide) (kV fun s118 hw => ?_)
  exact g_aretR hC (Or.inl ⟨_, rfl⟩) (by decide) (by decide) dX11_newLayer_95 (fun _ => ⟨some (mL σ), rfl, hw⟩)
set_option maxRecDepth 4000 in
theorem c_X11_newLayer {Z : Fx} {ps ts : List (Nat × Nat × Nat)} {d : Nat} (hd : 4 ≤ d) {σ : Mem} {x0 : Int32} {x1 : Int32} {Q : Option Nat → Mem → Prop} (hw : w_X11_newLayer σ x0 x1 Q) : mM Z ps ts yX11_newLayer cX11_newLayer 2 (some (.object "GreaterPlates$Layer")) d 1 2 [.int x0, .int x1] σ ((qA Z.2.2) Q) := by
  refine mM.of (by decide) (Nat.le_of_ble_eq_true rfl) rfl (fun X hZ hp ht hn hC => ?_)
  subst hZ; subst hp; subst ht
  exact t_X11_newLayer hC hd (fun i h => by rw [hn]; exact h) hw
def w_X11_layer (σ : Mem) (x1 : Int32) (x2 : Int32) (Q : Int32 → Mem → Prop) : Prop := (x1 < 0 → (Q (-2) σ)) ∧ (¬ x1 < 0 → ((5 < x1 → (Q (-2) σ)) ∧ (¬ 5 < x1 → ((x2 < 0 → (Q (-2) σ)) ∧ (¬ x2 < 0 → ((x2 ≤ 9 → (((mI σ 0 4) < 5 → (w_X11_newLayer σ x1 x2 (fun o102 s103 => ∃ r104 : Nat, o102 = some r104 ∧ (vp_in (mI σ 0 4) 5 ∧ ∃ ci105 : Nat, lyK ci105 ∧ mT s103 r104 = some (ci105, 0) ∧ (Q (((mI s103 0 4) + 1) - 1) (sI (sP s103 3 (Int32.toNatClampNeg (mI σ 0 4)) (some r104)) 0 4 ((mI s103 0 4) + 1))))))) ∧ (¬ (mI σ 0 4) < 5 → (Q (-4) σ)))) ∧ (¬ x2 ≤ 9 → (Q (-2) σ))))))))
set_option maxRecDepth 4000 in
set_option maxHeartbeats 2000000 in
theorem t_X11_layer {X : Cx} {d : Nat} (hC : mOK X cX11_layer RX11 "layer" (some .int) d 1 2) (hd : 5 ≤ d) (hN : ∀ i, i < 3 → i < xN X) (hP : ∀ e ∈ psG, e ∈ xP X) (hT : ∀ e ∈ tsG, e ∈ xT X) (hF : ∀ e ∈ xP X, e ∈ psA) {σ : Mem} {x1 : Int32} {x2 : Int32} {Q : Int32 → Mem → Prop} (hw : w_X11_layer σ x1 x2 Q) : mG X 0 [(0, .ref (xB X + 0)), (1, .int x1), (2, .int x2)] [] σ 0 0 (mQ X 1 2 (qI Q)) := by
  refine g_iload_n hC dX11_layer_0 rfl ?_
  refine g_if_lt (tgt := 19) hC dX11_layer_1 rfl (fun c => ?_) (fun c => ?_)
  · replace hw := hw.1 c
    refine g_bipush (v := (-2)) hC dX11_layer_19 (by decide) ?_
    exact g_iret hC rfl (by decide) (by decide) dX11_layer_21 (fun _ => ⟨_, rfl, hw⟩)
  · replace hw := hw.2 c
    refine g_iload_n hC dX11_layer_4 rfl ?_
    refine g_iconst (v := 5) hC dX11_layer_5 (by decide) ?_
    refine g_icmp_gt (tgt := 19) hC dX11_layer_6 rfl (fun c => ?_) (fun c => ?_)
    · replace hw := hw.1 c
      refine g_bipush (v := (-2)) hC dX11_layer_19 (by decide) ?_
      exact g_iret hC rfl (by decide) (by decide) dX11_layer_21 (fun _ => ⟨_, rfl, hw⟩)
    · replace hw := hw.2 c
      refine g_iload_n hC dX11_layer_9 rfl ?_
      refine g_if_lt (tgt := 19) hC dX11_layer_10 rfl (fun c => ?_) (fun c => ?_)
      · replace hw := hw.1 c
        refine g_bipush (v := (-2)) hC dX11_layer_19 (by decide) ?_
        exact g_iret hC rfl (by decide) (by decide) dX11_layer_21 (fun _ => ⟨_, rfl, hw⟩)
      · replace hw := hw.2 c
        refine g_iload_n hC dX11_layer_13 rfl ?_
        refine g_bipush (v := 9) hC dX11_layer_14 (by decide) ?_
        refine g_icmp_le (tgt := 22) hC dX11_layer_16 rfl (fun c => ?_) (fun c => ?_)
        · replace hw := hw.1 c
          refine g_aload_n hC dX11_layer_22 rfl ?_
          refine g_getiSv (v := (mI σ 0 4)) hC fl_X11_104_11.s (hT _ tg_G_0) rfl dX11_layer_23 ?_
          refine g_iconst (v := 5) hC dX11_layer_26 (by decide) ?_
          refine g_icmp_lt (tgt := 33) hC dX11_layer_27 rfl (fun c => ?_) (fun c => ?_)
          · replace hw := hw.1 c
            refine g_aload_n hC dX11_layer_33 rfl ?_
            refine g_getrS hC fl_X11_18_11.s (hT _ tg_G_0) (hP _ pt_G_0_3) dX11_layer_34 ?_
            refine g_aload_n hC dX11_layer_37 rfl ?_
            refine g_getiSv (v := (mI σ 0 4)) hC fl_X11_104_11.s (hT _ tg_G_0) rfl dX11_layer_38 ?_
            refine g_iload_n hC dX11_layer_41 rfl ?_
            refine g_iload_n hC dX11_layer_42 rfl ?_
            refine mG.st (st1 := ([.int x1, .int x2] : List Value).reverse ++ [.int (mI σ 0 4), .ref (xB X + 3)]) rfl ?_
            refine g_callS (As := [.int x1, .int x2]) (st := [.int (mI σ 0 4), .ref (xB X + 3)]) hC yw_X11_newLayer ys_X11_newLayer tw_33 dX11_layer_43 (fun _ h => h) (fun _ h => h) (fun h => h) (c_X11_newLayer (d := 4) (Nat.le_refl _) hw) rfl (Nat.le_of_ble_eq_true rfl) (by omega) (by decide) (by decide) (kA fun o102 s103 hw => ?_)
            obtain ⟨r104, ho, hw⟩ := hw
            subst ho
            obtain ⟨hin, ci105, hly, htg, hw⟩ := hw
            refine g_known (fun hS => ?_)
            refine g_aast hC (hS.2 _ (hT _ tg_G_3)) (by decide) hin htg (aly hly).2 (aly hly).1 (fun e he h => (show ∀ e ∈ psA, e.1 ≠ 3 by decide) e (hF e he) h.1) dX11_layer_46 ?_
            refine g_aload_n hC dX11_layer_47 rfl ?_
            refine g_dup hC dX11_layer_48 rfl ?_
            refine g_getiSv (v := (mI s103 0 4)) hC fl_X11_104_11.s (hT _ tg_G_0) (mI_sP _ _ _ _ _ _) dX11_layer_49 ?_
            refine g_iconst (v := 1) hC dX11_layer_52 (by decide) ?_
            refine g_iadd hC dX11_layer_53 ?_
            refine g_putIS hC (fw_X11_104_11 _) (hT _ tg_G_0) rfl rfl dX11_layer_54 ?_
            refine g_aload_n hC dX11_layer_57 rfl ?_
            refine g_getiSv (v := ((mI s103 0 4) + 1)) hC fl_X11_104_11.s (hT _ tg_G_0) (mI_sI_s _ _ _ _) dX11_layer_58 ?_
            refine g_iconst (v := 1) hC dX11_layer_61 (by decide) ?_
            refine g_isub hC dX11_layer_62 ?_
            exact g_iret hC rfl (by decide) (by decide) dX11_layer_63 (fun _ => ⟨_, rfl, hw⟩)
          · replace hw := hw.2 c
            refine g_bipush (v := (-4)) hC dX11_layer_30 (by decide) ?_
            exact g_iret hC rfl (by decide) (by decide) dX11_layer_32 (fun _ => ⟨_, rfl, hw⟩)
        · replace hw := hw.2 c
          refine g_bipush (v := (-2)) hC dX11_layer_19 (by decide) ?_
          exact g_iret hC rfl (by decide) (by decide) dX11_layer_21 (fun _ => ⟨_, rfl, hw⟩)
set_option maxRecDepth 4000 in
theorem c_X11_layer {Z : Fx} {ps ts : List (Nat × Nat × Nat)} {d : Nat} (hd : 5 ≤ d) (hP : ∀ e ∈ psG, e ∈ ps) (hT : ∀ e ∈ tsG, e ∈ ts) (hF : ∀ e ∈ ps, e ∈ psA) {σ : Mem} {x1 : Int32} {x2 : Int32} {Q : Int32 → Mem → Prop} (hw : w_X11_layer σ x1 x2 Q) : mM Z ps ts yX11_layer cX11_layer 3 (some .int) d 1 2 [.ref (Z.2.2 + 0), .int x1, .int x2] σ (qI Q) := by
  refine mM.of (by decide) (Nat.le_of_ble_eq_true rfl) rfl (fun X hZ hp ht hn hC => ?_)
  subst hZ; subst hp; subst ht
  exact t_X11_layer hC hd (fun i h => by rw [hn]; exact h) hP hT hF hw
def w_X11_isPlate (σ : Mem) (x1 : Int32) (Q : Int32 → Mem → Prop) : Prop := (x1 < 0 → (Q 0 σ)) ∧ (¬ x1 < 0 → (((mI σ 0 2) ≤ x1 → (Q 0 σ)) ∧ (¬ (mI σ 0 2) ≤ x1 → (Q 1 σ))))
set_option maxRecDepth 4000 in
set_option maxHeartbeats 2000000 in
theorem t_X11_isPlate {X : Cx} {d : Nat} (hC : mOK X cX11_isPlate RX11 "isPlate" (some .boolean) d 0 0) (hd : 0 ≤ d) (hN : ∀ i, i < 2 → i < xN X) (hP : ∀ e ∈ psG, e ∈ xP X) (hT : ∀ e ∈ tsG, e ∈ xT X) (hF : ∀ e ∈ xP X, e ∈ psA) {σ : Mem} {x1 : Int32} {Q : Int32 → Mem → Prop} (hw : w_X11_isPlate σ x1 Q) : mG X 0 [(0, .ref (xB X + 0)), (1, .int x1)] [] σ 0 0 (mQ X 0 0 (qI Q)) := by
  refine g_iload_n hC dX11_isPlate_0 rfl ?_
  refine g_if_lt (tgt := 16) hC dX11_isPlate_1 rfl (fun c => ?_) (fun c => ?_)
  · replace hw := hw.1 c
    refine g_iconst (v := 0) hC dX11_isPlate_16 (by decide) ?_
    exact g_iret hC bz0 (by decide) (by decide) dX11_isPlate_17 (fun _ => ⟨_, rfl, hw⟩)
  · replace hw := hw.2 c
    refine g_iload_n hC dX11_isPlate_4 rfl ?_
    refine g_aload_n hC dX11_isPlate_5 rfl ?_
    refine g_getiSv (v := (mI σ 0 2)) hC fl_X11_101_11.s (hT _ tg_G_0) rfl dX11_isPlate_6 ?_
    refine g_icmp_ge (tgt := 16) hC dX11_isPlate_9 rfl (fun c => ?_) (fun c => ?_)
    · replace hw := hw.1 c
      refine g_iconst (v := 0) hC dX11_isPlate_16 (by decide) ?_
      exact g_iret hC bz0 (by decide) (by decide) dX11_isPlate_17 (fun _ => ⟨_, rfl, hw⟩)
    · replace hw := hw.2 c
      refine g_iconst (v := 1) hC dX11_isPlate_12 (by decide) ?_
      refine g_goto (tgt := 17) hC dX11_isPlate_13 rfl ?_
      exact g_iret hC bz1 (by decide) (by decide) dX11_isPlate_17 (fun _ => ⟨_, rfl, hw⟩)
set_option maxRecDepth 4000 in
theorem c_X11_isPlate {Z : Fx} {ps ts : List (Nat × Nat × Nat)} {d : Nat} (hd : 0 ≤ d) (hP : ∀ e ∈ psG, e ∈ ps) (hT : ∀ e ∈ tsG, e ∈ ts) (hF : ∀ e ∈ ps, e ∈ psA) {σ : Mem} {x1 : Int32} {Q : Int32 → Mem → Prop} (hw : w_X11_isPlate σ x1 Q) : mM Z ps ts yX11_isPlate cX11_isPlate 2 (some .boolean) d 0 0 [.ref (Z.2.2 + 0), .int x1] σ (qI Q) := by
  refine mM.of (by decide) (Nat.le_of_ble_eq_true rfl) rfl (fun X hZ hp ht hn hC => ?_)
  subst hZ; subst hp; subst ht
  exact t_X11_isPlate hC hd (fun i h => by rw [hn]; exact h) hP hT hF hw
def w_X11_setHighest (σ : Mem) (x1 : Int32) (Q : Int32 → Mem → Prop) : Prop := (x1 < 1 → (Q (-2) σ)) ∧ (¬ x1 < 1 → ((x1 ≤ 9 → (Q (mI σ 8 2) (sI σ 8 2 x1))) ∧ (¬ x1 ≤ 9 → (Q (-2) σ))))
set_option maxRecDepth 4000 in
set_option maxHeartbeats 2000000 in
theorem t_X11_setHighest {X : Cx} {d : Nat} (hC : mOK X cX11_setHighest RX11 "setHighest" (some .int) d 0 0) (hd : 0 ≤ d) (hN : ∀ i, i < 3 → i < xN X) (hP : ∀ e ∈ psG, e ∈ xP X) (hT : ∀ e ∈ tsG, e ∈ xT X) (hF : ∀ e ∈ xP X, e ∈ psA) {σ : Mem} {x1 : Int32} {Q : Int32 → Mem → Prop} (hw : w_X11_setHighest σ x1 Q) : mG X 0 [(0, .ref (xB X + 0)), (1, .int x1)] [] σ 0 0 (mQ X 0 0 (qI Q)) := by
  refine g_iload_n hC dX11_setHighest_0 rfl ?_
  refine g_iconst (v := 1) hC dX11_setHighest_1 (by decide) ?_
  refine g_icmp_lt (tgt := 11) hC dX11_setHighest_2 rfl (fun c => ?_) (fun c => ?_)
  · replace hw := hw.1 c
    refine g_bipush (v := (-2)) hC dX11_setHighest_11 (by decide) ?_
    exact g_iret hC rfl (by decide) (by decide) dX11_setHighest_13 (fun _ => ⟨_, rfl, hw⟩)
  · replace hw := hw.2 c
    refine g_iload_n hC dX11_setHighest_5 rfl ?_
    refine g_bipush (v := 9) hC dX11_setHighest_6 (by decide) ?_
    refine g_icmp_le (tgt := 14) hC dX11_setHighest_8 rfl (fun c => ?_) (fun c => ?_)
    · replace hw := hw.1 c
      refine g_aload_n hC dX11_setHighest_14 rfl ?_
      refine g_getrS hC fl_X11_38_11.s (hT _ tg_G_0) (hP _ pt_G_0_8) dX11_setHighest_15 ?_
      refine g_getiSv (v := (mI σ 8 2)) hC fl_X11_118_9.s (hT _ tg_G_8) rfl dX11_setHighest_18 ?_
      refine g_istore_n (lv' := [(2, .int (mI σ 8 2)), (0, .ref (xB X + 0)), (1, .int x1)]) hC dX11_setHighest_21 (hN 2 (by decide)) rfl ?_
      refine g_aload_n hC dX11_setHighest_22 rfl ?_
      refine g_getrS hC fl_X11_38_11.s (hT _ tg_G_0) (hP _ pt_G_0_8) dX11_setHighest_23 ?_
      refine g_iload_n hC dX11_setHighest_26 rfl ?_
      refine g_putIS hC (fw_X11_118_9 _) (hT _ tg_G_8) rfl rfl dX11_setHighest_27 ?_
      refine g_iload_n hC dX11_setHighest_30 rfl ?_
      exact g_iret hC rfl (by decide) (by decide) dX11_setHighest_31 (fun _ => ⟨_, rfl, hw⟩)
    · replace hw := hw.2 c
      refine g_bipush (v := (-2)) hC dX11_setHighest_11 (by decide) ?_
      exact g_iret hC rfl (by decide) (by decide) dX11_setHighest_13 (fun _ => ⟨_, rfl, hw⟩)
set_option maxRecDepth 4000 in
theorem c_X11_setHighest {Z : Fx} {ps ts : List (Nat × Nat × Nat)} {d : Nat} (hd : 0 ≤ d) (hP : ∀ e ∈ psG, e ∈ ps) (hT : ∀ e ∈ tsG, e ∈ ts) (hF : ∀ e ∈ ps, e ∈ psA) {σ : Mem} {x1 : Int32} {Q : Int32 → Mem → Prop} (hw : w_X11_setHighest σ x1 Q) : mM Z ps ts yX11_setHighest cX11_setHighest 3 (some .int) d 0 0 [.ref (Z.2.2 + 0), .int x1] σ (qI Q) := by
  refine mM.of (by decide) (Nat.le_of_ble_eq_true rfl) rfl (fun X hZ hp ht hn hC => ?_)
  subst hZ; subst hp; subst ht
  exact t_X11_setHighest hC hd (fun i h => by rw [hn]; exact h) hP hT hF hw
def w_X11_set_53 (Q : Int32 → Mem → Prop) (x2 : Int32) (x3 : Int32) (ay0 : Nat) (σ : Mem) : Prop := ∃ n101 : Nat, mT σ ay0 = some (14, n101) ∧ vp_in x2 n101 ∧ (∀ v102 : Int32, v102 = (mI σ ay0 (Int32.toNatClampNeg x2)) → (∃ n103 : Nat, mT σ ay0 = some (14, n103) ∧ vp_in x2 n103 ∧ (Q v102 (sI σ ay0 (Int32.toNatClampNeg x2) x3))))
set_option maxRecDepth 4000 in
set_option maxHeartbeats 2000000 in
theorem t_X11_set_53 {X : Cx} {d : Nat} (hC : mOK X cX11_set RX11 "set" (some .int) d 0 0) (hd : 1 ≤ d) (hN : ∀ i, i < 6 → i < xN X) (hP : ∀ e ∈ psG, e ∈ xP X) (hT : ∀ e ∈ tsG, e ∈ xT X) (hF : ∀ e ∈ xP X, e ∈ psA) {Q : Int32 → Mem → Prop} {x2 : Int32} {x3 : Int32} {ay0 : Nat} {σ : Mem} (hw : w_X11_set_53 Q x2 x3 ay0 σ) : mG X 53 [(2, .int x2), (3, .int x3)] [.ref (xB X + ay0)] σ 0 0 (mQ X 0 0 (qI Q)) := by
  refine g_astore (lv' := [(4, .ref (xB X + ay0)), (2, .int x2), (3, .int x3)]) hC dX11_set_53 (hN 4 (by decide)) rfl ?_
  refine g_aload hC dX11_set_55 rfl ?_
  refine g_iload_n hC dX11_set_57 rfl ?_
  obtain ⟨n101, htg, hin, hw⟩ := hw
  refine g_ialdKv (v := (mI σ ay0 (Int32.toNatClampNeg x2))) hC htg rfl hin rfl dX11_set_58 ?_
  refine g_topi (fun v102 ev102 => ?_)
  replace hw := hw v102 ev102
  refine g_istore (lv' := [(5, .int v102), (4, .ref (xB X + ay0)), (2, .int x2), (3, .int x3)]) hC dX11_set_59 (hN 5 (by decide)) rfl ?_
  refine g_aload hC dX11_set_61 rfl ?_
  refine g_iload_n hC dX11_set_63 rfl ?_
  refine g_iload_n hC dX11_set_64 rfl ?_
  obtain ⟨n103, htg, hw⟩ := hw
  have hin := hw.1
  replace hw := hw.2
  refine g_iastK (k := (Int32.toNatClampNeg x2)) hC htg rfl hin dX11_set_65 ?_
  refine g_iload hC dX11_set_66 rfl ?_
  exact g_iret hC rfl (by decide) (by decide) dX11_set_68 (fun _ => ⟨_, rfl, hw⟩)
def w_X11_set (σ : Mem) (x1 : Int32) (x2 : Int32) (x3 : Int32) (Q : Int32 → Mem → Prop) : Prop := (¬ x1 = 2 → ((x1 < 0 → (Q (-2) σ)) ∧ (¬ x1 < 0 → ((1 < x1 → (Q (-2) σ)) ∧ (¬ 1 < x1 → (w_X11_isPlate σ x2 (fun v101 s103 => (v101 = 0 → (Q (-2) s103)) ∧ (¬ v101 = 0 → (w_X11_isMeasure s103 x3 (fun v104 s106 => (¬ v104 = 0 → ((¬ x1 = 0 → (w_X11_set_53 Q x2 x3 2 s106)) ∧ (x1 = 0 → (w_X11_set_53 Q x2 x3 1 s106)))) ∧ (v104 = 0 → (Q (-2) s106)))))))))))) ∧ (x1 = 2 → (w_X11_setHighest σ x3 (fun v107 s109 => Q v107 s109)))
set_option maxRecDepth 4000 in
set_option maxHeartbeats 2000000 in
theorem t_X11_set {X : Cx} {d : Nat} (hC : mOK X cX11_set RX11 "set" (some .int) d 0 0) (hd : 1 ≤ d) (hN : ∀ i, i < 6 → i < xN X) (hP : ∀ e ∈ psG, e ∈ xP X) (hT : ∀ e ∈ tsG, e ∈ xT X) (hF : ∀ e ∈ xP X, e ∈ psA) {σ : Mem} {x1 : Int32} {x2 : Int32} {x3 : Int32} {Q : Int32 → Mem → Prop} (hw : w_X11_set σ x1 x2 x3 Q) : mG X 0 [(0, .ref (xB X + 0)), (1, .int x1), (2, .int x2), (3, .int x3)] [] σ 0 0 (mQ X 0 0 (qI Q)) := by
  refine g_iload_n hC dX11_set_0 rfl ?_
  refine g_iconst (v := 2) hC dX11_set_1 (by decide) ?_
  refine g_icmp_ne (tgt := 11) hC dX11_set_2 rfl (fun c => ?_) (fun c => ?_)
  · replace hw := hw.1 c
    refine g_iload_n hC dX11_set_11 rfl ?_
    refine g_if_lt (tgt := 35) hC dX11_set_12 rfl (fun c => ?_) (fun c => ?_)
    · replace hw := hw.1 c
      refine g_bipush (v := (-2)) hC dX11_set_35 (by decide) ?_
      exact g_iret hC rfl (by decide) (by decide) dX11_set_37 (fun _ => ⟨_, rfl, hw⟩)
    · replace hw := hw.2 c
      refine g_iload_n hC dX11_set_15 rfl ?_
      refine g_iconst (v := 1) hC dX11_set_16 (by decide) ?_
      refine g_icmp_gt (tgt := 35) hC dX11_set_17 rfl (fun c => ?_) (fun c => ?_)
      · replace hw := hw.1 c
        refine g_bipush (v := (-2)) hC dX11_set_35 (by decide) ?_
        exact g_iret hC rfl (by decide) (by decide) dX11_set_37 (fun _ => ⟨_, rfl, hw⟩)
      · replace hw := hw.2 c
        refine g_aload_n hC dX11_set_20 rfl ?_
        refine g_iload_n hC dX11_set_21 rfl ?_
        refine g_known (fun hS => ?_)
        refine mG.st (st1 := ([.int x2] : List Value).reverse ++ .ref (xB X + 0) :: []) rfl ?_
        refine g_callV (As := [.int x2]) (st := []) hC (hS.2 _ (hT _ tg_G_0)) (by decide) ycl_11_X11_isPlate yw_X11_isPlate yv_X11_isPlate tw_82 dX11_set_22 (fun _ h => h) (fun _ h => h) (fun h => h) (c_X11_isPlate (d := 0) (Nat.le_refl _) hP hT hF hw) rfl (Nat.le_of_ble_eq_true rfl) (by omega) (by decide) (by decide) (kI fun v101 s103 hw => ?_)
        refine g_if_eq (tgt := 35) hC dX11_set_25 rfl (fun c => ?_) (fun c => ?_)
        · replace hw := hw.1 c
          refine g_bipush (v := (-2)) hC dX11_set_35 (by decide) ?_
          exact g_iret hC rfl (by decide) (by decide) dX11_set_37 (fun _ => ⟨_, rfl, hw⟩)
        · replace hw := hw.2 c
          refine g_iload_n hC dX11_set_28 rfl ?_
          refine mG.st (st1 := ([.int x3] : List Value).reverse ++ []) rfl ?_
          refine g_callS (As := [.int x3]) (st := []) hC yw_X11_isMeasure ys_X11_isMeasure tw_26 dX11_set_29 (fun _ h => h) (fun _ h => h) (fun h => h) (c_X11_isMeasure (d := 0) (Nat.le_refl _) hw) rfl (Nat.le_of_ble_eq_true rfl) (by omega) (by decide) (by decide) (kI fun v104 s106 hw => ?_)
          refine g_if_ne (tgt := 38) hC dX11_set_32 rfl (fun c => ?_) (fun c => ?_)
          · replace hw := hw.1 c
            refine g_iload_n hC dX11_set_38 rfl ?_
            refine g_if_ne (tgt := 49) hC dX11_set_39 rfl (fun c => ?_) (fun c => ?_)
            · replace hw := hw.1 c
              refine g_aload_n hC dX11_set_49 rfl ?_
              refine g_getrS hC fl_X11_13_11.s (hT _ tg_G_0) (hP _ pt_G_0_1) dX11_set_50 ?_
              refine mG.pick (lv' := [(2, .int x2), (3, .int x3)]) [2, 3] rfl ?_
              exact t_X11_set_53 hC hd hN hP hT hF hw
            · replace hw := hw.2 c
              refine g_aload_n hC dX11_set_42 rfl ?_
              refine g_getrS hC fl_X11_9_11.s (hT _ tg_G_0) (hP _ pt_G_0_0) dX11_set_43 ?_
              refine g_goto (tgt := 53) hC dX11_set_46 rfl ?_
              refine mG.pick (lv' := [(2, .int x2), (3, .int x3)]) [2, 3] rfl ?_
              exact t_X11_set_53 hC hd hN hP hT hF hw
          · replace hw := hw.2 c
            refine g_bipush (v := (-2)) hC dX11_set_35 (by decide) ?_
            exact g_iret hC rfl (by decide) (by decide) dX11_set_37 (fun _ => ⟨_, rfl, hw⟩)
  · replace hw := hw.2 c
    refine g_aload_n hC dX11_set_5 rfl ?_
    refine g_iload_n hC dX11_set_6 rfl ?_
    refine g_known (fun hS => ?_)
    refine mG.st (st1 := ([.int x3] : List Value).reverse ++ .ref (xB X + 0) :: []) rfl ?_
    refine g_callV (As := [.int x3]) (st := []) hC (hS.2 _ (hT _ tg_G_0)) (by decide) ycl_11_X11_setHighest yw_X11_setHighest yv_X11_setHighest tw_86 dX11_set_7 (fun _ h => h) (fun _ h => h) (fun h => h) (c_X11_setHighest (d := 0) (Nat.le_refl _) hP hT hF hw) rfl (Nat.le_of_ble_eq_true rfl) (by omega) (by decide) (by decide) (kI fun v107 s109 hw => ?_)
    exact g_iret hC rfl (by decide) (by decide) dX11_set_10 (fun _ => ⟨_, rfl, hw⟩)
set_option maxRecDepth 4000 in
theorem c_X11_set {Z : Fx} {ps ts : List (Nat × Nat × Nat)} {d : Nat} (hd : 1 ≤ d) (hP : ∀ e ∈ psG, e ∈ ps) (hT : ∀ e ∈ tsG, e ∈ ts) (hF : ∀ e ∈ ps, e ∈ psA) {σ : Mem} {x1 : Int32} {x2 : Int32} {x3 : Int32} {Q : Int32 → Mem → Prop} (hw : w_X11_set σ x1 x2 x3 Q) : mM Z ps ts yX11_set cX11_set 6 (some .int) d 0 0 [.ref (Z.2.2 + 0), .int x1, .int x2, .int x3] σ (qI Q) := by
  refine mM.of (by decide) (Nat.le_of_ble_eq_true rfl) rfl (fun X hZ hp ht hn hC => ?_)
  subst hZ; subst hp; subst ht
  exact t_X11_set hC hd (fun i h => by rw [hn]; exact h) hP hT hF hw
def w_X11_worth_104 (Q : Int32 → Mem → Prop) (x1 : Int32) (x2 : Int32) (x4 : Int32) (x5 : Int32) (a6 : Nat) (x8 : Int32) (xy0 : Int32) (σ : Mem) : Prop := vp_in x2 8 ∧ (vp_in x2 8 ∧ (mT σ a6 = some (6, 0) ∧ (w_X6_about σ a6 (mI σ 1 (Int32.toNatClampNeg x2)) x8 (mI σ 2 (Int32.toNatClampNeg x2)) xy0 x4 x5 (fun s103 => mT s103 a6 = some (6, 0) ∧ (w_X6_value s103 a6 x1 (fun v104 s106 => Q v104 s106))))))
set_option maxRecDepth 4000 in
set_option maxHeartbeats 2000000 in
theorem t_X11_worth_104 {X : Cx} {d : Nat} (hC : mOK X cX11_worth RX11 "worth" (some .int) d 0 0) (hd : 2 ≤ d) (hN : ∀ i, i < 10 → i < xN X) (hP : ∀ e ∈ psG, e ∈ xP X) (hT : ∀ e ∈ tsG, e ∈ xT X) (hF : ∀ e ∈ xP X, e ∈ psA) {Q : Int32 → Mem → Prop} {x1 : Int32} {x2 : Int32} {x4 : Int32} {x5 : Int32} {a6 : Nat} {x8 : Int32} {xy0 : Int32} {σ : Mem} (hw : w_X11_worth_104 Q x1 x2 x4 x5 a6 x8 xy0 σ) : mG X 104 [(0, .ref (xB X + 0)), (1, .int x1), (2, .int x2), (4, .int x4), (5, .int x5), (6, .ref (xB X + a6)), (8, .int x8)] [.int xy0] σ 0 0 (mQ X 0 0 (qI Q)) := by
  refine g_istore (lv' := [(9, .int xy0), (0, .ref (xB X + 0)), (1, .int x1), (2, .int x2), (4, .int x4), (5, .int x5), (6, .ref (xB X + a6)), (8, .int x8)]) hC dX11_worth_104 (hN 9 (by decide)) rfl ?_
  refine g_aload hC dX11_worth_106 rfl ?_
  refine g_aload_n hC dX11_worth_108 rfl ?_
  refine g_getrS hC fl_X11_9_11.s (hT _ tg_G_0) (hP _ pt_G_0_0) dX11_worth_109 ?_
  refine g_iload_n hC dX11_worth_112 rfl ?_
  refine g_ialdSv (v := (mI σ 1 (Int32.toNatClampNeg x2))) hC (hT _ tg_G_1) rfl hw.1 rfl dX11_worth_113 ?_
  replace hw := hw.2
  refine g_iload hC dX11_worth_114 rfl ?_
  refine g_aload_n hC dX11_worth_116 rfl ?_
  refine g_getrS hC fl_X11_13_11.s (hT _ tg_G_0) (hP _ pt_G_0_1) dX11_worth_117 ?_
  refine g_iload_n hC dX11_worth_120 rfl ?_
  refine g_ialdSv (v := (mI σ 2 (Int32.toNatClampNeg x2))) hC (hT _ tg_G_2) rfl hw.1 rfl dX11_worth_121 ?_
  replace hw := hw.2
  refine g_iload hC dX11_worth_122 rfl ?_
  refine g_iload hC dX11_worth_124 rfl ?_
  refine g_iload hC dX11_worth_126 rfl ?_
  refine mG.st (st1 := ([.int (mI σ 1 (Int32.toNatClampNeg x2)), .int x8, .int (mI σ 2 (Int32.toNatClampNeg x2)), .int xy0, .int x4, .int x5] : List Value).reverse ++ .ref (xB X + a6) :: []) rfl ?_
  have hw0 := hw.1
  replace hw := hw.2
  refine g_callV (As := [.int (mI σ 1 (Int32.toNatClampNeg x2)), .int x8, .int (mI σ 2 (Int32.toNatClampNeg x2)), .int xy0, .int x4, .int x5]) (st := []) hC hw0 (by decide) ycl_6_X6_about yw_X6_about yv_X6_about tw_96 dX11_worth_128 (fun _ h => h) (fun _ h => h) (fun h => h) (c_X6_about (d := 0) (Nat.le_refl _) hw) rfl (Nat.le_of_ble_eq_true rfl) (by omega) (by decide) (by decide) (kV fun s103 hw => ?_)
  refine g_aload hC dX11_worth_131 rfl ?_
  refine g_iload_n hC dX11_worth_133 rfl ?_
  refine mG.st (st1 := ([.int x1] : List Value).reverse ++ .ref (xB X + a6) :: []) rfl ?_
  have hw0 := hw.1
  replace hw := hw.2
  refine g_callV (As := [.int x1]) (st := []) hC hw0 (by decide) ycl_6_X6_value yw_X6_value yv_X6_value tw_98 dX11_worth_134 (fun _ h => h) (fun _ h => h) (fun h => h) (c_X6_value (d := 1) (Nat.le_refl _) hw) rfl (Nat.le_of_ble_eq_true rfl) (by omega) (by decide) (by decide) (kI fun v104 s106 hw => ?_)
  exact g_iret hC rfl (by decide) (by decide) dX11_worth_137 (fun _ => ⟨_, rfl, hw⟩)
def w_X11_worth_87 (Q : Int32 → Mem → Prop) (x1 : Int32) (x2 : Int32) (x3 : Int32) (x4 : Int32) (x5 : Int32) (a6 : Nat) (x7 : Int32) (xy0 : Int32) (σ : Mem) : Prop := (x7 = 0 → (vp_in x3 8 ∧ (w_X11_worth_104 Q x1 x2 x4 x5 a6 xy0 (mI σ 2 (Int32.toNatClampNeg x3)) σ))) ∧ (¬ x7 = 0 → (w_X11_worth_104 Q x1 x2 x4 x5 a6 xy0 0 σ))
set_option maxRecDepth 4000 in
set_option maxHeartbeats 2000000 in
theorem t_X11_worth_87 {X : Cx} {d : Nat} (hC : mOK X cX11_worth RX11 "worth" (some .int) d 0 0) (hd : 2 ≤ d) (hN : ∀ i, i < 10 → i < xN X) (hP : ∀ e ∈ psG, e ∈ xP X) (hT : ∀ e ∈ tsG, e ∈ xT X) (hF : ∀ e ∈ xP X, e ∈ psA) {Q : Int32 → Mem → Prop} {x1 : Int32} {x2 : Int32} {x3 : Int32} {x4 : Int32} {x5 : Int32} {a6 : Nat} {x7 : Int32} {xy0 : Int32} {σ : Mem} (hw : w_X11_worth_87 Q x1 x2 x3 x4 x5 a6 x7 xy0 σ) : mG X 87 [(0, .ref (xB X + 0)), (1, .int x1), (2, .int x2), (3, .int x3), (4, .int x4), (5, .int x5), (6, .ref (xB X + a6)), (7, .int x7)] [.int xy0] σ 0 0 (mQ X 0 0 (qI Q)) := by
  refine g_istore (lv' := [(8, .int xy0), (0, .ref (xB X + 0)), (1, .int x1), (2, .int x2), (3, .int x3), (4, .int x4), (5, .int x5), (6, .ref (xB X + a6)), (7, .int x7)]) hC dX11_worth_87 (hN 8 (by decide)) rfl ?_
  refine g_iload hC dX11_worth_89 rfl ?_
  refine g_if_eq (tgt := 98) hC dX11_worth_91 rfl (fun c => ?_) (fun c => ?_)
  · replace hw := hw.1 c
    refine g_aload_n hC dX11_worth_98 rfl ?_
    refine g_getrS hC fl_X11_13_11.s (hT _ tg_G_0) (hP _ pt_G_0_1) dX11_worth_99 ?_
    refine g_iload_n hC dX11_worth_102 rfl ?_
    refine g_ialdSv (v := (mI σ 2 (Int32.toNatClampNeg x3))) hC (hT _ tg_G_2) rfl hw.1 rfl dX11_worth_103 ?_
    replace hw := hw.2
    refine mG.pick (lv' := [(0, .ref (xB X + 0)), (1, .int x1), (2, .int x2), (4, .int x4), (5, .int x5), (6, .ref (xB X + a6)), (8, .int xy0)]) [1, 2, 3, 5, 6, 7, 0] rfl ?_
    exact t_X11_worth_104 hC hd hN hP hT hF hw
  · replace hw := hw.2 c
    refine g_iconst (v := 0) hC dX11_worth_94 (by decide) ?_
    refine g_goto (tgt := 104) hC dX11_worth_95 rfl ?_
    refine mG.pick (lv' := [(0, .ref (xB X + 0)), (1, .int x1), (2, .int x2), (4, .int x4), (5, .int x5), (6, .ref (xB X + a6)), (8, .int xy0)]) [1, 2, 3, 5, 6, 7, 0] rfl ?_
    exact t_X11_worth_104 hC hd hN hP hT hF hw
def w_X11_worth_70 (Q : Int32 → Mem → Prop) (x1 : Int32) (x2 : Int32) (x3 : Int32) (x4 : Int32) (x5 : Int32) (a6 : Nat) (xy0 : Int32) (σ : Mem) : Prop := (xy0 = 0 → (vp_in x3 8 ∧ (w_X11_worth_87 Q x1 x2 x3 x4 x5 a6 xy0 (mI σ 1 (Int32.toNatClampNeg x3)) σ))) ∧ (¬ xy0 = 0 → (w_X11_worth_87 Q x1 x2 x3 x4 x5 a6 xy0 0 σ))
set_option maxRecDepth 4000 in
set_option maxHeartbeats 2000000 in
theorem t_X11_worth_70 {X : Cx} {d : Nat} (hC : mOK X cX11_worth RX11 "worth" (some .int) d 0 0) (hd : 2 ≤ d) (hN : ∀ i, i < 10 → i < xN X) (hP : ∀ e ∈ psG, e ∈ xP X) (hT : ∀ e ∈ tsG, e ∈ xT X) (hF : ∀ e ∈ xP X, e ∈ psA) {Q : Int32 → Mem → Prop} {x1 : Int32} {x2 : Int32} {x3 : Int32} {x4 : Int32} {x5 : Int32} {a6 : Nat} {xy0 : Int32} {σ : Mem} (hw : w_X11_worth_70 Q x1 x2 x3 x4 x5 a6 xy0 σ) : mG X 70 [(0, .ref (xB X + 0)), (1, .int x1), (2, .int x2), (3, .int x3), (4, .int x4), (5, .int x5), (6, .ref (xB X + a6))] [.int xy0] σ 0 0 (mQ X 0 0 (qI Q)) := by
  refine g_istore (lv' := [(7, .int xy0), (0, .ref (xB X + 0)), (1, .int x1), (2, .int x2), (3, .int x3), (4, .int x4), (5, .int x5), (6, .ref (xB X + a6))]) hC dX11_worth_70 (hN 7 (by decide)) rfl ?_
  refine g_iload hC dX11_worth_72 rfl ?_
  refine g_if_eq (tgt := 81) hC dX11_worth_74 rfl (fun c => ?_) (fun c => ?_)
  · replace hw := hw.1 c
    refine g_aload_n hC dX11_worth_81 rfl ?_
    refine g_getrS hC fl_X11_9_11.s (hT _ tg_G_0) (hP _ pt_G_0_0) dX11_worth_82 ?_
    refine g_iload_n hC dX11_worth_85 rfl ?_
    refine g_ialdSv (v := (mI σ 1 (Int32.toNatClampNeg x3))) hC (hT _ tg_G_1) rfl hw.1 rfl dX11_worth_86 ?_
    replace hw := hw.2
    refine mG.pick (lv' := [(0, .ref (xB X + 0)), (1, .int x1), (2, .int x2), (3, .int x3), (4, .int x4), (5, .int x5), (6, .ref (xB X + a6)), (7, .int xy0)]) [1, 2, 3, 4, 5, 6, 7, 0] rfl ?_
    exact t_X11_worth_87 hC hd hN hP hT hF hw
  · replace hw := hw.2 c
    refine g_iconst (v := 0) hC dX11_worth_77 (by decide) ?_
    refine g_goto (tgt := 87) hC dX11_worth_78 rfl ?_
    refine mG.pick (lv' := [(0, .ref (xB X + 0)), (1, .int x1), (2, .int x2), (3, .int x3), (4, .int x4), (5, .int x5), (6, .ref (xB X + a6)), (7, .int xy0)]) [1, 2, 3, 4, 5, 6, 7, 0] rfl ?_
    exact t_X11_worth_87 hC hd hN hP hT hF hw
def w_X11_worth_40 (Q : Int32 → Mem → Prop) (x1 : Int32) (x2 : Int32) (x3 : Int32) (x4 : Int32) (x5 : Int32) (oy0 : Option Nat) (σ : Mem) : Prop := (oy0 = none → (Q 0 σ)) ∧ (∀ r101 : Nat, oy0 = some r101 → (w_X11_isPlate σ x2 (fun v102 s104 => (¬ v102 = 0 → (w_X11_isPlate s104 x3 (fun v105 s107 => (¬ v105 = 0 → (w_X11_worth_70 Q x1 x2 x3 x4 x5 r101 0 s107)) ∧ (v105 = 0 → (w_X11_worth_70 Q x1 x2 x3 x4 x5 r101 1 s107))))) ∧ (v102 = 0 → (Q 0 s104)))))
set_option maxRecDepth 4000 in
set_option maxHeartbeats 2000000 in
theorem t_X11_worth_40 {X : Cx} {d : Nat} (hC : mOK X cX11_worth RX11 "worth" (some .int) d 0 0) (hd : 2 ≤ d) (hN : ∀ i, i < 10 → i < xN X) (hP : ∀ e ∈ psG, e ∈ xP X) (hT : ∀ e ∈ tsG, e ∈ xT X) (hF : ∀ e ∈ xP X, e ∈ psA) {Q : Int32 → Mem → Prop} {x1 : Int32} {x2 : Int32} {x3 : Int32} {x4 : Int32} {x5 : Int32} {oy0 : Option Nat} {σ : Mem} (hw : w_X11_worth_40 Q x1 x2 x3 x4 x5 oy0 σ) : mG X 40 [(0, .ref (xB X + 0)), (1, .int x1), (2, .int x2), (3, .int x3), (4, .int x4), (5, .int x5)] [rq X oy0] σ 0 0 (mQ X 0 0 (qI Q)) := by
  refine g_astoreQ (lv' := [(6, rq X oy0), (0, .ref (xB X + 0)), (1, .int x1), (2, .int x2), (3, .int x3), (4, .int x4), (5, .int x5)]) hC dX11_worth_40 (hN 6 (by decide)) rfl ?_
  refine g_aloadQ hC dX11_worth_42 rfl ?_
  rcases oy0 with _ | r101
  · replace hw := hw.1 rfl
    refine g_ifnullN (tgt := 55) hC dX11_worth_44 rfl ?_
    refine g_iconst (v := 0) hC dX11_worth_55 (by decide) ?_
    exact g_iret hC rfl (by decide) (by decide) dX11_worth_56 (fun _ => ⟨_, rfl, hw⟩)
  · replace hw := hw.2 r101 rfl
    refine g_ifnullR hC dX11_worth_44 ?_
    refine g_aload_n hC dX11_worth_47 rfl ?_
    refine g_iload_n hC dX11_worth_48 rfl ?_
    refine g_known (fun hS => ?_)
    refine mG.st (st1 := ([.int x2] : List Value).reverse ++ .ref (xB X + 0) :: []) rfl ?_
    refine g_callV (As := [.int x2]) (st := []) hC (hS.2 _ (hT _ tg_G_0)) (by decide) ycl_11_X11_isPlate yw_X11_isPlate yv_X11_isPlate tw_82 dX11_worth_49 (fun _ h => h) (fun _ h => h) (fun h => h) (c_X11_isPlate (d := 0) (Nat.le_refl _) hP hT hF hw) rfl (Nat.le_of_ble_eq_true rfl) (by omega) (by decide) (by decide) (kI fun v102 s104 hw => ?_)
    refine g_if_ne (tgt := 57) hC dX11_worth_52 rfl (fun c => ?_) (fun c => ?_)
    · replace hw := hw.1 c
      refine g_aload_n hC dX11_worth_57 rfl ?_
      refine g_iload_n hC dX11_worth_58 rfl ?_
      refine g_known (fun hS => ?_)
      refine mG.st (st1 := ([.int x3] : List Value).reverse ++ .ref (xB X + 0) :: []) rfl ?_
      refine g_callV (As := [.int x3]) (st := []) hC (hS.2 _ (hT _ tg_G_0)) (by decide) ycl_11_X11_isPlate yw_X11_isPlate yv_X11_isPlate tw_82 dX11_worth_59 (fun _ h => h) (fun _ h => h) (fun h => h) (c_X11_isPlate (d := 0) (Nat.le_refl _) hP hT hF hw) rfl (Nat.le_of_ble_eq_true rfl) (by omega) (by decide) (by decide) (kI fun v105 s107 hw => ?_)
      refine g_if_ne (tgt := 69) hC dX11_worth_62 rfl (fun c => ?_) (fun c => ?_)
      · replace hw := hw.1 c
        refine g_iconst (v := 0) hC dX11_worth_69 (by decide) ?_
        refine mG.pick (lv' := [(0, .ref (xB X + 0)), (1, .int x1), (2, .int x2), (3, .int x3), (4, .int x4), (5, .int x5), (6, .ref (xB X + r101))]) [1, 2, 3, 4, 5, 6, 0] rfl ?_
        exact t_X11_worth_70 hC hd hN hP hT hF hw
      · replace hw := hw.2 c
        refine g_iconst (v := 1) hC dX11_worth_65 (by decide) ?_
        refine g_goto (tgt := 70) hC dX11_worth_66 rfl ?_
        refine mG.pick (lv' := [(0, .ref (xB X + 0)), (1, .int x1), (2, .int x2), (3, .int x3), (4, .int x4), (5, .int x5), (6, .ref (xB X + r101))]) [1, 2, 3, 4, 5, 6, 0] rfl ?_
        exact t_X11_worth_70 hC hd hN hP hT hF hw
    · replace hw := hw.2 c
      refine g_iconst (v := 0) hC dX11_worth_55 (by decide) ?_
      exact g_iret hC rfl (by decide) (by decide) dX11_worth_56 (fun _ => ⟨_, rfl, hw⟩)
def w_X11_worth_39 (Q : Int32 → Mem → Prop) (x1 : Int32) (x2 : Int32) (x3 : Int32) (x4 : Int32) (x5 : Int32) (σ : Mem) : Prop := w_X11_worth_40 Q x1 x2 x3 x4 x5 none σ
set_option maxRecDepth 4000 in
set_option maxHeartbeats 2000000 in
theorem t_X11_worth_39 {X : Cx} {d : Nat} (hC : mOK X cX11_worth RX11 "worth" (some .int) d 0 0) (hd : 2 ≤ d) (hN : ∀ i, i < 10 → i < xN X) (hP : ∀ e ∈ psG, e ∈ xP X) (hT : ∀ e ∈ tsG, e ∈ xT X) (hF : ∀ e ∈ xP X, e ∈ psA) {Q : Int32 → Mem → Prop} {x1 : Int32} {x2 : Int32} {x3 : Int32} {x4 : Int32} {x5 : Int32} {σ : Mem} (hw : w_X11_worth_39 Q x1 x2 x3 x4 x5 σ) : mG X 39 [(0, .ref (xB X + 0)), (1, .int x1), (2, .int x2), (3, .int x3), (4, .int x4), (5, .int x5)] [] σ 0 0 (mQ X 0 0 (qI Q)) := by
  refine g_null hC dX11_worth_39 ?_
  refine mG.pick (lv' := [(0, .ref (xB X + 0)), (1, .int x1), (2, .int x2), (3, .int x3), (4, .int x4), (5, .int x5)]) [0, 1, 2, 3, 4, 5] rfl ?_
  refine mG.st (st1 := [rq X none]) rfl ?_
  exact t_X11_worth_40 hC hd hN hP hT hF hw
def w_X11_worth (σ : Mem) (x1 : Int32) (x2 : Int32) (x3 : Int32) (x4 : Int32) (x5 : Int32) (Q : Int32 → Mem → Prop) : Prop := ((mI σ 8 3) < 0 → (w_X11_worth_39 Q x1 x2 x3 x4 x5 σ)) ∧ (¬ (mI σ 8 3) < 0 → (((mI σ 0 6) ≤ (mI σ 8 3) → (w_X11_worth_39 Q x1 x2 x3 x4 x5 σ)) ∧ (¬ (mI σ 0 6) ≤ (mI σ 8 3) → (vp_in (mI σ 8 3) 6 ∧ ∀ o101 : Option Nat, o101 = (mP σ 4 (Int32.toNatClampNeg (mI σ 8 3))) → (w_X11_worth_40 Q x1 x2 x3 x4 x5 o101 σ)))))
set_option maxRecDepth 4000 in
set_option maxHeartbeats 2000000 in
theorem t_X11_worth {X : Cx} {d : Nat} (hC : mOK X cX11_worth RX11 "worth" (some .int) d 0 0) (hd : 2 ≤ d) (hN : ∀ i, i < 10 → i < xN X) (hP : ∀ e ∈ psG, e ∈ xP X) (hT : ∀ e ∈ tsG, e ∈ xT X) (hF : ∀ e ∈ xP X, e ∈ psA) {σ : Mem} {x1 : Int32} {x2 : Int32} {x3 : Int32} {x4 : Int32} {x5 : Int32} {Q : Int32 → Mem → Prop} (hw : w_X11_worth σ x1 x2 x3 x4 x5 Q) : mG X 0 [(0, .ref (xB X + 0)), (1, .int x1), (2, .int x2), (3, .int x3), (4, .int x4), (5, .int x5)] [] σ 0 0 (mQ X 0 0 (qI Q)) := by
  refine g_aload_n hC dX11_worth_0 rfl ?_
  refine g_getrS hC fl_X11_38_11.s (hT _ tg_G_0) (hP _ pt_G_0_8) dX11_worth_1 ?_
  refine g_getiSv (v := (mI σ 8 3)) hC fl_X11_159_9.s (hT _ tg_G_8) rfl dX11_worth_4 ?_
  refine g_if_lt (tgt := 39) hC dX11_worth_7 rfl (fun c => ?_) (fun c => ?_)
  · replace hw := hw.1 c
    refine mG.pick (lv' := [(0, .ref (xB X + 0)), (1, .int x1), (2, .int x2), (3, .int x3), (4, .int x4), (5, .int x5)]) [0, 1, 2, 3, 4, 5] rfl ?_
    exact t_X11_worth_39 hC hd hN hP hT hF hw
  · replace hw := hw.2 c
    refine g_aload_n hC dX11_worth_10 rfl ?_
    refine g_getrS hC fl_X11_38_11.s (hT _ tg_G_0) (hP _ pt_G_0_8) dX11_worth_11 ?_
    refine g_getiSv (v := (mI σ 8 3)) hC fl_X11_159_9.s (hT _ tg_G_8) rfl dX11_worth_14 ?_
    refine g_aload_n hC dX11_worth_17 rfl ?_
    refine g_getiSv (v := (mI σ 0 6)) hC fl_X11_91_11.s (hT _ tg_G_0) rfl dX11_worth_18 ?_
    refine g_icmp_ge (tgt := 39) hC dX11_worth_21 rfl (fun c => ?_) (fun c => ?_)
    · replace hw := hw.1 c
      refine mG.pick (lv' := [(0, .ref (xB X + 0)), (1, .int x1), (2, .int x2), (3, .int x3), (4, .int x4), (5, .int x5)]) [0, 1, 2, 3, 4, 5] rfl ?_
      exact t_X11_worth_39 hC hd hN hP hT hF hw
    · replace hw := hw.2 c
      refine g_aload_n hC dX11_worth_24 rfl ?_
      refine g_getrS hC fl_X11_24_11.s (hT _ tg_G_0) (hP _ pt_G_0_5) dX11_worth_25 ?_
      refine g_aload_n hC dX11_worth_28 rfl ?_
      refine g_getrS hC fl_X11_38_11.s (hT _ tg_G_0) (hP _ pt_G_0_8) dX11_worth_29 ?_
      refine g_getiSv (v := (mI σ 8 3)) hC fl_X11_159_9.s (hT _ tg_G_8) rfl dX11_worth_32 ?_
      refine g_aaldS hC (hT _ tg_G_4) (by decide) (by decide) rfl hw.1 dX11_worth_35 ?_
      refine g_topq (fun o101 eo101 => ?_)
      replace hw := hw.2 o101 eo101
      refine g_goto (tgt := 40) hC dX11_worth_36 rfl ?_
      refine mG.pick (lv' := [(0, .ref (xB X + 0)), (1, .int x1), (2, .int x2), (3, .int x3), (4, .int x4), (5, .int x5)]) [0, 1, 2, 3, 4, 5] rfl ?_
      exact t_X11_worth_40 hC hd hN hP hT hF hw
set_option maxRecDepth 4000 in
theorem c_X11_worth {Z : Fx} {ps ts : List (Nat × Nat × Nat)} {d : Nat} (hd : 2 ≤ d) (hP : ∀ e ∈ psG, e ∈ ps) (hT : ∀ e ∈ tsG, e ∈ ts) (hF : ∀ e ∈ ps, e ∈ psA) {σ : Mem} {x1 : Int32} {x2 : Int32} {x3 : Int32} {x4 : Int32} {x5 : Int32} {Q : Int32 → Mem → Prop} (hw : w_X11_worth σ x1 x2 x3 x4 x5 Q) : mM Z ps ts yX11_worth cX11_worth 10 (some .int) d 0 0 [.ref (Z.2.2 + 0), .int x1, .int x2, .int x3, .int x4, .int x5] σ (qI Q) := by
  refine mM.of (by decide) (Nat.le_of_ble_eq_true rfl) rfl (fun X hZ hp ht hn hC => ?_)
  subst hZ; subst hp; subst ht
  exact t_X11_worth hC hd (fun i h => by rw [hn]; exact h) hP hT hF hw
def w_X11_bounded (σ : Mem) (x0 : Int32) (Q : Int32 → Mem → Prop) : Prop := Q (if 0 < (if x0 < 99 then x0 else 99) then (if x0 < 99 then x0 else 99) else 0) σ
set_option maxRecDepth 4000 in
set_option maxHeartbeats 2000000 in
theorem t_X11_bounded {X : Cx} {d : Nat} (hC : mOK X cX11_bounded RX11 "bounded" (some .int) d 0 0) (hd : 1 ≤ d) (hN : ∀ i, i < 1 → i < xN X) {σ : Mem} {x0 : Int32} {Q : Int32 → Mem → Prop} (hw : w_X11_bounded σ x0 Q) : mG X 0 [(0, .int x0)] [] σ 0 0 (mQ X 0 0 (qI Q)) := by
  refine g_iconst (v := 0) hC dX11_bounded_0 (by decide) ?_
  refine g_bipush (v := 99) hC dX11_bounded_1 (by decide) ?_
  refine g_iload_n hC dX11_bounded_3 rfl ?_
  refine g_mmin hC tw_117 tw_119 tw_5 tw_120 (Nat.le_of_ble_eq_true rfl) (by omega) (by decide) (by decide) dX11_bounded_4 ?_
  refine g_mmax hC tw_118 tw_103 tw_5 tw_104 (Nat.le_of_ble_eq_true rfl) (by omega) (by decide) (by decide) dX11_bounded_7 ?_
  exact g_iret hC rfl (by decide) (by decide) dX11_bounded_10 (fun _ => ⟨_, rfl, hw⟩)
set_option maxRecDepth 4000 in
theorem c_X11_bounded {Z : Fx} {ps ts : List (Nat × Nat × Nat)} {d : Nat} (hd : 1 ≤ d) {σ : Mem} {x0 : Int32} {Q : Int32 → Mem → Prop} (hw : w_X11_bounded σ x0 Q) : mM Z ps ts yX11_bounded cX11_bounded 1 (some .int) d 0 0 [.int x0] σ (qI Q) := by
  refine mM.of (by decide) (Nat.le_of_ble_eq_true rfl) rfl (fun X hZ hp ht hn hC => ?_)
  subst hZ; subst hp; subst ht
  exact t_X11_bounded hC hd (fun i h => by rw [hn]; exact h) hw
def w_X11_layerAt (σ : Mem) (x1 : Int32) (Q : Option Nat → Mem → Prop) : Prop := (x1 < 0 → (Q none σ)) ∧ (¬ x1 < 0 → (((mI σ 0 4) ≤ x1 → (Q none σ)) ∧ (¬ (mI σ 0 4) ≤ x1 → (vp_in x1 5 ∧ ∀ o101 : Option Nat, o101 = (mP σ 3 (Int32.toNatClampNeg x1)) → (Q o101 σ)))))
set_option maxRecDepth 4000 in
set_option maxHeartbeats 2000000 in
theorem t_X11_layerAt {X : Cx} {d : Nat} (hC : mOK X cX11_layerAt RX11 "layerAt" (some (.object "GreaterPlates$Layer")) d 0 0) (hd : 0 ≤ d) (hN : ∀ i, i < 2 → i < xN X) (hP : ∀ e ∈ psG, e ∈ xP X) (hT : ∀ e ∈ tsG, e ∈ xT X) (hF : ∀ e ∈ xP X, e ∈ psA) {σ : Mem} {x1 : Int32} {Q : Option Nat → Mem → Prop} (hw : w_X11_layerAt σ x1 Q) : mG X 0 [(0, .ref (xB X + 0)), (1, .int x1)] [] σ 0 0 (mQ X 0 0 ((qA (xB X)) Q)) := by
  refine g_iload_n hC dX11_layerAt_0 rfl ?_
  refine g_if_lt (tgt := 21) hC dX11_layerAt_1 rfl (fun c => ?_) (fun c => ?_)
  · replace hw := hw.1 c
    refine g_null hC dX11_layerAt_21 ?_
    exact g_aretN hC (Or.inl ⟨_, rfl⟩) (by decide) (by decide) dX11_layerAt_22 (fun _ => ⟨none, rfl, hw⟩)
  · replace hw := hw.2 c
    refine g_iload_n hC dX11_layerAt_4 rfl ?_
    refine g_aload_n hC dX11_layerAt_5 rfl ?_
    refine g_getiSv (v := (mI σ 0 4)) hC fl_X11_104_11.s (hT _ tg_G_0) rfl dX11_layerAt_6 ?_
    refine g_icmp_ge (tgt := 21) hC dX11_layerAt_9 rfl (fun c => ?_) (fun c => ?_)
    · replace hw := hw.1 c
      refine g_null hC dX11_layerAt_21 ?_
      exact g_aretN hC (Or.inl ⟨_, rfl⟩) (by decide) (by decide) dX11_layerAt_22 (fun _ => ⟨none, rfl, hw⟩)
    · replace hw := hw.2 c
      refine g_aload_n hC dX11_layerAt_12 rfl ?_
      refine g_getrS hC fl_X11_18_11.s (hT _ tg_G_0) (hP _ pt_G_0_3) dX11_layerAt_13 ?_
      refine g_iload_n hC dX11_layerAt_16 rfl ?_
      refine g_aaldS hC (hT _ tg_G_3) (by decide) (by decide) rfl hw.1 dX11_layerAt_17 ?_
      refine g_topq (fun o101 eo101 => ?_)
      replace hw := hw.2 o101 eo101
      refine g_goto (tgt := 22) hC dX11_layerAt_18 rfl ?_
      exact g_aret hC (Or.inl ⟨_, rfl⟩) (by decide) (by decide) dX11_layerAt_22 (fun _ => ⟨o101, rfl, hw⟩)
set_option maxRecDepth 4000 in
theorem c_X11_layerAt {Z : Fx} {ps ts : List (Nat × Nat × Nat)} {d : Nat} (hd : 0 ≤ d) (hP : ∀ e ∈ psG, e ∈ ps) (hT : ∀ e ∈ tsG, e ∈ ts) (hF : ∀ e ∈ ps, e ∈ psA) {σ : Mem} {x1 : Int32} {Q : Option Nat → Mem → Prop} (hw : w_X11_layerAt σ x1 Q) : mM Z ps ts yX11_layerAt cX11_layerAt 2 (some (.object "GreaterPlates$Layer")) d 0 0 [.ref (Z.2.2 + 0), .int x1] σ ((qA Z.2.2) Q) := by
  refine mM.of (by decide) (Nat.le_of_ble_eq_true rfl) rfl (fun X hZ hp ht hn hC => ?_)
  subst hZ; subst hp; subst ht
  exact t_X11_layerAt hC hd (fun i h => by rw [hn]; exact h) hP hT hF hw
def w_X11_told_10 (Q : Int32 → Mem → Prop) (x1 : Int32) (x2 : Int32) (σ : Mem) : Prop := w_X11_layerAt σ x1 (fun o102 s103 => (o102 = none → (Q (-2) s103)) ∧ (∀ r104 : Nat, o102 = some r104 → ((¬ x2 = 3 → (∃ ci105 : Nat, lyK ci105 ∧ mT s103 r104 = some (ci105, 0) ∧ (Q (mI s103 r104 1) s103))) ∧ (x2 = 3 → (∃ ci106 : Nat, lyK ci106 ∧ mT s103 r104 = some (ci106, 0) ∧ (Q (mI s103 r104 0) s103))))))
set_option maxRecDepth 4000 in
set_option maxHeartbeats 2000000 in
theorem t_X11_told_10 {X : Cx} {d : Nat} (hC : mOK X cX11_told RX11 "told" (some .int) d 0 0) (hd : 3 ≤ d) (hN : ∀ i, i < 4 → i < xN X) (hP : ∀ e ∈ psG, e ∈ xP X) (hT : ∀ e ∈ tsG, e ∈ xT X) (hF : ∀ e ∈ xP X, e ∈ psA) {Q : Int32 → Mem → Prop} {x1 : Int32} {x2 : Int32} {σ : Mem} (hw : w_X11_told_10 Q x1 x2 σ) : mG X 10 [(0, .ref (xB X + 0)), (1, .int x1), (2, .int x2)] [] σ 0 0 (mQ X 0 0 (qI Q)) := by
  refine g_aload_n hC dX11_told_10 rfl ?_
  refine g_iload_n hC dX11_told_11 rfl ?_
  refine g_known (fun hS => ?_)
  refine mG.st (st1 := ([.int x1] : List Value).reverse ++ .ref (xB X + 0) :: []) rfl ?_
  refine g_callV (As := [.int x1]) (st := []) hC (hS.2 _ (hT _ tg_G_0)) (by decide) ycl_11_X11_layerAt yw_X11_layerAt yv_X11_layerAt tw_126 dX11_told_12 (fun _ h => h) (fun _ h => h) (fun h => h) (c_X11_layerAt (d := 0) (Nat.le_refl _) hP hT hF hw) rfl (Nat.le_of_ble_eq_true rfl) (by omega) (by decide) (by decide) (kA fun o102 s103 hw => ?_)
  refine g_astore_nQ (lv' := [(3, rq X o102), (0, .ref (xB X + 0)), (1, .int x1), (2, .int x2)]) hC dX11_told_15 (hN 3 (by decide)) rfl ?_
  refine g_aload_nQ hC dX11_told_16 rfl ?_
  rcases o102 with _ | r104
  · replace hw := hw.1 rfl
    refine g_ifnonnullN hC dX11_told_17 ?_
    refine g_bipush (v := (-2)) hC dX11_told_20 (by decide) ?_
    exact g_iret hC rfl (by decide) (by decide) dX11_told_22 (fun _ => ⟨_, rfl, hw⟩)
  · replace hw := hw.2 r104 rfl
    refine g_ifnonnullR (tgt := 23) hC dX11_told_17 rfl ?_
    refine g_iload_n hC dX11_told_23 rfl ?_
    refine g_iconst (v := 3) hC dX11_told_24 (by decide) ?_
    refine g_icmp_ne (tgt := 35) hC dX11_told_25 rfl (fun c => ?_) (fun c => ?_)
    · replace hw := hw.1 c
      refine g_aload_n hC dX11_told_35 rfl ?_
      obtain ⟨ci105, hly, htg, hw⟩ := hw
      refine g_getiv (v := (mI s103 r104 1)) hC (fly_X11_128 hly) htg rfl dX11_told_36 ?_
      exact g_iret hC rfl (by decide) (by decide) dX11_told_39 (fun _ => ⟨_, rfl, hw⟩)
    · replace hw := hw.2 c
      refine g_aload_n hC dX11_told_28 rfl ?_
      obtain ⟨ci106, hly, htg, hw⟩ := hw
      refine g_getiv (v := (mI s103 r104 0)) hC (fly_X11_125 hly) htg rfl dX11_told_29 ?_
      refine g_goto (tgt := 39) hC dX11_told_32 rfl ?_
      exact g_iret hC rfl (by decide) (by decide) dX11_told_39 (fun _ => ⟨_, rfl, hw⟩)
def w_X11_told (σ : Mem) (x1 : Int32) (x2 : Int32) (Q : Int32 → Mem → Prop) : Prop := (x2 = 3 → (w_X11_told_10 Q x1 x2 σ)) ∧ (¬ x2 = 3 → ((¬ x2 = 4 → ((x2 < 0 → (Q (-2) σ)) ∧ (¬ x2 < 0 → ((4 < x2 → (Q (-2) σ)) ∧ (¬ 4 < x2 → (w_X11_isPlate σ x1 (fun v101 s103 => (¬ v101 = 0 → ((¬ x2 = 2 → ((¬ x2 = 0 → (vp_in x1 8 ∧ (Q (mI s103 2 (Int32.toNatClampNeg x1)) s103))) ∧ (x2 = 0 → (vp_in x1 8 ∧ (Q (mI s103 1 (Int32.toNatClampNeg x1)) s103))))) ∧ (x2 = 2 → (w_X11_worth s103 2 x1 (-1) 0 0 (fun v104 s106 => w_X11_bounded s106 v104 (fun v107 s109 => Q v107 s109)))))) ∧ (v101 = 0 → (Q (-2) s103))))))))) ∧ (x2 = 4 → (w_X11_told_10 Q x1 x2 σ))))
set_option maxRecDepth 4000 in
set_option maxHeartbeats 2000000 in
theorem t_X11_told {X : Cx} {d : Nat} (hC : mOK X cX11_told RX11 "told" (some .int) d 0 0) (hd : 3 ≤ d) (hN : ∀ i, i < 4 → i < xN X) (hP : ∀ e ∈ psG, e ∈ xP X) (hT : ∀ e ∈ tsG, e ∈ xT X) (hF : ∀ e ∈ xP X, e ∈ psA) {σ : Mem} {x1 : Int32} {x2 : Int32} {Q : Int32 → Mem → Prop} (hw : w_X11_told σ x1 x2 Q) : mG X 0 [(0, .ref (xB X + 0)), (1, .int x1), (2, .int x2)] [] σ 0 0 (mQ X 0 0 (qI Q)) := by
  refine g_iload_n hC dX11_told_0 rfl ?_
  refine g_iconst (v := 3) hC dX11_told_1 (by decide) ?_
  refine g_icmp_eq (tgt := 10) hC dX11_told_2 rfl (fun c => ?_) (fun c => ?_)
  · replace hw := hw.1 c
    refine mG.pick (lv' := [(0, .ref (xB X + 0)), (1, .int x1), (2, .int x2)]) [0, 1, 2] rfl ?_
    exact t_X11_told_10 hC hd hN hP hT hF hw
  · replace hw := hw.2 c
    refine g_iload_n hC dX11_told_5 rfl ?_
    refine g_iconst (v := 4) hC dX11_told_6 (by decide) ?_
    refine g_icmp_ne (tgt := 40) hC dX11_told_7 rfl (fun c => ?_) (fun c => ?_)
    · replace hw := hw.1 c
      refine g_iload_n hC dX11_told_40 rfl ?_
      refine g_if_lt (tgt := 57) hC dX11_told_41 rfl (fun c => ?_) (fun c => ?_)
      · replace hw := hw.1 c
        refine g_bipush (v := (-2)) hC dX11_told_57 (by decide) ?_
        exact g_iret hC rfl (by decide) (by decide) dX11_told_59 (fun _ => ⟨_, rfl, hw⟩)
      · replace hw := hw.2 c
        refine g_iload_n hC dX11_told_44 rfl ?_
        refine g_iconst (v := 4) hC dX11_told_45 (by decide) ?_
        refine g_icmp_gt (tgt := 57) hC dX11_told_46 rfl (fun c => ?_) (fun c => ?_)
        · replace hw := hw.1 c
          refine g_bipush (v := (-2)) hC dX11_told_57 (by decide) ?_
          exact g_iret hC rfl (by decide) (by decide) dX11_told_59 (fun _ => ⟨_, rfl, hw⟩)
        · replace hw := hw.2 c
          refine g_aload_n hC dX11_told_49 rfl ?_
          refine g_iload_n hC dX11_told_50 rfl ?_
          refine g_known (fun hS => ?_)
          refine mG.st (st1 := ([.int x1] : List Value).reverse ++ .ref (xB X + 0) :: []) rfl ?_
          refine g_callV (As := [.int x1]) (st := []) hC (hS.2 _ (hT _ tg_G_0)) (by decide) ycl_11_X11_isPlate yw_X11_isPlate yv_X11_isPlate tw_82 dX11_told_51 (fun _ h => h) (fun _ h => h) (fun h => h) (c_X11_isPlate (d := 0) (Nat.le_refl _) hP hT hF hw) rfl (Nat.le_of_ble_eq_true rfl) (by omega) (by decide) (by decide) (kI fun v101 s103 hw => ?_)
          refine g_if_ne (tgt := 60) hC dX11_told_54 rfl (fun c => ?_) (fun c => ?_)
          · replace hw := hw.1 c
            refine g_iload_n hC dX11_told_60 rfl ?_
            refine g_iconst (v := 2) hC dX11_told_61 (by decide) ?_
            refine g_icmp_ne (tgt := 78) hC dX11_told_62 rfl (fun c => ?_) (fun c => ?_)
            · replace hw := hw.1 c
              refine g_iload_n hC dX11_told_78 rfl ?_
              refine g_if_ne (tgt := 91) hC dX11_told_79 rfl (fun c => ?_) (fun c => ?_)
              · replace hw := hw.1 c
                refine g_aload_n hC dX11_told_91 rfl ?_
                refine g_getrS hC fl_X11_13_11.s (hT _ tg_G_0) (hP _ pt_G_0_1) dX11_told_92 ?_
                refine g_iload_n hC dX11_told_95 rfl ?_
                refine g_ialdSv (v := (mI s103 2 (Int32.toNatClampNeg x1))) hC (hT _ tg_G_2) rfl hw.1 rfl dX11_told_96 ?_
                replace hw := hw.2
                exact g_iret hC rfl (by decide) (by decide) dX11_told_97 (fun _ => ⟨_, rfl, hw⟩)
              · replace hw := hw.2 c
                refine g_aload_n hC dX11_told_82 rfl ?_
                refine g_getrS hC fl_X11_9_11.s (hT _ tg_G_0) (hP _ pt_G_0_0) dX11_told_83 ?_
                refine g_iload_n hC dX11_told_86 rfl ?_
                refine g_ialdSv (v := (mI s103 1 (Int32.toNatClampNeg x1))) hC (hT _ tg_G_1) rfl hw.1 rfl dX11_told_87 ?_
                replace hw := hw.2
                refine g_goto (tgt := 97) hC dX11_told_88 rfl ?_
                exact g_iret hC rfl (by decide) (by decide) dX11_told_97 (fun _ => ⟨_, rfl, hw⟩)
            · replace hw := hw.2 c
              refine g_aload_n hC dX11_told_65 rfl ?_
              refine g_iconst (v := 2) hC dX11_told_66 (by decide) ?_
              refine g_iload_n hC dX11_told_67 rfl ?_
              refine g_iconst (v := (-1)) hC dX11_told_68 (by decide) ?_
              refine g_iconst (v := 0) hC dX11_told_69 (by decide) ?_
              refine g_iconst (v := 0) hC dX11_told_70 (by decide) ?_
              refine g_known (fun hS => ?_)
              refine mG.st (st1 := ([.int 2, .int x1, .int (-1), .int 0, .int 0] : List Value).reverse ++ .ref (xB X + 0) :: []) rfl ?_
              refine g_callV (As := [.int 2, .int x1, .int (-1), .int 0, .int 0]) (st := []) hC (hS.2 _ (hT _ tg_G_0)) (by decide) ycl_11_X11_worth yw_X11_worth yv_X11_worth tw_92 dX11_told_71 (fun _ h => h) (fun _ h => h) (fun h => h) (c_X11_worth (d := 2) (Nat.le_refl _) hP hT hF hw) rfl (Nat.le_of_ble_eq_true rfl) (by omega) (by decide) (by decide) (kI fun v104 s106 hw => ?_)
              refine mG.st (st1 := ([.int v104] : List Value).reverse ++ []) rfl ?_
              refine g_callS (As := [.int v104]) (st := []) hC yw_X11_bounded ys_X11_bounded tw_116 dX11_told_74 (fun _ h => h) (fun _ h => h) (fun h => h) (c_X11_bounded (d := 1) (Nat.le_refl _) hw) rfl (Nat.le_of_ble_eq_true rfl) (by omega) (by decide) (by decide) (kI fun v107 s109 hw => ?_)
              exact g_iret hC rfl (by decide) (by decide) dX11_told_77 (fun _ => ⟨_, rfl, hw⟩)
          · replace hw := hw.2 c
            refine g_bipush (v := (-2)) hC dX11_told_57 (by decide) ?_
            exact g_iret hC rfl (by decide) (by decide) dX11_told_59 (fun _ => ⟨_, rfl, hw⟩)
    · replace hw := hw.2 c
      refine mG.pick (lv' := [(0, .ref (xB X + 0)), (1, .int x1), (2, .int x2)]) [0, 1, 2] rfl ?_
      exact t_X11_told_10 hC hd hN hP hT hF hw
set_option maxRecDepth 4000 in
theorem c_X11_told {Z : Fx} {ps ts : List (Nat × Nat × Nat)} {d : Nat} (hd : 3 ≤ d) (hP : ∀ e ∈ psG, e ∈ ps) (hT : ∀ e ∈ tsG, e ∈ ts) (hF : ∀ e ∈ ps, e ∈ psA) {σ : Mem} {x1 : Int32} {x2 : Int32} {Q : Int32 → Mem → Prop} (hw : w_X11_told σ x1 x2 Q) : mM Z ps ts yX11_told cX11_told 4 (some .int) d 0 0 [.ref (Z.2.2 + 0), .int x1, .int x2] σ (qI Q) := by
  refine mM.of (by decide) (Nat.le_of_ble_eq_true rfl) rfl (fun X hZ hp ht hn hC => ?_)
  subst hZ; subst hp; subst ht
  exact t_X11_told hC hd (fun i h => by rw [hn]; exact h) hP hT hF hw
def w_X11_feed (σ : Mem) (x1 : Int32) (Q : Int32 → Mem → Prop) : Prop := (x1 < 0 → (Q (-2) σ)) ∧ (¬ x1 < 0 → ((x1 ≤ 255 → (w_X5_append σ x1 (fun v101 s103 => (¬ v101 = 0 → (Q (mI s103 5 1) s103)) ∧ (v101 = 0 → (Q (-4) s103))))) ∧ (¬ x1 ≤ 255 → (Q (-2) σ))))
set_option maxRecDepth 4000 in
set_option maxHeartbeats 2000000 in
theorem t_X11_feed {X : Cx} {d : Nat} (hC : mOK X cX11_feed RX11 "feed" (some .int) d 0 0) (hd : 1 ≤ d) (hN : ∀ i, i < 2 → i < xN X) (hP : ∀ e ∈ psG, e ∈ xP X) (hT : ∀ e ∈ tsG, e ∈ xT X) (hF : ∀ e ∈ xP X, e ∈ psA) {σ : Mem} {x1 : Int32} {Q : Int32 → Mem → Prop} (hw : w_X11_feed σ x1 Q) : mG X 0 [(0, .ref (xB X + 0)), (1, .int x1)] [] σ 0 0 (mQ X 0 0 (qI Q)) := by
  refine g_iload_n hC dX11_feed_0 rfl ?_
  refine g_if_lt (tgt := 11) hC dX11_feed_1 rfl (fun c => ?_) (fun c => ?_)
  · replace hw := hw.1 c
    refine g_bipush (v := (-2)) hC dX11_feed_11 (by decide) ?_
    exact g_iret hC rfl (by decide) (by decide) dX11_feed_13 (fun _ => ⟨_, rfl, hw⟩)
  · replace hw := hw.2 c
    refine g_iload_n hC dX11_feed_4 rfl ?_
    refine g_sipush (v := 255) hC dX11_feed_5 (by decide) ?_
    refine g_icmp_le (tgt := 14) hC dX11_feed_8 rfl (fun c => ?_) (fun c => ?_)
    · replace hw := hw.1 c
      refine g_aload_n hC dX11_feed_14 rfl ?_
      refine g_getrS hC fl_X11_31_11.s (hT _ tg_G_0) (hP _ pt_G_0_7) dX11_feed_15 ?_
      refine g_iload_n hC dX11_feed_18 rfl ?_
      refine g_known (fun hS => ?_)
      refine mG.st (st1 := ([.int x1] : List Value).reverse ++ .ref (xB X + 5) :: []) rfl ?_
      refine g_callV (As := [.int x1]) (st := []) hC (hS.2 _ (hT _ tg_G_5)) (by decide) ycl_5_X5_append yw_X5_append yv_X5_append tw_132 dX11_feed_19 (fun _ h => h) (fun _ h => h) (fun h => h) (c_X5_append (d := 0) (Nat.le_refl _) (fun e h => hP e (psR_G e h)) (fun e h => hT e (tsR_G e h)) hw) rfl (Nat.le_of_ble_eq_true rfl) (by omega) (by decide) (by decide) (kI fun v101 s103 hw => ?_)
      refine g_if_ne (tgt := 28) hC dX11_feed_22 rfl (fun c => ?_) (fun c => ?_)
      · replace hw := hw.1 c
        refine g_aload_n hC dX11_feed_28 rfl ?_
        refine g_getrS hC fl_X11_31_11.s (hT _ tg_G_0) (hP _ pt_G_0_7) dX11_feed_29 ?_
        refine g_getiSv (v := (mI s103 5 1)) hC fl_X11_95_5.s (hT _ tg_G_5) rfl dX11_feed_32 ?_
        exact g_iret hC rfl (by decide) (by decide) dX11_feed_35 (fun _ => ⟨_, rfl, hw⟩)
      · replace hw := hw.2 c
        refine g_bipush (v := (-4)) hC dX11_feed_25 (by decide) ?_
        exact g_iret hC rfl (by decide) (by decide) dX11_feed_27 (fun _ => ⟨_, rfl, hw⟩)
    · replace hw := hw.2 c
      refine g_bipush (v := (-2)) hC dX11_feed_11 (by decide) ?_
      exact g_iret hC rfl (by decide) (by decide) dX11_feed_13 (fun _ => ⟨_, rfl, hw⟩)
set_option maxRecDepth 4000 in
theorem c_X11_feed {Z : Fx} {ps ts : List (Nat × Nat × Nat)} {d : Nat} (hd : 1 ≤ d) (hP : ∀ e ∈ psG, e ∈ ps) (hT : ∀ e ∈ tsG, e ∈ ts) (hF : ∀ e ∈ ps, e ∈ psA) {σ : Mem} {x1 : Int32} {Q : Int32 → Mem → Prop} (hw : w_X11_feed σ x1 Q) : mM Z ps ts yX11_feed cX11_feed 2 (some .int) d 0 0 [.ref (Z.2.2 + 0), .int x1] σ (qI Q) := by
  refine mM.of (by decide) (Nat.le_of_ble_eq_true rfl) rfl (fun X hZ hp ht hn hC => ?_)
  subst hZ; subst hp; subst ht
  exact t_X11_feed hC hd (fun i h => by rw [hn]; exact h) hP hT hF hw
def w_X11_text (σ : Mem) (Q : Int32 → Mem → Prop) : Prop := ((mI σ 0 6) < 6 → (w_X5_read σ (fun o102 s103 => (o102 = none → (Q ((-100) - (mI s103 5 2)) (sI s103 5 1 0))) ∧ (∀ r104 : Nat, o102 = some r104 → (vp_in (mI s103 0 6) 6 ∧ mT s103 r104 = some (6, 0) ∧ (Q (((mI s103 0 6) + 1) - 1) (sI (sP (sI s103 5 1 0) 4 (Int32.toNatClampNeg (mI s103 0 6)) (some r104)) 0 6 ((mI s103 0 6) + 1)))))))) ∧ (¬ (mI σ 0 6) < 6 → (Q (-4) σ))
set_option maxRecDepth 4000 in
set_option maxHeartbeats 2000000 in
theorem t_X11_text {X : Cx} {d : Nat} (hC : mOK X cX11_text RX11 "text" (some .int) d 4 211) (hd : 198 ≤ d) (hN : ∀ i, i < 2 → i < xN X) (hP : ∀ e ∈ psG, e ∈ xP X) (hT : ∀ e ∈ tsG, e ∈ xT X) (hF : ∀ e ∈ xP X, e ∈ psA) {σ : Mem} {Q : Int32 → Mem → Prop} (hw : w_X11_text σ Q) : mG X 0 [(0, .ref (xB X + 0))] [] σ 0 0 (mQ X 4 211 (qI Q)) := by
  refine g_aload_n hC dX11_text_0 rfl ?_
  refine g_getiSv (v := (mI σ 0 6)) hC fl_X11_91_11.s (hT _ tg_G_0) rfl dX11_text_1 ?_
  refine g_bipush (v := 6) hC dX11_text_4 (by decide) ?_
  refine g_icmp_lt (tgt := 12) hC dX11_text_6 rfl (fun c => ?_) (fun c => ?_)
  · replace hw := hw.1 c
    refine g_aload_n hC dX11_text_12 rfl ?_
    refine g_getrS hC fl_X11_31_11.s (hT _ tg_G_0) (hP _ pt_G_0_7) dX11_text_13 ?_
    refine g_known (fun hS => ?_)
    refine mG.st (st1 := ([] : List Value).reverse ++ .ref (xB X + 5) :: []) rfl ?_
    refine g_callV (As := []) (st := []) hC (hS.2 _ (hT _ tg_G_5)) (by decide) ycl_5_X5_read yw_X5_read yv_X5_read tw_141 dX11_text_16 (fun _ h => h) (fun _ h => h) (fun h => h) (c_X5_read (d := 197) (Nat.le_refl _) (fun e h => hP e (psR_G e h)) (fun e h => hT e (tsR_G e h)) hw) rfl (Nat.le_of_ble_eq_true rfl) (by omega) (by decide) (by decide) (kA fun o102 s103 hw => ?_)
    refine g_astore_nQ (lv' := [(1, rq X o102), (0, .ref (xB X + 0))]) hC dX11_text_19 (hN 1 (by decide)) rfl ?_
    refine g_aload_n hC dX11_text_20 rfl ?_
    refine g_getrS hC fl_X11_31_11.s (hT _ tg_G_0) (hP _ pt_G_0_7) dX11_text_21 ?_
    refine g_iconst (v := 0) hC dX11_text_24 (by decide) ?_
    refine g_putIS hC (fw_X11_95_5 _) (hT _ tg_G_5) rfl rfl dX11_text_25 ?_
    refine g_aload_nQ hC dX11_text_28 rfl ?_
    rcases o102 with _ | r104
    · replace hw := hw.1 rfl
      refine g_ifnonnullN hC dX11_text_29 ?_
      refine g_bipush (v := (-100)) hC dX11_text_32 (by decide) ?_
      refine g_aload_n hC dX11_text_34 rfl ?_
      refine g_getrS hC fl_X11_31_11.s (hT _ tg_G_0) (hP _ pt_G_0_7) dX11_text_35 ?_
      refine g_getiSv (v := (mI s103 5 2)) hC fl_X11_156_5.s (hT _ tg_G_5) (mI_sI_k _ _ (by decide)) dX11_text_38 ?_
      refine g_isub hC dX11_text_41 ?_
      exact g_iret hC rfl (by decide) (by decide) dX11_text_42 (fun _ => ⟨_, rfl, hw⟩)
    · replace hw := hw.2 r104 rfl
      refine g_ifnonnullR (tgt := 43) hC dX11_text_29 rfl ?_
      refine g_aload_n hC dX11_text_43 rfl ?_
      refine g_getrS hC fl_X11_24_11.s (hT _ tg_G_0) (hP _ pt_G_0_5) dX11_text_44 ?_
      refine g_aload_n hC dX11_text_47 rfl ?_
      refine g_getiSv (v := (mI s103 0 6)) hC fl_X11_91_11.s (hT _ tg_G_0) (mI_sI_n _ _ (by decide)) dX11_text_48 ?_
      refine g_aload_n hC dX11_text_51 rfl ?_
      obtain ⟨hin, htg, hw⟩ := hw
      refine g_known (fun hS => ?_)
      refine g_aast hC (hS.2 _ (hT _ tg_G_4)) (by decide) hin htg (by decide) ao_6_17 (fun e he h => (show ∀ e ∈ psA, e.1 ≠ 4 by decide) e (hF e he) h.1) dX11_text_52 ?_
      refine g_aload_n hC dX11_text_53 rfl ?_
      refine g_dup hC dX11_text_54 rfl ?_
      refine g_getiSv (v := (mI s103 0 6)) hC fl_X11_91_11.s (hT _ tg_G_0) ((mI_sP _ _ _ _ _ _).trans (mI_sI_n _ _ (by decide))) dX11_text_55 ?_
      refine g_iconst (v := 1) hC dX11_text_58 (by decide) ?_
      refine g_iadd hC dX11_text_59 ?_
      refine g_putIS hC (fw_X11_91_11 _) (hT _ tg_G_0) rfl rfl dX11_text_60 ?_
      refine g_aload_n hC dX11_text_63 rfl ?_
      refine g_getiSv (v := ((mI s103 0 6) + 1)) hC fl_X11_91_11.s (hT _ tg_G_0) (mI_sI_s _ _ _ _) dX11_text_64 ?_
      refine g_iconst (v := 1) hC dX11_text_67 (by decide) ?_
      refine g_isub hC dX11_text_68 ?_
      exact g_iret hC rfl (by decide) (by decide) dX11_text_69 (fun _ => ⟨_, rfl, hw⟩)
  · replace hw := hw.2 c
    refine g_bipush (v := (-4)) hC dX11_text_9 (by decide) ?_
    exact g_iret hC rfl (by decide) (by decide) dX11_text_11 (fun _ => ⟨_, rfl, hw⟩)
set_option maxRecDepth 4000 in
theorem c_X11_text {Z : Fx} {ps ts : List (Nat × Nat × Nat)} {d : Nat} (hd : 198 ≤ d) (hP : ∀ e ∈ psG, e ∈ ps) (hT : ∀ e ∈ tsG, e ∈ ts) (hF : ∀ e ∈ ps, e ∈ psA) {σ : Mem} {Q : Int32 → Mem → Prop} (hw : w_X11_text σ Q) : mM Z ps ts yX11_text cX11_text 2 (some .int) d 4 211 [.ref (Z.2.2 + 0)] σ (qI Q) := by
  refine mM.of (by decide) (Nat.le_of_ble_eq_true rfl) rfl (fun X hZ hp ht hn hC => ?_)
  subst hZ; subst hp; subst ht
  exact t_X11_text hC hd (fun i h => by rw [hn]; exact h) hP hT hF hw
def w_X11_force (σ : Mem) (x1 : Int32) (Q : Int32 → Mem → Prop) : Prop := (x1 < 0 → (Q (-2) σ)) ∧ (¬ x1 < 0 → ((x1 < (mI σ 0 6) → (Q (mI σ 8 3) (sI σ 8 3 x1))) ∧ (¬ x1 < (mI σ 0 6) → (Q (-2) σ))))
set_option maxRecDepth 4000 in
set_option maxHeartbeats 2000000 in
theorem t_X11_force {X : Cx} {d : Nat} (hC : mOK X cX11_force RX11 "force" (some .int) d 0 0) (hd : 0 ≤ d) (hN : ∀ i, i < 3 → i < xN X) (hP : ∀ e ∈ psG, e ∈ xP X) (hT : ∀ e ∈ tsG, e ∈ xT X) (hF : ∀ e ∈ xP X, e ∈ psA) {σ : Mem} {x1 : Int32} {Q : Int32 → Mem → Prop} (hw : w_X11_force σ x1 Q) : mG X 0 [(0, .ref (xB X + 0)), (1, .int x1)] [] σ 0 0 (mQ X 0 0 (qI Q)) := by
  refine g_iload_n hC dX11_force_0 rfl ?_
  refine g_if_lt (tgt := 12) hC dX11_force_1 rfl (fun c => ?_) (fun c => ?_)
  · replace hw := hw.1 c
    refine g_bipush (v := (-2)) hC dX11_force_12 (by decide) ?_
    exact g_iret hC rfl (by decide) (by decide) dX11_force_14 (fun _ => ⟨_, rfl, hw⟩)
  · replace hw := hw.2 c
    refine g_iload_n hC dX11_force_4 rfl ?_
    refine g_aload_n hC dX11_force_5 rfl ?_
    refine g_getiSv (v := (mI σ 0 6)) hC fl_X11_91_11.s (hT _ tg_G_0) rfl dX11_force_6 ?_
    refine g_icmp_lt (tgt := 15) hC dX11_force_9 rfl (fun c => ?_) (fun c => ?_)
    · replace hw := hw.1 c
      refine g_aload_n hC dX11_force_15 rfl ?_
      refine g_getrS hC fl_X11_38_11.s (hT _ tg_G_0) (hP _ pt_G_0_8) dX11_force_16 ?_
      refine g_getiSv (v := (mI σ 8 3)) hC fl_X11_159_9.s (hT _ tg_G_8) rfl dX11_force_19 ?_
      refine g_istore_n (lv' := [(2, .int (mI σ 8 3)), (0, .ref (xB X + 0)), (1, .int x1)]) hC dX11_force_22 (hN 2 (by decide)) rfl ?_
      refine g_aload_n hC dX11_force_23 rfl ?_
      refine g_getrS hC fl_X11_38_11.s (hT _ tg_G_0) (hP _ pt_G_0_8) dX11_force_24 ?_
      refine g_iload_n hC dX11_force_27 rfl ?_
      refine g_putIS hC (fw_X11_159_9 _) (hT _ tg_G_8) rfl rfl dX11_force_28 ?_
      refine g_iload_n hC dX11_force_31 rfl ?_
      exact g_iret hC rfl (by decide) (by decide) dX11_force_32 (fun _ => ⟨_, rfl, hw⟩)
    · replace hw := hw.2 c
      refine g_bipush (v := (-2)) hC dX11_force_12 (by decide) ?_
      exact g_iret hC rfl (by decide) (by decide) dX11_force_14 (fun _ => ⟨_, rfl, hw⟩)
set_option maxRecDepth 4000 in
theorem c_X11_force {Z : Fx} {ps ts : List (Nat × Nat × Nat)} {d : Nat} (hd : 0 ≤ d) (hP : ∀ e ∈ psG, e ∈ ps) (hT : ∀ e ∈ tsG, e ∈ ts) (hF : ∀ e ∈ ps, e ∈ psA) {σ : Mem} {x1 : Int32} {Q : Int32 → Mem → Prop} (hw : w_X11_force σ x1 Q) : mM Z ps ts yX11_force cX11_force 3 (some .int) d 0 0 [.ref (Z.2.2 + 0), .int x1] σ (qI Q) := by
  refine mM.of (by decide) (Nat.le_of_ble_eq_true rfl) rfl (fun X hZ hp ht hn hC => ?_)
  subst hZ; subst hp; subst ht
  exact t_X11_force hC hd (fun i h => by rw [hn]; exact h) hP hT hF hw
def w_X11_orderOfNow_2 (Q : Mem → Prop) : Nat → Int32 → Mem → Prop
  | 0, _, _ => False
  | n + 1, x1, σ => ((mI σ 0 2) ≤ x1 → (Q σ)) ∧ (¬ (mI σ 0 2) ≤ x1 → (vp_in x1 8 ∧ (w_X11_orderOfNow_2 Q n (x1 + 1) (sI σ 20 (Int32.toNatClampNeg x1) x1))))
set_option maxRecDepth 4000 in
set_option maxHeartbeats 2000000 in
theorem t_X11_orderOfNow_2 {X : Cx} {d : Nat} (hC : mOK X cX11_orderOfNow RX11 "orderOfNow" none d 0 0) (hd : 0 ≤ d) (hN : ∀ i, i < 2 → i < xN X) (hP : ∀ e ∈ psG, e ∈ xP X) (hT : ∀ e ∈ tsG, e ∈ xT X) (hF : ∀ e ∈ xP X, e ∈ psA) {Q : Mem → Prop} : ∀ (n : Nat) (x1 : Int32) (σ : Mem), w_X11_orderOfNow_2 Q n x1 σ → mG X 2 [(0, .ref (xB X + 0)), (1, .int x1)] [] σ 0 0 (mQ X 0 0 (qV Q)) := by
  intro n
  induction n with
  | zero => intro x1 σ hw; exact False.elim hw
  | succ n ih =>
    intro x1 σ hw
    rw [w_X11_orderOfNow_2] at hw
    refine g_iload_n hC dX11_orderOfNow_2 rfl ?_
    refine g_aload_n hC dX11_orderOfNow_3 rfl ?_
    refine g_getiSv (v := (mI σ 0 2)) hC fl_X11_101_11.s (hT _ tg_G_0) rfl dX11_orderOfNow_4 ?_
    refine g_icmp_ge (tgt := 23) hC dX11_orderOfNow_7 rfl (fun c => ?_) (fun c => ?_)
    · replace hw := hw.1 c
      exact g_vret hC (by decide) (by decide) dX11_orderOfNow_23 (fun _ => ⟨rfl, hw⟩)
    · replace hw := hw.2 c
      refine g_aload_n hC dX11_orderOfNow_10 rfl ?_
      refine g_getrS hC fl_X11_55_11.s (hT _ tg_G_0) (hP _ pt_G_0_12) dX11_orderOfNow_11 ?_
      refine g_iload_n hC dX11_orderOfNow_14 rfl ?_
      refine g_iload_n hC dX11_orderOfNow_15 rfl ?_
      have hin := hw.1
      replace hw := hw.2
      refine g_iastS (k := (Int32.toNatClampNeg x1)) hC (hT _ tg_G_20) rfl hin dX11_orderOfNow_16 ?_
      refine g_iinc (v := x1 + 1) (lv' := [(1, .int (x1 + 1)), (0, .ref (xB X + 0))]) hC dX11_orderOfNow_17 rfl rfl (hN 1 (by decide)) rfl ?_
      refine g_goto (tgt := 2) hC dX11_orderOfNow_20 rfl ?_
      refine mG.pick (lv' := [(0, .ref (xB X + 0)), (1, .int (x1 + 1))]) [1, 0] rfl ?_
      exact ih _ _ hw
def w_X11_orderOfNow (σ : Mem) (Q : Mem → Prop) : Prop := ∃ m101 : Nat, w_X11_orderOfNow_2 Q m101 0 σ
set_option maxRecDepth 4000 in
set_option maxHeartbeats 2000000 in
theorem t_X11_orderOfNow {X : Cx} {d : Nat} (hC : mOK X cX11_orderOfNow RX11 "orderOfNow" none d 0 0) (hd : 0 ≤ d) (hN : ∀ i, i < 2 → i < xN X) (hP : ∀ e ∈ psG, e ∈ xP X) (hT : ∀ e ∈ tsG, e ∈ xT X) (hF : ∀ e ∈ xP X, e ∈ psA) {σ : Mem} {Q : Mem → Prop} (hw : w_X11_orderOfNow σ Q) : mG X 0 [(0, .ref (xB X + 0))] [] σ 0 0 (mQ X 0 0 (qV Q)) := by
  refine g_iconst (v := 0) hC dX11_orderOfNow_0 (by decide) ?_
  refine g_istore_n (lv' := [(1, .int 0), (0, .ref (xB X + 0))]) hC dX11_orderOfNow_1 (hN 1 (by decide)) rfl ?_
  refine mG.pick (lv' := [(0, .ref (xB X + 0)), (1, .int 0)]) [1, 0] rfl ?_
  obtain ⟨m101, hw⟩ := hw
  exact t_X11_orderOfNow_2 hC hd hN hP hT hF m101 _ _ hw
set_option maxRecDepth 4000 in
theorem c_X11_orderOfNow {Z : Fx} {ps ts : List (Nat × Nat × Nat)} {d : Nat} (hd : 0 ≤ d) (hP : ∀ e ∈ psG, e ∈ ps) (hT : ∀ e ∈ tsG, e ∈ ts) (hF : ∀ e ∈ ps, e ∈ psA) {σ : Mem} {Q : Mem → Prop} (hw : w_X11_orderOfNow σ Q) : mM Z ps ts yX11_orderOfNow cX11_orderOfNow 2 none d 0 0 [.ref (Z.2.2 + 0)] σ (qV Q) := by
  refine mM.of (by decide) (Nat.le_of_ble_eq_true rfl) rfl (fun X hZ hp ht hn hC => ?_)
  subst hZ; subst hp; subst ht
  exact t_X11_orderOfNow hC hd (fun i h => by rw [hn]; exact h) hP hT hF hw
def w_X11_mayLie_15 (σ : Mem) (x2 : Int32) (x3 : Int32) (Q : Int32 → Mem → Prop) : Prop := w_X1_has_15 σ x2 (fun v101 s103 => (¬ v101 = 0 → (w_X1_heightOf_15 s103 x2 (fun v104 s106 => (¬ v104 = 0 → (((mI s106 8 2) ≤ v104 → (Q 0 s106)) ∧ (¬ (mI s106 8 2) ≤ v104 → (w_X1_topOf_15 s106 x2 (fun v107 s109 => w_X11_worth s109 0 x3 v107 v104 x2 (fun v110 s112 => (v110 = 0 → (Q 0 s112)) ∧ (¬ v110 = 0 → (Q 1 s112)))))))) ∧ (v104 = 0 → (Q 1 s106))))) ∧ (v101 = 0 → (Q 0 s103)))
set_option maxRecDepth 4000 in
set_option maxHeartbeats 2000000 in
theorem t_X11_mayLie_15 {X : Cx} {d : Nat} (hC : mOK X cX11_mayLie RX11 "mayLie" (some .boolean) d 0 0) (hd : 3 ≤ d) (hN : ∀ i, i < 5 → i < xN X) (hP : ∀ e ∈ psG, e ∈ xP X) (hT : ∀ e ∈ tsG, e ∈ xT X) (hF : ∀ e ∈ xP X, e ∈ psA) {σ : Mem} {x2 : Int32} {x3 : Int32} {Q : Int32 → Mem → Prop} (hw : w_X11_mayLie_15 σ x2 x3 Q) : mG X 0 [(0, .ref (xB X + 0)), (1, .ref (xB X + 15)), (2, .int x2), (3, .int x3)] [] σ 0 0 (mQ X 0 0 (qI Q)) := by
  refine g_aload_n hC dX11_mayLie_0 rfl ?_
  refine g_iload_n hC dX11_mayLie_1 rfl ?_
  refine g_known (fun hS => ?_)
  refine mG.st (st1 := ([.int x2] : List Value).reverse ++ .ref (xB X + 15) :: []) rfl ?_
  refine g_callV (As := [.int x2]) (st := []) hC (hS.2 _ (hT _ tg_G_15)) (by decide) ycl_1_X1_has yw_X1_has yv_X1_has tw_254 dX11_mayLie_2 (fun _ h => h) (fun _ h => h) (fun h => h) (c_X1_has_15 (d := 0) (Nat.le_refl _) hP hT hF hw) rfl (Nat.le_of_ble_eq_true rfl) (by omega) (by decide) (by decide) (kI fun v101 s103 hw => ?_)
  refine g_if_ne (tgt := 10) hC dX11_mayLie_5 rfl (fun c => ?_) (fun c => ?_)
  · replace hw := hw.1 c
    refine g_aload_n hC dX11_mayLie_10 rfl ?_
    refine g_iload_n hC dX11_mayLie_11 rfl ?_
    refine g_known (fun hS => ?_)
    refine mG.st (st1 := ([.int x2] : List Value).reverse ++ .ref (xB X + 15) :: []) rfl ?_
    refine g_callV (As := [.int x2]) (st := []) hC (hS.2 _ (hT _ tg_G_15)) (by decide) ycl_1_X1_heightOf yw_X1_heightOf yv_X1_heightOf tw_255 dX11_mayLie_12 (fun _ h => h) (fun _ h => h) (fun h => h) (c_X1_heightOf_15 (d := 0) (Nat.le_refl _) hP hT hF hw) rfl (Nat.le_of_ble_eq_true rfl) (by omega) (by decide) (by decide) (kI fun v104 s106 hw => ?_)
    refine g_istore (lv' := [(4, .int v104), (0, .ref (xB X + 0)), (1, .ref (xB X + 15)), (2, .int x2), (3, .int x3)]) hC dX11_mayLie_15 (hN 4 (by decide)) rfl ?_
    refine g_iload hC dX11_mayLie_17 rfl ?_
    refine g_if_ne (tgt := 24) hC dX11_mayLie_19 rfl (fun c => ?_) (fun c => ?_)
    · replace hw := hw.1 c
      refine g_iload hC dX11_mayLie_24 rfl ?_
      refine g_aload_n hC dX11_mayLie_26 rfl ?_
      refine g_getrS hC fl_X11_38_11.s (hT _ tg_G_0) (hP _ pt_G_0_8) dX11_mayLie_27 ?_
      refine g_getiSv (v := (mI s106 8 2)) hC fl_X11_118_9.s (hT _ tg_G_8) rfl dX11_mayLie_30 ?_
      refine g_icmp_ge (tgt := 57) hC dX11_mayLie_33 rfl (fun c => ?_) (fun c => ?_)
      · replace hw := hw.1 c
        refine g_iconst (v := 0) hC dX11_mayLie_57 (by decide) ?_
        exact g_iret hC bz0 (by decide) (by decide) dX11_mayLie_58 (fun _ => ⟨_, rfl, hw⟩)
      · replace hw := hw.2 c
        refine g_aload_n hC dX11_mayLie_36 rfl ?_
        refine g_iconst (v := 0) hC dX11_mayLie_37 (by decide) ?_
        refine g_iload_n hC dX11_mayLie_38 rfl ?_
        refine g_aload_n hC dX11_mayLie_39 rfl ?_
        refine g_iload_n hC dX11_mayLie_40 rfl ?_
        refine g_known (fun hS => ?_)
        refine mG.st (st1 := ([.int x2] : List Value).reverse ++ .ref (xB X + 15) :: [.int x3, .int 0, .ref (xB X + 0)]) rfl ?_
        refine g_callV (As := [.int x2]) (st := [.int x3, .int 0, .ref (xB X + 0)]) hC (hS.2 _ (hT _ tg_G_15)) (by decide) ycl_1_X1_topOf yw_X1_topOf yv_X1_topOf tw_257 dX11_mayLie_41 (fun _ h => h) (fun _ h => h) (fun h => h) (c_X1_topOf_15 (d := 1) (Nat.le_refl _) hP hT hF hw) rfl (Nat.le_of_ble_eq_true rfl) (by omega) (by decide) (by decide) (kI fun v107 s109 hw => ?_)
        refine g_iload hC dX11_mayLie_44 rfl ?_
        refine g_iload_n hC dX11_mayLie_46 rfl ?_
        refine g_known (fun hS => ?_)
        refine mG.st (st1 := ([.int 0, .int x3, .int v107, .int v104, .int x2] : List Value).reverse ++ .ref (xB X + 0) :: []) rfl ?_
        refine g_callV (As := [.int 0, .int x3, .int v107, .int v104, .int x2]) (st := []) hC (hS.2 _ (hT _ tg_G_0)) (by decide) ycl_11_X11_worth yw_X11_worth yv_X11_worth tw_92 dX11_mayLie_47 (fun _ h => h) (fun _ h => h) (fun h => h) (c_X11_worth (d := 2) (Nat.le_refl _) hP hT hF hw) rfl (Nat.le_of_ble_eq_true rfl) (by omega) (by decide) (by decide) (kI fun v110 s112 hw => ?_)
        refine g_if_eq (tgt := 57) hC dX11_mayLie_50 rfl (fun c => ?_) (fun c => ?_)
        · replace hw := hw.1 c
          refine g_iconst (v := 0) hC dX11_mayLie_57 (by decide) ?_
          exact g_iret hC bz0 (by decide) (by decide) dX11_mayLie_58 (fun _ => ⟨_, rfl, hw⟩)
        · replace hw := hw.2 c
          refine g_iconst (v := 1) hC dX11_mayLie_53 (by decide) ?_
          refine g_goto (tgt := 58) hC dX11_mayLie_54 rfl ?_
          exact g_iret hC bz1 (by decide) (by decide) dX11_mayLie_58 (fun _ => ⟨_, rfl, hw⟩)
    · replace hw := hw.2 c
      refine g_iconst (v := 1) hC dX11_mayLie_22 (by decide) ?_
      exact g_iret hC bz1 (by decide) (by decide) dX11_mayLie_23 (fun _ => ⟨_, rfl, hw⟩)
  · replace hw := hw.2 c
    refine g_iconst (v := 0) hC dX11_mayLie_8 (by decide) ?_
    exact g_iret hC bz0 (by decide) (by decide) dX11_mayLie_9 (fun _ => ⟨_, rfl, hw⟩)
set_option maxRecDepth 4000 in
theorem c_X11_mayLie_15 {Z : Fx} {ps ts : List (Nat × Nat × Nat)} {d : Nat} (hd : 3 ≤ d) (hP : ∀ e ∈ psG, e ∈ ps) (hT : ∀ e ∈ tsG, e ∈ ts) (hF : ∀ e ∈ ps, e ∈ psA) {σ : Mem} {x2 : Int32} {x3 : Int32} {Q : Int32 → Mem → Prop} (hw : w_X11_mayLie_15 σ x2 x3 Q) : mM Z ps ts yX11_mayLie cX11_mayLie 5 (some .boolean) d 0 0 [.ref (Z.2.2 + 0), .ref (Z.2.2 + 15), .int x2, .int x3] σ (qI Q) := by
  refine mM.of (by decide) (Nat.le_of_ble_eq_true rfl) rfl (fun X hZ hp ht hn hC => ?_)
  subst hZ; subst hp; subst ht
  exact t_X11_mayLie_15 hC hd (fun i h => by rw [hn]; exact h) hP hT hF hw
def w_X11_rankOf_d_15 (σ : Mem) (a1 : Nat) (x3 : Int32) (x4 : Int32) (Q : Int32 → Mem → Prop) : Prop := w_X1_topOf_15 σ x3 (fun v101 s103 => w_X11_isPlate s103 v101 (fun v104 s106 => (v104 = 0 → (Q 1000 s106)) ∧ (¬ v104 = 0 → (w_X11_isPlate s106 x4 (fun v107 s109 => (¬ v107 = 0 → (vp_in v101 8 ∧ (vp_in x4 8 ∧ (w_X1_heightOf_15 s109 x3 (fun v110 s112 => wD_rank s112 a1 x3 (mI s109 1 (Int32.toNatClampNeg v101)) (mI s109 1 (Int32.toNatClampNeg x4)) v110 (fun v113 s115 => Q v113 s115)))))) ∧ (v107 = 0 → (Q 1000 s109)))))))
set_option maxRecDepth 4000 in
set_option maxHeartbeats 2000000 in
theorem t_X11_rankOf_d_15 {X : Cx} {d : Nat} (hC : mOK X cX11_rankOf RX11 "rankOf" (some .int) d 0 0) (hd : 6 ≤ d) (hN : ∀ i, i < 6 → i < xN X) (hP : ∀ e ∈ psG, e ∈ xP X) (hT : ∀ e ∈ tsG, e ∈ xT X) (hF : ∀ e ∈ xP X, e ∈ psA) {σ : Mem} {a1 : Nat} {x3 : Int32} {x4 : Int32} {Q : Int32 → Mem → Prop} (hw : w_X11_rankOf_d_15 σ a1 x3 x4 Q) : mG X 0 [(0, .ref (xB X + 0)), (1, .ref (xB X + a1)), (2, .ref (xB X + 15)), (3, .int x3), (4, .int x4)] [] σ 0 0 (mQ X 0 0 (qI Q)) := by
  refine g_aload_n hC dX11_rankOf_0 rfl ?_
  refine g_iload_n hC dX11_rankOf_1 rfl ?_
  refine g_known (fun hS => ?_)
  refine mG.st (st1 := ([.int x3] : List Value).reverse ++ .ref (xB X + 15) :: []) rfl ?_
  refine g_callV (As := [.int x3]) (st := []) hC (hS.2 _ (hT _ tg_G_15)) (by decide) ycl_1_X1_topOf yw_X1_topOf yv_X1_topOf tw_257 dX11_rankOf_2 (fun _ h => h) (fun _ h => h) (fun h => h) (c_X1_topOf_15 (d := 1) (Nat.le_refl _) hP hT hF hw) rfl (Nat.le_of_ble_eq_true rfl) (by omega) (by decide) (by decide) (kI fun v101 s103 hw => ?_)
  refine g_istore (lv' := [(5, .int v101), (0, .ref (xB X + 0)), (1, .ref (xB X + a1)), (2, .ref (xB X + 15)), (3, .int x3), (4, .int x4)]) hC dX11_rankOf_5 (hN 5 (by decide)) rfl ?_
  refine g_aload_n hC dX11_rankOf_7 rfl ?_
  refine g_iload hC dX11_rankOf_8 rfl ?_
  refine g_known (fun hS => ?_)
  refine mG.st (st1 := ([.int v101] : List Value).reverse ++ .ref (xB X + 0) :: []) rfl ?_
  refine g_callV (As := [.int v101]) (st := []) hC (hS.2 _ (hT _ tg_G_0)) (by decide) ycl_11_X11_isPlate yw_X11_isPlate yv_X11_isPlate tw_82 dX11_rankOf_10 (fun _ h => h) (fun _ h => h) (fun h => h) (c_X11_isPlate (d := 0) (Nat.le_refl _) hP hT hF hw) rfl (Nat.le_of_ble_eq_true rfl) (by omega) (by decide) (by decide) (kI fun v104 s106 hw => ?_)
  refine g_if_eq (tgt := 25) hC dX11_rankOf_13 rfl (fun c => ?_) (fun c => ?_)
  · replace hw := hw.1 c
    refine g_sipush (v := 1000) hC dX11_rankOf_25 (by decide) ?_
    exact g_iret hC rfl (by decide) (by decide) dX11_rankOf_28 (fun _ => ⟨_, rfl, hw⟩)
  · replace hw := hw.2 c
    refine g_aload_n hC dX11_rankOf_16 rfl ?_
    refine g_iload hC dX11_rankOf_17 rfl ?_
    refine g_known (fun hS => ?_)
    refine mG.st (st1 := ([.int x4] : List Value).reverse ++ .ref (xB X + 0) :: []) rfl ?_
    refine g_callV (As := [.int x4]) (st := []) hC (hS.2 _ (hT _ tg_G_0)) (by decide) ycl_11_X11_isPlate yw_X11_isPlate yv_X11_isPlate tw_82 dX11_rankOf_19 (fun _ h => h) (fun _ h => h) (fun h => h) (c_X11_isPlate (d := 0) (Nat.le_refl _) hP hT hF hw) rfl (Nat.le_of_ble_eq_true rfl) (by omega) (by decide) (by decide) (kI fun v107 s109 hw => ?_)
    refine g_if_ne (tgt := 29) hC dX11_rankOf_22 rfl (fun c => ?_) (fun c => ?_)
    · replace hw := hw.1 c
      refine g_aload_n hC dX11_rankOf_29 rfl ?_
      refine g_iload_n hC dX11_rankOf_30 rfl ?_
      refine g_aload_n hC dX11_rankOf_31 rfl ?_
      refine g_getrS hC fl_X11_9_11.s (hT _ tg_G_0) (hP _ pt_G_0_0) dX11_rankOf_32 ?_
      refine g_iload hC dX11_rankOf_35 rfl ?_
      refine g_ialdSv (v := (mI s109 1 (Int32.toNatClampNeg v101))) hC (hT _ tg_G_1) rfl hw.1 rfl dX11_rankOf_37 ?_
      replace hw := hw.2
      refine g_aload_n hC dX11_rankOf_38 rfl ?_
      refine g_getrS hC fl_X11_9_11.s (hT _ tg_G_0) (hP _ pt_G_0_0) dX11_rankOf_39 ?_
      refine g_iload hC dX11_rankOf_42 rfl ?_
      refine g_ialdSv (v := (mI s109 1 (Int32.toNatClampNeg x4))) hC (hT _ tg_G_1) rfl hw.1 rfl dX11_rankOf_44 ?_
      replace hw := hw.2
      refine g_aload_n hC dX11_rankOf_45 rfl ?_
      refine g_iload_n hC dX11_rankOf_46 rfl ?_
      refine g_known (fun hS => ?_)
      refine mG.st (st1 := ([.int x3] : List Value).reverse ++ .ref (xB X + 15) :: [.int (mI s109 1 (Int32.toNatClampNeg x4)), .int (mI s109 1 (Int32.toNatClampNeg v101)), .int x3, .ref (xB X + a1)]) rfl ?_
      refine g_callV (As := [.int x3]) (st := [.int (mI s109 1 (Int32.toNatClampNeg x4)), .int (mI s109 1 (Int32.toNatClampNeg v101)), .int x3, .ref (xB X + a1)]) hC (hS.2 _ (hT _ tg_G_15)) (by decide) ycl_1_X1_heightOf yw_X1_heightOf yv_X1_heightOf tw_255 dX11_rankOf_47 (fun _ h => h) (fun _ h => h) (fun h => h) (c_X1_heightOf_15 (d := 0) (Nat.le_refl _) hP hT hF hw) rfl (Nat.le_of_ble_eq_true rfl) (by omega) (by decide) (by decide) (kI fun v110 s112 hw => ?_)
      refine mG.st (st1 := ([.int x3, .int (mI s109 1 (Int32.toNatClampNeg v101)), .int (mI s109 1 (Int32.toNatClampNeg x4)), .int v110] : List Value).reverse ++ .ref (xB X + a1) :: []) rfl ?_
      refine g_rankD hC hw tw_270 (Nat.le_of_ble_eq_true rfl) (by omega) (by omega) (by omega) dX11_rankOf_50 (kI fun v113 s115 hw => ?_)
      exact g_iret hC rfl (by decide) (by decide) dX11_rankOf_53 (fun _ => ⟨_, rfl, hw⟩)
    · replace hw := hw.2 c
      refine g_sipush (v := 1000) hC dX11_rankOf_25 (by decide) ?_
      exact g_iret hC rfl (by decide) (by decide) dX11_rankOf_28 (fun _ => ⟨_, rfl, hw⟩)
set_option maxRecDepth 4000 in
theorem c_X11_rankOf_d_15 {Z : Fx} {ps ts : List (Nat × Nat × Nat)} {d : Nat} (hd : 6 ≤ d) (hP : ∀ e ∈ psG, e ∈ ps) (hT : ∀ e ∈ tsG, e ∈ ts) (hF : ∀ e ∈ ps, e ∈ psA) {σ : Mem} {a1 : Nat} {x3 : Int32} {x4 : Int32} {Q : Int32 → Mem → Prop} (hw : w_X11_rankOf_d_15 σ a1 x3 x4 Q) : mM Z ps ts yX11_rankOf cX11_rankOf 6 (some .int) d 0 0 [.ref (Z.2.2 + 0), .ref (Z.2.2 + a1), .ref (Z.2.2 + 15), .int x3, .int x4] σ (qI Q) := by
  refine mM.of (by decide) (Nat.le_of_ble_eq_true rfl) rfl (fun X hZ hp ht hn hC => ?_)
  subst hZ; subst hp; subst ht
  exact t_X11_rankOf_d_15 hC hd (fun i h => by rw [hn]; exact h) hP hT hF hw
def w_X11_chosenBy_d_15_64 (Q : Int32 → Mem → Prop) (K9 : Nat → Int32 → Int32 → Int32 → Int32 → Mem → Prop) (a1 : Nat) (x3 : Int32) (x4 : Int32) (x5 : Int32) (x6 : Int32) (σ : Mem) : Prop := K9 a1 x3 x4 x5 (x6 + 1) σ
set_option maxRecDepth 4000 in
set_option maxHeartbeats 2000000 in
theorem t_X11_chosenBy_d_15_64 {X : Cx} {d : Nat} (hC : mOK X cX11_chosenBy RX11 "chosenBy" (some .int) d 0 0) (hd : 7 ≤ d) (hN : ∀ i, i < 8 → i < xN X) (hP : ∀ e ∈ psG, e ∈ xP X) (hT : ∀ e ∈ tsG, e ∈ xT X) (hF : ∀ e ∈ xP X, e ∈ psA) {Q : Int32 → Mem → Prop} {K9 : Nat → Int32 → Int32 → Int32 → Int32 → Mem → Prop} (hK9 : ∀ (a1 : Nat) (x3 : Int32) (x4 : Int32) (x5 : Int32) (x6 : Int32) (s : Mem), K9 a1 x3 x4 x5 x6 s → mG X 9 [(0, .ref (xB X + 0)), (1, .ref (xB X + a1)), (2, .ref (xB X + 15)), (3, .int x3), (4, .int x4), (5, .int x5), (6, .int x6)] [] s 0 0 (mQ X 0 0 (qI Q))) {a1 : Nat} {x3 : Int32} {x4 : Int32} {x5 : Int32} {x6 : Int32} {σ : Mem} (hw : w_X11_chosenBy_d_15_64 Q K9 a1 x3 x4 x5 x6 σ) : mG X 64 [(0, .ref (xB X + 0)), (1, .ref (xB X + a1)), (2, .ref (xB X + 15)), (3, .int x3), (4, .int x4), (5, .int x5), (6, .int x6)] [] σ 0 0 (mQ X 0 0 (qI Q)) := by
  refine g_iinc (v := x6 + 1) (lv' := [(6, .int (x6 + 1)), (0, .ref (xB X + 0)), (1, .ref (xB X + a1)), (2, .ref (xB X + 15)), (3, .int x3), (4, .int x4), (5, .int x5)]) hC dX11_chosenBy_64 rfl rfl (hN 6 (by decide)) rfl ?_
  refine g_goto (tgt := 9) hC dX11_chosenBy_67 rfl ?_
  refine mG.pick (lv' := [(0, .ref (xB X + 0)), (1, .ref (xB X + a1)), (2, .ref (xB X + 15)), (3, .int x3), (4, .int x4), (5, .int x5), (6, .int (x6 + 1))]) [1, 2, 3, 4, 5, 6, 0] rfl ?_
  exact hK9 _ _ _ _ _ _ hw
def w_X11_chosenBy_d_15_56 (Q : Int32 → Mem → Prop) (K9 : Nat → Int32 → Int32 → Int32 → Int32 → Mem → Prop) (a1 : Nat) (x3 : Int32) (x6 : Int32) (x7 : Int32) (σ : Mem) : Prop := w_X11_chosenBy_d_15_64 Q K9 a1 x3 x6 x7 x6 σ
set_option maxRecDepth 4000 in
set_option maxHeartbeats 2000000 in
theorem t_X11_chosenBy_d_15_56 {X : Cx} {d : Nat} (hC : mOK X cX11_chosenBy RX11 "chosenBy" (some .int) d 0 0) (hd : 7 ≤ d) (hN : ∀ i, i < 8 → i < xN X) (hP : ∀ e ∈ psG, e ∈ xP X) (hT : ∀ e ∈ tsG, e ∈ xT X) (hF : ∀ e ∈ xP X, e ∈ psA) {Q : Int32 → Mem → Prop} {K9 : Nat → Int32 → Int32 → Int32 → Int32 → Mem → Prop} (hK9 : ∀ (a1 : Nat) (x3 : Int32) (x4 : Int32) (x5 : Int32) (x6 : Int32) (s : Mem), K9 a1 x3 x4 x5 x6 s → mG X 9 [(0, .ref (xB X + 0)), (1, .ref (xB X + a1)), (2, .ref (xB X + 15)), (3, .int x3), (4, .int x4), (5, .int x5), (6, .int x6)] [] s 0 0 (mQ X 0 0 (qI Q))) {a1 : Nat} {x3 : Int32} {x6 : Int32} {x7 : Int32} {σ : Mem} (hw : w_X11_chosenBy_d_15_56 Q K9 a1 x3 x6 x7 σ) : mG X 56 [(0, .ref (xB X + 0)), (1, .ref (xB X + a1)), (2, .ref (xB X + 15)), (3, .int x3), (6, .int x6), (7, .int x7)] [] σ 0 0 (mQ X 0 0 (qI Q)) := by
  refine g_iload hC dX11_chosenBy_56 rfl ?_
  refine g_istore (lv' := [(4, .int x6), (0, .ref (xB X + 0)), (1, .ref (xB X + a1)), (2, .ref (xB X + 15)), (3, .int x3), (6, .int x6), (7, .int x7)]) hC dX11_chosenBy_58 (hN 4 (by decide)) rfl ?_
  refine g_iload hC dX11_chosenBy_60 rfl ?_
  refine g_istore (lv' := [(5, .int x7), (4, .int x6), (0, .ref (xB X + 0)), (1, .ref (xB X + a1)), (2, .ref (xB X + 15)), (3, .int x3), (6, .int x6), (7, .int x7)]) hC dX11_chosenBy_62 (hN 5 (by decide)) rfl ?_
  refine mG.pick (lv' := [(0, .ref (xB X + 0)), (1, .ref (xB X + a1)), (2, .ref (xB X + 15)), (3, .int x3), (4, .int x6), (5, .int x7), (6, .int x6)]) [2, 3, 4, 5, 1, 0, 6] rfl ?_
  exact t_X11_chosenBy_d_15_64 hC hd hN hP hT hF hK9 hw
def w_X11_chosenBy_d_15_9 (Q : Int32 → Mem → Prop) : Nat → Nat → Int32 → Int32 → Int32 → Int32 → Mem → Prop
  | 0, _, _, _, _, _, _ => False
  | n + 1, a1, x3, x4, x5, x6, σ => ((mI σ 15 2) ≤ x6 → ((x4 = (-1) → (Q (mI σ 15 2) σ)) ∧ (¬ x4 = (-1) → (wD_likes σ a1 x5 (mI σ 15 2) (fun v101 s103 => (v101 = 0 → (Q x4 s103)) ∧ (¬ v101 = 0 → (Q (mI s103 15 2) s103))))))) ∧ (¬ (mI σ 15 2) ≤ x6 → (w_X11_mayLie_15 σ x6 x3 (fun v104 s106 => (¬ v104 = 0 → (w_X11_rankOf_d_15 s106 a1 x6 x3 (fun v107 s109 => (x4 = (-1) → (w_X11_chosenBy_d_15_56 Q (fun z0 z1 z2 z3 z4 z5 => w_X11_chosenBy_d_15_9 Q n z0 z1 z2 z3 z4 z5) a1 x3 x6 v107 s109)) ∧ (¬ x4 = (-1) → ((x5 ≤ v107 → (w_X11_chosenBy_d_15_64 Q (fun z0 z1 z2 z3 z4 z5 => w_X11_chosenBy_d_15_9 Q n z0 z1 z2 z3 z4 z5) a1 x3 x4 x5 x6 s109)) ∧ (¬ x5 ≤ v107 → (w_X11_chosenBy_d_15_56 Q (fun z0 z1 z2 z3 z4 z5 => w_X11_chosenBy_d_15_9 Q n z0 z1 z2 z3 z4 z5) a1 x3 x6 v107 s109))))))) ∧ (v104 = 0 → (w_X11_chosenBy_d_15_64 Q (fun z0 z1 z2 z3 z4 z5 => w_X11_chosenBy_d_15_9 Q n z0 z1 z2 z3 z4 z5) a1 x3 x4 x5 x6 s106)))))
set_option maxRecDepth 4000 in
set_option maxHeartbeats 2000000 in
theorem t_X11_chosenBy_d_15_9 {X : Cx} {d : Nat} (hC : mOK X cX11_chosenBy RX11 "chosenBy" (some .int) d 0 0) (hd : 7 ≤ d) (hN : ∀ i, i < 8 → i < xN X) (hP : ∀ e ∈ psG, e ∈ xP X) (hT : ∀ e ∈ tsG, e ∈ xT X) (hF : ∀ e ∈ xP X, e ∈ psA) {Q : Int32 → Mem → Prop} : ∀ (n : Nat) (a1 : Nat) (x3 : Int32) (x4 : Int32) (x5 : Int32) (x6 : Int32) (σ : Mem), w_X11_chosenBy_d_15_9 Q n a1 x3 x4 x5 x6 σ → mG X 9 [(0, .ref (xB X + 0)), (1, .ref (xB X + a1)), (2, .ref (xB X + 15)), (3, .int x3), (4, .int x4), (5, .int x5), (6, .int x6)] [] σ 0 0 (mQ X 0 0 (qI Q)) := by
  intro n
  induction n with
  | zero => intro a1 x3 x4 x5 x6 σ hw; exact False.elim hw
  | succ n ih =>
    intro a1 x3 x4 x5 x6 σ hw
    rw [w_X11_chosenBy_d_15_9] at hw
    refine g_iload hC dX11_chosenBy_9 rfl ?_
    refine g_aload_n hC dX11_chosenBy_11 rfl ?_
    refine g_getiSv (v := (mI σ 15 2)) hC fl_X11_185_1.s (hT _ tg_G_15) rfl dX11_chosenBy_12 ?_
    refine g_icmp_ge (tgt := 70) hC dX11_chosenBy_15 rfl (fun c => ?_) (fun c => ?_)
    · replace hw := hw.1 c
      refine g_iload hC dX11_chosenBy_70 rfl ?_
      refine g_iconst (v := (-1)) hC dX11_chosenBy_72 (by decide) ?_
      refine g_icmp_eq (tgt := 89) hC dX11_chosenBy_73 rfl (fun c => ?_) (fun c => ?_)
      · replace hw := hw.1 c
        refine g_aload_n hC dX11_chosenBy_89 rfl ?_
        refine g_getiSv (v := (mI σ 15 2)) hC fl_X11_185_1.s (hT _ tg_G_15) rfl dX11_chosenBy_90 ?_
        exact g_iret hC rfl (by decide) (by decide) dX11_chosenBy_93 (fun _ => ⟨_, rfl, hw⟩)
      · replace hw := hw.2 c
        refine g_aload_n hC dX11_chosenBy_76 rfl ?_
        refine g_iload hC dX11_chosenBy_77 rfl ?_
        refine g_aload_n hC dX11_chosenBy_79 rfl ?_
        refine g_getiSv (v := (mI σ 15 2)) hC fl_X11_185_1.s (hT _ tg_G_15) rfl dX11_chosenBy_80 ?_
        refine mG.st (st1 := ([.int x5, .int (mI σ 15 2)] : List Value).reverse ++ .ref (xB X + a1) :: []) rfl ?_
        refine g_likesD hC hw tw_252 (Nat.le_of_ble_eq_true rfl) (by omega) (by omega) (by omega) dX11_chosenBy_83 (kI fun v101 s103 hw => ?_)
        refine g_if_eq (tgt := 94) hC dX11_chosenBy_86 rfl (fun c => ?_) (fun c => ?_)
        · replace hw := hw.1 c
          refine g_iload hC dX11_chosenBy_94 rfl ?_
          exact g_iret hC rfl (by decide) (by decide) dX11_chosenBy_96 (fun _ => ⟨_, rfl, hw⟩)
        · replace hw := hw.2 c
          refine g_aload_n hC dX11_chosenBy_89 rfl ?_
          refine g_getiSv (v := (mI s103 15 2)) hC fl_X11_185_1.s (hT _ tg_G_15) rfl dX11_chosenBy_90 ?_
          exact g_iret hC rfl (by decide) (by decide) dX11_chosenBy_93 (fun _ => ⟨_, rfl, hw⟩)
    · replace hw := hw.2 c
      refine g_aload_n hC dX11_chosenBy_18 rfl ?_
      refine g_aload_n hC dX11_chosenBy_19 rfl ?_
      refine g_iload hC dX11_chosenBy_20 rfl ?_
      refine g_iload_n hC dX11_chosenBy_22 rfl ?_
      refine g_known (fun hS => ?_)
      refine mG.st (st1 := ([.ref (xB X + 15), .int x6, .int x3] : List Value).reverse ++ .ref (xB X + 0) :: []) rfl ?_
      refine g_callV (As := [.ref (xB X + 15), .int x6, .int x3]) (st := []) hC (hS.2 _ (hT _ tg_G_0)) (by decide) ycl_11_X11_mayLie yw_X11_mayLie yv_X11_mayLie tw_253 dX11_chosenBy_23 (fun _ h => h) (fun _ h => h) (fun h => h) (c_X11_mayLie_15 (d := 3) (Nat.le_refl _) hP hT hF hw) rfl (Nat.le_of_ble_eq_true rfl) (by omega) (by decide) (by decide) (kI fun v104 s106 hw => ?_)
      refine g_if_ne (tgt := 32) hC dX11_chosenBy_26 rfl (fun c => ?_) (fun c => ?_)
      · replace hw := hw.1 c
        refine g_aload_n hC dX11_chosenBy_32 rfl ?_
        refine g_aload_n hC dX11_chosenBy_33 rfl ?_
        refine g_aload_n hC dX11_chosenBy_34 rfl ?_
        refine g_iload hC dX11_chosenBy_35 rfl ?_
        refine g_iload_n hC dX11_chosenBy_37 rfl ?_
        refine g_known (fun hS => ?_)
        refine mG.st (st1 := ([.ref (xB X + a1), .ref (xB X + 15), .int x6, .int x3] : List Value).reverse ++ .ref (xB X + 0) :: []) rfl ?_
        refine g_callV (As := [.ref (xB X + a1), .ref (xB X + 15), .int x6, .int x3]) (st := []) hC (hS.2 _ (hT _ tg_G_0)) (by decide) ycl_11_X11_rankOf yw_X11_rankOf yv_X11_rankOf tw_269 dX11_chosenBy_38 (fun _ h => h) (fun _ h => h) (fun h => h) (c_X11_rankOf_d_15 (d := 6) (Nat.le_refl _) hP hT hF hw) rfl (Nat.le_of_ble_eq_true rfl) (by omega) (by decide) (by decide) (kI fun v107 s109 hw => ?_)
        refine g_istore (lv' := [(7, .int v107), (0, .ref (xB X + 0)), (1, .ref (xB X + a1)), (2, .ref (xB X + 15)), (3, .int x3), (4, .int x4), (5, .int x5), (6, .int x6)]) hC dX11_chosenBy_41 (hN 7 (by decide)) rfl ?_
        refine g_iload hC dX11_chosenBy_43 rfl ?_
        refine g_iconst (v := (-1)) hC dX11_chosenBy_45 (by decide) ?_
        refine g_icmp_eq (tgt := 56) hC dX11_chosenBy_46 rfl (fun c => ?_) (fun c => ?_)
        · replace hw := hw.1 c
          refine mG.pick (lv' := [(0, .ref (xB X + 0)), (1, .ref (xB X + a1)), (2, .ref (xB X + 15)), (3, .int x3), (6, .int x6), (7, .int v107)]) [1, 2, 3, 4, 7, 0] rfl ?_
          exact t_X11_chosenBy_d_15_56 hC hd hN hP hT hF ih hw
        · replace hw := hw.2 c
          refine g_iload hC dX11_chosenBy_49 rfl ?_
          refine g_iload hC dX11_chosenBy_51 rfl ?_
          refine g_icmp_ge (tgt := 64) hC dX11_chosenBy_53 rfl (fun c => ?_) (fun c => ?_)
          · replace hw := hw.1 c
            refine mG.pick (lv' := [(0, .ref (xB X + 0)), (1, .ref (xB X + a1)), (2, .ref (xB X + 15)), (3, .int x3), (4, .int x4), (5, .int x5), (6, .int x6)]) [1, 2, 3, 4, 5, 6, 7] rfl ?_
            exact t_X11_chosenBy_d_15_64 hC hd hN hP hT hF ih hw
          · replace hw := hw.2 c
            refine mG.pick (lv' := [(0, .ref (xB X + 0)), (1, .ref (xB X + a1)), (2, .ref (xB X + 15)), (3, .int x3), (6, .int x6), (7, .int v107)]) [1, 2, 3, 4, 7, 0] rfl ?_
            exact t_X11_chosenBy_d_15_56 hC hd hN hP hT hF ih hw
      · replace hw := hw.2 c
        refine g_goto (tgt := 64) hC dX11_chosenBy_29 rfl ?_
        refine mG.pick (lv' := [(0, .ref (xB X + 0)), (1, .ref (xB X + a1)), (2, .ref (xB X + 15)), (3, .int x3), (4, .int x4), (5, .int x5), (6, .int x6)]) [0, 1, 2, 3, 4, 5, 6] rfl ?_
        exact t_X11_chosenBy_d_15_64 hC hd hN hP hT hF ih hw
def w_X11_chosenBy_d_15 (σ : Mem) (a1 : Nat) (x3 : Int32) (Q : Int32 → Mem → Prop) : Prop := ∃ m101 : Nat, w_X11_chosenBy_d_15_9 Q m101 a1 x3 (-1) 0 0 σ
set_option maxRecDepth 4000 in
set_option maxHeartbeats 2000000 in
theorem t_X11_chosenBy_d_15 {X : Cx} {d : Nat} (hC : mOK X cX11_chosenBy RX11 "chosenBy" (some .int) d 0 0) (hd : 7 ≤ d) (hN : ∀ i, i < 8 → i < xN X) (hP : ∀ e ∈ psG, e ∈ xP X) (hT : ∀ e ∈ tsG, e ∈ xT X) (hF : ∀ e ∈ xP X, e ∈ psA) {σ : Mem} {a1 : Nat} {x3 : Int32} {Q : Int32 → Mem → Prop} (hw : w_X11_chosenBy_d_15 σ a1 x3 Q) : mG X 0 [(0, .ref (xB X + 0)), (1, .ref (xB X + a1)), (2, .ref (xB X + 15)), (3, .int x3)] [] σ 0 0 (mQ X 0 0 (qI Q)) := by
  refine g_iconst (v := (-1)) hC dX11_chosenBy_0 (by decide) ?_
  refine g_istore (lv' := [(4, .int (-1)), (0, .ref (xB X + 0)), (1, .ref (xB X + a1)), (2, .ref (xB X + 15)), (3, .int x3)]) hC dX11_chosenBy_1 (hN 4 (by decide)) rfl ?_
  refine g_iconst (v := 0) hC dX11_chosenBy_3 (by decide) ?_
  refine g_istore (lv' := [(5, .int 0), (4, .int (-1)), (0, .ref (xB X + 0)), (1, .ref (xB X + a1)), (2, .ref (xB X + 15)), (3, .int x3)]) hC dX11_chosenBy_4 (hN 5 (by decide)) rfl ?_
  refine g_iconst (v := 0) hC dX11_chosenBy_6 (by decide) ?_
  refine g_istore (lv' := [(6, .int 0), (5, .int 0), (4, .int (-1)), (0, .ref (xB X + 0)), (1, .ref (xB X + a1)), (2, .ref (xB X + 15)), (3, .int x3)]) hC dX11_chosenBy_7 (hN 6 (by decide)) rfl ?_
  refine mG.pick (lv' := [(0, .ref (xB X + 0)), (1, .ref (xB X + a1)), (2, .ref (xB X + 15)), (3, .int x3), (4, .int (-1)), (5, .int 0), (6, .int 0)]) [3, 4, 5, 6, 2, 1, 0] rfl ?_
  obtain ⟨m101, hw⟩ := hw
  exact t_X11_chosenBy_d_15_9 hC hd hN hP hT hF m101 _ _ _ _ _ _ hw
set_option maxRecDepth 4000 in
theorem c_X11_chosenBy_d_15 {Z : Fx} {ps ts : List (Nat × Nat × Nat)} {d : Nat} (hd : 7 ≤ d) (hP : ∀ e ∈ psG, e ∈ ps) (hT : ∀ e ∈ tsG, e ∈ ts) (hF : ∀ e ∈ ps, e ∈ psA) {σ : Mem} {a1 : Nat} {x3 : Int32} {Q : Int32 → Mem → Prop} (hw : w_X11_chosenBy_d_15 σ a1 x3 Q) : mM Z ps ts yX11_chosenBy cX11_chosenBy 8 (some .int) d 0 0 [.ref (Z.2.2 + 0), .ref (Z.2.2 + a1), .ref (Z.2.2 + 15), .int x3] σ (qI Q) := by
  refine mM.of (by decide) (Nat.le_of_ble_eq_true rfl) rfl (fun X hZ hp ht hn hC => ?_)
  subst hZ; subst hp; subst ht
  exact t_X11_chosenBy_d_15 hC hd (fun i h => by rw [hn]; exact h) hP hT hF hw
def w_X11_priceOf (σ : Mem) (x1 : Int32) (x2 : Int32) (x3 : Int32) (Q : Int32 → Mem → Prop) : Prop := (¬ x1 = 1 → ((¬ x2 = (mI σ 15 2) → (Q 0 σ)) ∧ (x2 = (mI σ 15 2) → (Q 1 σ)))) ∧ (x1 = 1 → (w_X1_topOf_15 σ x2 (fun v101 s103 => w_X1_heightOf_15 s103 x2 (fun v104 s106 => w_X11_worth s106 1 x3 v101 v104 x2 (fun v107 s109 => w_X11_bounded s109 v107 (fun v110 s112 => Q v110 s112))))))
set_option maxRecDepth 4000 in
set_option maxHeartbeats 2000000 in
theorem t_X11_priceOf {X : Cx} {d : Nat} (hC : mOK X cX11_priceOf RX11 "priceOf" (some .int) d 0 0) (hd : 3 ≤ d) (hN : ∀ i, i < 4 → i < xN X) (hP : ∀ e ∈ psG, e ∈ xP X) (hT : ∀ e ∈ tsG, e ∈ xT X) (hF : ∀ e ∈ xP X, e ∈ psA) {σ : Mem} {x1 : Int32} {x2 : Int32} {x3 : Int32} {Q : Int32 → Mem → Prop} (hw : w_X11_priceOf σ x1 x2 x3 Q) : mG X 0 [(0, .ref (xB X + 0)), (1, .int x1), (2, .int x2), (3, .int x3)] [] σ 0 0 (mQ X 0 0 (qI Q)) := by
  refine g_iload_n hC dX11_priceOf_0 rfl ?_
  refine g_iconst (v := 1) hC dX11_priceOf_1 (by decide) ?_
  refine g_icmp_ne (tgt := 32) hC dX11_priceOf_2 rfl (fun c => ?_) (fun c => ?_)
  · replace hw := hw.1 c
    refine g_iload_n hC dX11_priceOf_32 rfl ?_
    refine g_aload_n hC dX11_priceOf_33 rfl ?_
    refine g_getrS hC fl_X11_51_11.s (hT _ tg_G_0) (hP _ pt_G_0_11) dX11_priceOf_34 ?_
    refine g_getiSv (v := (mI σ 15 2)) hC fl_X11_185_1.s (hT _ tg_G_15) rfl dX11_priceOf_37 ?_
    refine g_icmp_ne (tgt := 47) hC dX11_priceOf_40 rfl (fun c => ?_) (fun c => ?_)
    · replace hw := hw.1 c
      refine g_iconst (v := 0) hC dX11_priceOf_47 (by decide) ?_
      exact g_iret hC rfl (by decide) (by decide) dX11_priceOf_48 (fun _ => ⟨_, rfl, hw⟩)
    · replace hw := hw.2 c
      refine g_iconst (v := 1) hC dX11_priceOf_43 (by decide) ?_
      refine g_goto (tgt := 48) hC dX11_priceOf_44 rfl ?_
      exact g_iret hC rfl (by decide) (by decide) dX11_priceOf_48 (fun _ => ⟨_, rfl, hw⟩)
  · replace hw := hw.2 c
    refine g_aload_n hC dX11_priceOf_5 rfl ?_
    refine g_iconst (v := 1) hC dX11_priceOf_6 (by decide) ?_
    refine g_iload_n hC dX11_priceOf_7 rfl ?_
    refine g_aload_n hC dX11_priceOf_8 rfl ?_
    refine g_getrS hC fl_X11_51_11.s (hT _ tg_G_0) (hP _ pt_G_0_11) dX11_priceOf_9 ?_
    refine g_iload_n hC dX11_priceOf_12 rfl ?_
    refine g_known (fun hS => ?_)
    refine mG.st (st1 := ([.int x2] : List Value).reverse ++ .ref (xB X + 15) :: [.int x3, .int 1, .ref (xB X + 0)]) rfl ?_
    refine g_callV (As := [.int x2]) (st := [.int x3, .int 1, .ref (xB X + 0)]) hC (hS.2 _ (hT _ tg_G_15)) (by decide) ycl_1_X1_topOf yw_X1_topOf yv_X1_topOf tw_257 dX11_priceOf_13 (fun _ h => h) (fun _ h => h) (fun h => h) (c_X1_topOf_15 (d := 1) (Nat.le_refl _) hP hT hF hw) rfl (Nat.le_of_ble_eq_true rfl) (by omega) (by decide) (by decide) (kI fun v101 s103 hw => ?_)
    refine g_aload_n hC dX11_priceOf_16 rfl ?_
    refine g_getrS hC fl_X11_51_11.s (hT _ tg_G_0) (hP _ pt_G_0_11) dX11_priceOf_17 ?_
    refine g_iload_n hC dX11_priceOf_20 rfl ?_
    refine g_known (fun hS => ?_)
    refine mG.st (st1 := ([.int x2] : List Value).reverse ++ .ref (xB X + 15) :: [.int v101, .int x3, .int 1, .ref (xB X + 0)]) rfl ?_
    refine g_callV (As := [.int x2]) (st := [.int v101, .int x3, .int 1, .ref (xB X + 0)]) hC (hS.2 _ (hT _ tg_G_15)) (by decide) ycl_1_X1_heightOf yw_X1_heightOf yv_X1_heightOf tw_255 dX11_priceOf_21 (fun _ h => h) (fun _ h => h) (fun h => h) (c_X1_heightOf_15 (d := 0) (Nat.le_refl _) hP hT hF hw) rfl (Nat.le_of_ble_eq_true rfl) (by omega) (by decide) (by decide) (kI fun v104 s106 hw => ?_)
    refine g_iload_n hC dX11_priceOf_24 rfl ?_
    refine g_known (fun hS => ?_)
    refine mG.st (st1 := ([.int 1, .int x3, .int v101, .int v104, .int x2] : List Value).reverse ++ .ref (xB X + 0) :: []) rfl ?_
    refine g_callV (As := [.int 1, .int x3, .int v101, .int v104, .int x2]) (st := []) hC (hS.2 _ (hT _ tg_G_0)) (by decide) ycl_11_X11_worth yw_X11_worth yv_X11_worth tw_92 dX11_priceOf_25 (fun _ h => h) (fun _ h => h) (fun h => h) (c_X11_worth (d := 2) (Nat.le_refl _) hP hT hF hw) rfl (Nat.le_of_ble_eq_true rfl) (by omega) (by decide) (by decide) (kI fun v107 s109 hw => ?_)
    refine mG.st (st1 := ([.int v107] : List Value).reverse ++ []) rfl ?_
    refine g_callS (As := [.int v107]) (st := []) hC yw_X11_bounded ys_X11_bounded tw_116 dX11_priceOf_28 (fun _ h => h) (fun _ h => h) (fun h => h) (c_X11_bounded (d := 1) (Nat.le_refl _) hw) rfl (Nat.le_of_ble_eq_true rfl) (by omega) (by decide) (by decide) (kI fun v110 s112 hw => ?_)
    exact g_iret hC rfl (by decide) (by decide) dX11_priceOf_31 (fun _ => ⟨_, rfl, hw⟩)
set_option maxRecDepth 4000 in
theorem c_X11_priceOf {Z : Fx} {ps ts : List (Nat × Nat × Nat)} {d : Nat} (hd : 3 ≤ d) (hP : ∀ e ∈ psG, e ∈ ps) (hT : ∀ e ∈ tsG, e ∈ ts) (hF : ∀ e ∈ ps, e ∈ psA) {σ : Mem} {x1 : Int32} {x2 : Int32} {x3 : Int32} {Q : Int32 → Mem → Prop} (hw : w_X11_priceOf σ x1 x2 x3 Q) : mM Z ps ts yX11_priceOf cX11_priceOf 4 (some .int) d 0 0 [.ref (Z.2.2 + 0), .int x1, .int x2, .int x3] σ (qI Q) := by
  refine mM.of (by decide) (Nat.le_of_ble_eq_true rfl) rfl (fun X hZ hp ht hn hC => ?_)
  subst hZ; subst hp; subst ht
  exact t_X11_priceOf hC hd (fun i h => by rw [hn]; exact h) hP hT hF hw
def w_X11_layInOrder_12 (Q : Int32 → Mem → Prop) : Nat → Nat → Int32 → Int32 → Int32 → Mem → Prop
  | 0, _, _, _, _, _ => False
  | n + 1, a1, x2, x3, x4, σ => (x2 ≤ x4 → (Q x3 σ)) ∧ (¬ x2 ≤ x4 → (vp_in x4 8 ∧ (w_X11_chosenBy_d_15 σ a1 (mI σ 20 (Int32.toNatClampNeg x4)) (fun v101 s103 => vp_in x4 8 ∧ (w_X11_priceOf s103 1 v101 (mI s103 20 (Int32.toNatClampNeg x4)) (fun v104 s106 => vp_in x4 8 ∧ (w_X1_put_15 s106 v101 (mI s106 20 (Int32.toNatClampNeg x4)) (fun s109 => w_X11_layInOrder_12 Q n a1 x2 (x3 + v104) (x4 + 1) s109))))))))
set_option maxRecDepth 4000 in
set_option maxHeartbeats 2000000 in
theorem t_X11_layInOrder_12 {X : Cx} {d : Nat} (hC : mOK X cX11_layInOrder RX11 "layInOrder" (some .int) d 0 0) (hd : 8 ≤ d) (hN : ∀ i, i < 6 → i < xN X) (hP : ∀ e ∈ psG, e ∈ xP X) (hT : ∀ e ∈ tsG, e ∈ xT X) (hF : ∀ e ∈ xP X, e ∈ psA) {Q : Int32 → Mem → Prop} : ∀ (n : Nat) (a1 : Nat) (x2 : Int32) (x3 : Int32) (x4 : Int32) (σ : Mem), w_X11_layInOrder_12 Q n a1 x2 x3 x4 σ → mG X 12 [(0, .ref (xB X + 0)), (1, .ref (xB X + a1)), (2, .int x2), (3, .int x3), (4, .int x4)] [] σ 0 0 (mQ X 0 0 (qI Q)) := by
  intro n
  induction n with
  | zero => intro a1 x2 x3 x4 σ hw; exact False.elim hw
  | succ n ih =>
    intro a1 x2 x3 x4 σ hw
    rw [w_X11_layInOrder_12] at hw
    refine g_iload hC dX11_layInOrder_12 rfl ?_
    refine g_iload_n hC dX11_layInOrder_14 rfl ?_
    refine g_icmp_ge (tgt := 75) hC dX11_layInOrder_15 rfl (fun c => ?_) (fun c => ?_)
    · replace hw := hw.1 c
      refine g_iload_n hC dX11_layInOrder_75 rfl ?_
      exact g_iret hC rfl (by decide) (by decide) dX11_layInOrder_76 (fun _ => ⟨_, rfl, hw⟩)
    · replace hw := hw.2 c
      refine g_aload_n hC dX11_layInOrder_18 rfl ?_
      refine g_aload_n hC dX11_layInOrder_19 rfl ?_
      refine g_aload_n hC dX11_layInOrder_20 rfl ?_
      refine g_getrS hC fl_X11_51_11.s (hT _ tg_G_0) (hP _ pt_G_0_11) dX11_layInOrder_21 ?_
      refine g_aload_n hC dX11_layInOrder_24 rfl ?_
      refine g_getrS hC fl_X11_55_11.s (hT _ tg_G_0) (hP _ pt_G_0_12) dX11_layInOrder_25 ?_
      refine g_iload hC dX11_layInOrder_28 rfl ?_
      refine g_ialdSv (v := (mI σ 20 (Int32.toNatClampNeg x4))) hC (hT _ tg_G_20) rfl hw.1 rfl dX11_layInOrder_30 ?_
      replace hw := hw.2
      refine g_known (fun hS => ?_)
      refine mG.st (st1 := ([.ref (xB X + a1), .ref (xB X + 15), .int (mI σ 20 (Int32.toNatClampNeg x4))] : List Value).reverse ++ .ref (xB X + 0) :: []) rfl ?_
      refine g_callV (As := [.ref (xB X + a1), .ref (xB X + 15), .int (mI σ 20 (Int32.toNatClampNeg x4))]) (st := []) hC (hS.2 _ (hT _ tg_G_0)) (by decide) ycl_11_X11_chosenBy yw_X11_chosenBy yv_X11_chosenBy tw_250 dX11_layInOrder_31 (fun _ h => h) (fun _ h => h) (fun h => h) (c_X11_chosenBy_d_15 (d := 7) (Nat.le_refl _) hP hT hF hw) rfl (Nat.le_of_ble_eq_true rfl) (by omega) (by decide) (by decide) (kI fun v101 s103 hw => ?_)
      refine g_istore (lv' := [(5, .int v101), (0, .ref (xB X + 0)), (1, .ref (xB X + a1)), (2, .int x2), (3, .int x3), (4, .int x4)]) hC dX11_layInOrder_34 (hN 5 (by decide)) rfl ?_
      refine g_iload_n hC dX11_layInOrder_36 rfl ?_
      refine g_aload_n hC dX11_layInOrder_37 rfl ?_
      refine g_iconst (v := 1) hC dX11_layInOrder_38 (by decide) ?_
      refine g_iload hC dX11_layInOrder_39 rfl ?_
      refine g_aload_n hC dX11_layInOrder_41 rfl ?_
      refine g_getrS hC fl_X11_55_11.s (hT _ tg_G_0) (hP _ pt_G_0_12) dX11_layInOrder_42 ?_
      refine g_iload hC dX11_layInOrder_45 rfl ?_
      refine g_ialdSv (v := (mI s103 20 (Int32.toNatClampNeg x4))) hC (hT _ tg_G_20) rfl hw.1 rfl dX11_layInOrder_47 ?_
      replace hw := hw.2
      refine g_known (fun hS => ?_)
      refine mG.st (st1 := ([.int 1, .int v101, .int (mI s103 20 (Int32.toNatClampNeg x4))] : List Value).reverse ++ .ref (xB X + 0) :: [.int x3]) rfl ?_
      refine g_callV (As := [.int 1, .int v101, .int (mI s103 20 (Int32.toNatClampNeg x4))]) (st := [.int x3]) hC (hS.2 _ (hT _ tg_G_0)) (by decide) ycl_11_X11_priceOf yw_X11_priceOf yv_X11_priceOf tw_277 dX11_layInOrder_48 (fun _ h => h) (fun _ h => h) (fun h => h) (c_X11_priceOf (d := 3) (Nat.le_refl _) hP hT hF hw) rfl (Nat.le_of_ble_eq_true rfl) (by omega) (by decide) (by decide) (kI fun v104 s106 hw => ?_)
      refine g_iadd hC dX11_layInOrder_51 ?_
      refine g_istore_n (lv' := [(3, .int (x3 + v104)), (5, .int v101), (0, .ref (xB X + 0)), (1, .ref (xB X + a1)), (2, .int x2), (4, .int x4)]) hC dX11_layInOrder_52 (hN 3 (by decide)) rfl ?_
      refine g_aload_n hC dX11_layInOrder_53 rfl ?_
      refine g_getrS hC fl_X11_51_11.s (hT _ tg_G_0) (hP _ pt_G_0_11) dX11_layInOrder_54 ?_
      refine g_iload hC dX11_layInOrder_57 rfl ?_
      refine g_aload_n hC dX11_layInOrder_59 rfl ?_
      refine g_getrS hC fl_X11_55_11.s (hT _ tg_G_0) (hP _ pt_G_0_12) dX11_layInOrder_60 ?_
      refine g_iload hC dX11_layInOrder_63 rfl ?_
      refine g_ialdSv (v := (mI s106 20 (Int32.toNatClampNeg x4))) hC (hT _ tg_G_20) rfl hw.1 rfl dX11_layInOrder_65 ?_
      replace hw := hw.2
      refine g_known (fun hS => ?_)
      refine mG.st (st1 := ([.int v101, .int (mI s106 20 (Int32.toNatClampNeg x4))] : List Value).reverse ++ .ref (xB X + 15) :: []) rfl ?_
      refine g_callV (As := [.int v101, .int (mI s106 20 (Int32.toNatClampNeg x4))]) (st := []) hC (hS.2 _ (hT _ tg_G_15)) (by decide) ycl_1_X1_put yw_X1_put yv_X1_put tw_278 dX11_layInOrder_66 (fun _ h => h) (fun _ h => h) (fun h => h) (c_X1_put_15 (d := 2) (Nat.le_refl _) hP hT hF hw) rfl (Nat.le_of_ble_eq_true rfl) (by omega) (by decide) (by decide) (kV fun s109 hw => ?_)
      refine g_iinc (v := x4 + 1) (lv' := [(4, .int (x4 + 1)), (3, .int (x3 + v104)), (5, .int v101), (0, .ref (xB X + 0)), (1, .ref (xB X + a1)), (2, .int x2)]) hC dX11_layInOrder_69 rfl rfl (hN 4 (by decide)) rfl ?_
      refine g_goto (tgt := 12) hC dX11_layInOrder_72 rfl ?_
      refine mG.pick (lv' := [(0, .ref (xB X + 0)), (1, .ref (xB X + a1)), (2, .int x2), (3, .int (x3 + v104)), (4, .int (x4 + 1))]) [3, 4, 5, 1, 0] rfl ?_
      exact ih _ _ _ _ _ hw
def w_X11_layInOrder (σ : Mem) (a1 : Nat) (x2 : Int32) (Q : Int32 → Mem → Prop) : Prop := w_X1_clear_15 σ (fun s103 => ∃ m104 : Nat, w_X11_layInOrder_12 Q m104 a1 x2 0 0 s103)
set_option maxRecDepth 4000 in
set_option maxHeartbeats 2000000 in
theorem t_X11_layInOrder {X : Cx} {d : Nat} (hC : mOK X cX11_layInOrder RX11 "layInOrder" (some .int) d 0 0) (hd : 8 ≤ d) (hN : ∀ i, i < 6 → i < xN X) (hP : ∀ e ∈ psG, e ∈ xP X) (hT : ∀ e ∈ tsG, e ∈ xT X) (hF : ∀ e ∈ xP X, e ∈ psA) {σ : Mem} {a1 : Nat} {x2 : Int32} {Q : Int32 → Mem → Prop} (hw : w_X11_layInOrder σ a1 x2 Q) : mG X 0 [(0, .ref (xB X + 0)), (1, .ref (xB X + a1)), (2, .int x2)] [] σ 0 0 (mQ X 0 0 (qI Q)) := by
  refine g_iconst (v := 0) hC dX11_layInOrder_0 (by decide) ?_
  refine g_istore_n (lv' := [(3, .int 0), (0, .ref (xB X + 0)), (1, .ref (xB X + a1)), (2, .int x2)]) hC dX11_layInOrder_1 (hN 3 (by decide)) rfl ?_
  refine g_aload_n hC dX11_layInOrder_2 rfl ?_
  refine g_getrS hC fl_X11_51_11.s (hT _ tg_G_0) (hP _ pt_G_0_11) dX11_layInOrder_3 ?_
  refine g_known (fun hS => ?_)
  refine mG.st (st1 := ([] : List Value).reverse ++ .ref (xB X + 15) :: []) rfl ?_
  refine g_callV (As := []) (st := []) hC (hS.2 _ (hT _ tg_G_15)) (by decide) ycl_1_X1_clear yw_X1_clear yv_X1_clear tw_243 dX11_layInOrder_6 (fun _ h => h) (fun _ h => h) (fun h => h) (c_X1_clear_15 (d := 0) (Nat.le_refl _) hP hT hF hw) rfl (Nat.le_of_ble_eq_true rfl) (by omega) (by decide) (by decide) (kV fun s103 hw => ?_)
  refine g_iconst (v := 0) hC dX11_layInOrder_9 (by decide) ?_
  refine g_istore (lv' := [(4, .int 0), (3, .int 0), (0, .ref (xB X + 0)), (1, .ref (xB X + a1)), (2, .int x2)]) hC dX11_layInOrder_10 (hN 4 (by decide)) rfl ?_
  refine mG.pick (lv' := [(0, .ref (xB X + 0)), (1, .ref (xB X + a1)), (2, .int x2), (3, .int 0), (4, .int 0)]) [2, 3, 4, 1, 0] rfl ?_
  obtain ⟨m104, hw⟩ := hw
  exact t_X11_layInOrder_12 hC hd hN hP hT hF m104 _ _ _ _ _ hw
set_option maxRecDepth 4000 in
theorem c_X11_layInOrder {Z : Fx} {ps ts : List (Nat × Nat × Nat)} {d : Nat} (hd : 8 ≤ d) (hP : ∀ e ∈ psG, e ∈ ps) (hT : ∀ e ∈ tsG, e ∈ ts) (hF : ∀ e ∈ ps, e ∈ psA) {σ : Mem} {a1 : Nat} {x2 : Int32} {Q : Int32 → Mem → Prop} (hw : w_X11_layInOrder σ a1 x2 Q) : mM Z ps ts yX11_layInOrder cX11_layInOrder 6 (some .int) d 0 0 [.ref (Z.2.2 + 0), .ref (Z.2.2 + a1), .int x2] σ (qI Q) := by
  refine mM.of (by decide) (Nat.le_of_ble_eq_true rfl) rfl (fun X hZ hp ht hn hC => ?_)
  subst hZ; subst hp; subst ht
  exact t_X11_layInOrder hC hd (fun i h => by rw [hn]; exact h) hP hT hF hw
def w_X11_by (σ : Mem) (x1 : Int32) (x2 : Int32) (Q : Int32 → Mem → Prop) : Prop := w_X11_layerAt σ x1 (fun o102 s103 => (o102 = none → (Q (-2) s103)) ∧ (∀ r104 : Nat, o102 = some r104 → ((x2 < 0 → (Q (-2) s103)) ∧ (¬ x2 < 0 → ((x2 ≤ 1 → (w_X11_orderOfNow s103 (fun s107 => w_X11_layInOrder s107 r104 (mI s107 0 2) (fun v108 s110 => (¬ x2 = 0 → (Q v108 s110)) ∧ (x2 = 0 → (Q (mI s110 15 2) s110)))))) ∧ (¬ x2 ≤ 1 → (Q (-2) s103)))))))
set_option maxRecDepth 4000 in
set_option maxHeartbeats 2000000 in
theorem t_X11_by {X : Cx} {d : Nat} (hC : mOK X cX11_by RX11 "by" (some .int) d 0 0) (hd : 9 ≤ d) (hN : ∀ i, i < 5 → i < xN X) (hP : ∀ e ∈ psG, e ∈ xP X) (hT : ∀ e ∈ tsG, e ∈ xT X) (hF : ∀ e ∈ xP X, e ∈ psA) {σ : Mem} {x1 : Int32} {x2 : Int32} {Q : Int32 → Mem → Prop} (hw : w_X11_by σ x1 x2 Q) : mG X 0 [(0, .ref (xB X + 0)), (1, .int x1), (2, .int x2)] [] σ 0 0 (mQ X 0 0 (qI Q)) := by
  refine g_aload_n hC dX11_by_0 rfl ?_
  refine g_iload_n hC dX11_by_1 rfl ?_
  refine g_known (fun hS => ?_)
  refine mG.st (st1 := ([.int x1] : List Value).reverse ++ .ref (xB X + 0) :: []) rfl ?_
  refine g_callV (As := [.int x1]) (st := []) hC (hS.2 _ (hT _ tg_G_0)) (by decide) ycl_11_X11_layerAt yw_X11_layerAt yv_X11_layerAt tw_126 dX11_by_2 (fun _ h => h) (fun _ h => h) (fun h => h) (c_X11_layerAt (d := 0) (Nat.le_refl _) hP hT hF hw) rfl (Nat.le_of_ble_eq_true rfl) (by omega) (by decide) (by decide) (kA fun o102 s103 hw => ?_)
  refine g_astore_nQ (lv' := [(3, rq X o102), (0, .ref (xB X + 0)), (1, .int x1), (2, .int x2)]) hC dX11_by_5 (hN 3 (by decide)) rfl ?_
  refine g_aload_nQ hC dX11_by_6 rfl ?_
  rcases o102 with _ | r104
  · replace hw := hw.1 rfl
    refine g_ifnullN (tgt := 19) hC dX11_by_7 rfl ?_
    refine g_bipush (v := (-2)) hC dX11_by_19 (by decide) ?_
    exact g_iret hC rfl (by decide) (by decide) dX11_by_21 (fun _ => ⟨_, rfl, hw⟩)
  · replace hw := hw.2 r104 rfl
    refine g_ifnullR hC dX11_by_7 ?_
    refine g_iload_n hC dX11_by_10 rfl ?_
    refine g_if_lt (tgt := 19) hC dX11_by_11 rfl (fun c => ?_) (fun c => ?_)
    · replace hw := hw.1 c
      refine g_bipush (v := (-2)) hC dX11_by_19 (by decide) ?_
      exact g_iret hC rfl (by decide) (by decide) dX11_by_21 (fun _ => ⟨_, rfl, hw⟩)
    · replace hw := hw.2 c
      refine g_iload_n hC dX11_by_14 rfl ?_
      refine g_iconst (v := 1) hC dX11_by_15 (by decide) ?_
      refine g_icmp_le (tgt := 22) hC dX11_by_16 rfl (fun c => ?_) (fun c => ?_)
      · replace hw := hw.1 c
        refine g_aload_n hC dX11_by_22 rfl ?_
        refine g_known (fun hS => ?_)
        refine mG.st (st1 := ([] : List Value).reverse ++ .ref (xB X + 0) :: []) rfl ?_
        refine g_callV (As := []) (st := []) hC (hS.2 _ (hT _ tg_G_0)) (by decide) ycl_11_X11_orderOfNow yw_X11_orderOfNow yv_X11_orderOfNow tw_240 dX11_by_23 (fun _ h => h) (fun _ h => h) (fun h => h) (c_X11_orderOfNow (d := 0) (Nat.le_refl _) hP hT hF hw) rfl (Nat.le_of_ble_eq_true rfl) (by omega) (by decide) (by decide) (kV fun s107 hw => ?_)
        refine g_aload_n hC dX11_by_26 rfl ?_
        refine g_aload_n hC dX11_by_27 rfl ?_
        refine g_aload_n hC dX11_by_28 rfl ?_
        refine g_getiSv (v := (mI s107 0 2)) hC fl_X11_101_11.s (hT _ tg_G_0) rfl dX11_by_29 ?_
        refine g_known (fun hS => ?_)
        refine mG.st (st1 := ([.ref (xB X + r104), .int (mI s107 0 2)] : List Value).reverse ++ .ref (xB X + 0) :: []) rfl ?_
        refine g_callV (As := [.ref (xB X + r104), .int (mI s107 0 2)]) (st := []) hC (hS.2 _ (hT _ tg_G_0)) (by decide) ycl_11_X11_layInOrder yw_X11_layInOrder yv_X11_layInOrder tw_242 dX11_by_32 (fun _ h => h) (fun _ h => h) (fun h => h) (c_X11_layInOrder (d := 8) (Nat.le_refl _) hP hT hF hw) rfl (Nat.le_of_ble_eq_true rfl) (by omega) (by decide) (by decide) (kI fun v108 s110 hw => ?_)
        refine g_istore (lv' := [(4, .int v108), (3, .ref (xB X + r104)), (0, .ref (xB X + 0)), (1, .int x1), (2, .int x2)]) hC dX11_by_35 (hN 4 (by decide)) rfl ?_
        refine g_iload_n hC dX11_by_37 rfl ?_
        refine g_if_ne (tgt := 51) hC dX11_by_38 rfl (fun c => ?_) (fun c => ?_)
        · replace hw := hw.1 c
          refine g_iload hC dX11_by_51 rfl ?_
          exact g_iret hC rfl (by decide) (by decide) dX11_by_53 (fun _ => ⟨_, rfl, hw⟩)
        · replace hw := hw.2 c
          refine g_aload_n hC dX11_by_41 rfl ?_
          refine g_getrS hC fl_X11_51_11.s (hT _ tg_G_0) (hP _ pt_G_0_11) dX11_by_42 ?_
          refine g_getiSv (v := (mI s110 15 2)) hC fl_X11_185_1.s (hT _ tg_G_15) rfl dX11_by_45 ?_
          refine g_goto (tgt := 53) hC dX11_by_48 rfl ?_
          exact g_iret hC rfl (by decide) (by decide) dX11_by_53 (fun _ => ⟨_, rfl, hw⟩)
      · replace hw := hw.2 c
        refine g_bipush (v := (-2)) hC dX11_by_19 (by decide) ?_
        exact g_iret hC rfl (by decide) (by decide) dX11_by_21 (fun _ => ⟨_, rfl, hw⟩)
set_option maxRecDepth 4000 in
theorem c_X11_by {Z : Fx} {ps ts : List (Nat × Nat × Nat)} {d : Nat} (hd : 9 ≤ d) (hP : ∀ e ∈ psG, e ∈ ps) (hT : ∀ e ∈ tsG, e ∈ ts) (hF : ∀ e ∈ ps, e ∈ psA) {σ : Mem} {x1 : Int32} {x2 : Int32} {Q : Int32 → Mem → Prop} (hw : w_X11_by σ x1 x2 Q) : mM Z ps ts yX11_by cX11_by 5 (some .int) d 0 0 [.ref (Z.2.2 + 0), .int x1, .int x2] σ (qI Q) := by
  refine mM.of (by decide) (Nat.le_of_ble_eq_true rfl) rfl (fun X hZ hp ht hn hC => ?_)
  subst hZ; subst hp; subst ht
  exact t_X11_by hC hd (fun i h => by rw [hn]; exact h) hP hT hF hw
def w_X11_heapOf (σ : Mem) (x1 : Int32) (x2 : Int32) (Q : Int32 → Mem → Prop) : Prop := w_X11_layerAt σ x1 (fun o102 s103 => (o102 = none → (Q (-2) s103)) ∧ (∀ r104 : Nat, o102 = some r104 → (w_X11_isPlate s103 x2 (fun v105 s107 => (¬ v105 = 0 → (w_X11_orderOfNow s107 (fun s110 => w_X11_layInOrder s110 r104 (mI s110 0 2) (fun v111 s113 => vp_in x2 8 ∧ (Q (mI s113 18 (Int32.toNatClampNeg x2)) s113))))) ∧ (v105 = 0 → (Q (-2) s107))))))
set_option maxRecDepth 4000 in
set_option maxHeartbeats 2000000 in
theorem t_X11_heapOf {X : Cx} {d : Nat} (hC : mOK X cX11_heapOf RX11 "heapOf" (some .int) d 0 0) (hd : 9 ≤ d) (hN : ∀ i, i < 4 → i < xN X) (hP : ∀ e ∈ psG, e ∈ xP X) (hT : ∀ e ∈ tsG, e ∈ xT X) (hF : ∀ e ∈ xP X, e ∈ psA) {σ : Mem} {x1 : Int32} {x2 : Int32} {Q : Int32 → Mem → Prop} (hw : w_X11_heapOf σ x1 x2 Q) : mG X 0 [(0, .ref (xB X + 0)), (1, .int x1), (2, .int x2)] [] σ 0 0 (mQ X 0 0 (qI Q)) := by
  refine g_aload_n hC dX11_heapOf_0 rfl ?_
  refine g_iload_n hC dX11_heapOf_1 rfl ?_
  refine g_known (fun hS => ?_)
  refine mG.st (st1 := ([.int x1] : List Value).reverse ++ .ref (xB X + 0) :: []) rfl ?_
  refine g_callV (As := [.int x1]) (st := []) hC (hS.2 _ (hT _ tg_G_0)) (by decide) ycl_11_X11_layerAt yw_X11_layerAt yv_X11_layerAt tw_126 dX11_heapOf_2 (fun _ h => h) (fun _ h => h) (fun h => h) (c_X11_layerAt (d := 0) (Nat.le_refl _) hP hT hF hw) rfl (Nat.le_of_ble_eq_true rfl) (by omega) (by decide) (by decide) (kA fun o102 s103 hw => ?_)
  refine g_astore_nQ (lv' := [(3, rq X o102), (0, .ref (xB X + 0)), (1, .int x1), (2, .int x2)]) hC dX11_heapOf_5 (hN 3 (by decide)) rfl ?_
  refine g_aload_nQ hC dX11_heapOf_6 rfl ?_
  rcases o102 with _ | r104
  · replace hw := hw.1 rfl
    refine g_ifnullN (tgt := 18) hC dX11_heapOf_7 rfl ?_
    refine g_bipush (v := (-2)) hC dX11_heapOf_18 (by decide) ?_
    exact g_iret hC rfl (by decide) (by decide) dX11_heapOf_20 (fun _ => ⟨_, rfl, hw⟩)
  · replace hw := hw.2 r104 rfl
    refine g_ifnullR hC dX11_heapOf_7 ?_
    refine g_aload_n hC dX11_heapOf_10 rfl ?_
    refine g_iload_n hC dX11_heapOf_11 rfl ?_
    refine g_known (fun hS => ?_)
    refine mG.st (st1 := ([.int x2] : List Value).reverse ++ .ref (xB X + 0) :: []) rfl ?_
    refine g_callV (As := [.int x2]) (st := []) hC (hS.2 _ (hT _ tg_G_0)) (by decide) ycl_11_X11_isPlate yw_X11_isPlate yv_X11_isPlate tw_82 dX11_heapOf_12 (fun _ h => h) (fun _ h => h) (fun h => h) (c_X11_isPlate (d := 0) (Nat.le_refl _) hP hT hF hw) rfl (Nat.le_of_ble_eq_true rfl) (by omega) (by decide) (by decide) (kI fun v105 s107 hw => ?_)
    refine g_if_ne (tgt := 21) hC dX11_heapOf_15 rfl (fun c => ?_) (fun c => ?_)
    · replace hw := hw.1 c
      refine g_aload_n hC dX11_heapOf_21 rfl ?_
      refine g_known (fun hS => ?_)
      refine mG.st (st1 := ([] : List Value).reverse ++ .ref (xB X + 0) :: []) rfl ?_
      refine g_callV (As := []) (st := []) hC (hS.2 _ (hT _ tg_G_0)) (by decide) ycl_11_X11_orderOfNow yw_X11_orderOfNow yv_X11_orderOfNow tw_240 dX11_heapOf_22 (fun _ h => h) (fun _ h => h) (fun h => h) (c_X11_orderOfNow (d := 0) (Nat.le_refl _) hP hT hF hw) rfl (Nat.le_of_ble_eq_true rfl) (by omega) (by decide) (by decide) (kV fun s110 hw => ?_)
      refine g_aload_n hC dX11_heapOf_25 rfl ?_
      refine g_aload_n hC dX11_heapOf_26 rfl ?_
      refine g_aload_n hC dX11_heapOf_27 rfl ?_
      refine g_getiSv (v := (mI s110 0 2)) hC fl_X11_101_11.s (hT _ tg_G_0) rfl dX11_heapOf_28 ?_
      refine g_known (fun hS => ?_)
      refine mG.st (st1 := ([.ref (xB X + r104), .int (mI s110 0 2)] : List Value).reverse ++ .ref (xB X + 0) :: []) rfl ?_
      refine g_callV (As := [.ref (xB X + r104), .int (mI s110 0 2)]) (st := []) hC (hS.2 _ (hT _ tg_G_0)) (by decide) ycl_11_X11_layInOrder yw_X11_layInOrder yv_X11_layInOrder tw_242 dX11_heapOf_31 (fun _ h => h) (fun _ h => h) (fun h => h) (c_X11_layInOrder (d := 8) (Nat.le_refl _) hP hT hF hw) rfl (Nat.le_of_ble_eq_true rfl) (by omega) (by decide) (by decide) (kI fun v111 s113 hw => ?_)
      refine g_pop hC dX11_heapOf_34 rfl ?_
      refine g_aload_n hC dX11_heapOf_35 rfl ?_
      refine g_getrS hC fl_X11_51_11.s (hT _ tg_G_0) (hP _ pt_G_0_11) dX11_heapOf_36 ?_
      refine g_getrS hC fl_X11_188_1.s (hT _ tg_G_15) (hP _ pt_G_15_3) dX11_heapOf_39 ?_
      refine g_iload_n hC dX11_heapOf_42 rfl ?_
      refine g_ialdSv (v := (mI s113 18 (Int32.toNatClampNeg x2))) hC (hT _ tg_G_18) rfl hw.1 rfl dX11_heapOf_43 ?_
      replace hw := hw.2
      exact g_iret hC rfl (by decide) (by decide) dX11_heapOf_44 (fun _ => ⟨_, rfl, hw⟩)
    · replace hw := hw.2 c
      refine g_bipush (v := (-2)) hC dX11_heapOf_18 (by decide) ?_
      exact g_iret hC rfl (by decide) (by decide) dX11_heapOf_20 (fun _ => ⟨_, rfl, hw⟩)
set_option maxRecDepth 4000 in
theorem c_X11_heapOf {Z : Fx} {ps ts : List (Nat × Nat × Nat)} {d : Nat} (hd : 9 ≤ d) (hP : ∀ e ∈ psG, e ∈ ps) (hT : ∀ e ∈ tsG, e ∈ ts) (hF : ∀ e ∈ ps, e ∈ psA) {σ : Mem} {x1 : Int32} {x2 : Int32} {Q : Int32 → Mem → Prop} (hw : w_X11_heapOf σ x1 x2 Q) : mM Z ps ts yX11_heapOf cX11_heapOf 4 (some .int) d 0 0 [.ref (Z.2.2 + 0), .int x1, .int x2] σ (qI Q) := by
  refine mM.of (by decide) (Nat.le_of_ble_eq_true rfl) rfl (fun X hZ hp ht hn hC => ?_)
  subst hZ; subst hp; subst ht
  exact t_X11_heapOf hC hd (fun i h => by rw [hn]; exact h) hP hT hF hw
def w_X11_seekLess_122 (rec_X11_seekLess : Mem → Int32 → Int32 → Int32 → Int32 → (Mem → Prop) → Prop) (Q : Mem → Prop) (K48 : Int32 → Int32 → Int32 → Int32 → Int32 → Int32 → Int32 → Mem → Prop) (x1 : Int32) (x2 : Int32) (x3 : Int32) (x4 : Int32) (x5 : Int32) (x6 : Int32) (x7 : Int32) (σ : Mem) : Prop := K48 x1 x2 x3 x4 x5 x6 (x7 + 1) σ
set_option maxRecDepth 4000 in
set_option maxHeartbeats 2000000 in
theorem t_X11_seekLess_122 {X : Cx} {d : Nat} {dr : Nat} (hC : mOK X cX11_seekLess RX11 "seekLess" none d 0 0) (hd : dr + 4 ≤ d) (hN : ∀ i, i < 9 → i < xN X) (hP : ∀ e ∈ psG, e ∈ xP X) (hT : ∀ e ∈ tsG, e ∈ xT X) (hF : ∀ e ∈ xP X, e ∈ psA) {rec_X11_seekLess : Mem → Int32 → Int32 → Int32 → Int32 → (Mem → Prop) → Prop} (hrec_X11_seekLess : ∀ (s : Mem) (z0 : Int32) (z1 : Int32) (z2 : Int32) (z3 : Int32) (q : Mem → Prop), rec_X11_seekLess s z0 z1 z2 z3 q → mM (xZ X) (xP X) (xT X) yX11_seekLess cX11_seekLess 9 none dr 0 0 [.ref ((xB X) + 0), .int z0, .int z1, .int z2, .int z3] s (qV q)) {Q : Mem → Prop} {K48 : Int32 → Int32 → Int32 → Int32 → Int32 → Int32 → Int32 → Mem → Prop} (hK48 : ∀ (x1 : Int32) (x2 : Int32) (x3 : Int32) (x4 : Int32) (x5 : Int32) (x6 : Int32) (x7 : Int32) (s : Mem), K48 x1 x2 x3 x4 x5 x6 x7 s → mG X 48 [(0, .ref (xB X + 0)), (1, .int x1), (2, .int x2), (3, .int x3), (4, .int x4), (5, .int x5), (6, .int x6), (7, .int x7)] [] s 0 0 (mQ X 0 0 (qV Q))) {x1 : Int32} {x2 : Int32} {x3 : Int32} {x4 : Int32} {x5 : Int32} {x6 : Int32} {x7 : Int32} {σ : Mem} (hw : w_X11_seekLess_122 rec_X11_seekLess Q K48 x1 x2 x3 x4 x5 x6 x7 σ) : mG X 122 [(0, .ref (xB X + 0)), (1, .int x1), (2, .int x2), (3, .int x3), (4, .int x4), (5, .int x5), (6, .int x6), (7, .int x7)] [] σ 0 0 (mQ X 0 0 (qV Q)) := by
  refine g_iinc (v := x7 + 1) (lv' := [(7, .int (x7 + 1)), (0, .ref (xB X + 0)), (1, .int x1), (2, .int x2), (3, .int x3), (4, .int x4), (5, .int x5), (6, .int x6)]) hC dX11_seekLess_122 rfl rfl (hN 7 (by decide)) rfl ?_
  refine g_goto (tgt := 48) hC dX11_seekLess_125 rfl ?_
  refine mG.pick (lv' := [(0, .ref (xB X + 0)), (1, .int x1), (2, .int x2), (3, .int x3), (4, .int x4), (5, .int x5), (6, .int x6), (7, .int (x7 + 1))]) [1, 2, 3, 4, 5, 6, 7, 0] rfl ?_
  exact hK48 _ _ _ _ _ _ _ _ hw
def w_X11_seekLess_77 (rec_X11_seekLess : Mem → Int32 → Int32 → Int32 → Int32 → (Mem → Prop) → Prop) (Q : Mem → Prop) (K48 : Int32 → Int32 → Int32 → Int32 → Int32 → Int32 → Int32 → Mem → Prop) (x1 : Int32) (x2 : Int32) (x3 : Int32) (x4 : Int32) (x5 : Int32) (x6 : Int32) (x7 : Int32) (σ : Mem) : Prop := w_X11_priceOf σ x1 x7 x5 (fun v101 s103 => w_X1_put_15 s103 x7 x5 (fun s106 => rec_X11_seekLess s106 x1 (x2 + 1) x3 (x4 + v101) (fun s109 => w_X1_undo_15 s109 x7 (fun s112 => w_X11_seekLess_122 rec_X11_seekLess Q K48 x1 x2 x3 x4 x5 x6 x7 s112))))
set_option maxRecDepth 4000 in
set_option maxHeartbeats 2000000 in
theorem t_X11_seekLess_77 {X : Cx} {d : Nat} {dr : Nat} (hC : mOK X cX11_seekLess RX11 "seekLess" none d 0 0) (hd : dr + 4 ≤ d) (hN : ∀ i, i < 9 → i < xN X) (hP : ∀ e ∈ psG, e ∈ xP X) (hT : ∀ e ∈ tsG, e ∈ xT X) (hF : ∀ e ∈ xP X, e ∈ psA) {rec_X11_seekLess : Mem → Int32 → Int32 → Int32 → Int32 → (Mem → Prop) → Prop} (hrec_X11_seekLess : ∀ (s : Mem) (z0 : Int32) (z1 : Int32) (z2 : Int32) (z3 : Int32) (q : Mem → Prop), rec_X11_seekLess s z0 z1 z2 z3 q → mM (xZ X) (xP X) (xT X) yX11_seekLess cX11_seekLess 9 none dr 0 0 [.ref ((xB X) + 0), .int z0, .int z1, .int z2, .int z3] s (qV q)) {Q : Mem → Prop} {K48 : Int32 → Int32 → Int32 → Int32 → Int32 → Int32 → Int32 → Mem → Prop} (hK48 : ∀ (x1 : Int32) (x2 : Int32) (x3 : Int32) (x4 : Int32) (x5 : Int32) (x6 : Int32) (x7 : Int32) (s : Mem), K48 x1 x2 x3 x4 x5 x6 x7 s → mG X 48 [(0, .ref (xB X + 0)), (1, .int x1), (2, .int x2), (3, .int x3), (4, .int x4), (5, .int x5), (6, .int x6), (7, .int x7)] [] s 0 0 (mQ X 0 0 (qV Q))) {x1 : Int32} {x2 : Int32} {x3 : Int32} {x4 : Int32} {x5 : Int32} {x6 : Int32} {x7 : Int32} {σ : Mem} (hw : w_X11_seekLess_77 rec_X11_seekLess Q K48 x1 x2 x3 x4 x5 x6 x7 σ) : mG X 77 [(0, .ref (xB X + 0)), (1, .int x1), (2, .int x2), (3, .int x3), (4, .int x4), (5, .int x5), (6, .int x6), (7, .int x7)] [] σ 0 0 (mQ X 0 0 (qV Q)) := by
  refine g_aload_n hC dX11_seekLess_77 rfl ?_
  refine g_iload_n hC dX11_seekLess_78 rfl ?_
  refine g_iload hC dX11_seekLess_79 rfl ?_
  refine g_iload hC dX11_seekLess_81 rfl ?_
  refine g_known (fun hS => ?_)
  refine mG.st (st1 := ([.int x1, .int x7, .int x5] : List Value).reverse ++ .ref (xB X + 0) :: []) rfl ?_
  refine g_callV (As := [.int x1, .int x7, .int x5]) (st := []) hC (hS.2 _ (hT _ tg_G_0)) (by decide) ycl_11_X11_priceOf yw_X11_priceOf yv_X11_priceOf tw_277 dX11_seekLess_83 (fun _ h => h) (fun _ h => h) (fun h => h) (c_X11_priceOf (d := 3) (Nat.le_refl _) hP hT hF hw) rfl (Nat.le_of_ble_eq_true rfl) (by omega) (by decide) (by decide) (kI fun v101 s103 hw => ?_)
  refine g_istore (lv' := [(8, .int v101), (0, .ref (xB X + 0)), (1, .int x1), (2, .int x2), (3, .int x3), (4, .int x4), (5, .int x5), (6, .int x6), (7, .int x7)]) hC dX11_seekLess_86 (hN 8 (by decide)) rfl ?_
  refine g_aload_n hC dX11_seekLess_88 rfl ?_
  refine g_getrS hC fl_X11_51_11.s (hT _ tg_G_0) (hP _ pt_G_0_11) dX11_seekLess_89 ?_
  refine g_iload hC dX11_seekLess_92 rfl ?_
  refine g_iload hC dX11_seekLess_94 rfl ?_
  refine g_known (fun hS => ?_)
  refine mG.st (st1 := ([.int x7, .int x5] : List Value).reverse ++ .ref (xB X + 15) :: []) rfl ?_
  refine g_callV (As := [.int x7, .int x5]) (st := []) hC (hS.2 _ (hT _ tg_G_15)) (by decide) ycl_1_X1_put yw_X1_put yv_X1_put tw_278 dX11_seekLess_96 (fun _ h => h) (fun _ h => h) (fun h => h) (c_X1_put_15 (d := 2) (Nat.le_refl _) hP hT hF hw) rfl (Nat.le_of_ble_eq_true rfl) (by omega) (by decide) (by decide) (kV fun s106 hw => ?_)
  refine g_aload_n hC dX11_seekLess_99 rfl ?_
  refine g_iload_n hC dX11_seekLess_100 rfl ?_
  refine g_iload_n hC dX11_seekLess_101 rfl ?_
  refine g_iconst (v := 1) hC dX11_seekLess_102 (by decide) ?_
  refine g_iadd hC dX11_seekLess_103 ?_
  refine g_iload_n hC dX11_seekLess_104 rfl ?_
  refine g_iload hC dX11_seekLess_105 rfl ?_
  refine g_iload hC dX11_seekLess_107 rfl ?_
  refine g_iadd hC dX11_seekLess_109 ?_
  refine g_known (fun hS => ?_)
  refine mG.st (st1 := ([.int x1, .int (x2 + 1), .int x3, .int (x4 + v101)] : List Value).reverse ++ .ref (xB X + 0) :: []) rfl ?_
  refine g_callV (As := [.int x1, .int (x2 + 1), .int x3, .int (x4 + v101)]) (st := []) hC (hS.2 _ (hT _ tg_G_0)) (by decide) ycl_11_X11_seekLess yw_X11_seekLess yv_X11_seekLess tw_300 dX11_seekLess_110 (fun _ h => h) (fun _ h => h) (fun h => h) (hrec_X11_seekLess _ _ _ _ _ _ hw) rfl (Nat.le_of_ble_eq_true rfl) (by omega) (by decide) (by decide) (kV fun s109 hw => ?_)
  refine g_aload_n hC dX11_seekLess_113 rfl ?_
  refine g_getrS hC fl_X11_51_11.s (hT _ tg_G_0) (hP _ pt_G_0_11) dX11_seekLess_114 ?_
  refine g_iload hC dX11_seekLess_117 rfl ?_
  refine g_known (fun hS => ?_)
  refine mG.st (st1 := ([.int x7] : List Value).reverse ++ .ref (xB X + 15) :: []) rfl ?_
  refine g_callV (As := [.int x7]) (st := []) hC (hS.2 _ (hT _ tg_G_15)) (by decide) ycl_1_X1_undo yw_X1_undo yv_X1_undo tw_302 dX11_seekLess_119 (fun _ h => h) (fun _ h => h) (fun h => h) (c_X1_undo_15 (d := 3) (Nat.le_refl _) hP hT hF hw) rfl (Nat.le_of_ble_eq_true rfl) (by omega) (by decide) (by decide) (kV fun s112 hw => ?_)
  refine mG.pick (lv' := [(0, .ref (xB X + 0)), (1, .int x1), (2, .int x2), (3, .int x3), (4, .int x4), (5, .int x5), (6, .int x6), (7, .int x7)]) [1, 2, 3, 4, 5, 6, 7, 8] rfl ?_
  exact t_X11_seekLess_122 hC hd hN hP hT hF hrec_X11_seekLess hK48 hw
def w_X11_seekLess_48 (rec_X11_seekLess : Mem → Int32 → Int32 → Int32 → Int32 → (Mem → Prop) → Prop) (Q : Mem → Prop) : Nat → Int32 → Int32 → Int32 → Int32 → Int32 → Int32 → Int32 → Mem → Prop
  | 0, _, _, _, _, _, _, _, _ => False
  | n + 1, x1, x2, x3, x4, x5, x6, x7, σ => (x6 < x7 → (Q σ)) ∧ (¬ x6 < x7 → ((x7 = x6 → (w_X11_seekLess_77 rec_X11_seekLess Q (fun z0 z1 z2 z3 z4 z5 z6 z7 => w_X11_seekLess_48 rec_X11_seekLess Q n z0 z1 z2 z3 z4 z5 z6 z7) x1 x2 x3 x4 x5 x6 x7 σ)) ∧ (¬ x7 = x6 → (w_X11_mayLie_15 σ x7 x5 (fun v101 s103 => (v101 = 0 → (w_X11_seekLess_122 rec_X11_seekLess Q (fun z0 z1 z2 z3 z4 z5 z6 z7 => w_X11_seekLess_48 rec_X11_seekLess Q n z0 z1 z2 z3 z4 z5 z6 z7) x1 x2 x3 x4 x5 x6 x7 s103)) ∧ (¬ v101 = 0 → (w_X11_seekLess_77 rec_X11_seekLess Q (fun z0 z1 z2 z3 z4 z5 z6 z7 => w_X11_seekLess_48 rec_X11_seekLess Q n z0 z1 z2 z3 z4 z5 z6 z7) x1 x2 x3 x4 x5 x6 x7 s103)))))))
set_option maxRecDepth 4000 in
set_option maxHeartbeats 2000000 in
theorem t_X11_seekLess_48 {X : Cx} {d : Nat} {dr : Nat} (hC : mOK X cX11_seekLess RX11 "seekLess" none d 0 0) (hd : dr + 4 ≤ d) (hN : ∀ i, i < 9 → i < xN X) (hP : ∀ e ∈ psG, e ∈ xP X) (hT : ∀ e ∈ tsG, e ∈ xT X) (hF : ∀ e ∈ xP X, e ∈ psA) {rec_X11_seekLess : Mem → Int32 → Int32 → Int32 → Int32 → (Mem → Prop) → Prop} (hrec_X11_seekLess : ∀ (s : Mem) (z0 : Int32) (z1 : Int32) (z2 : Int32) (z3 : Int32) (q : Mem → Prop), rec_X11_seekLess s z0 z1 z2 z3 q → mM (xZ X) (xP X) (xT X) yX11_seekLess cX11_seekLess 9 none dr 0 0 [.ref ((xB X) + 0), .int z0, .int z1, .int z2, .int z3] s (qV q)) {Q : Mem → Prop} : ∀ (n : Nat) (x1 : Int32) (x2 : Int32) (x3 : Int32) (x4 : Int32) (x5 : Int32) (x6 : Int32) (x7 : Int32) (σ : Mem), w_X11_seekLess_48 rec_X11_seekLess Q n x1 x2 x3 x4 x5 x6 x7 σ → mG X 48 [(0, .ref (xB X + 0)), (1, .int x1), (2, .int x2), (3, .int x3), (4, .int x4), (5, .int x5), (6, .int x6), (7, .int x7)] [] σ 0 0 (mQ X 0 0 (qV Q)) := by
  intro n
  induction n with
  | zero => intro x1 x2 x3 x4 x5 x6 x7 σ hw; exact False.elim hw
  | succ n ih =>
    intro x1 x2 x3 x4 x5 x6 x7 σ hw
    rw [w_X11_seekLess_48] at hw
    refine g_iload hC dX11_seekLess_48 rfl ?_
    refine g_iload hC dX11_seekLess_50 rfl ?_
    refine g_icmp_gt (tgt := 128) hC dX11_seekLess_52 rfl (fun c => ?_) (fun c => ?_)
    · replace hw := hw.1 c
      exact g_vret hC (by decide) (by decide) dX11_seekLess_128 (fun _ => ⟨rfl, hw⟩)
    · replace hw := hw.2 c
      refine g_iload hC dX11_seekLess_55 rfl ?_
      refine g_iload hC dX11_seekLess_57 rfl ?_
      refine g_icmp_eq (tgt := 77) hC dX11_seekLess_59 rfl (fun c => ?_) (fun c => ?_)
      · replace hw := hw.1 c
        refine mG.pick (lv' := [(0, .ref (xB X + 0)), (1, .int x1), (2, .int x2), (3, .int x3), (4, .int x4), (5, .int x5), (6, .int x6), (7, .int x7)]) [0, 1, 2, 3, 4, 5, 6, 7] rfl ?_
        exact t_X11_seekLess_77 hC hd hN hP hT hF hrec_X11_seekLess ih hw
      · replace hw := hw.2 c
        refine g_aload_n hC dX11_seekLess_62 rfl ?_
        refine g_aload_n hC dX11_seekLess_63 rfl ?_
        refine g_getrS hC fl_X11_51_11.s (hT _ tg_G_0) (hP _ pt_G_0_11) dX11_seekLess_64 ?_
        refine g_iload hC dX11_seekLess_67 rfl ?_
        refine g_iload hC dX11_seekLess_69 rfl ?_
        refine g_known (fun hS => ?_)
        refine mG.st (st1 := ([.ref (xB X + 15), .int x7, .int x5] : List Value).reverse ++ .ref (xB X + 0) :: []) rfl ?_
        refine g_callV (As := [.ref (xB X + 15), .int x7, .int x5]) (st := []) hC (hS.2 _ (hT _ tg_G_0)) (by decide) ycl_11_X11_mayLie yw_X11_mayLie yv_X11_mayLie tw_253 dX11_seekLess_71 (fun _ h => h) (fun _ h => h) (fun h => h) (c_X11_mayLie_15 (d := 3) (Nat.le_refl _) hP hT hF hw) rfl (Nat.le_of_ble_eq_true rfl) (by omega) (by decide) (by decide) (kI fun v101 s103 hw => ?_)
        refine g_if_eq (tgt := 122) hC dX11_seekLess_74 rfl (fun c => ?_) (fun c => ?_)
        · replace hw := hw.1 c
          refine mG.pick (lv' := [(0, .ref (xB X + 0)), (1, .int x1), (2, .int x2), (3, .int x3), (4, .int x4), (5, .int x5), (6, .int x6), (7, .int x7)]) [0, 1, 2, 3, 4, 5, 6, 7] rfl ?_
          exact t_X11_seekLess_122 hC hd hN hP hT hF hrec_X11_seekLess ih hw
        · replace hw := hw.2 c
          refine mG.pick (lv' := [(0, .ref (xB X + 0)), (1, .int x1), (2, .int x2), (3, .int x3), (4, .int x4), (5, .int x5), (6, .int x6), (7, .int x7)]) [0, 1, 2, 3, 4, 5, 6, 7] rfl ?_
          exact t_X11_seekLess_77 hC hd hN hP hT hF hrec_X11_seekLess ih hw
def w_X11_seekLess (rec_X11_seekLess : Mem → Int32 → Int32 → Int32 → Int32 → (Mem → Prop) → Prop) (σ : Mem) (x1 : Int32) (x2 : Int32) (x3 : Int32) (x4 : Int32) (Q : Mem → Prop) : Prop := (x4 < (mI σ 0 13) → ((x3 ≤ x2 → (Q (sI σ 0 13 x4))) ∧ (¬ x3 ≤ x2 → ((x2 < 8 → (vp_in x2 8 ∧ (∀ v101 : Int32, v101 = (mI σ 20 (Int32.toNatClampNeg x2)) → (∃ m102 : Nat, w_X11_seekLess_48 rec_X11_seekLess Q m102 x1 x2 x3 x4 v101 (mI σ 15 2) 0 σ)))) ∧ (¬ x2 < 8 → (Q (sI σ 0 13 x4))))))) ∧ (¬ x4 < (mI σ 0 13) → (Q σ))
set_option maxRecDepth 4000 in
set_option maxHeartbeats 2000000 in
theorem t_X11_seekLess {X : Cx} {d : Nat} {dr : Nat} (hC : mOK X cX11_seekLess RX11 "seekLess" none d 0 0) (hd : dr + 4 ≤ d) (hN : ∀ i, i < 9 → i < xN X) (hP : ∀ e ∈ psG, e ∈ xP X) (hT : ∀ e ∈ tsG, e ∈ xT X) (hF : ∀ e ∈ xP X, e ∈ psA) {rec_X11_seekLess : Mem → Int32 → Int32 → Int32 → Int32 → (Mem → Prop) → Prop} (hrec_X11_seekLess : ∀ (s : Mem) (z0 : Int32) (z1 : Int32) (z2 : Int32) (z3 : Int32) (q : Mem → Prop), rec_X11_seekLess s z0 z1 z2 z3 q → mM (xZ X) (xP X) (xT X) yX11_seekLess cX11_seekLess 9 none dr 0 0 [.ref ((xB X) + 0), .int z0, .int z1, .int z2, .int z3] s (qV q)) {σ : Mem} {x1 : Int32} {x2 : Int32} {x3 : Int32} {x4 : Int32} {Q : Mem → Prop} (hw : w_X11_seekLess rec_X11_seekLess σ x1 x2 x3 x4 Q) : mG X 0 [(0, .ref (xB X + 0)), (1, .int x1), (2, .int x2), (3, .int x3), (4, .int x4)] [] σ 0 0 (mQ X 0 0 (qV Q)) := by
  refine g_iload hC dX11_seekLess_0 rfl ?_
  refine g_aload_n hC dX11_seekLess_2 rfl ?_
  refine g_getiSv (v := (mI σ 0 13)) hC fl_X11_241_11.s (hT _ tg_G_0) rfl dX11_seekLess_3 ?_
  refine g_icmp_lt (tgt := 10) hC dX11_seekLess_6 rfl (fun c => ?_) (fun c => ?_)
  · replace hw := hw.1 c
    refine g_iload_n hC dX11_seekLess_10 rfl ?_
    refine g_iload_n hC dX11_seekLess_11 rfl ?_
    refine g_icmp_ge (tgt := 21) hC dX11_seekLess_12 rfl (fun c => ?_) (fun c => ?_)
    · replace hw := hw.1 c
      refine g_aload_n hC dX11_seekLess_21 rfl ?_
      refine g_iload hC dX11_seekLess_22 rfl ?_
      refine g_putIS hC (fw_X11_241_11 _) (hT _ tg_G_0) rfl rfl dX11_seekLess_24 ?_
      exact g_vret hC (by decide) (by decide) dX11_seekLess_27 (fun _ => ⟨rfl, hw⟩)
    · replace hw := hw.2 c
      refine g_iload_n hC dX11_seekLess_15 rfl ?_
      refine g_bipush (v := 8) hC dX11_seekLess_16 (by decide) ?_
      refine g_icmp_lt (tgt := 28) hC dX11_seekLess_18 rfl (fun c => ?_) (fun c => ?_)
      · replace hw := hw.1 c
        refine g_aload_n hC dX11_seekLess_28 rfl ?_
        refine g_getrS hC fl_X11_55_11.s (hT _ tg_G_0) (hP _ pt_G_0_12) dX11_seekLess_29 ?_
        refine g_iload_n hC dX11_seekLess_32 rfl ?_
        refine g_ialdSv (v := (mI σ 20 (Int32.toNatClampNeg x2))) hC (hT _ tg_G_20) rfl hw.1 rfl dX11_seekLess_33 ?_
        replace hw := hw.2
        refine g_topi (fun v101 ev101 => ?_)
        replace hw := hw v101 ev101
        refine g_istore (lv' := [(5, .int v101), (0, .ref (xB X + 0)), (1, .int x1), (2, .int x2), (3, .int x3), (4, .int x4)]) hC dX11_seekLess_34 (hN 5 (by decide)) rfl ?_
        refine g_aload_n hC dX11_seekLess_36 rfl ?_
        refine g_getrS hC fl_X11_51_11.s (hT _ tg_G_0) (hP _ pt_G_0_11) dX11_seekLess_37 ?_
        refine g_getiSv (v := (mI σ 15 2)) hC fl_X11_185_1.s (hT _ tg_G_15) rfl dX11_seekLess_40 ?_
        refine g_istore (lv' := [(6, .int (mI σ 15 2)), (5, .int v101), (0, .ref (xB X + 0)), (1, .int x1), (2, .int x2), (3, .int x3), (4, .int x4)]) hC dX11_seekLess_43 (hN 6 (by decide)) rfl ?_
        refine g_iconst (v := 0) hC dX11_seekLess_45 (by decide) ?_
        refine g_istore (lv' := [(7, .int 0), (6, .int (mI σ 15 2)), (5, .int v101), (0, .ref (xB X + 0)), (1, .int x1), (2, .int x2), (3, .int x3), (4, .int x4)]) hC dX11_seekLess_46 (hN 7 (by decide)) rfl ?_
        refine mG.pick (lv' := [(0, .ref (xB X + 0)), (1, .int x1), (2, .int x2), (3, .int x3), (4, .int x4), (5, .int v101), (6, .int (mI σ 15 2)), (7, .int 0)]) [3, 4, 5, 6, 7, 2, 1, 0] rfl ?_
        obtain ⟨m102, hw⟩ := hw
        exact t_X11_seekLess_48 hC hd hN hP hT hF hrec_X11_seekLess m102 _ _ _ _ _ _ _ _ hw
      · replace hw := hw.2 c
        refine g_aload_n hC dX11_seekLess_21 rfl ?_
        refine g_iload hC dX11_seekLess_22 rfl ?_
        refine g_putIS hC (fw_X11_241_11 _) (hT _ tg_G_0) rfl rfl dX11_seekLess_24 ?_
        exact g_vret hC (by decide) (by decide) dX11_seekLess_27 (fun _ => ⟨rfl, hw⟩)
  · replace hw := hw.2 c
    exact g_vret hC (by decide) (by decide) dX11_seekLess_9 (fun _ => ⟨rfl, hw⟩)
set_option maxRecDepth 4000 in
theorem c_X11_seekLess {Z : Fx} {ps ts : List (Nat × Nat × Nat)} {d dr : Nat} (hd : dr + 4 ≤ d) {rec_X11_seekLess : Mem → Int32 → Int32 → Int32 → Int32 → (Mem → Prop) → Prop} (hrec_X11_seekLess : ∀ (s : Mem) (z0 : Int32) (z1 : Int32) (z2 : Int32) (z3 : Int32) (q : Mem → Prop), rec_X11_seekLess s z0 z1 z2 z3 q → mM Z ps ts yX11_seekLess cX11_seekLess 9 none dr 0 0 [.ref (Z.2.2 + 0), .int z0, .int z1, .int z2, .int z3] s (qV q)) (hP : ∀ e ∈ psG, e ∈ ps) (hT : ∀ e ∈ tsG, e ∈ ts) (hF : ∀ e ∈ ps, e ∈ psA) {σ : Mem} {x1 : Int32} {x2 : Int32} {x3 : Int32} {x4 : Int32} {Q : Mem → Prop} (hw : w_X11_seekLess rec_X11_seekLess σ x1 x2 x3 x4 Q) : mM Z ps ts yX11_seekLess cX11_seekLess 9 none d 0 0 [.ref (Z.2.2 + 0), .int x1, .int x2, .int x3, .int x4] σ (qV Q) := by
  refine mM.of (by decide) (Nat.le_of_ble_eq_true rfl) rfl (fun X hZ hp ht hn hC => ?_)
  subst hZ; subst hp; subst ht
  exact t_X11_seekLess hC hd (fun i h => by rw [hn]; exact h) hP hT hF hrec_X11_seekLess hw
def f_X11_seekLess : Nat → Mem → Int32 → Int32 → Int32 → Int32 → (Mem → Prop) → Prop
  | 0, _, _, _, _, _, _ => False
  | n + 1, σ, x1, x2, x3, x4, Q => w_X11_seekLess (f_X11_seekLess n) σ x1 x2 x3 x4 Q
theorem cf_X11_seekLess {Z : Fx} {ps ts : List (Nat × Nat × Nat)} (n : Nat) (hP : ∀ e ∈ psG, e ∈ ps) (hT : ∀ e ∈ tsG, e ∈ ts) (hF : ∀ e ∈ ps, e ∈ psA) : ∀ {σ : Mem} {x1 : Int32} {x2 : Int32} {x3 : Int32} {x4 : Int32} {Q : Mem → Prop}, f_X11_seekLess n σ x1 x2 x3 x4 Q → mM Z ps ts yX11_seekLess cX11_seekLess 9 none (4 * (n + 1)) 0 0 [.ref (Z.2.2 + 0), .int x1, .int x2, .int x3, .int x4] σ (qV Q) := by
  induction n with
  | zero => intro σ x1 x2 x3 x4 Q hw; exact False.elim hw
  | succ n ih =>
    intro σ x1 x2 x3 x4 Q hw
    rw [f_X11_seekLess] at hw
    exact c_X11_seekLess (dr := 4 * (n + 1)) (by omega) (fun s z0 z1 z2 z3 q h => ih h) hP hT hF hw
def w_X11_leastOf (σ : Mem) (x1 : Int32) (x2 : Int32) (x3 : Int32) (Q : Int32 → Mem → Prop) : Prop := w_X1_clear_15 σ (fun s103 => ∃ m107 : Nat, m107 ≤ 12 ∧ f_X11_seekLess m107 (sI s103 0 13 x3) x1 0 x2 0 (fun s106 => Q (mI s106 0 13) s106))
set_option maxRecDepth 4000 in
set_option maxHeartbeats 2000000 in
theorem t_X11_leastOf {X : Cx} {d : Nat} (hC : mOK X cX11_leastOf RX11 "leastOf" (some .int) d 0 0) (hd : 53 ≤ d) (hN : ∀ i, i < 4 → i < xN X) (hP : ∀ e ∈ psG, e ∈ xP X) (hT : ∀ e ∈ tsG, e ∈ xT X) (hF : ∀ e ∈ xP X, e ∈ psA) {σ : Mem} {x1 : Int32} {x2 : Int32} {x3 : Int32} {Q : Int32 → Mem → Prop} (hw : w_X11_leastOf σ x1 x2 x3 Q) : mG X 0 [(0, .ref (xB X + 0)), (1, .int x1), (2, .int x2), (3, .int x3)] [] σ 0 0 (mQ X 0 0 (qI Q)) := by
  refine g_aload_n hC dX11_leastOf_0 rfl ?_
  refine g_getrS hC fl_X11_51_11.s (hT _ tg_G_0) (hP _ pt_G_0_11) dX11_leastOf_1 ?_
  refine g_known (fun hS => ?_)
  refine mG.st (st1 := ([] : List Value).reverse ++ .ref (xB X + 15) :: []) rfl ?_
  refine g_callV (As := []) (st := []) hC (hS.2 _ (hT _ tg_G_15)) (by decide) ycl_1_X1_clear yw_X1_clear yv_X1_clear tw_243 dX11_leastOf_4 (fun _ h => h) (fun _ h => h) (fun h => h) (c_X1_clear_15 (d := 0) (Nat.le_refl _) hP hT hF hw) rfl (Nat.le_of_ble_eq_true rfl) (by omega) (by decide) (by decide) (kV fun s103 hw => ?_)
  refine g_aload_n hC dX11_leastOf_7 rfl ?_
  refine g_iload_n hC dX11_leastOf_8 rfl ?_
  refine g_putIS hC (fw_X11_241_11 _) (hT _ tg_G_0) rfl rfl dX11_leastOf_9 ?_
  refine g_aload_n hC dX11_leastOf_12 rfl ?_
  refine g_iload_n hC dX11_leastOf_13 rfl ?_
  refine g_iconst (v := 0) hC dX11_leastOf_14 (by decide) ?_
  refine g_iload_n hC dX11_leastOf_15 rfl ?_
  refine g_iconst (v := 0) hC dX11_leastOf_16 (by decide) ?_
  refine g_known (fun hS => ?_)
  obtain ⟨m107, hn, hw⟩ := hw
  refine mG.st (st1 := ([.int x1, .int 0, .int x2, .int 0] : List Value).reverse ++ .ref (xB X + 0) :: []) rfl ?_
  refine g_callV (As := [.int x1, .int 0, .int x2, .int 0]) (st := []) hC (hS.2 _ (hT _ tg_G_0)) (by decide) ycl_11_X11_seekLess yw_X11_seekLess yv_X11_seekLess tw_300 dX11_leastOf_17 (fun _ h => h) (fun _ h => h) (fun h => h) (cf_X11_seekLess m107 hP hT hF hw) rfl (Nat.le_of_ble_eq_true rfl) (by omega) (by decide) (by decide) (kV fun s106 hw => ?_)
  refine g_aload_n hC dX11_leastOf_20 rfl ?_
  refine g_getiSv (v := (mI s106 0 13)) hC fl_X11_241_11.s (hT _ tg_G_0) rfl dX11_leastOf_21 ?_
  exact g_iret hC rfl (by decide) (by decide) dX11_leastOf_24 (fun _ => ⟨_, rfl, hw⟩)
set_option maxRecDepth 4000 in
theorem c_X11_leastOf {Z : Fx} {ps ts : List (Nat × Nat × Nat)} {d : Nat} (hd : 53 ≤ d) (hP : ∀ e ∈ psG, e ∈ ps) (hT : ∀ e ∈ tsG, e ∈ ts) (hF : ∀ e ∈ ps, e ∈ psA) {σ : Mem} {x1 : Int32} {x2 : Int32} {x3 : Int32} {Q : Int32 → Mem → Prop} (hw : w_X11_leastOf σ x1 x2 x3 Q) : mM Z ps ts yX11_leastOf cX11_leastOf 4 (some .int) d 0 0 [.ref (Z.2.2 + 0), .int x1, .int x2, .int x3] σ (qI Q) := by
  refine mM.of (by decide) (Nat.le_of_ble_eq_true rfl) rfl (fun X hZ hp ht hn hC => ?_)
  subst hZ; subst hp; subst ht
  exact t_X11_leastOf hC hd (fun i h => by rw [hn]; exact h) hP hT hF hw
def w_X11_fewest (σ : Mem) (x1 : Int32) (Q : Int32 → Mem → Prop) : Prop := (x1 < 0 → (Q (-2) σ)) ∧ (¬ x1 < 0 → ((x1 ≤ 1 → (w_X11_orderOfNow σ (fun s103 => w_X11_leastOf s103 x1 (mI s103 0 2) 793 (fun v104 s106 => Q v104 s106)))) ∧ (¬ x1 ≤ 1 → (Q (-2) σ))))
set_option maxRecDepth 4000 in
set_option maxHeartbeats 2000000 in
theorem t_X11_fewest {X : Cx} {d : Nat} (hC : mOK X cX11_fewest RX11 "fewest" (some .int) d 0 0) (hd : 54 ≤ d) (hN : ∀ i, i < 2 → i < xN X) (hP : ∀ e ∈ psG, e ∈ xP X) (hT : ∀ e ∈ tsG, e ∈ xT X) (hF : ∀ e ∈ xP X, e ∈ psA) {σ : Mem} {x1 : Int32} {Q : Int32 → Mem → Prop} (hw : w_X11_fewest σ x1 Q) : mG X 0 [(0, .ref (xB X + 0)), (1, .int x1)] [] σ 0 0 (mQ X 0 0 (qI Q)) := by
  refine g_iload_n hC dX11_fewest_0 rfl ?_
  refine g_if_lt (tgt := 9) hC dX11_fewest_1 rfl (fun c => ?_) (fun c => ?_)
  · replace hw := hw.1 c
    refine g_bipush (v := (-2)) hC dX11_fewest_9 (by decide) ?_
    exact g_iret hC rfl (by decide) (by decide) dX11_fewest_11 (fun _ => ⟨_, rfl, hw⟩)
  · replace hw := hw.2 c
    refine g_iload_n hC dX11_fewest_4 rfl ?_
    refine g_iconst (v := 1) hC dX11_fewest_5 (by decide) ?_
    refine g_icmp_le (tgt := 12) hC dX11_fewest_6 rfl (fun c => ?_) (fun c => ?_)
    · replace hw := hw.1 c
      refine g_aload_n hC dX11_fewest_12 rfl ?_
      refine g_known (fun hS => ?_)
      refine mG.st (st1 := ([] : List Value).reverse ++ .ref (xB X + 0) :: []) rfl ?_
      refine g_callV (As := []) (st := []) hC (hS.2 _ (hT _ tg_G_0)) (by decide) ycl_11_X11_orderOfNow yw_X11_orderOfNow yv_X11_orderOfNow tw_240 dX11_fewest_13 (fun _ h => h) (fun _ h => h) (fun h => h) (c_X11_orderOfNow (d := 0) (Nat.le_refl _) hP hT hF hw) rfl (Nat.le_of_ble_eq_true rfl) (by omega) (by decide) (by decide) (kV fun s103 hw => ?_)
      refine g_aload_n hC dX11_fewest_16 rfl ?_
      refine g_iload_n hC dX11_fewest_17 rfl ?_
      refine g_aload_n hC dX11_fewest_18 rfl ?_
      refine g_getiSv (v := (mI s103 0 2)) hC fl_X11_101_11.s (hT _ tg_G_0) rfl dX11_fewest_19 ?_
      refine g_sipush (v := 793) hC dX11_fewest_22 (by decide) ?_
      refine g_known (fun hS => ?_)
      refine mG.st (st1 := ([.int x1, .int (mI s103 0 2), .int 793] : List Value).reverse ++ .ref (xB X + 0) :: []) rfl ?_
      refine g_callV (As := [.int x1, .int (mI s103 0 2), .int 793]) (st := []) hC (hS.2 _ (hT _ tg_G_0)) (by decide) ycl_11_X11_leastOf yw_X11_leastOf yv_X11_leastOf tw_299 dX11_fewest_25 (fun _ h => h) (fun _ h => h) (fun h => h) (c_X11_leastOf (d := 53) (Nat.le_refl _) hP hT hF hw) rfl (Nat.le_of_ble_eq_true rfl) (by omega) (by decide) (by decide) (kI fun v104 s106 hw => ?_)
      exact g_iret hC rfl (by decide) (by decide) dX11_fewest_28 (fun _ => ⟨_, rfl, hw⟩)
    · replace hw := hw.2 c
      refine g_bipush (v := (-2)) hC dX11_fewest_9 (by decide) ?_
      exact g_iret hC rfl (by decide) (by decide) dX11_fewest_11 (fun _ => ⟨_, rfl, hw⟩)
set_option maxRecDepth 4000 in
theorem c_X11_fewest {Z : Fx} {ps ts : List (Nat × Nat × Nat)} {d : Nat} (hd : 54 ≤ d) (hP : ∀ e ∈ psG, e ∈ ps) (hT : ∀ e ∈ tsG, e ∈ ts) (hF : ∀ e ∈ ps, e ∈ psA) {σ : Mem} {x1 : Int32} {Q : Int32 → Mem → Prop} (hw : w_X11_fewest σ x1 Q) : mM Z ps ts yX11_fewest cX11_fewest 2 (some .int) d 0 0 [.ref (Z.2.2 + 0), .int x1] σ (qI Q) := by
  refine mM.of (by decide) (Nat.le_of_ble_eq_true rfl) rfl (fun X hZ hp ht hn hC => ?_)
  subst hZ; subst hp; subst ht
  exact t_X11_fewest hC hd (fun i h => by rw [hn]; exact h) hP hT hF hw
def w_X11_lastOf_3 (Q : Int32 → Mem → Prop) : Nat → Int32 → Int32 → Mem → Prop
  | 0, _, _, _ => False
  | n + 1, x0, x1, σ => (x1 ≤ 0 → (Q 0 σ)) ∧ (¬ x1 ≤ 0 → ((((x0 >>> (x1 &&& 31)) &&& 1) = 0 → (w_X11_lastOf_3 Q n x0 (x1 + (-1)) σ)) ∧ (¬ ((x0 >>> (x1 &&& 31)) &&& 1) = 0 → (Q x1 σ))))
set_option maxRecDepth 4000 in
set_option maxHeartbeats 2000000 in
theorem t_X11_lastOf_3 {X : Cx} {d : Nat} (hC : mOK X cX11_lastOf RX11 "lastOf" (some .int) d 0 0) (hd : 0 ≤ d) (hN : ∀ i, i < 2 → i < xN X) {Q : Int32 → Mem → Prop} : ∀ (n : Nat) (x0 : Int32) (x1 : Int32) (σ : Mem), w_X11_lastOf_3 Q n x0 x1 σ → mG X 3 [(0, .int x0), (1, .int x1)] [] σ 0 0 (mQ X 0 0 (qI Q)) := by
  intro n
  induction n with
  | zero => intro x0 x1 σ hw; exact False.elim hw
  | succ n ih =>
    intro x0 x1 σ hw
    rw [w_X11_lastOf_3] at hw
    refine g_iload_n hC dX11_lastOf_3 rfl ?_
    refine g_if_le (tgt := 23) hC dX11_lastOf_4 rfl (fun c => ?_) (fun c => ?_)
    · replace hw := hw.1 c
      refine g_iconst (v := 0) hC dX11_lastOf_23 (by decide) ?_
      exact g_iret hC rfl (by decide) (by decide) dX11_lastOf_24 (fun _ => ⟨_, rfl, hw⟩)
    · replace hw := hw.2 c
      refine g_iload_n hC dX11_lastOf_7 rfl ?_
      refine g_iload_n hC dX11_lastOf_8 rfl ?_
      refine g_ishr hC dX11_lastOf_9 ?_
      refine g_iconst (v := 1) hC dX11_lastOf_10 (by decide) ?_
      refine g_iand hC dX11_lastOf_11 ?_
      refine g_if_eq (tgt := 17) hC dX11_lastOf_12 rfl (fun c => ?_) (fun c => ?_)
      · replace hw := hw.1 c
        refine g_iinc (v := x1 + (-1)) (lv' := [(1, .int (x1 + (-1))), (0, .int x0)]) hC dX11_lastOf_17 rfl rfl (hN 1 (by decide)) rfl ?_
        refine g_goto (tgt := 3) hC dX11_lastOf_20 rfl ?_
        refine mG.pick (lv' := [(0, .int x0), (1, .int (x1 + (-1)))]) [1, 0] rfl ?_
        exact ih _ _ _ hw
      · replace hw := hw.2 c
        refine g_iload_n hC dX11_lastOf_15 rfl ?_
        exact g_iret hC rfl (by decide) (by decide) dX11_lastOf_16 (fun _ => ⟨_, rfl, hw⟩)
def w_X11_lastOf (σ : Mem) (x0 : Int32) (Q : Int32 → Mem → Prop) : Prop := ∃ m101 : Nat, w_X11_lastOf_3 Q m101 x0 7 σ
set_option maxRecDepth 4000 in
set_option maxHeartbeats 2000000 in
theorem t_X11_lastOf {X : Cx} {d : Nat} (hC : mOK X cX11_lastOf RX11 "lastOf" (some .int) d 0 0) (hd : 0 ≤ d) (hN : ∀ i, i < 2 → i < xN X) {σ : Mem} {x0 : Int32} {Q : Int32 → Mem → Prop} (hw : w_X11_lastOf σ x0 Q) : mG X 0 [(0, .int x0)] [] σ 0 0 (mQ X 0 0 (qI Q)) := by
  refine g_bipush (v := 7) hC dX11_lastOf_0 (by decide) ?_
  refine g_istore_n (lv' := [(1, .int 7), (0, .int x0)]) hC dX11_lastOf_2 (hN 1 (by decide)) rfl ?_
  refine mG.pick (lv' := [(0, .int x0), (1, .int 7)]) [1, 0] rfl ?_
  obtain ⟨m101, hw⟩ := hw
  exact t_X11_lastOf_3 hC hd hN m101 _ _ _ hw
set_option maxRecDepth 4000 in
theorem c_X11_lastOf {Z : Fx} {ps ts : List (Nat × Nat × Nat)} {d : Nat} (hd : 0 ≤ d) {σ : Mem} {x0 : Int32} {Q : Int32 → Mem → Prop} (hw : w_X11_lastOf σ x0 Q) : mM Z ps ts yX11_lastOf cX11_lastOf 2 (some .int) d 0 0 [.int x0] σ (qI Q) := by
  refine mM.of (by decide) (Nat.le_of_ble_eq_true rfl) rfl (fun X hZ hp ht hn hC => ?_)
  subst hZ; subst hp; subst ht
  exact t_X11_lastOf hC hd (fun i h => by rw [hn]; exact h) hw
def w_X11_isRow (σ : Mem) (x1 : Int32) (Q : Int32 → Mem → Prop) : Prop := w_X11_lastOf σ x1 (fun v101 s103 => ∀ v104 : Int32, v104 = (x1 &&& (((1 : Int32) <<< (v101 &&& 31)) ^^^ (-1))) → ((¬ v104 = 0 → (vp_in v104 256 ∧ ((¬ (mI s103 24 (Int32.toNatClampNeg v104)) = 1 → (Q 0 s103)) ∧ ((mI s103 24 (Int32.toNatClampNeg v104)) = 1 → (w_X11_lastOf s103 v104 (fun v105 s107 => w_X11_worth s107 0 v101 v105 1 0 (fun v108 s110 => (¬ v108 = 0 → (Q 0 s110)) ∧ (v108 = 0 → (Q 1 s110))))))))) ∧ (v104 = 0 → (Q 1 s103))))
set_option maxRecDepth 4000 in
set_option maxHeartbeats 2000000 in
theorem t_X11_isRow {X : Cx} {d : Nat} (hC : mOK X cX11_isRow RX11 "isRow" (some .boolean) d 0 0) (hd : 3 ≤ d) (hN : ∀ i, i < 4 → i < xN X) (hP : ∀ e ∈ psG, e ∈ xP X) (hT : ∀ e ∈ tsG, e ∈ xT X) (hF : ∀ e ∈ xP X, e ∈ psA) {σ : Mem} {x1 : Int32} {Q : Int32 → Mem → Prop} (hw : w_X11_isRow σ x1 Q) : mG X 0 [(0, .ref (xB X + 0)), (1, .int x1)] [] σ 0 0 (mQ X 0 0 (qI Q)) := by
  refine g_iload_n hC dX11_isRow_0 rfl ?_
  refine mG.st (st1 := ([.int x1] : List Value).reverse ++ []) rfl ?_
  refine g_callS (As := [.int x1]) (st := []) hC yw_X11_lastOf ys_X11_lastOf tw_319 dX11_isRow_1 (fun _ h => h) (fun _ h => h) (fun h => h) (c_X11_lastOf (d := 0) (Nat.le_refl _) hw) rfl (Nat.le_of_ble_eq_true rfl) (by omega) (by decide) (by decide) (kI fun v101 s103 hw => ?_)
  refine g_istore_n (lv' := [(2, .int v101), (0, .ref (xB X + 0)), (1, .int x1)]) hC dX11_isRow_4 (hN 2 (by decide)) rfl ?_
  refine g_iload_n hC dX11_isRow_5 rfl ?_
  refine g_iconst (v := 1) hC dX11_isRow_6 (by decide) ?_
  refine g_iload_n hC dX11_isRow_7 rfl ?_
  refine g_ishl hC dX11_isRow_8 ?_
  refine g_iconst (v := (-1)) hC dX11_isRow_9 (by decide) ?_
  refine g_ixor hC dX11_isRow_10 ?_
  refine g_iand hC dX11_isRow_11 ?_
  refine g_topi (fun v104 ev104 => ?_)
  replace hw := hw v104 ev104
  refine g_istore_n (lv' := [(3, .int v104), (2, .int v101), (0, .ref (xB X + 0)), (1, .int x1)]) hC dX11_isRow_12 (hN 3 (by decide)) rfl ?_
  refine g_iload_n hC dX11_isRow_13 rfl ?_
  refine g_if_ne (tgt := 19) hC dX11_isRow_14 rfl (fun c => ?_) (fun c => ?_)
  · replace hw := hw.1 c
    refine g_aload_n hC dX11_isRow_19 rfl ?_
    refine g_getrS hC fl_X11_67_11.s (hT _ tg_G_0) (hP _ pt_G_0_18) dX11_isRow_20 ?_
    refine g_iload_n hC dX11_isRow_23 rfl ?_
    refine g_ialdSv (v := (mI s103 24 (Int32.toNatClampNeg v104))) hC (hT _ tg_G_24) rfl hw.1 rfl dX11_isRow_24 ?_
    replace hw := hw.2
    refine g_iconst (v := 1) hC dX11_isRow_25 (by decide) ?_
    refine g_icmp_ne (tgt := 48) hC dX11_isRow_26 rfl (fun c => ?_) (fun c => ?_)
    · replace hw := hw.1 c
      refine g_iconst (v := 0) hC dX11_isRow_48 (by decide) ?_
      exact g_iret hC bz0 (by decide) (by decide) dX11_isRow_49 (fun _ => ⟨_, rfl, hw⟩)
    · replace hw := hw.2 c
      refine g_aload_n hC dX11_isRow_29 rfl ?_
      refine g_iconst (v := 0) hC dX11_isRow_30 (by decide) ?_
      refine g_iload_n hC dX11_isRow_31 rfl ?_
      refine g_iload_n hC dX11_isRow_32 rfl ?_
      refine mG.st (st1 := ([.int v104] : List Value).reverse ++ [.int v101, .int 0, .ref (xB X + 0)]) rfl ?_
      refine g_callS (As := [.int v104]) (st := [.int v101, .int 0, .ref (xB X + 0)]) hC yw_X11_lastOf ys_X11_lastOf tw_319 dX11_isRow_33 (fun _ h => h) (fun _ h => h) (fun h => h) (c_X11_lastOf (d := 0) (Nat.le_refl _) hw) rfl (Nat.le_of_ble_eq_true rfl) (by omega) (by decide) (by decide) (kI fun v105 s107 hw => ?_)
      refine g_iconst (v := 1) hC dX11_isRow_36 (by decide) ?_
      refine g_iconst (v := 0) hC dX11_isRow_37 (by decide) ?_
      refine g_known (fun hS => ?_)
      refine mG.st (st1 := ([.int 0, .int v101, .int v105, .int 1, .int 0] : List Value).reverse ++ .ref (xB X + 0) :: []) rfl ?_
      refine g_callV (As := [.int 0, .int v101, .int v105, .int 1, .int 0]) (st := []) hC (hS.2 _ (hT _ tg_G_0)) (by decide) ycl_11_X11_worth yw_X11_worth yv_X11_worth tw_92 dX11_isRow_38 (fun _ h => h) (fun _ h => h) (fun h => h) (c_X11_worth (d := 2) (Nat.le_refl _) hP hT hF hw) rfl (Nat.le_of_ble_eq_true rfl) (by omega) (by decide) (by decide) (kI fun v108 s110 hw => ?_)
      refine g_if_ne (tgt := 48) hC dX11_isRow_41 rfl (fun c => ?_) (fun c => ?_)
      · replace hw := hw.1 c
        refine g_iconst (v := 0) hC dX11_isRow_48 (by decide) ?_
        exact g_iret hC bz0 (by decide) (by decide) dX11_isRow_49 (fun _ => ⟨_, rfl, hw⟩)
      · replace hw := hw.2 c
        refine g_iconst (v := 1) hC dX11_isRow_44 (by decide) ?_
        refine g_goto (tgt := 49) hC dX11_isRow_45 rfl ?_
        exact g_iret hC bz1 (by decide) (by decide) dX11_isRow_49 (fun _ => ⟨_, rfl, hw⟩)
  · replace hw := hw.2 c
    refine g_iconst (v := 1) hC dX11_isRow_17 (by decide) ?_
    exact g_iret hC bz1 (by decide) (by decide) dX11_isRow_18 (fun _ => ⟨_, rfl, hw⟩)
set_option maxRecDepth 4000 in
theorem c_X11_isRow {Z : Fx} {ps ts : List (Nat × Nat × Nat)} {d : Nat} (hd : 3 ≤ d) (hP : ∀ e ∈ psG, e ∈ ps) (hT : ∀ e ∈ tsG, e ∈ ts) (hF : ∀ e ∈ ps, e ∈ psA) {σ : Mem} {x1 : Int32} {Q : Int32 → Mem → Prop} (hw : w_X11_isRow σ x1 Q) : mM Z ps ts yX11_isRow cX11_isRow 4 (some .boolean) d 0 0 [.ref (Z.2.2 + 0), .int x1] σ (qI Q) := by
  refine mM.of (by decide) (Nat.le_of_ble_eq_true rfl) rfl (fun X hZ hp ht hn hC => ?_)
  subst hZ; subst hp; subst ht
  exact t_X11_isRow hC hd (fun i h => by rw [hn]; exact h) hP hT hF hw
def w_X11_rowsThatMake_56 (Q : Int32 → Mem → Prop) (K15 : Int32 → Int32 → Int32 → Int32 → Mem → Prop) (x1 : Int32) (x2 : Int32) (x3 : Int32) (x4 : Int32) (σ : Mem) : Prop := K15 x1 x2 x3 ((x4 - 1) &&& x1) σ
set_option maxRecDepth 4000 in
set_option maxHeartbeats 2000000 in
theorem t_X11_rowsThatMake_56 {X : Cx} {d : Nat} (hC : mOK X cX11_rowsThatMake RX11 "rowsThatMake" (some .int) d 0 0) (hd : 1 ≤ d) (hN : ∀ i, i < 5 → i < xN X) (hP : ∀ e ∈ psG, e ∈ xP X) (hT : ∀ e ∈ tsG, e ∈ xT X) (hF : ∀ e ∈ xP X, e ∈ psA) {Q : Int32 → Mem → Prop} {K15 : Int32 → Int32 → Int32 → Int32 → Mem → Prop} (hK15 : ∀ (x1 : Int32) (x2 : Int32) (x3 : Int32) (x4 : Int32) (s : Mem), K15 x1 x2 x3 x4 s → mG X 15 [(0, .ref (xB X + 0)), (1, .int x1), (2, .int x2), (3, .int x3), (4, .int x4)] [] s 0 0 (mQ X 0 0 (qI Q))) {x1 : Int32} {x2 : Int32} {x3 : Int32} {x4 : Int32} {σ : Mem} (hw : w_X11_rowsThatMake_56 Q K15 x1 x2 x3 x4 σ) : mG X 56 [(0, .ref (xB X + 0)), (1, .int x1), (2, .int x2), (3, .int x3), (4, .int x4)] [] σ 0 0 (mQ X 0 0 (qI Q)) := by
  refine g_iload hC dX11_rowsThatMake_56 rfl ?_
  refine g_iconst (v := 1) hC dX11_rowsThatMake_58 (by decide) ?_
  refine g_isub hC dX11_rowsThatMake_59 ?_
  refine g_iload_n hC dX11_rowsThatMake_60 rfl ?_
  refine g_iand hC dX11_rowsThatMake_61 ?_
  refine g_istore (lv' := [(4, .int ((x4 - 1) &&& x1)), (0, .ref (xB X + 0)), (1, .int x1), (2, .int x2), (3, .int x3)]) hC dX11_rowsThatMake_62 (hN 4 (by decide)) rfl ?_
  refine g_goto (tgt := 15) hC dX11_rowsThatMake_64 rfl ?_
  refine mG.pick (lv' := [(0, .ref (xB X + 0)), (1, .int x1), (2, .int x2), (3, .int x3), (4, .int ((x4 - 1) &&& x1))]) [1, 2, 3, 4, 0] rfl ?_
  exact hK15 _ _ _ _ _ hw
def w_X11_rowsThatMake_15 (Q : Int32 → Mem → Prop) : Nat → Int32 → Int32 → Int32 → Int32 → Mem → Prop
  | 0, _, _, _, _, _ => False
  | n + 1, x1, x2, x3, x4, σ => (x4 ≤ 0 → (Q x3 σ)) ∧ (¬ x4 ≤ 0 → (((x4 &&& x2) = 0 → (w_X11_rowsThatMake_56 Q (fun z0 z1 z2 z3 z4 => w_X11_rowsThatMake_15 Q n z0 z1 z2 z3 z4) x1 x2 x3 x4 σ)) ∧ (¬ (x4 &&& x2) = 0 → (vp_in x4 256 ∧ ((¬ (mI σ 24 (Int32.toNatClampNeg x4)) = 1 → (w_X11_rowsThatMake_56 Q (fun z0 z1 z2 z3 z4 => w_X11_rowsThatMake_15 Q n z0 z1 z2 z3 z4) x1 x2 x3 x4 σ)) ∧ ((mI σ 24 (Int32.toNatClampNeg x4)) = 1 → (vp_in (x1 &&& (x4 ^^^ (-1))) 256 ∧ (∀ v101 : Int32, v101 = (if (1 + (mI σ 24 (Int32.toNatClampNeg (x1 &&& (x4 ^^^ (-1)))))) < x3 then (1 + (mI σ 24 (Int32.toNatClampNeg (x1 &&& (x4 ^^^ (-1)))))) else x3) → (w_X11_rowsThatMake_56 Q (fun z0 z1 z2 z3 z4 => w_X11_rowsThatMake_15 Q n z0 z1 z2 z3 z4) x1 x2 v101 x4 σ)))))))))
set_option maxRecDepth 4000 in
set_option maxHeartbeats 2000000 in
theorem t_X11_rowsThatMake_15 {X : Cx} {d : Nat} (hC : mOK X cX11_rowsThatMake RX11 "rowsThatMake" (some .int) d 0 0) (hd : 1 ≤ d) (hN : ∀ i, i < 5 → i < xN X) (hP : ∀ e ∈ psG, e ∈ xP X) (hT : ∀ e ∈ tsG, e ∈ xT X) (hF : ∀ e ∈ xP X, e ∈ psA) {Q : Int32 → Mem → Prop} : ∀ (n : Nat) (x1 : Int32) (x2 : Int32) (x3 : Int32) (x4 : Int32) (σ : Mem), w_X11_rowsThatMake_15 Q n x1 x2 x3 x4 σ → mG X 15 [(0, .ref (xB X + 0)), (1, .int x1), (2, .int x2), (3, .int x3), (4, .int x4)] [] σ 0 0 (mQ X 0 0 (qI Q)) := by
  intro n
  induction n with
  | zero => intro x1 x2 x3 x4 σ hw; exact False.elim hw
  | succ n ih =>
    intro x1 x2 x3 x4 σ hw
    rw [w_X11_rowsThatMake_15] at hw
    refine g_iload hC dX11_rowsThatMake_15 rfl ?_
    refine g_if_le (tgt := 67) hC dX11_rowsThatMake_17 rfl (fun c => ?_) (fun c => ?_)
    · replace hw := hw.1 c
      refine g_iload_n hC dX11_rowsThatMake_67 rfl ?_
      exact g_iret hC rfl (by decide) (by decide) dX11_rowsThatMake_68 (fun _ => ⟨_, rfl, hw⟩)
    · replace hw := hw.2 c
      refine g_iload hC dX11_rowsThatMake_20 rfl ?_
      refine g_iload_n hC dX11_rowsThatMake_22 rfl ?_
      refine g_iand hC dX11_rowsThatMake_23 ?_
      refine g_if_eq (tgt := 56) hC dX11_rowsThatMake_24 rfl (fun c => ?_) (fun c => ?_)
      · replace hw := hw.1 c
        refine mG.pick (lv' := [(0, .ref (xB X + 0)), (1, .int x1), (2, .int x2), (3, .int x3), (4, .int x4)]) [0, 1, 2, 3, 4] rfl ?_
        exact t_X11_rowsThatMake_56 hC hd hN hP hT hF ih hw
      · replace hw := hw.2 c
        refine g_aload_n hC dX11_rowsThatMake_27 rfl ?_
        refine g_getrS hC fl_X11_67_11.s (hT _ tg_G_0) (hP _ pt_G_0_18) dX11_rowsThatMake_28 ?_
        refine g_iload hC dX11_rowsThatMake_31 rfl ?_
        refine g_ialdSv (v := (mI σ 24 (Int32.toNatClampNeg x4))) hC (hT _ tg_G_24) rfl hw.1 rfl dX11_rowsThatMake_33 ?_
        replace hw := hw.2
        refine g_iconst (v := 1) hC dX11_rowsThatMake_34 (by decide) ?_
        refine g_icmp_ne (tgt := 56) hC dX11_rowsThatMake_35 rfl (fun c => ?_) (fun c => ?_)
        · replace hw := hw.1 c
          refine mG.pick (lv' := [(0, .ref (xB X + 0)), (1, .int x1), (2, .int x2), (3, .int x3), (4, .int x4)]) [0, 1, 2, 3, 4] rfl ?_
          exact t_X11_rowsThatMake_56 hC hd hN hP hT hF ih hw
        · replace hw := hw.2 c
          refine g_iload_n hC dX11_rowsThatMake_38 rfl ?_
          refine g_iconst (v := 1) hC dX11_rowsThatMake_39 (by decide) ?_
          refine g_aload_n hC dX11_rowsThatMake_40 rfl ?_
          refine g_getrS hC fl_X11_67_11.s (hT _ tg_G_0) (hP _ pt_G_0_18) dX11_rowsThatMake_41 ?_
          refine g_iload_n hC dX11_rowsThatMake_44 rfl ?_
          refine g_iload hC dX11_rowsThatMake_45 rfl ?_
          refine g_iconst (v := (-1)) hC dX11_rowsThatMake_47 (by decide) ?_
          refine g_ixor hC dX11_rowsThatMake_48 ?_
          refine g_iand hC dX11_rowsThatMake_49 ?_
          refine g_ialdSv (v := (mI σ 24 (Int32.toNatClampNeg (x1 &&& (x4 ^^^ (-1)))))) hC (hT _ tg_G_24) rfl hw.1 rfl dX11_rowsThatMake_50 ?_
          replace hw := hw.2
          refine g_iadd hC dX11_rowsThatMake_51 ?_
          refine g_mmin hC tw_117 tw_119 tw_5 tw_120 (Nat.le_of_ble_eq_true rfl) (by omega) (by decide) (by decide) dX11_rowsThatMake_52 ?_
          refine g_topi (fun v101 ev101 => ?_)
          replace hw := hw v101 ev101
          refine g_istore_n (lv' := [(3, .int v101), (0, .ref (xB X + 0)), (1, .int x1), (2, .int x2), (4, .int x4)]) hC dX11_rowsThatMake_55 (hN 3 (by decide)) rfl ?_
          refine mG.pick (lv' := [(0, .ref (xB X + 0)), (1, .int x1), (2, .int x2), (3, .int v101), (4, .int x4)]) [1, 2, 3, 0, 4] rfl ?_
          exact t_X11_rowsThatMake_56 hC hd hN hP hT hF ih hw
def w_X11_rowsThatMake (σ : Mem) (x1 : Int32) (Q : Int32 → Mem → Prop) : Prop := ∃ m101 : Nat, w_X11_rowsThatMake_15 Q m101 x1 (x1 &&& (0 - x1)) 8 ((x1 - 1) &&& x1) σ
set_option maxRecDepth 4000 in
set_option maxHeartbeats 2000000 in
theorem t_X11_rowsThatMake {X : Cx} {d : Nat} (hC : mOK X cX11_rowsThatMake RX11 "rowsThatMake" (some .int) d 0 0) (hd : 1 ≤ d) (hN : ∀ i, i < 5 → i < xN X) (hP : ∀ e ∈ psG, e ∈ xP X) (hT : ∀ e ∈ tsG, e ∈ xT X) (hF : ∀ e ∈ xP X, e ∈ psA) {σ : Mem} {x1 : Int32} {Q : Int32 → Mem → Prop} (hw : w_X11_rowsThatMake σ x1 Q) : mG X 0 [(0, .ref (xB X + 0)), (1, .int x1)] [] σ 0 0 (mQ X 0 0 (qI Q)) := by
  refine g_iload_n hC dX11_rowsThatMake_0 rfl ?_
  refine g_iload_n hC dX11_rowsThatMake_1 rfl ?_
  refine g_ineg hC dX11_rowsThatMake_2 ?_
  refine g_iand hC dX11_rowsThatMake_3 ?_
  refine g_istore_n (lv' := [(2, .int (x1 &&& (0 - x1))), (0, .ref (xB X + 0)), (1, .int x1)]) hC dX11_rowsThatMake_4 (hN 2 (by decide)) rfl ?_
  refine g_bipush (v := 8) hC dX11_rowsThatMake_5 (by decide) ?_
  refine g_istore_n (lv' := [(3, .int 8), (2, .int (x1 &&& (0 - x1))), (0, .ref (xB X + 0)), (1, .int x1)]) hC dX11_rowsThatMake_7 (hN 3 (by decide)) rfl ?_
  refine g_iload_n hC dX11_rowsThatMake_8 rfl ?_
  refine g_iconst (v := 1) hC dX11_rowsThatMake_9 (by decide) ?_
  refine g_isub hC dX11_rowsThatMake_10 ?_
  refine g_iload_n hC dX11_rowsThatMake_11 rfl ?_
  refine g_iand hC dX11_rowsThatMake_12 ?_
  refine g_istore (lv' := [(4, .int ((x1 - 1) &&& x1)), (3, .int 8), (2, .int (x1 &&& (0 - x1))), (0, .ref (xB X + 0)), (1, .int x1)]) hC dX11_rowsThatMake_13 (hN 4 (by decide)) rfl ?_
  refine mG.pick (lv' := [(0, .ref (xB X + 0)), (1, .int x1), (2, .int (x1 &&& (0 - x1))), (3, .int 8), (4, .int ((x1 - 1) &&& x1))]) [3, 4, 2, 1, 0] rfl ?_
  obtain ⟨m101, hw⟩ := hw
  exact t_X11_rowsThatMake_15 hC hd hN hP hT hF m101 _ _ _ _ _ hw
set_option maxRecDepth 4000 in
theorem c_X11_rowsThatMake {Z : Fx} {ps ts : List (Nat × Nat × Nat)} {d : Nat} (hd : 1 ≤ d) (hP : ∀ e ∈ psG, e ∈ ps) (hT : ∀ e ∈ tsG, e ∈ ts) (hF : ∀ e ∈ ps, e ∈ psA) {σ : Mem} {x1 : Int32} {Q : Int32 → Mem → Prop} (hw : w_X11_rowsThatMake σ x1 Q) : mM Z ps ts yX11_rowsThatMake cX11_rowsThatMake 5 (some .int) d 0 0 [.ref (Z.2.2 + 0), .int x1] σ (qI Q) := by
  refine mM.of (by decide) (Nat.le_of_ble_eq_true rfl) rfl (fun X hZ hp ht hn hC => ?_)
  subst hZ; subst hp; subst ht
  exact t_X11_rowsThatMake hC hd (fun i h => by rw [hn]; exact h) hP hT hF hw
def w_X11_fillCover_41 (Q : Mem → Prop) (K9 : Int32 → Mem → Prop) (x1 : Int32) (xy0 : Int32) (xy1 : Int32) (σ : Mem) : Prop := vp_in xy1 256 ∧ (K9 (x1 + 1) (sI σ 24 (Int32.toNatClampNeg xy1) xy0))
set_option maxRecDepth 4000 in
set_option maxHeartbeats 2000000 in
theorem t_X11_fillCover_41 {X : Cx} {d : Nat} (hC : mOK X cX11_fillCover RX11 "fillCover" none d 0 0) (hd : 4 ≤ d) (hN : ∀ i, i < 2 → i < xN X) (hP : ∀ e ∈ psG, e ∈ xP X) (hT : ∀ e ∈ tsG, e ∈ xT X) (hF : ∀ e ∈ xP X, e ∈ psA) {Q : Mem → Prop} {K9 : Int32 → Mem → Prop} (hK9 : ∀ (x1 : Int32) (s : Mem), K9 x1 s → mG X 9 [(0, .ref (xB X + 0)), (1, .int x1)] [] s 0 0 (mQ X 0 0 (qV Q))) {x1 : Int32} {xy0 : Int32} {xy1 : Int32} {σ : Mem} (hw : w_X11_fillCover_41 Q K9 x1 xy0 xy1 σ) : mG X 41 [(0, .ref (xB X + 0)), (1, .int x1)] [.int xy0, .int xy1, .ref (xB X + 24)] σ 0 0 (mQ X 0 0 (qV Q)) := by
  have hin := hw.1
  replace hw := hw.2
  refine g_iastS (k := (Int32.toNatClampNeg xy1)) hC (hT _ tg_G_24) rfl hin dX11_fillCover_41 ?_
  refine g_iinc (v := x1 + 1) (lv' := [(1, .int (x1 + 1)), (0, .ref (xB X + 0))]) hC dX11_fillCover_42 rfl rfl (hN 1 (by decide)) rfl ?_
  refine g_goto (tgt := 9) hC dX11_fillCover_45 rfl ?_
  refine mG.pick (lv' := [(0, .ref (xB X + 0)), (1, .int (x1 + 1))]) [1, 0] rfl ?_
  exact hK9 _ _ hw
def w_X11_fillCover_9 (Q : Mem → Prop) : Nat → Int32 → Mem → Prop
  | 0, _, _ => False
  | n + 1, x1, σ => (((1 : Int32) <<< ((mI σ 0 2) &&& 31)) ≤ x1 → (Q σ)) ∧ (¬ ((1 : Int32) <<< ((mI σ 0 2) &&& 31)) ≤ x1 → (w_X11_isRow σ x1 (fun v101 s103 => (v101 = 0 → (w_X11_rowsThatMake s103 x1 (fun v104 s106 => w_X11_fillCover_41 Q (fun z0 z1 => w_X11_fillCover_9 Q n z0 z1) x1 v104 x1 s106))) ∧ (¬ v101 = 0 → (w_X11_fillCover_41 Q (fun z0 z1 => w_X11_fillCover_9 Q n z0 z1) x1 1 x1 s103)))))
set_option maxRecDepth 4000 in
set_option maxHeartbeats 2000000 in
theorem t_X11_fillCover_9 {X : Cx} {d : Nat} (hC : mOK X cX11_fillCover RX11 "fillCover" none d 0 0) (hd : 4 ≤ d) (hN : ∀ i, i < 2 → i < xN X) (hP : ∀ e ∈ psG, e ∈ xP X) (hT : ∀ e ∈ tsG, e ∈ xT X) (hF : ∀ e ∈ xP X, e ∈ psA) {Q : Mem → Prop} : ∀ (n : Nat) (x1 : Int32) (σ : Mem), w_X11_fillCover_9 Q n x1 σ → mG X 9 [(0, .ref (xB X + 0)), (1, .int x1)] [] σ 0 0 (mQ X 0 0 (qV Q)) := by
  intro n
  induction n with
  | zero => intro x1 σ hw; exact False.elim hw
  | succ n ih =>
    intro x1 σ hw
    rw [w_X11_fillCover_9] at hw
    refine g_iload_n hC dX11_fillCover_9 rfl ?_
    refine g_iconst (v := 1) hC dX11_fillCover_10 (by decide) ?_
    refine g_aload_n hC dX11_fillCover_11 rfl ?_
    refine g_getiSv (v := (mI σ 0 2)) hC fl_X11_101_11.s (hT _ tg_G_0) rfl dX11_fillCover_12 ?_
    refine g_ishl hC dX11_fillCover_15 ?_
    refine g_icmp_ge (tgt := 48) hC dX11_fillCover_16 rfl (fun c => ?_) (fun c => ?_)
    · replace hw := hw.1 c
      exact g_vret hC (by decide) (by decide) dX11_fillCover_48 (fun _ => ⟨rfl, hw⟩)
    · replace hw := hw.2 c
      refine g_aload_n hC dX11_fillCover_19 rfl ?_
      refine g_getrS hC fl_X11_67_11.s (hT _ tg_G_0) (hP _ pt_G_0_18) dX11_fillCover_20 ?_
      refine g_iload_n hC dX11_fillCover_23 rfl ?_
      refine g_aload_n hC dX11_fillCover_24 rfl ?_
      refine g_iload_n hC dX11_fillCover_25 rfl ?_
      refine g_known (fun hS => ?_)
      refine mG.st (st1 := ([.int x1] : List Value).reverse ++ .ref (xB X + 0) :: [.int x1, .ref (xB X + 24)]) rfl ?_
      refine g_callV (As := [.int x1]) (st := [.int x1, .ref (xB X + 24)]) hC (hS.2 _ (hT _ tg_G_0)) (by decide) ycl_11_X11_isRow yw_X11_isRow yv_X11_isRow tw_318 dX11_fillCover_26 (fun _ h => h) (fun _ h => h) (fun h => h) (c_X11_isRow (d := 3) (Nat.le_refl _) hP hT hF hw) rfl (Nat.le_of_ble_eq_true rfl) (by omega) (by decide) (by decide) (kI fun v101 s103 hw => ?_)
      refine g_if_eq (tgt := 36) hC dX11_fillCover_29 rfl (fun c => ?_) (fun c => ?_)
      · replace hw := hw.1 c
        refine g_aload_n hC dX11_fillCover_36 rfl ?_
        refine g_iload_n hC dX11_fillCover_37 rfl ?_
        refine g_known (fun hS => ?_)
        refine mG.st (st1 := ([.int x1] : List Value).reverse ++ .ref (xB X + 0) :: [.int x1, .ref (xB X + 24)]) rfl ?_
        refine g_callV (As := [.int x1]) (st := [.int x1, .ref (xB X + 24)]) hC (hS.2 _ (hT _ tg_G_0)) (by decide) ycl_11_X11_rowsThatMake yw_X11_rowsThatMake yv_X11_rowsThatMake tw_322 dX11_fillCover_38 (fun _ h => h) (fun _ h => h) (fun h => h) (c_X11_rowsThatMake (d := 1) (Nat.le_refl _) hP hT hF hw) rfl (Nat.le_of_ble_eq_true rfl) (by omega) (by decide) (by decide) (kI fun v104 s106 hw => ?_)
        refine mG.pick (lv' := [(0, .ref (xB X + 0)), (1, .int x1)]) [0, 1] rfl ?_
        exact t_X11_fillCover_41 hC hd hN hP hT hF ih hw
      · replace hw := hw.2 c
        refine g_iconst (v := 1) hC dX11_fillCover_32 (by decide) ?_
        refine g_goto (tgt := 41) hC dX11_fillCover_33 rfl ?_
        refine mG.pick (lv' := [(0, .ref (xB X + 0)), (1, .int x1)]) [0, 1] rfl ?_
        exact t_X11_fillCover_41 hC hd hN hP hT hF ih hw
def w_X11_fillCover (σ : Mem) (Q : Mem → Prop) : Prop := (∃ m101 : Nat, w_X11_fillCover_9 Q m101 1 (sI σ 24 0 0))
set_option maxRecDepth 4000 in
set_option maxHeartbeats 2000000 in
theorem t_X11_fillCover {X : Cx} {d : Nat} (hC : mOK X cX11_fillCover RX11 "fillCover" none d 0 0) (hd : 4 ≤ d) (hN : ∀ i, i < 2 → i < xN X) (hP : ∀ e ∈ psG, e ∈ xP X) (hT : ∀ e ∈ tsG, e ∈ xT X) (hF : ∀ e ∈ xP X, e ∈ psA) {σ : Mem} {Q : Mem → Prop} (hw : w_X11_fillCover σ Q) : mG X 0 [(0, .ref (xB X + 0))] [] σ 0 0 (mQ X 0 0 (qV Q)) := by
  refine g_aload_n hC dX11_fillCover_0 rfl ?_
  refine g_getrS hC fl_X11_67_11.s (hT _ tg_G_0) (hP _ pt_G_0_18) dX11_fillCover_1 ?_
  refine g_iconst (v := 0) hC dX11_fillCover_4 (by decide) ?_
  refine g_iconst (v := 0) hC dX11_fillCover_5 (by decide) ?_
  refine g_iastS (k := 0) hC (hT _ tg_G_24) (by decide) (vpl (by decide)) dX11_fillCover_6 ?_
  refine g_iconst (v := 1) hC dX11_fillCover_7 (by decide) ?_
  refine g_istore_n (lv' := [(1, .int 1), (0, .ref (xB X + 0))]) hC dX11_fillCover_8 (hN 1 (by decide)) rfl ?_
  refine mG.pick (lv' := [(0, .ref (xB X + 0)), (1, .int 1)]) [1, 0] rfl ?_
  obtain ⟨m101, hw⟩ := hw
  exact t_X11_fillCover_9 hC hd hN hP hT hF m101 _ _ hw
set_option maxRecDepth 4000 in
theorem c_X11_fillCover {Z : Fx} {ps ts : List (Nat × Nat × Nat)} {d : Nat} (hd : 4 ≤ d) (hP : ∀ e ∈ psG, e ∈ ps) (hT : ∀ e ∈ tsG, e ∈ ts) (hF : ∀ e ∈ ps, e ∈ psA) {σ : Mem} {Q : Mem → Prop} (hw : w_X11_fillCover σ Q) : mM Z ps ts yX11_fillCover cX11_fillCover 2 none d 0 0 [.ref (Z.2.2 + 0)] σ (qV Q) := by
  refine mM.of (by decide) (Nat.le_of_ble_eq_true rfl) rfl (fun X hZ hp ht hn hC => ?_)
  subst hZ; subst hp; subst ht
  exact t_X11_fillCover hC hd (fun i h => by rw [hn]; exact h) hP hT hF hw
def w_X11_longest_127 (Q : Int32 → Mem → Prop) (K29 : Int32 → Int32 → Int32 → Int32 → Int32 → Int32 → Mem → Prop) (x1 : Int32) (x2 : Int32) (x3 : Int32) (x4 : Int32) (x5 : Int32) (x6 : Int32) (σ : Mem) : Prop := K29 x1 x2 x3 x4 x5 (x6 + 1) σ
set_option maxRecDepth 4000 in
set_option maxHeartbeats 2000000 in
theorem t_X11_longest_127 {X : Cx} {d : Nat} (hC : mOK X cX11_longest RX11 "longest" (some .int) d 0 0) (hd : 5 ≤ d) (hN : ∀ i, i < 9 → i < xN X) (hP : ∀ e ∈ psG, e ∈ xP X) (hT : ∀ e ∈ tsG, e ∈ xT X) (hF : ∀ e ∈ xP X, e ∈ psA) {Q : Int32 → Mem → Prop} {K29 : Int32 → Int32 → Int32 → Int32 → Int32 → Int32 → Mem → Prop} (hK29 : ∀ (x1 : Int32) (x2 : Int32) (x3 : Int32) (x4 : Int32) (x5 : Int32) (x6 : Int32) (s : Mem), K29 x1 x2 x3 x4 x5 x6 s → mG X 29 [(0, .ref (xB X + 0)), (1, .int x1), (2, .int x2), (3, .int x3), (4, .int x4), (5, .int x5), (6, .int x6)] [] s 0 0 (mQ X 0 0 (qI Q))) {x1 : Int32} {x2 : Int32} {x3 : Int32} {x4 : Int32} {x5 : Int32} {x6 : Int32} {σ : Mem} (hw : w_X11_longest_127 Q K29 x1 x2 x3 x4 x5 x6 σ) : mG X 127 [(0, .ref (xB X + 0)), (1, .int x1), (2, .int x2), (3, .int x3), (4, .int x4), (5, .int x5), (6, .int x6)] [] σ 0 0 (mQ X 0 0 (qI Q)) := by
  refine g_iinc (v := x6 + 1) (lv' := [(6, .int (x6 + 1)), (0, .ref (xB X + 0)), (1, .int x1), (2, .int x2), (3, .int x3), (4, .int x4), (5, .int x5)]) hC dX11_longest_127 rfl rfl (hN 6 (by decide)) rfl ?_
  refine g_goto (tgt := 29) hC dX11_longest_130 rfl ?_
  refine mG.pick (lv' := [(0, .ref (xB X + 0)), (1, .int x1), (2, .int x2), (3, .int x3), (4, .int x4), (5, .int x5), (6, .int (x6 + 1))]) [1, 2, 3, 4, 5, 6, 0] rfl ?_
  exact hK29 _ _ _ _ _ _ _ hw
def w_X11_longest_125 (Q : Int32 → Mem → Prop) (K29 : Int32 → Int32 → Int32 → Int32 → Int32 → Int32 → Mem → Prop) (x1 : Int32) (x2 : Int32) (x3 : Int32) (x4 : Int32) (x6 : Int32) (xy0 : Int32) (σ : Mem) : Prop := w_X11_longest_127 Q K29 x1 x2 x3 x4 xy0 x6 σ
set_option maxRecDepth 4000 in
set_option maxHeartbeats 2000000 in
theorem t_X11_longest_125 {X : Cx} {d : Nat} (hC : mOK X cX11_longest RX11 "longest" (some .int) d 0 0) (hd : 5 ≤ d) (hN : ∀ i, i < 9 → i < xN X) (hP : ∀ e ∈ psG, e ∈ xP X) (hT : ∀ e ∈ tsG, e ∈ xT X) (hF : ∀ e ∈ xP X, e ∈ psA) {Q : Int32 → Mem → Prop} {K29 : Int32 → Int32 → Int32 → Int32 → Int32 → Int32 → Mem → Prop} (hK29 : ∀ (x1 : Int32) (x2 : Int32) (x3 : Int32) (x4 : Int32) (x5 : Int32) (x6 : Int32) (s : Mem), K29 x1 x2 x3 x4 x5 x6 s → mG X 29 [(0, .ref (xB X + 0)), (1, .int x1), (2, .int x2), (3, .int x3), (4, .int x4), (5, .int x5), (6, .int x6)] [] s 0 0 (mQ X 0 0 (qI Q))) {x1 : Int32} {x2 : Int32} {x3 : Int32} {x4 : Int32} {x6 : Int32} {xy0 : Int32} {σ : Mem} (hw : w_X11_longest_125 Q K29 x1 x2 x3 x4 x6 xy0 σ) : mG X 125 [(0, .ref (xB X + 0)), (1, .int x1), (2, .int x2), (3, .int x3), (4, .int x4), (6, .int x6)] [.int xy0] σ 0 0 (mQ X 0 0 (qI Q)) := by
  refine g_istore (lv' := [(5, .int xy0), (0, .ref (xB X + 0)), (1, .int x1), (2, .int x2), (3, .int x3), (4, .int x4), (6, .int x6)]) hC dX11_longest_125 (hN 5 (by decide)) rfl ?_
  refine mG.pick (lv' := [(0, .ref (xB X + 0)), (1, .int x1), (2, .int x2), (3, .int x3), (4, .int x4), (5, .int xy0), (6, .int x6)]) [1, 2, 3, 4, 5, 0, 6] rfl ?_
  exact t_X11_longest_127 hC hd hN hP hT hF hK29 hw
def w_X11_longest_111 (Q : Int32 → Mem → Prop) (K29 : Int32 → Int32 → Int32 → Int32 → Int32 → Int32 → Mem → Prop) (x1 : Int32) (x2 : Int32) (x3 : Int32) (x5 : Int32) (x6 : Int32) (x8 : Int32) (xy0 : Int32) (σ : Mem) : Prop := (x8 = 0 → (w_X11_longest_125 Q K29 x1 x2 x3 xy0 x6 x5 σ)) ∧ (¬ x8 = 0 → (w_X11_longest_125 Q K29 x1 x2 x3 xy0 x6 x6 σ))
set_option maxRecDepth 4000 in
set_option maxHeartbeats 2000000 in
theorem t_X11_longest_111 {X : Cx} {d : Nat} (hC : mOK X cX11_longest RX11 "longest" (some .int) d 0 0) (hd : 5 ≤ d) (hN : ∀ i, i < 9 → i < xN X) (hP : ∀ e ∈ psG, e ∈ xP X) (hT : ∀ e ∈ tsG, e ∈ xT X) (hF : ∀ e ∈ xP X, e ∈ psA) {Q : Int32 → Mem → Prop} {K29 : Int32 → Int32 → Int32 → Int32 → Int32 → Int32 → Mem → Prop} (hK29 : ∀ (x1 : Int32) (x2 : Int32) (x3 : Int32) (x4 : Int32) (x5 : Int32) (x6 : Int32) (s : Mem), K29 x1 x2 x3 x4 x5 x6 s → mG X 29 [(0, .ref (xB X + 0)), (1, .int x1), (2, .int x2), (3, .int x3), (4, .int x4), (5, .int x5), (6, .int x6)] [] s 0 0 (mQ X 0 0 (qI Q))) {x1 : Int32} {x2 : Int32} {x3 : Int32} {x5 : Int32} {x6 : Int32} {x8 : Int32} {xy0 : Int32} {σ : Mem} (hw : w_X11_longest_111 Q K29 x1 x2 x3 x5 x6 x8 xy0 σ) : mG X 111 [(0, .ref (xB X + 0)), (1, .int x1), (2, .int x2), (3, .int x3), (5, .int x5), (6, .int x6), (8, .int x8)] [.int xy0] σ 0 0 (mQ X 0 0 (qI Q)) := by
  refine g_istore (lv' := [(4, .int xy0), (0, .ref (xB X + 0)), (1, .int x1), (2, .int x2), (3, .int x3), (5, .int x5), (6, .int x6), (8, .int x8)]) hC dX11_longest_111 (hN 4 (by decide)) rfl ?_
  refine g_iload hC dX11_longest_113 rfl ?_
  refine g_if_eq (tgt := 123) hC dX11_longest_115 rfl (fun c => ?_) (fun c => ?_)
  · replace hw := hw.1 c
    refine g_iload hC dX11_longest_123 rfl ?_
    refine mG.pick (lv' := [(0, .ref (xB X + 0)), (1, .int x1), (2, .int x2), (3, .int x3), (4, .int xy0), (6, .int x6)]) [1, 2, 3, 4, 0, 6] rfl ?_
    exact t_X11_longest_125 hC hd hN hP hT hF hK29 hw
  · replace hw := hw.2 c
    refine g_iload hC dX11_longest_118 rfl ?_
    refine g_goto (tgt := 125) hC dX11_longest_120 rfl ?_
    refine mG.pick (lv' := [(0, .ref (xB X + 0)), (1, .int x1), (2, .int x2), (3, .int x3), (4, .int xy0), (6, .int x6)]) [1, 2, 3, 4, 0, 6] rfl ?_
    exact t_X11_longest_125 hC hd hN hP hT hF hK29 hw
def w_X11_longest_95 (Q : Int32 → Mem → Prop) (K29 : Int32 → Int32 → Int32 → Int32 → Int32 → Int32 → Mem → Prop) (x1 : Int32) (x2 : Int32) (x4 : Int32) (x5 : Int32) (x6 : Int32) (x8 : Int32) (xy0 : Int32) (σ : Mem) : Prop := (x8 = 0 → (w_X11_longest_111 Q K29 x1 x2 xy0 x5 x6 x8 (x4 &&& x6) σ)) ∧ (¬ x8 = 0 → (w_X11_longest_111 Q K29 x1 x2 xy0 x5 x6 x8 x6 σ))
set_option maxRecDepth 4000 in
set_option maxHeartbeats 2000000 in
theorem t_X11_longest_95 {X : Cx} {d : Nat} (hC : mOK X cX11_longest RX11 "longest" (some .int) d 0 0) (hd : 5 ≤ d) (hN : ∀ i, i < 9 → i < xN X) (hP : ∀ e ∈ psG, e ∈ xP X) (hT : ∀ e ∈ tsG, e ∈ xT X) (hF : ∀ e ∈ xP X, e ∈ psA) {Q : Int32 → Mem → Prop} {K29 : Int32 → Int32 → Int32 → Int32 → Int32 → Int32 → Mem → Prop} (hK29 : ∀ (x1 : Int32) (x2 : Int32) (x3 : Int32) (x4 : Int32) (x5 : Int32) (x6 : Int32) (s : Mem), K29 x1 x2 x3 x4 x5 x6 s → mG X 29 [(0, .ref (xB X + 0)), (1, .int x1), (2, .int x2), (3, .int x3), (4, .int x4), (5, .int x5), (6, .int x6)] [] s 0 0 (mQ X 0 0 (qI Q))) {x1 : Int32} {x2 : Int32} {x4 : Int32} {x5 : Int32} {x6 : Int32} {x8 : Int32} {xy0 : Int32} {σ : Mem} (hw : w_X11_longest_95 Q K29 x1 x2 x4 x5 x6 x8 xy0 σ) : mG X 95 [(0, .ref (xB X + 0)), (1, .int x1), (2, .int x2), (4, .int x4), (5, .int x5), (6, .int x6), (8, .int x8)] [.int xy0] σ 0 0 (mQ X 0 0 (qI Q)) := by
  refine g_istore_n (lv' := [(3, .int xy0), (0, .ref (xB X + 0)), (1, .int x1), (2, .int x2), (4, .int x4), (5, .int x5), (6, .int x6), (8, .int x8)]) hC dX11_longest_95 (hN 3 (by decide)) rfl ?_
  refine g_iload hC dX11_longest_96 rfl ?_
  refine g_if_eq (tgt := 106) hC dX11_longest_98 rfl (fun c => ?_) (fun c => ?_)
  · replace hw := hw.1 c
    refine g_iload hC dX11_longest_106 rfl ?_
    refine g_iload hC dX11_longest_108 rfl ?_
    refine g_iand hC dX11_longest_110 ?_
    refine mG.pick (lv' := [(0, .ref (xB X + 0)), (1, .int x1), (2, .int x2), (3, .int xy0), (5, .int x5), (6, .int x6), (8, .int x8)]) [1, 2, 3, 0, 5, 6, 7] rfl ?_
    exact t_X11_longest_111 hC hd hN hP hT hF hK29 hw
  · replace hw := hw.2 c
    refine g_iload hC dX11_longest_101 rfl ?_
    refine g_goto (tgt := 111) hC dX11_longest_103 rfl ?_
    refine mG.pick (lv' := [(0, .ref (xB X + 0)), (1, .int x1), (2, .int x2), (3, .int xy0), (5, .int x5), (6, .int x6), (8, .int x8)]) [1, 2, 3, 0, 5, 6, 7] rfl ?_
    exact t_X11_longest_111 hC hd hN hP hT hF hK29 hw
def w_X11_longest_78 (Q : Int32 → Mem → Prop) (K29 : Int32 → Int32 → Int32 → Int32 → Int32 → Int32 → Mem → Prop) (x1 : Int32) (x3 : Int32) (x4 : Int32) (x5 : Int32) (x6 : Int32) (x7 : Int32) (xy0 : Int32) (σ : Mem) : Prop := (xy0 = 0 → (w_X11_longest_95 Q K29 x1 x7 x4 x5 x6 xy0 (x3 + 1) σ)) ∧ (¬ xy0 = 0 → (w_X11_longest_95 Q K29 x1 x7 x4 x5 x6 xy0 1 σ))
set_option maxRecDepth 4000 in
set_option maxHeartbeats 2000000 in
theorem t_X11_longest_78 {X : Cx} {d : Nat} (hC : mOK X cX11_longest RX11 "longest" (some .int) d 0 0) (hd : 5 ≤ d) (hN : ∀ i, i < 9 → i < xN X) (hP : ∀ e ∈ psG, e ∈ xP X) (hT : ∀ e ∈ tsG, e ∈ xT X) (hF : ∀ e ∈ xP X, e ∈ psA) {Q : Int32 → Mem → Prop} {K29 : Int32 → Int32 → Int32 → Int32 → Int32 → Int32 → Mem → Prop} (hK29 : ∀ (x1 : Int32) (x2 : Int32) (x3 : Int32) (x4 : Int32) (x5 : Int32) (x6 : Int32) (s : Mem), K29 x1 x2 x3 x4 x5 x6 s → mG X 29 [(0, .ref (xB X + 0)), (1, .int x1), (2, .int x2), (3, .int x3), (4, .int x4), (5, .int x5), (6, .int x6)] [] s 0 0 (mQ X 0 0 (qI Q))) {x1 : Int32} {x3 : Int32} {x4 : Int32} {x5 : Int32} {x6 : Int32} {x7 : Int32} {xy0 : Int32} {σ : Mem} (hw : w_X11_longest_78 Q K29 x1 x3 x4 x5 x6 x7 xy0 σ) : mG X 78 [(0, .ref (xB X + 0)), (1, .int x1), (3, .int x3), (4, .int x4), (5, .int x5), (6, .int x6), (7, .int x7)] [.int xy0] σ 0 0 (mQ X 0 0 (qI Q)) := by
  refine g_istore (lv' := [(8, .int xy0), (0, .ref (xB X + 0)), (1, .int x1), (3, .int x3), (4, .int x4), (5, .int x5), (6, .int x6), (7, .int x7)]) hC dX11_longest_78 (hN 8 (by decide)) rfl ?_
  refine g_iload hC dX11_longest_80 rfl ?_
  refine g_istore_n (lv' := [(2, .int x7), (8, .int xy0), (0, .ref (xB X + 0)), (1, .int x1), (3, .int x3), (4, .int x4), (5, .int x5), (6, .int x6), (7, .int x7)]) hC dX11_longest_82 (hN 2 (by decide)) rfl ?_
  refine g_iload hC dX11_longest_83 rfl ?_
  refine g_if_eq (tgt := 92) hC dX11_longest_85 rfl (fun c => ?_) (fun c => ?_)
  · replace hw := hw.1 c
    refine g_iload_n hC dX11_longest_92 rfl ?_
    refine g_iconst (v := 1) hC dX11_longest_93 (by decide) ?_
    refine g_iadd hC dX11_longest_94 ?_
    refine mG.pick (lv' := [(0, .ref (xB X + 0)), (1, .int x1), (2, .int x7), (4, .int x4), (5, .int x5), (6, .int x6), (8, .int xy0)]) [2, 3, 0, 5, 6, 7, 1] rfl ?_
    exact t_X11_longest_95 hC hd hN hP hT hF hK29 hw
  · replace hw := hw.2 c
    refine g_iconst (v := 1) hC dX11_longest_88 (by decide) ?_
    refine g_goto (tgt := 95) hC dX11_longest_89 rfl ?_
    refine mG.pick (lv' := [(0, .ref (xB X + 0)), (1, .int x1), (2, .int x7), (4, .int x4), (5, .int x5), (6, .int x6), (8, .int xy0)]) [2, 3, 0, 5, 6, 7, 1] rfl ?_
    exact t_X11_longest_95 hC hd hN hP hT hF hK29 hw
def w_X11_longest_29 (Q : Int32 → Mem → Prop) : Nat → Int32 → Int32 → Int32 → Int32 → Int32 → Int32 → Mem → Prop
  | 0, _, _, _, _, _, _, _ => False
  | n + 1, x1, x2, x3, x4, x5, x6, σ => (((1 : Int32) <<< ((mI σ 0 2) &&& 31)) ≤ x6 → ((x1 = 0 → (Q x2 σ)) ∧ (x1 = 1 → (Q x3 σ)) ∧ (x1 = 2 → (Q x4 σ)) ∧ (¬ x1 = 0 → ¬ x1 = 1 → ¬ x1 = 2 → (Q x5 σ)))) ∧ (¬ ((1 : Int32) <<< ((mI σ 0 2) &&& 31)) ≤ x6 → (w_J6_bitCount_0f7a4 σ x6 (fun v101 s103 => vp_in x6 256 ∧ ((¬ (mI s103 24 (Int32.toNatClampNeg x6)) = 1 → (w_X11_longest_127 Q (fun z0 z1 z2 z3 z4 z5 z6 => w_X11_longest_29 Q n z0 z1 z2 z3 z4 z5 z6) x1 x2 x3 x4 x5 x6 s103)) ∧ ((mI s103 24 (Int32.toNatClampNeg x6)) = 1 → ((x2 ≤ v101 → ((v101 ≤ x2 → (w_X11_longest_78 Q (fun z0 z1 z2 z3 z4 z5 z6 => w_X11_longest_29 Q n z0 z1 z2 z3 z4 z5 z6) x1 x3 x4 x5 x6 v101 0 s103)) ∧ (¬ v101 ≤ x2 → (w_X11_longest_78 Q (fun z0 z1 z2 z3 z4 z5 z6 => w_X11_longest_29 Q n z0 z1 z2 z3 z4 z5 z6) x1 x3 x4 x5 x6 v101 1 s103)))) ∧ (¬ x2 ≤ v101 → (w_X11_longest_127 Q (fun z0 z1 z2 z3 z4 z5 z6 => w_X11_longest_29 Q n z0 z1 z2 z3 z4 z5 z6) x1 x2 x3 x4 x5 x6 s103))))))))
set_option maxRecDepth 4000 in
set_option maxHeartbeats 2000000 in
theorem t_X11_longest_29 {X : Cx} {d : Nat} (hC : mOK X cX11_longest RX11 "longest" (some .int) d 0 0) (hd : 5 ≤ d) (hN : ∀ i, i < 9 → i < xN X) (hP : ∀ e ∈ psG, e ∈ xP X) (hT : ∀ e ∈ tsG, e ∈ xT X) (hF : ∀ e ∈ xP X, e ∈ psA) {Q : Int32 → Mem → Prop} : ∀ (n : Nat) (x1 : Int32) (x2 : Int32) (x3 : Int32) (x4 : Int32) (x5 : Int32) (x6 : Int32) (σ : Mem), w_X11_longest_29 Q n x1 x2 x3 x4 x5 x6 σ → mG X 29 [(0, .ref (xB X + 0)), (1, .int x1), (2, .int x2), (3, .int x3), (4, .int x4), (5, .int x5), (6, .int x6)] [] σ 0 0 (mQ X 0 0 (qI Q)) := by
  intro n
  induction n with
  | zero => intro x1 x2 x3 x4 x5 x6 σ hw; exact False.elim hw
  | succ n ih =>
    intro x1 x2 x3 x4 x5 x6 σ hw
    rw [w_X11_longest_29] at hw
    refine g_iload hC dX11_longest_29 rfl ?_
    refine g_iconst (v := 1) hC dX11_longest_31 (by decide) ?_
    refine g_aload_n hC dX11_longest_32 rfl ?_
    refine g_getiSv (v := (mI σ 0 2)) hC fl_X11_101_11.s (hT _ tg_G_0) rfl dX11_longest_33 ?_
    refine g_ishl hC dX11_longest_36 ?_
    refine g_icmp_ge (tgt := 133) hC dX11_longest_37 rfl (fun c => ?_) (fun c => ?_)
    · replace hw := hw.1 c
      refine g_iload_n hC dX11_longest_133 rfl ?_
      by_cases c0 : x1 = 0
      · replace hw := hw.1 c0
        refine g_tableIn (tgt := 160) hC dX11_longest_134 0 c0 (by decide) (by decide) rfl rfl ?_
        refine g_iload_n hC dX11_longest_160 rfl ?_
        exact g_iret hC rfl (by decide) (by decide) dX11_longest_161 (fun _ => ⟨_, rfl, hw⟩)
      by_cases c1 : x1 = 1
      · replace hw := hw.2.1 c1
        refine g_tableIn (tgt := 162) hC dX11_longest_134 1 c1 (by decide) (by decide) rfl rfl ?_
        refine g_iload_n hC dX11_longest_162 rfl ?_
        exact g_iret hC rfl (by decide) (by decide) dX11_longest_163 (fun _ => ⟨_, rfl, hw⟩)
      by_cases c2 : x1 = 2
      · replace hw := hw.2.2.1 c2
        refine g_tableIn (tgt := 164) hC dX11_longest_134 2 c2 (by decide) (by decide) rfl rfl ?_
        refine g_iload hC dX11_longest_164 rfl ?_
        exact g_iret hC rfl (by decide) (by decide) dX11_longest_166 (fun _ => ⟨_, rfl, hw⟩)
      replace hw := hw.2.2.2 c0 c1 c2
      refine g_tableOut (tgt := 167) hC dX11_longest_134 (sw_out 0 2 x1 (by decide) [0, 1, 2] (by decide) (List.forall_mem_cons.mpr ⟨c0, (List.forall_mem_cons.mpr ⟨c1, (List.forall_mem_cons.mpr ⟨c2, (fun k h => absurd h List.not_mem_nil)⟩)⟩)⟩)) rfl ?_
      refine g_iload hC dX11_longest_167 rfl ?_
      exact g_iret hC rfl (by decide) (by decide) dX11_longest_169 (fun _ => ⟨_, rfl, hw⟩)
    · replace hw := hw.2 c
      refine g_iload hC dX11_longest_40 rfl ?_
      refine mG.st (st1 := ([.int x6] : List Value).reverse ++ []) rfl ?_
      refine g_callS (As := [.int x6]) (st := []) hC yw_J6_bitCount_0f7a4 ys_J6_bitCount_0f7a4 tw_332 dX11_longest_42 (fun _ h => h) (fun _ h => h) (fun h => h) (c_J6_bitCount_0f7a4 (d := 0) (Nat.le_refl _) hw) rfl (Nat.le_of_ble_eq_true rfl) (by omega) (by decide) (by decide) (kI fun v101 s103 hw => ?_)
      refine g_istore (lv' := [(7, .int v101), (0, .ref (xB X + 0)), (1, .int x1), (2, .int x2), (3, .int x3), (4, .int x4), (5, .int x5), (6, .int x6)]) hC dX11_longest_45 (hN 7 (by decide)) rfl ?_
      refine g_aload_n hC dX11_longest_47 rfl ?_
      refine g_getrS hC fl_X11_67_11.s (hT _ tg_G_0) (hP _ pt_G_0_18) dX11_longest_48 ?_
      refine g_iload hC dX11_longest_51 rfl ?_
      refine g_ialdSv (v := (mI s103 24 (Int32.toNatClampNeg x6))) hC (hT _ tg_G_24) rfl hw.1 rfl dX11_longest_53 ?_
      replace hw := hw.2
      refine g_iconst (v := 1) hC dX11_longest_54 (by decide) ?_
      refine g_icmp_ne (tgt := 127) hC dX11_longest_55 rfl (fun c => ?_) (fun c => ?_)
      · replace hw := hw.1 c
        refine mG.pick (lv' := [(0, .ref (xB X + 0)), (1, .int x1), (2, .int x2), (3, .int x3), (4, .int x4), (5, .int x5), (6, .int x6)]) [1, 2, 3, 4, 5, 6, 7] rfl ?_
        exact t_X11_longest_127 hC hd hN hP hT hF ih hw
      · replace hw := hw.2 c
        refine g_iload hC dX11_longest_58 rfl ?_
        refine g_iload_n hC dX11_longest_60 rfl ?_
        refine g_icmp_ge (tgt := 67) hC dX11_longest_61 rfl (fun c => ?_) (fun c => ?_)
        · replace hw := hw.1 c
          refine g_iload hC dX11_longest_67 rfl ?_
          refine g_iload_n hC dX11_longest_69 rfl ?_
          refine g_icmp_le (tgt := 77) hC dX11_longest_70 rfl (fun c => ?_) (fun c => ?_)
          · replace hw := hw.1 c
            refine g_iconst (v := 0) hC dX11_longest_77 (by decide) ?_
            refine mG.pick (lv' := [(0, .ref (xB X + 0)), (1, .int x1), (3, .int x3), (4, .int x4), (5, .int x5), (6, .int x6), (7, .int v101)]) [1, 2, 4, 5, 6, 7, 0] rfl ?_
            exact t_X11_longest_78 hC hd hN hP hT hF ih hw
          · replace hw := hw.2 c
            refine g_iconst (v := 1) hC dX11_longest_73 (by decide) ?_
            refine g_goto (tgt := 78) hC dX11_longest_74 rfl ?_
            refine mG.pick (lv' := [(0, .ref (xB X + 0)), (1, .int x1), (3, .int x3), (4, .int x4), (5, .int x5), (6, .int x6), (7, .int v101)]) [1, 2, 4, 5, 6, 7, 0] rfl ?_
            exact t_X11_longest_78 hC hd hN hP hT hF ih hw
        · replace hw := hw.2 c
          refine g_goto (tgt := 127) hC dX11_longest_64 rfl ?_
          refine mG.pick (lv' := [(0, .ref (xB X + 0)), (1, .int x1), (2, .int x2), (3, .int x3), (4, .int x4), (5, .int x5), (6, .int x6)]) [1, 2, 3, 4, 5, 6, 7] rfl ?_
          exact t_X11_longest_127 hC hd hN hP hT hF ih hw
def w_X11_longest (σ : Mem) (x1 : Int32) (Q : Int32 → Mem → Prop) : Prop := (x1 < 0 → (Q (-2) σ)) ∧ (¬ x1 < 0 → ((x1 ≤ 3 → (w_X11_fillCover σ (fun s103 => ∃ m104 : Nat, w_X11_longest_29 Q m104 x1 0 0 0 0 1 s103))) ∧ (¬ x1 ≤ 3 → (Q (-2) σ))))
set_option maxRecDepth 4000 in
set_option maxHeartbeats 2000000 in
theorem t_X11_longest {X : Cx} {d : Nat} (hC : mOK X cX11_longest RX11 "longest" (some .int) d 0 0) (hd : 5 ≤ d) (hN : ∀ i, i < 9 → i < xN X) (hP : ∀ e ∈ psG, e ∈ xP X) (hT : ∀ e ∈ tsG, e ∈ xT X) (hF : ∀ e ∈ xP X, e ∈ psA) {σ : Mem} {x1 : Int32} {Q : Int32 → Mem → Prop} (hw : w_X11_longest σ x1 Q) : mG X 0 [(0, .ref (xB X + 0)), (1, .int x1)] [] σ 0 0 (mQ X 0 0 (qI Q)) := by
  refine g_iload_n hC dX11_longest_0 rfl ?_
  refine g_if_lt (tgt := 9) hC dX11_longest_1 rfl (fun c => ?_) (fun c => ?_)
  · replace hw := hw.1 c
    refine g_bipush (v := (-2)) hC dX11_longest_9 (by decide) ?_
    exact g_iret hC rfl (by decide) (by decide) dX11_longest_11 (fun _ => ⟨_, rfl, hw⟩)
  · replace hw := hw.2 c
    refine g_iload_n hC dX11_longest_4 rfl ?_
    refine g_iconst (v := 3) hC dX11_longest_5 (by decide) ?_
    refine g_icmp_le (tgt := 12) hC dX11_longest_6 rfl (fun c => ?_) (fun c => ?_)
    · replace hw := hw.1 c
      refine g_aload_n hC dX11_longest_12 rfl ?_
      refine g_known (fun hS => ?_)
      refine mG.st (st1 := ([] : List Value).reverse ++ .ref (xB X + 0) :: []) rfl ?_
      refine g_callV (As := []) (st := []) hC (hS.2 _ (hT _ tg_G_0)) (by decide) ycl_11_X11_fillCover yw_X11_fillCover yv_X11_fillCover tw_316 dX11_longest_13 (fun _ h => h) (fun _ h => h) (fun h => h) (c_X11_fillCover (d := 4) (Nat.le_refl _) hP hT hF hw) rfl (Nat.le_of_ble_eq_true rfl) (by omega) (by decide) (by decide) (kV fun s103 hw => ?_)
      refine g_iconst (v := 0) hC dX11_longest_16 (by decide) ?_
      refine g_istore_n (lv' := [(2, .int 0), (0, .ref (xB X + 0)), (1, .int x1)]) hC dX11_longest_17 (hN 2 (by decide)) rfl ?_
      refine g_iconst (v := 0) hC dX11_longest_18 (by decide) ?_
      refine g_istore_n (lv' := [(3, .int 0), (2, .int 0), (0, .ref (xB X + 0)), (1, .int x1)]) hC dX11_longest_19 (hN 3 (by decide)) rfl ?_
      refine g_iconst (v := 0) hC dX11_longest_20 (by decide) ?_
      refine g_istore (lv' := [(4, .int 0), (3, .int 0), (2, .int 0), (0, .ref (xB X + 0)), (1, .int x1)]) hC dX11_longest_21 (hN 4 (by decide)) rfl ?_
      refine g_iconst (v := 0) hC dX11_longest_23 (by decide) ?_
      refine g_istore (lv' := [(5, .int 0), (4, .int 0), (3, .int 0), (2, .int 0), (0, .ref (xB X + 0)), (1, .int x1)]) hC dX11_longest_24 (hN 5 (by decide)) rfl ?_
      refine g_iconst (v := 1) hC dX11_longest_26 (by decide) ?_
      refine g_istore (lv' := [(6, .int 1), (5, .int 0), (4, .int 0), (3, .int 0), (2, .int 0), (0, .ref (xB X + 0)), (1, .int x1)]) hC dX11_longest_27 (hN 6 (by decide)) rfl ?_
      refine mG.pick (lv' := [(0, .ref (xB X + 0)), (1, .int x1), (2, .int 0), (3, .int 0), (4, .int 0), (5, .int 0), (6, .int 1)]) [5, 6, 4, 3, 2, 1, 0] rfl ?_
      obtain ⟨m104, hw⟩ := hw
      exact t_X11_longest_29 hC hd hN hP hT hF m104 _ _ _ _ _ _ _ hw
    · replace hw := hw.2 c
      refine g_bipush (v := (-2)) hC dX11_longest_9 (by decide) ?_
      exact g_iret hC rfl (by decide) (by decide) dX11_longest_11 (fun _ => ⟨_, rfl, hw⟩)
set_option maxRecDepth 4000 in
theorem c_X11_longest {Z : Fx} {ps ts : List (Nat × Nat × Nat)} {d : Nat} (hd : 5 ≤ d) (hP : ∀ e ∈ psG, e ∈ ps) (hT : ∀ e ∈ tsG, e ∈ ts) (hF : ∀ e ∈ ps, e ∈ psA) {σ : Mem} {x1 : Int32} {Q : Int32 → Mem → Prop} (hw : w_X11_longest σ x1 Q) : mM Z ps ts yX11_longest cX11_longest 9 (some .int) d 0 0 [.ref (Z.2.2 + 0), .int x1] σ (qI Q) := by
  refine mM.of (by decide) (Nat.le_of_ble_eq_true rfl) rfl (fun X hZ hp ht hn hC => ?_)
  subst hZ; subst hp; subst ht
  exact t_X11_longest hC hd (fun i h => by rw [hn]; exact h) hP hT hF hw
def w_X11_several_50 (Q : Int32 → Mem → Prop) (K21 : Int32 → Int32 → Int32 → Mem → Prop) (x1 : Int32) (x2 : Int32) (x3 : Int32) (σ : Mem) : Prop := K21 x1 x2 (x3 + 1) σ
set_option maxRecDepth 4000 in
set_option maxHeartbeats 2000000 in
theorem t_X11_several_50 {X : Cx} {d : Nat} (hC : mOK X cX11_several RX11 "several" (some .int) d 0 0) (hd : 5 ≤ d) (hN : ∀ i, i < 4 → i < xN X) (hP : ∀ e ∈ psG, e ∈ xP X) (hT : ∀ e ∈ tsG, e ∈ xT X) (hF : ∀ e ∈ xP X, e ∈ psA) {Q : Int32 → Mem → Prop} {K21 : Int32 → Int32 → Int32 → Mem → Prop} (hK21 : ∀ (x1 : Int32) (x2 : Int32) (x3 : Int32) (s : Mem), K21 x1 x2 x3 s → mG X 21 [(0, .ref (xB X + 0)), (1, .int x1), (2, .int x2), (3, .int x3)] [] s 0 0 (mQ X 0 0 (qI Q))) {x1 : Int32} {x2 : Int32} {x3 : Int32} {σ : Mem} (hw : w_X11_several_50 Q K21 x1 x2 x3 σ) : mG X 50 [(0, .ref (xB X + 0)), (1, .int x1), (2, .int x2), (3, .int x3)] [] σ 0 0 (mQ X 0 0 (qI Q)) := by
  refine g_iinc (v := x3 + 1) (lv' := [(3, .int (x3 + 1)), (0, .ref (xB X + 0)), (1, .int x1), (2, .int x2)]) hC dX11_several_50 rfl rfl (hN 3 (by decide)) rfl ?_
  refine g_goto (tgt := 21) hC dX11_several_53 rfl ?_
  refine mG.pick (lv' := [(0, .ref (xB X + 0)), (1, .int x1), (2, .int x2), (3, .int (x3 + 1))]) [1, 2, 3, 0] rfl ?_
  exact hK21 _ _ _ _ hw
def w_X11_several_21 (Q : Int32 → Mem → Prop) : Nat → Int32 → Int32 → Int32 → Mem → Prop
  | 0, _, _, _, _ => False
  | n + 1, x1, x2, x3, σ => (((1 : Int32) <<< ((mI σ 0 2) &&& 31)) ≤ x3 → (Q x2 σ)) ∧ (¬ ((1 : Int32) <<< ((mI σ 0 2) &&& 31)) ≤ x3 → (vp_in x3 256 ∧ ((x1 < (mI σ 24 (Int32.toNatClampNeg x3)) → (w_X11_several_50 Q (fun z0 z1 z2 z3 => w_X11_several_21 Q n z0 z1 z2 z3) x1 x2 x3 σ)) ∧ (¬ x1 < (mI σ 24 (Int32.toNatClampNeg x3)) → (w_J6_bitCount_0f7a4 σ x3 (fun v101 s103 => ∀ v104 : Int32, v104 = (if x2 < v101 then v101 else x2) → (w_X11_several_50 Q (fun z0 z1 z2 z3 => w_X11_several_21 Q n z0 z1 z2 z3) x1 v104 x3 s103)))))))
set_option maxRecDepth 4000 in
set_option maxHeartbeats 2000000 in
theorem t_X11_several_21 {X : Cx} {d : Nat} (hC : mOK X cX11_several RX11 "several" (some .int) d 0 0) (hd : 5 ≤ d) (hN : ∀ i, i < 4 → i < xN X) (hP : ∀ e ∈ psG, e ∈ xP X) (hT : ∀ e ∈ tsG, e ∈ xT X) (hF : ∀ e ∈ xP X, e ∈ psA) {Q : Int32 → Mem → Prop} : ∀ (n : Nat) (x1 : Int32) (x2 : Int32) (x3 : Int32) (σ : Mem), w_X11_several_21 Q n x1 x2 x3 σ → mG X 21 [(0, .ref (xB X + 0)), (1, .int x1), (2, .int x2), (3, .int x3)] [] σ 0 0 (mQ X 0 0 (qI Q)) := by
  intro n
  induction n with
  | zero => intro x1 x2 x3 σ hw; exact False.elim hw
  | succ n ih =>
    intro x1 x2 x3 σ hw
    rw [w_X11_several_21] at hw
    refine g_iload_n hC dX11_several_21 rfl ?_
    refine g_iconst (v := 1) hC dX11_several_22 (by decide) ?_
    refine g_aload_n hC dX11_several_23 rfl ?_
    refine g_getiSv (v := (mI σ 0 2)) hC fl_X11_101_11.s (hT _ tg_G_0) rfl dX11_several_24 ?_
    refine g_ishl hC dX11_several_27 ?_
    refine g_icmp_ge (tgt := 56) hC dX11_several_28 rfl (fun c => ?_) (fun c => ?_)
    · replace hw := hw.1 c
      refine g_iload_n hC dX11_several_56 rfl ?_
      exact g_iret hC rfl (by decide) (by decide) dX11_several_57 (fun _ => ⟨_, rfl, hw⟩)
    · replace hw := hw.2 c
      refine g_aload_n hC dX11_several_31 rfl ?_
      refine g_getrS hC fl_X11_67_11.s (hT _ tg_G_0) (hP _ pt_G_0_18) dX11_several_32 ?_
      refine g_iload_n hC dX11_several_35 rfl ?_
      refine g_ialdSv (v := (mI σ 24 (Int32.toNatClampNeg x3))) hC (hT _ tg_G_24) rfl hw.1 rfl dX11_several_36 ?_
      replace hw := hw.2
      refine g_iload_n hC dX11_several_37 rfl ?_
      refine g_icmp_gt (tgt := 50) hC dX11_several_38 rfl (fun c => ?_) (fun c => ?_)
      · replace hw := hw.1 c
        refine mG.pick (lv' := [(0, .ref (xB X + 0)), (1, .int x1), (2, .int x2), (3, .int x3)]) [0, 1, 2, 3] rfl ?_
        exact t_X11_several_50 hC hd hN hP hT hF ih hw
      · replace hw := hw.2 c
        refine g_iload_n hC dX11_several_41 rfl ?_
        refine g_iload_n hC dX11_several_42 rfl ?_
        refine mG.st (st1 := ([.int x3] : List Value).reverse ++ [.int x2]) rfl ?_
        refine g_callS (As := [.int x3]) (st := [.int x2]) hC yw_J6_bitCount_0f7a4 ys_J6_bitCount_0f7a4 tw_332 dX11_several_43 (fun _ h => h) (fun _ h => h) (fun h => h) (c_J6_bitCount_0f7a4 (d := 0) (Nat.le_refl _) hw) rfl (Nat.le_of_ble_eq_true rfl) (by omega) (by decide) (by decide) (kI fun v101 s103 hw => ?_)
        refine g_mmax hC tw_118 tw_103 tw_5 tw_104 (Nat.le_of_ble_eq_true rfl) (by omega) (by decide) (by decide) dX11_several_46 ?_
        refine g_topi (fun v104 ev104 => ?_)
        replace hw := hw v104 ev104
        refine g_istore_n (lv' := [(2, .int v104), (0, .ref (xB X + 0)), (1, .int x1), (3, .int x3)]) hC dX11_several_49 (hN 2 (by decide)) rfl ?_
        refine mG.pick (lv' := [(0, .ref (xB X + 0)), (1, .int x1), (2, .int v104), (3, .int x3)]) [1, 2, 0, 3] rfl ?_
        exact t_X11_several_50 hC hd hN hP hT hF ih hw
def w_X11_several (σ : Mem) (x1 : Int32) (Q : Int32 → Mem → Prop) : Prop := (x1 < 1 → (Q (-2) σ)) ∧ (¬ x1 < 1 → ((x1 ≤ 3 → (w_X11_fillCover σ (fun s103 => ∃ m104 : Nat, w_X11_several_21 Q m104 x1 0 0 s103))) ∧ (¬ x1 ≤ 3 → (Q (-2) σ))))
set_option maxRecDepth 4000 in
set_option maxHeartbeats 2000000 in
theorem t_X11_several {X : Cx} {d : Nat} (hC : mOK X cX11_several RX11 "several" (some .int) d 0 0) (hd : 5 ≤ d) (hN : ∀ i, i < 4 → i < xN X) (hP : ∀ e ∈ psG, e ∈ xP X) (hT : ∀ e ∈ tsG, e ∈ xT X) (hF : ∀ e ∈ xP X, e ∈ psA) {σ : Mem} {x1 : Int32} {Q : Int32 → Mem → Prop} (hw : w_X11_several σ x1 Q) : mG X 0 [(0, .ref (xB X + 0)), (1, .int x1)] [] σ 0 0 (mQ X 0 0 (qI Q)) := by
  refine g_iload_n hC dX11_several_0 rfl ?_
  refine g_iconst (v := 1) hC dX11_several_1 (by decide) ?_
  refine g_icmp_lt (tgt := 10) hC dX11_several_2 rfl (fun c => ?_) (fun c => ?_)
  · replace hw := hw.1 c
    refine g_bipush (v := (-2)) hC dX11_several_10 (by decide) ?_
    exact g_iret hC rfl (by decide) (by decide) dX11_several_12 (fun _ => ⟨_, rfl, hw⟩)
  · replace hw := hw.2 c
    refine g_iload_n hC dX11_several_5 rfl ?_
    refine g_iconst (v := 3) hC dX11_several_6 (by decide) ?_
    refine g_icmp_le (tgt := 13) hC dX11_several_7 rfl (fun c => ?_) (fun c => ?_)
    · replace hw := hw.1 c
      refine g_aload_n hC dX11_several_13 rfl ?_
      refine g_known (fun hS => ?_)
      refine mG.st (st1 := ([] : List Value).reverse ++ .ref (xB X + 0) :: []) rfl ?_
      refine g_callV (As := []) (st := []) hC (hS.2 _ (hT _ tg_G_0)) (by decide) ycl_11_X11_fillCover yw_X11_fillCover yv_X11_fillCover tw_316 dX11_several_14 (fun _ h => h) (fun _ h => h) (fun h => h) (c_X11_fillCover (d := 4) (Nat.le_refl _) hP hT hF hw) rfl (Nat.le_of_ble_eq_true rfl) (by omega) (by decide) (by decide) (kV fun s103 hw => ?_)
      refine g_iconst (v := 0) hC dX11_several_17 (by decide) ?_
      refine g_istore_n (lv' := [(2, .int 0), (0, .ref (xB X + 0)), (1, .int x1)]) hC dX11_several_18 (hN 2 (by decide)) rfl ?_
      refine g_iconst (v := 0) hC dX11_several_19 (by decide) ?_
      refine g_istore_n (lv' := [(3, .int 0), (2, .int 0), (0, .ref (xB X + 0)), (1, .int x1)]) hC dX11_several_20 (hN 3 (by decide)) rfl ?_
      refine mG.pick (lv' := [(0, .ref (xB X + 0)), (1, .int x1), (2, .int 0), (3, .int 0)]) [2, 3, 1, 0] rfl ?_
      obtain ⟨m104, hw⟩ := hw
      exact t_X11_several_21 hC hd hN hP hT hF m104 _ _ _ _ hw
    · replace hw := hw.2 c
      refine g_bipush (v := (-2)) hC dX11_several_10 (by decide) ?_
      exact g_iret hC rfl (by decide) (by decide) dX11_several_12 (fun _ => ⟨_, rfl, hw⟩)
set_option maxRecDepth 4000 in
theorem c_X11_several {Z : Fx} {ps ts : List (Nat × Nat × Nat)} {d : Nat} (hd : 5 ≤ d) (hP : ∀ e ∈ psG, e ∈ ps) (hT : ∀ e ∈ tsG, e ∈ ts) (hF : ∀ e ∈ ps, e ∈ psA) {σ : Mem} {x1 : Int32} {Q : Int32 → Mem → Prop} (hw : w_X11_several σ x1 Q) : mM Z ps ts yX11_several cX11_several 4 (some .int) d 0 0 [.ref (Z.2.2 + 0), .int x1] σ (qI Q) := by
  refine mM.of (by decide) (Nat.le_of_ble_eq_true rfl) rfl (fun X hZ hp ht hn hC => ?_)
  subst hZ; subst hp; subst ht
  exact t_X11_several hC hd (fun i h => by rw [hn]; exact h) hP hT hF hw
def w_X11_noteOrder_96 (Q : Mem → Prop) (K61 : Int32 → Int32 → Mem → Prop) (x3 : Int32) (xy0 : Int32) (σ : Mem) : Prop := K61 xy0 (x3 + 1) σ
set_option maxRecDepth 4000 in
set_option maxHeartbeats 2000000 in
theorem t_X11_noteOrder_96 {X : Cx} {d : Nat} (hC : mOK X cX11_noteOrder RX11 "noteOrder" none d 0 0) (hd : 1 ≤ d) (hN : ∀ i, i < 4 → i < xN X) (hP : ∀ e ∈ psG, e ∈ xP X) (hT : ∀ e ∈ tsG, e ∈ xT X) (hF : ∀ e ∈ xP X, e ∈ psA) {Q : Mem → Prop} {K61 : Int32 → Int32 → Mem → Prop} (hK61 : ∀ (x2 : Int32) (x3 : Int32) (s : Mem), K61 x2 x3 s → mG X 61 [(0, .ref (xB X + 0)), (2, .int x2), (3, .int x3)] [] s 0 0 (mQ X 0 0 (qV Q))) {x3 : Int32} {xy0 : Int32} {σ : Mem} (hw : w_X11_noteOrder_96 Q K61 x3 xy0 σ) : mG X 96 [(0, .ref (xB X + 0)), (3, .int x3)] [.int xy0] σ 0 0 (mQ X 0 0 (qV Q)) := by
  refine g_istore_n (lv' := [(2, .int xy0), (0, .ref (xB X + 0)), (3, .int x3)]) hC dX11_noteOrder_96 (hN 2 (by decide)) rfl ?_
  refine g_iinc (v := x3 + 1) (lv' := [(3, .int (x3 + 1)), (2, .int xy0), (0, .ref (xB X + 0))]) hC dX11_noteOrder_97 rfl rfl (hN 3 (by decide)) rfl ?_
  refine g_goto (tgt := 61) hC dX11_noteOrder_100 rfl ?_
  refine mG.pick (lv' := [(0, .ref (xB X + 0)), (2, .int xy0), (3, .int (x3 + 1))]) [2, 1, 0] rfl ?_
  exact hK61 _ _ _ hw
def w_X11_noteOrder_95 (Q : Mem → Prop) (K61 : Int32 → Int32 → Mem → Prop) (x3 : Int32) (σ : Mem) : Prop := w_X11_noteOrder_96 Q K61 x3 0 σ
set_option maxRecDepth 4000 in
set_option maxHeartbeats 2000000 in
theorem t_X11_noteOrder_95 {X : Cx} {d : Nat} (hC : mOK X cX11_noteOrder RX11 "noteOrder" none d 0 0) (hd : 1 ≤ d) (hN : ∀ i, i < 4 → i < xN X) (hP : ∀ e ∈ psG, e ∈ xP X) (hT : ∀ e ∈ tsG, e ∈ xT X) (hF : ∀ e ∈ xP X, e ∈ psA) {Q : Mem → Prop} {K61 : Int32 → Int32 → Mem → Prop} (hK61 : ∀ (x2 : Int32) (x3 : Int32) (s : Mem), K61 x2 x3 s → mG X 61 [(0, .ref (xB X + 0)), (2, .int x2), (3, .int x3)] [] s 0 0 (mQ X 0 0 (qV Q))) {x3 : Int32} {σ : Mem} (hw : w_X11_noteOrder_95 Q K61 x3 σ) : mG X 95 [(0, .ref (xB X + 0)), (3, .int x3)] [] σ 0 0 (mQ X 0 0 (qV Q)) := by
  refine g_iconst (v := 0) hC dX11_noteOrder_95 (by decide) ?_
  refine mG.pick (lv' := [(0, .ref (xB X + 0)), (3, .int x3)]) [0, 1] rfl ?_
  exact t_X11_noteOrder_96 hC hd hN hP hT hF hK61 hw
def w_X11_noteOrder_61 (Q : Mem → Prop) : Nat → Int32 → Int32 → Mem → Prop
  | 0, _, _, _ => False
  | n + 1, x2, x3, σ => ((mI σ 0 2) ≤ x3 → ((x2 = 0 → (Q σ)) ∧ (¬ x2 = 0 → (Q (sI σ 0 16 ((mI σ 0 16) + 1)))))) ∧ (¬ (mI σ 0 2) ≤ x3 → ((x2 = 0 → (w_X11_noteOrder_95 Q (fun z0 z1 z2 => w_X11_noteOrder_61 Q n z0 z1 z2) x3 σ)) ∧ (¬ x2 = 0 → (vp_in x3 8 ∧ (vp_in x3 8 ∧ ((¬ (mI σ 19 (Int32.toNatClampNeg x3)) = (mI σ 23 (Int32.toNatClampNeg x3)) → (w_X11_noteOrder_95 Q (fun z0 z1 z2 => w_X11_noteOrder_61 Q n z0 z1 z2) x3 σ)) ∧ ((mI σ 19 (Int32.toNatClampNeg x3)) = (mI σ 23 (Int32.toNatClampNeg x3)) → (w_X11_noteOrder_96 Q (fun z0 z1 z2 => w_X11_noteOrder_61 Q n z0 z1 z2) x3 1 σ))))))))
set_option maxRecDepth 4000 in
set_option maxHeartbeats 2000000 in
theorem t_X11_noteOrder_61 {X : Cx} {d : Nat} (hC : mOK X cX11_noteOrder RX11 "noteOrder" none d 0 0) (hd : 1 ≤ d) (hN : ∀ i, i < 4 → i < xN X) (hP : ∀ e ∈ psG, e ∈ xP X) (hT : ∀ e ∈ tsG, e ∈ xT X) (hF : ∀ e ∈ xP X, e ∈ psA) {Q : Mem → Prop} : ∀ (n : Nat) (x2 : Int32) (x3 : Int32) (σ : Mem), w_X11_noteOrder_61 Q n x2 x3 σ → mG X 61 [(0, .ref (xB X + 0)), (2, .int x2), (3, .int x3)] [] σ 0 0 (mQ X 0 0 (qV Q)) := by
  intro n
  induction n with
  | zero => intro x2 x3 σ hw; exact False.elim hw
  | succ n ih =>
    intro x2 x3 σ hw
    rw [w_X11_noteOrder_61] at hw
    refine g_iload_n hC dX11_noteOrder_61 rfl ?_
    refine g_aload_n hC dX11_noteOrder_62 rfl ?_
    refine g_getiSv (v := (mI σ 0 2)) hC fl_X11_101_11.s (hT _ tg_G_0) rfl dX11_noteOrder_63 ?_
    refine g_icmp_ge (tgt := 103) hC dX11_noteOrder_66 rfl (fun c => ?_) (fun c => ?_)
    · replace hw := hw.1 c
      refine g_iload_n hC dX11_noteOrder_103 rfl ?_
      refine g_if_eq (tgt := 117) hC dX11_noteOrder_104 rfl (fun c => ?_) (fun c => ?_)
      · replace hw := hw.1 c
        exact g_vret hC (by decide) (by decide) dX11_noteOrder_117 (fun _ => ⟨rfl, hw⟩)
      · replace hw := hw.2 c
        refine g_aload_n hC dX11_noteOrder_107 rfl ?_
        refine g_dup hC dX11_noteOrder_108 rfl ?_
        refine g_getiSv (v := (mI σ 0 16)) hC fl_X11_273_11.s (hT _ tg_G_0) rfl dX11_noteOrder_109 ?_
        refine g_iconst (v := 1) hC dX11_noteOrder_112 (by decide) ?_
        refine g_iadd hC dX11_noteOrder_113 ?_
        refine g_putIS hC (fw_X11_273_11 _) (hT _ tg_G_0) rfl rfl dX11_noteOrder_114 ?_
        exact g_vret hC (by decide) (by decide) dX11_noteOrder_117 (fun _ => ⟨rfl, hw⟩)
    · replace hw := hw.2 c
      refine g_iload_n hC dX11_noteOrder_69 rfl ?_
      refine g_if_eq (tgt := 95) hC dX11_noteOrder_70 rfl (fun c => ?_) (fun c => ?_)
      · replace hw := hw.1 c
        refine mG.pick (lv' := [(0, .ref (xB X + 0)), (3, .int x3)]) [0, 2] rfl ?_
        exact t_X11_noteOrder_95 hC hd hN hP hT hF ih hw
      · replace hw := hw.2 c
        refine g_aload_n hC dX11_noteOrder_73 rfl ?_
        refine g_getrS hC fl_X11_51_11.s (hT _ tg_G_0) (hP _ pt_G_0_11) dX11_noteOrder_74 ?_
        refine g_getrS hC fl_X11_301_1.s (hT _ tg_G_15) (hP _ pt_G_15_4) dX11_noteOrder_77 ?_
        refine g_iload_n hC dX11_noteOrder_80 rfl ?_
        refine g_ialdSv (v := (mI σ 19 (Int32.toNatClampNeg x3))) hC (hT _ tg_G_19) rfl hw.1 rfl dX11_noteOrder_81 ?_
        replace hw := hw.2
        refine g_aload_n hC dX11_noteOrder_82 rfl ?_
        refine g_getrS hC fl_X11_64_11.s (hT _ tg_G_0) (hP _ pt_G_0_17) dX11_noteOrder_83 ?_
        refine g_iload_n hC dX11_noteOrder_86 rfl ?_
        refine g_ialdSv (v := (mI σ 23 (Int32.toNatClampNeg x3))) hC (hT _ tg_G_23) rfl hw.1 rfl dX11_noteOrder_87 ?_
        replace hw := hw.2
        refine g_icmp_ne (tgt := 95) hC dX11_noteOrder_88 rfl (fun c => ?_) (fun c => ?_)
        · replace hw := hw.1 c
          refine mG.pick (lv' := [(0, .ref (xB X + 0)), (3, .int x3)]) [0, 2] rfl ?_
          exact t_X11_noteOrder_95 hC hd hN hP hT hF ih hw
        · replace hw := hw.2 c
          refine g_iconst (v := 1) hC dX11_noteOrder_91 (by decide) ?_
          refine g_goto (tgt := 96) hC dX11_noteOrder_92 rfl ?_
          refine mG.pick (lv' := [(0, .ref (xB X + 0)), (3, .int x3)]) [0, 2] rfl ?_
          exact t_X11_noteOrder_96 hC hd hN hP hT hF ih hw
def w_X11_noteOrder_57 (Q : Mem → Prop) (σ : Mem) : Prop := ∃ m101 : Nat, w_X11_noteOrder_61 Q m101 1 0 σ
set_option maxRecDepth 4000 in
set_option maxHeartbeats 2000000 in
theorem t_X11_noteOrder_57 {X : Cx} {d : Nat} (hC : mOK X cX11_noteOrder RX11 "noteOrder" none d 0 0) (hd : 1 ≤ d) (hN : ∀ i, i < 4 → i < xN X) (hP : ∀ e ∈ psG, e ∈ xP X) (hT : ∀ e ∈ tsG, e ∈ xT X) (hF : ∀ e ∈ xP X, e ∈ psA) {Q : Mem → Prop} {σ : Mem} (hw : w_X11_noteOrder_57 Q σ) : mG X 57 [(0, .ref (xB X + 0))] [] σ 0 0 (mQ X 0 0 (qV Q)) := by
  refine g_iconst (v := 1) hC dX11_noteOrder_57 (by decide) ?_
  refine g_istore_n (lv' := [(2, .int 1), (0, .ref (xB X + 0))]) hC dX11_noteOrder_58 (hN 2 (by decide)) rfl ?_
  refine g_iconst (v := 0) hC dX11_noteOrder_59 (by decide) ?_
  refine g_istore_n (lv' := [(3, .int 0), (2, .int 1), (0, .ref (xB X + 0))]) hC dX11_noteOrder_60 (hN 3 (by decide)) rfl ?_
  refine mG.pick (lv' := [(0, .ref (xB X + 0)), (2, .int 1), (3, .int 0)]) [2, 1, 0] rfl ?_
  obtain ⟨m101, hw⟩ := hw
  exact t_X11_noteOrder_61 hC hd hN hP hT hF m101 _ _ _ hw
def w_X11_noteOrder (σ : Mem) (Q : Mem → Prop) : Prop := ∀ v101 : Int32, v101 = (if 0 < (if (mI σ 15 2) < 8 then (mI σ 15 2) else 8) then (if (mI σ 15 2) < 8 then (mI σ 15 2) else 8) else 0) → (vp_in v101 9 ∧ (∀ v102 : Int32, v102 = ((mI σ 22 (Int32.toNatClampNeg v101)) + 1) → (vp_in v101 9 ∧ (((mI σ 0 13) ≤ v101 → (w_X11_noteOrder_57 Q (sI σ 22 (Int32.toNatClampNeg v101) v102))) ∧ (¬ (mI σ 0 13) ≤ v101 → (((¬ (0 : Int32) < 0 ∧ ¬ (0 : Int32) < 0 ∧ ¬ (mI σ 0 2) < 0 ∧ Int32.toNatClampNeg 0 + Int32.toNatClampNeg (mI σ 0 2) ≤ 8 ∧ Int32.toNatClampNeg 0 + Int32.toNatClampNeg (mI σ 0 2) ≤ 8) ∧ (w_X11_noteOrder_57 Q (sR (sI (sI σ 22 (Int32.toNatClampNeg v101) v102) 0 13 v101) 21 (va_cpy ((sI (sI σ 22 (Int32.toNatClampNeg v101) v102) 0 13 v101).1 20) ((sI (sI σ 22 (Int32.toNatClampNeg v101) v102) 0 13 v101).1 21) (Int32.toNatClampNeg 0) (Int32.toNatClampNeg 0) (Int32.toNatClampNeg (mI σ 0 2))))))))))))
set_option maxRecDepth 4000 in
set_option maxHeartbeats 2000000 in
theorem t_X11_noteOrder {X : Cx} {d : Nat} (hC : mOK X cX11_noteOrder RX11 "noteOrder" none d 0 0) (hd : 1 ≤ d) (hN : ∀ i, i < 4 → i < xN X) (hP : ∀ e ∈ psG, e ∈ xP X) (hT : ∀ e ∈ tsG, e ∈ xT X) (hF : ∀ e ∈ xP X, e ∈ psA) {σ : Mem} {Q : Mem → Prop} (hw : w_X11_noteOrder σ Q) : mG X 0 [(0, .ref (xB X + 0))] [] σ 0 0 (mQ X 0 0 (qV Q)) := by
  refine g_iconst (v := 0) hC dX11_noteOrder_0 (by decide) ?_
  refine g_bipush (v := 8) hC dX11_noteOrder_1 (by decide) ?_
  refine g_aload_n hC dX11_noteOrder_3 rfl ?_
  refine g_getrS hC fl_X11_51_11.s (hT _ tg_G_0) (hP _ pt_G_0_11) dX11_noteOrder_4 ?_
  refine g_getiSv (v := (mI σ 15 2)) hC fl_X11_185_1.s (hT _ tg_G_15) rfl dX11_noteOrder_7 ?_
  refine g_mmin hC tw_117 tw_119 tw_5 tw_120 (Nat.le_of_ble_eq_true rfl) (by omega) (by decide) (by decide) dX11_noteOrder_10 ?_
  refine g_mmax hC tw_118 tw_103 tw_5 tw_104 (Nat.le_of_ble_eq_true rfl) (by omega) (by decide) (by decide) dX11_noteOrder_13 ?_
  refine g_topi (fun v101 ev101 => ?_)
  replace hw := hw v101 ev101
  refine g_istore_n (lv' := [(1, .int v101), (0, .ref (xB X + 0))]) hC dX11_noteOrder_16 (hN 1 (by decide)) rfl ?_
  refine g_aload_n hC dX11_noteOrder_17 rfl ?_
  refine g_getrS hC fl_X11_61_11.s (hT _ tg_G_0) (hP _ pt_G_0_15) dX11_noteOrder_18 ?_
  refine g_iload_n hC dX11_noteOrder_21 rfl ?_
  refine g_dup2 hC dX11_noteOrder_22 rfl rfl ?_
  refine g_ialdSv (v := (mI σ 22 (Int32.toNatClampNeg v101))) hC (hT _ tg_G_22) rfl hw.1 rfl dX11_noteOrder_23 ?_
  replace hw := hw.2
  refine g_iconst (v := 1) hC dX11_noteOrder_24 (by decide) ?_
  refine g_iadd hC dX11_noteOrder_25 ?_
  refine g_topi (fun v102 ev102 => ?_)
  replace hw := hw v102 ev102
  have hin := hw.1
  replace hw := hw.2
  refine g_iastS (k := (Int32.toNatClampNeg v101)) hC (hT _ tg_G_22) rfl hin dX11_noteOrder_26 ?_
  refine g_iload_n hC dX11_noteOrder_27 rfl ?_
  refine g_aload_n hC dX11_noteOrder_28 rfl ?_
  refine g_getiSv (v := (mI σ 0 13)) hC fl_X11_241_11.s (hT _ tg_G_0) (mI_sI_n _ _ (by decide)) dX11_noteOrder_29 ?_
  refine g_icmp_ge (tgt := 57) hC dX11_noteOrder_32 rfl (fun c => ?_) (fun c => ?_)
  · replace hw := hw.1 c
    refine mG.pick (lv' := [(0, .ref (xB X + 0))]) [1] rfl ?_
    exact t_X11_noteOrder_57 hC hd hN hP hT hF hw
  · replace hw := hw.2 c
    refine g_aload_n hC dX11_noteOrder_35 rfl ?_
    refine g_iload_n hC dX11_noteOrder_36 rfl ?_
    refine g_putIS hC (fw_X11_241_11 _) (hT _ tg_G_0) rfl rfl dX11_noteOrder_37 ?_
    refine g_aload_n hC dX11_noteOrder_40 rfl ?_
    refine g_getrS hC fl_X11_55_11.s (hT _ tg_G_0) (hP _ pt_G_0_12) dX11_noteOrder_41 ?_
    refine g_iconst (v := 0) hC dX11_noteOrder_44 (by decide) ?_
    refine g_aload_n hC dX11_noteOrder_45 rfl ?_
    refine g_getrS hC fl_X11_58_11.s (hT _ tg_G_0) (hP _ pt_G_0_14) dX11_noteOrder_46 ?_
    refine g_iconst (v := 0) hC dX11_noteOrder_49 (by decide) ?_
    refine g_aload_n hC dX11_noteOrder_50 rfl ?_
    refine g_getiSv (v := (mI σ 0 2)) hC fl_X11_101_11.s (hT _ tg_G_0) ((mI_sI_k _ _ (by decide)).trans (mI_sI_n _ _ (by decide))) dX11_noteOrder_51 ?_
    obtain ⟨⟨q1, q2, q3, q4, q5⟩, hw⟩ := hw
    refine g_known (fun hS => ?_)
    refine g_copy hC (hS.2 _ (hT _ tg_G_20)) (hS.2 _ (hT _ tg_G_21)) tw_340 tw_220 tw_221 tw_222 q1 q2 q3 q4 q5 (by omega) (Nat.le_of_ble_eq_true rfl) dX11_noteOrder_54 ?_
    refine mG.pick (lv' := [(0, .ref (xB X + 0))]) [1] rfl ?_
    exact t_X11_noteOrder_57 hC hd hN hP hT hF hw
set_option maxRecDepth 4000 in
theorem c_X11_noteOrder {Z : Fx} {ps ts : List (Nat × Nat × Nat)} {d : Nat} (hd : 1 ≤ d) (hP : ∀ e ∈ psG, e ∈ ps) (hT : ∀ e ∈ tsG, e ∈ ts) (hF : ∀ e ∈ ps, e ∈ psA) {σ : Mem} {Q : Mem → Prop} (hw : w_X11_noteOrder σ Q) : mM Z ps ts yX11_noteOrder cX11_noteOrder 4 none d 0 0 [.ref (Z.2.2 + 0)] σ (qV Q) := by
  refine mM.of (by decide) (Nat.le_of_ble_eq_true rfl) rfl (fun X hZ hp ht hn hC => ?_)
  subst hZ; subst hp; subst ht
  exact t_X11_noteOrder hC hd (fun i h => by rw [hn]; exact h) hP hT hF hw
def w_X11_goOn_14 (rec_X11_goOn : Mem → Nat → Int32 → Int32 → (Mem → Prop) → Prop) (Q : Mem → Prop) (σ : Mem) : Prop := w_X11_noteOrder σ (fun s103 => Q s103)
set_option maxRecDepth 4000 in
set_option maxHeartbeats 2000000 in
theorem t_X11_goOn_14 {X : Cx} {d : Nat} {dr : Nat} (hC : mOK X cX11_goOn RX11 "goOn" none d 0 0) (hd : dr + 8 ≤ d) (hN : ∀ i, i < 6 → i < xN X) (hP : ∀ e ∈ psG, e ∈ xP X) (hT : ∀ e ∈ tsG, e ∈ xT X) (hF : ∀ e ∈ xP X, e ∈ psA) {rec_X11_goOn : Mem → Nat → Int32 → Int32 → (Mem → Prop) → Prop} (hrec_X11_goOn : ∀ (s : Mem) (z0 : Nat) (z1 : Int32) (z2 : Int32) (q : Mem → Prop), rec_X11_goOn s z0 z1 z2 q → mM (xZ X) (xP X) (xT X) yX11_goOn cX11_goOn 6 none dr 0 0 [.ref ((xB X) + 0), .ref ((xB X) + z0), .int z1, .int z2] s (qV q)) {Q : Mem → Prop} {σ : Mem} (hw : w_X11_goOn_14 rec_X11_goOn Q σ) : mG X 14 [(0, .ref (xB X + 0))] [] σ 0 0 (mQ X 0 0 (qV Q)) := by
  refine g_aload_n hC dX11_goOn_14 rfl ?_
  refine g_known (fun hS => ?_)
  refine mG.st (st1 := ([] : List Value).reverse ++ .ref (xB X + 0) :: []) rfl ?_
  refine g_callV (As := []) (st := []) hC (hS.2 _ (hT _ tg_G_0)) (by decide) ycl_11_X11_noteOrder yw_X11_noteOrder yv_X11_noteOrder tw_343 dX11_goOn_15 (fun _ h => h) (fun _ h => h) (fun h => h) (c_X11_noteOrder (d := 1) (Nat.le_refl _) hP hT hF hw) rfl (Nat.le_of_ble_eq_true rfl) (by omega) (by decide) (by decide) (kV fun s103 hw => ?_)
  exact g_vret hC (by decide) (by decide) dX11_goOn_18 (fun _ => ⟨rfl, hw⟩)
def w_X11_goOn_98 (rec_X11_goOn : Mem → Nat → Int32 → Int32 → (Mem → Prop) → Prop) (Q : Mem → Prop) (K22 : Nat → Int32 → Int32 → Int32 → Mem → Prop) (a1 : Nat) (x2 : Int32) (x3 : Int32) (x4 : Int32) (σ : Mem) : Prop := K22 a1 x2 x3 (x4 + 1) σ
set_option maxRecDepth 4000 in
set_option maxHeartbeats 2000000 in
theorem t_X11_goOn_98 {X : Cx} {d : Nat} {dr : Nat} (hC : mOK X cX11_goOn RX11 "goOn" none d 0 0) (hd : dr + 8 ≤ d) (hN : ∀ i, i < 6 → i < xN X) (hP : ∀ e ∈ psG, e ∈ xP X) (hT : ∀ e ∈ tsG, e ∈ xT X) (hF : ∀ e ∈ xP X, e ∈ psA) {rec_X11_goOn : Mem → Nat → Int32 → Int32 → (Mem → Prop) → Prop} (hrec_X11_goOn : ∀ (s : Mem) (z0 : Nat) (z1 : Int32) (z2 : Int32) (q : Mem → Prop), rec_X11_goOn s z0 z1 z2 q → mM (xZ X) (xP X) (xT X) yX11_goOn cX11_goOn 6 none dr 0 0 [.ref ((xB X) + 0), .ref ((xB X) + z0), .int z1, .int z2] s (qV q)) {Q : Mem → Prop} {K22 : Nat → Int32 → Int32 → Int32 → Mem → Prop} (hK22 : ∀ (a1 : Nat) (x2 : Int32) (x3 : Int32) (x4 : Int32) (s : Mem), K22 a1 x2 x3 x4 s → mG X 22 [(0, .ref (xB X + 0)), (1, .ref (xB X + a1)), (2, .int x2), (3, .int x3), (4, .int x4)] [] s 0 0 (mQ X 0 0 (qV Q))) {a1 : Nat} {x2 : Int32} {x3 : Int32} {x4 : Int32} {σ : Mem} (hw : w_X11_goOn_98 rec_X11_goOn Q K22 a1 x2 x3 x4 σ) : mG X 98 [(0, .ref (xB X + 0)), (1, .ref (xB X + a1)), (2, .int x2), (3, .int x3), (4, .int x4)] [] σ 0 0 (mQ X 0 0 (qV Q)) := by
  refine g_iinc (v := x4 + 1) (lv' := [(4, .int (x4 + 1)), (0, .ref (xB X + 0)), (1, .ref (xB X + a1)), (2, .int x2), (3, .int x3)]) hC dX11_goOn_98 rfl rfl (hN 4 (by decide)) rfl ?_
  refine g_goto (tgt := 22) hC dX11_goOn_101 rfl ?_
  refine mG.pick (lv' := [(0, .ref (xB X + 0)), (1, .ref (xB X + a1)), (2, .int x2), (3, .int x3), (4, .int (x4 + 1))]) [1, 2, 3, 4, 0] rfl ?_
  exact hK22 _ _ _ _ _ hw
def w_X11_goOn_22 (rec_X11_goOn : Mem → Nat → Int32 → Int32 → (Mem → Prop) → Prop) (Q : Mem → Prop) : Nat → Nat → Int32 → Int32 → Int32 → Mem → Prop
  | 0, _, _, _, _, _ => False
  | n + 1, a1, x2, x3, x4, σ => ((mI σ 0 2) ≤ x4 → (Q σ)) ∧ (¬ (mI σ 0 2) ≤ x4 → ((((x3 >>> (x4 &&& 31)) &&& 1) = 0 → (w_X11_chosenBy_d_15 σ a1 x4 (fun v101 s103 => vp_in x2 8 ∧ (w_X1_put_15 (sI s103 20 (Int32.toNatClampNeg x2) x4) v101 x4 (fun s106 => rec_X11_goOn s106 a1 (x2 + 1) (x3 ||| ((1 : Int32) <<< (x4 &&& 31))) (fun s109 => w_X1_undo_15 s109 v101 (fun s112 => w_X11_goOn_98 rec_X11_goOn Q (fun z0 z1 z2 z3 z4 => w_X11_goOn_22 rec_X11_goOn Q n z0 z1 z2 z3 z4) a1 x2 x3 x4 s112))))))) ∧ (¬ ((x3 >>> (x4 &&& 31)) &&& 1) = 0 → (w_X11_goOn_98 rec_X11_goOn Q (fun z0 z1 z2 z3 z4 => w_X11_goOn_22 rec_X11_goOn Q n z0 z1 z2 z3 z4) a1 x2 x3 x4 σ))))
set_option maxRecDepth 4000 in
set_option maxHeartbeats 2000000 in
theorem t_X11_goOn_22 {X : Cx} {d : Nat} {dr : Nat} (hC : mOK X cX11_goOn RX11 "goOn" none d 0 0) (hd : dr + 8 ≤ d) (hN : ∀ i, i < 6 → i < xN X) (hP : ∀ e ∈ psG, e ∈ xP X) (hT : ∀ e ∈ tsG, e ∈ xT X) (hF : ∀ e ∈ xP X, e ∈ psA) {rec_X11_goOn : Mem → Nat → Int32 → Int32 → (Mem → Prop) → Prop} (hrec_X11_goOn : ∀ (s : Mem) (z0 : Nat) (z1 : Int32) (z2 : Int32) (q : Mem → Prop), rec_X11_goOn s z0 z1 z2 q → mM (xZ X) (xP X) (xT X) yX11_goOn cX11_goOn 6 none dr 0 0 [.ref ((xB X) + 0), .ref ((xB X) + z0), .int z1, .int z2] s (qV q)) {Q : Mem → Prop} : ∀ (n : Nat) (a1 : Nat) (x2 : Int32) (x3 : Int32) (x4 : Int32) (σ : Mem), w_X11_goOn_22 rec_X11_goOn Q n a1 x2 x3 x4 σ → mG X 22 [(0, .ref (xB X + 0)), (1, .ref (xB X + a1)), (2, .int x2), (3, .int x3), (4, .int x4)] [] σ 0 0 (mQ X 0 0 (qV Q)) := by
  intro n
  induction n with
  | zero => intro a1 x2 x3 x4 σ hw; exact False.elim hw
  | succ n ih =>
    intro a1 x2 x3 x4 σ hw
    rw [w_X11_goOn_22] at hw
    refine g_iload hC dX11_goOn_22 rfl ?_
    refine g_aload_n hC dX11_goOn_24 rfl ?_
    refine g_getiSv (v := (mI σ 0 2)) hC fl_X11_101_11.s (hT _ tg_G_0) rfl dX11_goOn_25 ?_
    refine g_icmp_ge (tgt := 104) hC dX11_goOn_28 rfl (fun c => ?_) (fun c => ?_)
    · replace hw := hw.1 c
      exact g_vret hC (by decide) (by decide) dX11_goOn_104 (fun _ => ⟨rfl, hw⟩)
    · replace hw := hw.2 c
      refine g_iload_n hC dX11_goOn_31 rfl ?_
      refine g_iload hC dX11_goOn_32 rfl ?_
      refine g_ishr hC dX11_goOn_34 ?_
      refine g_iconst (v := 1) hC dX11_goOn_35 (by decide) ?_
      refine g_iand hC dX11_goOn_36 ?_
      refine g_if_eq (tgt := 43) hC dX11_goOn_37 rfl (fun c => ?_) (fun c => ?_)
      · replace hw := hw.1 c
        refine g_aload_n hC dX11_goOn_43 rfl ?_
        refine g_aload_n hC dX11_goOn_44 rfl ?_
        refine g_aload_n hC dX11_goOn_45 rfl ?_
        refine g_getrS hC fl_X11_51_11.s (hT _ tg_G_0) (hP _ pt_G_0_11) dX11_goOn_46 ?_
        refine g_iload hC dX11_goOn_49 rfl ?_
        refine g_known (fun hS => ?_)
        refine mG.st (st1 := ([.ref (xB X + a1), .ref (xB X + 15), .int x4] : List Value).reverse ++ .ref (xB X + 0) :: []) rfl ?_
        refine g_callV (As := [.ref (xB X + a1), .ref (xB X + 15), .int x4]) (st := []) hC (hS.2 _ (hT _ tg_G_0)) (by decide) ycl_11_X11_chosenBy yw_X11_chosenBy yv_X11_chosenBy tw_250 dX11_goOn_51 (fun _ h => h) (fun _ h => h) (fun h => h) (c_X11_chosenBy_d_15 (d := 7) (Nat.le_refl _) hP hT hF hw) rfl (Nat.le_of_ble_eq_true rfl) (by omega) (by decide) (by decide) (kI fun v101 s103 hw => ?_)
        refine g_istore (lv' := [(5, .int v101), (0, .ref (xB X + 0)), (1, .ref (xB X + a1)), (2, .int x2), (3, .int x3), (4, .int x4)]) hC dX11_goOn_54 (hN 5 (by decide)) rfl ?_
        refine g_aload_n hC dX11_goOn_56 rfl ?_
        refine g_getrS hC fl_X11_55_11.s (hT _ tg_G_0) (hP _ pt_G_0_12) dX11_goOn_57 ?_
        refine g_iload_n hC dX11_goOn_60 rfl ?_
        refine g_iload hC dX11_goOn_61 rfl ?_
        have hin := hw.1
        replace hw := hw.2
        refine g_iastS (k := (Int32.toNatClampNeg x2)) hC (hT _ tg_G_20) rfl hin dX11_goOn_63 ?_
        refine g_aload_n hC dX11_goOn_64 rfl ?_
        refine g_getrS hC fl_X11_51_11.s (hT _ tg_G_0) (hP _ pt_G_0_11) dX11_goOn_65 ?_
        refine g_iload hC dX11_goOn_68 rfl ?_
        refine g_iload hC dX11_goOn_70 rfl ?_
        refine g_known (fun hS => ?_)
        refine mG.st (st1 := ([.int v101, .int x4] : List Value).reverse ++ .ref (xB X + 15) :: []) rfl ?_
        refine g_callV (As := [.int v101, .int x4]) (st := []) hC (hS.2 _ (hT _ tg_G_15)) (by decide) ycl_1_X1_put yw_X1_put yv_X1_put tw_278 dX11_goOn_72 (fun _ h => h) (fun _ h => h) (fun h => h) (c_X1_put_15 (d := 2) (Nat.le_refl _) hP hT hF hw) rfl (Nat.le_of_ble_eq_true rfl) (by omega) (by decide) (by decide) (kV fun s106 hw => ?_)
        refine g_aload_n hC dX11_goOn_75 rfl ?_
        refine g_aload_n hC dX11_goOn_76 rfl ?_
        refine g_iload_n hC dX11_goOn_77 rfl ?_
        refine g_iconst (v := 1) hC dX11_goOn_78 (by decide) ?_
        refine g_iadd hC dX11_goOn_79 ?_
        refine g_iload_n hC dX11_goOn_80 rfl ?_
        refine g_iconst (v := 1) hC dX11_goOn_81 (by decide) ?_
        refine g_iload hC dX11_goOn_82 rfl ?_
        refine g_ishl hC dX11_goOn_84 ?_
        refine g_ior hC dX11_goOn_85 ?_
        refine g_known (fun hS => ?_)
        refine mG.st (st1 := ([.ref (xB X + a1), .int (x2 + 1), .int (x3 ||| ((1 : Int32) <<< (x4 &&& 31)))] : List Value).reverse ++ .ref (xB X + 0) :: []) rfl ?_
        refine g_callV (As := [.ref (xB X + a1), .int (x2 + 1), .int (x3 ||| ((1 : Int32) <<< (x4 &&& 31)))]) (st := []) hC (hS.2 _ (hT _ tg_G_0)) (by decide) ycl_11_X11_goOn yw_X11_goOn yv_X11_goOn tw_342 dX11_goOn_86 (fun _ h => h) (fun _ h => h) (fun h => h) (hrec_X11_goOn _ _ _ _ _ hw) rfl (Nat.le_of_ble_eq_true rfl) (by omega) (by decide) (by decide) (kV fun s109 hw => ?_)
        refine g_aload_n hC dX11_goOn_89 rfl ?_
        refine g_getrS hC fl_X11_51_11.s (hT _ tg_G_0) (hP _ pt_G_0_11) dX11_goOn_90 ?_
        refine g_iload hC dX11_goOn_93 rfl ?_
        refine g_known (fun hS => ?_)
        refine mG.st (st1 := ([.int v101] : List Value).reverse ++ .ref (xB X + 15) :: []) rfl ?_
        refine g_callV (As := [.int v101]) (st := []) hC (hS.2 _ (hT _ tg_G_15)) (by decide) ycl_1_X1_undo yw_X1_undo yv_X1_undo tw_302 dX11_goOn_95 (fun _ h => h) (fun _ h => h) (fun h => h) (c_X1_undo_15 (d := 3) (Nat.le_refl _) hP hT hF hw) rfl (Nat.le_of_ble_eq_true rfl) (by omega) (by decide) (by decide) (kV fun s112 hw => ?_)
        refine mG.pick (lv' := [(0, .ref (xB X + 0)), (1, .ref (xB X + a1)), (2, .int x2), (3, .int x3), (4, .int x4)]) [1, 2, 3, 4, 5] rfl ?_
        exact t_X11_goOn_98 hC hd hN hP hT hF hrec_X11_goOn ih hw
      · replace hw := hw.2 c
        refine g_goto (tgt := 98) hC dX11_goOn_40 rfl ?_
        refine mG.pick (lv' := [(0, .ref (xB X + 0)), (1, .ref (xB X + a1)), (2, .int x2), (3, .int x3), (4, .int x4)]) [0, 1, 2, 3, 4] rfl ?_
        exact t_X11_goOn_98 hC hd hN hP hT hF hrec_X11_goOn ih hw
def w_X11_goOn (rec_X11_goOn : Mem → Nat → Int32 → Int32 → (Mem → Prop) → Prop) (σ : Mem) (a1 : Nat) (x2 : Int32) (x3 : Int32) (Q : Mem → Prop) : Prop := ((mI σ 0 2) ≤ x2 → (w_X11_goOn_14 rec_X11_goOn Q σ)) ∧ (¬ (mI σ 0 2) ≤ x2 → ((x2 < 8 → (∃ m101 : Nat, w_X11_goOn_22 rec_X11_goOn Q m101 a1 x2 x3 0 σ)) ∧ (¬ x2 < 8 → (w_X11_goOn_14 rec_X11_goOn Q σ))))
set_option maxRecDepth 4000 in
set_option maxHeartbeats 2000000 in
theorem t_X11_goOn {X : Cx} {d : Nat} {dr : Nat} (hC : mOK X cX11_goOn RX11 "goOn" none d 0 0) (hd : dr + 8 ≤ d) (hN : ∀ i, i < 6 → i < xN X) (hP : ∀ e ∈ psG, e ∈ xP X) (hT : ∀ e ∈ tsG, e ∈ xT X) (hF : ∀ e ∈ xP X, e ∈ psA) {rec_X11_goOn : Mem → Nat → Int32 → Int32 → (Mem → Prop) → Prop} (hrec_X11_goOn : ∀ (s : Mem) (z0 : Nat) (z1 : Int32) (z2 : Int32) (q : Mem → Prop), rec_X11_goOn s z0 z1 z2 q → mM (xZ X) (xP X) (xT X) yX11_goOn cX11_goOn 6 none dr 0 0 [.ref ((xB X) + 0), .ref ((xB X) + z0), .int z1, .int z2] s (qV q)) {σ : Mem} {a1 : Nat} {x2 : Int32} {x3 : Int32} {Q : Mem → Prop} (hw : w_X11_goOn rec_X11_goOn σ a1 x2 x3 Q) : mG X 0 [(0, .ref (xB X + 0)), (1, .ref (xB X + a1)), (2, .int x2), (3, .int x3)] [] σ 0 0 (mQ X 0 0 (qV Q)) := by
  refine g_iload_n hC dX11_goOn_0 rfl ?_
  refine g_aload_n hC dX11_goOn_1 rfl ?_
  refine g_getiSv (v := (mI σ 0 2)) hC fl_X11_101_11.s (hT _ tg_G_0) rfl dX11_goOn_2 ?_
  refine g_icmp_ge (tgt := 14) hC dX11_goOn_5 rfl (fun c => ?_) (fun c => ?_)
  · replace hw := hw.1 c
    refine mG.pick (lv' := [(0, .ref (xB X + 0))]) [0] rfl ?_
    exact t_X11_goOn_14 hC hd hN hP hT hF hrec_X11_goOn hw
  · replace hw := hw.2 c
    refine g_iload_n hC dX11_goOn_8 rfl ?_
    refine g_bipush (v := 8) hC dX11_goOn_9 (by decide) ?_
    refine g_icmp_lt (tgt := 19) hC dX11_goOn_11 rfl (fun c => ?_) (fun c => ?_)
    · replace hw := hw.1 c
      refine g_iconst (v := 0) hC dX11_goOn_19 (by decide) ?_
      refine g_istore (lv' := [(4, .int 0), (0, .ref (xB X + 0)), (1, .ref (xB X + a1)), (2, .int x2), (3, .int x3)]) hC dX11_goOn_20 (hN 4 (by decide)) rfl ?_
      refine mG.pick (lv' := [(0, .ref (xB X + 0)), (1, .ref (xB X + a1)), (2, .int x2), (3, .int x3), (4, .int 0)]) [1, 2, 3, 4, 0] rfl ?_
      obtain ⟨m101, hw⟩ := hw
      exact t_X11_goOn_22 hC hd hN hP hT hF hrec_X11_goOn m101 _ _ _ _ _ hw
    · replace hw := hw.2 c
      refine mG.pick (lv' := [(0, .ref (xB X + 0))]) [0] rfl ?_
      exact t_X11_goOn_14 hC hd hN hP hT hF hrec_X11_goOn hw
set_option maxRecDepth 4000 in
theorem c_X11_goOn {Z : Fx} {ps ts : List (Nat × Nat × Nat)} {d dr : Nat} (hd : dr + 8 ≤ d) {rec_X11_goOn : Mem → Nat → Int32 → Int32 → (Mem → Prop) → Prop} (hrec_X11_goOn : ∀ (s : Mem) (z0 : Nat) (z1 : Int32) (z2 : Int32) (q : Mem → Prop), rec_X11_goOn s z0 z1 z2 q → mM Z ps ts yX11_goOn cX11_goOn 6 none dr 0 0 [.ref (Z.2.2 + 0), .ref (Z.2.2 + z0), .int z1, .int z2] s (qV q)) (hP : ∀ e ∈ psG, e ∈ ps) (hT : ∀ e ∈ tsG, e ∈ ts) (hF : ∀ e ∈ ps, e ∈ psA) {σ : Mem} {a1 : Nat} {x2 : Int32} {x3 : Int32} {Q : Mem → Prop} (hw : w_X11_goOn rec_X11_goOn σ a1 x2 x3 Q) : mM Z ps ts yX11_goOn cX11_goOn 6 none d 0 0 [.ref (Z.2.2 + 0), .ref (Z.2.2 + a1), .int x2, .int x3] σ (qV Q) := by
  refine mM.of (by decide) (Nat.le_of_ble_eq_true rfl) rfl (fun X hZ hp ht hn hC => ?_)
  subst hZ; subst hp; subst ht
  exact t_X11_goOn hC hd (fun i h => by rw [hn]; exact h) hP hT hF hrec_X11_goOn hw
def f_X11_goOn : Nat → Mem → Nat → Int32 → Int32 → (Mem → Prop) → Prop
  | 0, _, _, _, _, _ => False
  | n + 1, σ, a1, x2, x3, Q => w_X11_goOn (f_X11_goOn n) σ a1 x2 x3 Q
theorem cf_X11_goOn {Z : Fx} {ps ts : List (Nat × Nat × Nat)} (n : Nat) (hP : ∀ e ∈ psG, e ∈ ps) (hT : ∀ e ∈ tsG, e ∈ ts) (hF : ∀ e ∈ ps, e ∈ psA) : ∀ {σ : Mem} {a1 : Nat} {x2 : Int32} {x3 : Int32} {Q : Mem → Prop}, f_X11_goOn n σ a1 x2 x3 Q → mM Z ps ts yX11_goOn cX11_goOn 6 none (8 * (n + 1)) 0 0 [.ref (Z.2.2 + 0), .ref (Z.2.2 + a1), .int x2, .int x3] σ (qV Q) := by
  induction n with
  | zero => intro σ a1 x2 x3 Q hw; exact False.elim hw
  | succ n ih =>
    intro σ a1 x2 x3 Q hw
    rw [f_X11_goOn] at hw
    exact c_X11_goOn (dr := 8 * (n + 1)) (by omega) (fun s z0 z1 z2 q h => ih h) hP hT hF hw
def w_X11_goThroughOrders (σ : Mem) (a1 : Nat) (Q : Mem → Prop) : Prop := w_X11_orderOfNow σ (fun s103 => w_X11_layInOrder s103 a1 (mI s103 0 2) (fun v104 s106 => ((¬ (0 : Int32) < 0 ∧ ¬ (0 : Int32) < 0 ∧ ¬ (mI s106 0 2) < 0 ∧ Int32.toNatClampNeg 0 + Int32.toNatClampNeg (mI s106 0 2) ≤ 8 ∧ Int32.toNatClampNeg 0 + Int32.toNatClampNeg (mI s106 0 2) ≤ 8) ∧ (w_J7_fill_53178_22 (sR s106 23 (va_cpy (s106.1 19) (s106.1 23) (Int32.toNatClampNeg 0) (Int32.toNatClampNeg 0) (Int32.toNatClampNeg (mI s106 0 2)))) 0 (fun s109 => w_X1_clear_15 (sI (sI s109 0 16 0) 0 13 793) (fun s112 => ∃ m116 : Nat, m116 ≤ 12 ∧ f_X11_goOn m116 s112 a1 0 0 (fun s115 => Q s115)))))))
set_option maxRecDepth 4000 in
set_option maxHeartbeats 2000000 in
theorem t_X11_goThroughOrders {X : Cx} {d : Nat} (hC : mOK X cX11_goThroughOrders RX11 "goThroughOrders" none d 0 0) (hd : 105 ≤ d) (hN : ∀ i, i < 2 → i < xN X) (hP : ∀ e ∈ psG, e ∈ xP X) (hT : ∀ e ∈ tsG, e ∈ xT X) (hF : ∀ e ∈ xP X, e ∈ psA) {σ : Mem} {a1 : Nat} {Q : Mem → Prop} (hw : w_X11_goThroughOrders σ a1 Q) : mG X 0 [(0, .ref (xB X + 0)), (1, .ref (xB X + a1))] [] σ 0 0 (mQ X 0 0 (qV Q)) := by
  refine g_aload_n hC dX11_goThroughOrders_0 rfl ?_
  refine g_known (fun hS => ?_)
  refine mG.st (st1 := ([] : List Value).reverse ++ .ref (xB X + 0) :: []) rfl ?_
  refine g_callV (As := []) (st := []) hC (hS.2 _ (hT _ tg_G_0)) (by decide) ycl_11_X11_orderOfNow yw_X11_orderOfNow yv_X11_orderOfNow tw_240 dX11_goThroughOrders_1 (fun _ h => h) (fun _ h => h) (fun h => h) (c_X11_orderOfNow (d := 0) (Nat.le_refl _) hP hT hF hw) rfl (Nat.le_of_ble_eq_true rfl) (by omega) (by decide) (by decide) (kV fun s103 hw => ?_)
  refine g_aload_n hC dX11_goThroughOrders_4 rfl ?_
  refine g_aload_n hC dX11_goThroughOrders_5 rfl ?_
  refine g_aload_n hC dX11_goThroughOrders_6 rfl ?_
  refine g_getiSv (v := (mI s103 0 2)) hC fl_X11_101_11.s (hT _ tg_G_0) rfl dX11_goThroughOrders_7 ?_
  refine g_known (fun hS => ?_)
  refine mG.st (st1 := ([.ref (xB X + a1), .int (mI s103 0 2)] : List Value).reverse ++ .ref (xB X + 0) :: []) rfl ?_
  refine g_callV (As := [.ref (xB X + a1), .int (mI s103 0 2)]) (st := []) hC (hS.2 _ (hT _ tg_G_0)) (by decide) ycl_11_X11_layInOrder yw_X11_layInOrder yv_X11_layInOrder tw_242 dX11_goThroughOrders_10 (fun _ h => h) (fun _ h => h) (fun h => h) (c_X11_layInOrder (d := 8) (Nat.le_refl _) hP hT hF hw) rfl (Nat.le_of_ble_eq_true rfl) (by omega) (by decide) (by decide) (kI fun v104 s106 hw => ?_)
  refine g_pop hC dX11_goThroughOrders_13 rfl ?_
  refine g_aload_n hC dX11_goThroughOrders_14 rfl ?_
  refine g_getrS hC fl_X11_51_11.s (hT _ tg_G_0) (hP _ pt_G_0_11) dX11_goThroughOrders_15 ?_
  refine g_getrS hC fl_X11_301_1.s (hT _ tg_G_15) (hP _ pt_G_15_4) dX11_goThroughOrders_18 ?_
  refine g_iconst (v := 0) hC dX11_goThroughOrders_21 (by decide) ?_
  refine g_aload_n hC dX11_goThroughOrders_22 rfl ?_
  refine g_getrS hC fl_X11_64_11.s (hT _ tg_G_0) (hP _ pt_G_0_17) dX11_goThroughOrders_23 ?_
  refine g_iconst (v := 0) hC dX11_goThroughOrders_26 (by decide) ?_
  refine g_aload_n hC dX11_goThroughOrders_27 rfl ?_
  refine g_getiSv (v := (mI s106 0 2)) hC fl_X11_101_11.s (hT _ tg_G_0) rfl dX11_goThroughOrders_28 ?_
  obtain ⟨⟨q1, q2, q3, q4, q5⟩, hw⟩ := hw
  refine g_known (fun hS => ?_)
  refine g_copy hC (hS.2 _ (hT _ tg_G_19)) (hS.2 _ (hT _ tg_G_23)) tw_340 tw_220 tw_221 tw_222 q1 q2 q3 q4 q5 (by omega) (Nat.le_of_ble_eq_true rfl) dX11_goThroughOrders_31 ?_
  refine g_aload_n hC dX11_goThroughOrders_34 rfl ?_
  refine g_getrS hC fl_X11_61_11.s (hT _ tg_G_0) (hP _ pt_G_0_15) dX11_goThroughOrders_35 ?_
  refine g_iconst (v := 0) hC dX11_goThroughOrders_38 (by decide) ?_
  refine mG.st (st1 := ([.ref (xB X + 22), .int 0] : List Value).reverse ++ []) rfl ?_
  refine g_callS (As := [.ref (xB X + 22), .int 0]) (st := []) hC yw_J7_fill_53178 ys_J7_fill_53178 tw_341 dX11_goThroughOrders_39 (fun _ h => h) (fun _ h => h) (fun h => h) (c_J7_fill_53178_22 (d := 0) (Nat.le_refl _) hP hT hF hw) rfl (Nat.le_of_ble_eq_true rfl) (by omega) (by decide) (by decide) (kV fun s109 hw => ?_)
  refine g_aload_n hC dX11_goThroughOrders_42 rfl ?_
  refine g_iconst (v := 0) hC dX11_goThroughOrders_43 (by decide) ?_
  refine g_putIS hC (fw_X11_273_11 _) (hT _ tg_G_0) rfl rfl dX11_goThroughOrders_44 ?_
  refine g_aload_n hC dX11_goThroughOrders_47 rfl ?_
  refine g_sipush (v := 793) hC dX11_goThroughOrders_48 (by decide) ?_
  refine g_putIS hC (fw_X11_241_11 _) (hT _ tg_G_0) rfl rfl dX11_goThroughOrders_51 ?_
  refine g_aload_n hC dX11_goThroughOrders_54 rfl ?_
  refine g_getrS hC fl_X11_51_11.s (hT _ tg_G_0) (hP _ pt_G_0_11) dX11_goThroughOrders_55 ?_
  refine g_known (fun hS => ?_)
  refine mG.st (st1 := ([] : List Value).reverse ++ .ref (xB X + 15) :: []) rfl ?_
  refine g_callV (As := []) (st := []) hC (hS.2 _ (hT _ tg_G_15)) (by decide) ycl_1_X1_clear yw_X1_clear yv_X1_clear tw_243 dX11_goThroughOrders_58 (fun _ h => h) (fun _ h => h) (fun h => h) (c_X1_clear_15 (d := 0) (Nat.le_refl _) hP hT hF hw) rfl (Nat.le_of_ble_eq_true rfl) (by omega) (by decide) (by decide) (kV fun s112 hw => ?_)
  refine g_aload_n hC dX11_goThroughOrders_61 rfl ?_
  refine g_aload_n hC dX11_goThroughOrders_62 rfl ?_
  refine g_iconst (v := 0) hC dX11_goThroughOrders_63 (by decide) ?_
  refine g_iconst (v := 0) hC dX11_goThroughOrders_64 (by decide) ?_
  refine g_known (fun hS => ?_)
  obtain ⟨m116, hn, hw⟩ := hw
  refine mG.st (st1 := ([.ref (xB X + a1), .int 0, .int 0] : List Value).reverse ++ .ref (xB X + 0) :: []) rfl ?_
  refine g_callV (As := [.ref (xB X + a1), .int 0, .int 0]) (st := []) hC (hS.2 _ (hT _ tg_G_0)) (by decide) ycl_11_X11_goOn yw_X11_goOn yv_X11_goOn tw_342 dX11_goThroughOrders_65 (fun _ h => h) (fun _ h => h) (fun h => h) (cf_X11_goOn m116 hP hT hF hw) rfl (Nat.le_of_ble_eq_true rfl) (by omega) (by decide) (by decide) (kV fun s115 hw => ?_)
  exact g_vret hC (by decide) (by decide) dX11_goThroughOrders_68 (fun _ => ⟨rfl, hw⟩)
set_option maxRecDepth 4000 in
theorem c_X11_goThroughOrders {Z : Fx} {ps ts : List (Nat × Nat × Nat)} {d : Nat} (hd : 105 ≤ d) (hP : ∀ e ∈ psG, e ∈ ps) (hT : ∀ e ∈ tsG, e ∈ ts) (hF : ∀ e ∈ ps, e ∈ psA) {σ : Mem} {a1 : Nat} {Q : Mem → Prop} (hw : w_X11_goThroughOrders σ a1 Q) : mM Z ps ts yX11_goThroughOrders cX11_goThroughOrders 2 none d 0 0 [.ref (Z.2.2 + 0), .ref (Z.2.2 + a1)] σ (qV Q) := by
  refine mM.of (by decide) (Nat.le_of_ble_eq_true rfl) rfl (fun X hZ hp ht hn hC => ?_)
  subst hZ; subst hp; subst ht
  exact t_X11_goThroughOrders hC hd (fun i h => by rw [hn]; exact h) hP hT hF hw
def w_X11_orders (σ : Mem) (x1 : Int32) (x2 : Int32) (Q : Int32 → Mem → Prop) : Prop := w_X11_layerAt σ x1 (fun o102 s103 => (o102 = none → (Q (-2) s103)) ∧ (∀ r104 : Nat, o102 = some r104 → ((x2 < 0 → (Q (-2) s103)) ∧ (¬ x2 < 0 → ((x2 ≤ 8 → (((mI s103 0 2) ≤ 6 → (w_X11_goThroughOrders s103 r104 (fun s107 => vp_in x2 9 ∧ (Q (mI s107 22 (Int32.toNatClampNeg x2)) s107)))) ∧ (¬ (mI s103 0 2) ≤ 6 → (Q (-3) s103)))) ∧ (¬ x2 ≤ 8 → (Q (-2) s103)))))))
set_option maxRecDepth 4000 in
set_option maxHeartbeats 2000000 in
theorem t_X11_orders {X : Cx} {d : Nat} (hC : mOK X cX11_orders RX11 "orders" (some .int) d 0 0) (hd : 106 ≤ d) (hN : ∀ i, i < 4 → i < xN X) (hP : ∀ e ∈ psG, e ∈ xP X) (hT : ∀ e ∈ tsG, e ∈ xT X) (hF : ∀ e ∈ xP X, e ∈ psA) {σ : Mem} {x1 : Int32} {x2 : Int32} {Q : Int32 → Mem → Prop} (hw : w_X11_orders σ x1 x2 Q) : mG X 0 [(0, .ref (xB X + 0)), (1, .int x1), (2, .int x2)] [] σ 0 0 (mQ X 0 0 (qI Q)) := by
  refine g_aload_n hC dX11_orders_0 rfl ?_
  refine g_iload_n hC dX11_orders_1 rfl ?_
  refine g_known (fun hS => ?_)
  refine mG.st (st1 := ([.int x1] : List Value).reverse ++ .ref (xB X + 0) :: []) rfl ?_
  refine g_callV (As := [.int x1]) (st := []) hC (hS.2 _ (hT _ tg_G_0)) (by decide) ycl_11_X11_layerAt yw_X11_layerAt yv_X11_layerAt tw_126 dX11_orders_2 (fun _ h => h) (fun _ h => h) (fun h => h) (c_X11_layerAt (d := 0) (Nat.le_refl _) hP hT hF hw) rfl (Nat.le_of_ble_eq_true rfl) (by omega) (by decide) (by decide) (kA fun o102 s103 hw => ?_)
  refine g_astore_nQ (lv' := [(3, rq X o102), (0, .ref (xB X + 0)), (1, .int x1), (2, .int x2)]) hC dX11_orders_5 (hN 3 (by decide)) rfl ?_
  refine g_aload_nQ hC dX11_orders_6 rfl ?_
  rcases o102 with _ | r104
  · replace hw := hw.1 rfl
    refine g_ifnullN (tgt := 20) hC dX11_orders_7 rfl ?_
    refine g_bipush (v := (-2)) hC dX11_orders_20 (by decide) ?_
    exact g_iret hC rfl (by decide) (by decide) dX11_orders_22 (fun _ => ⟨_, rfl, hw⟩)
  · replace hw := hw.2 r104 rfl
    refine g_ifnullR hC dX11_orders_7 ?_
    refine g_iload_n hC dX11_orders_10 rfl ?_
    refine g_if_lt (tgt := 20) hC dX11_orders_11 rfl (fun c => ?_) (fun c => ?_)
    · replace hw := hw.1 c
      refine g_bipush (v := (-2)) hC dX11_orders_20 (by decide) ?_
      exact g_iret hC rfl (by decide) (by decide) dX11_orders_22 (fun _ => ⟨_, rfl, hw⟩)
    · replace hw := hw.2 c
      refine g_iload_n hC dX11_orders_14 rfl ?_
      refine g_bipush (v := 8) hC dX11_orders_15 (by decide) ?_
      refine g_icmp_le (tgt := 23) hC dX11_orders_17 rfl (fun c => ?_) (fun c => ?_)
      · replace hw := hw.1 c
        refine g_aload_n hC dX11_orders_23 rfl ?_
        refine g_getiSv (v := (mI s103 0 2)) hC fl_X11_101_11.s (hT _ tg_G_0) rfl dX11_orders_24 ?_
        refine g_bipush (v := 6) hC dX11_orders_27 (by decide) ?_
        refine g_icmp_le (tgt := 35) hC dX11_orders_29 rfl (fun c => ?_) (fun c => ?_)
        · replace hw := hw.1 c
          refine g_aload_n hC dX11_orders_35 rfl ?_
          refine g_aload_n hC dX11_orders_36 rfl ?_
          refine g_known (fun hS => ?_)
          refine mG.st (st1 := ([.ref (xB X + r104)] : List Value).reverse ++ .ref (xB X + 0) :: []) rfl ?_
          refine g_callV (As := [.ref (xB X + r104)]) (st := []) hC (hS.2 _ (hT _ tg_G_0)) (by decide) ycl_11_X11_goThroughOrders yw_X11_goThroughOrders yv_X11_goThroughOrders tw_339 dX11_orders_37 (fun _ h => h) (fun _ h => h) (fun h => h) (c_X11_goThroughOrders (d := 105) (Nat.le_refl _) hP hT hF hw) rfl (Nat.le_of_ble_eq_true rfl) (by omega) (by decide) (by decide) (kV fun s107 hw => ?_)
          refine g_aload_n hC dX11_orders_40 rfl ?_
          refine g_getrS hC fl_X11_61_11.s (hT _ tg_G_0) (hP _ pt_G_0_15) dX11_orders_41 ?_
          refine g_iload_n hC dX11_orders_44 rfl ?_
          refine g_ialdSv (v := (mI s107 22 (Int32.toNatClampNeg x2))) hC (hT _ tg_G_22) rfl hw.1 rfl dX11_orders_45 ?_
          replace hw := hw.2
          exact g_iret hC rfl (by decide) (by decide) dX11_orders_46 (fun _ => ⟨_, rfl, hw⟩)
        · replace hw := hw.2 c
          refine g_bipush (v := (-3)) hC dX11_orders_32 (by decide) ?_
          exact g_iret hC rfl (by decide) (by decide) dX11_orders_34 (fun _ => ⟨_, rfl, hw⟩)
      · replace hw := hw.2 c
        refine g_bipush (v := (-2)) hC dX11_orders_20 (by decide) ?_
        exact g_iret hC rfl (by decide) (by decide) dX11_orders_22 (fun _ => ⟨_, rfl, hw⟩)
set_option maxRecDepth 4000 in
theorem c_X11_orders {Z : Fx} {ps ts : List (Nat × Nat × Nat)} {d : Nat} (hd : 106 ≤ d) (hP : ∀ e ∈ psG, e ∈ ps) (hT : ∀ e ∈ tsG, e ∈ ts) (hF : ∀ e ∈ ps, e ∈ psA) {σ : Mem} {x1 : Int32} {x2 : Int32} {Q : Int32 → Mem → Prop} (hw : w_X11_orders σ x1 x2 Q) : mM Z ps ts yX11_orders cX11_orders 4 (some .int) d 0 0 [.ref (Z.2.2 + 0), .int x1, .int x2] σ (qI Q) := by
  refine mM.of (by decide) (Nat.le_of_ble_eq_true rfl) rfl (fun X hZ hp ht hn hC => ?_)
  subst hZ; subst hp; subst ht
  exact t_X11_orders hC hd (fun i h => by rw [hn]; exact h) hP hT hF hw
def w_X11_sharedDivisor_3 (Q : Int64 → Mem → Prop) : Nat → Int64 → Int64 → Int32 → Mem → Prop
  | 0, _, _, _, _ => False
  | n + 1, j0, j2, x4, σ => (100 ≤ x4 → (Q j0 σ)) ∧ (¬ 100 ≤ x4 → (((lg_cmp j2 0) = 0 → (Q j0 σ)) ∧ (¬ (lg_cmp j2 0) = 0 → (¬ j2 = 0 ∧ (w_X11_sharedDivisor_3 Q n j2 (j0 - j0 / j2 * j2) (x4 + 1) σ)))))
set_option maxRecDepth 4000 in
set_option maxHeartbeats 2000000 in
theorem t_X11_sharedDivisor_3 {X : Cx} {d : Nat} (hC : mOK X cX11_sharedDivisor RX11 "sharedDivisor" (some .long) d 0 0) (hd : 0 ≤ d) (hN : ∀ i, i < 7 → i < xN X) {Q : Int64 → Mem → Prop} : ∀ (n : Nat) (j0 : Int64) (j2 : Int64) (x4 : Int32) (σ : Mem), w_X11_sharedDivisor_3 Q n j0 j2 x4 σ → mG X 3 [(0, .long j0), (2, .long j2), (4, .int x4)] [] σ 0 0 (mQ X 0 0 (qJ Q)) := by
  intro n
  induction n with
  | zero => intro j0 j2 x4 σ hw; exact False.elim hw
  | succ n ih =>
    intro j0 j2 x4 σ hw
    rw [w_X11_sharedDivisor_3] at hw
    refine g_iload hC dX11_sharedDivisor_3 rfl ?_
    refine g_bipush (v := 100) hC dX11_sharedDivisor_5 (by decide) ?_
    refine g_icmp_ge (tgt := 32) hC dX11_sharedDivisor_7 rfl (fun c => ?_) (fun c => ?_)
    · replace hw := hw.1 c
      refine g_lload_n hC dX11_sharedDivisor_32 rfl ?_
      exact g_lret hC (by decide) (by decide) dX11_sharedDivisor_33 (fun _ => ⟨_, rfl, hw⟩)
    · replace hw := hw.2 c
      refine g_lload_n hC dX11_sharedDivisor_10 rfl ?_
      refine g_lconst (v := 0) hC dX11_sharedDivisor_11 (by decide) ?_
      refine g_lcmp hC dX11_sharedDivisor_12 ?_
      refine g_if_eq (tgt := 32) hC dX11_sharedDivisor_13 rfl (fun c => ?_) (fun c => ?_)
      · replace hw := hw.1 c
        refine g_lload_n hC dX11_sharedDivisor_32 rfl ?_
        exact g_lret hC (by decide) (by decide) dX11_sharedDivisor_33 (fun _ => ⟨_, rfl, hw⟩)
      · replace hw := hw.2 c
        refine g_lload_n hC dX11_sharedDivisor_16 rfl ?_
        refine g_lload_n hC dX11_sharedDivisor_17 rfl ?_
        refine g_lrem hC dX11_sharedDivisor_18 hw.1 ?_
        replace hw := hw.2
        refine g_lstore (lv' := [(5, .long (j0 - j0 / j2 * j2)), (0, .long j0), (2, .long j2), (4, .int x4)]) hC dX11_sharedDivisor_19 (hN 6 (by decide)) rfl ?_
        refine g_lload_n hC dX11_sharedDivisor_21 rfl ?_
        refine g_lstore_n (lv' := [(0, .long j2), (5, .long (j0 - j0 / j2 * j2)), (2, .long j2), (4, .int x4)]) hC dX11_sharedDivisor_22 (hN 1 (by decide)) rfl ?_
        refine g_lload hC dX11_sharedDivisor_23 rfl ?_
        refine g_lstore_n (lv' := [(2, .long (j0 - j0 / j2 * j2)), (0, .long j2), (5, .long (j0 - j0 / j2 * j2)), (4, .int x4)]) hC dX11_sharedDivisor_25 (hN 3 (by decide)) rfl ?_
        refine g_iinc (v := x4 + 1) (lv' := [(4, .int (x4 + 1)), (2, .long (j0 - j0 / j2 * j2)), (0, .long j2), (5, .long (j0 - j0 / j2 * j2))]) hC dX11_sharedDivisor_26 rfl rfl (hN 4 (by decide)) rfl ?_
        refine g_goto (tgt := 3) hC dX11_sharedDivisor_29 rfl ?_
        refine mG.pick (lv' := [(0, .long j2), (2, .long (j0 - j0 / j2 * j2)), (4, .int (x4 + 1))]) [2, 1, 0] rfl ?_
        exact ih _ _ _ _ hw
def w_X11_sharedDivisor (σ : Mem) (j0 : Int64) (j2 : Int64) (Q : Int64 → Mem → Prop) : Prop := ∃ m101 : Nat, w_X11_sharedDivisor_3 Q m101 j0 j2 0 σ
set_option maxRecDepth 4000 in
set_option maxHeartbeats 2000000 in
theorem t_X11_sharedDivisor {X : Cx} {d : Nat} (hC : mOK X cX11_sharedDivisor RX11 "sharedDivisor" (some .long) d 0 0) (hd : 0 ≤ d) (hN : ∀ i, i < 7 → i < xN X) {σ : Mem} {j0 : Int64} {j2 : Int64} {Q : Int64 → Mem → Prop} (hw : w_X11_sharedDivisor σ j0 j2 Q) : mG X 0 [(0, .long j0), (2, .long j2)] [] σ 0 0 (mQ X 0 0 (qJ Q)) := by
  refine g_iconst (v := 0) hC dX11_sharedDivisor_0 (by decide) ?_
  refine g_istore (lv' := [(4, .int 0), (0, .long j0), (2, .long j2)]) hC dX11_sharedDivisor_1 (hN 4 (by decide)) rfl ?_
  refine mG.pick (lv' := [(0, .long j0), (2, .long j2), (4, .int 0)]) [1, 2, 0] rfl ?_
  obtain ⟨m101, hw⟩ := hw
  exact t_X11_sharedDivisor_3 hC hd hN m101 _ _ _ _ hw
set_option maxRecDepth 4000 in
theorem c_X11_sharedDivisor {Z : Fx} {ps ts : List (Nat × Nat × Nat)} {d : Nat} (hd : 0 ≤ d) {σ : Mem} {j0 : Int64} {j2 : Int64} {Q : Int64 → Mem → Prop} (hw : w_X11_sharedDivisor σ j0 j2 Q) : mM Z ps ts yX11_sharedDivisor cX11_sharedDivisor 7 (some .long) d 0 0 [.long j0, .long j2] σ (qJ Q) := by
  refine mM.of (by decide) (Nat.le_of_ble_eq_true rfl) rfl (fun X hZ hp ht hn hC => ?_)
  subst hZ; subst hp; subst ht
  exact t_X11_sharedDivisor hC hd (fun i h => by rw [hn]; exact h) hw
def w_X11_mean_46 (Q : Int64 → Mem → Prop) : Nat → Int32 → Int64 → Int64 → Int32 → Mem → Prop
  | 0, _, _, _, _, _ => False
  | n + 1, x2, j4, j6, x8, σ => (8 < x8 → (w_X11_sharedDivisor σ j4 j6 (fun v101 s103 => ∀ v104 : Int64, v104 = (if v101 < 1 then 1 else v101) → ((¬ x2 = 0 → (¬ v104 = 0 ∧ (Q (j6 / v104) s103))) ∧ (x2 = 0 → (¬ v104 = 0 ∧ (Q (j4 / v104) s103))))))) ∧ (¬ 8 < x8 → (vp_in x8 9 ∧ (∀ v105 : Int64, v105 = (j4 + ((Int32.toInt64 x8) * (Int32.toInt64 (mI σ 22 (Int32.toNatClampNeg x8))))) → (vp_in x8 9 ∧ (∀ v106 : Int64, v106 = (j6 + (Int32.toInt64 (mI σ 22 (Int32.toNatClampNeg x8)))) → (w_X11_mean_46 Q n x2 v105 v106 (x8 + 1) σ))))))
set_option maxRecDepth 4000 in
set_option maxHeartbeats 2000000 in
theorem t_X11_mean_46 {X : Cx} {d : Nat} (hC : mOK X cX11_mean RX11 "mean" (some .long) d 0 0) (hd : 106 ≤ d) (hN : ∀ i, i < 10 → i < xN X) (hP : ∀ e ∈ psG, e ∈ xP X) (hT : ∀ e ∈ tsG, e ∈ xT X) (hF : ∀ e ∈ xP X, e ∈ psA) {Q : Int64 → Mem → Prop} : ∀ (n : Nat) (x2 : Int32) (j4 : Int64) (j6 : Int64) (x8 : Int32) (σ : Mem), w_X11_mean_46 Q n x2 j4 j6 x8 σ → mG X 46 [(0, .ref (xB X + 0)), (2, .int x2), (4, .long j4), (6, .long j6), (8, .int x8)] [] σ 0 0 (mQ X 0 0 (qJ Q)) := by
  intro n
  induction n with
  | zero => intro x2 j4 j6 x8 σ hw; exact False.elim hw
  | succ n ih =>
    intro x2 j4 j6 x8 σ hw
    rw [w_X11_mean_46] at hw
    refine g_iload hC dX11_mean_46 rfl ?_
    refine g_bipush (v := 8) hC dX11_mean_48 (by decide) ?_
    refine g_icmp_gt (tgt := 89) hC dX11_mean_50 rfl (fun c => ?_) (fun c => ?_)
    · replace hw := hw.1 c
      refine g_lconst (v := 1) hC dX11_mean_89 (by decide) ?_
      refine g_lload hC dX11_mean_90 rfl ?_
      refine g_lload hC dX11_mean_92 rfl ?_
      refine mG.st (st1 := ([.long j4, .long j6] : List Value).reverse ++ [.long 1]) rfl ?_
      refine g_callS (As := [.long j4, .long j6]) (st := [.long 1]) hC yw_X11_sharedDivisor ys_X11_sharedDivisor tw_361 dX11_mean_94 (fun _ h => h) (fun _ h => h) (fun h => h) (c_X11_sharedDivisor (d := 0) (Nat.le_refl _) hw) rfl (Nat.le_of_ble_eq_true rfl) (by omega) (by decide) (by decide) (kJ fun v101 s103 hw => ?_)
      refine g_mmaxl hC tw_362 tw_363 tw_5 tw_364 (Nat.le_of_ble_eq_true rfl) (by omega) (by decide) (by decide) dX11_mean_97 ?_
      refine g_topj (fun v104 ev104 => ?_)
      replace hw := hw v104 ev104
      refine g_lstore (lv' := [(8, .long v104), (0, .ref (xB X + 0)), (2, .int x2), (4, .long j4), (6, .long j6)]) hC dX11_mean_100 (hN 9 (by decide)) rfl ?_
      refine g_iload_n hC dX11_mean_102 rfl ?_
      refine g_if_ne (tgt := 111) hC dX11_mean_103 rfl (fun c => ?_) (fun c => ?_)
      · replace hw := hw.1 c
        refine g_lload hC dX11_mean_111 rfl ?_
        refine g_lload hC dX11_mean_113 rfl ?_
        refine g_ldiv hC dX11_mean_115 hw.1 ?_
        replace hw := hw.2
        exact g_lret hC (by decide) (by decide) dX11_mean_116 (fun _ => ⟨_, rfl, hw⟩)
      · replace hw := hw.2 c
        refine g_lload hC dX11_mean_106 rfl ?_
        refine g_goto (tgt := 113) hC dX11_mean_108 rfl ?_
        refine g_lload hC dX11_mean_113 rfl ?_
        refine g_ldiv hC dX11_mean_115 hw.1 ?_
        replace hw := hw.2
        exact g_lret hC (by decide) (by decide) dX11_mean_116 (fun _ => ⟨_, rfl, hw⟩)
    · replace hw := hw.2 c
      refine g_lload hC dX11_mean_53 rfl ?_
      refine g_iload hC dX11_mean_55 rfl ?_
      refine g_i2l hC dX11_mean_57 ?_
      refine g_aload_n hC dX11_mean_58 rfl ?_
      refine g_getrS hC fl_X11_61_11.s (hT _ tg_G_0) (hP _ pt_G_0_15) dX11_mean_59 ?_
      refine g_iload hC dX11_mean_62 rfl ?_
      refine g_ialdSv (v := (mI σ 22 (Int32.toNatClampNeg x8))) hC (hT _ tg_G_22) rfl hw.1 rfl dX11_mean_64 ?_
      replace hw := hw.2
      refine g_i2l hC dX11_mean_65 ?_
      refine g_lmul hC dX11_mean_66 ?_
      refine g_ladd hC dX11_mean_67 ?_
      refine g_topj (fun v105 ev105 => ?_)
      replace hw := hw v105 ev105
      refine g_lstore (lv' := [(4, .long v105), (0, .ref (xB X + 0)), (2, .int x2), (6, .long j6), (8, .int x8)]) hC dX11_mean_68 (hN 5 (by decide)) rfl ?_
      refine g_lload hC dX11_mean_70 rfl ?_
      refine g_aload_n hC dX11_mean_72 rfl ?_
      refine g_getrS hC fl_X11_61_11.s (hT _ tg_G_0) (hP _ pt_G_0_15) dX11_mean_73 ?_
      refine g_iload hC dX11_mean_76 rfl ?_
      refine g_ialdSv (v := (mI σ 22 (Int32.toNatClampNeg x8))) hC (hT _ tg_G_22) rfl hw.1 rfl dX11_mean_78 ?_
      replace hw := hw.2
      refine g_i2l hC dX11_mean_79 ?_
      refine g_ladd hC dX11_mean_80 ?_
      refine g_topj (fun v106 ev106 => ?_)
      replace hw := hw v106 ev106
      refine g_lstore (lv' := [(6, .long v106), (4, .long v105), (0, .ref (xB X + 0)), (2, .int x2), (8, .int x8)]) hC dX11_mean_81 (hN 7 (by decide)) rfl ?_
      refine g_iinc (v := x8 + 1) (lv' := [(8, .int (x8 + 1)), (6, .long v106), (4, .long v105), (0, .ref (xB X + 0)), (2, .int x2)]) hC dX11_mean_83 rfl rfl (hN 8 (by decide)) rfl ?_
      refine g_goto (tgt := 46) hC dX11_mean_86 rfl ?_
      refine mG.pick (lv' := [(0, .ref (xB X + 0)), (2, .int x2), (4, .long v105), (6, .long v106), (8, .int (x8 + 1))]) [3, 4, 2, 1, 0] rfl ?_
      exact ih _ _ _ _ _ hw
def w_X11_mean (σ : Mem) (x1 : Int32) (x2 : Int32) (Q : Int64 → Mem → Prop) : Prop := w_X11_layerAt σ x1 (fun o102 s103 => (o102 = none → (Q (-4611686018427387904) s103)) ∧ (∀ r104 : Nat, o102 = some r104 → ((x2 < 0 → (Q (-4611686018427387904) s103)) ∧ (¬ x2 < 0 → ((1 < x2 → (Q (-4611686018427387904) s103)) ∧ (¬ 1 < x2 → (((mI s103 0 2) ≤ 6 → (w_X11_goThroughOrders s103 r104 (fun s107 => ∃ m108 : Nat, w_X11_mean_46 Q m108 x2 0 0 0 s107))) ∧ (¬ (mI s103 0 2) ≤ 6 → (Q (-4611686018427387904) s103)))))))))
set_option maxRecDepth 4000 in
set_option maxHeartbeats 2000000 in
theorem t_X11_mean {X : Cx} {d : Nat} (hC : mOK X cX11_mean RX11 "mean" (some .long) d 0 0) (hd : 106 ≤ d) (hN : ∀ i, i < 10 → i < xN X) (hP : ∀ e ∈ psG, e ∈ xP X) (hT : ∀ e ∈ tsG, e ∈ xT X) (hF : ∀ e ∈ xP X, e ∈ psA) {σ : Mem} {x1 : Int32} {x2 : Int32} {Q : Int64 → Mem → Prop} (hw : w_X11_mean σ x1 x2 Q) : mG X 0 [(0, .ref (xB X + 0)), (1, .int x1), (2, .int x2)] [] σ 0 0 (mQ X 0 0 (qJ Q)) := by
  refine g_aload_n hC dX11_mean_0 rfl ?_
  refine g_iload_n hC dX11_mean_1 rfl ?_
  refine g_known (fun hS => ?_)
  refine mG.st (st1 := ([.int x1] : List Value).reverse ++ .ref (xB X + 0) :: []) rfl ?_
  refine g_callV (As := [.int x1]) (st := []) hC (hS.2 _ (hT _ tg_G_0)) (by decide) ycl_11_X11_layerAt yw_X11_layerAt yv_X11_layerAt tw_126 dX11_mean_2 (fun _ h => h) (fun _ h => h) (fun h => h) (c_X11_layerAt (d := 0) (Nat.le_refl _) hP hT hF hw) rfl (Nat.le_of_ble_eq_true rfl) (by omega) (by decide) (by decide) (kA fun o102 s103 hw => ?_)
  refine g_astore_nQ (lv' := [(3, rq X o102), (0, .ref (xB X + 0)), (1, .int x1), (2, .int x2)]) hC dX11_mean_5 (hN 3 (by decide)) rfl ?_
  refine g_aload_nQ hC dX11_mean_6 rfl ?_
  rcases o102 with _ | r104
  · replace hw := hw.1 rfl
    refine g_ifnullN (tgt := 28) hC dX11_mean_7 rfl ?_
    refine g_ldc2 hC tw_360 dX11_mean_28 ?_
    exact g_lret hC (by decide) (by decide) dX11_mean_31 (fun _ => ⟨_, rfl, hw⟩)
  · replace hw := hw.2 r104 rfl
    refine g_ifnullR hC dX11_mean_7 ?_
    refine g_iload_n hC dX11_mean_10 rfl ?_
    refine g_if_lt (tgt := 28) hC dX11_mean_11 rfl (fun c => ?_) (fun c => ?_)
    · replace hw := hw.1 c
      refine g_ldc2 hC tw_360 dX11_mean_28 ?_
      exact g_lret hC (by decide) (by decide) dX11_mean_31 (fun _ => ⟨_, rfl, hw⟩)
    · replace hw := hw.2 c
      refine g_iload_n hC dX11_mean_14 rfl ?_
      refine g_iconst (v := 1) hC dX11_mean_15 (by decide) ?_
      refine g_icmp_gt (tgt := 28) hC dX11_mean_16 rfl (fun c => ?_) (fun c => ?_)
      · replace hw := hw.1 c
        refine g_ldc2 hC tw_360 dX11_mean_28 ?_
        exact g_lret hC (by decide) (by decide) dX11_mean_31 (fun _ => ⟨_, rfl, hw⟩)
      · replace hw := hw.2 c
        refine g_aload_n hC dX11_mean_19 rfl ?_
        refine g_getiSv (v := (mI s103 0 2)) hC fl_X11_101_11.s (hT _ tg_G_0) rfl dX11_mean_20 ?_
        refine g_bipush (v := 6) hC dX11_mean_23 (by decide) ?_
        refine g_icmp_le (tgt := 32) hC dX11_mean_25 rfl (fun c => ?_) (fun c => ?_)
        · replace hw := hw.1 c
          refine g_aload_n hC dX11_mean_32 rfl ?_
          refine g_aload_n hC dX11_mean_33 rfl ?_
          refine g_known (fun hS => ?_)
          refine mG.st (st1 := ([.ref (xB X + r104)] : List Value).reverse ++ .ref (xB X + 0) :: []) rfl ?_
          refine g_callV (As := [.ref (xB X + r104)]) (st := []) hC (hS.2 _ (hT _ tg_G_0)) (by decide) ycl_11_X11_goThroughOrders yw_X11_goThroughOrders yv_X11_goThroughOrders tw_339 dX11_mean_34 (fun _ h => h) (fun _ h => h) (fun h => h) (c_X11_goThroughOrders (d := 105) (Nat.le_refl _) hP hT hF hw) rfl (Nat.le_of_ble_eq_true rfl) (by omega) (by decide) (by decide) (kV fun s107 hw => ?_)
          refine g_lconst (v := 0) hC dX11_mean_37 (by decide) ?_
          refine g_lstore (lv' := [(4, .long 0), (3, .ref (xB X + r104)), (0, .ref (xB X + 0)), (1, .int x1), (2, .int x2)]) hC dX11_mean_38 (hN 5 (by decide)) rfl ?_
          refine g_lconst (v := 0) hC dX11_mean_40 (by decide) ?_
          refine g_lstore (lv' := [(6, .long 0), (4, .long 0), (3, .ref (xB X + r104)), (0, .ref (xB X + 0)), (1, .int x1), (2, .int x2)]) hC dX11_mean_41 (hN 7 (by decide)) rfl ?_
          refine g_iconst (v := 0) hC dX11_mean_43 (by decide) ?_
          refine g_istore (lv' := [(8, .int 0), (6, .long 0), (4, .long 0), (3, .ref (xB X + r104)), (0, .ref (xB X + 0)), (1, .int x1), (2, .int x2)]) hC dX11_mean_44 (hN 8 (by decide)) rfl ?_
          refine mG.pick (lv' := [(0, .ref (xB X + 0)), (2, .int x2), (4, .long 0), (6, .long 0), (8, .int 0)]) [4, 6, 2, 1, 0] rfl ?_
          obtain ⟨m108, hw⟩ := hw
          exact t_X11_mean_46 hC hd hN hP hT hF m108 _ _ _ _ _ hw
        · replace hw := hw.2 c
          refine g_ldc2 hC tw_360 dX11_mean_28 ?_
          exact g_lret hC (by decide) (by decide) dX11_mean_31 (fun _ => ⟨_, rfl, hw⟩)
set_option maxRecDepth 4000 in
theorem c_X11_mean {Z : Fx} {ps ts : List (Nat × Nat × Nat)} {d : Nat} (hd : 106 ≤ d) (hP : ∀ e ∈ psG, e ∈ ps) (hT : ∀ e ∈ tsG, e ∈ ts) (hF : ∀ e ∈ ps, e ∈ psA) {σ : Mem} {x1 : Int32} {x2 : Int32} {Q : Int64 → Mem → Prop} (hw : w_X11_mean σ x1 x2 Q) : mM Z ps ts yX11_mean cX11_mean 10 (some .long) d 0 0 [.ref (Z.2.2 + 0), .int x1, .int x2] σ (qJ Q) := by
  refine mM.of (by decide) (Nat.le_of_ble_eq_true rfl) rfl (fun X hZ hp ht hn hC => ?_)
  subst hZ; subst hp; subst ht
  exact t_X11_mean hC hd (fun i h => by rw [hn]; exact h) hP hT hF hw
def w_X11_bestOrder (σ : Mem) (x1 : Int32) (x2 : Int32) (Q : Int32 → Mem → Prop) : Prop := w_X11_layerAt σ x1 (fun o102 s103 => (o102 = none → (Q (-2) s103)) ∧ (∀ r104 : Nat, o102 = some r104 → (w_X11_isPlate s103 x2 (fun v105 s107 => (¬ v105 = 0 → (((mI s107 0 2) ≤ 6 → (w_X11_goThroughOrders s107 r104 (fun s110 => vp_in x2 8 ∧ (Q (mI s110 21 (Int32.toNatClampNeg x2)) s110)))) ∧ (¬ (mI s107 0 2) ≤ 6 → (Q (-3) s107)))) ∧ (v105 = 0 → (Q (-2) s107))))))
set_option maxRecDepth 4000 in
set_option maxHeartbeats 2000000 in
theorem t_X11_bestOrder {X : Cx} {d : Nat} (hC : mOK X cX11_bestOrder RX11 "bestOrder" (some .int) d 0 0) (hd : 106 ≤ d) (hN : ∀ i, i < 4 → i < xN X) (hP : ∀ e ∈ psG, e ∈ xP X) (hT : ∀ e ∈ tsG, e ∈ xT X) (hF : ∀ e ∈ xP X, e ∈ psA) {σ : Mem} {x1 : Int32} {x2 : Int32} {Q : Int32 → Mem → Prop} (hw : w_X11_bestOrder σ x1 x2 Q) : mG X 0 [(0, .ref (xB X + 0)), (1, .int x1), (2, .int x2)] [] σ 0 0 (mQ X 0 0 (qI Q)) := by
  refine g_aload_n hC dX11_bestOrder_0 rfl ?_
  refine g_iload_n hC dX11_bestOrder_1 rfl ?_
  refine g_known (fun hS => ?_)
  refine mG.st (st1 := ([.int x1] : List Value).reverse ++ .ref (xB X + 0) :: []) rfl ?_
  refine g_callV (As := [.int x1]) (st := []) hC (hS.2 _ (hT _ tg_G_0)) (by decide) ycl_11_X11_layerAt yw_X11_layerAt yv_X11_layerAt tw_126 dX11_bestOrder_2 (fun _ h => h) (fun _ h => h) (fun h => h) (c_X11_layerAt (d := 0) (Nat.le_refl _) hP hT hF hw) rfl (Nat.le_of_ble_eq_true rfl) (by omega) (by decide) (by decide) (kA fun o102 s103 hw => ?_)
  refine g_astore_nQ (lv' := [(3, rq X o102), (0, .ref (xB X + 0)), (1, .int x1), (2, .int x2)]) hC dX11_bestOrder_5 (hN 3 (by decide)) rfl ?_
  refine g_aload_nQ hC dX11_bestOrder_6 rfl ?_
  rcases o102 with _ | r104
  · replace hw := hw.1 rfl
    refine g_ifnullN (tgt := 18) hC dX11_bestOrder_7 rfl ?_
    refine g_bipush (v := (-2)) hC dX11_bestOrder_18 (by decide) ?_
    exact g_iret hC rfl (by decide) (by decide) dX11_bestOrder_20 (fun _ => ⟨_, rfl, hw⟩)
  · replace hw := hw.2 r104 rfl
    refine g_ifnullR hC dX11_bestOrder_7 ?_
    refine g_aload_n hC dX11_bestOrder_10 rfl ?_
    refine g_iload_n hC dX11_bestOrder_11 rfl ?_
    refine g_known (fun hS => ?_)
    refine mG.st (st1 := ([.int x2] : List Value).reverse ++ .ref (xB X + 0) :: []) rfl ?_
    refine g_callV (As := [.int x2]) (st := []) hC (hS.2 _ (hT _ tg_G_0)) (by decide) ycl_11_X11_isPlate yw_X11_isPlate yv_X11_isPlate tw_82 dX11_bestOrder_12 (fun _ h => h) (fun _ h => h) (fun h => h) (c_X11_isPlate (d := 0) (Nat.le_refl _) hP hT hF hw) rfl (Nat.le_of_ble_eq_true rfl) (by omega) (by decide) (by decide) (kI fun v105 s107 hw => ?_)
    refine g_if_ne (tgt := 21) hC dX11_bestOrder_15 rfl (fun c => ?_) (fun c => ?_)
    · replace hw := hw.1 c
      refine g_aload_n hC dX11_bestOrder_21 rfl ?_
      refine g_getiSv (v := (mI s107 0 2)) hC fl_X11_101_11.s (hT _ tg_G_0) rfl dX11_bestOrder_22 ?_
      refine g_bipush (v := 6) hC dX11_bestOrder_25 (by decide) ?_
      refine g_icmp_le (tgt := 33) hC dX11_bestOrder_27 rfl (fun c => ?_) (fun c => ?_)
      · replace hw := hw.1 c
        refine g_aload_n hC dX11_bestOrder_33 rfl ?_
        refine g_aload_n hC dX11_bestOrder_34 rfl ?_
        refine g_known (fun hS => ?_)
        refine mG.st (st1 := ([.ref (xB X + r104)] : List Value).reverse ++ .ref (xB X + 0) :: []) rfl ?_
        refine g_callV (As := [.ref (xB X + r104)]) (st := []) hC (hS.2 _ (hT _ tg_G_0)) (by decide) ycl_11_X11_goThroughOrders yw_X11_goThroughOrders yv_X11_goThroughOrders tw_339 dX11_bestOrder_35 (fun _ h => h) (fun _ h => h) (fun h => h) (c_X11_goThroughOrders (d := 105) (Nat.le_refl _) hP hT hF hw) rfl (Nat.le_of_ble_eq_true rfl) (by omega) (by decide) (by decide) (kV fun s110 hw => ?_)
        refine g_aload_n hC dX11_bestOrder_38 rfl ?_
        refine g_getrS hC fl_X11_58_11.s (hT _ tg_G_0) (hP _ pt_G_0_14) dX11_bestOrder_39 ?_
        refine g_iload_n hC dX11_bestOrder_42 rfl ?_
        refine g_ialdSv (v := (mI s110 21 (Int32.toNatClampNeg x2))) hC (hT _ tg_G_21) rfl hw.1 rfl dX11_bestOrder_43 ?_
        replace hw := hw.2
        exact g_iret hC rfl (by decide) (by decide) dX11_bestOrder_44 (fun _ => ⟨_, rfl, hw⟩)
      · replace hw := hw.2 c
        refine g_bipush (v := (-3)) hC dX11_bestOrder_30 (by decide) ?_
        exact g_iret hC rfl (by decide) (by decide) dX11_bestOrder_32 (fun _ => ⟨_, rfl, hw⟩)
    · replace hw := hw.2 c
      refine g_bipush (v := (-2)) hC dX11_bestOrder_18 (by decide) ?_
      exact g_iret hC rfl (by decide) (by decide) dX11_bestOrder_20 (fun _ => ⟨_, rfl, hw⟩)
set_option maxRecDepth 4000 in
theorem c_X11_bestOrder {Z : Fx} {ps ts : List (Nat × Nat × Nat)} {d : Nat} (hd : 106 ≤ d) (hP : ∀ e ∈ psG, e ∈ ps) (hT : ∀ e ∈ tsG, e ∈ ts) (hF : ∀ e ∈ ps, e ∈ psA) {σ : Mem} {x1 : Int32} {x2 : Int32} {Q : Int32 → Mem → Prop} (hw : w_X11_bestOrder σ x1 x2 Q) : mM Z ps ts yX11_bestOrder cX11_bestOrder 4 (some .int) d 0 0 [.ref (Z.2.2 + 0), .int x1, .int x2] σ (qI Q) := by
  refine mM.of (by decide) (Nat.le_of_ble_eq_true rfl) rfl (fun X hZ hp ht hn hC => ?_)
  subst hZ; subst hp; subst ht
  exact t_X11_bestOrder hC hd (fun i h => by rw [hn]; exact h) hP hT hF hw
def w_X11_came (σ : Mem) (x1 : Int32) (Q : Int32 → Mem → Prop) : Prop := w_X11_layerAt σ x1 (fun o102 s103 => (o102 = none → (Q (-2) s103)) ∧ (∀ r104 : Nat, o102 = some r104 → (((mI s103 0 2) ≤ 6 → (w_X11_goThroughOrders s103 r104 (fun s107 => Q (mI s107 0 16) s107))) ∧ (¬ (mI s103 0 2) ≤ 6 → (Q (-3) s103)))))
set_option maxRecDepth 4000 in
set_option maxHeartbeats 2000000 in
theorem t_X11_came {X : Cx} {d : Nat} (hC : mOK X cX11_came RX11 "came" (some .int) d 0 0) (hd : 106 ≤ d) (hN : ∀ i, i < 3 → i < xN X) (hP : ∀ e ∈ psG, e ∈ xP X) (hT : ∀ e ∈ tsG, e ∈ xT X) (hF : ∀ e ∈ xP X, e ∈ psA) {σ : Mem} {x1 : Int32} {Q : Int32 → Mem → Prop} (hw : w_X11_came σ x1 Q) : mG X 0 [(0, .ref (xB X + 0)), (1, .int x1)] [] σ 0 0 (mQ X 0 0 (qI Q)) := by
  refine g_aload_n hC dX11_came_0 rfl ?_
  refine g_iload_n hC dX11_came_1 rfl ?_
  refine g_known (fun hS => ?_)
  refine mG.st (st1 := ([.int x1] : List Value).reverse ++ .ref (xB X + 0) :: []) rfl ?_
  refine g_callV (As := [.int x1]) (st := []) hC (hS.2 _ (hT _ tg_G_0)) (by decide) ycl_11_X11_layerAt yw_X11_layerAt yv_X11_layerAt tw_126 dX11_came_2 (fun _ h => h) (fun _ h => h) (fun h => h) (c_X11_layerAt (d := 0) (Nat.le_refl _) hP hT hF hw) rfl (Nat.le_of_ble_eq_true rfl) (by omega) (by decide) (by decide) (kA fun o102 s103 hw => ?_)
  refine g_astore_nQ (lv' := [(2, rq X o102), (0, .ref (xB X + 0)), (1, .int x1)]) hC dX11_came_5 (hN 2 (by decide)) rfl ?_
  refine g_aload_nQ hC dX11_came_6 rfl ?_
  rcases o102 with _ | r104
  · replace hw := hw.1 rfl
    refine g_ifnonnullN hC dX11_came_7 ?_
    refine g_bipush (v := (-2)) hC dX11_came_10 (by decide) ?_
    exact g_iret hC rfl (by decide) (by decide) dX11_came_12 (fun _ => ⟨_, rfl, hw⟩)
  · replace hw := hw.2 r104 rfl
    refine g_ifnonnullR (tgt := 13) hC dX11_came_7 rfl ?_
    refine g_aload_n hC dX11_came_13 rfl ?_
    refine g_getiSv (v := (mI s103 0 2)) hC fl_X11_101_11.s (hT _ tg_G_0) rfl dX11_came_14 ?_
    refine g_bipush (v := 6) hC dX11_came_17 (by decide) ?_
    refine g_icmp_le (tgt := 25) hC dX11_came_19 rfl (fun c => ?_) (fun c => ?_)
    · replace hw := hw.1 c
      refine g_aload_n hC dX11_came_25 rfl ?_
      refine g_aload_n hC dX11_came_26 rfl ?_
      refine g_known (fun hS => ?_)
      refine mG.st (st1 := ([.ref (xB X + r104)] : List Value).reverse ++ .ref (xB X + 0) :: []) rfl ?_
      refine g_callV (As := [.ref (xB X + r104)]) (st := []) hC (hS.2 _ (hT _ tg_G_0)) (by decide) ycl_11_X11_goThroughOrders yw_X11_goThroughOrders yv_X11_goThroughOrders tw_339 dX11_came_27 (fun _ h => h) (fun _ h => h) (fun h => h) (c_X11_goThroughOrders (d := 105) (Nat.le_refl _) hP hT hF hw) rfl (Nat.le_of_ble_eq_true rfl) (by omega) (by decide) (by decide) (kV fun s107 hw => ?_)
      refine g_aload_n hC dX11_came_30 rfl ?_
      refine g_getiSv (v := (mI s107 0 16)) hC fl_X11_273_11.s (hT _ tg_G_0) rfl dX11_came_31 ?_
      exact g_iret hC rfl (by decide) (by decide) dX11_came_34 (fun _ => ⟨_, rfl, hw⟩)
    · replace hw := hw.2 c
      refine g_bipush (v := (-3)) hC dX11_came_22 (by decide) ?_
      exact g_iret hC rfl (by decide) (by decide) dX11_came_24 (fun _ => ⟨_, rfl, hw⟩)
set_option maxRecDepth 4000 in
theorem c_X11_came {Z : Fx} {ps ts : List (Nat × Nat × Nat)} {d : Nat} (hd : 106 ≤ d) (hP : ∀ e ∈ psG, e ∈ ps) (hT : ∀ e ∈ tsG, e ∈ ts) (hF : ∀ e ∈ ps, e ∈ psA) {σ : Mem} {x1 : Int32} {Q : Int32 → Mem → Prop} (hw : w_X11_came σ x1 Q) : mM Z ps ts yX11_came cX11_came 3 (some .int) d 0 0 [.ref (Z.2.2 + 0), .int x1] σ (qI Q) := by
  refine mM.of (by decide) (Nat.le_of_ble_eq_true rfl) rfl (fun X hZ hp ht hn hC => ?_)
  subst hZ; subst hp; subst ht
  exact t_X11_came hC hd (fun i h => by rw [hn]; exact h) hP hT hF hw
def w_X11_changeAbout (σ : Mem) (x1 : Int32) (x2 : Int32) (Q : Mem → Prop) : Prop := w_X11_isPlate σ x1 (fun v101 s103 => (v101 = 0 → (Q s103)) ∧ (¬ v101 = 0 → (w_X11_isPlate s103 x2 (fun v104 s106 => (v104 = 0 → (Q s106)) ∧ (¬ v104 = 0 → (vp_in x1 8 ∧ (∀ v107 : Int32, v107 = (mI s106 20 (Int32.toNatClampNeg x1)) → (vp_in x2 8 ∧ (∀ v108 : Int32, v108 = (mI s106 20 (Int32.toNatClampNeg x2)) → (vp_in x1 8 ∧ (vp_in x2 8 ∧ (Q (sI (sI s106 20 (Int32.toNatClampNeg x1) v108) 20 (Int32.toNatClampNeg x2) v107)))))))))))))
set_option maxRecDepth 4000 in
set_option maxHeartbeats 2000000 in
theorem t_X11_changeAbout {X : Cx} {d : Nat} (hC : mOK X cX11_changeAbout RX11 "changeAbout" none d 0 0) (hd : 1 ≤ d) (hN : ∀ i, i < 4 → i < xN X) (hP : ∀ e ∈ psG, e ∈ xP X) (hT : ∀ e ∈ tsG, e ∈ xT X) (hF : ∀ e ∈ xP X, e ∈ psA) {σ : Mem} {x1 : Int32} {x2 : Int32} {Q : Mem → Prop} (hw : w_X11_changeAbout σ x1 x2 Q) : mG X 0 [(0, .ref (xB X + 0)), (1, .int x1), (2, .int x2)] [] σ 0 0 (mQ X 0 0 (qV Q)) := by
  refine g_aload_n hC dX11_changeAbout_0 rfl ?_
  refine g_iload_n hC dX11_changeAbout_1 rfl ?_
  refine g_known (fun hS => ?_)
  refine mG.st (st1 := ([.int x1] : List Value).reverse ++ .ref (xB X + 0) :: []) rfl ?_
  refine g_callV (As := [.int x1]) (st := []) hC (hS.2 _ (hT _ tg_G_0)) (by decide) ycl_11_X11_isPlate yw_X11_isPlate yv_X11_isPlate tw_82 dX11_changeAbout_2 (fun _ h => h) (fun _ h => h) (fun h => h) (c_X11_isPlate (d := 0) (Nat.le_refl _) hP hT hF hw) rfl (Nat.le_of_ble_eq_true rfl) (by omega) (by decide) (by decide) (kI fun v101 s103 hw => ?_)
  refine g_if_eq (tgt := 42) hC dX11_changeAbout_5 rfl (fun c => ?_) (fun c => ?_)
  · replace hw := hw.1 c
    exact g_vret hC (by decide) (by decide) dX11_changeAbout_42 (fun _ => ⟨rfl, hw⟩)
  · replace hw := hw.2 c
    refine g_aload_n hC dX11_changeAbout_8 rfl ?_
    refine g_iload_n hC dX11_changeAbout_9 rfl ?_
    refine g_known (fun hS => ?_)
    refine mG.st (st1 := ([.int x2] : List Value).reverse ++ .ref (xB X + 0) :: []) rfl ?_
    refine g_callV (As := [.int x2]) (st := []) hC (hS.2 _ (hT _ tg_G_0)) (by decide) ycl_11_X11_isPlate yw_X11_isPlate yv_X11_isPlate tw_82 dX11_changeAbout_10 (fun _ h => h) (fun _ h => h) (fun h => h) (c_X11_isPlate (d := 0) (Nat.le_refl _) hP hT hF hw) rfl (Nat.le_of_ble_eq_true rfl) (by omega) (by decide) (by decide) (kI fun v104 s106 hw => ?_)
    refine g_if_eq (tgt := 42) hC dX11_changeAbout_13 rfl (fun c => ?_) (fun c => ?_)
    · replace hw := hw.1 c
      exact g_vret hC (by decide) (by decide) dX11_changeAbout_42 (fun _ => ⟨rfl, hw⟩)
    · replace hw := hw.2 c
      refine g_aload_n hC dX11_changeAbout_16 rfl ?_
      refine g_getrS hC fl_X11_55_11.s (hT _ tg_G_0) (hP _ pt_G_0_12) dX11_changeAbout_17 ?_
      refine g_iload_n hC dX11_changeAbout_20 rfl ?_
      refine g_ialdSv (v := (mI s106 20 (Int32.toNatClampNeg x1))) hC (hT _ tg_G_20) rfl hw.1 rfl dX11_changeAbout_21 ?_
      replace hw := hw.2
      refine g_topi (fun v107 ev107 => ?_)
      replace hw := hw v107 ev107
      refine g_istore_n (lv' := [(3, .int v107), (0, .ref (xB X + 0)), (1, .int x1), (2, .int x2)]) hC dX11_changeAbout_22 (hN 3 (by decide)) rfl ?_
      refine g_aload_n hC dX11_changeAbout_23 rfl ?_
      refine g_getrS hC fl_X11_55_11.s (hT _ tg_G_0) (hP _ pt_G_0_12) dX11_changeAbout_24 ?_
      refine g_iload_n hC dX11_changeAbout_27 rfl ?_
      refine g_aload_n hC dX11_changeAbout_28 rfl ?_
      refine g_getrS hC fl_X11_55_11.s (hT _ tg_G_0) (hP _ pt_G_0_12) dX11_changeAbout_29 ?_
      refine g_iload_n hC dX11_changeAbout_32 rfl ?_
      refine g_ialdSv (v := (mI s106 20 (Int32.toNatClampNeg x2))) hC (hT _ tg_G_20) rfl hw.1 rfl dX11_changeAbout_33 ?_
      replace hw := hw.2
      refine g_topi (fun v108 ev108 => ?_)
      replace hw := hw v108 ev108
      have hin := hw.1
      replace hw := hw.2
      refine g_iastS (k := (Int32.toNatClampNeg x1)) hC (hT _ tg_G_20) rfl hin dX11_changeAbout_34 ?_
      refine g_aload_n hC dX11_changeAbout_35 rfl ?_
      refine g_getrS hC fl_X11_55_11.s (hT _ tg_G_0) (hP _ pt_G_0_12) dX11_changeAbout_36 ?_
      refine g_iload_n hC dX11_changeAbout_39 rfl ?_
      refine g_iload_n hC dX11_changeAbout_40 rfl ?_
      have hin := hw.1
      replace hw := hw.2
      refine g_iastS (k := (Int32.toNatClampNeg x2)) hC (hT _ tg_G_20) rfl hin dX11_changeAbout_41 ?_
      exact g_vret hC (by decide) (by decide) dX11_changeAbout_42 (fun _ => ⟨rfl, hw⟩)
set_option maxRecDepth 4000 in
theorem c_X11_changeAbout {Z : Fx} {ps ts : List (Nat × Nat × Nat)} {d : Nat} (hd : 1 ≤ d) (hP : ∀ e ∈ psG, e ∈ ps) (hT : ∀ e ∈ tsG, e ∈ ts) (hF : ∀ e ∈ ps, e ∈ psA) {σ : Mem} {x1 : Int32} {x2 : Int32} {Q : Mem → Prop} (hw : w_X11_changeAbout σ x1 x2 Q) : mM Z ps ts yX11_changeAbout cX11_changeAbout 4 none d 0 0 [.ref (Z.2.2 + 0), .int x1, .int x2] σ (qV Q) := by
  refine mM.of (by decide) (Nat.le_of_ble_eq_true rfl) rfl (fun X hZ hp ht hn hC => ?_)
  subst hZ; subst hp; subst ht
  exact t_X11_changeAbout hC hd (fun i h => by rw [hn]; exact h) hP hT hF hw
def w_X11_firstSwap_2 (Q : Int32 → Mem → Prop) : Nat → Int32 → Int32 → Mem → Prop
  | 0, _, _, _ => False
  | n + 1, x1, x2, σ => ((mI σ 0 2) ≤ (x2 + 1) → (Q (-1) σ)) ∧ (¬ (mI σ 0 2) ≤ (x2 + 1) → (w_X11_orderOfNow σ (fun s103 => w_X11_changeAbout s103 x2 (x2 + 1) (fun s106 => w_X11_leastOf s106 0 (mI s106 0 2) x1 (fun v107 s109 => (x1 ≤ v107 → (w_X11_firstSwap_2 Q n x1 (x2 + 1) s109)) ∧ (¬ x1 ≤ v107 → (Q x2 s109)))))))
set_option maxRecDepth 4000 in
set_option maxHeartbeats 2000000 in
theorem t_X11_firstSwap_2 {X : Cx} {d : Nat} (hC : mOK X cX11_firstSwap RX11 "firstSwap" (some .int) d 0 0) (hd : 54 ≤ d) (hN : ∀ i, i < 3 → i < xN X) (hP : ∀ e ∈ psG, e ∈ xP X) (hT : ∀ e ∈ tsG, e ∈ xT X) (hF : ∀ e ∈ xP X, e ∈ psA) {Q : Int32 → Mem → Prop} : ∀ (n : Nat) (x1 : Int32) (x2 : Int32) (σ : Mem), w_X11_firstSwap_2 Q n x1 x2 σ → mG X 2 [(0, .ref (xB X + 0)), (1, .int x1), (2, .int x2)] [] σ 0 0 (mQ X 0 0 (qI Q)) := by
  intro n
  induction n with
  | zero => intro x1 x2 σ hw; exact False.elim hw
  | succ n ih =>
    intro x1 x2 σ hw
    rw [w_X11_firstSwap_2] at hw
    refine g_iload_n hC dX11_firstSwap_2 rfl ?_
    refine g_iconst (v := 1) hC dX11_firstSwap_3 (by decide) ?_
    refine g_iadd hC dX11_firstSwap_4 ?_
    refine g_aload_n hC dX11_firstSwap_5 rfl ?_
    refine g_getiSv (v := (mI σ 0 2)) hC fl_X11_101_11.s (hT _ tg_G_0) rfl dX11_firstSwap_6 ?_
    refine g_icmp_ge (tgt := 46) hC dX11_firstSwap_9 rfl (fun c => ?_) (fun c => ?_)
    · replace hw := hw.1 c
      refine g_iconst (v := (-1)) hC dX11_firstSwap_46 (by decide) ?_
      exact g_iret hC rfl (by decide) (by decide) dX11_firstSwap_47 (fun _ => ⟨_, rfl, hw⟩)
    · replace hw := hw.2 c
      refine g_aload_n hC dX11_firstSwap_12 rfl ?_
      refine g_known (fun hS => ?_)
      refine mG.st (st1 := ([] : List Value).reverse ++ .ref (xB X + 0) :: []) rfl ?_
      refine g_callV (As := []) (st := []) hC (hS.2 _ (hT _ tg_G_0)) (by decide) ycl_11_X11_orderOfNow yw_X11_orderOfNow yv_X11_orderOfNow tw_240 dX11_firstSwap_13 (fun _ h => h) (fun _ h => h) (fun h => h) (c_X11_orderOfNow (d := 0) (Nat.le_refl _) hP hT hF hw) rfl (Nat.le_of_ble_eq_true rfl) (by omega) (by decide) (by decide) (kV fun s103 hw => ?_)
      refine g_aload_n hC dX11_firstSwap_16 rfl ?_
      refine g_iload_n hC dX11_firstSwap_17 rfl ?_
      refine g_iload_n hC dX11_firstSwap_18 rfl ?_
      refine g_iconst (v := 1) hC dX11_firstSwap_19 (by decide) ?_
      refine g_iadd hC dX11_firstSwap_20 ?_
      refine g_known (fun hS => ?_)
      refine mG.st (st1 := ([.int x2, .int (x2 + 1)] : List Value).reverse ++ .ref (xB X + 0) :: []) rfl ?_
      refine g_callV (As := [.int x2, .int (x2 + 1)]) (st := []) hC (hS.2 _ (hT _ tg_G_0)) (by decide) ycl_11_X11_changeAbout yw_X11_changeAbout yv_X11_changeAbout tw_368 dX11_firstSwap_21 (fun _ h => h) (fun _ h => h) (fun h => h) (c_X11_changeAbout (d := 1) (Nat.le_refl _) hP hT hF hw) rfl (Nat.le_of_ble_eq_true rfl) (by omega) (by decide) (by decide) (kV fun s106 hw => ?_)
      refine g_aload_n hC dX11_firstSwap_24 rfl ?_
      refine g_iconst (v := 0) hC dX11_firstSwap_25 (by decide) ?_
      refine g_aload_n hC dX11_firstSwap_26 rfl ?_
      refine g_getiSv (v := (mI s106 0 2)) hC fl_X11_101_11.s (hT _ tg_G_0) rfl dX11_firstSwap_27 ?_
      refine g_iload_n hC dX11_firstSwap_30 rfl ?_
      refine g_known (fun hS => ?_)
      refine mG.st (st1 := ([.int 0, .int (mI s106 0 2), .int x1] : List Value).reverse ++ .ref (xB X + 0) :: []) rfl ?_
      refine g_callV (As := [.int 0, .int (mI s106 0 2), .int x1]) (st := []) hC (hS.2 _ (hT _ tg_G_0)) (by decide) ycl_11_X11_leastOf yw_X11_leastOf yv_X11_leastOf tw_299 dX11_firstSwap_31 (fun _ h => h) (fun _ h => h) (fun h => h) (c_X11_leastOf (d := 53) (Nat.le_refl _) hP hT hF hw) rfl (Nat.le_of_ble_eq_true rfl) (by omega) (by decide) (by decide) (kI fun v107 s109 hw => ?_)
      refine g_iload_n hC dX11_firstSwap_34 rfl ?_
      refine g_icmp_ge (tgt := 40) hC dX11_firstSwap_35 rfl (fun c => ?_) (fun c => ?_)
      · replace hw := hw.1 c
        refine g_iinc (v := x2 + 1) (lv' := [(2, .int (x2 + 1)), (0, .ref (xB X + 0)), (1, .int x1)]) hC dX11_firstSwap_40 rfl rfl (hN 2 (by decide)) rfl ?_
        refine g_goto (tgt := 2) hC dX11_firstSwap_43 rfl ?_
        refine mG.pick (lv' := [(0, .ref (xB X + 0)), (1, .int x1), (2, .int (x2 + 1))]) [1, 2, 0] rfl ?_
        exact ih _ _ _ hw
      · replace hw := hw.2 c
        refine g_iload_n hC dX11_firstSwap_38 rfl ?_
        exact g_iret hC rfl (by decide) (by decide) dX11_firstSwap_39 (fun _ => ⟨_, rfl, hw⟩)
def w_X11_firstSwap (σ : Mem) (x1 : Int32) (Q : Int32 → Mem → Prop) : Prop := ∃ m101 : Nat, w_X11_firstSwap_2 Q m101 x1 0 σ
set_option maxRecDepth 4000 in
set_option maxHeartbeats 2000000 in
theorem t_X11_firstSwap {X : Cx} {d : Nat} (hC : mOK X cX11_firstSwap RX11 "firstSwap" (some .int) d 0 0) (hd : 54 ≤ d) (hN : ∀ i, i < 3 → i < xN X) (hP : ∀ e ∈ psG, e ∈ xP X) (hT : ∀ e ∈ tsG, e ∈ xT X) (hF : ∀ e ∈ xP X, e ∈ psA) {σ : Mem} {x1 : Int32} {Q : Int32 → Mem → Prop} (hw : w_X11_firstSwap σ x1 Q) : mG X 0 [(0, .ref (xB X + 0)), (1, .int x1)] [] σ 0 0 (mQ X 0 0 (qI Q)) := by
  refine g_iconst (v := 0) hC dX11_firstSwap_0 (by decide) ?_
  refine g_istore_n (lv' := [(2, .int 0), (0, .ref (xB X + 0)), (1, .int x1)]) hC dX11_firstSwap_1 (hN 2 (by decide)) rfl ?_
  refine mG.pick (lv' := [(0, .ref (xB X + 0)), (1, .int x1), (2, .int 0)]) [1, 2, 0] rfl ?_
  obtain ⟨m101, hw⟩ := hw
  exact t_X11_firstSwap_2 hC hd hN hP hT hF m101 _ _ _ hw
set_option maxRecDepth 4000 in
theorem c_X11_firstSwap {Z : Fx} {ps ts : List (Nat × Nat × Nat)} {d : Nat} (hd : 54 ≤ d) (hP : ∀ e ∈ psG, e ∈ ps) (hT : ∀ e ∈ tsG, e ∈ ts) (hF : ∀ e ∈ ps, e ∈ psA) {σ : Mem} {x1 : Int32} {Q : Int32 → Mem → Prop} (hw : w_X11_firstSwap σ x1 Q) : mM Z ps ts yX11_firstSwap cX11_firstSwap 3 (some .int) d 0 0 [.ref (Z.2.2 + 0), .int x1] σ (qI Q) := by
  refine mM.of (by decide) (Nat.le_of_ble_eq_true rfl) rfl (fun X hZ hp ht hn hC => ?_)
  subst hZ; subst hp; subst ht
  exact t_X11_firstSwap hC hd (fun i h => by rw [hn]; exact h) hP hT hF hw
def w_X11_firstOut_16 (Q : Int32 → Mem → Prop) (K2 : Int32 → Int32 → Mem → Prop) : Nat → Int32 → Int32 → Int32 → Mem → Prop
  | 0, _, _, _, _ => False
  | n + 1, x1, x2, x3, σ => ((mI σ 0 2) ≤ (x3 + 1) → (w_X11_leastOf σ 0 ((mI σ 0 2) - 1) x1 (fun v101 s103 => (x1 ≤ v101 → (K2 x1 (x2 + 1) s103)) ∧ (¬ x1 ≤ v101 → (Q x2 s103))))) ∧ (¬ (mI σ 0 2) ≤ (x3 + 1) → (vp_in x3 8 ∧ (w_X11_firstOut_16 Q K2 n x1 x2 (x3 + 1) (sI σ 20 (Int32.toNatClampNeg x3) (x3 + 1)))))
set_option maxRecDepth 4000 in
set_option maxHeartbeats 2000000 in
theorem t_X11_firstOut_16 {X : Cx} {d : Nat} (hC : mOK X cX11_firstOut RX11 "firstOut" (some .int) d 0 0) (hd : 54 ≤ d) (hN : ∀ i, i < 4 → i < xN X) (hP : ∀ e ∈ psG, e ∈ xP X) (hT : ∀ e ∈ tsG, e ∈ xT X) (hF : ∀ e ∈ xP X, e ∈ psA) {Q : Int32 → Mem → Prop} {K2 : Int32 → Int32 → Mem → Prop} (hK2 : ∀ (x1 : Int32) (x2 : Int32) (s : Mem), K2 x1 x2 s → mG X 2 [(0, .ref (xB X + 0)), (1, .int x1), (2, .int x2)] [] s 0 0 (mQ X 0 0 (qI Q))) : ∀ (n : Nat) (x1 : Int32) (x2 : Int32) (x3 : Int32) (σ : Mem), w_X11_firstOut_16 Q K2 n x1 x2 x3 σ → mG X 16 [(0, .ref (xB X + 0)), (1, .int x1), (2, .int x2), (3, .int x3)] [] σ 0 0 (mQ X 0 0 (qI Q)) := by
  intro n
  induction n with
  | zero => intro x1 x2 x3 σ hw; exact False.elim hw
  | succ n ih =>
    intro x1 x2 x3 σ hw
    rw [w_X11_firstOut_16] at hw
    refine g_iload_n hC dX11_firstOut_16 rfl ?_
    refine g_iconst (v := 1) hC dX11_firstOut_17 (by decide) ?_
    refine g_iadd hC dX11_firstOut_18 ?_
    refine g_aload_n hC dX11_firstOut_19 rfl ?_
    refine g_getiSv (v := (mI σ 0 2)) hC fl_X11_101_11.s (hT _ tg_G_0) rfl dX11_firstOut_20 ?_
    refine g_icmp_ge (tgt := 41) hC dX11_firstOut_23 rfl (fun c => ?_) (fun c => ?_)
    · replace hw := hw.1 c
      refine g_aload_n hC dX11_firstOut_41 rfl ?_
      refine g_iconst (v := 0) hC dX11_firstOut_42 (by decide) ?_
      refine g_aload_n hC dX11_firstOut_43 rfl ?_
      refine g_getiSv (v := (mI σ 0 2)) hC fl_X11_101_11.s (hT _ tg_G_0) rfl dX11_firstOut_44 ?_
      refine g_iconst (v := 1) hC dX11_firstOut_47 (by decide) ?_
      refine g_isub hC dX11_firstOut_48 ?_
      refine g_iload_n hC dX11_firstOut_49 rfl ?_
      refine g_known (fun hS => ?_)
      refine mG.st (st1 := ([.int 0, .int ((mI σ 0 2) - 1), .int x1] : List Value).reverse ++ .ref (xB X + 0) :: []) rfl ?_
      refine g_callV (As := [.int 0, .int ((mI σ 0 2) - 1), .int x1]) (st := []) hC (hS.2 _ (hT _ tg_G_0)) (by decide) ycl_11_X11_leastOf yw_X11_leastOf yv_X11_leastOf tw_299 dX11_firstOut_50 (fun _ h => h) (fun _ h => h) (fun h => h) (c_X11_leastOf (d := 53) (Nat.le_refl _) hP hT hF hw) rfl (Nat.le_of_ble_eq_true rfl) (by omega) (by decide) (by decide) (kI fun v101 s103 hw => ?_)
      refine g_iload_n hC dX11_firstOut_53 rfl ?_
      refine g_icmp_ge (tgt := 59) hC dX11_firstOut_54 rfl (fun c => ?_) (fun c => ?_)
      · replace hw := hw.1 c
        refine g_iinc (v := x2 + 1) (lv' := [(2, .int (x2 + 1)), (0, .ref (xB X + 0)), (1, .int x1), (3, .int x3)]) hC dX11_firstOut_59 rfl rfl (hN 2 (by decide)) rfl ?_
        refine g_goto (tgt := 2) hC dX11_firstOut_62 rfl ?_
        refine mG.pick (lv' := [(0, .ref (xB X + 0)), (1, .int x1), (2, .int (x2 + 1))]) [1, 2, 0] rfl ?_
        exact hK2 _ _ _ hw
      · replace hw := hw.2 c
        refine g_iload_n hC dX11_firstOut_57 rfl ?_
        exact g_iret hC rfl (by decide) (by decide) dX11_firstOut_58 (fun _ => ⟨_, rfl, hw⟩)
    · replace hw := hw.2 c
      refine g_aload_n hC dX11_firstOut_26 rfl ?_
      refine g_getrS hC fl_X11_55_11.s (hT _ tg_G_0) (hP _ pt_G_0_12) dX11_firstOut_27 ?_
      refine g_iload_n hC dX11_firstOut_30 rfl ?_
      refine g_iload_n hC dX11_firstOut_31 rfl ?_
      refine g_iconst (v := 1) hC dX11_firstOut_32 (by decide) ?_
      refine g_iadd hC dX11_firstOut_33 ?_
      have hin := hw.1
      replace hw := hw.2
      refine g_iastS (k := (Int32.toNatClampNeg x3)) hC (hT _ tg_G_20) rfl hin dX11_firstOut_34 ?_
      refine g_iinc (v := x3 + 1) (lv' := [(3, .int (x3 + 1)), (0, .ref (xB X + 0)), (1, .int x1), (2, .int x2)]) hC dX11_firstOut_35 rfl rfl (hN 3 (by decide)) rfl ?_
      refine g_goto (tgt := 16) hC dX11_firstOut_38 rfl ?_
      refine mG.pick (lv' := [(0, .ref (xB X + 0)), (1, .int x1), (2, .int x2), (3, .int (x3 + 1))]) [1, 2, 3, 0] rfl ?_
      exact ih _ _ _ _ hw
def w_X11_firstOut_2 (Q : Int32 → Mem → Prop) : Nat → Int32 → Int32 → Mem → Prop
  | 0, _, _, _ => False
  | n + 1, x1, x2, σ => ((mI σ 0 2) ≤ x2 → (Q (-1) σ)) ∧ (¬ (mI σ 0 2) ≤ x2 → (w_X11_orderOfNow σ (fun s103 => ∃ m104 : Nat, w_X11_firstOut_16 Q (fun z0 z1 z2 => w_X11_firstOut_2 Q n z0 z1 z2) m104 x1 x2 x2 s103)))
set_option maxRecDepth 4000 in
set_option maxHeartbeats 2000000 in
theorem t_X11_firstOut_2 {X : Cx} {d : Nat} (hC : mOK X cX11_firstOut RX11 "firstOut" (some .int) d 0 0) (hd : 54 ≤ d) (hN : ∀ i, i < 4 → i < xN X) (hP : ∀ e ∈ psG, e ∈ xP X) (hT : ∀ e ∈ tsG, e ∈ xT X) (hF : ∀ e ∈ xP X, e ∈ psA) {Q : Int32 → Mem → Prop} : ∀ (n : Nat) (x1 : Int32) (x2 : Int32) (σ : Mem), w_X11_firstOut_2 Q n x1 x2 σ → mG X 2 [(0, .ref (xB X + 0)), (1, .int x1), (2, .int x2)] [] σ 0 0 (mQ X 0 0 (qI Q)) := by
  intro n
  induction n with
  | zero => intro x1 x2 σ hw; exact False.elim hw
  | succ n ih =>
    intro x1 x2 σ hw
    rw [w_X11_firstOut_2] at hw
    refine g_iload_n hC dX11_firstOut_2 rfl ?_
    refine g_aload_n hC dX11_firstOut_3 rfl ?_
    refine g_getiSv (v := (mI σ 0 2)) hC fl_X11_101_11.s (hT _ tg_G_0) rfl dX11_firstOut_4 ?_
    refine g_icmp_ge (tgt := 65) hC dX11_firstOut_7 rfl (fun c => ?_) (fun c => ?_)
    · replace hw := hw.1 c
      refine g_iconst (v := (-1)) hC dX11_firstOut_65 (by decide) ?_
      exact g_iret hC rfl (by decide) (by decide) dX11_firstOut_66 (fun _ => ⟨_, rfl, hw⟩)
    · replace hw := hw.2 c
      refine g_aload_n hC dX11_firstOut_10 rfl ?_
      refine g_known (fun hS => ?_)
      refine mG.st (st1 := ([] : List Value).reverse ++ .ref (xB X + 0) :: []) rfl ?_
      refine g_callV (As := []) (st := []) hC (hS.2 _ (hT _ tg_G_0)) (by decide) ycl_11_X11_orderOfNow yw_X11_orderOfNow yv_X11_orderOfNow tw_240 dX11_firstOut_11 (fun _ h => h) (fun _ h => h) (fun h => h) (c_X11_orderOfNow (d := 0) (Nat.le_refl _) hP hT hF hw) rfl (Nat.le_of_ble_eq_true rfl) (by omega) (by decide) (by decide) (kV fun s103 hw => ?_)
      refine g_iload_n hC dX11_firstOut_14 rfl ?_
      refine g_istore_n (lv' := [(3, .int x2), (0, .ref (xB X + 0)), (1, .int x1), (2, .int x2)]) hC dX11_firstOut_15 (hN 3 (by decide)) rfl ?_
      refine mG.pick (lv' := [(0, .ref (xB X + 0)), (1, .int x1), (2, .int x2), (3, .int x2)]) [1, 2, 3, 0] rfl ?_
      obtain ⟨m104, hw⟩ := hw
      exact t_X11_firstOut_16 hC hd hN hP hT hF ih m104 _ _ _ _ hw
def w_X11_firstOut (σ : Mem) (x1 : Int32) (Q : Int32 → Mem → Prop) : Prop := ∃ m101 : Nat, w_X11_firstOut_2 Q m101 x1 0 σ
set_option maxRecDepth 4000 in
set_option maxHeartbeats 2000000 in
theorem t_X11_firstOut {X : Cx} {d : Nat} (hC : mOK X cX11_firstOut RX11 "firstOut" (some .int) d 0 0) (hd : 54 ≤ d) (hN : ∀ i, i < 4 → i < xN X) (hP : ∀ e ∈ psG, e ∈ xP X) (hT : ∀ e ∈ tsG, e ∈ xT X) (hF : ∀ e ∈ xP X, e ∈ psA) {σ : Mem} {x1 : Int32} {Q : Int32 → Mem → Prop} (hw : w_X11_firstOut σ x1 Q) : mG X 0 [(0, .ref (xB X + 0)), (1, .int x1)] [] σ 0 0 (mQ X 0 0 (qI Q)) := by
  refine g_iconst (v := 0) hC dX11_firstOut_0 (by decide) ?_
  refine g_istore_n (lv' := [(2, .int 0), (0, .ref (xB X + 0)), (1, .int x1)]) hC dX11_firstOut_1 (hN 2 (by decide)) rfl ?_
  refine mG.pick (lv' := [(0, .ref (xB X + 0)), (1, .int x1), (2, .int 0)]) [1, 2, 0] rfl ?_
  obtain ⟨m101, hw⟩ := hw
  exact t_X11_firstOut_2 hC hd hN hP hT hF m101 _ _ _ hw
set_option maxRecDepth 4000 in
theorem c_X11_firstOut {Z : Fx} {ps ts : List (Nat × Nat × Nat)} {d : Nat} (hd : 54 ≤ d) (hP : ∀ e ∈ psG, e ∈ ps) (hT : ∀ e ∈ tsG, e ∈ ts) (hF : ∀ e ∈ ps, e ∈ psA) {σ : Mem} {x1 : Int32} {Q : Int32 → Mem → Prop} (hw : w_X11_firstOut σ x1 Q) : mM Z ps ts yX11_firstOut cX11_firstOut 4 (some .int) d 0 0 [.ref (Z.2.2 + 0), .int x1] σ (qI Q) := by
  refine mM.of (by decide) (Nat.le_of_ble_eq_true rfl) rfl (fun X hZ hp ht hn hC => ?_)
  subst hZ; subst hp; subst ht
  exact t_X11_firstOut hC hd (fun i h => by rw [hn]; exact h) hP hT hF hw
def w_X11_less (σ : Mem) (x1 : Int32) (Q : Int32 → Mem → Prop) : Prop := (x1 < 0 → (Q (-2) σ)) ∧ (¬ x1 < 0 → ((x1 ≤ 1 → (w_X11_orderOfNow σ (fun s103 => w_X11_leastOf s103 0 (mI s103 0 2) 793 (fun v104 s106 => (¬ x1 = 0 → (w_X11_firstSwap s106 v104 (fun v107 s109 => Q v107 s109))) ∧ (x1 = 0 → (w_X11_firstOut s106 v104 (fun v110 s112 => Q v110 s112))))))) ∧ (¬ x1 ≤ 1 → (Q (-2) σ))))
set_option maxRecDepth 4000 in
set_option maxHeartbeats 2000000 in
theorem t_X11_less {X : Cx} {d : Nat} (hC : mOK X cX11_less RX11 "less" (some .int) d 0 0) (hd : 55 ≤ d) (hN : ∀ i, i < 3 → i < xN X) (hP : ∀ e ∈ psG, e ∈ xP X) (hT : ∀ e ∈ tsG, e ∈ xT X) (hF : ∀ e ∈ xP X, e ∈ psA) {σ : Mem} {x1 : Int32} {Q : Int32 → Mem → Prop} (hw : w_X11_less σ x1 Q) : mG X 0 [(0, .ref (xB X + 0)), (1, .int x1)] [] σ 0 0 (mQ X 0 0 (qI Q)) := by
  refine g_iload_n hC dX11_less_0 rfl ?_
  refine g_if_lt (tgt := 9) hC dX11_less_1 rfl (fun c => ?_) (fun c => ?_)
  · replace hw := hw.1 c
    refine g_bipush (v := (-2)) hC dX11_less_9 (by decide) ?_
    exact g_iret hC rfl (by decide) (by decide) dX11_less_11 (fun _ => ⟨_, rfl, hw⟩)
  · replace hw := hw.2 c
    refine g_iload_n hC dX11_less_4 rfl ?_
    refine g_iconst (v := 1) hC dX11_less_5 (by decide) ?_
    refine g_icmp_le (tgt := 12) hC dX11_less_6 rfl (fun c => ?_) (fun c => ?_)
    · replace hw := hw.1 c
      refine g_aload_n hC dX11_less_12 rfl ?_
      refine g_known (fun hS => ?_)
      refine mG.st (st1 := ([] : List Value).reverse ++ .ref (xB X + 0) :: []) rfl ?_
      refine g_callV (As := []) (st := []) hC (hS.2 _ (hT _ tg_G_0)) (by decide) ycl_11_X11_orderOfNow yw_X11_orderOfNow yv_X11_orderOfNow tw_240 dX11_less_13 (fun _ h => h) (fun _ h => h) (fun h => h) (c_X11_orderOfNow (d := 0) (Nat.le_refl _) hP hT hF hw) rfl (Nat.le_of_ble_eq_true rfl) (by omega) (by decide) (by decide) (kV fun s103 hw => ?_)
      refine g_aload_n hC dX11_less_16 rfl ?_
      refine g_iconst (v := 0) hC dX11_less_17 (by decide) ?_
      refine g_aload_n hC dX11_less_18 rfl ?_
      refine g_getiSv (v := (mI s103 0 2)) hC fl_X11_101_11.s (hT _ tg_G_0) rfl dX11_less_19 ?_
      refine g_sipush (v := 793) hC dX11_less_22 (by decide) ?_
      refine g_known (fun hS => ?_)
      refine mG.st (st1 := ([.int 0, .int (mI s103 0 2), .int 793] : List Value).reverse ++ .ref (xB X + 0) :: []) rfl ?_
      refine g_callV (As := [.int 0, .int (mI s103 0 2), .int 793]) (st := []) hC (hS.2 _ (hT _ tg_G_0)) (by decide) ycl_11_X11_leastOf yw_X11_leastOf yv_X11_leastOf tw_299 dX11_less_25 (fun _ h => h) (fun _ h => h) (fun h => h) (c_X11_leastOf (d := 53) (Nat.le_refl _) hP hT hF hw) rfl (Nat.le_of_ble_eq_true rfl) (by omega) (by decide) (by decide) (kI fun v104 s106 hw => ?_)
      refine g_istore_n (lv' := [(2, .int v104), (0, .ref (xB X + 0)), (1, .int x1)]) hC dX11_less_28 (hN 2 (by decide)) rfl ?_
      refine g_iload_n hC dX11_less_29 rfl ?_
      refine g_if_ne (tgt := 41) hC dX11_less_30 rfl (fun c => ?_) (fun c => ?_)
      · replace hw := hw.1 c
        refine g_aload_n hC dX11_less_41 rfl ?_
        refine g_iload_n hC dX11_less_42 rfl ?_
        refine g_known (fun hS => ?_)
        refine mG.st (st1 := ([.int v104] : List Value).reverse ++ .ref (xB X + 0) :: []) rfl ?_
        refine g_callV (As := [.int v104]) (st := []) hC (hS.2 _ (hT _ tg_G_0)) (by decide) ycl_11_X11_firstSwap yw_X11_firstSwap yv_X11_firstSwap tw_367 dX11_less_43 (fun _ h => h) (fun _ h => h) (fun h => h) (c_X11_firstSwap (d := 54) (Nat.le_refl _) hP hT hF hw) rfl (Nat.le_of_ble_eq_true rfl) (by omega) (by decide) (by decide) (kI fun v107 s109 hw => ?_)
        exact g_iret hC rfl (by decide) (by decide) dX11_less_46 (fun _ => ⟨_, rfl, hw⟩)
      · replace hw := hw.2 c
        refine g_aload_n hC dX11_less_33 rfl ?_
        refine g_iload_n hC dX11_less_34 rfl ?_
        refine g_known (fun hS => ?_)
        refine mG.st (st1 := ([.int v104] : List Value).reverse ++ .ref (xB X + 0) :: []) rfl ?_
        refine g_callV (As := [.int v104]) (st := []) hC (hS.2 _ (hT _ tg_G_0)) (by decide) ycl_11_X11_firstOut yw_X11_firstOut yv_X11_firstOut tw_375 dX11_less_35 (fun _ h => h) (fun _ h => h) (fun h => h) (c_X11_firstOut (d := 54) (Nat.le_refl _) hP hT hF hw) rfl (Nat.le_of_ble_eq_true rfl) (by omega) (by decide) (by decide) (kI fun v110 s112 hw => ?_)
        refine g_goto (tgt := 46) hC dX11_less_38 rfl ?_
        exact g_iret hC rfl (by decide) (by decide) dX11_less_46 (fun _ => ⟨_, rfl, hw⟩)
    · replace hw := hw.2 c
      refine g_bipush (v := (-2)) hC dX11_less_9 (by decide) ?_
      exact g_iret hC rfl (by decide) (by decide) dX11_less_11 (fun _ => ⟨_, rfl, hw⟩)
set_option maxRecDepth 4000 in
theorem c_X11_less {Z : Fx} {ps ts : List (Nat × Nat × Nat)} {d : Nat} (hd : 55 ≤ d) (hP : ∀ e ∈ psG, e ∈ ps) (hT : ∀ e ∈ tsG, e ∈ ts) (hF : ∀ e ∈ ps, e ∈ psA) {σ : Mem} {x1 : Int32} {Q : Int32 → Mem → Prop} (hw : w_X11_less σ x1 Q) : mM Z ps ts yX11_less cX11_less 3 (some .int) d 0 0 [.ref (Z.2.2 + 0), .int x1] σ (qI Q) := by
  refine mM.of (by decide) (Nat.le_of_ble_eq_true rfl) rfl (fun X hZ hp ht hn hC => ?_)
  subst hZ; subst hp; subst ht
  exact t_X11_less hC hd (fun i h => by rw [hn]; exact h) hP hT hF hw
def w_X11_riseBehind_85 (rec_X11_riseBehind : Mem → Int32 → Int32 → (Int32 → Mem → Prop) → Prop) (Q : Int32 → Mem → Prop) (K7 : Int32 → Int32 → Int32 → Int32 → Mem → Prop) (x1 : Int32) (x2 : Int32) (x3 : Int32) (x4 : Int32) (σ : Mem) : Prop := K7 x1 x2 x3 (x4 + 1) σ
set_option maxRecDepth 4000 in
set_option maxHeartbeats 2000000 in
theorem t_X11_riseBehind_85 {X : Cx} {d : Nat} {dr : Nat} (hC : mOK X cX11_riseBehind RX11 "riseBehind" (some .int) d 0 0) (hd : dr + 1 ≤ d) (hN : ∀ i, i < 6 → i < xN X) (hP : ∀ e ∈ psG, e ∈ xP X) (hT : ∀ e ∈ tsG, e ∈ xT X) (hF : ∀ e ∈ xP X, e ∈ psA) {rec_X11_riseBehind : Mem → Int32 → Int32 → (Int32 → Mem → Prop) → Prop} (hrec_X11_riseBehind : ∀ (s : Mem) (z0 : Int32) (z1 : Int32) (q : Int32 → Mem → Prop), rec_X11_riseBehind s z0 z1 q → mM (xZ X) (xP X) (xT X) yX11_riseBehind cX11_riseBehind 6 (some .int) dr 0 0 [.ref ((xB X) + 0), .int z0, .int z1] s (qI q)) {Q : Int32 → Mem → Prop} {K7 : Int32 → Int32 → Int32 → Int32 → Mem → Prop} (hK7 : ∀ (x1 : Int32) (x2 : Int32) (x3 : Int32) (x4 : Int32) (s : Mem), K7 x1 x2 x3 x4 s → mG X 7 [(0, .ref (xB X + 0)), (1, .int x1), (2, .int x2), (3, .int x3), (4, .int x4)] [] s 0 0 (mQ X 0 0 (qI Q))) {x1 : Int32} {x2 : Int32} {x3 : Int32} {x4 : Int32} {σ : Mem} (hw : w_X11_riseBehind_85 rec_X11_riseBehind Q K7 x1 x2 x3 x4 σ) : mG X 85 [(0, .ref (xB X + 0)), (1, .int x1), (2, .int x2), (3, .int x3), (4, .int x4)] [] σ 0 0 (mQ X 0 0 (qI Q)) := by
  refine g_iinc (v := x4 + 1) (lv' := [(4, .int (x4 + 1)), (0, .ref (xB X + 0)), (1, .int x1), (2, .int x2), (3, .int x3)]) hC dX11_riseBehind_85 rfl rfl (hN 4 (by decide)) rfl ?_
  refine g_goto (tgt := 7) hC dX11_riseBehind_88 rfl ?_
  refine mG.pick (lv' := [(0, .ref (xB X + 0)), (1, .int x1), (2, .int x2), (3, .int x3), (4, .int (x4 + 1))]) [1, 2, 3, 4, 0] rfl ?_
  exact hK7 _ _ _ _ _ hw
def w_X11_riseBehind_64 (rec_X11_riseBehind : Mem → Int32 → Int32 → (Int32 → Mem → Prop) → Prop) (Q : Int32 → Mem → Prop) (K7 : Int32 → Int32 → Int32 → Int32 → Mem → Prop) (x1 : Int32) (x2 : Int32) (x3 : Int32) (x4 : Int32) (xy0 : Int32) (σ : Mem) : Prop := (xy0 = 0 → (w_X11_riseBehind_85 rec_X11_riseBehind Q K7 x1 x2 x3 x4 σ)) ∧ (¬ xy0 = 0 → (rec_X11_riseBehind σ x4 x2 (fun v101 s103 => ∀ v104 : Int32, v104 = (if x3 < (1 + v101) then (1 + v101) else x3) → (w_X11_riseBehind_85 rec_X11_riseBehind Q K7 x1 x2 v104 x4 s103))))
set_option maxRecDepth 4000 in
set_option maxHeartbeats 2000000 in
theorem t_X11_riseBehind_64 {X : Cx} {d : Nat} {dr : Nat} (hC : mOK X cX11_riseBehind RX11 "riseBehind" (some .int) d 0 0) (hd : dr + 1 ≤ d) (hN : ∀ i, i < 6 → i < xN X) (hP : ∀ e ∈ psG, e ∈ xP X) (hT : ∀ e ∈ tsG, e ∈ xT X) (hF : ∀ e ∈ xP X, e ∈ psA) {rec_X11_riseBehind : Mem → Int32 → Int32 → (Int32 → Mem → Prop) → Prop} (hrec_X11_riseBehind : ∀ (s : Mem) (z0 : Int32) (z1 : Int32) (q : Int32 → Mem → Prop), rec_X11_riseBehind s z0 z1 q → mM (xZ X) (xP X) (xT X) yX11_riseBehind cX11_riseBehind 6 (some .int) dr 0 0 [.ref ((xB X) + 0), .int z0, .int z1] s (qI q)) {Q : Int32 → Mem → Prop} {K7 : Int32 → Int32 → Int32 → Int32 → Mem → Prop} (hK7 : ∀ (x1 : Int32) (x2 : Int32) (x3 : Int32) (x4 : Int32) (s : Mem), K7 x1 x2 x3 x4 s → mG X 7 [(0, .ref (xB X + 0)), (1, .int x1), (2, .int x2), (3, .int x3), (4, .int x4)] [] s 0 0 (mQ X 0 0 (qI Q))) {x1 : Int32} {x2 : Int32} {x3 : Int32} {x4 : Int32} {xy0 : Int32} {σ : Mem} (hw : w_X11_riseBehind_64 rec_X11_riseBehind Q K7 x1 x2 x3 x4 xy0 σ) : mG X 64 [(0, .ref (xB X + 0)), (1, .int x1), (2, .int x2), (3, .int x3), (4, .int x4)] [.int xy0] σ 0 0 (mQ X 0 0 (qI Q)) := by
  refine g_istore (lv' := [(5, .int xy0), (0, .ref (xB X + 0)), (1, .int x1), (2, .int x2), (3, .int x3), (4, .int x4)]) hC dX11_riseBehind_64 (hN 5 (by decide)) rfl ?_
  refine g_iload hC dX11_riseBehind_66 rfl ?_
  refine g_if_eq (tgt := 85) hC dX11_riseBehind_68 rfl (fun c => ?_) (fun c => ?_)
  · replace hw := hw.1 c
    refine mG.pick (lv' := [(0, .ref (xB X + 0)), (1, .int x1), (2, .int x2), (3, .int x3), (4, .int x4)]) [1, 2, 3, 4, 5] rfl ?_
    exact t_X11_riseBehind_85 hC hd hN hP hT hF hrec_X11_riseBehind hK7 hw
  · replace hw := hw.2 c
    refine g_iload_n hC dX11_riseBehind_71 rfl ?_
    refine g_iconst (v := 1) hC dX11_riseBehind_72 (by decide) ?_
    refine g_aload_n hC dX11_riseBehind_73 rfl ?_
    refine g_iload hC dX11_riseBehind_74 rfl ?_
    refine g_iload_n hC dX11_riseBehind_76 rfl ?_
    refine g_known (fun hS => ?_)
    refine mG.st (st1 := ([.int x4, .int x2] : List Value).reverse ++ .ref (xB X + 0) :: [.int 1, .int x3]) rfl ?_
    refine g_callV (As := [.int x4, .int x2]) (st := [.int 1, .int x3]) hC (hS.2 _ (hT _ tg_G_0)) (by decide) ycl_11_X11_riseBehind yw_X11_riseBehind yv_X11_riseBehind tw_379 dX11_riseBehind_77 (fun _ h => h) (fun _ h => h) (fun h => h) (hrec_X11_riseBehind _ _ _ _ hw) rfl (Nat.le_of_ble_eq_true rfl) (by omega) (by decide) (by decide) (kI fun v101 s103 hw => ?_)
    refine g_iadd hC dX11_riseBehind_80 ?_
    refine g_mmax hC tw_118 tw_103 tw_5 tw_104 (Nat.le_of_ble_eq_true rfl) (by omega) (by decide) (by decide) dX11_riseBehind_81 ?_
    refine g_topi (fun v104 ev104 => ?_)
    replace hw := hw v104 ev104
    refine g_istore_n (lv' := [(3, .int v104), (5, .int xy0), (0, .ref (xB X + 0)), (1, .int x1), (2, .int x2), (4, .int x4)]) hC dX11_riseBehind_84 (hN 3 (by decide)) rfl ?_
    refine mG.pick (lv' := [(0, .ref (xB X + 0)), (1, .int x1), (2, .int x2), (3, .int v104), (4, .int x4)]) [2, 3, 4, 0, 5] rfl ?_
    exact t_X11_riseBehind_85 hC hd hN hP hT hF hrec_X11_riseBehind hK7 hw
def w_X11_riseBehind_59 (rec_X11_riseBehind : Mem → Int32 → Int32 → (Int32 → Mem → Prop) → Prop) (Q : Int32 → Mem → Prop) (K7 : Int32 → Int32 → Int32 → Int32 → Mem → Prop) (x1 : Int32) (x2 : Int32) (x3 : Int32) (x4 : Int32) (σ : Mem) : Prop := w_X11_riseBehind_64 rec_X11_riseBehind Q K7 x1 x2 x3 x4 1 σ
set_option maxRecDepth 4000 in
set_option maxHeartbeats 2000000 in
theorem t_X11_riseBehind_59 {X : Cx} {d : Nat} {dr : Nat} (hC : mOK X cX11_riseBehind RX11 "riseBehind" (some .int) d 0 0) (hd : dr + 1 ≤ d) (hN : ∀ i, i < 6 → i < xN X) (hP : ∀ e ∈ psG, e ∈ xP X) (hT : ∀ e ∈ tsG, e ∈ xT X) (hF : ∀ e ∈ xP X, e ∈ psA) {rec_X11_riseBehind : Mem → Int32 → Int32 → (Int32 → Mem → Prop) → Prop} (hrec_X11_riseBehind : ∀ (s : Mem) (z0 : Int32) (z1 : Int32) (q : Int32 → Mem → Prop), rec_X11_riseBehind s z0 z1 q → mM (xZ X) (xP X) (xT X) yX11_riseBehind cX11_riseBehind 6 (some .int) dr 0 0 [.ref ((xB X) + 0), .int z0, .int z1] s (qI q)) {Q : Int32 → Mem → Prop} {K7 : Int32 → Int32 → Int32 → Int32 → Mem → Prop} (hK7 : ∀ (x1 : Int32) (x2 : Int32) (x3 : Int32) (x4 : Int32) (s : Mem), K7 x1 x2 x3 x4 s → mG X 7 [(0, .ref (xB X + 0)), (1, .int x1), (2, .int x2), (3, .int x3), (4, .int x4)] [] s 0 0 (mQ X 0 0 (qI Q))) {x1 : Int32} {x2 : Int32} {x3 : Int32} {x4 : Int32} {σ : Mem} (hw : w_X11_riseBehind_59 rec_X11_riseBehind Q K7 x1 x2 x3 x4 σ) : mG X 59 [(0, .ref (xB X + 0)), (1, .int x1), (2, .int x2), (3, .int x3), (4, .int x4)] [] σ 0 0 (mQ X 0 0 (qI Q)) := by
  refine g_iconst (v := 1) hC dX11_riseBehind_59 (by decide) ?_
  refine g_goto (tgt := 64) hC dX11_riseBehind_60 rfl ?_
  refine mG.pick (lv' := [(0, .ref (xB X + 0)), (1, .int x1), (2, .int x2), (3, .int x3), (4, .int x4)]) [0, 1, 2, 3, 4] rfl ?_
  exact t_X11_riseBehind_64 hC hd hN hP hT hF hrec_X11_riseBehind hK7 hw
def w_X11_riseBehind_63 (rec_X11_riseBehind : Mem → Int32 → Int32 → (Int32 → Mem → Prop) → Prop) (Q : Int32 → Mem → Prop) (K7 : Int32 → Int32 → Int32 → Int32 → Mem → Prop) (x1 : Int32) (x2 : Int32) (x3 : Int32) (x4 : Int32) (σ : Mem) : Prop := w_X11_riseBehind_64 rec_X11_riseBehind Q K7 x1 x2 x3 x4 0 σ
set_option maxRecDepth 4000 in
set_option maxHeartbeats 2000000 in
theorem t_X11_riseBehind_63 {X : Cx} {d : Nat} {dr : Nat} (hC : mOK X cX11_riseBehind RX11 "riseBehind" (some .int) d 0 0) (hd : dr + 1 ≤ d) (hN : ∀ i, i < 6 → i < xN X) (hP : ∀ e ∈ psG, e ∈ xP X) (hT : ∀ e ∈ tsG, e ∈ xT X) (hF : ∀ e ∈ xP X, e ∈ psA) {rec_X11_riseBehind : Mem → Int32 → Int32 → (Int32 → Mem → Prop) → Prop} (hrec_X11_riseBehind : ∀ (s : Mem) (z0 : Int32) (z1 : Int32) (q : Int32 → Mem → Prop), rec_X11_riseBehind s z0 z1 q → mM (xZ X) (xP X) (xT X) yX11_riseBehind cX11_riseBehind 6 (some .int) dr 0 0 [.ref ((xB X) + 0), .int z0, .int z1] s (qI q)) {Q : Int32 → Mem → Prop} {K7 : Int32 → Int32 → Int32 → Int32 → Mem → Prop} (hK7 : ∀ (x1 : Int32) (x2 : Int32) (x3 : Int32) (x4 : Int32) (s : Mem), K7 x1 x2 x3 x4 s → mG X 7 [(0, .ref (xB X + 0)), (1, .int x1), (2, .int x2), (3, .int x3), (4, .int x4)] [] s 0 0 (mQ X 0 0 (qI Q))) {x1 : Int32} {x2 : Int32} {x3 : Int32} {x4 : Int32} {σ : Mem} (hw : w_X11_riseBehind_63 rec_X11_riseBehind Q K7 x1 x2 x3 x4 σ) : mG X 63 [(0, .ref (xB X + 0)), (1, .int x1), (2, .int x2), (3, .int x3), (4, .int x4)] [] σ 0 0 (mQ X 0 0 (qI Q)) := by
  refine g_iconst (v := 0) hC dX11_riseBehind_63 (by decide) ?_
  refine mG.pick (lv' := [(0, .ref (xB X + 0)), (1, .int x1), (2, .int x2), (3, .int x3), (4, .int x4)]) [0, 1, 2, 3, 4] rfl ?_
  exact t_X11_riseBehind_64 hC hd hN hP hT hF hrec_X11_riseBehind hK7 hw
def w_X11_riseBehind_7 (rec_X11_riseBehind : Mem → Int32 → Int32 → (Int32 → Mem → Prop) → Prop) (Q : Int32 → Mem → Prop) : Nat → Int32 → Int32 → Int32 → Int32 → Mem → Prop
  | 0, _, _, _, _, _ => False
  | n + 1, x1, x2, x3, x4, σ => ((mI σ 0 2) ≤ x4 → (Q x3 σ)) ∧ (¬ (mI σ 0 2) ≤ x4 → ((x1 < 0 → (w_X11_riseBehind_59 rec_X11_riseBehind Q (fun z0 z1 z2 z3 z4 => w_X11_riseBehind_7 rec_X11_riseBehind Q n z0 z1 z2 z3 z4) x1 x2 x3 x4 σ)) ∧ (¬ x1 < 0 → ((¬ x2 = 0 → (vp_in x4 8 ∧ (vp_in x1 8 ∧ (((mI σ 1 (Int32.toNatClampNeg x1)) ≤ (mI σ 1 (Int32.toNatClampNeg x4)) → (w_X11_riseBehind_63 rec_X11_riseBehind Q (fun z0 z1 z2 z3 z4 => w_X11_riseBehind_7 rec_X11_riseBehind Q n z0 z1 z2 z3 z4) x1 x2 x3 x4 σ)) ∧ (¬ (mI σ 1 (Int32.toNatClampNeg x1)) ≤ (mI σ 1 (Int32.toNatClampNeg x4)) → (w_X11_riseBehind_59 rec_X11_riseBehind Q (fun z0 z1 z2 z3 z4 => w_X11_riseBehind_7 rec_X11_riseBehind Q n z0 z1 z2 z3 z4) x1 x2 x3 x4 σ)))))) ∧ (x2 = 0 → (vp_in x4 8 ∧ (vp_in x1 8 ∧ (((mI σ 1 (Int32.toNatClampNeg x4)) ≤ (mI σ 1 (Int32.toNatClampNeg x1)) → (w_X11_riseBehind_63 rec_X11_riseBehind Q (fun z0 z1 z2 z3 z4 => w_X11_riseBehind_7 rec_X11_riseBehind Q n z0 z1 z2 z3 z4) x1 x2 x3 x4 σ)) ∧ (¬ (mI σ 1 (Int32.toNatClampNeg x4)) ≤ (mI σ 1 (Int32.toNatClampNeg x1)) → (w_X11_riseBehind_59 rec_X11_riseBehind Q (fun z0 z1 z2 z3 z4 => w_X11_riseBehind_7 rec_X11_riseBehind Q n z0 z1 z2 z3 z4) x1 x2 x3 x4 σ))))))))))
set_option maxRecDepth 4000 in
set_option maxHeartbeats 2000000 in
theorem t_X11_riseBehind_7 {X : Cx} {d : Nat} {dr : Nat} (hC : mOK X cX11_riseBehind RX11 "riseBehind" (some .int) d 0 0) (hd : dr + 1 ≤ d) (hN : ∀ i, i < 6 → i < xN X) (hP : ∀ e ∈ psG, e ∈ xP X) (hT : ∀ e ∈ tsG, e ∈ xT X) (hF : ∀ e ∈ xP X, e ∈ psA) {rec_X11_riseBehind : Mem → Int32 → Int32 → (Int32 → Mem → Prop) → Prop} (hrec_X11_riseBehind : ∀ (s : Mem) (z0 : Int32) (z1 : Int32) (q : Int32 → Mem → Prop), rec_X11_riseBehind s z0 z1 q → mM (xZ X) (xP X) (xT X) yX11_riseBehind cX11_riseBehind 6 (some .int) dr 0 0 [.ref ((xB X) + 0), .int z0, .int z1] s (qI q)) {Q : Int32 → Mem → Prop} : ∀ (n : Nat) (x1 : Int32) (x2 : Int32) (x3 : Int32) (x4 : Int32) (σ : Mem), w_X11_riseBehind_7 rec_X11_riseBehind Q n x1 x2 x3 x4 σ → mG X 7 [(0, .ref (xB X + 0)), (1, .int x1), (2, .int x2), (3, .int x3), (4, .int x4)] [] σ 0 0 (mQ X 0 0 (qI Q)) := by
  intro n
  induction n with
  | zero => intro x1 x2 x3 x4 σ hw; exact False.elim hw
  | succ n ih =>
    intro x1 x2 x3 x4 σ hw
    rw [w_X11_riseBehind_7] at hw
    refine g_iload hC dX11_riseBehind_7 rfl ?_
    refine g_aload_n hC dX11_riseBehind_9 rfl ?_
    refine g_getiSv (v := (mI σ 0 2)) hC fl_X11_101_11.s (hT _ tg_G_0) rfl dX11_riseBehind_10 ?_
    refine g_icmp_ge (tgt := 91) hC dX11_riseBehind_13 rfl (fun c => ?_) (fun c => ?_)
    · replace hw := hw.1 c
      refine g_iload_n hC dX11_riseBehind_91 rfl ?_
      exact g_iret hC rfl (by decide) (by decide) dX11_riseBehind_92 (fun _ => ⟨_, rfl, hw⟩)
    · replace hw := hw.2 c
      refine g_iload_n hC dX11_riseBehind_16 rfl ?_
      refine g_if_lt (tgt := 59) hC dX11_riseBehind_17 rfl (fun c => ?_) (fun c => ?_)
      · replace hw := hw.1 c
        refine mG.pick (lv' := [(0, .ref (xB X + 0)), (1, .int x1), (2, .int x2), (3, .int x3), (4, .int x4)]) [0, 1, 2, 3, 4] rfl ?_
        exact t_X11_riseBehind_59 hC hd hN hP hT hF hrec_X11_riseBehind ih hw
      · replace hw := hw.2 c
        refine g_iload_n hC dX11_riseBehind_20 rfl ?_
        refine g_if_ne (tgt := 43) hC dX11_riseBehind_21 rfl (fun c => ?_) (fun c => ?_)
        · replace hw := hw.1 c
          refine g_aload_n hC dX11_riseBehind_43 rfl ?_
          refine g_getrS hC fl_X11_9_11.s (hT _ tg_G_0) (hP _ pt_G_0_0) dX11_riseBehind_44 ?_
          refine g_iload hC dX11_riseBehind_47 rfl ?_
          refine g_ialdSv (v := (mI σ 1 (Int32.toNatClampNeg x4))) hC (hT _ tg_G_1) rfl hw.1 rfl dX11_riseBehind_49 ?_
          replace hw := hw.2
          refine g_aload_n hC dX11_riseBehind_50 rfl ?_
          refine g_getrS hC fl_X11_9_11.s (hT _ tg_G_0) (hP _ pt_G_0_0) dX11_riseBehind_51 ?_
          refine g_iload_n hC dX11_riseBehind_54 rfl ?_
          refine g_ialdSv (v := (mI σ 1 (Int32.toNatClampNeg x1))) hC (hT _ tg_G_1) rfl hw.1 rfl dX11_riseBehind_55 ?_
          replace hw := hw.2
          refine g_icmp_ge (tgt := 63) hC dX11_riseBehind_56 rfl (fun c => ?_) (fun c => ?_)
          · replace hw := hw.1 c
            refine mG.pick (lv' := [(0, .ref (xB X + 0)), (1, .int x1), (2, .int x2), (3, .int x3), (4, .int x4)]) [0, 1, 2, 3, 4] rfl ?_
            exact t_X11_riseBehind_63 hC hd hN hP hT hF hrec_X11_riseBehind ih hw
          · replace hw := hw.2 c
            refine mG.pick (lv' := [(0, .ref (xB X + 0)), (1, .int x1), (2, .int x2), (3, .int x3), (4, .int x4)]) [0, 1, 2, 3, 4] rfl ?_
            exact t_X11_riseBehind_59 hC hd hN hP hT hF hrec_X11_riseBehind ih hw
        · replace hw := hw.2 c
          refine g_aload_n hC dX11_riseBehind_24 rfl ?_
          refine g_getrS hC fl_X11_9_11.s (hT _ tg_G_0) (hP _ pt_G_0_0) dX11_riseBehind_25 ?_
          refine g_iload hC dX11_riseBehind_28 rfl ?_
          refine g_ialdSv (v := (mI σ 1 (Int32.toNatClampNeg x4))) hC (hT _ tg_G_1) rfl hw.1 rfl dX11_riseBehind_30 ?_
          replace hw := hw.2
          refine g_aload_n hC dX11_riseBehind_31 rfl ?_
          refine g_getrS hC fl_X11_9_11.s (hT _ tg_G_0) (hP _ pt_G_0_0) dX11_riseBehind_32 ?_
          refine g_iload_n hC dX11_riseBehind_35 rfl ?_
          refine g_ialdSv (v := (mI σ 1 (Int32.toNatClampNeg x1))) hC (hT _ tg_G_1) rfl hw.1 rfl dX11_riseBehind_36 ?_
          replace hw := hw.2
          refine g_icmp_le (tgt := 63) hC dX11_riseBehind_37 rfl (fun c => ?_) (fun c => ?_)
          · replace hw := hw.1 c
            refine mG.pick (lv' := [(0, .ref (xB X + 0)), (1, .int x1), (2, .int x2), (3, .int x3), (4, .int x4)]) [0, 1, 2, 3, 4] rfl ?_
            exact t_X11_riseBehind_63 hC hd hN hP hT hF hrec_X11_riseBehind ih hw
          · replace hw := hw.2 c
            refine g_goto (tgt := 59) hC dX11_riseBehind_40 rfl ?_
            refine mG.pick (lv' := [(0, .ref (xB X + 0)), (1, .int x1), (2, .int x2), (3, .int x3), (4, .int x4)]) [0, 1, 2, 3, 4] rfl ?_
            exact t_X11_riseBehind_59 hC hd hN hP hT hF hrec_X11_riseBehind ih hw
def w_X11_riseBehind (rec_X11_riseBehind : Mem → Int32 → Int32 → (Int32 → Mem → Prop) → Prop) (σ : Mem) (x1 : Int32) (x2 : Int32) (Q : Int32 → Mem → Prop) : Prop := ∃ m101 : Nat, w_X11_riseBehind_7 rec_X11_riseBehind Q m101 x1 x2 0 (x1 + 1) σ
set_option maxRecDepth 4000 in
set_option maxHeartbeats 2000000 in
theorem t_X11_riseBehind {X : Cx} {d : Nat} {dr : Nat} (hC : mOK X cX11_riseBehind RX11 "riseBehind" (some .int) d 0 0) (hd : dr + 1 ≤ d) (hN : ∀ i, i < 6 → i < xN X) (hP : ∀ e ∈ psG, e ∈ xP X) (hT : ∀ e ∈ tsG, e ∈ xT X) (hF : ∀ e ∈ xP X, e ∈ psA) {rec_X11_riseBehind : Mem → Int32 → Int32 → (Int32 → Mem → Prop) → Prop} (hrec_X11_riseBehind : ∀ (s : Mem) (z0 : Int32) (z1 : Int32) (q : Int32 → Mem → Prop), rec_X11_riseBehind s z0 z1 q → mM (xZ X) (xP X) (xT X) yX11_riseBehind cX11_riseBehind 6 (some .int) dr 0 0 [.ref ((xB X) + 0), .int z0, .int z1] s (qI q)) {σ : Mem} {x1 : Int32} {x2 : Int32} {Q : Int32 → Mem → Prop} (hw : w_X11_riseBehind rec_X11_riseBehind σ x1 x2 Q) : mG X 0 [(0, .ref (xB X + 0)), (1, .int x1), (2, .int x2)] [] σ 0 0 (mQ X 0 0 (qI Q)) := by
  refine g_iconst (v := 0) hC dX11_riseBehind_0 (by decide) ?_
  refine g_istore_n (lv' := [(3, .int 0), (0, .ref (xB X + 0)), (1, .int x1), (2, .int x2)]) hC dX11_riseBehind_1 (hN 3 (by decide)) rfl ?_
  refine g_iload_n hC dX11_riseBehind_2 rfl ?_
  refine g_iconst (v := 1) hC dX11_riseBehind_3 (by decide) ?_
  refine g_iadd hC dX11_riseBehind_4 ?_
  refine g_istore (lv' := [(4, .int (x1 + 1)), (3, .int 0), (0, .ref (xB X + 0)), (1, .int x1), (2, .int x2)]) hC dX11_riseBehind_5 (hN 4 (by decide)) rfl ?_
  refine mG.pick (lv' := [(0, .ref (xB X + 0)), (1, .int x1), (2, .int x2), (3, .int 0), (4, .int (x1 + 1))]) [2, 3, 4, 1, 0] rfl ?_
  obtain ⟨m101, hw⟩ := hw
  exact t_X11_riseBehind_7 hC hd hN hP hT hF hrec_X11_riseBehind m101 _ _ _ _ _ hw
set_option maxRecDepth 4000 in
theorem c_X11_riseBehind {Z : Fx} {ps ts : List (Nat × Nat × Nat)} {d dr : Nat} (hd : dr + 1 ≤ d) {rec_X11_riseBehind : Mem → Int32 → Int32 → (Int32 → Mem → Prop) → Prop} (hrec_X11_riseBehind : ∀ (s : Mem) (z0 : Int32) (z1 : Int32) (q : Int32 → Mem → Prop), rec_X11_riseBehind s z0 z1 q → mM Z ps ts yX11_riseBehind cX11_riseBehind 6 (some .int) dr 0 0 [.ref (Z.2.2 + 0), .int z0, .int z1] s (qI q)) (hP : ∀ e ∈ psG, e ∈ ps) (hT : ∀ e ∈ tsG, e ∈ ts) (hF : ∀ e ∈ ps, e ∈ psA) {σ : Mem} {x1 : Int32} {x2 : Int32} {Q : Int32 → Mem → Prop} (hw : w_X11_riseBehind rec_X11_riseBehind σ x1 x2 Q) : mM Z ps ts yX11_riseBehind cX11_riseBehind 6 (some .int) d 0 0 [.ref (Z.2.2 + 0), .int x1, .int x2] σ (qI Q) := by
  refine mM.of (by decide) (Nat.le_of_ble_eq_true rfl) rfl (fun X hZ hp ht hn hC => ?_)
  subst hZ; subst hp; subst ht
  exact t_X11_riseBehind hC hd (fun i h => by rw [hn]; exact h) hP hT hF hrec_X11_riseBehind hw
def f_X11_riseBehind : Nat → Mem → Int32 → Int32 → (Int32 → Mem → Prop) → Prop
  | 0, _, _, _, _ => False
  | n + 1, σ, x1, x2, Q => w_X11_riseBehind (f_X11_riseBehind n) σ x1 x2 Q
theorem cf_X11_riseBehind {Z : Fx} {ps ts : List (Nat × Nat × Nat)} (n : Nat) (hP : ∀ e ∈ psG, e ∈ ps) (hT : ∀ e ∈ tsG, e ∈ ts) (hF : ∀ e ∈ ps, e ∈ psA) : ∀ {σ : Mem} {x1 : Int32} {x2 : Int32} {Q : Int32 → Mem → Prop}, f_X11_riseBehind n σ x1 x2 Q → mM Z ps ts yX11_riseBehind cX11_riseBehind 6 (some .int) (1 * (n + 1)) 0 0 [.ref (Z.2.2 + 0), .int x1, .int x2] σ (qI Q) := by
  induction n with
  | zero => intro σ x1 x2 Q hw; exact False.elim hw
  | succ n ih =>
    intro σ x1 x2 Q hw
    rw [f_X11_riseBehind] at hw
    exact c_X11_riseBehind (dr := 1 * (n + 1)) (by omega) (fun s z0 z1 q h => ih h) hP hT hF hw
def w_X11_rises (σ : Mem) (x1 : Int32) (Q : Int32 → Mem → Prop) : Prop := (x1 < 0 → (Q (-2) σ)) ∧ (¬ x1 < 0 → ((x1 ≤ 1 → (∃ m104 : Nat, m104 ≤ 12 ∧ f_X11_riseBehind m104 σ (-1) x1 (fun v101 s103 => Q v101 s103))) ∧ (¬ x1 ≤ 1 → (Q (-2) σ))))
set_option maxRecDepth 4000 in
set_option maxHeartbeats 2000000 in
theorem t_X11_rises {X : Cx} {d : Nat} (hC : mOK X cX11_rises RX11 "rises" (some .int) d 0 0) (hd : 14 ≤ d) (hN : ∀ i, i < 2 → i < xN X) (hP : ∀ e ∈ psG, e ∈ xP X) (hT : ∀ e ∈ tsG, e ∈ xT X) (hF : ∀ e ∈ xP X, e ∈ psA) {σ : Mem} {x1 : Int32} {Q : Int32 → Mem → Prop} (hw : w_X11_rises σ x1 Q) : mG X 0 [(0, .ref (xB X + 0)), (1, .int x1)] [] σ 0 0 (mQ X 0 0 (qI Q)) := by
  refine g_iload_n hC dX11_rises_0 rfl ?_
  refine g_if_lt (tgt := 9) hC dX11_rises_1 rfl (fun c => ?_) (fun c => ?_)
  · replace hw := hw.1 c
    refine g_bipush (v := (-2)) hC dX11_rises_9 (by decide) ?_
    exact g_iret hC rfl (by decide) (by decide) dX11_rises_11 (fun _ => ⟨_, rfl, hw⟩)
  · replace hw := hw.2 c
    refine g_iload_n hC dX11_rises_4 rfl ?_
    refine g_iconst (v := 1) hC dX11_rises_5 (by decide) ?_
    refine g_icmp_le (tgt := 12) hC dX11_rises_6 rfl (fun c => ?_) (fun c => ?_)
    · replace hw := hw.1 c
      refine g_aload_n hC dX11_rises_12 rfl ?_
      refine g_iconst (v := (-1)) hC dX11_rises_13 (by decide) ?_
      refine g_iload_n hC dX11_rises_14 rfl ?_
      refine g_known (fun hS => ?_)
      obtain ⟨m104, hn, hw⟩ := hw
      refine mG.st (st1 := ([.int (-1), .int x1] : List Value).reverse ++ .ref (xB X + 0) :: []) rfl ?_
      refine g_callV (As := [.int (-1), .int x1]) (st := []) hC (hS.2 _ (hT _ tg_G_0)) (by decide) ycl_11_X11_riseBehind yw_X11_riseBehind yv_X11_riseBehind tw_379 dX11_rises_15 (fun _ h => h) (fun _ h => h) (fun h => h) (cf_X11_riseBehind m104 hP hT hF hw) rfl (Nat.le_of_ble_eq_true rfl) (by omega) (by decide) (by decide) (kI fun v101 s103 hw => ?_)
      exact g_iret hC rfl (by decide) (by decide) dX11_rises_18 (fun _ => ⟨_, rfl, hw⟩)
    · replace hw := hw.2 c
      refine g_bipush (v := (-2)) hC dX11_rises_9 (by decide) ?_
      exact g_iret hC rfl (by decide) (by decide) dX11_rises_11 (fun _ => ⟨_, rfl, hw⟩)
set_option maxRecDepth 4000 in
theorem c_X11_rises {Z : Fx} {ps ts : List (Nat × Nat × Nat)} {d : Nat} (hd : 14 ≤ d) (hP : ∀ e ∈ psG, e ∈ ps) (hT : ∀ e ∈ tsG, e ∈ ts) (hF : ∀ e ∈ ps, e ∈ psA) {σ : Mem} {x1 : Int32} {Q : Int32 → Mem → Prop} (hw : w_X11_rises σ x1 Q) : mM Z ps ts yX11_rises cX11_rises 2 (some .int) d 0 0 [.ref (Z.2.2 + 0), .int x1] σ (qI Q) := by
  refine mM.of (by decide) (Nat.le_of_ble_eq_true rfl) rfl (fun X hZ hp ht hn hC => ?_)
  subst hZ; subst hp; subst ht
  exact t_X11_rises hC hd (fun i h => by rw [hn]; exact h) hP hT hF hw
def w_X11_sheetAt (σ : Mem) (x1 : Int32) (Q : Option Nat → Mem → Prop) : Prop := (x1 < 0 → (Q none σ)) ∧ (¬ x1 < 0 → ((4 ≤ x1 → (Q none σ)) ∧ (¬ 4 ≤ x1 → (vp_in x1 4 ∧ ∀ o101 : Option Nat, o101 = (mP σ 14 (Int32.toNatClampNeg x1)) → (Q o101 σ)))))
set_option maxRecDepth 4000 in
set_option maxHeartbeats 2000000 in
theorem t_X11_sheetAt {X : Cx} {d : Nat} (hC : mOK X cX11_sheetAt RX11 "sheetAt" (some (.object "GreaterPlates$Sheet")) d 0 0) (hd : 0 ≤ d) (hN : ∀ i, i < 2 → i < xN X) (hP : ∀ e ∈ psG, e ∈ xP X) (hT : ∀ e ∈ tsG, e ∈ xT X) (hF : ∀ e ∈ xP X, e ∈ psA) {σ : Mem} {x1 : Int32} {Q : Option Nat → Mem → Prop} (hw : w_X11_sheetAt σ x1 Q) : mG X 0 [(0, .ref (xB X + 0)), (1, .int x1)] [] σ 0 0 (mQ X 0 0 ((qA (xB X)) Q)) := by
  refine g_iload_n hC dX11_sheetAt_0 rfl ?_
  refine g_if_lt (tgt := 18) hC dX11_sheetAt_1 rfl (fun c => ?_) (fun c => ?_)
  · replace hw := hw.1 c
    refine g_null hC dX11_sheetAt_18 ?_
    exact g_aretN hC (Or.inl ⟨_, rfl⟩) (by decide) (by decide) dX11_sheetAt_19 (fun _ => ⟨none, rfl, hw⟩)
  · replace hw := hw.2 c
    refine g_iload_n hC dX11_sheetAt_4 rfl ?_
    refine g_iconst (v := 4) hC dX11_sheetAt_5 (by decide) ?_
    refine g_icmp_ge (tgt := 18) hC dX11_sheetAt_6 rfl (fun c => ?_) (fun c => ?_)
    · replace hw := hw.1 c
      refine g_null hC dX11_sheetAt_18 ?_
      exact g_aretN hC (Or.inl ⟨_, rfl⟩) (by decide) (by decide) dX11_sheetAt_19 (fun _ => ⟨none, rfl, hw⟩)
    · replace hw := hw.2 c
      refine g_aload_n hC dX11_sheetAt_9 rfl ?_
      refine g_getrS hC fl_X11_44_11.s (hT _ tg_G_0) (hP _ pt_G_0_10) dX11_sheetAt_10 ?_
      refine g_iload_n hC dX11_sheetAt_13 rfl ?_
      refine g_aaldS hC (hT _ tg_G_14) (by decide) (by decide) rfl hw.1 dX11_sheetAt_14 ?_
      refine g_topq (fun o101 eo101 => ?_)
      replace hw := hw.2 o101 eo101
      refine g_goto (tgt := 19) hC dX11_sheetAt_15 rfl ?_
      exact g_aret hC (Or.inl ⟨_, rfl⟩) (by decide) (by decide) dX11_sheetAt_19 (fun _ => ⟨o101, rfl, hw⟩)
set_option maxRecDepth 4000 in
theorem c_X11_sheetAt {Z : Fx} {ps ts : List (Nat × Nat × Nat)} {d : Nat} (hd : 0 ≤ d) (hP : ∀ e ∈ psG, e ∈ ps) (hT : ∀ e ∈ tsG, e ∈ ts) (hF : ∀ e ∈ ps, e ∈ psA) {σ : Mem} {x1 : Int32} {Q : Option Nat → Mem → Prop} (hw : w_X11_sheetAt σ x1 Q) : mM Z ps ts yX11_sheetAt cX11_sheetAt 2 (some (.object "GreaterPlates$Sheet")) d 0 0 [.ref (Z.2.2 + 0), .int x1] σ ((qA Z.2.2) Q) := by
  refine mM.of (by decide) (Nat.le_of_ble_eq_true rfl) rfl (fun X hZ hp ht hn hC => ?_)
  subst hZ; subst hp; subst ht
  exact t_X11_sheetAt hC hd (fun i h => by rw [hn]; exact h) hP hT hF hw
def w_X11_judge_87 (Q : Int32 → Mem → Prop) (K32 : Nat → Int32 → Mem → Prop) (a2 : Nat) (x3 : Int32) (x4 : Int32) (xy0 : Int32) (σ : Mem) : Prop := (¬ xy0 = 0 → (w_X1_put_15 σ x4 x3 (fun s103 => K32 a2 (x3 + 1) s103))) ∧ (xy0 = 0 → (Q x3 σ))
set_option maxRecDepth 4000 in
set_option maxHeartbeats 2000000 in
theorem t_X11_judge_87 {X : Cx} {d : Nat} (hC : mOK X cX11_judge RX11 "judge" (some .int) d 0 0) (hd : 4 ≤ d) (hN : ∀ i, i < 6 → i < xN X) (hP : ∀ e ∈ psG, e ∈ xP X) (hT : ∀ e ∈ tsG, e ∈ xT X) (hF : ∀ e ∈ xP X, e ∈ psA) {Q : Int32 → Mem → Prop} {K32 : Nat → Int32 → Mem → Prop} (hK32 : ∀ (a2 : Nat) (x3 : Int32) (s : Mem), K32 a2 x3 s → mG X 32 [(0, .ref (xB X + 0)), (2, .ref (xB X + a2)), (3, .int x3)] [] s 0 0 (mQ X 0 0 (qI Q))) {a2 : Nat} {x3 : Int32} {x4 : Int32} {xy0 : Int32} {σ : Mem} (hw : w_X11_judge_87 Q K32 a2 x3 x4 xy0 σ) : mG X 87 [(0, .ref (xB X + 0)), (2, .ref (xB X + a2)), (3, .int x3), (4, .int x4)] [.int xy0] σ 0 0 (mQ X 0 0 (qI Q)) := by
  refine g_istore (lv' := [(5, .int xy0), (0, .ref (xB X + 0)), (2, .ref (xB X + a2)), (3, .int x3), (4, .int x4)]) hC dX11_judge_87 (hN 5 (by decide)) rfl ?_
  refine g_iload hC dX11_judge_89 rfl ?_
  refine g_if_ne (tgt := 96) hC dX11_judge_91 rfl (fun c => ?_) (fun c => ?_)
  · replace hw := hw.1 c
    refine g_aload_n hC dX11_judge_96 rfl ?_
    refine g_getrS hC fl_X11_51_11.s (hT _ tg_G_0) (hP _ pt_G_0_11) dX11_judge_97 ?_
    refine g_iload hC dX11_judge_100 rfl ?_
    refine g_iload_n hC dX11_judge_102 rfl ?_
    refine g_known (fun hS => ?_)
    refine mG.st (st1 := ([.int x4, .int x3] : List Value).reverse ++ .ref (xB X + 15) :: []) rfl ?_
    refine g_callV (As := [.int x4, .int x3]) (st := []) hC (hS.2 _ (hT _ tg_G_15)) (by decide) ycl_1_X1_put yw_X1_put yv_X1_put tw_278 dX11_judge_103 (fun _ h => h) (fun _ h => h) (fun h => h) (c_X1_put_15 (d := 2) (Nat.le_refl _) hP hT hF hw) rfl (Nat.le_of_ble_eq_true rfl) (by omega) (by decide) (by decide) (kV fun s103 hw => ?_)
    refine g_iinc (v := x3 + 1) (lv' := [(3, .int (x3 + 1)), (5, .int xy0), (0, .ref (xB X + 0)), (2, .ref (xB X + a2)), (4, .int x4)]) hC dX11_judge_106 rfl rfl (hN 3 (by decide)) rfl ?_
    refine g_goto (tgt := 32) hC dX11_judge_109 rfl ?_
    refine mG.pick (lv' := [(0, .ref (xB X + 0)), (2, .ref (xB X + a2)), (3, .int (x3 + 1))]) [2, 3, 0] rfl ?_
    exact hK32 _ _ _ hw
  · replace hw := hw.2 c
    refine g_iload_n hC dX11_judge_94 rfl ?_
    exact g_iret hC rfl (by decide) (by decide) dX11_judge_95 (fun _ => ⟨_, rfl, hw⟩)
def w_X11_judge_86 (Q : Int32 → Mem → Prop) (K32 : Nat → Int32 → Mem → Prop) (a2 : Nat) (x3 : Int32) (x4 : Int32) (σ : Mem) : Prop := w_X11_judge_87 Q K32 a2 x3 x4 0 σ
set_option maxRecDepth 4000 in
set_option maxHeartbeats 2000000 in
theorem t_X11_judge_86 {X : Cx} {d : Nat} (hC : mOK X cX11_judge RX11 "judge" (some .int) d 0 0) (hd : 4 ≤ d) (hN : ∀ i, i < 6 → i < xN X) (hP : ∀ e ∈ psG, e ∈ xP X) (hT : ∀ e ∈ tsG, e ∈ xT X) (hF : ∀ e ∈ xP X, e ∈ psA) {Q : Int32 → Mem → Prop} {K32 : Nat → Int32 → Mem → Prop} (hK32 : ∀ (a2 : Nat) (x3 : Int32) (s : Mem), K32 a2 x3 s → mG X 32 [(0, .ref (xB X + 0)), (2, .ref (xB X + a2)), (3, .int x3)] [] s 0 0 (mQ X 0 0 (qI Q))) {a2 : Nat} {x3 : Int32} {x4 : Int32} {σ : Mem} (hw : w_X11_judge_86 Q K32 a2 x3 x4 σ) : mG X 86 [(0, .ref (xB X + 0)), (2, .ref (xB X + a2)), (3, .int x3), (4, .int x4)] [] σ 0 0 (mQ X 0 0 (qI Q)) := by
  refine g_iconst (v := 0) hC dX11_judge_86 (by decide) ?_
  refine mG.pick (lv' := [(0, .ref (xB X + 0)), (2, .ref (xB X + a2)), (3, .int x3), (4, .int x4)]) [0, 1, 2, 3] rfl ?_
  exact t_X11_judge_87 hC hd hN hP hT hF hK32 hw
def w_X11_judge_82 (Q : Int32 → Mem → Prop) (K32 : Nat → Int32 → Mem → Prop) (a2 : Nat) (x3 : Int32) (x4 : Int32) (σ : Mem) : Prop := w_X11_judge_87 Q K32 a2 x3 x4 1 σ
set_option maxRecDepth 4000 in
set_option maxHeartbeats 2000000 in
theorem t_X11_judge_82 {X : Cx} {d : Nat} (hC : mOK X cX11_judge RX11 "judge" (some .int) d 0 0) (hd : 4 ≤ d) (hN : ∀ i, i < 6 → i < xN X) (hP : ∀ e ∈ psG, e ∈ xP X) (hT : ∀ e ∈ tsG, e ∈ xT X) (hF : ∀ e ∈ xP X, e ∈ psA) {Q : Int32 → Mem → Prop} {K32 : Nat → Int32 → Mem → Prop} (hK32 : ∀ (a2 : Nat) (x3 : Int32) (s : Mem), K32 a2 x3 s → mG X 32 [(0, .ref (xB X + 0)), (2, .ref (xB X + a2)), (3, .int x3)] [] s 0 0 (mQ X 0 0 (qI Q))) {a2 : Nat} {x3 : Int32} {x4 : Int32} {σ : Mem} (hw : w_X11_judge_82 Q K32 a2 x3 x4 σ) : mG X 82 [(0, .ref (xB X + 0)), (2, .ref (xB X + a2)), (3, .int x3), (4, .int x4)] [] σ 0 0 (mQ X 0 0 (qI Q)) := by
  refine g_iconst (v := 1) hC dX11_judge_82 (by decide) ?_
  refine g_goto (tgt := 87) hC dX11_judge_83 rfl ?_
  refine mG.pick (lv' := [(0, .ref (xB X + 0)), (2, .ref (xB X + a2)), (3, .int x3), (4, .int x4)]) [0, 1, 2, 3] rfl ?_
  exact t_X11_judge_87 hC hd hN hP hT hF hK32 hw
def w_X11_judge_32 (Q : Int32 → Mem → Prop) : Nat → Nat → Int32 → Mem → Prop
  | 0, _, _, _ => False
  | n + 1, a2, x3, σ => mT σ a2 = some (7, 0) ∧ (((mI σ a2 2) ≤ x3 → (Q (-1) σ)) ∧ (¬ (mI σ a2 2) ≤ x3 → (mT σ a2 = some (7, 0) ∧ ∃ r101 : Nat, (mP σ a2 0) = some r101 ∧ (∃ n102 : Nat, mT σ r101 = some (14, n102) ∧ vp_in x3 n102 ∧ (∀ v103 : Int32, v103 = (mI σ r101 (Int32.toNatClampNeg x3)) → (w_X11_isPlate σ x3 (fun v104 s106 => (v104 = 0 → (w_X11_judge_86 Q (fun z0 z1 z2 => w_X11_judge_32 Q n z0 z1 z2) a2 x3 v103 s106)) ∧ (¬ v104 = 0 → ((v103 = (mI s106 15 2) → (w_X11_judge_82 Q (fun z0 z1 z2 => w_X11_judge_32 Q n z0 z1 z2) a2 x3 v103 s106)) ∧ (¬ v103 = (mI s106 15 2) → (w_X11_mayLie_15 s106 v103 x3 (fun v107 s109 => (v107 = 0 → (w_X11_judge_86 Q (fun z0 z1 z2 => w_X11_judge_32 Q n z0 z1 z2) a2 x3 v103 s109)) ∧ (¬ v107 = 0 → (w_X11_judge_82 Q (fun z0 z1 z2 => w_X11_judge_32 Q n z0 z1 z2) a2 x3 v103 s109))))))))))))))
set_option maxRecDepth 4000 in
set_option maxHeartbeats 2000000 in
theorem t_X11_judge_32 {X : Cx} {d : Nat} (hC : mOK X cX11_judge RX11 "judge" (some .int) d 0 0) (hd : 4 ≤ d) (hN : ∀ i, i < 6 → i < xN X) (hP : ∀ e ∈ psG, e ∈ xP X) (hT : ∀ e ∈ tsG, e ∈ xT X) (hF : ∀ e ∈ xP X, e ∈ psA) {Q : Int32 → Mem → Prop} : ∀ (n : Nat) (a2 : Nat) (x3 : Int32) (σ : Mem), w_X11_judge_32 Q n a2 x3 σ → mG X 32 [(0, .ref (xB X + 0)), (2, .ref (xB X + a2)), (3, .int x3)] [] σ 0 0 (mQ X 0 0 (qI Q)) := by
  intro n
  induction n with
  | zero => intro a2 x3 σ hw; exact False.elim hw
  | succ n ih =>
    intro a2 x3 σ hw
    rw [w_X11_judge_32] at hw
    refine g_iload_n hC dX11_judge_32 rfl ?_
    refine g_aload_n hC dX11_judge_33 rfl ?_
    refine g_getiv (v := (mI σ a2 2)) hC fl_X11_293_7.s hw.1 rfl dX11_judge_34 ?_
    replace hw := hw.2
    refine g_icmp_ge (tgt := 112) hC dX11_judge_37 rfl (fun c => ?_) (fun c => ?_)
    · replace hw := hw.1 c
      refine g_iconst (v := (-1)) hC dX11_judge_112 (by decide) ?_
      exact g_iret hC rfl (by decide) (by decide) dX11_judge_113 (fun _ => ⟨_, rfl, hw⟩)
    · replace hw := hw.2 c
      refine g_aload_n hC dX11_judge_40 rfl ?_
      obtain ⟨htg, r101, hpt, hw⟩ := hw
      refine g_getr hC fl_X11_294_7.s htg hpt dX11_judge_41 ?_
      refine g_iload_n hC dX11_judge_44 rfl ?_
      obtain ⟨n102, htg, hin, hw⟩ := hw
      refine g_ialdKv (v := (mI σ r101 (Int32.toNatClampNeg x3))) hC htg rfl hin rfl dX11_judge_45 ?_
      refine g_topi (fun v103 ev103 => ?_)
      replace hw := hw v103 ev103
      refine g_istore (lv' := [(4, .int v103), (0, .ref (xB X + 0)), (2, .ref (xB X + a2)), (3, .int x3)]) hC dX11_judge_46 (hN 4 (by decide)) rfl ?_
      refine g_aload_n hC dX11_judge_48 rfl ?_
      refine g_iload_n hC dX11_judge_49 rfl ?_
      refine g_known (fun hS => ?_)
      refine mG.st (st1 := ([.int x3] : List Value).reverse ++ .ref (xB X + 0) :: []) rfl ?_
      refine g_callV (As := [.int x3]) (st := []) hC (hS.2 _ (hT _ tg_G_0)) (by decide) ycl_11_X11_isPlate yw_X11_isPlate yv_X11_isPlate tw_82 dX11_judge_50 (fun _ h => h) (fun _ h => h) (fun h => h) (c_X11_isPlate (d := 0) (Nat.le_refl _) hP hT hF hw) rfl (Nat.le_of_ble_eq_true rfl) (by omega) (by decide) (by decide) (kI fun v104 s106 hw => ?_)
      refine g_if_eq (tgt := 86) hC dX11_judge_53 rfl (fun c => ?_) (fun c => ?_)
      · replace hw := hw.1 c
        refine mG.pick (lv' := [(0, .ref (xB X + 0)), (2, .ref (xB X + a2)), (3, .int x3), (4, .int v103)]) [1, 2, 3, 0] rfl ?_
        exact t_X11_judge_86 hC hd hN hP hT hF ih hw
      · replace hw := hw.2 c
        refine g_iload hC dX11_judge_56 rfl ?_
        refine g_aload_n hC dX11_judge_58 rfl ?_
        refine g_getrS hC fl_X11_51_11.s (hT _ tg_G_0) (hP _ pt_G_0_11) dX11_judge_59 ?_
        refine g_getiSv (v := (mI s106 15 2)) hC fl_X11_185_1.s (hT _ tg_G_15) rfl dX11_judge_62 ?_
        refine g_icmp_eq (tgt := 82) hC dX11_judge_65 rfl (fun c => ?_) (fun c => ?_)
        · replace hw := hw.1 c
          refine mG.pick (lv' := [(0, .ref (xB X + 0)), (2, .ref (xB X + a2)), (3, .int x3), (4, .int v103)]) [1, 2, 3, 0] rfl ?_
          exact t_X11_judge_82 hC hd hN hP hT hF ih hw
        · replace hw := hw.2 c
          refine g_aload_n hC dX11_judge_68 rfl ?_
          refine g_aload_n hC dX11_judge_69 rfl ?_
          refine g_getrS hC fl_X11_51_11.s (hT _ tg_G_0) (hP _ pt_G_0_11) dX11_judge_70 ?_
          refine g_iload hC dX11_judge_73 rfl ?_
          refine g_iload_n hC dX11_judge_75 rfl ?_
          refine g_known (fun hS => ?_)
          refine mG.st (st1 := ([.ref (xB X + 15), .int v103, .int x3] : List Value).reverse ++ .ref (xB X + 0) :: []) rfl ?_
          refine g_callV (As := [.ref (xB X + 15), .int v103, .int x3]) (st := []) hC (hS.2 _ (hT _ tg_G_0)) (by decide) ycl_11_X11_mayLie yw_X11_mayLie yv_X11_mayLie tw_253 dX11_judge_76 (fun _ h => h) (fun _ h => h) (fun h => h) (c_X11_mayLie_15 (d := 3) (Nat.le_refl _) hP hT hF hw) rfl (Nat.le_of_ble_eq_true rfl) (by omega) (by decide) (by decide) (kI fun v107 s109 hw => ?_)
          refine g_if_eq (tgt := 86) hC dX11_judge_79 rfl (fun c => ?_) (fun c => ?_)
          · replace hw := hw.1 c
            refine mG.pick (lv' := [(0, .ref (xB X + 0)), (2, .ref (xB X + a2)), (3, .int x3), (4, .int v103)]) [1, 2, 3, 0] rfl ?_
            exact t_X11_judge_86 hC hd hN hP hT hF ih hw
          · replace hw := hw.2 c
            refine mG.pick (lv' := [(0, .ref (xB X + 0)), (2, .ref (xB X + a2)), (3, .int x3), (4, .int v103)]) [1, 2, 3, 0] rfl ?_
            exact t_X11_judge_82 hC hd hN hP hT hF ih hw
def w_X11_judge (σ : Mem) (x1 : Int32) (Q : Int32 → Mem → Prop) : Prop := w_X11_sheetAt σ x1 (fun o102 s103 => (o102 = none → (Q (-2) s103)) ∧ (∀ r104 : Nat, o102 = some r104 → (mT s103 r104 = some (7, 0) ∧ (w_X7_isMissing s103 r104 (fun v105 s107 => (v105 = 0 → (w_X1_clear_15 s107 (fun s110 => ∃ m111 : Nat, w_X11_judge_32 Q m111 r104 0 s110))) ∧ (¬ v105 = 0 → (Q (-11) s107)))))))
set_option maxRecDepth 4000 in
set_option maxHeartbeats 2000000 in
theorem t_X11_judge {X : Cx} {d : Nat} (hC : mOK X cX11_judge RX11 "judge" (some .int) d 0 0) (hd : 4 ≤ d) (hN : ∀ i, i < 6 → i < xN X) (hP : ∀ e ∈ psG, e ∈ xP X) (hT : ∀ e ∈ tsG, e ∈ xT X) (hF : ∀ e ∈ xP X, e ∈ psA) {σ : Mem} {x1 : Int32} {Q : Int32 → Mem → Prop} (hw : w_X11_judge σ x1 Q) : mG X 0 [(0, .ref (xB X + 0)), (1, .int x1)] [] σ 0 0 (mQ X 0 0 (qI Q)) := by
  refine g_aload_n hC dX11_judge_0 rfl ?_
  refine g_iload_n hC dX11_judge_1 rfl ?_
  refine g_known (fun hS => ?_)
  refine mG.st (st1 := ([.int x1] : List Value).reverse ++ .ref (xB X + 0) :: []) rfl ?_
  refine g_callV (As := [.int x1]) (st := []) hC (hS.2 _ (hT _ tg_G_0)) (by decide) ycl_11_X11_sheetAt yw_X11_sheetAt yv_X11_sheetAt tw_383 dX11_judge_2 (fun _ h => h) (fun _ h => h) (fun h => h) (c_X11_sheetAt (d := 0) (Nat.le_refl _) hP hT hF hw) rfl (Nat.le_of_ble_eq_true rfl) (by omega) (by decide) (by decide) (kA fun o102 s103 hw => ?_)
  refine g_astore_nQ (lv' := [(2, rq X o102), (0, .ref (xB X + 0)), (1, .int x1)]) hC dX11_judge_5 (hN 2 (by decide)) rfl ?_
  refine g_aload_nQ hC dX11_judge_6 rfl ?_
  rcases o102 with _ | r104
  · replace hw := hw.1 rfl
    refine g_ifnonnullN hC dX11_judge_7 ?_
    refine g_bipush (v := (-2)) hC dX11_judge_10 (by decide) ?_
    exact g_iret hC rfl (by decide) (by decide) dX11_judge_12 (fun _ => ⟨_, rfl, hw⟩)
  · replace hw := hw.2 r104 rfl
    refine g_ifnonnullR (tgt := 13) hC dX11_judge_7 rfl ?_
    refine g_aload_n hC dX11_judge_13 rfl ?_
    refine mG.st (st1 := ([] : List Value).reverse ++ .ref (xB X + r104) :: []) rfl ?_
    have hw0 := hw.1
    replace hw := hw.2
    refine g_callV (As := []) (st := []) hC hw0 (by decide) ycl_7_X7_isMissing yw_X7_isMissing yv_X7_isMissing tw_385 dX11_judge_14 (fun _ h => h) (fun _ h => h) (fun h => h) (c_X7_isMissing (d := 0) (Nat.le_refl _) hw) rfl (Nat.le_of_ble_eq_true rfl) (by omega) (by decide) (by decide) (kI fun v105 s107 hw => ?_)
    refine g_if_eq (tgt := 23) hC dX11_judge_17 rfl (fun c => ?_) (fun c => ?_)
    · replace hw := hw.1 c
      refine g_aload_n hC dX11_judge_23 rfl ?_
      refine g_getrS hC fl_X11_51_11.s (hT _ tg_G_0) (hP _ pt_G_0_11) dX11_judge_24 ?_
      refine g_known (fun hS => ?_)
      refine mG.st (st1 := ([] : List Value).reverse ++ .ref (xB X + 15) :: []) rfl ?_
      refine g_callV (As := []) (st := []) hC (hS.2 _ (hT _ tg_G_15)) (by decide) ycl_1_X1_clear yw_X1_clear yv_X1_clear tw_243 dX11_judge_27 (fun _ h => h) (fun _ h => h) (fun h => h) (c_X1_clear_15 (d := 0) (Nat.le_refl _) hP hT hF hw) rfl (Nat.le_of_ble_eq_true rfl) (by omega) (by decide) (by decide) (kV fun s110 hw => ?_)
      refine g_iconst (v := 0) hC dX11_judge_30 (by decide) ?_
      refine g_istore_n (lv' := [(3, .int 0), (2, .ref (xB X + r104)), (0, .ref (xB X + 0)), (1, .int x1)]) hC dX11_judge_31 (hN 3 (by decide)) rfl ?_
      refine mG.pick (lv' := [(0, .ref (xB X + 0)), (2, .ref (xB X + r104)), (3, .int 0)]) [2, 1, 0] rfl ?_
      obtain ⟨m111, hw⟩ := hw
      exact t_X11_judge_32 hC hd hN hP hT hF m111 _ _ _ hw
    · replace hw := hw.2 c
      refine g_bipush (v := (-11)) hC dX11_judge_20 (by decide) ?_
      exact g_iret hC rfl (by decide) (by decide) dX11_judge_22 (fun _ => ⟨_, rfl, hw⟩)
set_option maxRecDepth 4000 in
theorem c_X11_judge {Z : Fx} {ps ts : List (Nat × Nat × Nat)} {d : Nat} (hd : 4 ≤ d) (hP : ∀ e ∈ psG, e ∈ ps) (hT : ∀ e ∈ tsG, e ∈ ts) (hF : ∀ e ∈ ps, e ∈ psA) {σ : Mem} {x1 : Int32} {Q : Int32 → Mem → Prop} (hw : w_X11_judge σ x1 Q) : mM Z ps ts yX11_judge cX11_judge 6 (some .int) d 0 0 [.ref (Z.2.2 + 0), .int x1] σ (qI Q) := by
  refine mM.of (by decide) (Nat.le_of_ble_eq_true rfl) rfl (fun X hZ hp ht hn hC => ?_)
  subst hZ; subst hp; subst ht
  exact t_X11_judge hC hd (fun i h => by rw [hn]; exact h) hP hT hF hw
def w_X11_laysJustSo_22 (Q : Int32 → Mem → Prop) : Nat → Nat → Int32 → Mem → Prop
  | 0, _, _, _ => False
  | n + 1, a2, x3, σ => ((mI σ 0 2) ≤ x3 → (Q 1 σ)) ∧ (¬ (mI σ 0 2) ≤ x3 → (vp_in x3 8 ∧ (mT σ a2 = some (7, 0) ∧ ∃ r101 : Nat, (mP σ a2 0) = some r101 ∧ (∃ n102 : Nat, mT σ r101 = some (14, n102) ∧ vp_in x3 n102 ∧ (((mI σ 18 (Int32.toNatClampNeg x3)) = (mI σ r101 (Int32.toNatClampNeg x3)) → (w_X11_laysJustSo_22 Q n a2 (x3 + 1) σ)) ∧ (¬ (mI σ 18 (Int32.toNatClampNeg x3)) = (mI σ r101 (Int32.toNatClampNeg x3)) → (Q 0 σ)))))))
set_option maxRecDepth 4000 in
set_option maxHeartbeats 2000000 in
theorem t_X11_laysJustSo_22 {X : Cx} {d : Nat} (hC : mOK X cX11_laysJustSo RX11 "laysJustSo" (some .boolean) d 0 0) (hd : 9 ≤ d) (hN : ∀ i, i < 4 → i < xN X) (hP : ∀ e ∈ psG, e ∈ xP X) (hT : ∀ e ∈ tsG, e ∈ xT X) (hF : ∀ e ∈ xP X, e ∈ psA) {Q : Int32 → Mem → Prop} : ∀ (n : Nat) (a2 : Nat) (x3 : Int32) (σ : Mem), w_X11_laysJustSo_22 Q n a2 x3 σ → mG X 22 [(0, .ref (xB X + 0)), (2, .ref (xB X + a2)), (3, .int x3)] [] σ 0 0 (mQ X 0 0 (qI Q)) := by
  intro n
  induction n with
  | zero => intro a2 x3 σ hw; exact False.elim hw
  | succ n ih =>
    intro a2 x3 σ hw
    rw [w_X11_laysJustSo_22] at hw
    refine g_iload_n hC dX11_laysJustSo_22 rfl ?_
    refine g_aload_n hC dX11_laysJustSo_23 rfl ?_
    refine g_getiSv (v := (mI σ 0 2)) hC fl_X11_101_11.s (hT _ tg_G_0) rfl dX11_laysJustSo_24 ?_
    refine g_icmp_ge (tgt := 56) hC dX11_laysJustSo_27 rfl (fun c => ?_) (fun c => ?_)
    · replace hw := hw.1 c
      refine g_iconst (v := 1) hC dX11_laysJustSo_56 (by decide) ?_
      exact g_iret hC bz1 (by decide) (by decide) dX11_laysJustSo_57 (fun _ => ⟨_, rfl, hw⟩)
    · replace hw := hw.2 c
      refine g_aload_n hC dX11_laysJustSo_30 rfl ?_
      refine g_getrS hC fl_X11_51_11.s (hT _ tg_G_0) (hP _ pt_G_0_11) dX11_laysJustSo_31 ?_
      refine g_getrS hC fl_X11_188_1.s (hT _ tg_G_15) (hP _ pt_G_15_3) dX11_laysJustSo_34 ?_
      refine g_iload_n hC dX11_laysJustSo_37 rfl ?_
      refine g_ialdSv (v := (mI σ 18 (Int32.toNatClampNeg x3))) hC (hT _ tg_G_18) rfl hw.1 rfl dX11_laysJustSo_38 ?_
      replace hw := hw.2
      refine g_aload_n hC dX11_laysJustSo_39 rfl ?_
      obtain ⟨htg, r101, hpt, hw⟩ := hw
      refine g_getr hC fl_X11_294_7.s htg hpt dX11_laysJustSo_40 ?_
      refine g_iload_n hC dX11_laysJustSo_43 rfl ?_
      obtain ⟨n102, htg, hin, hw⟩ := hw
      refine g_ialdKv (v := (mI σ r101 (Int32.toNatClampNeg x3))) hC htg rfl hin rfl dX11_laysJustSo_44 ?_
      refine g_icmp_eq (tgt := 50) hC dX11_laysJustSo_45 rfl (fun c => ?_) (fun c => ?_)
      · replace hw := hw.1 c
        refine g_iinc (v := x3 + 1) (lv' := [(3, .int (x3 + 1)), (0, .ref (xB X + 0)), (2, .ref (xB X + a2))]) hC dX11_laysJustSo_50 rfl rfl (hN 3 (by decide)) rfl ?_
        refine g_goto (tgt := 22) hC dX11_laysJustSo_53 rfl ?_
        refine mG.pick (lv' := [(0, .ref (xB X + 0)), (2, .ref (xB X + a2)), (3, .int (x3 + 1))]) [1, 2, 0] rfl ?_
        exact ih _ _ _ hw
      · replace hw := hw.2 c
        refine g_iconst (v := 0) hC dX11_laysJustSo_48 (by decide) ?_
        exact g_iret hC bz0 (by decide) (by decide) dX11_laysJustSo_49 (fun _ => ⟨_, rfl, hw⟩)
def w_X11_laysJustSo (σ : Mem) (o1 : Option Nat) (a2 : Nat) (Q : Int32 → Mem → Prop) : Prop := (o1 = none → (Q 0 σ)) ∧ (∀ r101 : Nat, o1 = some r101 → (w_X11_orderOfNow σ (fun s104 => w_X11_layInOrder s104 r101 (mI s104 0 2) (fun v105 s107 => ∃ m108 : Nat, w_X11_laysJustSo_22 Q m108 a2 0 s107))))
set_option maxRecDepth 4000 in
set_option maxHeartbeats 2000000 in
theorem t_X11_laysJustSo {X : Cx} {d : Nat} (hC : mOK X cX11_laysJustSo RX11 "laysJustSo" (some .boolean) d 0 0) (hd : 9 ≤ d) (hN : ∀ i, i < 4 → i < xN X) (hP : ∀ e ∈ psG, e ∈ xP X) (hT : ∀ e ∈ tsG, e ∈ xT X) (hF : ∀ e ∈ xP X, e ∈ psA) {σ : Mem} {o1 : Option Nat} {a2 : Nat} {Q : Int32 → Mem → Prop} (hw : w_X11_laysJustSo σ o1 a2 Q) : mG X 0 [(0, .ref (xB X + 0)), (1, rq X o1), (2, .ref (xB X + a2))] [] σ 0 0 (mQ X 0 0 (qI Q)) := by
  refine g_aload_nQ hC dX11_laysJustSo_0 rfl ?_
  rcases o1 with _ | r101
  · replace hw := hw.1 rfl
    refine g_ifnonnullN hC dX11_laysJustSo_1 ?_
    refine g_iconst (v := 0) hC dX11_laysJustSo_4 (by decide) ?_
    exact g_iret hC bz0 (by decide) (by decide) dX11_laysJustSo_5 (fun _ => ⟨_, rfl, hw⟩)
  · replace hw := hw.2 r101 rfl
    refine g_ifnonnullR (tgt := 6) hC dX11_laysJustSo_1 rfl ?_
    refine g_aload_n hC dX11_laysJustSo_6 rfl ?_
    refine g_known (fun hS => ?_)
    refine mG.st (st1 := ([] : List Value).reverse ++ .ref (xB X + 0) :: []) rfl ?_
    refine g_callV (As := []) (st := []) hC (hS.2 _ (hT _ tg_G_0)) (by decide) ycl_11_X11_orderOfNow yw_X11_orderOfNow yv_X11_orderOfNow tw_240 dX11_laysJustSo_7 (fun _ h => h) (fun _ h => h) (fun h => h) (c_X11_orderOfNow (d := 0) (Nat.le_refl _) hP hT hF hw) rfl (Nat.le_of_ble_eq_true rfl) (by omega) (by decide) (by decide) (kV fun s104 hw => ?_)
    refine g_aload_n hC dX11_laysJustSo_10 rfl ?_
    refine g_aload_n hC dX11_laysJustSo_11 rfl ?_
    refine g_aload_n hC dX11_laysJustSo_12 rfl ?_
    refine g_getiSv (v := (mI s104 0 2)) hC fl_X11_101_11.s (hT _ tg_G_0) rfl dX11_laysJustSo_13 ?_
    refine g_known (fun hS => ?_)
    refine mG.st (st1 := ([.ref (xB X + r101), .int (mI s104 0 2)] : List Value).reverse ++ .ref (xB X + 0) :: []) rfl ?_
    refine g_callV (As := [.ref (xB X + r101), .int (mI s104 0 2)]) (st := []) hC (hS.2 _ (hT _ tg_G_0)) (by decide) ycl_11_X11_layInOrder yw_X11_layInOrder yv_X11_layInOrder tw_242 dX11_laysJustSo_16 (fun _ h => h) (fun _ h => h) (fun h => h) (c_X11_layInOrder (d := 8) (Nat.le_refl _) hP hT hF hw) rfl (Nat.le_of_ble_eq_true rfl) (by omega) (by decide) (by decide) (kI fun v105 s107 hw => ?_)
    refine g_pop hC dX11_laysJustSo_19 rfl ?_
    refine g_iconst (v := 0) hC dX11_laysJustSo_20 (by decide) ?_
    refine g_istore_n (lv' := [(3, .int 0), (0, .ref (xB X + 0)), (1, .ref (xB X + r101)), (2, .ref (xB X + a2))]) hC dX11_laysJustSo_21 (hN 3 (by decide)) rfl ?_
    refine mG.pick (lv' := [(0, .ref (xB X + 0)), (2, .ref (xB X + a2)), (3, .int 0)]) [1, 3, 0] rfl ?_
    obtain ⟨m108, hw⟩ := hw
    exact t_X11_laysJustSo_22 hC hd hN hP hT hF m108 _ _ _ hw
set_option maxRecDepth 4000 in
theorem c_X11_laysJustSo {Z : Fx} {ps ts : List (Nat × Nat × Nat)} {d : Nat} (hd : 9 ≤ d) (hP : ∀ e ∈ psG, e ∈ ps) (hT : ∀ e ∈ tsG, e ∈ ts) (hF : ∀ e ∈ ps, e ∈ psA) {σ : Mem} {o1 : Option Nat} {a2 : Nat} {Q : Int32 → Mem → Prop} (hw : w_X11_laysJustSo σ o1 a2 Q) : mM Z ps ts yX11_laysJustSo cX11_laysJustSo 4 (some .boolean) d 0 0 [.ref (Z.2.2 + 0), va_rf (Option.map (fun r => Z.2.2 + r) o1), .ref (Z.2.2 + a2)] σ (qI Q) := by
  refine mM.of (lv := [(0, .ref (Z.2.2 + 0)), (1, va_rf (Option.map (fun r => Z.2.2 + r) o1)), (2, .ref (Z.2.2 + a2))]) (by decide) (by cases o1 <;> exact Nat.le_of_ble_eq_true rfl) (by cases o1 <;> rfl) (fun X hZ hp ht hn hC => ?_)
  subst hZ; subst hp; subst ht
  exact t_X11_laysJustSo hC hd (fun i h => by rw [hn]; exact h) hP hT hF hw
def w_X11_stranger_72 (Q : Int32 → Mem → Prop) (K42 : Nat → Int32 → Int32 → Mem → Prop) (a2 : Nat) (x3 : Int32) (x4 : Int32) (σ : Mem) : Prop := K42 a2 x3 (x4 + 1) σ
set_option maxRecDepth 4000 in
set_option maxHeartbeats 2000000 in
theorem t_X11_stranger_72 {X : Cx} {d : Nat} (hC : mOK X cX11_stranger RX11 "stranger" (some .int) d 0 0) (hd : 10 ≤ d) (hN : ∀ i, i < 5 → i < xN X) (hP : ∀ e ∈ psG, e ∈ xP X) (hT : ∀ e ∈ tsG, e ∈ xT X) (hF : ∀ e ∈ xP X, e ∈ psA) {Q : Int32 → Mem → Prop} {K42 : Nat → Int32 → Int32 → Mem → Prop} (hK42 : ∀ (a2 : Nat) (x3 : Int32) (x4 : Int32) (s : Mem), K42 a2 x3 x4 s → mG X 42 [(0, .ref (xB X + 0)), (2, .ref (xB X + a2)), (3, .int x3), (4, .int x4)] [] s 0 0 (mQ X 0 0 (qI Q))) {a2 : Nat} {x3 : Int32} {x4 : Int32} {σ : Mem} (hw : w_X11_stranger_72 Q K42 a2 x3 x4 σ) : mG X 72 [(0, .ref (xB X + 0)), (2, .ref (xB X + a2)), (3, .int x3), (4, .int x4)] [] σ 0 0 (mQ X 0 0 (qI Q)) := by
  refine g_iinc (v := x4 + 1) (lv' := [(4, .int (x4 + 1)), (0, .ref (xB X + 0)), (2, .ref (xB X + a2)), (3, .int x3)]) hC dX11_stranger_72 rfl rfl (hN 4 (by decide)) rfl ?_
  refine g_goto (tgt := 42) hC dX11_stranger_75 rfl ?_
  refine mG.pick (lv' := [(0, .ref (xB X + 0)), (2, .ref (xB X + a2)), (3, .int x3), (4, .int (x4 + 1))]) [1, 2, 3, 0] rfl ?_
  exact hK42 _ _ _ _ hw
def w_X11_stranger_42 (Q : Int32 → Mem → Prop) : Nat → Nat → Int32 → Int32 → Mem → Prop
  | 0, _, _, _, _ => False
  | n + 1, a2, x3, x4, σ => ((mI σ 0 4) ≤ x4 → (Q x3 σ)) ∧ (¬ (mI σ 0 4) ≤ x4 → (w_X11_layerAt σ x4 (fun o102 s103 => w_X11_laysJustSo s103 o102 a2 (fun v104 s106 => (v104 = 0 → (w_X11_stranger_72 Q (fun z0 z1 z2 z3 => w_X11_stranger_42 Q n z0 z1 z2 z3) a2 x3 x4 s106)) ∧ (¬ v104 = 0 → (∀ v107 : Int32, v107 = (x3 ||| ((1 : Int32) <<< (x4 &&& 31))) → (w_X11_stranger_72 Q (fun z0 z1 z2 z3 => w_X11_stranger_42 Q n z0 z1 z2 z3) a2 v107 x4 s106)))))))
set_option maxRecDepth 4000 in
set_option maxHeartbeats 2000000 in
theorem t_X11_stranger_42 {X : Cx} {d : Nat} (hC : mOK X cX11_stranger RX11 "stranger" (some .int) d 0 0) (hd : 10 ≤ d) (hN : ∀ i, i < 5 → i < xN X) (hP : ∀ e ∈ psG, e ∈ xP X) (hT : ∀ e ∈ tsG, e ∈ xT X) (hF : ∀ e ∈ xP X, e ∈ psA) {Q : Int32 → Mem → Prop} : ∀ (n : Nat) (a2 : Nat) (x3 : Int32) (x4 : Int32) (σ : Mem), w_X11_stranger_42 Q n a2 x3 x4 σ → mG X 42 [(0, .ref (xB X + 0)), (2, .ref (xB X + a2)), (3, .int x3), (4, .int x4)] [] σ 0 0 (mQ X 0 0 (qI Q)) := by
  intro n
  induction n with
  | zero => intro a2 x3 x4 σ hw; exact False.elim hw
  | succ n ih =>
    intro a2 x3 x4 σ hw
    rw [w_X11_stranger_42] at hw
    refine g_iload hC dX11_stranger_42 rfl ?_
    refine g_aload_n hC dX11_stranger_44 rfl ?_
    refine g_getiSv (v := (mI σ 0 4)) hC fl_X11_104_11.s (hT _ tg_G_0) rfl dX11_stranger_45 ?_
    refine g_icmp_ge (tgt := 78) hC dX11_stranger_48 rfl (fun c => ?_) (fun c => ?_)
    · replace hw := hw.1 c
      refine g_iload_n hC dX11_stranger_78 rfl ?_
      exact g_iret hC rfl (by decide) (by decide) dX11_stranger_79 (fun _ => ⟨_, rfl, hw⟩)
    · replace hw := hw.2 c
      refine g_aload_n hC dX11_stranger_51 rfl ?_
      refine g_aload_n hC dX11_stranger_52 rfl ?_
      refine g_iload hC dX11_stranger_53 rfl ?_
      refine g_known (fun hS => ?_)
      refine mG.st (st1 := ([.int x4] : List Value).reverse ++ .ref (xB X + 0) :: [.ref (xB X + 0)]) rfl ?_
      refine g_callV (As := [.int x4]) (st := [.ref (xB X + 0)]) hC (hS.2 _ (hT _ tg_G_0)) (by decide) ycl_11_X11_layerAt yw_X11_layerAt yv_X11_layerAt tw_126 dX11_stranger_55 (fun _ h => h) (fun _ h => h) (fun h => h) (c_X11_layerAt (d := 0) (Nat.le_refl _) hP hT hF hw) rfl (Nat.le_of_ble_eq_true rfl) (by omega) (by decide) (by decide) (kA fun o102 s103 hw => ?_)
      refine g_aload_n hC dX11_stranger_58 rfl ?_
      refine g_known (fun hS => ?_)
      refine mG.st (st1 := ([rq X o102, .ref (xB X + a2)] : List Value).reverse ++ .ref (xB X + 0) :: []) rfl ?_
      refine g_callV (As := [rq X o102, .ref (xB X + a2)]) (st := []) hC (hS.2 _ (hT _ tg_G_0)) (by decide) ycl_11_X11_laysJustSo yw_X11_laysJustSo yv_X11_laysJustSo tw_396 dX11_stranger_59 (fun _ h => h) (fun _ h => h) (fun h => h) (c_X11_laysJustSo (d := 9) (Nat.le_refl _) hP hT hF hw) rfl (Nat.le_of_ble_eq_true rfl) (by omega) (by decide) (by decide) (kI fun v104 s106 hw => ?_)
      refine g_if_eq (tgt := 72) hC dX11_stranger_62 rfl (fun c => ?_) (fun c => ?_)
      · replace hw := hw.1 c
        refine mG.pick (lv' := [(0, .ref (xB X + 0)), (2, .ref (xB X + a2)), (3, .int x3), (4, .int x4)]) [0, 1, 2, 3] rfl ?_
        exact t_X11_stranger_72 hC hd hN hP hT hF ih hw
      · replace hw := hw.2 c
        refine g_iload_n hC dX11_stranger_65 rfl ?_
        refine g_iconst (v := 1) hC dX11_stranger_66 (by decide) ?_
        refine g_iload hC dX11_stranger_67 rfl ?_
        refine g_ishl hC dX11_stranger_69 ?_
        refine g_ior hC dX11_stranger_70 ?_
        refine g_topi (fun v107 ev107 => ?_)
        replace hw := hw v107 ev107
        refine g_istore_n (lv' := [(3, .int v107), (0, .ref (xB X + 0)), (2, .ref (xB X + a2)), (4, .int x4)]) hC dX11_stranger_71 (hN 3 (by decide)) rfl ?_
        refine mG.pick (lv' := [(0, .ref (xB X + 0)), (2, .ref (xB X + a2)), (3, .int v107), (4, .int x4)]) [1, 2, 0, 3] rfl ?_
        exact t_X11_stranger_72 hC hd hN hP hT hF ih hw
def w_X11_stranger (σ : Mem) (x1 : Int32) (Q : Int32 → Mem → Prop) : Prop := w_X11_sheetAt σ x1 (fun o102 s103 => (o102 = none → (Q (-2) s103)) ∧ (∀ r104 : Nat, o102 = some r104 → (mT s103 r104 = some (7, 0) ∧ (w_X7_isMissing s103 r104 (fun v105 s107 => (v105 = 0 → (mT s107 r104 = some (7, 0) ∧ (((mI s107 r104 2) = (mI s107 0 2) → (∃ m108 : Nat, w_X11_stranger_42 Q m108 r104 0 0 s107)) ∧ (¬ (mI s107 r104 2) = (mI s107 0 2) → (Q (-2) s107))))) ∧ (¬ v105 = 0 → (Q (-11) s107)))))))
set_option maxRecDepth 4000 in
set_option maxHeartbeats 2000000 in
theorem t_X11_stranger {X : Cx} {d : Nat} (hC : mOK X cX11_stranger RX11 "stranger" (some .int) d 0 0) (hd : 10 ≤ d) (hN : ∀ i, i < 5 → i < xN X) (hP : ∀ e ∈ psG, e ∈ xP X) (hT : ∀ e ∈ tsG, e ∈ xT X) (hF : ∀ e ∈ xP X, e ∈ psA) {σ : Mem} {x1 : Int32} {Q : Int32 → Mem → Prop} (hw : w_X11_stranger σ x1 Q) : mG X 0 [(0, .ref (xB X + 0)), (1, .int x1)] [] σ 0 0 (mQ X 0 0 (qI Q)) := by
  refine g_aload_n hC dX11_stranger_0 rfl ?_
  refine g_iload_n hC dX11_stranger_1 rfl ?_
  refine g_known (fun hS => ?_)
  refine mG.st (st1 := ([.int x1] : List Value).reverse ++ .ref (xB X + 0) :: []) rfl ?_
  refine g_callV (As := [.int x1]) (st := []) hC (hS.2 _ (hT _ tg_G_0)) (by decide) ycl_11_X11_sheetAt yw_X11_sheetAt yv_X11_sheetAt tw_383 dX11_stranger_2 (fun _ h => h) (fun _ h => h) (fun h => h) (c_X11_sheetAt (d := 0) (Nat.le_refl _) hP hT hF hw) rfl (Nat.le_of_ble_eq_true rfl) (by omega) (by decide) (by decide) (kA fun o102 s103 hw => ?_)
  refine g_astore_nQ (lv' := [(2, rq X o102), (0, .ref (xB X + 0)), (1, .int x1)]) hC dX11_stranger_5 (hN 2 (by decide)) rfl ?_
  refine g_aload_nQ hC dX11_stranger_6 rfl ?_
  rcases o102 with _ | r104
  · replace hw := hw.1 rfl
    refine g_ifnonnullN hC dX11_stranger_7 ?_
    refine g_bipush (v := (-2)) hC dX11_stranger_10 (by decide) ?_
    exact g_iret hC rfl (by decide) (by decide) dX11_stranger_12 (fun _ => ⟨_, rfl, hw⟩)
  · replace hw := hw.2 r104 rfl
    refine g_ifnonnullR (tgt := 13) hC dX11_stranger_7 rfl ?_
    refine g_aload_n hC dX11_stranger_13 rfl ?_
    refine mG.st (st1 := ([] : List Value).reverse ++ .ref (xB X + r104) :: []) rfl ?_
    have hw0 := hw.1
    replace hw := hw.2
    refine g_callV (As := []) (st := []) hC hw0 (by decide) ycl_7_X7_isMissing yw_X7_isMissing yv_X7_isMissing tw_385 dX11_stranger_14 (fun _ h => h) (fun _ h => h) (fun h => h) (c_X7_isMissing (d := 0) (Nat.le_refl _) hw) rfl (Nat.le_of_ble_eq_true rfl) (by omega) (by decide) (by decide) (kI fun v105 s107 hw => ?_)
    refine g_if_eq (tgt := 23) hC dX11_stranger_17 rfl (fun c => ?_) (fun c => ?_)
    · replace hw := hw.1 c
      refine g_aload_n hC dX11_stranger_23 rfl ?_
      refine g_getiv (v := (mI s107 r104 2)) hC fl_X11_293_7.s hw.1 rfl dX11_stranger_24 ?_
      replace hw := hw.2
      refine g_aload_n hC dX11_stranger_27 rfl ?_
      refine g_getiSv (v := (mI s107 0 2)) hC fl_X11_101_11.s (hT _ tg_G_0) rfl dX11_stranger_28 ?_
      refine g_icmp_eq (tgt := 37) hC dX11_stranger_31 rfl (fun c => ?_) (fun c => ?_)
      · replace hw := hw.1 c
        refine g_iconst (v := 0) hC dX11_stranger_37 (by decide) ?_
        refine g_istore_n (lv' := [(3, .int 0), (2, .ref (xB X + r104)), (0, .ref (xB X + 0)), (1, .int x1)]) hC dX11_stranger_38 (hN 3 (by decide)) rfl ?_
        refine g_iconst (v := 0) hC dX11_stranger_39 (by decide) ?_
        refine g_istore (lv' := [(4, .int 0), (3, .int 0), (2, .ref (xB X + r104)), (0, .ref (xB X + 0)), (1, .int x1)]) hC dX11_stranger_40 (hN 4 (by decide)) rfl ?_
        refine mG.pick (lv' := [(0, .ref (xB X + 0)), (2, .ref (xB X + r104)), (3, .int 0), (4, .int 0)]) [3, 2, 1, 0] rfl ?_
        obtain ⟨m108, hw⟩ := hw
        exact t_X11_stranger_42 hC hd hN hP hT hF m108 _ _ _ _ hw
      · replace hw := hw.2 c
        refine g_bipush (v := (-2)) hC dX11_stranger_34 (by decide) ?_
        exact g_iret hC rfl (by decide) (by decide) dX11_stranger_36 (fun _ => ⟨_, rfl, hw⟩)
    · replace hw := hw.2 c
      refine g_bipush (v := (-11)) hC dX11_stranger_20 (by decide) ?_
      exact g_iret hC rfl (by decide) (by decide) dX11_stranger_22 (fun _ => ⟨_, rfl, hw⟩)
set_option maxRecDepth 4000 in
theorem c_X11_stranger {Z : Fx} {ps ts : List (Nat × Nat × Nat)} {d : Nat} (hd : 10 ≤ d) (hP : ∀ e ∈ psG, e ∈ ps) (hT : ∀ e ∈ tsG, e ∈ ts) (hF : ∀ e ∈ ps, e ∈ psA) {σ : Mem} {x1 : Int32} {Q : Int32 → Mem → Prop} (hw : w_X11_stranger σ x1 Q) : mM Z ps ts yX11_stranger cX11_stranger 5 (some .int) d 0 0 [.ref (Z.2.2 + 0), .int x1] σ (qI Q) := by
  refine mM.of (by decide) (Nat.le_of_ble_eq_true rfl) rfl (fun X hZ hp ht hn hC => ?_)
  subst hZ; subst hp; subst ht
  exact t_X11_stranger hC hd (fun i h => by rw [hn]; exact h) hP hT hF hw
def w_X11_mayLie_9 (σ : Mem) (x2 : Int32) (x3 : Int32) (Q : Int32 → Mem → Prop) : Prop := w_X1_has_9 σ x2 (fun v101 s103 => (¬ v101 = 0 → (w_X1_heightOf_9 s103 x2 (fun v104 s106 => (¬ v104 = 0 → (((mI s106 8 2) ≤ v104 → (Q 0 s106)) ∧ (¬ (mI s106 8 2) ≤ v104 → (w_X1_topOf_9 s106 x2 (fun v107 s109 => w_X11_worth s109 0 x3 v107 v104 x2 (fun v110 s112 => (v110 = 0 → (Q 0 s112)) ∧ (¬ v110 = 0 → (Q 1 s112)))))))) ∧ (v104 = 0 → (Q 1 s106))))) ∧ (v101 = 0 → (Q 0 s103)))
set_option maxRecDepth 4000 in
set_option maxHeartbeats 2000000 in
theorem t_X11_mayLie_9 {X : Cx} {d : Nat} (hC : mOK X cX11_mayLie RX11 "mayLie" (some .boolean) d 0 0) (hd : 3 ≤ d) (hN : ∀ i, i < 5 → i < xN X) (hP : ∀ e ∈ psG, e ∈ xP X) (hT : ∀ e ∈ tsG, e ∈ xT X) (hF : ∀ e ∈ xP X, e ∈ psA) {σ : Mem} {x2 : Int32} {x3 : Int32} {Q : Int32 → Mem → Prop} (hw : w_X11_mayLie_9 σ x2 x3 Q) : mG X 0 [(0, .ref (xB X + 0)), (1, .ref (xB X + 9)), (2, .int x2), (3, .int x3)] [] σ 0 0 (mQ X 0 0 (qI Q)) := by
  refine g_aload_n hC dX11_mayLie_0 rfl ?_
  refine g_iload_n hC dX11_mayLie_1 rfl ?_
  refine g_known (fun hS => ?_)
  refine mG.st (st1 := ([.int x2] : List Value).reverse ++ .ref (xB X + 9) :: []) rfl ?_
  refine g_callV (As := [.int x2]) (st := []) hC (hS.2 _ (hT _ tg_G_9)) (by decide) ycl_1_X1_has yw_X1_has yv_X1_has tw_254 dX11_mayLie_2 (fun _ h => h) (fun _ h => h) (fun h => h) (c_X1_has_9 (d := 0) (Nat.le_refl _) hP hT hF hw) rfl (Nat.le_of_ble_eq_true rfl) (by omega) (by decide) (by decide) (kI fun v101 s103 hw => ?_)
  refine g_if_ne (tgt := 10) hC dX11_mayLie_5 rfl (fun c => ?_) (fun c => ?_)
  · replace hw := hw.1 c
    refine g_aload_n hC dX11_mayLie_10 rfl ?_
    refine g_iload_n hC dX11_mayLie_11 rfl ?_
    refine g_known (fun hS => ?_)
    refine mG.st (st1 := ([.int x2] : List Value).reverse ++ .ref (xB X + 9) :: []) rfl ?_
    refine g_callV (As := [.int x2]) (st := []) hC (hS.2 _ (hT _ tg_G_9)) (by decide) ycl_1_X1_heightOf yw_X1_heightOf yv_X1_heightOf tw_255 dX11_mayLie_12 (fun _ h => h) (fun _ h => h) (fun h => h) (c_X1_heightOf_9 (d := 0) (Nat.le_refl _) hP hT hF hw) rfl (Nat.le_of_ble_eq_true rfl) (by omega) (by decide) (by decide) (kI fun v104 s106 hw => ?_)
    refine g_istore (lv' := [(4, .int v104), (0, .ref (xB X + 0)), (1, .ref (xB X + 9)), (2, .int x2), (3, .int x3)]) hC dX11_mayLie_15 (hN 4 (by decide)) rfl ?_
    refine g_iload hC dX11_mayLie_17 rfl ?_
    refine g_if_ne (tgt := 24) hC dX11_mayLie_19 rfl (fun c => ?_) (fun c => ?_)
    · replace hw := hw.1 c
      refine g_iload hC dX11_mayLie_24 rfl ?_
      refine g_aload_n hC dX11_mayLie_26 rfl ?_
      refine g_getrS hC fl_X11_38_11.s (hT _ tg_G_0) (hP _ pt_G_0_8) dX11_mayLie_27 ?_
      refine g_getiSv (v := (mI s106 8 2)) hC fl_X11_118_9.s (hT _ tg_G_8) rfl dX11_mayLie_30 ?_
      refine g_icmp_ge (tgt := 57) hC dX11_mayLie_33 rfl (fun c => ?_) (fun c => ?_)
      · replace hw := hw.1 c
        refine g_iconst (v := 0) hC dX11_mayLie_57 (by decide) ?_
        exact g_iret hC bz0 (by decide) (by decide) dX11_mayLie_58 (fun _ => ⟨_, rfl, hw⟩)
      · replace hw := hw.2 c
        refine g_aload_n hC dX11_mayLie_36 rfl ?_
        refine g_iconst (v := 0) hC dX11_mayLie_37 (by decide) ?_
        refine g_iload_n hC dX11_mayLie_38 rfl ?_
        refine g_aload_n hC dX11_mayLie_39 rfl ?_
        refine g_iload_n hC dX11_mayLie_40 rfl ?_
        refine g_known (fun hS => ?_)
        refine mG.st (st1 := ([.int x2] : List Value).reverse ++ .ref (xB X + 9) :: [.int x3, .int 0, .ref (xB X + 0)]) rfl ?_
        refine g_callV (As := [.int x2]) (st := [.int x3, .int 0, .ref (xB X + 0)]) hC (hS.2 _ (hT _ tg_G_9)) (by decide) ycl_1_X1_topOf yw_X1_topOf yv_X1_topOf tw_257 dX11_mayLie_41 (fun _ h => h) (fun _ h => h) (fun h => h) (c_X1_topOf_9 (d := 1) (Nat.le_refl _) hP hT hF hw) rfl (Nat.le_of_ble_eq_true rfl) (by omega) (by decide) (by decide) (kI fun v107 s109 hw => ?_)
        refine g_iload hC dX11_mayLie_44 rfl ?_
        refine g_iload_n hC dX11_mayLie_46 rfl ?_
        refine g_known (fun hS => ?_)
        refine mG.st (st1 := ([.int 0, .int x3, .int v107, .int v104, .int x2] : List Value).reverse ++ .ref (xB X + 0) :: []) rfl ?_
        refine g_callV (As := [.int 0, .int x3, .int v107, .int v104, .int x2]) (st := []) hC (hS.2 _ (hT _ tg_G_0)) (by decide) ycl_11_X11_worth yw_X11_worth yv_X11_worth tw_92 dX11_mayLie_47 (fun _ h => h) (fun _ h => h) (fun h => h) (c_X11_worth (d := 2) (Nat.le_refl _) hP hT hF hw) rfl (Nat.le_of_ble_eq_true rfl) (by omega) (by decide) (by decide) (kI fun v110 s112 hw => ?_)
        refine g_if_eq (tgt := 57) hC dX11_mayLie_50 rfl (fun c => ?_) (fun c => ?_)
        · replace hw := hw.1 c
          refine g_iconst (v := 0) hC dX11_mayLie_57 (by decide) ?_
          exact g_iret hC bz0 (by decide) (by decide) dX11_mayLie_58 (fun _ => ⟨_, rfl, hw⟩)
        · replace hw := hw.2 c
          refine g_iconst (v := 1) hC dX11_mayLie_53 (by decide) ?_
          refine g_goto (tgt := 58) hC dX11_mayLie_54 rfl ?_
          exact g_iret hC bz1 (by decide) (by decide) dX11_mayLie_58 (fun _ => ⟨_, rfl, hw⟩)
    · replace hw := hw.2 c
      refine g_iconst (v := 1) hC dX11_mayLie_22 (by decide) ?_
      exact g_iret hC bz1 (by decide) (by decide) dX11_mayLie_23 (fun _ => ⟨_, rfl, hw⟩)
  · replace hw := hw.2 c
    refine g_iconst (v := 0) hC dX11_mayLie_8 (by decide) ?_
    exact g_iret hC bz0 (by decide) (by decide) dX11_mayLie_9 (fun _ => ⟨_, rfl, hw⟩)
set_option maxRecDepth 4000 in
theorem c_X11_mayLie_9 {Z : Fx} {ps ts : List (Nat × Nat × Nat)} {d : Nat} (hd : 3 ≤ d) (hP : ∀ e ∈ psG, e ∈ ps) (hT : ∀ e ∈ tsG, e ∈ ts) (hF : ∀ e ∈ ps, e ∈ psA) {σ : Mem} {x2 : Int32} {x3 : Int32} {Q : Int32 → Mem → Prop} (hw : w_X11_mayLie_9 σ x2 x3 Q) : mM Z ps ts yX11_mayLie cX11_mayLie 5 (some .boolean) d 0 0 [.ref (Z.2.2 + 0), .ref (Z.2.2 + 9), .int x2, .int x3] σ (qI Q) := by
  refine mM.of (by decide) (Nat.le_of_ble_eq_true rfl) rfl (fun X hZ hp ht hn hC => ?_)
  subst hZ; subst hp; subst ht
  exact t_X11_mayLie_9 hC hd (fun i h => by rw [hn]; exact h) hP hT hF hw
def w_X11_rankOf_d_9 (σ : Mem) (a1 : Nat) (x3 : Int32) (x4 : Int32) (Q : Int32 → Mem → Prop) : Prop := w_X1_topOf_9 σ x3 (fun v101 s103 => w_X11_isPlate s103 v101 (fun v104 s106 => (v104 = 0 → (Q 1000 s106)) ∧ (¬ v104 = 0 → (w_X11_isPlate s106 x4 (fun v107 s109 => (¬ v107 = 0 → (vp_in v101 8 ∧ (vp_in x4 8 ∧ (w_X1_heightOf_9 s109 x3 (fun v110 s112 => wD_rank s112 a1 x3 (mI s109 1 (Int32.toNatClampNeg v101)) (mI s109 1 (Int32.toNatClampNeg x4)) v110 (fun v113 s115 => Q v113 s115)))))) ∧ (v107 = 0 → (Q 1000 s109)))))))
set_option maxRecDepth 4000 in
set_option maxHeartbeats 2000000 in
theorem t_X11_rankOf_d_9 {X : Cx} {d : Nat} (hC : mOK X cX11_rankOf RX11 "rankOf" (some .int) d 0 0) (hd : 6 ≤ d) (hN : ∀ i, i < 6 → i < xN X) (hP : ∀ e ∈ psG, e ∈ xP X) (hT : ∀ e ∈ tsG, e ∈ xT X) (hF : ∀ e ∈ xP X, e ∈ psA) {σ : Mem} {a1 : Nat} {x3 : Int32} {x4 : Int32} {Q : Int32 → Mem → Prop} (hw : w_X11_rankOf_d_9 σ a1 x3 x4 Q) : mG X 0 [(0, .ref (xB X + 0)), (1, .ref (xB X + a1)), (2, .ref (xB X + 9)), (3, .int x3), (4, .int x4)] [] σ 0 0 (mQ X 0 0 (qI Q)) := by
  refine g_aload_n hC dX11_rankOf_0 rfl ?_
  refine g_iload_n hC dX11_rankOf_1 rfl ?_
  refine g_known (fun hS => ?_)
  refine mG.st (st1 := ([.int x3] : List Value).reverse ++ .ref (xB X + 9) :: []) rfl ?_
  refine g_callV (As := [.int x3]) (st := []) hC (hS.2 _ (hT _ tg_G_9)) (by decide) ycl_1_X1_topOf yw_X1_topOf yv_X1_topOf tw_257 dX11_rankOf_2 (fun _ h => h) (fun _ h => h) (fun h => h) (c_X1_topOf_9 (d := 1) (Nat.le_refl _) hP hT hF hw) rfl (Nat.le_of_ble_eq_true rfl) (by omega) (by decide) (by decide) (kI fun v101 s103 hw => ?_)
  refine g_istore (lv' := [(5, .int v101), (0, .ref (xB X + 0)), (1, .ref (xB X + a1)), (2, .ref (xB X + 9)), (3, .int x3), (4, .int x4)]) hC dX11_rankOf_5 (hN 5 (by decide)) rfl ?_
  refine g_aload_n hC dX11_rankOf_7 rfl ?_
  refine g_iload hC dX11_rankOf_8 rfl ?_
  refine g_known (fun hS => ?_)
  refine mG.st (st1 := ([.int v101] : List Value).reverse ++ .ref (xB X + 0) :: []) rfl ?_
  refine g_callV (As := [.int v101]) (st := []) hC (hS.2 _ (hT _ tg_G_0)) (by decide) ycl_11_X11_isPlate yw_X11_isPlate yv_X11_isPlate tw_82 dX11_rankOf_10 (fun _ h => h) (fun _ h => h) (fun h => h) (c_X11_isPlate (d := 0) (Nat.le_refl _) hP hT hF hw) rfl (Nat.le_of_ble_eq_true rfl) (by omega) (by decide) (by decide) (kI fun v104 s106 hw => ?_)
  refine g_if_eq (tgt := 25) hC dX11_rankOf_13 rfl (fun c => ?_) (fun c => ?_)
  · replace hw := hw.1 c
    refine g_sipush (v := 1000) hC dX11_rankOf_25 (by decide) ?_
    exact g_iret hC rfl (by decide) (by decide) dX11_rankOf_28 (fun _ => ⟨_, rfl, hw⟩)
  · replace hw := hw.2 c
    refine g_aload_n hC dX11_rankOf_16 rfl ?_
    refine g_iload hC dX11_rankOf_17 rfl ?_
    refine g_known (fun hS => ?_)
    refine mG.st (st1 := ([.int x4] : List Value).reverse ++ .ref (xB X + 0) :: []) rfl ?_
    refine g_callV (As := [.int x4]) (st := []) hC (hS.2 _ (hT _ tg_G_0)) (by decide) ycl_11_X11_isPlate yw_X11_isPlate yv_X11_isPlate tw_82 dX11_rankOf_19 (fun _ h => h) (fun _ h => h) (fun h => h) (c_X11_isPlate (d := 0) (Nat.le_refl _) hP hT hF hw) rfl (Nat.le_of_ble_eq_true rfl) (by omega) (by decide) (by decide) (kI fun v107 s109 hw => ?_)
    refine g_if_ne (tgt := 29) hC dX11_rankOf_22 rfl (fun c => ?_) (fun c => ?_)
    · replace hw := hw.1 c
      refine g_aload_n hC dX11_rankOf_29 rfl ?_
      refine g_iload_n hC dX11_rankOf_30 rfl ?_
      refine g_aload_n hC dX11_rankOf_31 rfl ?_
      refine g_getrS hC fl_X11_9_11.s (hT _ tg_G_0) (hP _ pt_G_0_0) dX11_rankOf_32 ?_
      refine g_iload hC dX11_rankOf_35 rfl ?_
      refine g_ialdSv (v := (mI s109 1 (Int32.toNatClampNeg v101))) hC (hT _ tg_G_1) rfl hw.1 rfl dX11_rankOf_37 ?_
      replace hw := hw.2
      refine g_aload_n hC dX11_rankOf_38 rfl ?_
      refine g_getrS hC fl_X11_9_11.s (hT _ tg_G_0) (hP _ pt_G_0_0) dX11_rankOf_39 ?_
      refine g_iload hC dX11_rankOf_42 rfl ?_
      refine g_ialdSv (v := (mI s109 1 (Int32.toNatClampNeg x4))) hC (hT _ tg_G_1) rfl hw.1 rfl dX11_rankOf_44 ?_
      replace hw := hw.2
      refine g_aload_n hC dX11_rankOf_45 rfl ?_
      refine g_iload_n hC dX11_rankOf_46 rfl ?_
      refine g_known (fun hS => ?_)
      refine mG.st (st1 := ([.int x3] : List Value).reverse ++ .ref (xB X + 9) :: [.int (mI s109 1 (Int32.toNatClampNeg x4)), .int (mI s109 1 (Int32.toNatClampNeg v101)), .int x3, .ref (xB X + a1)]) rfl ?_
      refine g_callV (As := [.int x3]) (st := [.int (mI s109 1 (Int32.toNatClampNeg x4)), .int (mI s109 1 (Int32.toNatClampNeg v101)), .int x3, .ref (xB X + a1)]) hC (hS.2 _ (hT _ tg_G_9)) (by decide) ycl_1_X1_heightOf yw_X1_heightOf yv_X1_heightOf tw_255 dX11_rankOf_47 (fun _ h => h) (fun _ h => h) (fun h => h) (c_X1_heightOf_9 (d := 0) (Nat.le_refl _) hP hT hF hw) rfl (Nat.le_of_ble_eq_true rfl) (by omega) (by decide) (by decide) (kI fun v110 s112 hw => ?_)
      refine mG.st (st1 := ([.int x3, .int (mI s109 1 (Int32.toNatClampNeg v101)), .int (mI s109 1 (Int32.toNatClampNeg x4)), .int v110] : List Value).reverse ++ .ref (xB X + a1) :: []) rfl ?_
      refine g_rankD hC hw tw_270 (Nat.le_of_ble_eq_true rfl) (by omega) (by omega) (by omega) dX11_rankOf_50 (kI fun v113 s115 hw => ?_)
      exact g_iret hC rfl (by decide) (by decide) dX11_rankOf_53 (fun _ => ⟨_, rfl, hw⟩)
    · replace hw := hw.2 c
      refine g_sipush (v := 1000) hC dX11_rankOf_25 (by decide) ?_
      exact g_iret hC rfl (by decide) (by decide) dX11_rankOf_28 (fun _ => ⟨_, rfl, hw⟩)
set_option maxRecDepth 4000 in
theorem c_X11_rankOf_d_9 {Z : Fx} {ps ts : List (Nat × Nat × Nat)} {d : Nat} (hd : 6 ≤ d) (hP : ∀ e ∈ psG, e ∈ ps) (hT : ∀ e ∈ tsG, e ∈ ts) (hF : ∀ e ∈ ps, e ∈ psA) {σ : Mem} {a1 : Nat} {x3 : Int32} {x4 : Int32} {Q : Int32 → Mem → Prop} (hw : w_X11_rankOf_d_9 σ a1 x3 x4 Q) : mM Z ps ts yX11_rankOf cX11_rankOf 6 (some .int) d 0 0 [.ref (Z.2.2 + 0), .ref (Z.2.2 + a1), .ref (Z.2.2 + 9), .int x3, .int x4] σ (qI Q) := by
  refine mM.of (by decide) (Nat.le_of_ble_eq_true rfl) rfl (fun X hZ hp ht hn hC => ?_)
  subst hZ; subst hp; subst ht
  exact t_X11_rankOf_d_9 hC hd (fun i h => by rw [hn]; exact h) hP hT hF hw
def w_X11_chosenBy_d_9_64 (Q : Int32 → Mem → Prop) (K9 : Nat → Int32 → Int32 → Int32 → Int32 → Mem → Prop) (a1 : Nat) (x3 : Int32) (x4 : Int32) (x5 : Int32) (x6 : Int32) (σ : Mem) : Prop := K9 a1 x3 x4 x5 (x6 + 1) σ
set_option maxRecDepth 4000 in
set_option maxHeartbeats 2000000 in
theorem t_X11_chosenBy_d_9_64 {X : Cx} {d : Nat} (hC : mOK X cX11_chosenBy RX11 "chosenBy" (some .int) d 0 0) (hd : 7 ≤ d) (hN : ∀ i, i < 8 → i < xN X) (hP : ∀ e ∈ psG, e ∈ xP X) (hT : ∀ e ∈ tsG, e ∈ xT X) (hF : ∀ e ∈ xP X, e ∈ psA) {Q : Int32 → Mem → Prop} {K9 : Nat → Int32 → Int32 → Int32 → Int32 → Mem → Prop} (hK9 : ∀ (a1 : Nat) (x3 : Int32) (x4 : Int32) (x5 : Int32) (x6 : Int32) (s : Mem), K9 a1 x3 x4 x5 x6 s → mG X 9 [(0, .ref (xB X + 0)), (1, .ref (xB X + a1)), (2, .ref (xB X + 9)), (3, .int x3), (4, .int x4), (5, .int x5), (6, .int x6)] [] s 0 0 (mQ X 0 0 (qI Q))) {a1 : Nat} {x3 : Int32} {x4 : Int32} {x5 : Int32} {x6 : Int32} {σ : Mem} (hw : w_X11_chosenBy_d_9_64 Q K9 a1 x3 x4 x5 x6 σ) : mG X 64 [(0, .ref (xB X + 0)), (1, .ref (xB X + a1)), (2, .ref (xB X + 9)), (3, .int x3), (4, .int x4), (5, .int x5), (6, .int x6)] [] σ 0 0 (mQ X 0 0 (qI Q)) := by
  refine g_iinc (v := x6 + 1) (lv' := [(6, .int (x6 + 1)), (0, .ref (xB X + 0)), (1, .ref (xB X + a1)), (2, .ref (xB X + 9)), (3, .int x3), (4, .int x4), (5, .int x5)]) hC dX11_chosenBy_64 rfl rfl (hN 6 (by decide)) rfl ?_
  refine g_goto (tgt := 9) hC dX11_chosenBy_67 rfl ?_
  refine mG.pick (lv' := [(0, .ref (xB X + 0)), (1, .ref (xB X + a1)), (2, .ref (xB X + 9)), (3, .int x3), (4, .int x4), (5, .int x5), (6, .int (x6 + 1))]) [1, 2, 3, 4, 5, 6, 0] rfl ?_
  exact hK9 _ _ _ _ _ _ hw
def w_X11_chosenBy_d_9_56 (Q : Int32 → Mem → Prop) (K9 : Nat → Int32 → Int32 → Int32 → Int32 → Mem → Prop) (a1 : Nat) (x3 : Int32) (x6 : Int32) (x7 : Int32) (σ : Mem) : Prop := w_X11_chosenBy_d_9_64 Q K9 a1 x3 x6 x7 x6 σ
set_option maxRecDepth 4000 in
set_option maxHeartbeats 2000000 in
theorem t_X11_chosenBy_d_9_56 {X : Cx} {d : Nat} (hC : mOK X cX11_chosenBy RX11 "chosenBy" (some .int) d 0 0) (hd : 7 ≤ d) (hN : ∀ i, i < 8 → i < xN X) (hP : ∀ e ∈ psG, e ∈ xP X) (hT : ∀ e ∈ tsG, e ∈ xT X) (hF : ∀ e ∈ xP X, e ∈ psA) {Q : Int32 → Mem → Prop} {K9 : Nat → Int32 → Int32 → Int32 → Int32 → Mem → Prop} (hK9 : ∀ (a1 : Nat) (x3 : Int32) (x4 : Int32) (x5 : Int32) (x6 : Int32) (s : Mem), K9 a1 x3 x4 x5 x6 s → mG X 9 [(0, .ref (xB X + 0)), (1, .ref (xB X + a1)), (2, .ref (xB X + 9)), (3, .int x3), (4, .int x4), (5, .int x5), (6, .int x6)] [] s 0 0 (mQ X 0 0 (qI Q))) {a1 : Nat} {x3 : Int32} {x6 : Int32} {x7 : Int32} {σ : Mem} (hw : w_X11_chosenBy_d_9_56 Q K9 a1 x3 x6 x7 σ) : mG X 56 [(0, .ref (xB X + 0)), (1, .ref (xB X + a1)), (2, .ref (xB X + 9)), (3, .int x3), (6, .int x6), (7, .int x7)] [] σ 0 0 (mQ X 0 0 (qI Q)) := by
  refine g_iload hC dX11_chosenBy_56 rfl ?_
  refine g_istore (lv' := [(4, .int x6), (0, .ref (xB X + 0)), (1, .ref (xB X + a1)), (2, .ref (xB X + 9)), (3, .int x3), (6, .int x6), (7, .int x7)]) hC dX11_chosenBy_58 (hN 4 (by decide)) rfl ?_
  refine g_iload hC dX11_chosenBy_60 rfl ?_
  refine g_istore (lv' := [(5, .int x7), (4, .int x6), (0, .ref (xB X + 0)), (1, .ref (xB X + a1)), (2, .ref (xB X + 9)), (3, .int x3), (6, .int x6), (7, .int x7)]) hC dX11_chosenBy_62 (hN 5 (by decide)) rfl ?_
  refine mG.pick (lv' := [(0, .ref (xB X + 0)), (1, .ref (xB X + a1)), (2, .ref (xB X + 9)), (3, .int x3), (4, .int x6), (5, .int x7), (6, .int x6)]) [2, 3, 4, 5, 1, 0, 6] rfl ?_
  exact t_X11_chosenBy_d_9_64 hC hd hN hP hT hF hK9 hw
def w_X11_chosenBy_d_9_9 (Q : Int32 → Mem → Prop) : Nat → Nat → Int32 → Int32 → Int32 → Int32 → Mem → Prop
  | 0, _, _, _, _, _, _ => False
  | n + 1, a1, x3, x4, x5, x6, σ => ((mI σ 9 2) ≤ x6 → ((x4 = (-1) → (Q (mI σ 9 2) σ)) ∧ (¬ x4 = (-1) → (wD_likes σ a1 x5 (mI σ 9 2) (fun v101 s103 => (v101 = 0 → (Q x4 s103)) ∧ (¬ v101 = 0 → (Q (mI s103 9 2) s103))))))) ∧ (¬ (mI σ 9 2) ≤ x6 → (w_X11_mayLie_9 σ x6 x3 (fun v104 s106 => (¬ v104 = 0 → (w_X11_rankOf_d_9 s106 a1 x6 x3 (fun v107 s109 => (x4 = (-1) → (w_X11_chosenBy_d_9_56 Q (fun z0 z1 z2 z3 z4 z5 => w_X11_chosenBy_d_9_9 Q n z0 z1 z2 z3 z4 z5) a1 x3 x6 v107 s109)) ∧ (¬ x4 = (-1) → ((x5 ≤ v107 → (w_X11_chosenBy_d_9_64 Q (fun z0 z1 z2 z3 z4 z5 => w_X11_chosenBy_d_9_9 Q n z0 z1 z2 z3 z4 z5) a1 x3 x4 x5 x6 s109)) ∧ (¬ x5 ≤ v107 → (w_X11_chosenBy_d_9_56 Q (fun z0 z1 z2 z3 z4 z5 => w_X11_chosenBy_d_9_9 Q n z0 z1 z2 z3 z4 z5) a1 x3 x6 v107 s109))))))) ∧ (v104 = 0 → (w_X11_chosenBy_d_9_64 Q (fun z0 z1 z2 z3 z4 z5 => w_X11_chosenBy_d_9_9 Q n z0 z1 z2 z3 z4 z5) a1 x3 x4 x5 x6 s106)))))
set_option maxRecDepth 4000 in
set_option maxHeartbeats 2000000 in
theorem t_X11_chosenBy_d_9_9 {X : Cx} {d : Nat} (hC : mOK X cX11_chosenBy RX11 "chosenBy" (some .int) d 0 0) (hd : 7 ≤ d) (hN : ∀ i, i < 8 → i < xN X) (hP : ∀ e ∈ psG, e ∈ xP X) (hT : ∀ e ∈ tsG, e ∈ xT X) (hF : ∀ e ∈ xP X, e ∈ psA) {Q : Int32 → Mem → Prop} : ∀ (n : Nat) (a1 : Nat) (x3 : Int32) (x4 : Int32) (x5 : Int32) (x6 : Int32) (σ : Mem), w_X11_chosenBy_d_9_9 Q n a1 x3 x4 x5 x6 σ → mG X 9 [(0, .ref (xB X + 0)), (1, .ref (xB X + a1)), (2, .ref (xB X + 9)), (3, .int x3), (4, .int x4), (5, .int x5), (6, .int x6)] [] σ 0 0 (mQ X 0 0 (qI Q)) := by
  intro n
  induction n with
  | zero => intro a1 x3 x4 x5 x6 σ hw; exact False.elim hw
  | succ n ih =>
    intro a1 x3 x4 x5 x6 σ hw
    rw [w_X11_chosenBy_d_9_9] at hw
    refine g_iload hC dX11_chosenBy_9 rfl ?_
    refine g_aload_n hC dX11_chosenBy_11 rfl ?_
    refine g_getiSv (v := (mI σ 9 2)) hC fl_X11_185_1.s (hT _ tg_G_9) rfl dX11_chosenBy_12 ?_
    refine g_icmp_ge (tgt := 70) hC dX11_chosenBy_15 rfl (fun c => ?_) (fun c => ?_)
    · replace hw := hw.1 c
      refine g_iload hC dX11_chosenBy_70 rfl ?_
      refine g_iconst (v := (-1)) hC dX11_chosenBy_72 (by decide) ?_
      refine g_icmp_eq (tgt := 89) hC dX11_chosenBy_73 rfl (fun c => ?_) (fun c => ?_)
      · replace hw := hw.1 c
        refine g_aload_n hC dX11_chosenBy_89 rfl ?_
        refine g_getiSv (v := (mI σ 9 2)) hC fl_X11_185_1.s (hT _ tg_G_9) rfl dX11_chosenBy_90 ?_
        exact g_iret hC rfl (by decide) (by decide) dX11_chosenBy_93 (fun _ => ⟨_, rfl, hw⟩)
      · replace hw := hw.2 c
        refine g_aload_n hC dX11_chosenBy_76 rfl ?_
        refine g_iload hC dX11_chosenBy_77 rfl ?_
        refine g_aload_n hC dX11_chosenBy_79 rfl ?_
        refine g_getiSv (v := (mI σ 9 2)) hC fl_X11_185_1.s (hT _ tg_G_9) rfl dX11_chosenBy_80 ?_
        refine mG.st (st1 := ([.int x5, .int (mI σ 9 2)] : List Value).reverse ++ .ref (xB X + a1) :: []) rfl ?_
        refine g_likesD hC hw tw_252 (Nat.le_of_ble_eq_true rfl) (by omega) (by omega) (by omega) dX11_chosenBy_83 (kI fun v101 s103 hw => ?_)
        refine g_if_eq (tgt := 94) hC dX11_chosenBy_86 rfl (fun c => ?_) (fun c => ?_)
        · replace hw := hw.1 c
          refine g_iload hC dX11_chosenBy_94 rfl ?_
          exact g_iret hC rfl (by decide) (by decide) dX11_chosenBy_96 (fun _ => ⟨_, rfl, hw⟩)
        · replace hw := hw.2 c
          refine g_aload_n hC dX11_chosenBy_89 rfl ?_
          refine g_getiSv (v := (mI s103 9 2)) hC fl_X11_185_1.s (hT _ tg_G_9) rfl dX11_chosenBy_90 ?_
          exact g_iret hC rfl (by decide) (by decide) dX11_chosenBy_93 (fun _ => ⟨_, rfl, hw⟩)
    · replace hw := hw.2 c
      refine g_aload_n hC dX11_chosenBy_18 rfl ?_
      refine g_aload_n hC dX11_chosenBy_19 rfl ?_
      refine g_iload hC dX11_chosenBy_20 rfl ?_
      refine g_iload_n hC dX11_chosenBy_22 rfl ?_
      refine g_known (fun hS => ?_)
      refine mG.st (st1 := ([.ref (xB X + 9), .int x6, .int x3] : List Value).reverse ++ .ref (xB X + 0) :: []) rfl ?_
      refine g_callV (As := [.ref (xB X + 9), .int x6, .int x3]) (st := []) hC (hS.2 _ (hT _ tg_G_0)) (by decide) ycl_11_X11_mayLie yw_X11_mayLie yv_X11_mayLie tw_253 dX11_chosenBy_23 (fun _ h => h) (fun _ h => h) (fun h => h) (c_X11_mayLie_9 (d := 3) (Nat.le_refl _) hP hT hF hw) rfl (Nat.le_of_ble_eq_true rfl) (by omega) (by decide) (by decide) (kI fun v104 s106 hw => ?_)
      refine g_if_ne (tgt := 32) hC dX11_chosenBy_26 rfl (fun c => ?_) (fun c => ?_)
      · replace hw := hw.1 c
        refine g_aload_n hC dX11_chosenBy_32 rfl ?_
        refine g_aload_n hC dX11_chosenBy_33 rfl ?_
        refine g_aload_n hC dX11_chosenBy_34 rfl ?_
        refine g_iload hC dX11_chosenBy_35 rfl ?_
        refine g_iload_n hC dX11_chosenBy_37 rfl ?_
        refine g_known (fun hS => ?_)
        refine mG.st (st1 := ([.ref (xB X + a1), .ref (xB X + 9), .int x6, .int x3] : List Value).reverse ++ .ref (xB X + 0) :: []) rfl ?_
        refine g_callV (As := [.ref (xB X + a1), .ref (xB X + 9), .int x6, .int x3]) (st := []) hC (hS.2 _ (hT _ tg_G_0)) (by decide) ycl_11_X11_rankOf yw_X11_rankOf yv_X11_rankOf tw_269 dX11_chosenBy_38 (fun _ h => h) (fun _ h => h) (fun h => h) (c_X11_rankOf_d_9 (d := 6) (Nat.le_refl _) hP hT hF hw) rfl (Nat.le_of_ble_eq_true rfl) (by omega) (by decide) (by decide) (kI fun v107 s109 hw => ?_)
        refine g_istore (lv' := [(7, .int v107), (0, .ref (xB X + 0)), (1, .ref (xB X + a1)), (2, .ref (xB X + 9)), (3, .int x3), (4, .int x4), (5, .int x5), (6, .int x6)]) hC dX11_chosenBy_41 (hN 7 (by decide)) rfl ?_
        refine g_iload hC dX11_chosenBy_43 rfl ?_
        refine g_iconst (v := (-1)) hC dX11_chosenBy_45 (by decide) ?_
        refine g_icmp_eq (tgt := 56) hC dX11_chosenBy_46 rfl (fun c => ?_) (fun c => ?_)
        · replace hw := hw.1 c
          refine mG.pick (lv' := [(0, .ref (xB X + 0)), (1, .ref (xB X + a1)), (2, .ref (xB X + 9)), (3, .int x3), (6, .int x6), (7, .int v107)]) [1, 2, 3, 4, 7, 0] rfl ?_
          exact t_X11_chosenBy_d_9_56 hC hd hN hP hT hF ih hw
        · replace hw := hw.2 c
          refine g_iload hC dX11_chosenBy_49 rfl ?_
          refine g_iload hC dX11_chosenBy_51 rfl ?_
          refine g_icmp_ge (tgt := 64) hC dX11_chosenBy_53 rfl (fun c => ?_) (fun c => ?_)
          · replace hw := hw.1 c
            refine mG.pick (lv' := [(0, .ref (xB X + 0)), (1, .ref (xB X + a1)), (2, .ref (xB X + 9)), (3, .int x3), (4, .int x4), (5, .int x5), (6, .int x6)]) [1, 2, 3, 4, 5, 6, 7] rfl ?_
            exact t_X11_chosenBy_d_9_64 hC hd hN hP hT hF ih hw
          · replace hw := hw.2 c
            refine mG.pick (lv' := [(0, .ref (xB X + 0)), (1, .ref (xB X + a1)), (2, .ref (xB X + 9)), (3, .int x3), (6, .int x6), (7, .int v107)]) [1, 2, 3, 4, 7, 0] rfl ?_
            exact t_X11_chosenBy_d_9_56 hC hd hN hP hT hF ih hw
      · replace hw := hw.2 c
        refine g_goto (tgt := 64) hC dX11_chosenBy_29 rfl ?_
        refine mG.pick (lv' := [(0, .ref (xB X + 0)), (1, .ref (xB X + a1)), (2, .ref (xB X + 9)), (3, .int x3), (4, .int x4), (5, .int x5), (6, .int x6)]) [0, 1, 2, 3, 4, 5, 6] rfl ?_
        exact t_X11_chosenBy_d_9_64 hC hd hN hP hT hF ih hw
def w_X11_chosenBy_d_9 (σ : Mem) (a1 : Nat) (x3 : Int32) (Q : Int32 → Mem → Prop) : Prop := ∃ m101 : Nat, w_X11_chosenBy_d_9_9 Q m101 a1 x3 (-1) 0 0 σ
set_option maxRecDepth 4000 in
set_option maxHeartbeats 2000000 in
theorem t_X11_chosenBy_d_9 {X : Cx} {d : Nat} (hC : mOK X cX11_chosenBy RX11 "chosenBy" (some .int) d 0 0) (hd : 7 ≤ d) (hN : ∀ i, i < 8 → i < xN X) (hP : ∀ e ∈ psG, e ∈ xP X) (hT : ∀ e ∈ tsG, e ∈ xT X) (hF : ∀ e ∈ xP X, e ∈ psA) {σ : Mem} {a1 : Nat} {x3 : Int32} {Q : Int32 → Mem → Prop} (hw : w_X11_chosenBy_d_9 σ a1 x3 Q) : mG X 0 [(0, .ref (xB X + 0)), (1, .ref (xB X + a1)), (2, .ref (xB X + 9)), (3, .int x3)] [] σ 0 0 (mQ X 0 0 (qI Q)) := by
  refine g_iconst (v := (-1)) hC dX11_chosenBy_0 (by decide) ?_
  refine g_istore (lv' := [(4, .int (-1)), (0, .ref (xB X + 0)), (1, .ref (xB X + a1)), (2, .ref (xB X + 9)), (3, .int x3)]) hC dX11_chosenBy_1 (hN 4 (by decide)) rfl ?_
  refine g_iconst (v := 0) hC dX11_chosenBy_3 (by decide) ?_
  refine g_istore (lv' := [(5, .int 0), (4, .int (-1)), (0, .ref (xB X + 0)), (1, .ref (xB X + a1)), (2, .ref (xB X + 9)), (3, .int x3)]) hC dX11_chosenBy_4 (hN 5 (by decide)) rfl ?_
  refine g_iconst (v := 0) hC dX11_chosenBy_6 (by decide) ?_
  refine g_istore (lv' := [(6, .int 0), (5, .int 0), (4, .int (-1)), (0, .ref (xB X + 0)), (1, .ref (xB X + a1)), (2, .ref (xB X + 9)), (3, .int x3)]) hC dX11_chosenBy_7 (hN 6 (by decide)) rfl ?_
  refine mG.pick (lv' := [(0, .ref (xB X + 0)), (1, .ref (xB X + a1)), (2, .ref (xB X + 9)), (3, .int x3), (4, .int (-1)), (5, .int 0), (6, .int 0)]) [3, 4, 5, 6, 2, 1, 0] rfl ?_
  obtain ⟨m101, hw⟩ := hw
  exact t_X11_chosenBy_d_9_9 hC hd hN hP hT hF m101 _ _ _ _ _ _ hw
set_option maxRecDepth 4000 in
theorem c_X11_chosenBy_d_9 {Z : Fx} {ps ts : List (Nat × Nat × Nat)} {d : Nat} (hd : 7 ≤ d) (hP : ∀ e ∈ psG, e ∈ ps) (hT : ∀ e ∈ tsG, e ∈ ts) (hF : ∀ e ∈ ps, e ∈ psA) {σ : Mem} {a1 : Nat} {x3 : Int32} {Q : Int32 → Mem → Prop} (hw : w_X11_chosenBy_d_9 σ a1 x3 Q) : mM Z ps ts yX11_chosenBy cX11_chosenBy 8 (some .int) d 0 0 [.ref (Z.2.2 + 0), .ref (Z.2.2 + a1), .ref (Z.2.2 + 9), .int x3] σ (qI Q) := by
  refine mM.of (by decide) (Nat.le_of_ble_eq_true rfl) rfl (fun X hZ hp ht hn hC => ?_)
  subst hZ; subst hp; subst ht
  exact t_X11_chosenBy_d_9 hC hd (fun i h => by rw [hn]; exact h) hP hT hF hw
def w_X11_lay (σ : Mem) (x1 : Int32) (Q : Int32 → Mem → Prop) : Prop := w_X11_layerAt σ x1 (fun o102 s103 => (o102 = none → (Q (-2) s103)) ∧ (∀ r104 : Nat, o102 = some r104 → (((mI s103 8 1) < (mI s103 0 2) → (w_X11_chosenBy_d_9 s103 r104 (mI s103 8 1) (fun v105 s107 => w_X1_put_9 s107 v105 (mI s107 8 1) (fun s110 => Q v105 (sI s110 8 1 ((mI s110 8 1) + 1)))))) ∧ (¬ (mI s103 8 1) < (mI s103 0 2) → (Q (-3) s103)))))
set_option maxRecDepth 4000 in
set_option maxHeartbeats 2000000 in
theorem t_X11_lay {X : Cx} {d : Nat} (hC : mOK X cX11_lay RX11 "lay" (some .int) d 0 0) (hd : 8 ≤ d) (hN : ∀ i, i < 4 → i < xN X) (hP : ∀ e ∈ psG, e ∈ xP X) (hT : ∀ e ∈ tsG, e ∈ xT X) (hF : ∀ e ∈ xP X, e ∈ psA) {σ : Mem} {x1 : Int32} {Q : Int32 → Mem → Prop} (hw : w_X11_lay σ x1 Q) : mG X 0 [(0, .ref (xB X + 0)), (1, .int x1)] [] σ 0 0 (mQ X 0 0 (qI Q)) := by
  refine g_aload_n hC dX11_lay_0 rfl ?_
  refine g_iload_n hC dX11_lay_1 rfl ?_
  refine g_known (fun hS => ?_)
  refine mG.st (st1 := ([.int x1] : List Value).reverse ++ .ref (xB X + 0) :: []) rfl ?_
  refine g_callV (As := [.int x1]) (st := []) hC (hS.2 _ (hT _ tg_G_0)) (by decide) ycl_11_X11_layerAt yw_X11_layerAt yv_X11_layerAt tw_126 dX11_lay_2 (fun _ h => h) (fun _ h => h) (fun h => h) (c_X11_layerAt (d := 0) (Nat.le_refl _) hP hT hF hw) rfl (Nat.le_of_ble_eq_true rfl) (by omega) (by decide) (by decide) (kA fun o102 s103 hw => ?_)
  refine g_astore_nQ (lv' := [(2, rq X o102), (0, .ref (xB X + 0)), (1, .int x1)]) hC dX11_lay_5 (hN 2 (by decide)) rfl ?_
  refine g_aload_nQ hC dX11_lay_6 rfl ?_
  rcases o102 with _ | r104
  · replace hw := hw.1 rfl
    refine g_ifnonnullN hC dX11_lay_7 ?_
    refine g_bipush (v := (-2)) hC dX11_lay_10 (by decide) ?_
    exact g_iret hC rfl (by decide) (by decide) dX11_lay_12 (fun _ => ⟨_, rfl, hw⟩)
  · replace hw := hw.2 r104 rfl
    refine g_ifnonnullR (tgt := 13) hC dX11_lay_7 rfl ?_
    refine g_aload_n hC dX11_lay_13 rfl ?_
    refine g_getrS hC fl_X11_38_11.s (hT _ tg_G_0) (hP _ pt_G_0_8) dX11_lay_14 ?_
    refine g_getiSv (v := (mI s103 8 1)) hC fl_X11_326_9.s (hT _ tg_G_8) rfl dX11_lay_17 ?_
    refine g_aload_n hC dX11_lay_20 rfl ?_
    refine g_getiSv (v := (mI s103 0 2)) hC fl_X11_101_11.s (hT _ tg_G_0) rfl dX11_lay_21 ?_
    refine g_icmp_lt (tgt := 30) hC dX11_lay_24 rfl (fun c => ?_) (fun c => ?_)
    · replace hw := hw.1 c
      refine g_aload_n hC dX11_lay_30 rfl ?_
      refine g_aload_n hC dX11_lay_31 rfl ?_
      refine g_aload_n hC dX11_lay_32 rfl ?_
      refine g_getrS hC fl_X11_38_11.s (hT _ tg_G_0) (hP _ pt_G_0_8) dX11_lay_33 ?_
      refine g_getrS hC fl_X11_329_9.s (hT _ tg_G_8) (hP _ pt_G_8_0) dX11_lay_36 ?_
      refine g_aload_n hC dX11_lay_39 rfl ?_
      refine g_getrS hC fl_X11_38_11.s (hT _ tg_G_0) (hP _ pt_G_0_8) dX11_lay_40 ?_
      refine g_getiSv (v := (mI s103 8 1)) hC fl_X11_326_9.s (hT _ tg_G_8) rfl dX11_lay_43 ?_
      refine g_known (fun hS => ?_)
      refine mG.st (st1 := ([.ref (xB X + r104), .ref (xB X + 9), .int (mI s103 8 1)] : List Value).reverse ++ .ref (xB X + 0) :: []) rfl ?_
      refine g_callV (As := [.ref (xB X + r104), .ref (xB X + 9), .int (mI s103 8 1)]) (st := []) hC (hS.2 _ (hT _ tg_G_0)) (by decide) ycl_11_X11_chosenBy yw_X11_chosenBy yv_X11_chosenBy tw_250 dX11_lay_46 (fun _ h => h) (fun _ h => h) (fun h => h) (c_X11_chosenBy_d_9 (d := 7) (Nat.le_refl _) hP hT hF hw) rfl (Nat.le_of_ble_eq_true rfl) (by omega) (by decide) (by decide) (kI fun v105 s107 hw => ?_)
      refine g_istore_n (lv' := [(3, .int v105), (2, .ref (xB X + r104)), (0, .ref (xB X + 0)), (1, .int x1)]) hC dX11_lay_49 (hN 3 (by decide)) rfl ?_
      refine g_aload_n hC dX11_lay_50 rfl ?_
      refine g_getrS hC fl_X11_38_11.s (hT _ tg_G_0) (hP _ pt_G_0_8) dX11_lay_51 ?_
      refine g_getrS hC fl_X11_329_9.s (hT _ tg_G_8) (hP _ pt_G_8_0) dX11_lay_54 ?_
      refine g_iload_n hC dX11_lay_57 rfl ?_
      refine g_aload_n hC dX11_lay_58 rfl ?_
      refine g_getrS hC fl_X11_38_11.s (hT _ tg_G_0) (hP _ pt_G_0_8) dX11_lay_59 ?_
      refine g_getiSv (v := (mI s107 8 1)) hC fl_X11_326_9.s (hT _ tg_G_8) rfl dX11_lay_62 ?_
      refine g_known (fun hS => ?_)
      refine mG.st (st1 := ([.int v105, .int (mI s107 8 1)] : List Value).reverse ++ .ref (xB X + 9) :: []) rfl ?_
      refine g_callV (As := [.int v105, .int (mI s107 8 1)]) (st := []) hC (hS.2 _ (hT _ tg_G_9)) (by decide) ycl_1_X1_put yw_X1_put yv_X1_put tw_278 dX11_lay_65 (fun _ h => h) (fun _ h => h) (fun h => h) (c_X1_put_9 (d := 2) (Nat.le_refl _) hP hT hF hw) rfl (Nat.le_of_ble_eq_true rfl) (by omega) (by decide) (by decide) (kV fun s110 hw => ?_)
      refine g_aload_n hC dX11_lay_68 rfl ?_
      refine g_getrS hC fl_X11_38_11.s (hT _ tg_G_0) (hP _ pt_G_0_8) dX11_lay_69 ?_
      refine g_dup hC dX11_lay_72 rfl ?_
      refine g_getiSv (v := (mI s110 8 1)) hC fl_X11_326_9.s (hT _ tg_G_8) rfl dX11_lay_73 ?_
      refine g_iconst (v := 1) hC dX11_lay_76 (by decide) ?_
      refine g_iadd hC dX11_lay_77 ?_
      refine g_putIS hC (fw_X11_326_9 _) (hT _ tg_G_8) rfl rfl dX11_lay_78 ?_
      refine g_iload_n hC dX11_lay_81 rfl ?_
      exact g_iret hC rfl (by decide) (by decide) dX11_lay_82 (fun _ => ⟨_, rfl, hw⟩)
    · replace hw := hw.2 c
      refine g_bipush (v := (-3)) hC dX11_lay_27 (by decide) ?_
      exact g_iret hC rfl (by decide) (by decide) dX11_lay_29 (fun _ => ⟨_, rfl, hw⟩)
set_option maxRecDepth 4000 in
theorem c_X11_lay {Z : Fx} {ps ts : List (Nat × Nat × Nat)} {d : Nat} (hd : 8 ≤ d) (hP : ∀ e ∈ psG, e ∈ ps) (hT : ∀ e ∈ tsG, e ∈ ts) (hF : ∀ e ∈ ps, e ∈ psA) {σ : Mem} {x1 : Int32} {Q : Int32 → Mem → Prop} (hw : w_X11_lay σ x1 Q) : mM Z ps ts yX11_lay cX11_lay 4 (some .int) d 0 0 [.ref (Z.2.2 + 0), .int x1] σ (qI Q) := by
  refine mM.of (by decide) (Nat.le_of_ble_eq_true rfl) rfl (fun X hZ hp ht hn hC => ?_)
  subst hZ; subst hp; subst ht
  exact t_X11_lay hC hd (fun i h => by rw [hn]; exact h) hP hT hF hw
def w_X11_take (σ : Mem) (x1 : Int32) (Q : Int32 → Mem → Prop) : Prop := w_X1_has_9 σ x1 (fun v101 s103 => (¬ v101 = 0 → (w_X1_heightOf_9 s103 x1 (fun v104 s106 => (¬ v104 = 0 → (w_X1_drop_9 s106 x1 (fun v107 s109 => Q v107 s109))) ∧ (v104 = 0 → (Q (-3) s106))))) ∧ (v101 = 0 → (Q (-2) s103)))
set_option maxRecDepth 4000 in
set_option maxHeartbeats 2000000 in
theorem t_X11_take {X : Cx} {d : Nat} (hC : mOK X cX11_take RX11 "take" (some .int) d 0 0) (hd : 3 ≤ d) (hN : ∀ i, i < 2 → i < xN X) (hP : ∀ e ∈ psG, e ∈ xP X) (hT : ∀ e ∈ tsG, e ∈ xT X) (hF : ∀ e ∈ xP X, e ∈ psA) {σ : Mem} {x1 : Int32} {Q : Int32 → Mem → Prop} (hw : w_X11_take σ x1 Q) : mG X 0 [(0, .ref (xB X + 0)), (1, .int x1)] [] σ 0 0 (mQ X 0 0 (qI Q)) := by
  refine g_aload_n hC dX11_take_0 rfl ?_
  refine g_getrS hC fl_X11_38_11.s (hT _ tg_G_0) (hP _ pt_G_0_8) dX11_take_1 ?_
  refine g_getrS hC fl_X11_329_9.s (hT _ tg_G_8) (hP _ pt_G_8_0) dX11_take_4 ?_
  refine g_iload_n hC dX11_take_7 rfl ?_
  refine g_known (fun hS => ?_)
  refine mG.st (st1 := ([.int x1] : List Value).reverse ++ .ref (xB X + 9) :: []) rfl ?_
  refine g_callV (As := [.int x1]) (st := []) hC (hS.2 _ (hT _ tg_G_9)) (by decide) ycl_1_X1_has yw_X1_has yv_X1_has tw_254 dX11_take_8 (fun _ h => h) (fun _ h => h) (fun h => h) (c_X1_has_9 (d := 0) (Nat.le_refl _) hP hT hF hw) rfl (Nat.le_of_ble_eq_true rfl) (by omega) (by decide) (by decide) (kI fun v101 s103 hw => ?_)
  refine g_if_ne (tgt := 17) hC dX11_take_11 rfl (fun c => ?_) (fun c => ?_)
  · replace hw := hw.1 c
    refine g_aload_n hC dX11_take_17 rfl ?_
    refine g_getrS hC fl_X11_38_11.s (hT _ tg_G_0) (hP _ pt_G_0_8) dX11_take_18 ?_
    refine g_getrS hC fl_X11_329_9.s (hT _ tg_G_8) (hP _ pt_G_8_0) dX11_take_21 ?_
    refine g_iload_n hC dX11_take_24 rfl ?_
    refine g_known (fun hS => ?_)
    refine mG.st (st1 := ([.int x1] : List Value).reverse ++ .ref (xB X + 9) :: []) rfl ?_
    refine g_callV (As := [.int x1]) (st := []) hC (hS.2 _ (hT _ tg_G_9)) (by decide) ycl_1_X1_heightOf yw_X1_heightOf yv_X1_heightOf tw_255 dX11_take_25 (fun _ h => h) (fun _ h => h) (fun h => h) (c_X1_heightOf_9 (d := 0) (Nat.le_refl _) hP hT hF hw) rfl (Nat.le_of_ble_eq_true rfl) (by omega) (by decide) (by decide) (kI fun v104 s106 hw => ?_)
    refine g_if_ne (tgt := 34) hC dX11_take_28 rfl (fun c => ?_) (fun c => ?_)
    · replace hw := hw.1 c
      refine g_aload_n hC dX11_take_34 rfl ?_
      refine g_getrS hC fl_X11_38_11.s (hT _ tg_G_0) (hP _ pt_G_0_8) dX11_take_35 ?_
      refine g_getrS hC fl_X11_329_9.s (hT _ tg_G_8) (hP _ pt_G_8_0) dX11_take_38 ?_
      refine g_iload_n hC dX11_take_41 rfl ?_
      refine g_known (fun hS => ?_)
      refine mG.st (st1 := ([.int x1] : List Value).reverse ++ .ref (xB X + 9) :: []) rfl ?_
      refine g_callV (As := [.int x1]) (st := []) hC (hS.2 _ (hT _ tg_G_9)) (by decide) ycl_1_X1_drop yw_X1_drop yv_X1_drop tw_402 dX11_take_42 (fun _ h => h) (fun _ h => h) (fun h => h) (c_X1_drop_9 (d := 2) (Nat.le_refl _) hP hT hF hw) rfl (Nat.le_of_ble_eq_true rfl) (by omega) (by decide) (by decide) (kI fun v107 s109 hw => ?_)
      exact g_iret hC rfl (by decide) (by decide) dX11_take_45 (fun _ => ⟨_, rfl, hw⟩)
    · replace hw := hw.2 c
      refine g_bipush (v := (-3)) hC dX11_take_31 (by decide) ?_
      exact g_iret hC rfl (by decide) (by decide) dX11_take_33 (fun _ => ⟨_, rfl, hw⟩)
  · replace hw := hw.2 c
    refine g_bipush (v := (-2)) hC dX11_take_14 (by decide) ?_
    exact g_iret hC rfl (by decide) (by decide) dX11_take_16 (fun _ => ⟨_, rfl, hw⟩)
set_option maxRecDepth 4000 in
theorem c_X11_take {Z : Fx} {ps ts : List (Nat × Nat × Nat)} {d : Nat} (hd : 3 ≤ d) (hP : ∀ e ∈ psG, e ∈ ps) (hT : ∀ e ∈ tsG, e ∈ ts) (hF : ∀ e ∈ ps, e ∈ psA) {σ : Mem} {x1 : Int32} {Q : Int32 → Mem → Prop} (hw : w_X11_take σ x1 Q) : mM Z ps ts yX11_take cX11_take 2 (some .int) d 0 0 [.ref (Z.2.2 + 0), .int x1] σ (qI Q) := by
  refine mM.of (by decide) (Nat.le_of_ble_eq_true rfl) rfl (fun X hZ hp ht hn hC => ?_)
  subst hZ; subst hp; subst ht
  exact t_X11_take hC hd (fun i h => by rw [hn]; exact h) hP hT hF hw
def w_X11_on (σ : Mem) (x1 : Int32) (x2 : Int32) (Q : Int32 → Mem → Prop) : Prop := w_X1_has_9 σ x1 (fun v101 s103 => (¬ v101 = 0 → (w_X1_at_9 s103 x1 x2 (fun v104 s106 => Q v104 s106))) ∧ (v101 = 0 → (Q (-2) s103)))
set_option maxRecDepth 4000 in
set_option maxHeartbeats 2000000 in
theorem t_X11_on {X : Cx} {d : Nat} (hC : mOK X cX11_on RX11 "on" (some .int) d 0 0) (hd : 2 ≤ d) (hN : ∀ i, i < 3 → i < xN X) (hP : ∀ e ∈ psG, e ∈ xP X) (hT : ∀ e ∈ tsG, e ∈ xT X) (hF : ∀ e ∈ xP X, e ∈ psA) {σ : Mem} {x1 : Int32} {x2 : Int32} {Q : Int32 → Mem → Prop} (hw : w_X11_on σ x1 x2 Q) : mG X 0 [(0, .ref (xB X + 0)), (1, .int x1), (2, .int x2)] [] σ 0 0 (mQ X 0 0 (qI Q)) := by
  refine g_aload_n hC dX11_on_0 rfl ?_
  refine g_getrS hC fl_X11_38_11.s (hT _ tg_G_0) (hP _ pt_G_0_8) dX11_on_1 ?_
  refine g_getrS hC fl_X11_329_9.s (hT _ tg_G_8) (hP _ pt_G_8_0) dX11_on_4 ?_
  refine g_iload_n hC dX11_on_7 rfl ?_
  refine g_known (fun hS => ?_)
  refine mG.st (st1 := ([.int x1] : List Value).reverse ++ .ref (xB X + 9) :: []) rfl ?_
  refine g_callV (As := [.int x1]) (st := []) hC (hS.2 _ (hT _ tg_G_9)) (by decide) ycl_1_X1_has yw_X1_has yv_X1_has tw_254 dX11_on_8 (fun _ h => h) (fun _ h => h) (fun h => h) (c_X1_has_9 (d := 0) (Nat.le_refl _) hP hT hF hw) rfl (Nat.le_of_ble_eq_true rfl) (by omega) (by decide) (by decide) (kI fun v101 s103 hw => ?_)
  refine g_if_ne (tgt := 17) hC dX11_on_11 rfl (fun c => ?_) (fun c => ?_)
  · replace hw := hw.1 c
    refine g_aload_n hC dX11_on_17 rfl ?_
    refine g_getrS hC fl_X11_38_11.s (hT _ tg_G_0) (hP _ pt_G_0_8) dX11_on_18 ?_
    refine g_getrS hC fl_X11_329_9.s (hT _ tg_G_8) (hP _ pt_G_8_0) dX11_on_21 ?_
    refine g_iload_n hC dX11_on_24 rfl ?_
    refine g_iload_n hC dX11_on_25 rfl ?_
    refine g_known (fun hS => ?_)
    refine mG.st (st1 := ([.int x1, .int x2] : List Value).reverse ++ .ref (xB X + 9) :: []) rfl ?_
    refine g_callV (As := [.int x1, .int x2]) (st := []) hC (hS.2 _ (hT _ tg_G_9)) (by decide) ycl_1_X1_at yw_X1_at yv_X1_at tw_403 dX11_on_26 (fun _ h => h) (fun _ h => h) (fun h => h) (c_X1_at_9 (d := 1) (Nat.le_refl _) hP hT hF hw) rfl (Nat.le_of_ble_eq_true rfl) (by omega) (by decide) (by decide) (kI fun v104 s106 hw => ?_)
    exact g_iret hC rfl (by decide) (by decide) dX11_on_29 (fun _ => ⟨_, rfl, hw⟩)
  · replace hw := hw.2 c
    refine g_bipush (v := (-2)) hC dX11_on_14 (by decide) ?_
    exact g_iret hC rfl (by decide) (by decide) dX11_on_16 (fun _ => ⟨_, rfl, hw⟩)
set_option maxRecDepth 4000 in
theorem c_X11_on {Z : Fx} {ps ts : List (Nat × Nat × Nat)} {d : Nat} (hd : 2 ≤ d) (hP : ∀ e ∈ psG, e ∈ ps) (hT : ∀ e ∈ tsG, e ∈ ts) (hF : ∀ e ∈ ps, e ∈ psA) {σ : Mem} {x1 : Int32} {x2 : Int32} {Q : Int32 → Mem → Prop} (hw : w_X11_on σ x1 x2 Q) : mM Z ps ts yX11_on cX11_on 3 (some .int) d 0 0 [.ref (Z.2.2 + 0), .int x1, .int x2] σ (qI Q) := by
  refine mM.of (by decide) (Nat.le_of_ble_eq_true rfl) rfl (fun X hZ hp ht hn hC => ?_)
  subst hZ; subst hp; subst ht
  exact t_X11_on hC hd (fun i h => by rw [hn]; exact h) hP hT hF hw
def w_X11_drawn_23 (Q : Int32 → Mem → Prop) : Nat → Nat → Int32 → Int32 → Mem → Prop
  | 0, _, _, _, _ => False
  | n + 1, a3, x4, x5, σ => ((mI σ 0 2) ≤ (x5 + 1) → (w_X11_layInOrder σ a3 (mI σ 0 2) (fun v101 s103 => Q (mI s103 15 2) s103))) ∧ (¬ (mI σ 0 2) ≤ (x5 + 1) → (¬ ((mI σ 0 2) - x5) = 0 ∧ (w_X11_changeAbout σ x5 (x5 + ((Int32.toUInt32 ((x4 * 1103515245) + 12345) >>> (Int32.toUInt32 9 &&& Int32.toUInt32 31)).toInt32 - (Int32.toUInt32 ((x4 * 1103515245) + 12345) >>> (Int32.toUInt32 9 &&& Int32.toUInt32 31)).toInt32 / ((mI σ 0 2) - x5) * ((mI σ 0 2) - x5))) (fun s106 => w_X11_drawn_23 Q n a3 ((x4 * 1103515245) + 12345) (x5 + 1) s106))))
set_option maxRecDepth 4000 in
set_option maxHeartbeats 2000000 in
theorem t_X11_drawn_23 {X : Cx} {d : Nat} (hC : mOK X cX11_drawn RX11 "drawn" (some .int) d 0 0) (hd : 9 ≤ d) (hN : ∀ i, i < 6 → i < xN X) (hP : ∀ e ∈ psG, e ∈ xP X) (hT : ∀ e ∈ tsG, e ∈ xT X) (hF : ∀ e ∈ xP X, e ∈ psA) {Q : Int32 → Mem → Prop} : ∀ (n : Nat) (a3 : Nat) (x4 : Int32) (x5 : Int32) (σ : Mem), w_X11_drawn_23 Q n a3 x4 x5 σ → mG X 23 [(0, .ref (xB X + 0)), (3, .ref (xB X + a3)), (4, .int x4), (5, .int x5)] [] σ 0 0 (mQ X 0 0 (qI Q)) := by
  intro n
  induction n with
  | zero => intro a3 x4 x5 σ hw; exact False.elim hw
  | succ n ih =>
    intro a3 x4 x5 σ hw
    rw [w_X11_drawn_23] at hw
    refine g_iload hC dX11_drawn_23 rfl ?_
    refine g_iconst (v := 1) hC dX11_drawn_25 (by decide) ?_
    refine g_iadd hC dX11_drawn_26 ?_
    refine g_aload_n hC dX11_drawn_27 rfl ?_
    refine g_getiSv (v := (mI σ 0 2)) hC fl_X11_101_11.s (hT _ tg_G_0) rfl dX11_drawn_28 ?_
    refine g_icmp_ge (tgt := 74) hC dX11_drawn_31 rfl (fun c => ?_) (fun c => ?_)
    · replace hw := hw.1 c
      refine g_aload_n hC dX11_drawn_74 rfl ?_
      refine g_aload_n hC dX11_drawn_75 rfl ?_
      refine g_aload_n hC dX11_drawn_76 rfl ?_
      refine g_getiSv (v := (mI σ 0 2)) hC fl_X11_101_11.s (hT _ tg_G_0) rfl dX11_drawn_77 ?_
      refine g_known (fun hS => ?_)
      refine mG.st (st1 := ([.ref (xB X + a3), .int (mI σ 0 2)] : List Value).reverse ++ .ref (xB X + 0) :: []) rfl ?_
      refine g_callV (As := [.ref (xB X + a3), .int (mI σ 0 2)]) (st := []) hC (hS.2 _ (hT _ tg_G_0)) (by decide) ycl_11_X11_layInOrder yw_X11_layInOrder yv_X11_layInOrder tw_242 dX11_drawn_80 (fun _ h => h) (fun _ h => h) (fun h => h) (c_X11_layInOrder (d := 8) (Nat.le_refl _) hP hT hF hw) rfl (Nat.le_of_ble_eq_true rfl) (by omega) (by decide) (by decide) (kI fun v101 s103 hw => ?_)
      refine g_pop hC dX11_drawn_83 rfl ?_
      refine g_aload_n hC dX11_drawn_84 rfl ?_
      refine g_getrS hC fl_X11_51_11.s (hT _ tg_G_0) (hP _ pt_G_0_11) dX11_drawn_85 ?_
      refine g_getiSv (v := (mI s103 15 2)) hC fl_X11_185_1.s (hT _ tg_G_15) rfl dX11_drawn_88 ?_
      exact g_iret hC rfl (by decide) (by decide) dX11_drawn_91 (fun _ => ⟨_, rfl, hw⟩)
    · replace hw := hw.2 c
      refine g_iload hC dX11_drawn_34 rfl ?_
      refine g_ldcw hC tw_407 dX11_drawn_36 ?_
      refine g_imul hC dX11_drawn_39 ?_
      refine g_sipush (v := 12345) hC dX11_drawn_40 (by decide) ?_
      refine g_iadd hC dX11_drawn_43 ?_
      refine g_istore (lv' := [(4, .int ((x4 * 1103515245) + 12345)), (0, .ref (xB X + 0)), (3, .ref (xB X + a3)), (5, .int x5)]) hC dX11_drawn_44 (hN 4 (by decide)) rfl ?_
      refine g_aload_n hC dX11_drawn_46 rfl ?_
      refine g_iload hC dX11_drawn_47 rfl ?_
      refine g_iload hC dX11_drawn_49 rfl ?_
      refine g_iload hC dX11_drawn_51 rfl ?_
      refine g_bipush (v := 9) hC dX11_drawn_53 (by decide) ?_
      refine g_iushr hC dX11_drawn_55 ?_
      refine g_aload_n hC dX11_drawn_56 rfl ?_
      refine g_getiSv (v := (mI σ 0 2)) hC fl_X11_101_11.s (hT _ tg_G_0) rfl dX11_drawn_57 ?_
      refine g_iload hC dX11_drawn_60 rfl ?_
      refine g_isub hC dX11_drawn_62 ?_
      refine g_irem hC dX11_drawn_63 hw.1 ?_
      replace hw := hw.2
      refine g_iadd hC dX11_drawn_64 ?_
      refine g_known (fun hS => ?_)
      refine mG.st (st1 := ([.int x5, .int (x5 + ((Int32.toUInt32 ((x4 * 1103515245) + 12345) >>> (Int32.toUInt32 9 &&& Int32.toUInt32 31)).toInt32 - (Int32.toUInt32 ((x4 * 1103515245) + 12345) >>> (Int32.toUInt32 9 &&& Int32.toUInt32 31)).toInt32 / ((mI σ 0 2) - x5) * ((mI σ 0 2) - x5)))] : List Value).reverse ++ .ref (xB X + 0) :: []) rfl ?_
      refine g_callV (As := [.int x5, .int (x5 + ((Int32.toUInt32 ((x4 * 1103515245) + 12345) >>> (Int32.toUInt32 9 &&& Int32.toUInt32 31)).toInt32 - (Int32.toUInt32 ((x4 * 1103515245) + 12345) >>> (Int32.toUInt32 9 &&& Int32.toUInt32 31)).toInt32 / ((mI σ 0 2) - x5) * ((mI σ 0 2) - x5)))]) (st := []) hC (hS.2 _ (hT _ tg_G_0)) (by decide) ycl_11_X11_changeAbout yw_X11_changeAbout yv_X11_changeAbout tw_368 dX11_drawn_65 (fun _ h => h) (fun _ h => h) (fun h => h) (c_X11_changeAbout (d := 1) (Nat.le_refl _) hP hT hF hw) rfl (Nat.le_of_ble_eq_true rfl) (by omega) (by decide) (by decide) (kV fun s106 hw => ?_)
      refine g_iinc (v := x5 + 1) (lv' := [(5, .int (x5 + 1)), (4, .int ((x4 * 1103515245) + 12345)), (0, .ref (xB X + 0)), (3, .ref (xB X + a3))]) hC dX11_drawn_68 rfl rfl (hN 5 (by decide)) rfl ?_
      refine g_goto (tgt := 23) hC dX11_drawn_71 rfl ?_
      refine mG.pick (lv' := [(0, .ref (xB X + 0)), (3, .ref (xB X + a3)), (4, .int ((x4 * 1103515245) + 12345)), (5, .int (x5 + 1))]) [2, 3, 1, 0] rfl ?_
      exact ih _ _ _ _ hw
def w_X11_drawn (σ : Mem) (x1 : Int32) (x2 : Int32) (Q : Int32 → Mem → Prop) : Prop := w_X11_layerAt σ x1 (fun o102 s103 => (o102 = none → (Q (-2) s103)) ∧ (∀ r104 : Nat, o102 = some r104 → (w_X11_orderOfNow s103 (fun s107 => ∃ m108 : Nat, w_X11_drawn_23 Q m108 r104 x2 0 s107))))
set_option maxRecDepth 4000 in
set_option maxHeartbeats 2000000 in
theorem t_X11_drawn {X : Cx} {d : Nat} (hC : mOK X cX11_drawn RX11 "drawn" (some .int) d 0 0) (hd : 9 ≤ d) (hN : ∀ i, i < 6 → i < xN X) (hP : ∀ e ∈ psG, e ∈ xP X) (hT : ∀ e ∈ tsG, e ∈ xT X) (hF : ∀ e ∈ xP X, e ∈ psA) {σ : Mem} {x1 : Int32} {x2 : Int32} {Q : Int32 → Mem → Prop} (hw : w_X11_drawn σ x1 x2 Q) : mG X 0 [(0, .ref (xB X + 0)), (1, .int x1), (2, .int x2)] [] σ 0 0 (mQ X 0 0 (qI Q)) := by
  refine g_aload_n hC dX11_drawn_0 rfl ?_
  refine g_iload_n hC dX11_drawn_1 rfl ?_
  refine g_known (fun hS => ?_)
  refine mG.st (st1 := ([.int x1] : List Value).reverse ++ .ref (xB X + 0) :: []) rfl ?_
  refine g_callV (As := [.int x1]) (st := []) hC (hS.2 _ (hT _ tg_G_0)) (by decide) ycl_11_X11_layerAt yw_X11_layerAt yv_X11_layerAt tw_126 dX11_drawn_2 (fun _ h => h) (fun _ h => h) (fun h => h) (c_X11_layerAt (d := 0) (Nat.le_refl _) hP hT hF hw) rfl (Nat.le_of_ble_eq_true rfl) (by omega) (by decide) (by decide) (kA fun o102 s103 hw => ?_)
  refine g_astore_nQ (lv' := [(3, rq X o102), (0, .ref (xB X + 0)), (1, .int x1), (2, .int x2)]) hC dX11_drawn_5 (hN 3 (by decide)) rfl ?_
  refine g_aload_nQ hC dX11_drawn_6 rfl ?_
  rcases o102 with _ | r104
  · replace hw := hw.1 rfl
    refine g_ifnonnullN hC dX11_drawn_7 ?_
    refine g_bipush (v := (-2)) hC dX11_drawn_10 (by decide) ?_
    exact g_iret hC rfl (by decide) (by decide) dX11_drawn_12 (fun _ => ⟨_, rfl, hw⟩)
  · replace hw := hw.2 r104 rfl
    refine g_ifnonnullR (tgt := 13) hC dX11_drawn_7 rfl ?_
    refine g_aload_n hC dX11_drawn_13 rfl ?_
    refine g_known (fun hS => ?_)
    refine mG.st (st1 := ([] : List Value).reverse ++ .ref (xB X + 0) :: []) rfl ?_
    refine g_callV (As := []) (st := []) hC (hS.2 _ (hT _ tg_G_0)) (by decide) ycl_11_X11_orderOfNow yw_X11_orderOfNow yv_X11_orderOfNow tw_240 dX11_drawn_14 (fun _ h => h) (fun _ h => h) (fun h => h) (c_X11_orderOfNow (d := 0) (Nat.le_refl _) hP hT hF hw) rfl (Nat.le_of_ble_eq_true rfl) (by omega) (by decide) (by decide) (kV fun s107 hw => ?_)
    refine g_iload_n hC dX11_drawn_17 rfl ?_
    refine g_istore (lv' := [(4, .int x2), (3, .ref (xB X + r104)), (0, .ref (xB X + 0)), (1, .int x1), (2, .int x2)]) hC dX11_drawn_18 (hN 4 (by decide)) rfl ?_
    refine g_iconst (v := 0) hC dX11_drawn_20 (by decide) ?_
    refine g_istore (lv' := [(5, .int 0), (4, .int x2), (3, .ref (xB X + r104)), (0, .ref (xB X + 0)), (1, .int x1), (2, .int x2)]) hC dX11_drawn_21 (hN 5 (by decide)) rfl ?_
    refine mG.pick (lv' := [(0, .ref (xB X + 0)), (3, .ref (xB X + r104)), (4, .int x2), (5, .int 0)]) [3, 2, 1, 0] rfl ?_
    obtain ⟨m108, hw⟩ := hw
    exact t_X11_drawn_23 hC hd hN hP hT hF m108 _ _ _ _ hw
set_option maxRecDepth 4000 in
theorem c_X11_drawn {Z : Fx} {ps ts : List (Nat × Nat × Nat)} {d : Nat} (hd : 9 ≤ d) (hP : ∀ e ∈ psG, e ∈ ps) (hT : ∀ e ∈ tsG, e ∈ ts) (hF : ∀ e ∈ ps, e ∈ psA) {σ : Mem} {x1 : Int32} {x2 : Int32} {Q : Int32 → Mem → Prop} (hw : w_X11_drawn σ x1 x2 Q) : mM Z ps ts yX11_drawn cX11_drawn 6 (some .int) d 0 0 [.ref (Z.2.2 + 0), .int x1, .int x2] σ (qI Q) := by
  refine mM.of (by decide) (Nat.le_of_ble_eq_true rfl) rfl (fun X hZ hp ht hn hC => ?_)
  subst hZ; subst hp; subst ht
  exact t_X11_drawn hC hd (fun i h => by rw [hn]; exact h) hP hT hF hw
def w_X11_image_18 (Q : Int32 → Mem → Prop) (σ : Mem) : Prop := ∀ o101 : Option Nat, o101 = (mP σ 0 9) → (∃ r102 : Nat, o101 = some r102 ∧ (mT σ r102 = some (9, 0) ∧ (w_X9_become_d_8 σ r102 (fun s105 => Q (mI s105 8 1) s105))))
set_option maxRecDepth 4000 in
set_option maxHeartbeats 2000000 in
theorem t_X11_image_18 {X : Cx} {d : Nat} (hC : mOK X cX11_image RX11 "image" (some .int) d 6 97) (hd : 3 ≤ d) (hN : ∀ i, i < 1 → i < xN X) (hP : ∀ e ∈ psG, e ∈ xP X) (hT : ∀ e ∈ tsG, e ∈ xT X) (hF : ∀ e ∈ xP X, e ∈ psA) {Q : Int32 → Mem → Prop} {σ : Mem} (hw : w_X11_image_18 Q σ) : mG X 18 [(0, .ref (xB X + 0))] [] σ 6 97 (mQ X 6 97 (qI Q)) := by
  refine g_aload_n hC dX11_image_18 rfl ?_
  refine g_getqS hC fl_X11_339_11.s (hT _ tg_G_0) dX11_image_19 ?_
  refine g_topq (fun o101 eo101 => ?_)
  replace hw := hw o101 eo101
  refine g_aload_n hC dX11_image_22 rfl ?_
  refine g_getrS hC fl_X11_38_11.s (hT _ tg_G_0) (hP _ pt_G_0_8) dX11_image_23 ?_
  obtain ⟨r102, ho, hw⟩ := hw
  subst ho
  refine mG.st (st1 := ([.ref (xB X + 8)] : List Value).reverse ++ .ref (xB X + r102) :: []) rfl ?_
  have hw0 := hw.1
  replace hw := hw.2
  refine g_callV (As := [.ref (xB X + 8)]) (st := []) hC hw0 (by decide) ycl_9_X9_become yw_X9_become yv_X9_become tw_424 dX11_image_26 (fun _ h => h) (fun _ h => h) (fun h => h) (c_X9_become_d_8 (d := 2) (Nat.le_refl _) hP hT hF hw) rfl (Nat.le_of_ble_eq_true rfl) (by omega) (by decide) (by decide) (kV fun s105 hw => ?_)
  refine g_aload_n hC dX11_image_29 rfl ?_
  refine g_getrS hC fl_X11_38_11.s (hT _ tg_G_0) (hP _ pt_G_0_8) dX11_image_30 ?_
  refine g_getiSv (v := (mI s105 8 1)) hC fl_X11_326_9.s (hT _ tg_G_8) rfl dX11_image_33 ?_
  exact g_iret hC rfl (by decide) (by decide) dX11_image_36 (fun _ => ⟨_, rfl, hw⟩)
def w_X11_image (σ : Mem) (Q : Int32 → Mem → Prop) : Prop := ∀ o101 : Option Nat, o101 = (mP σ 0 9) → ((o101 = none → (w_X9_init (mN σ (9, 0)) (mL σ) (fun s105 => w_X11_image_18 Q (sP s105 0 9 (some (mL σ)))))) ∧ (∀ r102 : Nat, o101 = some r102 → (w_X11_image_18 Q σ)))
set_option maxRecDepth 4000 in
set_option maxHeartbeats 2000000 in
theorem t_X11_image {X : Cx} {d : Nat} (hC : mOK X cX11_image RX11 "image" (some .int) d 6 97) (hd : 3 ≤ d) (hN : ∀ i, i < 1 → i < xN X) (hP : ∀ e ∈ psG, e ∈ xP X) (hT : ∀ e ∈ tsG, e ∈ xT X) (hF : ∀ e ∈ xP X, e ∈ psA) {σ : Mem} {Q : Int32 → Mem → Prop} (hw : w_X11_image σ Q) : mG X 0 [(0, .ref (xB X + 0))] [] σ 0 0 (mQ X 6 97 (qI Q)) := by
  refine g_aload_n hC dX11_image_0 rfl ?_
  refine g_getqS hC fl_X11_339_11.s (hT _ tg_G_0) dX11_image_1 ?_
  refine g_topq (fun o101 eo101 => ?_)
  replace hw := hw o101 eo101
  rcases o101 with _ | r102
  · replace hw := hw.1 rfl
    refine g_ifnonnullN hC dX11_image_4 ?_
    refine g_aload_n hC dX11_image_7 rfl ?_
    refine g_known (fun hS => ?_)
    have hfz : ∀ e ∈ xP X, e.1 ≠ (mL σ) := fun e he => Nat.ne_of_lt (hS.1 e he).2
    refine g_new hC no_X11_35 (by decide) (by decide) dX11_image_8 ?_
    refine g_dup hC dX11_image_11 rfl ?_
    refine mG.st (st1 := ([] : List Value).reverse ++ .ref (xB X + (mL σ)) :: [.ref (xB X + (mL σ)), .ref (xB X + 0)]) rfl ?_
    refine g_callI (As := []) (st := [.ref (xB X + (mL σ)), .ref (xB X + 0)]) hC yw_X9_init yi_X9_init tw_408 dX11_image_12 (fun _ h => h) (fun _ h => h) (fun h => h) (c_X9_init (d := 2) (Nat.le_refl _) hfz hw) rfl (Nat.le_of_ble_eq_true rfl) (by omega) (by decide) (by decide) (kV fun s105 hw => ?_)
    refine g_known (fun hS => ?_)
    refine mG.st (st1 := [va_rf (Option.map (fun r => xB X + r) (some (mL σ))), .ref (xB X + 0)]) rfl ?_
    refine g_putR hC (fw_X11_339_11 _) (hS.2 _ (hT _ tg_G_0)) (fun v => by cases v <;> rfl) (fun v => by cases v <;> rfl) (fun e he => by revert e; exact fun e he => (show ∀ e ∈ psA, ¬ (e.1 = 0 ∧ e.2.1 = 9) by decide) e (hF e he)) dX11_image_15 ?_
    refine mG.pick (lv' := [(0, .ref (xB X + 0))]) [0] rfl ?_
    exact t_X11_image_18 hC hd hN hP hT hF hw
  · replace hw := hw.2 r102 rfl
    refine g_ifnonnullR (tgt := 18) hC dX11_image_4 rfl ?_
    refine mG.pick (lv' := [(0, .ref (xB X + 0))]) [0] rfl ?_
    refine mG.widen (kc' := 6) (ks' := 97) (by decide) (by decide) ?_
    exact t_X11_image_18 hC hd hN hP hT hF hw
set_option maxRecDepth 4000 in
theorem c_X11_image {Z : Fx} {ps ts : List (Nat × Nat × Nat)} {d : Nat} (hd : 3 ≤ d) (hP : ∀ e ∈ psG, e ∈ ps) (hT : ∀ e ∈ tsG, e ∈ ts) (hF : ∀ e ∈ ps, e ∈ psA) {σ : Mem} {Q : Int32 → Mem → Prop} (hw : w_X11_image σ Q) : mM Z ps ts yX11_image cX11_image 1 (some .int) d 6 97 [.ref (Z.2.2 + 0)] σ (qI Q) := by
  refine mM.of (by decide) (Nat.le_of_ble_eq_true rfl) rfl (fun X hZ hp ht hn hC => ?_)
  subst hZ; subst hp; subst ht
  exact t_X11_image hC hd (fun i h => by rw [hn]; exact h) hP hT hF hw
def w_X11_back (σ : Mem) (Q : Int32 → Mem → Prop) : Prop := ∀ o101 : Option Nat, o101 = (mP σ 0 9) → ((o101 = none → (Q (-3) σ)) ∧ (∀ r102 : Nat, o101 = some r102 → (∀ o103 : Option Nat, o103 = (mP σ 0 9) → (∃ r104 : Nat, o103 = some r104 ∧ (w_X9_become_8_d σ r104 (fun s107 => Q (mI s107 8 1) s107))))))
set_option maxRecDepth 4000 in
set_option maxHeartbeats 2000000 in
theorem t_X11_back {X : Cx} {d : Nat} (hC : mOK X cX11_back RX11 "back" (some .int) d 0 0) (hd : 3 ≤ d) (hN : ∀ i, i < 1 → i < xN X) (hP : ∀ e ∈ psG, e ∈ xP X) (hT : ∀ e ∈ tsG, e ∈ xT X) (hF : ∀ e ∈ xP X, e ∈ psA) {σ : Mem} {Q : Int32 → Mem → Prop} (hw : w_X11_back σ Q) : mG X 0 [(0, .ref (xB X + 0))] [] σ 0 0 (mQ X 0 0 (qI Q)) := by
  refine g_aload_n hC dX11_back_0 rfl ?_
  refine g_getqS hC fl_X11_339_11.s (hT _ tg_G_0) dX11_back_1 ?_
  refine g_topq (fun o101 eo101 => ?_)
  replace hw := hw o101 eo101
  rcases o101 with _ | r102
  · replace hw := hw.1 rfl
    refine g_ifnonnullN hC dX11_back_4 ?_
    refine g_bipush (v := (-3)) hC dX11_back_7 (by decide) ?_
    exact g_iret hC rfl (by decide) (by decide) dX11_back_9 (fun _ => ⟨_, rfl, hw⟩)
  · replace hw := hw.2 r102 rfl
    refine g_ifnonnullR (tgt := 10) hC dX11_back_4 rfl ?_
    refine g_aload_n hC dX11_back_10 rfl ?_
    refine g_getrS hC fl_X11_38_11.s (hT _ tg_G_0) (hP _ pt_G_0_8) dX11_back_11 ?_
    refine g_aload_n hC dX11_back_14 rfl ?_
    refine g_getqS hC fl_X11_339_11.s (hT _ tg_G_0) dX11_back_15 ?_
    refine g_topq (fun o103 eo103 => ?_)
    replace hw := hw o103 eo103
    obtain ⟨r104, ho, hw⟩ := hw
    subst ho
    refine g_known (fun hS => ?_)
    refine mG.st (st1 := ([.ref (xB X + r104)] : List Value).reverse ++ .ref (xB X + 8) :: []) rfl ?_
    refine g_callV (As := [.ref (xB X + r104)]) (st := []) hC (hS.2 _ (hT _ tg_G_8)) (by decide) ycl_9_X9_become yw_X9_become yv_X9_become tw_424 dX11_back_18 (fun _ h => h) (fun _ h => h) (fun h => h) (c_X9_become_8_d (d := 2) (Nat.le_refl _) hP hT hF hw) rfl (Nat.le_of_ble_eq_true rfl) (by omega) (by decide) (by decide) (kV fun s107 hw => ?_)
    refine g_aload_n hC dX11_back_21 rfl ?_
    refine g_getrS hC fl_X11_38_11.s (hT _ tg_G_0) (hP _ pt_G_0_8) dX11_back_22 ?_
    refine g_getiSv (v := (mI s107 8 1)) hC fl_X11_326_9.s (hT _ tg_G_8) rfl dX11_back_25 ?_
    exact g_iret hC rfl (by decide) (by decide) dX11_back_28 (fun _ => ⟨_, rfl, hw⟩)
set_option maxRecDepth 4000 in
theorem c_X11_back {Z : Fx} {ps ts : List (Nat × Nat × Nat)} {d : Nat} (hd : 3 ≤ d) (hP : ∀ e ∈ psG, e ∈ ps) (hT : ∀ e ∈ tsG, e ∈ ts) (hF : ∀ e ∈ ps, e ∈ psA) {σ : Mem} {Q : Int32 → Mem → Prop} (hw : w_X11_back σ Q) : mM Z ps ts yX11_back cX11_back 1 (some .int) d 0 0 [.ref (Z.2.2 + 0)] σ (qI Q) := by
  refine mM.of (by decide) (Nat.le_of_ble_eq_true rfl) rfl (fun X hZ hp ht hn hC => ?_)
  subst hZ; subst hp; subst ht
  exact t_X11_back hC hd (fun i h => by rw [hn]; exact h) hP hT hF hw
def w_X11_count (σ : Mem) (x1 : Int32) (Q : Int32 → Mem → Prop) : Prop := (x1 = 0 → (Q (mI σ 0 2) σ)) ∧ (x1 = 1 → (Q (mI σ 0 4) σ)) ∧ (x1 = 2 → (Q (mI σ 8 1) σ)) ∧ (x1 = 3 → (Q (mI σ 9 2) σ)) ∧ (x1 = 4 → (Q (mI σ 8 2) σ)) ∧ (x1 = 5 → (Q (mI σ 0 6) σ)) ∧ (x1 = 6 → (Q (mI σ 5 1) σ)) ∧ (x1 = 7 → (Q (mI σ 8 3) σ)) ∧ (¬ x1 = 0 → ¬ x1 = 1 → ¬ x1 = 2 → ¬ x1 = 3 → ¬ x1 = 4 → ¬ x1 = 5 → ¬ x1 = 6 → ¬ x1 = 7 → (Q (-2) σ))
set_option maxRecDepth 4000 in
set_option maxHeartbeats 2000000 in
theorem t_X11_count {X : Cx} {d : Nat} (hC : mOK X cX11_count RX11 "count" (some .int) d 0 0) (hd : 0 ≤ d) (hN : ∀ i, i < 2 → i < xN X) (hP : ∀ e ∈ psG, e ∈ xP X) (hT : ∀ e ∈ tsG, e ∈ xT X) (hF : ∀ e ∈ xP X, e ∈ psA) {σ : Mem} {x1 : Int32} {Q : Int32 → Mem → Prop} (hw : w_X11_count σ x1 Q) : mG X 0 [(0, .ref (xB X + 0)), (1, .int x1)] [] σ 0 0 (mQ X 0 0 (qI Q)) := by
  refine g_iload_n hC dX11_count_0 rfl ?_
  by_cases c0 : x1 = 0
  · replace hw := hw.1 c0
    refine g_tableIn (tgt := 48) hC dX11_count_1 0 c0 (by decide) (by decide) rfl rfl ?_
    refine g_aload_n hC dX11_count_48 rfl ?_
    refine g_getiSv (v := (mI σ 0 2)) hC fl_X11_101_11.s (hT _ tg_G_0) rfl dX11_count_49 ?_
    exact g_iret hC rfl (by decide) (by decide) dX11_count_52 (fun _ => ⟨_, rfl, hw⟩)
  by_cases c1 : x1 = 1
  · replace hw := hw.2.1 c1
    refine g_tableIn (tgt := 53) hC dX11_count_1 1 c1 (by decide) (by decide) rfl rfl ?_
    refine g_aload_n hC dX11_count_53 rfl ?_
    refine g_getiSv (v := (mI σ 0 4)) hC fl_X11_104_11.s (hT _ tg_G_0) rfl dX11_count_54 ?_
    exact g_iret hC rfl (by decide) (by decide) dX11_count_57 (fun _ => ⟨_, rfl, hw⟩)
  by_cases c2 : x1 = 2
  · replace hw := hw.2.2.1 c2
    refine g_tableIn (tgt := 58) hC dX11_count_1 2 c2 (by decide) (by decide) rfl rfl ?_
    refine g_aload_n hC dX11_count_58 rfl ?_
    refine g_getrS hC fl_X11_38_11.s (hT _ tg_G_0) (hP _ pt_G_0_8) dX11_count_59 ?_
    refine g_getiSv (v := (mI σ 8 1)) hC fl_X11_326_9.s (hT _ tg_G_8) rfl dX11_count_62 ?_
    exact g_iret hC rfl (by decide) (by decide) dX11_count_65 (fun _ => ⟨_, rfl, hw⟩)
  by_cases c3 : x1 = 3
  · replace hw := hw.2.2.2.1 c3
    refine g_tableIn (tgt := 66) hC dX11_count_1 3 c3 (by decide) (by decide) rfl rfl ?_
    refine g_aload_n hC dX11_count_66 rfl ?_
    refine g_getrS hC fl_X11_38_11.s (hT _ tg_G_0) (hP _ pt_G_0_8) dX11_count_67 ?_
    refine g_getrS hC fl_X11_329_9.s (hT _ tg_G_8) (hP _ pt_G_8_0) dX11_count_70 ?_
    refine g_getiSv (v := (mI σ 9 2)) hC fl_X11_185_1.s (hT _ tg_G_9) rfl dX11_count_73 ?_
    exact g_iret hC rfl (by decide) (by decide) dX11_count_76 (fun _ => ⟨_, rfl, hw⟩)
  by_cases c4 : x1 = 4
  · replace hw := hw.2.2.2.2.1 c4
    refine g_tableIn (tgt := 77) hC dX11_count_1 4 c4 (by decide) (by decide) rfl rfl ?_
    refine g_aload_n hC dX11_count_77 rfl ?_
    refine g_getrS hC fl_X11_38_11.s (hT _ tg_G_0) (hP _ pt_G_0_8) dX11_count_78 ?_
    refine g_getiSv (v := (mI σ 8 2)) hC fl_X11_118_9.s (hT _ tg_G_8) rfl dX11_count_81 ?_
    exact g_iret hC rfl (by decide) (by decide) dX11_count_84 (fun _ => ⟨_, rfl, hw⟩)
  by_cases c5 : x1 = 5
  · replace hw := hw.2.2.2.2.2.1 c5
    refine g_tableIn (tgt := 85) hC dX11_count_1 5 c5 (by decide) (by decide) rfl rfl ?_
    refine g_aload_n hC dX11_count_85 rfl ?_
    refine g_getiSv (v := (mI σ 0 6)) hC fl_X11_91_11.s (hT _ tg_G_0) rfl dX11_count_86 ?_
    exact g_iret hC rfl (by decide) (by decide) dX11_count_89 (fun _ => ⟨_, rfl, hw⟩)
  by_cases c6 : x1 = 6
  · replace hw := hw.2.2.2.2.2.2.1 c6
    refine g_tableIn (tgt := 90) hC dX11_count_1 6 c6 (by decide) (by decide) rfl rfl ?_
    refine g_aload_n hC dX11_count_90 rfl ?_
    refine g_getrS hC fl_X11_31_11.s (hT _ tg_G_0) (hP _ pt_G_0_7) dX11_count_91 ?_
    refine g_getiSv (v := (mI σ 5 1)) hC fl_X11_95_5.s (hT _ tg_G_5) rfl dX11_count_94 ?_
    exact g_iret hC rfl (by decide) (by decide) dX11_count_97 (fun _ => ⟨_, rfl, hw⟩)
  by_cases c7 : x1 = 7
  · replace hw := hw.2.2.2.2.2.2.2.1 c7
    refine g_tableIn (tgt := 98) hC dX11_count_1 7 c7 (by decide) (by decide) rfl rfl ?_
    refine g_aload_n hC dX11_count_98 rfl ?_
    refine g_getrS hC fl_X11_38_11.s (hT _ tg_G_0) (hP _ pt_G_0_8) dX11_count_99 ?_
    refine g_getiSv (v := (mI σ 8 3)) hC fl_X11_159_9.s (hT _ tg_G_8) rfl dX11_count_102 ?_
    exact g_iret hC rfl (by decide) (by decide) dX11_count_105 (fun _ => ⟨_, rfl, hw⟩)
  replace hw := hw.2.2.2.2.2.2.2.2 c0 c1 c2 c3 c4 c5 c6 c7
  refine g_tableOut (tgt := 106) hC dX11_count_1 (sw_out 0 7 x1 (by decide) [0, 1, 2, 3, 4, 5, 6, 7] (by decide) (List.forall_mem_cons.mpr ⟨c0, (List.forall_mem_cons.mpr ⟨c1, (List.forall_mem_cons.mpr ⟨c2, (List.forall_mem_cons.mpr ⟨c3, (List.forall_mem_cons.mpr ⟨c4, (List.forall_mem_cons.mpr ⟨c5, (List.forall_mem_cons.mpr ⟨c6, (List.forall_mem_cons.mpr ⟨c7, (fun k h => absurd h List.not_mem_nil)⟩)⟩)⟩)⟩)⟩)⟩)⟩)⟩)) rfl ?_
  refine g_bipush (v := (-2)) hC dX11_count_106 (by decide) ?_
  exact g_iret hC rfl (by decide) (by decide) dX11_count_108 (fun _ => ⟨_, rfl, hw⟩)
set_option maxRecDepth 4000 in
theorem c_X11_count {Z : Fx} {ps ts : List (Nat × Nat × Nat)} {d : Nat} (hd : 0 ≤ d) (hP : ∀ e ∈ psG, e ∈ ps) (hT : ∀ e ∈ tsG, e ∈ ts) (hF : ∀ e ∈ ps, e ∈ psA) {σ : Mem} {x1 : Int32} {Q : Int32 → Mem → Prop} (hw : w_X11_count σ x1 Q) : mM Z ps ts yX11_count cX11_count 2 (some .int) d 0 0 [.ref (Z.2.2 + 0), .int x1] σ (qI Q) := by
  refine mM.of (by decide) (Nat.le_of_ble_eq_true rfl) rfl (fun X hZ hp ht hn hC => ?_)
  subst hZ; subst hp; subst ht
  exact t_X11_count hC hd (fun i h => by rw [hn]; exact h) hP hT hF hw
def w_X11_sheet (σ : Mem) (x1 : Int32) (x2 : Int32) (x3 : Int32) (Q : Int32 → Mem → Prop) : Prop := w_X11_sheetAt σ x1 (fun o102 s103 => (o102 = none → (Q (-2) s103)) ∧ (∀ r104 : Nat, o102 = some r104 → ((x2 < (-1) → (Q (-2) s103)) ∧ (¬ x2 < (-1) → ((x2 ≤ 2 → ((¬ x2 = (-1) → ((x3 ≤ 40 → ((0 ≤ x3 → (mT s103 r104 = some (7, 0) ∧ (w_X7_become s103 r104 x2 x3 (fun s107 => Q 1 s107)))) ∧ (¬ 0 ≤ x3 → (Q (-14) s103)))) ∧ (¬ x3 ≤ 40 → (Q (-2) s103)))) ∧ (x2 = (-1) → (mT s103 r104 = some (7, 0) ∧ (w_X7_become s103 r104 (-1) 0 (fun s110 => Q 1 s110)))))) ∧ (¬ x2 ≤ 2 → (Q (-2) s103)))))))
set_option maxRecDepth 4000 in
set_option maxHeartbeats 2000000 in
theorem t_X11_sheet {X : Cx} {d : Nat} (hC : mOK X cX11_sheet RX11 "sheet" (some .int) d 0 0) (hd : 2 ≤ d) (hN : ∀ i, i < 5 → i < xN X) (hP : ∀ e ∈ psG, e ∈ xP X) (hT : ∀ e ∈ tsG, e ∈ xT X) (hF : ∀ e ∈ xP X, e ∈ psA) {σ : Mem} {x1 : Int32} {x2 : Int32} {x3 : Int32} {Q : Int32 → Mem → Prop} (hw : w_X11_sheet σ x1 x2 x3 Q) : mG X 0 [(0, .ref (xB X + 0)), (1, .int x1), (2, .int x2), (3, .int x3)] [] σ 0 0 (mQ X 0 0 (qI Q)) := by
  refine g_aload_n hC dX11_sheet_0 rfl ?_
  refine g_iload_n hC dX11_sheet_1 rfl ?_
  refine g_known (fun hS => ?_)
  refine mG.st (st1 := ([.int x1] : List Value).reverse ++ .ref (xB X + 0) :: []) rfl ?_
  refine g_callV (As := [.int x1]) (st := []) hC (hS.2 _ (hT _ tg_G_0)) (by decide) ycl_11_X11_sheetAt yw_X11_sheetAt yv_X11_sheetAt tw_383 dX11_sheet_2 (fun _ h => h) (fun _ h => h) (fun h => h) (c_X11_sheetAt (d := 0) (Nat.le_refl _) hP hT hF hw) rfl (Nat.le_of_ble_eq_true rfl) (by omega) (by decide) (by decide) (kA fun o102 s103 hw => ?_)
  refine g_astoreQ (lv' := [(4, rq X o102), (0, .ref (xB X + 0)), (1, .int x1), (2, .int x2), (3, .int x3)]) hC dX11_sheet_5 (hN 4 (by decide)) rfl ?_
  refine g_aloadQ hC dX11_sheet_7 rfl ?_
  rcases o102 with _ | r104
  · replace hw := hw.1 rfl
    refine g_ifnullN (tgt := 22) hC dX11_sheet_9 rfl ?_
    refine g_bipush (v := (-2)) hC dX11_sheet_22 (by decide) ?_
    exact g_iret hC rfl (by decide) (by decide) dX11_sheet_24 (fun _ => ⟨_, rfl, hw⟩)
  · replace hw := hw.2 r104 rfl
    refine g_ifnullR hC dX11_sheet_9 ?_
    refine g_iload_n hC dX11_sheet_12 rfl ?_
    refine g_iconst (v := (-1)) hC dX11_sheet_13 (by decide) ?_
    refine g_icmp_lt (tgt := 22) hC dX11_sheet_14 rfl (fun c => ?_) (fun c => ?_)
    · replace hw := hw.1 c
      refine g_bipush (v := (-2)) hC dX11_sheet_22 (by decide) ?_
      exact g_iret hC rfl (by decide) (by decide) dX11_sheet_24 (fun _ => ⟨_, rfl, hw⟩)
    · replace hw := hw.2 c
      refine g_iload_n hC dX11_sheet_17 rfl ?_
      refine g_iconst (v := 2) hC dX11_sheet_18 (by decide) ?_
      refine g_icmp_le (tgt := 25) hC dX11_sheet_19 rfl (fun c => ?_) (fun c => ?_)
      · replace hw := hw.1 c
        refine g_iload_n hC dX11_sheet_25 rfl ?_
        refine g_iconst (v := (-1)) hC dX11_sheet_26 (by decide) ?_
        refine g_icmp_ne (tgt := 39) hC dX11_sheet_27 rfl (fun c => ?_) (fun c => ?_)
        · replace hw := hw.1 c
          refine g_iload_n hC dX11_sheet_39 rfl ?_
          refine g_bipush (v := 40) hC dX11_sheet_40 (by decide) ?_
          refine g_icmp_le (tgt := 48) hC dX11_sheet_42 rfl (fun c => ?_) (fun c => ?_)
          · replace hw := hw.1 c
            refine g_iload_n hC dX11_sheet_48 rfl ?_
            refine g_if_ge (tgt := 55) hC dX11_sheet_49 rfl (fun c => ?_) (fun c => ?_)
            · replace hw := hw.1 c
              refine g_aload hC dX11_sheet_55 rfl ?_
              refine g_iload_n hC dX11_sheet_57 rfl ?_
              refine g_iload_n hC dX11_sheet_58 rfl ?_
              refine mG.st (st1 := ([.int x2, .int x3] : List Value).reverse ++ .ref (xB X + r104) :: []) rfl ?_
              have hw0 := hw.1
              replace hw := hw.2
              refine g_callV (As := [.int x2, .int x3]) (st := []) hC hw0 (by decide) ycl_7_X7_become yw_X7_become yv_X7_become tw_435 dX11_sheet_59 (fun _ h => h) (fun _ h => h) (fun h => h) (c_X7_become (d := 1) (Nat.le_refl _) hw) rfl (Nat.le_of_ble_eq_true rfl) (by omega) (by decide) (by decide) (kV fun s107 hw => ?_)
              refine g_iconst (v := 1) hC dX11_sheet_62 (by decide) ?_
              exact g_iret hC rfl (by decide) (by decide) dX11_sheet_63 (fun _ => ⟨_, rfl, hw⟩)
            · replace hw := hw.2 c
              refine g_bipush (v := (-14)) hC dX11_sheet_52 (by decide) ?_
              exact g_iret hC rfl (by decide) (by decide) dX11_sheet_54 (fun _ => ⟨_, rfl, hw⟩)
          · replace hw := hw.2 c
            refine g_bipush (v := (-2)) hC dX11_sheet_45 (by decide) ?_
            exact g_iret hC rfl (by decide) (by decide) dX11_sheet_47 (fun _ => ⟨_, rfl, hw⟩)
        · replace hw := hw.2 c
          refine g_aload hC dX11_sheet_30 rfl ?_
          refine g_iconst (v := (-1)) hC dX11_sheet_32 (by decide) ?_
          refine g_iconst (v := 0) hC dX11_sheet_33 (by decide) ?_
          refine mG.st (st1 := ([.int (-1), .int 0] : List Value).reverse ++ .ref (xB X + r104) :: []) rfl ?_
          have hw0 := hw.1
          replace hw := hw.2
          refine g_callV (As := [.int (-1), .int 0]) (st := []) hC hw0 (by decide) ycl_7_X7_become yw_X7_become yv_X7_become tw_435 dX11_sheet_34 (fun _ h => h) (fun _ h => h) (fun h => h) (c_X7_become (d := 1) (Nat.le_refl _) hw) rfl (Nat.le_of_ble_eq_true rfl) (by omega) (by decide) (by decide) (kV fun s110 hw => ?_)
          refine g_iconst (v := 1) hC dX11_sheet_37 (by decide) ?_
          exact g_iret hC rfl (by decide) (by decide) dX11_sheet_38 (fun _ => ⟨_, rfl, hw⟩)
      · replace hw := hw.2 c
        refine g_bipush (v := (-2)) hC dX11_sheet_22 (by decide) ?_
        exact g_iret hC rfl (by decide) (by decide) dX11_sheet_24 (fun _ => ⟨_, rfl, hw⟩)
set_option maxRecDepth 4000 in
theorem c_X11_sheet {Z : Fx} {ps ts : List (Nat × Nat × Nat)} {d : Nat} (hd : 2 ≤ d) (hP : ∀ e ∈ psG, e ∈ ps) (hT : ∀ e ∈ tsG, e ∈ ts) (hF : ∀ e ∈ ps, e ∈ psA) {σ : Mem} {x1 : Int32} {x2 : Int32} {x3 : Int32} {Q : Int32 → Mem → Prop} (hw : w_X11_sheet σ x1 x2 x3 Q) : mM Z ps ts yX11_sheet cX11_sheet 5 (some .int) d 0 0 [.ref (Z.2.2 + 0), .int x1, .int x2, .int x3] σ (qI Q) := by
  refine mM.of (by decide) (Nat.le_of_ble_eq_true rfl) rfl (fun X hZ hp ht hn hC => ?_)
  subst hZ; subst hp; subst ht
  exact t_X11_sheet hC hd (fun i h => by rw [hn]; exact h) hP hT hF hw
def w_X11_cell (σ : Mem) (x1 : Int32) (x2 : Int32) (x3 : Int32) (Q : Int32 → Mem → Prop) : Prop := w_X11_sheetAt σ x1 (fun o102 s103 => (o102 = none → (Q (-2) s103)) ∧ (∀ r104 : Nat, o102 = some r104 → (mT s103 r104 = some (7, 0) ∧ (w_X7_isMissing s103 r104 (fun v105 s107 => (v105 = 0 → (mT s107 r104 = some (7, 0) ∧ (w_X7_has s107 r104 x2 (fun v108 s110 => (¬ v108 = 0 → (mT s110 r104 = some (7, 0) ∧ (w_X7_put s110 r104 x2 x3 (fun s113 => Q 1 s113)))) ∧ (v108 = 0 → (Q (-12) s110)))))) ∧ (¬ v105 = 0 → (Q (-11) s107)))))))
set_option maxRecDepth 4000 in
set_option maxHeartbeats 2000000 in
theorem t_X11_cell {X : Cx} {d : Nat} (hC : mOK X cX11_cell RX11 "cell" (some .int) d 0 0) (hd : 2 ≤ d) (hN : ∀ i, i < 5 → i < xN X) (hP : ∀ e ∈ psG, e ∈ xP X) (hT : ∀ e ∈ tsG, e ∈ xT X) (hF : ∀ e ∈ xP X, e ∈ psA) {σ : Mem} {x1 : Int32} {x2 : Int32} {x3 : Int32} {Q : Int32 → Mem → Prop} (hw : w_X11_cell σ x1 x2 x3 Q) : mG X 0 [(0, .ref (xB X + 0)), (1, .int x1), (2, .int x2), (3, .int x3)] [] σ 0 0 (mQ X 0 0 (qI Q)) := by
  refine g_aload_n hC dX11_cell_0 rfl ?_
  refine g_iload_n hC dX11_cell_1 rfl ?_
  refine g_known (fun hS => ?_)
  refine mG.st (st1 := ([.int x1] : List Value).reverse ++ .ref (xB X + 0) :: []) rfl ?_
  refine g_callV (As := [.int x1]) (st := []) hC (hS.2 _ (hT _ tg_G_0)) (by decide) ycl_11_X11_sheetAt yw_X11_sheetAt yv_X11_sheetAt tw_383 dX11_cell_2 (fun _ h => h) (fun _ h => h) (fun h => h) (c_X11_sheetAt (d := 0) (Nat.le_refl _) hP hT hF hw) rfl (Nat.le_of_ble_eq_true rfl) (by omega) (by decide) (by decide) (kA fun o102 s103 hw => ?_)
  refine g_astoreQ (lv' := [(4, rq X o102), (0, .ref (xB X + 0)), (1, .int x1), (2, .int x2), (3, .int x3)]) hC dX11_cell_5 (hN 4 (by decide)) rfl ?_
  refine g_aloadQ hC dX11_cell_7 rfl ?_
  rcases o102 with _ | r104
  · replace hw := hw.1 rfl
    refine g_ifnonnullN hC dX11_cell_9 ?_
    refine g_bipush (v := (-2)) hC dX11_cell_12 (by decide) ?_
    exact g_iret hC rfl (by decide) (by decide) dX11_cell_14 (fun _ => ⟨_, rfl, hw⟩)
  · replace hw := hw.2 r104 rfl
    refine g_ifnonnullR (tgt := 15) hC dX11_cell_9 rfl ?_
    refine g_aload hC dX11_cell_15 rfl ?_
    refine mG.st (st1 := ([] : List Value).reverse ++ .ref (xB X + r104) :: []) rfl ?_
    have hw0 := hw.1
    replace hw := hw.2
    refine g_callV (As := []) (st := []) hC hw0 (by decide) ycl_7_X7_isMissing yw_X7_isMissing yv_X7_isMissing tw_385 dX11_cell_17 (fun _ h => h) (fun _ h => h) (fun h => h) (c_X7_isMissing (d := 0) (Nat.le_refl _) hw) rfl (Nat.le_of_ble_eq_true rfl) (by omega) (by decide) (by decide) (kI fun v105 s107 hw => ?_)
    refine g_if_eq (tgt := 26) hC dX11_cell_20 rfl (fun c => ?_) (fun c => ?_)
    · replace hw := hw.1 c
      refine g_aload hC dX11_cell_26 rfl ?_
      refine g_iload_n hC dX11_cell_28 rfl ?_
      refine mG.st (st1 := ([.int x2] : List Value).reverse ++ .ref (xB X + r104) :: []) rfl ?_
      have hw0 := hw.1
      replace hw := hw.2
      refine g_callV (As := [.int x2]) (st := []) hC hw0 (by decide) ycl_7_X7_has yw_X7_has yv_X7_has tw_444 dX11_cell_29 (fun _ h => h) (fun _ h => h) (fun h => h) (c_X7_has (d := 0) (Nat.le_refl _) hw) rfl (Nat.le_of_ble_eq_true rfl) (by omega) (by decide) (by decide) (kI fun v108 s110 hw => ?_)
      refine g_if_ne (tgt := 38) hC dX11_cell_32 rfl (fun c => ?_) (fun c => ?_)
      · replace hw := hw.1 c
        refine g_aload hC dX11_cell_38 rfl ?_
        refine g_iload_n hC dX11_cell_40 rfl ?_
        refine g_iload_n hC dX11_cell_41 rfl ?_
        refine mG.st (st1 := ([.int x2, .int x3] : List Value).reverse ++ .ref (xB X + r104) :: []) rfl ?_
        have hw0 := hw.1
        replace hw := hw.2
        refine g_callV (As := [.int x2, .int x3]) (st := []) hC hw0 (by decide) ycl_7_X7_put yw_X7_put yv_X7_put tw_445 dX11_cell_42 (fun _ h => h) (fun _ h => h) (fun h => h) (c_X7_put (d := 1) (Nat.le_refl _) hw) rfl (Nat.le_of_ble_eq_true rfl) (by omega) (by decide) (by decide) (kV fun s113 hw => ?_)
        refine g_iconst (v := 1) hC dX11_cell_45 (by decide) ?_
        exact g_iret hC rfl (by decide) (by decide) dX11_cell_46 (fun _ => ⟨_, rfl, hw⟩)
      · replace hw := hw.2 c
        refine g_bipush (v := (-12)) hC dX11_cell_35 (by decide) ?_
        exact g_iret hC rfl (by decide) (by decide) dX11_cell_37 (fun _ => ⟨_, rfl, hw⟩)
    · replace hw := hw.2 c
      refine g_bipush (v := (-11)) hC dX11_cell_23 (by decide) ?_
      exact g_iret hC rfl (by decide) (by decide) dX11_cell_25 (fun _ => ⟨_, rfl, hw⟩)
set_option maxRecDepth 4000 in
theorem c_X11_cell {Z : Fx} {ps ts : List (Nat × Nat × Nat)} {d : Nat} (hd : 2 ≤ d) (hP : ∀ e ∈ psG, e ∈ ps) (hT : ∀ e ∈ tsG, e ∈ ts) (hF : ∀ e ∈ ps, e ∈ psA) {σ : Mem} {x1 : Int32} {x2 : Int32} {x3 : Int32} {Q : Int32 → Mem → Prop} (hw : w_X11_cell σ x1 x2 x3 Q) : mM Z ps ts yX11_cell cX11_cell 5 (some .int) d 0 0 [.ref (Z.2.2 + 0), .int x1, .int x2, .int x3] σ (qI Q) := by
  refine mM.of (by decide) (Nat.le_of_ble_eq_true rfl) rfl (fun X hZ hp ht hn hC => ?_)
  subst hZ; subst hp; subst ht
  exact t_X11_cell hC hd (fun i h => by rw [hn]; exact h) hP hT hF hw
def w_X11_copy (σ : Mem) (x1 : Int32) (x2 : Int32) (x3 : Int32) (x4 : Int32) (x5 : Int32) (Q : Int32 → Mem → Prop) : Prop := w_X11_sheetAt σ x1 (fun o102 s103 => w_X11_sheetAt s103 x3 (fun o105 s106 => (o102 = none → (Q (-2) s106)) ∧ (∀ r107 : Nat, o102 = some r107 → ((o105 = none → (Q (-2) s106)) ∧ (∀ r108 : Nat, o105 = some r108 → (mT s106 r107 = some (7, 0) ∧ (w_X7_isMissing s106 r107 (fun v109 s111 => (¬ v109 = 0 → (Q (-11) s111)) ∧ (v109 = 0 → (mT s111 r108 = some (7, 0) ∧ (w_X7_isMissing s111 r108 (fun v112 s114 => (v112 = 0 → (mT s114 r107 = some (7, 0) ∧ (mT s114 r108 = some (7, 0) ∧ (((mI s114 r107 1) = (mI s114 r108 1) → (mT s114 r107 = some (7, 0) ∧ (w_X7_hasSpan s114 r107 x2 x5 (fun v115 s117 => (v115 = 0 → (Q (-12) s117)) ∧ (¬ v115 = 0 → (mT s117 r108 = some (7, 0) ∧ (w_X7_hasSpan s117 r108 x4 x5 (fun v118 s120 => (¬ v118 = 0 → (mT s120 r107 = some (7, 0) ∧ ∃ r121 : Nat, (mP s120 r107 0) = some r121 ∧ (mT s120 r108 = some (7, 0) ∧ ∃ r122 : Nat, (mP s120 r108 0) = some r122 ∧ (∃ n123 : Nat, mT s120 r121 = some (14, n123) ∧ ∃ n124 : Nat, mT s120 r122 = some (14, n124) ∧ ((¬ x2 < 0 ∧ ¬ x4 < 0 ∧ ¬ x5 < 0 ∧ Int32.toNatClampNeg x2 + Int32.toNatClampNeg x5 ≤ n123 ∧ Int32.toNatClampNeg x4 + Int32.toNatClampNeg x5 ≤ n124) ∧ (Q x5 (sR s120 r122 (va_cpy (s120.1 r121) (s120.1 r122) (Int32.toNatClampNeg x2) (Int32.toNatClampNeg x4) (Int32.toNatClampNeg x5))))))))) ∧ (v118 = 0 → (Q (-12) s120)))))))))) ∧ (¬ (mI s114 r107 1) = (mI s114 r108 1) → (Q (-13) s114)))))) ∧ (¬ v112 = 0 → (Q (-11) s114))))))))))))))
set_option maxRecDepth 4000 in
set_option maxHeartbeats 2000000 in
theorem t_X11_copy {X : Cx} {d : Nat} (hC : mOK X cX11_copy RX11 "copy" (some .int) d 0 0) (hd : 1 ≤ d) (hN : ∀ i, i < 8 → i < xN X) (hP : ∀ e ∈ psG, e ∈ xP X) (hT : ∀ e ∈ tsG, e ∈ xT X) (hF : ∀ e ∈ xP X, e ∈ psA) {σ : Mem} {x1 : Int32} {x2 : Int32} {x3 : Int32} {x4 : Int32} {x5 : Int32} {Q : Int32 → Mem → Prop} (hw : w_X11_copy σ x1 x2 x3 x4 x5 Q) : mG X 0 [(0, .ref (xB X + 0)), (1, .int x1), (2, .int x2), (3, .int x3), (4, .int x4), (5, .int x5)] [] σ 0 0 (mQ X 0 0 (qI Q)) := by
  refine g_aload_n hC dX11_copy_0 rfl ?_
  refine g_iload_n hC dX11_copy_1 rfl ?_
  refine g_known (fun hS => ?_)
  refine mG.st (st1 := ([.int x1] : List Value).reverse ++ .ref (xB X + 0) :: []) rfl ?_
  refine g_callV (As := [.int x1]) (st := []) hC (hS.2 _ (hT _ tg_G_0)) (by decide) ycl_11_X11_sheetAt yw_X11_sheetAt yv_X11_sheetAt tw_383 dX11_copy_2 (fun _ h => h) (fun _ h => h) (fun h => h) (c_X11_sheetAt (d := 0) (Nat.le_refl _) hP hT hF hw) rfl (Nat.le_of_ble_eq_true rfl) (by omega) (by decide) (by decide) (kA fun o102 s103 hw => ?_)
  refine g_astoreQ (lv' := [(6, rq X o102), (0, .ref (xB X + 0)), (1, .int x1), (2, .int x2), (3, .int x3), (4, .int x4), (5, .int x5)]) hC dX11_copy_5 (hN 6 (by decide)) rfl ?_
  refine g_aload_n hC dX11_copy_7 rfl ?_
  refine g_iload_n hC dX11_copy_8 rfl ?_
  refine g_known (fun hS => ?_)
  refine mG.st (st1 := ([.int x3] : List Value).reverse ++ .ref (xB X + 0) :: []) rfl ?_
  refine g_callV (As := [.int x3]) (st := []) hC (hS.2 _ (hT _ tg_G_0)) (by decide) ycl_11_X11_sheetAt yw_X11_sheetAt yv_X11_sheetAt tw_383 dX11_copy_9 (fun _ h => h) (fun _ h => h) (fun h => h) (c_X11_sheetAt (d := 0) (Nat.le_refl _) hP hT hF hw) rfl (Nat.le_of_ble_eq_true rfl) (by omega) (by decide) (by decide) (kA fun o105 s106 hw => ?_)
  refine g_astoreQ (lv' := [(7, rq X o105), (6, rq X o102), (0, .ref (xB X + 0)), (1, .int x1), (2, .int x2), (3, .int x3), (4, .int x4), (5, .int x5)]) hC dX11_copy_12 (hN 7 (by decide)) (by cases o102 <;> rfl) ?_
  refine g_aloadQ hC dX11_copy_14 rfl ?_
  rcases o102 with _ | r107
  · replace hw := hw.1 rfl
    refine g_ifnullN (tgt := 24) hC dX11_copy_16 rfl ?_
    refine g_bipush (v := (-2)) hC dX11_copy_24 (by decide) ?_
    exact g_iret hC rfl (by decide) (by decide) dX11_copy_26 (fun _ => ⟨_, rfl, hw⟩)
  · replace hw := hw.2 r107 rfl
    refine g_ifnullR hC dX11_copy_16 ?_
    refine g_aloadQ hC dX11_copy_19 rfl ?_
    rcases o105 with _ | r108
    · replace hw := hw.1 rfl
      refine g_ifnonnullN hC dX11_copy_21 ?_
      refine g_bipush (v := (-2)) hC dX11_copy_24 (by decide) ?_
      exact g_iret hC rfl (by decide) (by decide) dX11_copy_26 (fun _ => ⟨_, rfl, hw⟩)
    · replace hw := hw.2 r108 rfl
      refine g_ifnonnullR (tgt := 27) hC dX11_copy_21 rfl ?_
      refine g_aload hC dX11_copy_27 rfl ?_
      refine mG.st (st1 := ([] : List Value).reverse ++ .ref (xB X + r107) :: []) rfl ?_
      have hw0 := hw.1
      replace hw := hw.2
      refine g_callV (As := []) (st := []) hC hw0 (by decide) ycl_7_X7_isMissing yw_X7_isMissing yv_X7_isMissing tw_385 dX11_copy_29 (fun _ h => h) (fun _ h => h) (fun h => h) (c_X7_isMissing (d := 0) (Nat.le_refl _) hw) rfl (Nat.le_of_ble_eq_true rfl) (by omega) (by decide) (by decide) (kI fun v109 s111 hw => ?_)
      refine g_if_ne (tgt := 43) hC dX11_copy_32 rfl (fun c => ?_) (fun c => ?_)
      · replace hw := hw.1 c
        refine g_bipush (v := (-11)) hC dX11_copy_43 (by decide) ?_
        exact g_iret hC rfl (by decide) (by decide) dX11_copy_45 (fun _ => ⟨_, rfl, hw⟩)
      · replace hw := hw.2 c
        refine g_aload hC dX11_copy_35 rfl ?_
        refine mG.st (st1 := ([] : List Value).reverse ++ .ref (xB X + r108) :: []) rfl ?_
        have hw0 := hw.1
        replace hw := hw.2
        refine g_callV (As := []) (st := []) hC hw0 (by decide) ycl_7_X7_isMissing yw_X7_isMissing yv_X7_isMissing tw_385 dX11_copy_37 (fun _ h => h) (fun _ h => h) (fun h => h) (c_X7_isMissing (d := 0) (Nat.le_refl _) hw) rfl (Nat.le_of_ble_eq_true rfl) (by omega) (by decide) (by decide) (kI fun v112 s114 hw => ?_)
        refine g_if_eq (tgt := 46) hC dX11_copy_40 rfl (fun c => ?_) (fun c => ?_)
        · replace hw := hw.1 c
          refine g_aload hC dX11_copy_46 rfl ?_
          refine g_getiv (v := (mI s114 r107 1)) hC fl_X11_350_7.s hw.1 rfl dX11_copy_48 ?_
          replace hw := hw.2
          refine g_aload hC dX11_copy_51 rfl ?_
          refine g_getiv (v := (mI s114 r108 1)) hC fl_X11_350_7.s hw.1 rfl dX11_copy_53 ?_
          replace hw := hw.2
          refine g_icmp_eq (tgt := 62) hC dX11_copy_56 rfl (fun c => ?_) (fun c => ?_)
          · replace hw := hw.1 c
            refine g_aload hC dX11_copy_62 rfl ?_
            refine g_iload_n hC dX11_copy_64 rfl ?_
            refine g_iload hC dX11_copy_65 rfl ?_
            refine mG.st (st1 := ([.int x2, .int x5] : List Value).reverse ++ .ref (xB X + r107) :: []) rfl ?_
            have hw0 := hw.1
            replace hw := hw.2
            refine g_callV (As := [.int x2, .int x5]) (st := []) hC hw0 (by decide) ycl_7_X7_hasSpan yw_X7_hasSpan yv_X7_hasSpan tw_453 dX11_copy_67 (fun _ h => h) (fun _ h => h) (fun h => h) (c_X7_hasSpan (d := 0) (Nat.le_refl _) hw) rfl (Nat.le_of_ble_eq_true rfl) (by omega) (by decide) (by decide) (kI fun v115 s117 hw => ?_)
            refine g_if_eq (tgt := 85) hC dX11_copy_70 rfl (fun c => ?_) (fun c => ?_)
            · replace hw := hw.1 c
              refine g_bipush (v := (-12)) hC dX11_copy_85 (by decide) ?_
              exact g_iret hC rfl (by decide) (by decide) dX11_copy_87 (fun _ => ⟨_, rfl, hw⟩)
            · replace hw := hw.2 c
              refine g_aload hC dX11_copy_73 rfl ?_
              refine g_iload hC dX11_copy_75 rfl ?_
              refine g_iload hC dX11_copy_77 rfl ?_
              refine mG.st (st1 := ([.int x4, .int x5] : List Value).reverse ++ .ref (xB X + r108) :: []) rfl ?_
              have hw0 := hw.1
              replace hw := hw.2
              refine g_callV (As := [.int x4, .int x5]) (st := []) hC hw0 (by decide) ycl_7_X7_hasSpan yw_X7_hasSpan yv_X7_hasSpan tw_453 dX11_copy_79 (fun _ h => h) (fun _ h => h) (fun h => h) (c_X7_hasSpan (d := 0) (Nat.le_refl _) hw) rfl (Nat.le_of_ble_eq_true rfl) (by omega) (by decide) (by decide) (kI fun v118 s120 hw => ?_)
              refine g_if_ne (tgt := 88) hC dX11_copy_82 rfl (fun c => ?_) (fun c => ?_)
              · replace hw := hw.1 c
                refine g_aload hC dX11_copy_88 rfl ?_
                obtain ⟨htg, r121, hpt, hw⟩ := hw
                refine g_getr hC fl_X11_294_7.s htg hpt dX11_copy_90 ?_
                refine g_iload_n hC dX11_copy_93 rfl ?_
                refine g_aload hC dX11_copy_94 rfl ?_
                obtain ⟨htg, r122, hpt, hw⟩ := hw
                refine g_getr hC fl_X11_294_7.s htg hpt dX11_copy_96 ?_
                refine g_iload hC dX11_copy_99 rfl ?_
                refine g_iload hC dX11_copy_101 rfl ?_
                obtain ⟨n123, htg0, hw⟩ := hw
                obtain ⟨n124, htg1, hw⟩ := hw
                obtain ⟨⟨q1, q2, q3, q4, q5⟩, hw⟩ := hw
                refine g_known (fun hS => ?_)
                refine g_copy hC htg0 htg1 tw_340 tw_220 tw_221 tw_222 q1 q2 q3 q4 q5 (by omega) (Nat.le_of_ble_eq_true rfl) dX11_copy_103 ?_
                refine g_iload hC dX11_copy_106 rfl ?_
                exact g_iret hC rfl (by decide) (by decide) dX11_copy_108 (fun _ => ⟨_, rfl, hw⟩)
              · replace hw := hw.2 c
                refine g_bipush (v := (-12)) hC dX11_copy_85 (by decide) ?_
                exact g_iret hC rfl (by decide) (by decide) dX11_copy_87 (fun _ => ⟨_, rfl, hw⟩)
          · replace hw := hw.2 c
            refine g_bipush (v := (-13)) hC dX11_copy_59 (by decide) ?_
            exact g_iret hC rfl (by decide) (by decide) dX11_copy_61 (fun _ => ⟨_, rfl, hw⟩)
        · replace hw := hw.2 c
          refine g_bipush (v := (-11)) hC dX11_copy_43 (by decide) ?_
          exact g_iret hC rfl (by decide) (by decide) dX11_copy_45 (fun _ => ⟨_, rfl, hw⟩)
set_option maxRecDepth 4000 in
theorem c_X11_copy {Z : Fx} {ps ts : List (Nat × Nat × Nat)} {d : Nat} (hd : 1 ≤ d) (hP : ∀ e ∈ psG, e ∈ ps) (hT : ∀ e ∈ tsG, e ∈ ts) (hF : ∀ e ∈ ps, e ∈ psA) {σ : Mem} {x1 : Int32} {x2 : Int32} {x3 : Int32} {x4 : Int32} {x5 : Int32} {Q : Int32 → Mem → Prop} (hw : w_X11_copy σ x1 x2 x3 x4 x5 Q) : mM Z ps ts yX11_copy cX11_copy 8 (some .int) d 0 0 [.ref (Z.2.2 + 0), .int x1, .int x2, .int x3, .int x4, .int x5] σ (qI Q) := by
  refine mM.of (by decide) (Nat.le_of_ble_eq_true rfl) rfl (fun X hZ hp ht hn hC => ?_)
  subst hZ; subst hp; subst ht
  exact t_X11_copy hC hd (fun i h => by rw [hn]; exact h) hP hT hF hw
def w_X11_plates_150 (Q : Int32 → Mem → Prop) (K65 : Int32 → Int32 → Nat → Int32 → Int32 → Mem → Prop) (x3 : Int32) (x4 : Int32) (a5 : Nat) (x6 : Int32) (x7 : Int32) (σ : Mem) : Prop := K65 x3 x4 a5 x6 (x7 + 1) σ
set_option maxRecDepth 4000 in
set_option maxHeartbeats 2000000 in
theorem t_X11_plates_150 {X : Cx} {d : Nat} (hC : mOK X cX11_plates RX11 "plates" (some .int) d 0 0) (hd : 2 ≤ d) (hN : ∀ i, i < 8 → i < xN X) (hP : ∀ e ∈ psG, e ∈ xP X) (hT : ∀ e ∈ tsG, e ∈ xT X) (hF : ∀ e ∈ xP X, e ∈ psA) {Q : Int32 → Mem → Prop} {K65 : Int32 → Int32 → Nat → Int32 → Int32 → Mem → Prop} (hK65 : ∀ (x3 : Int32) (x4 : Int32) (a5 : Nat) (x6 : Int32) (x7 : Int32) (s : Mem), K65 x3 x4 a5 x6 x7 s → mG X 65 [(0, .ref (xB X + 0)), (3, .int x3), (4, .int x4), (5, .ref (xB X + a5)), (6, .int x6), (7, .int x7)] [] s 0 0 (mQ X 0 0 (qI Q))) {x3 : Int32} {x4 : Int32} {a5 : Nat} {x6 : Int32} {x7 : Int32} {σ : Mem} (hw : w_X11_plates_150 Q K65 x3 x4 a5 x6 x7 σ) : mG X 150 [(0, .ref (xB X + 0)), (3, .int x3), (4, .int x4), (5, .ref (xB X + a5)), (6, .int x6), (7, .int x7)] [] σ 0 0 (mQ X 0 0 (qI Q)) := by
  refine g_iinc (v := x7 + 1) (lv' := [(7, .int (x7 + 1)), (0, .ref (xB X + 0)), (3, .int x3), (4, .int x4), (5, .ref (xB X + a5)), (6, .int x6)]) hC dX11_plates_150 rfl rfl (hN 7 (by decide)) rfl ?_
  refine g_goto (tgt := 65) hC dX11_plates_153 rfl ?_
  refine mG.pick (lv' := [(0, .ref (xB X + 0)), (3, .int x3), (4, .int x4), (5, .ref (xB X + a5)), (6, .int x6), (7, .int (x7 + 1))]) [1, 2, 3, 4, 5, 0] rfl ?_
  exact hK65 _ _ _ _ _ _ hw
def w_X11_plates_65 (Q : Int32 → Mem → Prop) : Nat → Int32 → Int32 → Nat → Int32 → Int32 → Mem → Prop
  | 0, _, _, _, _, _, _ => False
  | n + 1, x3, x4, a5, x6, x7, σ => (x4 ≤ x7 → (Q x6 σ)) ∧ (¬ x4 ≤ x7 → (mT σ a5 = some (7, 0) ∧ (w_X7_has σ a5 x3 (fun v101 s103 => (v101 = 0 → (Q (-12) s103)) ∧ (¬ v101 = 0 → (mT s103 a5 = some (7, 0) ∧ (w_X7_has s103 a5 (x3 + (2 * x7)) (fun v104 s106 => (v104 = 0 → (Q (-12) s106)) ∧ (¬ v104 = 0 → (mT s106 a5 = some (7, 0) ∧ (w_X7_has s106 a5 ((x3 + (2 * x7)) + 1) (fun v107 s109 => (¬ v107 = 0 → (mT s109 a5 = some (7, 0) ∧ ∃ r110 : Nat, (mP s109 a5 0) = some r110 ∧ (∃ n111 : Nat, mT s109 r110 = some (14, n111) ∧ vp_in (x3 + (2 * x7)) n111 ∧ (mT s109 a5 = some (7, 0) ∧ ∃ r112 : Nat, (mP s109 a5 0) = some r112 ∧ (∃ n113 : Nat, mT s109 r112 = some (14, n113) ∧ vp_in ((x3 + (2 * x7)) + 1) n113 ∧ (w_X11_plate s109 (mI s109 r110 (Int32.toNatClampNeg (x3 + (2 * x7)))) (mI s109 r112 (Int32.toNatClampNeg ((x3 + (2 * x7)) + 1))) (fun v114 s116 => (v114 < 0 → (w_X11_plates_150 Q (fun z0 z1 z2 z3 z4 z5 => w_X11_plates_65 Q n z0 z1 z2 z3 z4 z5) x3 x4 a5 x6 x7 s116)) ∧ (¬ v114 < 0 → (w_X11_plates_150 Q (fun z0 z1 z2 z3 z4 z5 => w_X11_plates_65 Q n z0 z1 z2 z3 z4 z5) x3 x4 a5 (x6 + 1) x7 s116))))))))) ∧ (v107 = 0 → (Q (-12) s109))))))))))))))
set_option maxRecDepth 4000 in
set_option maxHeartbeats 2000000 in
theorem t_X11_plates_65 {X : Cx} {d : Nat} (hC : mOK X cX11_plates RX11 "plates" (some .int) d 0 0) (hd : 2 ≤ d) (hN : ∀ i, i < 8 → i < xN X) (hP : ∀ e ∈ psG, e ∈ xP X) (hT : ∀ e ∈ tsG, e ∈ xT X) (hF : ∀ e ∈ xP X, e ∈ psA) {Q : Int32 → Mem → Prop} : ∀ (n : Nat) (x3 : Int32) (x4 : Int32) (a5 : Nat) (x6 : Int32) (x7 : Int32) (σ : Mem), w_X11_plates_65 Q n x3 x4 a5 x6 x7 σ → mG X 65 [(0, .ref (xB X + 0)), (3, .int x3), (4, .int x4), (5, .ref (xB X + a5)), (6, .int x6), (7, .int x7)] [] σ 0 0 (mQ X 0 0 (qI Q)) := by
  intro n
  induction n with
  | zero => intro x3 x4 a5 x6 x7 σ hw; exact False.elim hw
  | succ n ih =>
    intro x3 x4 a5 x6 x7 σ hw
    rw [w_X11_plates_65] at hw
    refine g_iload hC dX11_plates_65 rfl ?_
    refine g_iload hC dX11_plates_67 rfl ?_
    refine g_icmp_ge (tgt := 156) hC dX11_plates_69 rfl (fun c => ?_) (fun c => ?_)
    · replace hw := hw.1 c
      refine g_iload hC dX11_plates_156 rfl ?_
      exact g_iret hC rfl (by decide) (by decide) dX11_plates_158 (fun _ => ⟨_, rfl, hw⟩)
    · replace hw := hw.2 c
      refine g_aload hC dX11_plates_72 rfl ?_
      refine g_iload_n hC dX11_plates_74 rfl ?_
      refine mG.st (st1 := ([.int x3] : List Value).reverse ++ .ref (xB X + a5) :: []) rfl ?_
      have hw0 := hw.1
      replace hw := hw.2
      refine g_callV (As := [.int x3]) (st := []) hC hw0 (by decide) ycl_7_X7_has yw_X7_has yv_X7_has tw_444 dX11_plates_75 (fun _ h => h) (fun _ h => h) (fun h => h) (c_X7_has (d := 0) (Nat.le_refl _) hw) rfl (Nat.le_of_ble_eq_true rfl) (by omega) (by decide) (by decide) (kI fun v101 s103 hw => ?_)
      refine g_if_eq (tgt := 111) hC dX11_plates_78 rfl (fun c => ?_) (fun c => ?_)
      · replace hw := hw.1 c
        refine g_bipush (v := (-12)) hC dX11_plates_111 (by decide) ?_
        exact g_iret hC rfl (by decide) (by decide) dX11_plates_113 (fun _ => ⟨_, rfl, hw⟩)
      · replace hw := hw.2 c
        refine g_aload hC dX11_plates_81 rfl ?_
        refine g_iload_n hC dX11_plates_83 rfl ?_
        refine g_iconst (v := 2) hC dX11_plates_84 (by decide) ?_
        refine g_iload hC dX11_plates_85 rfl ?_
        refine g_imul hC dX11_plates_87 ?_
        refine g_iadd hC dX11_plates_88 ?_
        refine mG.st (st1 := ([.int (x3 + (2 * x7))] : List Value).reverse ++ .ref (xB X + a5) :: []) rfl ?_
        have hw0 := hw.1
        replace hw := hw.2
        refine g_callV (As := [.int (x3 + (2 * x7))]) (st := []) hC hw0 (by decide) ycl_7_X7_has yw_X7_has yv_X7_has tw_444 dX11_plates_89 (fun _ h => h) (fun _ h => h) (fun h => h) (c_X7_has (d := 0) (Nat.le_refl _) hw) rfl (Nat.le_of_ble_eq_true rfl) (by omega) (by decide) (by decide) (kI fun v104 s106 hw => ?_)
        refine g_if_eq (tgt := 111) hC dX11_plates_92 rfl (fun c => ?_) (fun c => ?_)
        · replace hw := hw.1 c
          refine g_bipush (v := (-12)) hC dX11_plates_111 (by decide) ?_
          exact g_iret hC rfl (by decide) (by decide) dX11_plates_113 (fun _ => ⟨_, rfl, hw⟩)
        · replace hw := hw.2 c
          refine g_aload hC dX11_plates_95 rfl ?_
          refine g_iload_n hC dX11_plates_97 rfl ?_
          refine g_iconst (v := 2) hC dX11_plates_98 (by decide) ?_
          refine g_iload hC dX11_plates_99 rfl ?_
          refine g_imul hC dX11_plates_101 ?_
          refine g_iadd hC dX11_plates_102 ?_
          refine g_iconst (v := 1) hC dX11_plates_103 (by decide) ?_
          refine g_iadd hC dX11_plates_104 ?_
          refine mG.st (st1 := ([.int ((x3 + (2 * x7)) + 1)] : List Value).reverse ++ .ref (xB X + a5) :: []) rfl ?_
          have hw0 := hw.1
          replace hw := hw.2
          refine g_callV (As := [.int ((x3 + (2 * x7)) + 1)]) (st := []) hC hw0 (by decide) ycl_7_X7_has yw_X7_has yv_X7_has tw_444 dX11_plates_105 (fun _ h => h) (fun _ h => h) (fun h => h) (c_X7_has (d := 0) (Nat.le_refl _) hw) rfl (Nat.le_of_ble_eq_true rfl) (by omega) (by decide) (by decide) (kI fun v107 s109 hw => ?_)
          refine g_if_ne (tgt := 114) hC dX11_plates_108 rfl (fun c => ?_) (fun c => ?_)
          · replace hw := hw.1 c
            refine g_aload_n hC dX11_plates_114 rfl ?_
            refine g_aload hC dX11_plates_115 rfl ?_
            obtain ⟨htg, r110, hpt, hw⟩ := hw
            refine g_getr hC fl_X11_294_7.s htg hpt dX11_plates_117 ?_
            refine g_iload_n hC dX11_plates_120 rfl ?_
            refine g_iconst (v := 2) hC dX11_plates_121 (by decide) ?_
            refine g_iload hC dX11_plates_122 rfl ?_
            refine g_imul hC dX11_plates_124 ?_
            refine g_iadd hC dX11_plates_125 ?_
            obtain ⟨n111, htg, hin, hw⟩ := hw
            refine g_ialdKv (v := (mI s109 r110 (Int32.toNatClampNeg (x3 + (2 * x7))))) hC htg rfl hin rfl dX11_plates_126 ?_
            refine g_aload hC dX11_plates_127 rfl ?_
            obtain ⟨htg, r112, hpt, hw⟩ := hw
            refine g_getr hC fl_X11_294_7.s htg hpt dX11_plates_129 ?_
            refine g_iload_n hC dX11_plates_132 rfl ?_
            refine g_iconst (v := 2) hC dX11_plates_133 (by decide) ?_
            refine g_iload hC dX11_plates_134 rfl ?_
            refine g_imul hC dX11_plates_136 ?_
            refine g_iadd hC dX11_plates_137 ?_
            refine g_iconst (v := 1) hC dX11_plates_138 (by decide) ?_
            refine g_iadd hC dX11_plates_139 ?_
            obtain ⟨n113, htg, hin, hw⟩ := hw
            refine g_ialdKv (v := (mI s109 r112 (Int32.toNatClampNeg ((x3 + (2 * x7)) + 1)))) hC htg rfl hin rfl dX11_plates_140 ?_
            refine g_known (fun hS => ?_)
            refine mG.st (st1 := ([.int (mI s109 r110 (Int32.toNatClampNeg (x3 + (2 * x7)))), .int (mI s109 r112 (Int32.toNatClampNeg ((x3 + (2 * x7)) + 1)))] : List Value).reverse ++ .ref (xB X + 0) :: []) rfl ?_
            refine g_callV (As := [.int (mI s109 r110 (Int32.toNatClampNeg (x3 + (2 * x7)))), .int (mI s109 r112 (Int32.toNatClampNeg ((x3 + (2 * x7)) + 1)))]) (st := []) hC (hS.2 _ (hT _ tg_G_0)) (by decide) ycl_11_X11_plate yw_X11_plate yv_X11_plate tw_458 dX11_plates_141 (fun _ h => h) (fun _ h => h) (fun h => h) (c_X11_plate (d := 1) (Nat.le_refl _) hP hT hF hw) rfl (Nat.le_of_ble_eq_true rfl) (by omega) (by decide) (by decide) (kI fun v114 s116 hw => ?_)
            refine g_if_lt (tgt := 150) hC dX11_plates_144 rfl (fun c => ?_) (fun c => ?_)
            · replace hw := hw.1 c
              refine mG.pick (lv' := [(0, .ref (xB X + 0)), (3, .int x3), (4, .int x4), (5, .ref (xB X + a5)), (6, .int x6), (7, .int x7)]) [0, 1, 2, 3, 4, 5] rfl ?_
              exact t_X11_plates_150 hC hd hN hP hT hF ih hw
            · replace hw := hw.2 c
              refine g_iinc (v := x6 + 1) (lv' := [(6, .int (x6 + 1)), (0, .ref (xB X + 0)), (3, .int x3), (4, .int x4), (5, .ref (xB X + a5)), (7, .int x7)]) hC dX11_plates_147 rfl rfl (hN 6 (by decide)) rfl ?_
              refine mG.pick (lv' := [(0, .ref (xB X + 0)), (3, .int x3), (4, .int x4), (5, .ref (xB X + a5)), (6, .int (x6 + 1)), (7, .int x7)]) [1, 2, 3, 4, 0, 5] rfl ?_
              exact t_X11_plates_150 hC hd hN hP hT hF ih hw
          · replace hw := hw.2 c
            refine g_bipush (v := (-12)) hC dX11_plates_111 (by decide) ?_
            exact g_iret hC rfl (by decide) (by decide) dX11_plates_113 (fun _ => ⟨_, rfl, hw⟩)
def w_X11_plates (σ : Mem) (x1 : Int32) (x2 : Int32) (x3 : Int32) (x4 : Int32) (Q : Int32 → Mem → Prop) : Prop := w_X11_sheetAt σ x1 (fun o102 s103 => (o102 = none → (Q (-2) s103)) ∧ (∀ r104 : Nat, o102 = some r104 → ((x2 < 0 → (Q (-2) s103)) ∧ (¬ x2 < 0 → ((2 < x2 → (Q (-2) s103)) ∧ (¬ 2 < x2 → ((x4 < 0 → (Q (-2) s103)) ∧ (¬ x4 < 0 → ((x4 ≤ 8 → (mT s103 r104 = some (7, 0) ∧ (w_X7_isMissing s103 r104 (fun v105 s107 => (v105 = 0 → (mT s107 r104 = some (7, 0) ∧ (((mI s107 r104 1) = x2 → (∃ m108 : Nat, w_X11_plates_65 Q m108 x3 x4 r104 0 0 s107)) ∧ (¬ (mI s107 r104 1) = x2 → (Q (-13) s107))))) ∧ (¬ v105 = 0 → (Q (-11) s107)))))) ∧ (¬ x4 ≤ 8 → (Q (-2) s103)))))))))))
set_option maxRecDepth 4000 in
set_option maxHeartbeats 2000000 in
theorem t_X11_plates {X : Cx} {d : Nat} (hC : mOK X cX11_plates RX11 "plates" (some .int) d 0 0) (hd : 2 ≤ d) (hN : ∀ i, i < 8 → i < xN X) (hP : ∀ e ∈ psG, e ∈ xP X) (hT : ∀ e ∈ tsG, e ∈ xT X) (hF : ∀ e ∈ xP X, e ∈ psA) {σ : Mem} {x1 : Int32} {x2 : Int32} {x3 : Int32} {x4 : Int32} {Q : Int32 → Mem → Prop} (hw : w_X11_plates σ x1 x2 x3 x4 Q) : mG X 0 [(0, .ref (xB X + 0)), (1, .int x1), (2, .int x2), (3, .int x3), (4, .int x4)] [] σ 0 0 (mQ X 0 0 (qI Q)) := by
  refine g_aload_n hC dX11_plates_0 rfl ?_
  refine g_iload_n hC dX11_plates_1 rfl ?_
  refine g_known (fun hS => ?_)
  refine mG.st (st1 := ([.int x1] : List Value).reverse ++ .ref (xB X + 0) :: []) rfl ?_
  refine g_callV (As := [.int x1]) (st := []) hC (hS.2 _ (hT _ tg_G_0)) (by decide) ycl_11_X11_sheetAt yw_X11_sheetAt yv_X11_sheetAt tw_383 dX11_plates_2 (fun _ h => h) (fun _ h => h) (fun h => h) (c_X11_sheetAt (d := 0) (Nat.le_refl _) hP hT hF hw) rfl (Nat.le_of_ble_eq_true rfl) (by omega) (by decide) (by decide) (kA fun o102 s103 hw => ?_)
  refine g_astoreQ (lv' := [(5, rq X o102), (0, .ref (xB X + 0)), (1, .int x1), (2, .int x2), (3, .int x3), (4, .int x4)]) hC dX11_plates_5 (hN 5 (by decide)) rfl ?_
  refine g_aloadQ hC dX11_plates_7 rfl ?_
  rcases o102 with _ | r104
  · replace hw := hw.1 rfl
    refine g_ifnullN (tgt := 33) hC dX11_plates_9 rfl ?_
    refine g_bipush (v := (-2)) hC dX11_plates_33 (by decide) ?_
    exact g_iret hC rfl (by decide) (by decide) dX11_plates_35 (fun _ => ⟨_, rfl, hw⟩)
  · replace hw := hw.2 r104 rfl
    refine g_ifnullR hC dX11_plates_9 ?_
    refine g_iload_n hC dX11_plates_12 rfl ?_
    refine g_if_lt (tgt := 33) hC dX11_plates_13 rfl (fun c => ?_) (fun c => ?_)
    · replace hw := hw.1 c
      refine g_bipush (v := (-2)) hC dX11_plates_33 (by decide) ?_
      exact g_iret hC rfl (by decide) (by decide) dX11_plates_35 (fun _ => ⟨_, rfl, hw⟩)
    · replace hw := hw.2 c
      refine g_iload_n hC dX11_plates_16 rfl ?_
      refine g_iconst (v := 2) hC dX11_plates_17 (by decide) ?_
      refine g_icmp_gt (tgt := 33) hC dX11_plates_18 rfl (fun c => ?_) (fun c => ?_)
      · replace hw := hw.1 c
        refine g_bipush (v := (-2)) hC dX11_plates_33 (by decide) ?_
        exact g_iret hC rfl (by decide) (by decide) dX11_plates_35 (fun _ => ⟨_, rfl, hw⟩)
      · replace hw := hw.2 c
        refine g_iload hC dX11_plates_21 rfl ?_
        refine g_if_lt (tgt := 33) hC dX11_plates_23 rfl (fun c => ?_) (fun c => ?_)
        · replace hw := hw.1 c
          refine g_bipush (v := (-2)) hC dX11_plates_33 (by decide) ?_
          exact g_iret hC rfl (by decide) (by decide) dX11_plates_35 (fun _ => ⟨_, rfl, hw⟩)
        · replace hw := hw.2 c
          refine g_iload hC dX11_plates_26 rfl ?_
          refine g_bipush (v := 8) hC dX11_plates_28 (by decide) ?_
          refine g_icmp_le (tgt := 36) hC dX11_plates_30 rfl (fun c => ?_) (fun c => ?_)
          · replace hw := hw.1 c
            refine g_aload hC dX11_plates_36 rfl ?_
            refine mG.st (st1 := ([] : List Value).reverse ++ .ref (xB X + r104) :: []) rfl ?_
            have hw0 := hw.1
            replace hw := hw.2
            refine g_callV (As := []) (st := []) hC hw0 (by decide) ycl_7_X7_isMissing yw_X7_isMissing yv_X7_isMissing tw_385 dX11_plates_38 (fun _ h => h) (fun _ h => h) (fun h => h) (c_X7_isMissing (d := 0) (Nat.le_refl _) hw) rfl (Nat.le_of_ble_eq_true rfl) (by omega) (by decide) (by decide) (kI fun v105 s107 hw => ?_)
            refine g_if_eq (tgt := 47) hC dX11_plates_41 rfl (fun c => ?_) (fun c => ?_)
            · replace hw := hw.1 c
              refine g_aload hC dX11_plates_47 rfl ?_
              refine g_getiv (v := (mI s107 r104 1)) hC fl_X11_350_7.s hw.1 rfl dX11_plates_49 ?_
              replace hw := hw.2
              refine g_iload_n hC dX11_plates_52 rfl ?_
              refine g_icmp_eq (tgt := 59) hC dX11_plates_53 rfl (fun c => ?_) (fun c => ?_)
              · replace hw := hw.1 c
                refine g_iconst (v := 0) hC dX11_plates_59 (by decide) ?_
                refine g_istore (lv' := [(6, .int 0), (5, .ref (xB X + r104)), (0, .ref (xB X + 0)), (1, .int x1), (2, .int x2), (3, .int x3), (4, .int x4)]) hC dX11_plates_60 (hN 6 (by decide)) rfl ?_
                refine g_iconst (v := 0) hC dX11_plates_62 (by decide) ?_
                refine g_istore (lv' := [(7, .int 0), (6, .int 0), (5, .ref (xB X + r104)), (0, .ref (xB X + 0)), (1, .int x1), (2, .int x2), (3, .int x3), (4, .int x4)]) hC dX11_plates_63 (hN 7 (by decide)) rfl ?_
                refine mG.pick (lv' := [(0, .ref (xB X + 0)), (3, .int x3), (4, .int x4), (5, .ref (xB X + r104)), (6, .int 0), (7, .int 0)]) [3, 6, 7, 2, 1, 0] rfl ?_
                obtain ⟨m108, hw⟩ := hw
                exact t_X11_plates_65 hC hd hN hP hT hF m108 _ _ _ _ _ _ hw
              · replace hw := hw.2 c
                refine g_bipush (v := (-13)) hC dX11_plates_56 (by decide) ?_
                exact g_iret hC rfl (by decide) (by decide) dX11_plates_58 (fun _ => ⟨_, rfl, hw⟩)
            · replace hw := hw.2 c
              refine g_bipush (v := (-11)) hC dX11_plates_44 (by decide) ?_
              exact g_iret hC rfl (by decide) (by decide) dX11_plates_46 (fun _ => ⟨_, rfl, hw⟩)
          · replace hw := hw.2 c
            refine g_bipush (v := (-2)) hC dX11_plates_33 (by decide) ?_
            exact g_iret hC rfl (by decide) (by decide) dX11_plates_35 (fun _ => ⟨_, rfl, hw⟩)
set_option maxRecDepth 4000 in
theorem c_X11_plates {Z : Fx} {ps ts : List (Nat × Nat × Nat)} {d : Nat} (hd : 2 ≤ d) (hP : ∀ e ∈ psG, e ∈ ps) (hT : ∀ e ∈ tsG, e ∈ ts) (hF : ∀ e ∈ ps, e ∈ psA) {σ : Mem} {x1 : Int32} {x2 : Int32} {x3 : Int32} {x4 : Int32} {Q : Int32 → Mem → Prop} (hw : w_X11_plates σ x1 x2 x3 x4 Q) : mM Z ps ts yX11_plates cX11_plates 8 (some .int) d 0 0 [.ref (Z.2.2 + 0), .int x1, .int x2, .int x3, .int x4] σ (qI Q) := by
  refine mM.of (by decide) (Nat.le_of_ble_eq_true rfl) rfl (fun X hZ hp ht hn hC => ?_)
  subst hZ; subst hp; subst ht
  exact t_X11_plates hC hd (fun i h => by rw [hn]; exact h) hP hT hF hw
def w_X11_isUnder (σ : Mem) (a0 : Nat) (x1 : Int32) (Q : Int32 → Mem → Prop) : Prop := (x1 = 0 → (Q 1 σ)) ∧ (x1 = 1 → (∃ ci101 : Nat, lyK ci101 ∧ mT σ a0 = some (ci101, 0) ∧ (bz (if subX ci101 4 = true then 1 else 0) ∧ Q (if subX ci101 4 = true then 1 else 0) σ))) ∧ (x1 = 2 → (∃ ci102 : Nat, lyK ci102 ∧ mT σ a0 = some (ci102, 0) ∧ (bz (if subX ci102 0 = true then 1 else 0) ∧ Q (if subX ci102 0 = true then 1 else 0) σ))) ∧ (x1 = 3 → (∃ ci103 : Nat, lyK ci103 ∧ mT σ a0 = some (ci103, 0) ∧ (bz (if subX ci103 2 = true then 1 else 0) ∧ Q (if subX ci103 2 = true then 1 else 0) σ))) ∧ (x1 = 4 → (∃ ci104 : Nat, lyK ci104 ∧ mT σ a0 = some (ci104, 0) ∧ (bz (if subX ci104 10 = true then 1 else 0) ∧ Q (if subX ci104 10 = true then 1 else 0) σ))) ∧ (x1 = 5 → (∃ ci105 : Nat, lyK ci105 ∧ mT σ a0 = some (ci105, 0) ∧ (bz (if subX ci105 8 = true then 1 else 0) ∧ Q (if subX ci105 8 = true then 1 else 0) σ))) ∧ (¬ x1 = 0 → ¬ x1 = 1 → ¬ x1 = 2 → ¬ x1 = 3 → ¬ x1 = 4 → ¬ x1 = 5 → (Q 0 σ))
set_option maxRecDepth 4000 in
set_option maxHeartbeats 2000000 in
theorem t_X11_isUnder {X : Cx} {d : Nat} (hC : mOK X cX11_isUnder RX11 "isUnder" (some .boolean) d 0 0) (hd : 0 ≤ d) (hN : ∀ i, i < 2 → i < xN X) {σ : Mem} {a0 : Nat} {x1 : Int32} {Q : Int32 → Mem → Prop} (hw : w_X11_isUnder σ a0 x1 Q) : mG X 0 [(0, .ref (xB X + a0)), (1, .int x1)] [] σ 0 0 (mQ X 0 0 (qI Q)) := by
  refine g_iload_n hC dX11_isUnder_0 rfl ?_
  by_cases c0 : x1 = 0
  · replace hw := hw.1 c0
    refine g_tableIn (tgt := 40) hC dX11_isUnder_1 0 c0 (by decide) (by decide) rfl rfl ?_
    refine g_iconst (v := 1) hC dX11_isUnder_40 (by decide) ?_
    exact g_iret hC bz1 (by decide) (by decide) dX11_isUnder_41 (fun _ => ⟨_, rfl, hw⟩)
  by_cases c1 : x1 = 1
  · replace hw := hw.2.1 c1
    refine g_tableIn (tgt := 42) hC dX11_isUnder_1 1 c1 (by decide) (by decide) rfl rfl ?_
    refine g_aload_n hC dX11_isUnder_42 rfl ?_
    obtain ⟨ci101, hly, htg, hw⟩ := hw
    refine g_inst hC htg (asl_4 hly).1 tw_46 (asl_4 hly).2 dX11_isUnder_43 ?_
    exact g_iret hC hw.1 (by decide) (by decide) dX11_isUnder_46 (fun _ => ⟨_, rfl, hw.2⟩)
  by_cases c2 : x1 = 2
  · replace hw := hw.2.2.1 c2
    refine g_tableIn (tgt := 47) hC dX11_isUnder_1 2 c2 (by decide) (by decide) rfl rfl ?_
    refine g_aload_n hC dX11_isUnder_47 rfl ?_
    obtain ⟨ci102, hly, htg, hw⟩ := hw
    refine g_inst hC htg (asl_0 hly).1 tw_52 (asl_0 hly).2 dX11_isUnder_48 ?_
    exact g_iret hC hw.1 (by decide) (by decide) dX11_isUnder_51 (fun _ => ⟨_, rfl, hw.2⟩)
  by_cases c3 : x1 = 3
  · replace hw := hw.2.2.2.1 c3
    refine g_tableIn (tgt := 52) hC dX11_isUnder_1 3 c3 (by decide) (by decide) rfl rfl ?_
    refine g_aload_n hC dX11_isUnder_52 rfl ?_
    obtain ⟨ci103, hly, htg, hw⟩ := hw
    refine g_inst hC htg (asl_2 hly).1 tw_59 (asl_2 hly).2 dX11_isUnder_53 ?_
    exact g_iret hC hw.1 (by decide) (by decide) dX11_isUnder_56 (fun _ => ⟨_, rfl, hw.2⟩)
  by_cases c4 : x1 = 4
  · replace hw := hw.2.2.2.2.1 c4
    refine g_tableIn (tgt := 57) hC dX11_isUnder_1 4 c4 (by decide) (by decide) rfl rfl ?_
    refine g_aload_n hC dX11_isUnder_57 rfl ?_
    obtain ⟨ci104, hly, htg, hw⟩ := hw
    refine g_inst hC htg (asl_10 hly).1 tw_66 (asl_10 hly).2 dX11_isUnder_58 ?_
    exact g_iret hC hw.1 (by decide) (by decide) dX11_isUnder_61 (fun _ => ⟨_, rfl, hw.2⟩)
  by_cases c5 : x1 = 5
  · replace hw := hw.2.2.2.2.2.1 c5
    refine g_tableIn (tgt := 62) hC dX11_isUnder_1 5 c5 (by decide) (by decide) rfl rfl ?_
    refine g_aload_n hC dX11_isUnder_62 rfl ?_
    obtain ⟨ci105, hly, htg, hw⟩ := hw
    refine g_inst hC htg (asl_8 hly).1 tw_73 (asl_8 hly).2 dX11_isUnder_63 ?_
    exact g_iret hC hw.1 (by decide) (by decide) dX11_isUnder_66 (fun _ => ⟨_, rfl, hw.2⟩)
  replace hw := hw.2.2.2.2.2.2 c0 c1 c2 c3 c4 c5
  refine g_tableOut (tgt := 67) hC dX11_isUnder_1 (sw_out 0 5 x1 (by decide) [0, 1, 2, 3, 4, 5] (by decide) (List.forall_mem_cons.mpr ⟨c0, (List.forall_mem_cons.mpr ⟨c1, (List.forall_mem_cons.mpr ⟨c2, (List.forall_mem_cons.mpr ⟨c3, (List.forall_mem_cons.mpr ⟨c4, (List.forall_mem_cons.mpr ⟨c5, (fun k h => absurd h List.not_mem_nil)⟩)⟩)⟩)⟩)⟩)⟩)) rfl ?_
  refine g_iconst (v := 0) hC dX11_isUnder_67 (by decide) ?_
  exact g_iret hC bz0 (by decide) (by decide) dX11_isUnder_68 (fun _ => ⟨_, rfl, hw⟩)
set_option maxRecDepth 4000 in
theorem c_X11_isUnder {Z : Fx} {ps ts : List (Nat × Nat × Nat)} {d : Nat} (hd : 0 ≤ d) {σ : Mem} {a0 : Nat} {x1 : Int32} {Q : Int32 → Mem → Prop} (hw : w_X11_isUnder σ a0 x1 Q) : mM Z ps ts yX11_isUnder cX11_isUnder 2 (some .boolean) d 0 0 [.ref (Z.2.2 + a0), .int x1] σ (qI Q) := by
  refine mM.of (by decide) (Nat.le_of_ble_eq_true rfl) rfl (fun X hZ hp ht hn hC => ?_)
  subst hZ; subst hp; subst ht
  exact t_X11_isUnder hC hd (fun i h => by rw [hn]; exact h) hw
def w_X11_taken (σ : Mem) (x1 : Int32) (x2 : Int32) (Q : Int32 → Mem → Prop) : Prop := (x2 < 0 → (Q (-2) σ)) ∧ (¬ x2 < 0 → ((x2 ≤ 5 → (w_X11_layerAt σ x1 (fun o102 s103 => (o102 = none → (Q (-11) s103)) ∧ (∀ r104 : Nat, o102 = some r104 → (w_X11_isUnder s103 r104 x2 (fun v105 s107 => (v105 = 0 → (Q (-13) s107)) ∧ (¬ v105 = 0 → (∃ ci108 : Nat, lyK ci108 ∧ mT s107 r104 = some (ci108, 0) ∧ (Q (mI s107 r104 1) s107))))))))) ∧ (¬ x2 ≤ 5 → (Q (-2) σ))))
set_option maxRecDepth 4000 in
set_option maxHeartbeats 2000000 in
theorem t_X11_taken {X : Cx} {d : Nat} (hC : mOK X cX11_taken RX11 "taken" (some .int) d 0 0) (hd : 1 ≤ d) (hN : ∀ i, i < 4 → i < xN X) (hP : ∀ e ∈ psG, e ∈ xP X) (hT : ∀ e ∈ tsG, e ∈ xT X) (hF : ∀ e ∈ xP X, e ∈ psA) {σ : Mem} {x1 : Int32} {x2 : Int32} {Q : Int32 → Mem → Prop} (hw : w_X11_taken σ x1 x2 Q) : mG X 0 [(0, .ref (xB X + 0)), (1, .int x1), (2, .int x2)] [] σ 0 0 (mQ X 0 0 (qI Q)) := by
  refine g_iload_n hC dX11_taken_0 rfl ?_
  refine g_if_lt (tgt := 9) hC dX11_taken_1 rfl (fun c => ?_) (fun c => ?_)
  · replace hw := hw.1 c
    refine g_bipush (v := (-2)) hC dX11_taken_9 (by decide) ?_
    exact g_iret hC rfl (by decide) (by decide) dX11_taken_11 (fun _ => ⟨_, rfl, hw⟩)
  · replace hw := hw.2 c
    refine g_iload_n hC dX11_taken_4 rfl ?_
    refine g_iconst (v := 5) hC dX11_taken_5 (by decide) ?_
    refine g_icmp_le (tgt := 12) hC dX11_taken_6 rfl (fun c => ?_) (fun c => ?_)
    · replace hw := hw.1 c
      refine g_aload_n hC dX11_taken_12 rfl ?_
      refine g_iload_n hC dX11_taken_13 rfl ?_
      refine g_known (fun hS => ?_)
      refine mG.st (st1 := ([.int x1] : List Value).reverse ++ .ref (xB X + 0) :: []) rfl ?_
      refine g_callV (As := [.int x1]) (st := []) hC (hS.2 _ (hT _ tg_G_0)) (by decide) ycl_11_X11_layerAt yw_X11_layerAt yv_X11_layerAt tw_126 dX11_taken_14 (fun _ h => h) (fun _ h => h) (fun h => h) (c_X11_layerAt (d := 0) (Nat.le_refl _) hP hT hF hw) rfl (Nat.le_of_ble_eq_true rfl) (by omega) (by decide) (by decide) (kA fun o102 s103 hw => ?_)
      refine g_astore_nQ (lv' := [(3, rq X o102), (0, .ref (xB X + 0)), (1, .int x1), (2, .int x2)]) hC dX11_taken_17 (hN 3 (by decide)) rfl ?_
      refine g_aload_nQ hC dX11_taken_18 rfl ?_
      rcases o102 with _ | r104
      · replace hw := hw.1 rfl
        refine g_ifnonnullN hC dX11_taken_19 ?_
        refine g_bipush (v := (-11)) hC dX11_taken_22 (by decide) ?_
        exact g_iret hC rfl (by decide) (by decide) dX11_taken_24 (fun _ => ⟨_, rfl, hw⟩)
      · replace hw := hw.2 r104 rfl
        refine g_ifnonnullR (tgt := 25) hC dX11_taken_19 rfl ?_
        refine g_aload_n hC dX11_taken_25 rfl ?_
        refine g_iload_n hC dX11_taken_26 rfl ?_
        refine mG.st (st1 := ([.ref (xB X + r104), .int x2] : List Value).reverse ++ []) rfl ?_
        refine g_callS (As := [.ref (xB X + r104), .int x2]) (st := []) hC yw_X11_isUnder ys_X11_isUnder tw_462 dX11_taken_27 (fun _ h => h) (fun _ h => h) (fun h => h) (c_X11_isUnder (d := 0) (Nat.le_refl _) hw) rfl (Nat.le_of_ble_eq_true rfl) (by omega) (by decide) (by decide) (kI fun v105 s107 hw => ?_)
        refine g_if_eq (tgt := 40) hC dX11_taken_30 rfl (fun c => ?_) (fun c => ?_)
        · replace hw := hw.1 c
          refine g_bipush (v := (-13)) hC dX11_taken_40 (by decide) ?_
          exact g_iret hC rfl (by decide) (by decide) dX11_taken_42 (fun _ => ⟨_, rfl, hw⟩)
        · replace hw := hw.2 c
          refine g_aload_n hC dX11_taken_33 rfl ?_
          obtain ⟨ci108, hly, htg, hw⟩ := hw
          refine g_getiv (v := (mI s107 r104 1)) hC (fly_X11_128 hly) htg rfl dX11_taken_34 ?_
          refine g_goto (tgt := 42) hC dX11_taken_37 rfl ?_
          exact g_iret hC rfl (by decide) (by decide) dX11_taken_42 (fun _ => ⟨_, rfl, hw⟩)
    · replace hw := hw.2 c
      refine g_bipush (v := (-2)) hC dX11_taken_9 (by decide) ?_
      exact g_iret hC rfl (by decide) (by decide) dX11_taken_11 (fun _ => ⟨_, rfl, hw⟩)
set_option maxRecDepth 4000 in
theorem c_X11_taken {Z : Fx} {ps ts : List (Nat × Nat × Nat)} {d : Nat} (hd : 1 ≤ d) (hP : ∀ e ∈ psG, e ∈ ps) (hT : ∀ e ∈ tsG, e ∈ ts) (hF : ∀ e ∈ ps, e ∈ psA) {σ : Mem} {x1 : Int32} {x2 : Int32} {Q : Int32 → Mem → Prop} (hw : w_X11_taken σ x1 x2 Q) : mM Z ps ts yX11_taken cX11_taken 4 (some .int) d 0 0 [.ref (Z.2.2 + 0), .int x1, .int x2] σ (qI Q) := by
  refine mM.of (by decide) (Nat.le_of_ble_eq_true rfl) rfl (fun X hZ hp ht hn hC => ?_)
  subst hZ; subst hp; subst ht
  exact t_X11_taken hC hd (fun i h => by rw [hn]; exact h) hP hT hF hw
