def w_X12_isIn (σ : Mem) (x0 : Int32) (x1 : Int32) (x2 : Int32) (Q : Int32 → Mem → Prop) : Prop := (x0 < x1 → (Q 0 σ)) ∧ (¬ x0 < x1 → ((x2 < x0 → (Q 0 σ)) ∧ (¬ x2 < x0 → (Q 1 σ))))
set_option maxRecDepth 4000 in
set_option maxHeartbeats 2000000 in
theorem t_X12_isIn {X : Cx} {d : Nat} (hC : mOK X cX12_isIn RX12 "isIn" (some .boolean) d 0 0) (hd : 0 ≤ d) (hN : ∀ i, i < 3 → i < xN X) {σ : Mem} {x0 : Int32} {x1 : Int32} {x2 : Int32} {Q : Int32 → Mem → Prop} (hw : w_X12_isIn σ x0 x1 x2 Q) : mG X 0 [(0, .int x0), (1, .int x1), (2, .int x2)] [] σ 0 0 (mQ X 0 0 (qI Q)) := by
  refine g_iload_n hC dX12_isIn_0 rfl ?_
  refine g_iload_n hC dX12_isIn_1 rfl ?_
  refine g_icmp_lt (tgt := 14) hC dX12_isIn_2 rfl (fun c => ?_) (fun c => ?_)
  · replace hw := hw.1 c
    refine g_iconst (v := 0) hC dX12_isIn_14 (by decide) ?_
    exact g_iret hC bz0 (by decide) (by decide) dX12_isIn_15 (fun _ => ⟨_, rfl, hw⟩)
  · replace hw := hw.2 c
    refine g_iload_n hC dX12_isIn_5 rfl ?_
    refine g_iload_n hC dX12_isIn_6 rfl ?_
    refine g_icmp_gt (tgt := 14) hC dX12_isIn_7 rfl (fun c => ?_) (fun c => ?_)
    · replace hw := hw.1 c
      refine g_iconst (v := 0) hC dX12_isIn_14 (by decide) ?_
      exact g_iret hC bz0 (by decide) (by decide) dX12_isIn_15 (fun _ => ⟨_, rfl, hw⟩)
    · replace hw := hw.2 c
      refine g_iconst (v := 1) hC dX12_isIn_10 (by decide) ?_
      refine g_goto (tgt := 15) hC dX12_isIn_11 rfl ?_
      exact g_iret hC bz1 (by decide) (by decide) dX12_isIn_15 (fun _ => ⟨_, rfl, hw⟩)
set_option maxRecDepth 4000 in
theorem c_X12_isIn {Z : Fx} {ps ts : List (Nat × Nat × Nat)} {d : Nat} (hd : 0 ≤ d) {σ : Mem} {x0 : Int32} {x1 : Int32} {x2 : Int32} {Q : Int32 → Mem → Prop} (hw : w_X12_isIn σ x0 x1 x2 Q) : mM Z ps ts yX12_isIn cX12_isIn 3 (some .boolean) d 0 0 [.int x0, .int x1, .int x2] σ (qI Q) := by
  refine mM.of (by decide) (Nat.le_of_ble_eq_true rfl) rfl (fun X hZ hp ht hn hC => ?_)
  subst hZ; subst hp; subst ht
  exact t_X12_isIn hC hd (fun i h => by rw [hn]; exact h) hw
def w_X12_isPlate (σ : Mem) (x1 : Int32) (Q : Int32 → Mem → Prop) : Prop := w_X12_isIn σ x1 0 ((mI σ 37 0) - 1) (fun v101 s103 => bz v101 ∧ Q v101 s103)
set_option maxRecDepth 4000 in
set_option maxHeartbeats 2000000 in
theorem t_X12_isPlate {X : Cx} {d : Nat} (hC : mOK X cX12_isPlate RX12 "isPlate" (some .boolean) d 0 0) (hd : 1 ≤ d) (hN : ∀ i, i < 2 → i < xN X) (hP : ∀ e ∈ psM, e ∈ xP X) (hT : ∀ e ∈ tsM, e ∈ xT X) {σ : Mem} {x1 : Int32} {Q : Int32 → Mem → Prop} (hw : w_X12_isPlate σ x1 Q) : mG X 0 [(0, .ref (xB X + 37)), (1, .int x1)] [] σ 0 0 (mQ X 0 0 (qI Q)) := by
  refine g_iload_n hC dX12_isPlate_0 rfl ?_
  refine g_iconst (v := 0) hC dX12_isPlate_1 (by decide) ?_
  refine g_aload_n hC dX12_isPlate_2 rfl ?_
  refine g_getiSv (v := (mI σ 37 0)) hC fl_X12_1_12.s (hT _ tg_M_37) rfl dX12_isPlate_3 ?_
  refine g_iconst (v := 1) hC dX12_isPlate_6 (by decide) ?_
  refine g_isub hC dX12_isPlate_7 ?_
  refine mG.st (st1 := ([.int x1, .int 0, .int ((mI σ 37 0) - 1)] : List Value).reverse ++ []) rfl ?_
  refine g_callS (As := [.int x1, .int 0, .int ((mI σ 37 0) - 1)]) (st := []) hC yw_X12_isIn ys_X12_isIn tw_465 dX12_isPlate_8 (fun _ h => h) (fun _ h => h) (fun h => h) (c_X12_isIn (d := 0) (Nat.le_refl _) hw) rfl (Nat.le_of_ble_eq_true rfl) (by omega) (by decide) (by decide) (kI fun v101 s103 hw => ?_)
  exact g_iret hC hw.1 (by decide) (by decide) dX12_isPlate_11 (fun _ => ⟨_, rfl, hw.2⟩)
set_option maxRecDepth 4000 in
theorem c_X12_isPlate {Z : Fx} {ps ts : List (Nat × Nat × Nat)} {d : Nat} (hd : 1 ≤ d) (hP : ∀ e ∈ psM, e ∈ ps) (hT : ∀ e ∈ tsM, e ∈ ts) {σ : Mem} {x1 : Int32} {Q : Int32 → Mem → Prop} (hw : w_X12_isPlate σ x1 Q) : mM Z ps ts yX12_isPlate cX12_isPlate 2 (some .boolean) d 0 0 [.ref (Z.2.2 + 37), .int x1] σ (qI Q) := by
  refine mM.of (by decide) (Nat.le_of_ble_eq_true rfl) rfl (fun X hZ hp ht hn hC => ?_)
  subst hZ; subst hp; subst ht
  exact t_X12_isPlate hC hd (fun i h => by rw [hn]; exact h) hP hT hw
def w_X12_isLayer (σ : Mem) (x1 : Int32) (Q : Int32 → Mem → Prop) : Prop := w_X12_isIn σ x1 0 ((mI σ 37 3) - 1) (fun v101 s103 => bz v101 ∧ Q v101 s103)
set_option maxRecDepth 4000 in
set_option maxHeartbeats 2000000 in
theorem t_X12_isLayer {X : Cx} {d : Nat} (hC : mOK X cX12_isLayer RX12 "isLayer" (some .boolean) d 0 0) (hd : 1 ≤ d) (hN : ∀ i, i < 2 → i < xN X) (hP : ∀ e ∈ psM, e ∈ xP X) (hT : ∀ e ∈ tsM, e ∈ xT X) {σ : Mem} {x1 : Int32} {Q : Int32 → Mem → Prop} (hw : w_X12_isLayer σ x1 Q) : mG X 0 [(0, .ref (xB X + 37)), (1, .int x1)] [] σ 0 0 (mQ X 0 0 (qI Q)) := by
  refine g_iload_n hC dX12_isLayer_0 rfl ?_
  refine g_iconst (v := 0) hC dX12_isLayer_1 (by decide) ?_
  refine g_aload_n hC dX12_isLayer_2 rfl ?_
  refine g_getiSv (v := (mI σ 37 3)) hC fl_X12_11_12.s (hT _ tg_M_37) rfl dX12_isLayer_3 ?_
  refine g_iconst (v := 1) hC dX12_isLayer_6 (by decide) ?_
  refine g_isub hC dX12_isLayer_7 ?_
  refine mG.st (st1 := ([.int x1, .int 0, .int ((mI σ 37 3) - 1)] : List Value).reverse ++ []) rfl ?_
  refine g_callS (As := [.int x1, .int 0, .int ((mI σ 37 3) - 1)]) (st := []) hC yw_X12_isIn ys_X12_isIn tw_465 dX12_isLayer_8 (fun _ h => h) (fun _ h => h) (fun h => h) (c_X12_isIn (d := 0) (Nat.le_refl _) hw) rfl (Nat.le_of_ble_eq_true rfl) (by omega) (by decide) (by decide) (kI fun v101 s103 hw => ?_)
  exact g_iret hC hw.1 (by decide) (by decide) dX12_isLayer_11 (fun _ => ⟨_, rfl, hw.2⟩)
set_option maxRecDepth 4000 in
theorem c_X12_isLayer {Z : Fx} {ps ts : List (Nat × Nat × Nat)} {d : Nat} (hd : 1 ≤ d) (hP : ∀ e ∈ psM, e ∈ ps) (hT : ∀ e ∈ tsM, e ∈ ts) {σ : Mem} {x1 : Int32} {Q : Int32 → Mem → Prop} (hw : w_X12_isLayer σ x1 Q) : mM Z ps ts yX12_isLayer cX12_isLayer 2 (some .boolean) d 0 0 [.ref (Z.2.2 + 37), .int x1] σ (qI Q) := by
  refine mM.of (by decide) (Nat.le_of_ble_eq_true rfl) rfl (fun X hZ hp ht hn hC => ?_)
  subst hZ; subst hp; subst ht
  exact t_X12_isLayer hC hd (fun i h => by rw [hn]; exact h) hP hT hw
def w_X12_plate (σ : Mem) (x1 : Int32) (x2 : Int32) (Q : Int32 → Mem → Prop) : Prop := w_X12_isIn σ x1 0 99 (fun v101 s103 => (v101 = 0 → (Q (-2) s103)) ∧ (¬ v101 = 0 → (w_X12_isIn s103 x2 0 99 (fun v104 s106 => (¬ v104 = 0 → ((¬ (mI s106 37 0) = 8 → (vp_in (mI s106 37 0) 8 ∧ (vp_in (mI s106 37 0) 8 ∧ (Q (((mI s106 37 0) + 1) - 1) (sI (sI (sI s106 38 (Int32.toNatClampNeg (mI s106 37 0)) x1) 39 (Int32.toNatClampNeg (mI s106 37 0)) x2) 37 0 ((mI s106 37 0) + 1)))))) ∧ ((mI s106 37 0) = 8 → (Q (-4) s106)))) ∧ (v104 = 0 → (Q (-2) s106))))))
set_option maxRecDepth 4000 in
set_option maxHeartbeats 2000000 in
theorem t_X12_plate {X : Cx} {d : Nat} (hC : mOK X cX12_plate RX12 "plate" (some .int) d 0 0) (hd : 1 ≤ d) (hN : ∀ i, i < 3 → i < xN X) (hP : ∀ e ∈ psM, e ∈ xP X) (hT : ∀ e ∈ tsM, e ∈ xT X) {σ : Mem} {x1 : Int32} {x2 : Int32} {Q : Int32 → Mem → Prop} (hw : w_X12_plate σ x1 x2 Q) : mG X 0 [(0, .ref (xB X + 37)), (1, .int x1), (2, .int x2)] [] σ 0 0 (mQ X 0 0 (qI Q)) := by
  refine g_iload_n hC dX12_plate_0 rfl ?_
  refine g_iconst (v := 0) hC dX12_plate_1 (by decide) ?_
  refine g_bipush (v := 99) hC dX12_plate_2 (by decide) ?_
  refine mG.st (st1 := ([.int x1, .int 0, .int 99] : List Value).reverse ++ []) rfl ?_
  refine g_callS (As := [.int x1, .int 0, .int 99]) (st := []) hC yw_X12_isIn ys_X12_isIn tw_465 dX12_plate_4 (fun _ h => h) (fun _ h => h) (fun h => h) (c_X12_isIn (d := 0) (Nat.le_refl _) hw) rfl (Nat.le_of_ble_eq_true rfl) (by omega) (by decide) (by decide) (kI fun v101 s103 hw => ?_)
  refine g_if_eq (tgt := 20) hC dX12_plate_7 rfl (fun c => ?_) (fun c => ?_)
  · replace hw := hw.1 c
    refine g_bipush (v := (-2)) hC dX12_plate_20 (by decide) ?_
    exact g_iret hC rfl (by decide) (by decide) dX12_plate_22 (fun _ => ⟨_, rfl, hw⟩)
  · replace hw := hw.2 c
    refine g_iload_n hC dX12_plate_10 rfl ?_
    refine g_iconst (v := 0) hC dX12_plate_11 (by decide) ?_
    refine g_bipush (v := 99) hC dX12_plate_12 (by decide) ?_
    refine mG.st (st1 := ([.int x2, .int 0, .int 99] : List Value).reverse ++ []) rfl ?_
    refine g_callS (As := [.int x2, .int 0, .int 99]) (st := []) hC yw_X12_isIn ys_X12_isIn tw_465 dX12_plate_14 (fun _ h => h) (fun _ h => h) (fun h => h) (c_X12_isIn (d := 0) (Nat.le_refl _) hw) rfl (Nat.le_of_ble_eq_true rfl) (by omega) (by decide) (by decide) (kI fun v104 s106 hw => ?_)
    refine g_if_ne (tgt := 23) hC dX12_plate_17 rfl (fun c => ?_) (fun c => ?_)
    · replace hw := hw.1 c
      refine g_aload_n hC dX12_plate_23 rfl ?_
      refine g_getiSv (v := (mI s106 37 0)) hC fl_X12_1_12.s (hT _ tg_M_37) rfl dX12_plate_24 ?_
      refine g_bipush (v := 8) hC dX12_plate_27 (by decide) ?_
      refine g_icmp_ne (tgt := 35) hC dX12_plate_29 rfl (fun c => ?_) (fun c => ?_)
      · replace hw := hw.1 c
        refine g_aload_n hC dX12_plate_35 rfl ?_
        refine g_getrS hC fl_X12_14_12.s (hT _ tg_M_37) (hP _ pt_M_37_1) dX12_plate_36 ?_
        refine g_aload_n hC dX12_plate_39 rfl ?_
        refine g_getiSv (v := (mI s106 37 0)) hC fl_X12_1_12.s (hT _ tg_M_37) rfl dX12_plate_40 ?_
        refine g_iload_n hC dX12_plate_43 rfl ?_
        have hin := hw.1
        replace hw := hw.2
        refine g_iastS (k := (Int32.toNatClampNeg (mI s106 37 0))) hC (hT _ tg_M_38) rfl hin dX12_plate_44 ?_
        refine g_aload_n hC dX12_plate_45 rfl ?_
        refine g_getrS hC fl_X12_18_12.s (hT _ tg_M_37) (hP _ pt_M_37_2) dX12_plate_46 ?_
        refine g_aload_n hC dX12_plate_49 rfl ?_
        refine g_getiSv (v := (mI s106 37 0)) hC fl_X12_1_12.s (hT _ tg_M_37) (mI_sI_n _ _ (by decide)) dX12_plate_50 ?_
        refine g_iload_n hC dX12_plate_53 rfl ?_
        have hin := hw.1
        replace hw := hw.2
        refine g_iastS (k := (Int32.toNatClampNeg (mI s106 37 0))) hC (hT _ tg_M_39) rfl hin dX12_plate_54 ?_
        refine g_aload_n hC dX12_plate_55 rfl ?_
        refine g_dup hC dX12_plate_56 rfl ?_
        refine g_getiSv (v := (mI s106 37 0)) hC fl_X12_1_12.s (hT _ tg_M_37) ((mI_sI_n _ _ (by decide)).trans (mI_sI_n _ _ (by decide))) dX12_plate_57 ?_
        refine g_iconst (v := 1) hC dX12_plate_60 (by decide) ?_
        refine g_iadd hC dX12_plate_61 ?_
        refine g_putIS hC (fw_X12_1_12 _) (hT _ tg_M_37) rfl rfl dX12_plate_62 ?_
        refine g_aload_n hC dX12_plate_65 rfl ?_
        refine g_getiSv (v := ((mI s106 37 0) + 1)) hC fl_X12_1_12.s (hT _ tg_M_37) (mI_sI_s _ _ _ _) dX12_plate_66 ?_
        refine g_iconst (v := 1) hC dX12_plate_69 (by decide) ?_
        refine g_isub hC dX12_plate_70 ?_
        exact g_iret hC rfl (by decide) (by decide) dX12_plate_71 (fun _ => ⟨_, rfl, hw⟩)
      · replace hw := hw.2 c
        refine g_bipush (v := (-4)) hC dX12_plate_32 (by decide) ?_
        exact g_iret hC rfl (by decide) (by decide) dX12_plate_34 (fun _ => ⟨_, rfl, hw⟩)
    · replace hw := hw.2 c
      refine g_bipush (v := (-2)) hC dX12_plate_20 (by decide) ?_
      exact g_iret hC rfl (by decide) (by decide) dX12_plate_22 (fun _ => ⟨_, rfl, hw⟩)
set_option maxRecDepth 4000 in
theorem c_X12_plate {Z : Fx} {ps ts : List (Nat × Nat × Nat)} {d : Nat} (hd : 1 ≤ d) (hP : ∀ e ∈ psM, e ∈ ps) (hT : ∀ e ∈ tsM, e ∈ ts) {σ : Mem} {x1 : Int32} {x2 : Int32} {Q : Int32 → Mem → Prop} (hw : w_X12_plate σ x1 x2 Q) : mM Z ps ts yX12_plate cX12_plate 3 (some .int) d 0 0 [.ref (Z.2.2 + 37), .int x1, .int x2] σ (qI Q) := by
  refine mM.of (by decide) (Nat.le_of_ble_eq_true rfl) rfl (fun X hZ hp ht hn hC => ?_)
  subst hZ; subst hp; subst ht
  exact t_X12_plate hC hd (fun i h => by rw [hn]; exact h) hP hT hw
def w_X12_layer (σ : Mem) (x1 : Int32) (x2 : Int32) (Q : Int32 → Mem → Prop) : Prop := w_X12_isIn σ x1 0 5 (fun v101 s103 => (v101 = 0 → (Q (-2) s103)) ∧ (¬ v101 = 0 → (w_X12_isIn s103 x2 0 9 (fun v104 s106 => (¬ v104 = 0 → ((¬ (mI s106 37 3) = 5 → (vp_in (mI s106 37 3) 5 ∧ (vp_in (mI s106 37 3) 5 ∧ (Q (((mI s106 37 3) + 1) - 1) (sI (sI (sI s106 40 (Int32.toNatClampNeg (mI s106 37 3)) x1) 41 (Int32.toNatClampNeg (mI s106 37 3)) x2) 37 3 ((mI s106 37 3) + 1)))))) ∧ ((mI s106 37 3) = 5 → (Q (-4) s106)))) ∧ (v104 = 0 → (Q (-2) s106))))))
set_option maxRecDepth 4000 in
set_option maxHeartbeats 2000000 in
theorem t_X12_layer {X : Cx} {d : Nat} (hC : mOK X cX12_layer RX12 "layer" (some .int) d 0 0) (hd : 1 ≤ d) (hN : ∀ i, i < 3 → i < xN X) (hP : ∀ e ∈ psM, e ∈ xP X) (hT : ∀ e ∈ tsM, e ∈ xT X) {σ : Mem} {x1 : Int32} {x2 : Int32} {Q : Int32 → Mem → Prop} (hw : w_X12_layer σ x1 x2 Q) : mG X 0 [(0, .ref (xB X + 37)), (1, .int x1), (2, .int x2)] [] σ 0 0 (mQ X 0 0 (qI Q)) := by
  refine g_iload_n hC dX12_layer_0 rfl ?_
  refine g_iconst (v := 0) hC dX12_layer_1 (by decide) ?_
  refine g_iconst (v := 5) hC dX12_layer_2 (by decide) ?_
  refine mG.st (st1 := ([.int x1, .int 0, .int 5] : List Value).reverse ++ []) rfl ?_
  refine g_callS (As := [.int x1, .int 0, .int 5]) (st := []) hC yw_X12_isIn ys_X12_isIn tw_465 dX12_layer_3 (fun _ h => h) (fun _ h => h) (fun h => h) (c_X12_isIn (d := 0) (Nat.le_refl _) hw) rfl (Nat.le_of_ble_eq_true rfl) (by omega) (by decide) (by decide) (kI fun v101 s103 hw => ?_)
  refine g_if_eq (tgt := 19) hC dX12_layer_6 rfl (fun c => ?_) (fun c => ?_)
  · replace hw := hw.1 c
    refine g_bipush (v := (-2)) hC dX12_layer_19 (by decide) ?_
    exact g_iret hC rfl (by decide) (by decide) dX12_layer_21 (fun _ => ⟨_, rfl, hw⟩)
  · replace hw := hw.2 c
    refine g_iload_n hC dX12_layer_9 rfl ?_
    refine g_iconst (v := 0) hC dX12_layer_10 (by decide) ?_
    refine g_bipush (v := 9) hC dX12_layer_11 (by decide) ?_
    refine mG.st (st1 := ([.int x2, .int 0, .int 9] : List Value).reverse ++ []) rfl ?_
    refine g_callS (As := [.int x2, .int 0, .int 9]) (st := []) hC yw_X12_isIn ys_X12_isIn tw_465 dX12_layer_13 (fun _ h => h) (fun _ h => h) (fun h => h) (c_X12_isIn (d := 0) (Nat.le_refl _) hw) rfl (Nat.le_of_ble_eq_true rfl) (by omega) (by decide) (by decide) (kI fun v104 s106 hw => ?_)
    refine g_if_ne (tgt := 22) hC dX12_layer_16 rfl (fun c => ?_) (fun c => ?_)
    · replace hw := hw.1 c
      refine g_aload_n hC dX12_layer_22 rfl ?_
      refine g_getiSv (v := (mI s106 37 3)) hC fl_X12_11_12.s (hT _ tg_M_37) rfl dX12_layer_23 ?_
      refine g_iconst (v := 5) hC dX12_layer_26 (by decide) ?_
      refine g_icmp_ne (tgt := 33) hC dX12_layer_27 rfl (fun c => ?_) (fun c => ?_)
      · replace hw := hw.1 c
        refine g_aload_n hC dX12_layer_33 rfl ?_
        refine g_getrS hC fl_X12_21_12.s (hT _ tg_M_37) (hP _ pt_M_37_4) dX12_layer_34 ?_
        refine g_aload_n hC dX12_layer_37 rfl ?_
        refine g_getiSv (v := (mI s106 37 3)) hC fl_X12_11_12.s (hT _ tg_M_37) rfl dX12_layer_38 ?_
        refine g_iload_n hC dX12_layer_41 rfl ?_
        have hin := hw.1
        replace hw := hw.2
        refine g_iastS (k := (Int32.toNatClampNeg (mI s106 37 3))) hC (hT _ tg_M_40) rfl hin dX12_layer_42 ?_
        refine g_aload_n hC dX12_layer_43 rfl ?_
        refine g_getrS hC fl_X12_24_12.s (hT _ tg_M_37) (hP _ pt_M_37_5) dX12_layer_44 ?_
        refine g_aload_n hC dX12_layer_47 rfl ?_
        refine g_getiSv (v := (mI s106 37 3)) hC fl_X12_11_12.s (hT _ tg_M_37) (mI_sI_n _ _ (by decide)) dX12_layer_48 ?_
        refine g_iload_n hC dX12_layer_51 rfl ?_
        have hin := hw.1
        replace hw := hw.2
        refine g_iastS (k := (Int32.toNatClampNeg (mI s106 37 3))) hC (hT _ tg_M_41) rfl hin dX12_layer_52 ?_
        refine g_aload_n hC dX12_layer_53 rfl ?_
        refine g_dup hC dX12_layer_54 rfl ?_
        refine g_getiSv (v := (mI s106 37 3)) hC fl_X12_11_12.s (hT _ tg_M_37) ((mI_sI_n _ _ (by decide)).trans (mI_sI_n _ _ (by decide))) dX12_layer_55 ?_
        refine g_iconst (v := 1) hC dX12_layer_58 (by decide) ?_
        refine g_iadd hC dX12_layer_59 ?_
        refine g_putIS hC (fw_X12_11_12 _) (hT _ tg_M_37) rfl rfl dX12_layer_60 ?_
        refine g_aload_n hC dX12_layer_63 rfl ?_
        refine g_getiSv (v := ((mI s106 37 3) + 1)) hC fl_X12_11_12.s (hT _ tg_M_37) (mI_sI_s _ _ _ _) dX12_layer_64 ?_
        refine g_iconst (v := 1) hC dX12_layer_67 (by decide) ?_
        refine g_isub hC dX12_layer_68 ?_
        exact g_iret hC rfl (by decide) (by decide) dX12_layer_69 (fun _ => ⟨_, rfl, hw⟩)
      · replace hw := hw.2 c
        refine g_bipush (v := (-4)) hC dX12_layer_30 (by decide) ?_
        exact g_iret hC rfl (by decide) (by decide) dX12_layer_32 (fun _ => ⟨_, rfl, hw⟩)
    · replace hw := hw.2 c
      refine g_bipush (v := (-2)) hC dX12_layer_19 (by decide) ?_
      exact g_iret hC rfl (by decide) (by decide) dX12_layer_21 (fun _ => ⟨_, rfl, hw⟩)
set_option maxRecDepth 4000 in
theorem c_X12_layer {Z : Fx} {ps ts : List (Nat × Nat × Nat)} {d : Nat} (hd : 1 ≤ d) (hP : ∀ e ∈ psM, e ∈ ps) (hT : ∀ e ∈ tsM, e ∈ ts) {σ : Mem} {x1 : Int32} {x2 : Int32} {Q : Int32 → Mem → Prop} (hw : w_X12_layer σ x1 x2 Q) : mM Z ps ts yX12_layer cX12_layer 3 (some .int) d 0 0 [.ref (Z.2.2 + 37), .int x1, .int x2] σ (qI Q) := by
  refine mM.of (by decide) (Nat.le_of_ble_eq_true rfl) rfl (fun X hZ hp ht hn hC => ?_)
  subst hZ; subst hp; subst ht
  exact t_X12_layer hC hd (fun i h => by rw [hn]; exact h) hP hT hw
def w_X12_set (σ : Mem) (x1 : Int32) (x2 : Int32) (x3 : Int32) (Q : Int32 → Mem → Prop) : Prop := (x1 = 0 → (w_X12_isPlate σ x2 (fun v101 s103 => (v101 = 0 → (Q (-2) s103)) ∧ (¬ v101 = 0 → (w_X12_isIn s103 x3 0 99 (fun v104 s106 => (¬ v104 = 0 → (vp_in x2 8 ∧ (∀ v107 : Int32, v107 = (mI s106 38 (Int32.toNatClampNeg x2)) → (vp_in x2 8 ∧ (Q v107 (sI s106 38 (Int32.toNatClampNeg x2) x3)))))) ∧ (v104 = 0 → (Q (-2) s106)))))))) ∧ (x1 = 1 → (w_X12_isPlate σ x2 (fun v108 s110 => (v108 = 0 → (Q (-2) s110)) ∧ (¬ v108 = 0 → (w_X12_isIn s110 x3 0 99 (fun v111 s113 => (¬ v111 = 0 → (vp_in x2 8 ∧ (∀ v114 : Int32, v114 = (mI s113 39 (Int32.toNatClampNeg x2)) → (vp_in x2 8 ∧ (Q v114 (sI s113 39 (Int32.toNatClampNeg x2) x3)))))) ∧ (v111 = 0 → (Q (-2) s113)))))))) ∧ (x1 = 2 → (w_X12_isIn σ x3 1 9 (fun v115 s117 => (¬ v115 = 0 → (Q (mI s117 37 6) (sI s117 37 6 x3))) ∧ (v115 = 0 → (Q (-2) s117))))) ∧ (¬ x1 = 0 → ¬ x1 = 1 → ¬ x1 = 2 → (Q (-2) σ))
set_option maxRecDepth 4000 in
set_option maxHeartbeats 2000000 in
theorem t_X12_set {X : Cx} {d : Nat} (hC : mOK X cX12_set RX12 "set" (some .int) d 0 0) (hd : 2 ≤ d) (hN : ∀ i, i < 5 → i < xN X) (hP : ∀ e ∈ psM, e ∈ xP X) (hT : ∀ e ∈ tsM, e ∈ xT X) {σ : Mem} {x1 : Int32} {x2 : Int32} {x3 : Int32} {Q : Int32 → Mem → Prop} (hw : w_X12_set σ x1 x2 x3 Q) : mG X 0 [(0, .ref (xB X + 37)), (1, .int x1), (2, .int x2), (3, .int x3)] [] σ 0 0 (mQ X 0 0 (qI Q)) := by
  refine g_iconst (v := 0) hC dX12_set_0 (by decide) ?_
  refine g_istore (lv' := [(4, .int 0), (0, .ref (xB X + 37)), (1, .int x1), (2, .int x2), (3, .int x3)]) hC dX12_set_1 (hN 4 (by decide)) rfl ?_
  refine g_iload_n hC dX12_set_3 rfl ?_
  by_cases c0 : x1 = 0
  · replace hw := hw.1 c0
    refine g_tableIn (tgt := 32) hC dX12_set_4 0 c0 (by decide) (by decide) rfl rfl ?_
    refine g_aload_n hC dX12_set_32 rfl ?_
    refine g_iload_n hC dX12_set_33 rfl ?_
    refine g_known (fun hS => ?_)
    refine mG.st (st1 := ([.int x2] : List Value).reverse ++ .ref (xB X + 37) :: []) rfl ?_
    refine g_callV (As := [.int x2]) (st := []) hC (hS.2 _ (hT _ tg_M_37)) (by decide) ycl_12_X12_isPlate yw_X12_isPlate yv_X12_isPlate tw_475 dX12_set_34 (fun _ h => h) (fun _ h => h) (fun h => h) (c_X12_isPlate (d := 1) (Nat.le_refl _) hP hT hw) rfl (Nat.le_of_ble_eq_true rfl) (by omega) (by decide) (by decide) (kI fun v101 s103 hw => ?_)
    refine g_if_eq (tgt := 50) hC dX12_set_37 rfl (fun c => ?_) (fun c => ?_)
    · replace hw := hw.1 c
      refine g_bipush (v := (-2)) hC dX12_set_50 (by decide) ?_
      exact g_iret hC rfl (by decide) (by decide) dX12_set_52 (fun _ => ⟨_, rfl, hw⟩)
    · replace hw := hw.2 c
      refine g_iload_n hC dX12_set_40 rfl ?_
      refine g_iconst (v := 0) hC dX12_set_41 (by decide) ?_
      refine g_bipush (v := 99) hC dX12_set_42 (by decide) ?_
      refine mG.st (st1 := ([.int x3, .int 0, .int 99] : List Value).reverse ++ []) rfl ?_
      refine g_callS (As := [.int x3, .int 0, .int 99]) (st := []) hC yw_X12_isIn ys_X12_isIn tw_465 dX12_set_44 (fun _ h => h) (fun _ h => h) (fun h => h) (c_X12_isIn (d := 0) (Nat.le_refl _) hw) rfl (Nat.le_of_ble_eq_true rfl) (by omega) (by decide) (by decide) (kI fun v104 s106 hw => ?_)
      refine g_if_ne (tgt := 53) hC dX12_set_47 rfl (fun c => ?_) (fun c => ?_)
      · replace hw := hw.1 c
        refine g_aload_n hC dX12_set_53 rfl ?_
        refine g_getrS hC fl_X12_14_12.s (hT _ tg_M_37) (hP _ pt_M_37_1) dX12_set_54 ?_
        refine g_iload_n hC dX12_set_57 rfl ?_
        refine g_ialdSv (v := (mI s106 38 (Int32.toNatClampNeg x2))) hC (hT _ tg_M_38) rfl hw.1 rfl dX12_set_58 ?_
        replace hw := hw.2
        refine g_topi (fun v107 ev107 => ?_)
        replace hw := hw v107 ev107
        refine g_istore (lv' := [(4, .int v107), (0, .ref (xB X + 37)), (1, .int x1), (2, .int x2), (3, .int x3)]) hC dX12_set_59 (hN 4 (by decide)) rfl ?_
        refine g_aload_n hC dX12_set_61 rfl ?_
        refine g_getrS hC fl_X12_14_12.s (hT _ tg_M_37) (hP _ pt_M_37_1) dX12_set_62 ?_
        refine g_iload_n hC dX12_set_65 rfl ?_
        refine g_iload_n hC dX12_set_66 rfl ?_
        have hin := hw.1
        replace hw := hw.2
        refine g_iastS (k := (Int32.toNatClampNeg x2)) hC (hT _ tg_M_38) rfl hin dX12_set_67 ?_
        refine g_iload hC dX12_set_68 rfl ?_
        exact g_iret hC rfl (by decide) (by decide) dX12_set_70 (fun _ => ⟨_, rfl, hw⟩)
      · replace hw := hw.2 c
        refine g_bipush (v := (-2)) hC dX12_set_50 (by decide) ?_
        exact g_iret hC rfl (by decide) (by decide) dX12_set_52 (fun _ => ⟨_, rfl, hw⟩)
  by_cases c1 : x1 = 1
  · replace hw := hw.2.1 c1
    refine g_tableIn (tgt := 71) hC dX12_set_4 1 c1 (by decide) (by decide) rfl rfl ?_
    refine g_aload_n hC dX12_set_71 rfl ?_
    refine g_iload_n hC dX12_set_72 rfl ?_
    refine g_known (fun hS => ?_)
    refine mG.st (st1 := ([.int x2] : List Value).reverse ++ .ref (xB X + 37) :: []) rfl ?_
    refine g_callV (As := [.int x2]) (st := []) hC (hS.2 _ (hT _ tg_M_37)) (by decide) ycl_12_X12_isPlate yw_X12_isPlate yv_X12_isPlate tw_475 dX12_set_73 (fun _ h => h) (fun _ h => h) (fun h => h) (c_X12_isPlate (d := 1) (Nat.le_refl _) hP hT hw) rfl (Nat.le_of_ble_eq_true rfl) (by omega) (by decide) (by decide) (kI fun v108 s110 hw => ?_)
    refine g_if_eq (tgt := 89) hC dX12_set_76 rfl (fun c => ?_) (fun c => ?_)
    · replace hw := hw.1 c
      refine g_bipush (v := (-2)) hC dX12_set_89 (by decide) ?_
      exact g_iret hC rfl (by decide) (by decide) dX12_set_91 (fun _ => ⟨_, rfl, hw⟩)
    · replace hw := hw.2 c
      refine g_iload_n hC dX12_set_79 rfl ?_
      refine g_iconst (v := 0) hC dX12_set_80 (by decide) ?_
      refine g_bipush (v := 99) hC dX12_set_81 (by decide) ?_
      refine mG.st (st1 := ([.int x3, .int 0, .int 99] : List Value).reverse ++ []) rfl ?_
      refine g_callS (As := [.int x3, .int 0, .int 99]) (st := []) hC yw_X12_isIn ys_X12_isIn tw_465 dX12_set_83 (fun _ h => h) (fun _ h => h) (fun h => h) (c_X12_isIn (d := 0) (Nat.le_refl _) hw) rfl (Nat.le_of_ble_eq_true rfl) (by omega) (by decide) (by decide) (kI fun v111 s113 hw => ?_)
      refine g_if_ne (tgt := 92) hC dX12_set_86 rfl (fun c => ?_) (fun c => ?_)
      · replace hw := hw.1 c
        refine g_aload_n hC dX12_set_92 rfl ?_
        refine g_getrS hC fl_X12_18_12.s (hT _ tg_M_37) (hP _ pt_M_37_2) dX12_set_93 ?_
        refine g_iload_n hC dX12_set_96 rfl ?_
        refine g_ialdSv (v := (mI s113 39 (Int32.toNatClampNeg x2))) hC (hT _ tg_M_39) rfl hw.1 rfl dX12_set_97 ?_
        replace hw := hw.2
        refine g_topi (fun v114 ev114 => ?_)
        replace hw := hw v114 ev114
        refine g_istore (lv' := [(4, .int v114), (0, .ref (xB X + 37)), (1, .int x1), (2, .int x2), (3, .int x3)]) hC dX12_set_98 (hN 4 (by decide)) rfl ?_
        refine g_aload_n hC dX12_set_100 rfl ?_
        refine g_getrS hC fl_X12_18_12.s (hT _ tg_M_37) (hP _ pt_M_37_2) dX12_set_101 ?_
        refine g_iload_n hC dX12_set_104 rfl ?_
        refine g_iload_n hC dX12_set_105 rfl ?_
        have hin := hw.1
        replace hw := hw.2
        refine g_iastS (k := (Int32.toNatClampNeg x2)) hC (hT _ tg_M_39) rfl hin dX12_set_106 ?_
        refine g_iload hC dX12_set_107 rfl ?_
        exact g_iret hC rfl (by decide) (by decide) dX12_set_109 (fun _ => ⟨_, rfl, hw⟩)
      · replace hw := hw.2 c
        refine g_bipush (v := (-2)) hC dX12_set_89 (by decide) ?_
        exact g_iret hC rfl (by decide) (by decide) dX12_set_91 (fun _ => ⟨_, rfl, hw⟩)
  by_cases c2 : x1 = 2
  · replace hw := hw.2.2.1 c2
    refine g_tableIn (tgt := 110) hC dX12_set_4 2 c2 (by decide) (by decide) rfl rfl ?_
    refine g_iload_n hC dX12_set_110 rfl ?_
    refine g_iconst (v := 1) hC dX12_set_111 (by decide) ?_
    refine g_bipush (v := 9) hC dX12_set_112 (by decide) ?_
    refine mG.st (st1 := ([.int x3, .int 1, .int 9] : List Value).reverse ++ []) rfl ?_
    refine g_callS (As := [.int x3, .int 1, .int 9]) (st := []) hC yw_X12_isIn ys_X12_isIn tw_465 dX12_set_114 (fun _ h => h) (fun _ h => h) (fun h => h) (c_X12_isIn (d := 0) (Nat.le_refl _) hw) rfl (Nat.le_of_ble_eq_true rfl) (by omega) (by decide) (by decide) (kI fun v115 s117 hw => ?_)
    refine g_if_ne (tgt := 123) hC dX12_set_117 rfl (fun c => ?_) (fun c => ?_)
    · replace hw := hw.1 c
      refine g_aload_n hC dX12_set_123 rfl ?_
      refine g_getiSv (v := (mI s117 37 6)) hC fl_X12_31_12.s (hT _ tg_M_37) rfl dX12_set_124 ?_
      refine g_istore (lv' := [(4, .int (mI s117 37 6)), (0, .ref (xB X + 37)), (1, .int x1), (2, .int x2), (3, .int x3)]) hC dX12_set_127 (hN 4 (by decide)) rfl ?_
      refine g_aload_n hC dX12_set_129 rfl ?_
      refine g_iload_n hC dX12_set_130 rfl ?_
      refine g_putIS hC (fw_X12_31_12 _) (hT _ tg_M_37) rfl rfl dX12_set_131 ?_
      refine g_iload hC dX12_set_134 rfl ?_
      exact g_iret hC rfl (by decide) (by decide) dX12_set_136 (fun _ => ⟨_, rfl, hw⟩)
    · replace hw := hw.2 c
      refine g_bipush (v := (-2)) hC dX12_set_120 (by decide) ?_
      exact g_iret hC rfl (by decide) (by decide) dX12_set_122 (fun _ => ⟨_, rfl, hw⟩)
  replace hw := hw.2.2.2 c0 c1 c2
  refine g_tableOut (tgt := 137) hC dX12_set_4 (sw_out 0 2 x1 (by decide) [0, 1, 2] (by decide) (List.forall_mem_cons.mpr ⟨c0, (List.forall_mem_cons.mpr ⟨c1, (List.forall_mem_cons.mpr ⟨c2, (fun k h => absurd h List.not_mem_nil)⟩)⟩)⟩)) rfl ?_
  refine g_bipush (v := (-2)) hC dX12_set_137 (by decide) ?_
  exact g_iret hC rfl (by decide) (by decide) dX12_set_139 (fun _ => ⟨_, rfl, hw⟩)
set_option maxRecDepth 4000 in
theorem c_X12_set {Z : Fx} {ps ts : List (Nat × Nat × Nat)} {d : Nat} (hd : 2 ≤ d) (hP : ∀ e ∈ psM, e ∈ ps) (hT : ∀ e ∈ tsM, e ∈ ts) {σ : Mem} {x1 : Int32} {x2 : Int32} {x3 : Int32} {Q : Int32 → Mem → Prop} (hw : w_X12_set σ x1 x2 x3 Q) : mM Z ps ts yX12_set cX12_set 5 (some .int) d 0 0 [.ref (Z.2.2 + 37), .int x1, .int x2, .int x3] σ (qI Q) := by
  refine mM.of (by decide) (Nat.le_of_ble_eq_true rfl) rfl (fun X hZ hp ht hn hC => ?_)
  subst hZ; subst hp; subst ht
  exact t_X12_set hC hd (fun i h => by rw [hn]; exact h) hP hT hw
def w_X12_name (σ : Mem) (x1 : Int32) (x2 : Int32) (x3 : Int32) (x4 : Int32) (x5 : Int32) (Q : Mem → Prop) : Prop := vp_in x1 8 ∧ (∀ v101 : Int32, v101 = (mI σ 38 (Int32.toNatClampNeg x1)) → (((vp_in x1 8 ∧ (∀ v102 : Int32, v102 = (mI σ 39 (Int32.toNatClampNeg x1)) → (((((Q (sI (sI (sI (sI (sI (sI σ 50 0 v101) 50 1 x2) 50 2 v102) 50 3 x3) 50 4 x4) 50 5 x5)))))))))))
set_option maxRecDepth 4000 in
set_option maxHeartbeats 2000000 in
theorem t_X12_name {X : Cx} {d : Nat} (hC : mOK X cX12_name RX12 "name" none d 0 0) (hd : 0 ≤ d) (hN : ∀ i, i < 6 → i < xN X) (hP : ∀ e ∈ psM, e ∈ xP X) (hT : ∀ e ∈ tsM, e ∈ xT X) {σ : Mem} {x1 : Int32} {x2 : Int32} {x3 : Int32} {x4 : Int32} {x5 : Int32} {Q : Mem → Prop} (hw : w_X12_name σ x1 x2 x3 x4 x5 Q) : mG X 0 [(0, .ref (xB X + 37)), (1, .int x1), (2, .int x2), (3, .int x3), (4, .int x4), (5, .int x5)] [] σ 0 0 (mQ X 0 0 (qV Q)) := by
  refine g_aload_n hC dX12_name_0 rfl ?_
  refine g_getrS hC fl_X12_167_12.s (hT _ tg_M_37) (hP _ pt_M_37_27) dX12_name_1 ?_
  refine g_iconst (v := 0) hC dX12_name_4 (by decide) ?_
  refine g_aload_n hC dX12_name_5 rfl ?_
  refine g_getrS hC fl_X12_14_12.s (hT _ tg_M_37) (hP _ pt_M_37_1) dX12_name_6 ?_
  refine g_iload_n hC dX12_name_9 rfl ?_
  refine g_ialdSv (v := (mI σ 38 (Int32.toNatClampNeg x1))) hC (hT _ tg_M_38) rfl hw.1 rfl dX12_name_10 ?_
  replace hw := hw.2
  refine g_topi (fun v101 ev101 => ?_)
  replace hw := hw v101 ev101
  refine g_iastS (k := 0) hC (hT _ tg_M_50) (by decide) (vpl (by decide)) dX12_name_11 ?_
  refine g_aload_n hC dX12_name_12 rfl ?_
  refine g_getrS hC fl_X12_167_12.s (hT _ tg_M_37) (hP _ pt_M_37_27) dX12_name_13 ?_
  refine g_iconst (v := 1) hC dX12_name_16 (by decide) ?_
  refine g_iload_n hC dX12_name_17 rfl ?_
  refine g_iastS (k := 1) hC (hT _ tg_M_50) (by decide) (vpl (by decide)) dX12_name_18 ?_
  refine g_aload_n hC dX12_name_19 rfl ?_
  refine g_getrS hC fl_X12_167_12.s (hT _ tg_M_37) (hP _ pt_M_37_27) dX12_name_20 ?_
  refine g_iconst (v := 2) hC dX12_name_23 (by decide) ?_
  refine g_aload_n hC dX12_name_24 rfl ?_
  refine g_getrS hC fl_X12_18_12.s (hT _ tg_M_37) (hP _ pt_M_37_2) dX12_name_25 ?_
  refine g_iload_n hC dX12_name_28 rfl ?_
  refine g_ialdSv (v := (mI σ 39 (Int32.toNatClampNeg x1))) hC (hT _ tg_M_39) rfl hw.1 ((mI_sI_n _ _ (by decide)).trans (mI_sI_n _ _ (by decide))) dX12_name_29 ?_
  replace hw := hw.2
  refine g_topi (fun v102 ev102 => ?_)
  replace hw := hw v102 ev102
  refine g_iastS (k := 2) hC (hT _ tg_M_50) (by decide) (vpl (by decide)) dX12_name_30 ?_
  refine g_aload_n hC dX12_name_31 rfl ?_
  refine g_getrS hC fl_X12_167_12.s (hT _ tg_M_37) (hP _ pt_M_37_27) dX12_name_32 ?_
  refine g_iconst (v := 3) hC dX12_name_35 (by decide) ?_
  refine g_iload_n hC dX12_name_36 rfl ?_
  refine g_iastS (k := 3) hC (hT _ tg_M_50) (by decide) (vpl (by decide)) dX12_name_37 ?_
  refine g_aload_n hC dX12_name_38 rfl ?_
  refine g_getrS hC fl_X12_167_12.s (hT _ tg_M_37) (hP _ pt_M_37_27) dX12_name_39 ?_
  refine g_iconst (v := 4) hC dX12_name_42 (by decide) ?_
  refine g_iload hC dX12_name_43 rfl ?_
  refine g_iastS (k := 4) hC (hT _ tg_M_50) (by decide) (vpl (by decide)) dX12_name_45 ?_
  refine g_aload_n hC dX12_name_46 rfl ?_
  refine g_getrS hC fl_X12_167_12.s (hT _ tg_M_37) (hP _ pt_M_37_27) dX12_name_47 ?_
  refine g_iconst (v := 5) hC dX12_name_50 (by decide) ?_
  refine g_iload hC dX12_name_51 rfl ?_
  refine g_iastS (k := 5) hC (hT _ tg_M_50) (by decide) (vpl (by decide)) dX12_name_53 ?_
  exact g_vret hC (by decide) (by decide) dX12_name_54 (fun _ => ⟨rfl, hw⟩)
set_option maxRecDepth 4000 in
theorem c_X12_name {Z : Fx} {ps ts : List (Nat × Nat × Nat)} {d : Nat} (hd : 0 ≤ d) (hP : ∀ e ∈ psM, e ∈ ps) (hT : ∀ e ∈ tsM, e ∈ ts) {σ : Mem} {x1 : Int32} {x2 : Int32} {x3 : Int32} {x4 : Int32} {x5 : Int32} {Q : Mem → Prop} (hw : w_X12_name σ x1 x2 x3 x4 x5 Q) : mM Z ps ts yX12_name cX12_name 6 none d 0 0 [.ref (Z.2.2 + 37), .int x1, .int x2, .int x3, .int x4, .int x5] σ (qV Q) := by
  refine mM.of (by decide) (Nat.le_of_ble_eq_true rfl) rfl (fun X hZ hp ht hn hC => ?_)
  subst hZ; subst hp; subst ht
  exact t_X12_name hC hd (fun i h => by rw [hn]; exact h) hP hT hw
def w_X12_done (σ : Mem) (x0 : Int32) (x1 : Int32) (x2 : Int32) (Q : Int32 → Mem → Prop) : Prop := (x0 = 11 → ((x1 = 0 → (Q 0 σ)) ∧ (¬ x1 = 0 → ((x2 = 0 → (Q 0 σ)) ∧ (¬ x2 = 0 → (Q 1 σ)))))) ∧ (x0 = 13 → ((x2 ≤ x1 → (Q 0 σ)) ∧ (¬ x2 ≤ x1 → (Q 1 σ)))) ∧ (x0 = 14 → ((¬ x1 = x2 → (Q 0 σ)) ∧ (x1 = x2 → (Q 1 σ)))) ∧ (x0 = 15 → (Q (x1 + x2) σ)) ∧ (x0 = 16 → (Q (x1 - x2) σ)) ∧ (x0 = 17 → (Q (x1 * x2) σ)) ∧ (¬ x0 = 11 → ¬ x0 = 13 → ¬ x0 = 14 → ¬ x0 = 15 → ¬ x0 = 16 → ¬ x0 = 17 → ((¬ x1 = 0 → (Q 1 σ)) ∧ (x1 = 0 → ((x2 = 0 → (Q 0 σ)) ∧ (¬ x2 = 0 → (Q 1 σ))))))
set_option maxRecDepth 4000 in
set_option maxHeartbeats 2000000 in
theorem t_X12_done {X : Cx} {d : Nat} (hC : mOK X cX12_done RX12 "done" (some .int) d 0 0) (hd : 0 ≤ d) (hN : ∀ i, i < 3 → i < xN X) {σ : Mem} {x0 : Int32} {x1 : Int32} {x2 : Int32} {Q : Int32 → Mem → Prop} (hw : w_X12_done σ x0 x1 x2 Q) : mG X 0 [(0, .int x0), (1, .int x1), (2, .int x2)] [] σ 0 0 (mQ X 0 0 (qI Q)) := by
  refine g_iload_n hC dX12_done_0 rfl ?_
  by_cases c0 : x0 = 11
  · replace hw := hw.1 c0
    refine g_tableIn (tgt := 78) hC dX12_done_1 11 c0 (by decide) (by decide) rfl rfl ?_
    refine g_iload_n hC dX12_done_78 rfl ?_
    refine g_if_eq (tgt := 90) hC dX12_done_79 rfl (fun c => ?_) (fun c => ?_)
    · replace hw := hw.1 c
      refine g_iconst (v := 0) hC dX12_done_90 (by decide) ?_
      exact g_iret hC rfl (by decide) (by decide) dX12_done_91 (fun _ => ⟨_, rfl, hw⟩)
    · replace hw := hw.2 c
      refine g_iload_n hC dX12_done_82 rfl ?_
      refine g_if_eq (tgt := 90) hC dX12_done_83 rfl (fun c => ?_) (fun c => ?_)
      · replace hw := hw.1 c
        refine g_iconst (v := 0) hC dX12_done_90 (by decide) ?_
        exact g_iret hC rfl (by decide) (by decide) dX12_done_91 (fun _ => ⟨_, rfl, hw⟩)
      · replace hw := hw.2 c
        refine g_iconst (v := 1) hC dX12_done_86 (by decide) ?_
        refine g_goto (tgt := 91) hC dX12_done_87 rfl ?_
        exact g_iret hC rfl (by decide) (by decide) dX12_done_91 (fun _ => ⟨_, rfl, hw⟩)
  by_cases c1 : x0 = 13
  · replace hw := hw.2.1 c1
    refine g_tableIn (tgt := 56) hC dX12_done_1 13 c1 (by decide) (by decide) rfl rfl ?_
    refine g_iload_n hC dX12_done_56 rfl ?_
    refine g_iload_n hC dX12_done_57 rfl ?_
    refine g_icmp_ge (tgt := 65) hC dX12_done_58 rfl (fun c => ?_) (fun c => ?_)
    · replace hw := hw.1 c
      refine g_iconst (v := 0) hC dX12_done_65 (by decide) ?_
      exact g_iret hC rfl (by decide) (by decide) dX12_done_66 (fun _ => ⟨_, rfl, hw⟩)
    · replace hw := hw.2 c
      refine g_iconst (v := 1) hC dX12_done_61 (by decide) ?_
      refine g_goto (tgt := 66) hC dX12_done_62 rfl ?_
      exact g_iret hC rfl (by decide) (by decide) dX12_done_66 (fun _ => ⟨_, rfl, hw⟩)
  by_cases c2 : x0 = 14
  · replace hw := hw.2.2.1 c2
    refine g_tableIn (tgt := 67) hC dX12_done_1 14 c2 (by decide) (by decide) rfl rfl ?_
    refine g_iload_n hC dX12_done_67 rfl ?_
    refine g_iload_n hC dX12_done_68 rfl ?_
    refine g_icmp_ne (tgt := 76) hC dX12_done_69 rfl (fun c => ?_) (fun c => ?_)
    · replace hw := hw.1 c
      refine g_iconst (v := 0) hC dX12_done_76 (by decide) ?_
      exact g_iret hC rfl (by decide) (by decide) dX12_done_77 (fun _ => ⟨_, rfl, hw⟩)
    · replace hw := hw.2 c
      refine g_iconst (v := 1) hC dX12_done_72 (by decide) ?_
      refine g_goto (tgt := 77) hC dX12_done_73 rfl ?_
      exact g_iret hC rfl (by decide) (by decide) dX12_done_77 (fun _ => ⟨_, rfl, hw⟩)
  by_cases c3 : x0 = 15
  · replace hw := hw.2.2.2.1 c3
    refine g_tableIn (tgt := 44) hC dX12_done_1 15 c3 (by decide) (by decide) rfl rfl ?_
    refine g_iload_n hC dX12_done_44 rfl ?_
    refine g_iload_n hC dX12_done_45 rfl ?_
    refine g_iadd hC dX12_done_46 ?_
    exact g_iret hC rfl (by decide) (by decide) dX12_done_47 (fun _ => ⟨_, rfl, hw⟩)
  by_cases c4 : x0 = 16
  · replace hw := hw.2.2.2.2.1 c4
    refine g_tableIn (tgt := 48) hC dX12_done_1 16 c4 (by decide) (by decide) rfl rfl ?_
    refine g_iload_n hC dX12_done_48 rfl ?_
    refine g_iload_n hC dX12_done_49 rfl ?_
    refine g_isub hC dX12_done_50 ?_
    exact g_iret hC rfl (by decide) (by decide) dX12_done_51 (fun _ => ⟨_, rfl, hw⟩)
  by_cases c5 : x0 = 17
  · replace hw := hw.2.2.2.2.2.1 c5
    refine g_tableIn (tgt := 52) hC dX12_done_1 17 c5 (by decide) (by decide) rfl rfl ?_
    refine g_iload_n hC dX12_done_52 rfl ?_
    refine g_iload_n hC dX12_done_53 rfl ?_
    refine g_imul hC dX12_done_54 ?_
    exact g_iret hC rfl (by decide) (by decide) dX12_done_55 (fun _ => ⟨_, rfl, hw⟩)
  replace hw := hw.2.2.2.2.2.2 c0 c1 c2 c3 c4 c5
  by_cases h0 : x0 = 12
  · refine g_tableIn (tgt := 92) hC dX12_done_1 12 h0 (by decide) (by decide) rfl rfl ?_
    refine g_iload_n hC dX12_done_92 rfl ?_
    refine g_if_ne (tgt := 100) hC dX12_done_93 rfl (fun c => ?_) (fun c => ?_)
    · replace hw := hw.1 c
      refine g_iconst (v := 1) hC dX12_done_100 (by decide) ?_
      refine g_goto (tgt := 105) hC dX12_done_101 rfl ?_
      exact g_iret hC rfl (by decide) (by decide) dX12_done_105 (fun _ => ⟨_, rfl, hw⟩)
    · replace hw := hw.2 c
      refine g_iload_n hC dX12_done_96 rfl ?_
      refine g_if_eq (tgt := 104) hC dX12_done_97 rfl (fun c => ?_) (fun c => ?_)
      · replace hw := hw.1 c
        refine g_iconst (v := 0) hC dX12_done_104 (by decide) ?_
        exact g_iret hC rfl (by decide) (by decide) dX12_done_105 (fun _ => ⟨_, rfl, hw⟩)
      · replace hw := hw.2 c
        refine g_iconst (v := 1) hC dX12_done_100 (by decide) ?_
        refine g_goto (tgt := 105) hC dX12_done_101 rfl ?_
        exact g_iret hC rfl (by decide) (by decide) dX12_done_105 (fun _ => ⟨_, rfl, hw⟩)
  refine g_tableOut (tgt := 92) hC dX12_done_1 (sw_out 11 17 x0 (by decide) [11, 12, 13, 14, 15, 16, 17] (by decide) (List.forall_mem_cons.mpr ⟨c0, (List.forall_mem_cons.mpr ⟨h0, (List.forall_mem_cons.mpr ⟨c1, (List.forall_mem_cons.mpr ⟨c2, (List.forall_mem_cons.mpr ⟨c3, (List.forall_mem_cons.mpr ⟨c4, (List.forall_mem_cons.mpr ⟨c5, (fun k h => absurd h List.not_mem_nil)⟩)⟩)⟩)⟩)⟩)⟩)⟩)) rfl ?_
  refine g_iload_n hC dX12_done_92 rfl ?_
  refine g_if_ne (tgt := 100) hC dX12_done_93 rfl (fun c => ?_) (fun c => ?_)
  · replace hw := hw.1 c
    refine g_iconst (v := 1) hC dX12_done_100 (by decide) ?_
    refine g_goto (tgt := 105) hC dX12_done_101 rfl ?_
    exact g_iret hC rfl (by decide) (by decide) dX12_done_105 (fun _ => ⟨_, rfl, hw⟩)
  · replace hw := hw.2 c
    refine g_iload_n hC dX12_done_96 rfl ?_
    refine g_if_eq (tgt := 104) hC dX12_done_97 rfl (fun c => ?_) (fun c => ?_)
    · replace hw := hw.1 c
      refine g_iconst (v := 0) hC dX12_done_104 (by decide) ?_
      exact g_iret hC rfl (by decide) (by decide) dX12_done_105 (fun _ => ⟨_, rfl, hw⟩)
    · replace hw := hw.2 c
      refine g_iconst (v := 1) hC dX12_done_100 (by decide) ?_
      refine g_goto (tgt := 105) hC dX12_done_101 rfl ?_
      exact g_iret hC rfl (by decide) (by decide) dX12_done_105 (fun _ => ⟨_, rfl, hw⟩)
set_option maxRecDepth 4000 in
theorem c_X12_done {Z : Fx} {ps ts : List (Nat × Nat × Nat)} {d : Nat} (hd : 0 ≤ d) {σ : Mem} {x0 : Int32} {x1 : Int32} {x2 : Int32} {Q : Int32 → Mem → Prop} (hw : w_X12_done σ x0 x1 x2 Q) : mM Z ps ts yX12_done cX12_done 3 (some .int) d 0 0 [.int x0, .int x1, .int x2] σ (qI Q) := by
  refine mM.of (by decide) (Nat.le_of_ble_eq_true rfl) rfl (fun X hZ hp ht hn hC => ?_)
  subst hZ; subst hp; subst ht
  exact t_X12_done hC hd (fun i h => by rw [hn]; exact h) hw
def w_X12_worthOf_178 (Q : Int32 → Mem → Prop) (K14 : Int32 → Int32 → Int32 → Mem → Prop) (x2 : Int32) (x3 : Int32) (x4 : Int32) (σ : Mem) : Prop := K14 x2 x3 (x4 + 1) σ
set_option maxRecDepth 4000 in
set_option maxHeartbeats 2000000 in
theorem t_X12_worthOf_178 {X : Cx} {d : Nat} (hC : mOK X cX12_worthOf RX12 "worthOf" (some .int) d 0 0) (hd : 1 ≤ d) (hN : ∀ i, i < 6 → i < xN X) (hP : ∀ e ∈ psM, e ∈ xP X) (hT : ∀ e ∈ tsM, e ∈ xT X) {Q : Int32 → Mem → Prop} {K14 : Int32 → Int32 → Int32 → Mem → Prop} (hK14 : ∀ (x2 : Int32) (x3 : Int32) (x4 : Int32) (s : Mem), K14 x2 x3 x4 s → mG X 14 [(0, .ref (xB X + 37)), (2, .int x2), (3, .int x3), (4, .int x4)] [] s 0 0 (mQ X 0 0 (qI Q))) {x2 : Int32} {x3 : Int32} {x4 : Int32} {σ : Mem} (hw : w_X12_worthOf_178 Q K14 x2 x3 x4 σ) : mG X 178 [(0, .ref (xB X + 37)), (2, .int x2), (3, .int x3), (4, .int x4)] [] σ 0 0 (mQ X 0 0 (qI Q)) := by
  refine g_iinc (v := x4 + 1) (lv' := [(4, .int (x4 + 1)), (0, .ref (xB X + 37)), (2, .int x2), (3, .int x3)]) hC dX12_worthOf_178 rfl rfl (hN 4 (by decide)) rfl ?_
  refine g_goto (tgt := 14) hC dX12_worthOf_181 rfl ?_
  refine mG.pick (lv' := [(0, .ref (xB X + 37)), (2, .int x2), (3, .int x3), (4, .int (x4 + 1))]) [1, 2, 3, 0] rfl ?_
  exact hK14 _ _ _ _ hw
def w_X12_worthOf_117 (Q : Int32 → Mem → Prop) (K14 : Int32 → Int32 → Int32 → Mem → Prop) (x2 : Int32) (x3 : Int32) (x4 : Int32) (xy0 : Int32) (xy1 : Int32) (σ : Mem) : Prop := vp_in xy1 170 ∧ (w_X12_worthOf_178 Q K14 x2 x3 x4 (sI σ 49 (Int32.toNatClampNeg xy1) xy0))
set_option maxRecDepth 4000 in
set_option maxHeartbeats 2000000 in
theorem t_X12_worthOf_117 {X : Cx} {d : Nat} (hC : mOK X cX12_worthOf RX12 "worthOf" (some .int) d 0 0) (hd : 1 ≤ d) (hN : ∀ i, i < 6 → i < xN X) (hP : ∀ e ∈ psM, e ∈ xP X) (hT : ∀ e ∈ tsM, e ∈ xT X) {Q : Int32 → Mem → Prop} {K14 : Int32 → Int32 → Int32 → Mem → Prop} (hK14 : ∀ (x2 : Int32) (x3 : Int32) (x4 : Int32) (s : Mem), K14 x2 x3 x4 s → mG X 14 [(0, .ref (xB X + 37)), (2, .int x2), (3, .int x3), (4, .int x4)] [] s 0 0 (mQ X 0 0 (qI Q))) {x2 : Int32} {x3 : Int32} {x4 : Int32} {xy0 : Int32} {xy1 : Int32} {σ : Mem} (hw : w_X12_worthOf_117 Q K14 x2 x3 x4 xy0 xy1 σ) : mG X 117 [(0, .ref (xB X + 37)), (2, .int x2), (3, .int x3), (4, .int x4)] [.int xy0, .int xy1, .ref (xB X + 49)] σ 0 0 (mQ X 0 0 (qI Q)) := by
  have hin := hw.1
  replace hw := hw.2
  refine g_iastS (k := (Int32.toNatClampNeg xy1)) hC (hT _ tg_M_49) rfl hin dX12_worthOf_117 ?_
  refine g_goto (tgt := 178) hC dX12_worthOf_118 rfl ?_
  refine mG.pick (lv' := [(0, .ref (xB X + 37)), (2, .int x2), (3, .int x3), (4, .int x4)]) [0, 1, 2, 3] rfl ?_
  exact t_X12_worthOf_178 hC hd hN hP hT hK14 hw
def w_X12_worthOf_14 (Q : Int32 → Mem → Prop) : Nat → Int32 → Int32 → Int32 → Mem → Prop
  | 0, _, _, _, _ => False
  | n + 1, x2, x3, x4, σ => vp_in x2 18 ∧ (((mI σ 44 (Int32.toNatClampNeg x2)) ≤ x4 → (Q (mI σ 49 0) σ)) ∧ (¬ (mI σ 44 (Int32.toNatClampNeg x2)) ≤ x4 → (vp_in ((160 * x2) + x4) 2880 ∧ (∀ v101 : Int32, v101 = (mI σ 43 (Int32.toNatClampNeg ((160 * x2) + x4))) → ((0 ≤ v101 → ((6 ≤ v101 → ((¬ v101 = 12 → ((¬ v101 = 18 → (vp_in (x3 + (-1) - 1) 170 ∧ (vp_in (x3 + (-1)) 170 ∧ (w_X12_done σ v101 (mI σ 49 (Int32.toNatClampNeg (x3 + (-1) - 1))) (mI σ 49 (Int32.toNatClampNeg (x3 + (-1)))) (fun v102 s104 => vp_in (x3 + (-1) - 1) 170 ∧ (w_X12_worthOf_178 Q (fun z0 z1 z2 z3 => w_X12_worthOf_14 Q n z0 z1 z2 z3) x2 (x3 + (-1)) x4 (sI s104 49 (Int32.toNatClampNeg (x3 + (-1) - 1)) v102))))))) ∧ (v101 = 18 → (vp_in (x3 - 1) 170 ∧ (∀ v105 : Int32, v105 = (0 - (mI σ 49 (Int32.toNatClampNeg (x3 - 1)))) → (vp_in (x3 - 1) 170 ∧ (w_X12_worthOf_178 Q (fun z0 z1 z2 z3 => w_X12_worthOf_14 Q n z0 z1 z2 z3) x2 x3 x4 (sI σ 49 (Int32.toNatClampNeg (x3 - 1)) v105)))))))) ∧ (v101 = 12 → (vp_in (x3 - 1) 170 ∧ ((¬ (mI σ 49 (Int32.toNatClampNeg (x3 - 1))) = 0 → (w_X12_worthOf_117 Q (fun z0 z1 z2 z3 => w_X12_worthOf_14 Q n z0 z1 z2 z3) x2 x3 x4 0 (x3 - 1) σ)) ∧ ((mI σ 49 (Int32.toNatClampNeg (x3 - 1))) = 0 → (w_X12_worthOf_117 Q (fun z0 z1 z2 z3 => w_X12_worthOf_14 Q n z0 z1 z2 z3) x2 x3 x4 1 (x3 - 1) σ))))))) ∧ (¬ 6 ≤ v101 → (vp_in v101 6 ∧ (∀ v106 : Int32, v106 = (mI σ 50 (Int32.toNatClampNeg v101)) → (vp_in x3 170 ∧ (w_X12_worthOf_178 Q (fun z0 z1 z2 z3 => w_X12_worthOf_14 Q n z0 z1 z2 z3) x2 (x3 + 1) x4 (sI σ 49 (Int32.toNatClampNeg x3) v106)))))))) ∧ (¬ 0 ≤ v101 → (vp_in x3 170 ∧ (w_X12_worthOf_178 Q (fun z0 z1 z2 z3 => w_X12_worthOf_14 Q n z0 z1 z2 z3) x2 (x3 + 1) x4 (sI σ 49 (Int32.toNatClampNeg x3) ((-1) - v101))))))))))
set_option maxRecDepth 4000 in
set_option maxHeartbeats 2000000 in
theorem t_X12_worthOf_14 {X : Cx} {d : Nat} (hC : mOK X cX12_worthOf RX12 "worthOf" (some .int) d 0 0) (hd : 1 ≤ d) (hN : ∀ i, i < 6 → i < xN X) (hP : ∀ e ∈ psM, e ∈ xP X) (hT : ∀ e ∈ tsM, e ∈ xT X) {Q : Int32 → Mem → Prop} : ∀ (n : Nat) (x2 : Int32) (x3 : Int32) (x4 : Int32) (σ : Mem), w_X12_worthOf_14 Q n x2 x3 x4 σ → mG X 14 [(0, .ref (xB X + 37)), (2, .int x2), (3, .int x3), (4, .int x4)] [] σ 0 0 (mQ X 0 0 (qI Q)) := by
  intro n
  induction n with
  | zero => intro x2 x3 x4 σ hw; exact False.elim hw
  | succ n ih =>
    intro x2 x3 x4 σ hw
    rw [w_X12_worthOf_14] at hw
    refine g_iload hC dX12_worthOf_14 rfl ?_
    refine g_aload_n hC dX12_worthOf_16 rfl ?_
    refine g_getrS hC fl_X12_134_12.s (hT _ tg_M_37) (hP _ pt_M_37_12) dX12_worthOf_17 ?_
    refine g_iload_n hC dX12_worthOf_20 rfl ?_
    refine g_ialdSv (v := (mI σ 44 (Int32.toNatClampNeg x2))) hC (hT _ tg_M_44) rfl hw.1 rfl dX12_worthOf_21 ?_
    replace hw := hw.2
    refine g_icmp_ge (tgt := 184) hC dX12_worthOf_22 rfl (fun c => ?_) (fun c => ?_)
    · replace hw := hw.1 c
      refine g_aload_n hC dX12_worthOf_184 rfl ?_
      refine g_getrS hC fl_X12_164_12.s (hT _ tg_M_37) (hP _ pt_M_37_26) dX12_worthOf_185 ?_
      refine g_iconst (v := 0) hC dX12_worthOf_188 (by decide) ?_
      refine g_ialdSv (v := (mI σ 49 0)) (k := 0) hC (hT _ tg_M_49) (by decide) (vpl (by decide)) rfl dX12_worthOf_189 ?_
      exact g_iret hC rfl (by decide) (by decide) dX12_worthOf_190 (fun _ => ⟨_, rfl, hw⟩)
    · replace hw := hw.2 c
      refine g_aload_n hC dX12_worthOf_25 rfl ?_
      refine g_getrS hC fl_X12_86_12.s (hT _ tg_M_37) (hP _ pt_M_37_11) dX12_worthOf_26 ?_
      refine g_sipush (v := 160) hC dX12_worthOf_29 (by decide) ?_
      refine g_iload_n hC dX12_worthOf_32 rfl ?_
      refine g_imul hC dX12_worthOf_33 ?_
      refine g_iload hC dX12_worthOf_34 rfl ?_
      refine g_iadd hC dX12_worthOf_36 ?_
      refine g_ialdSv (v := (mI σ 43 (Int32.toNatClampNeg ((160 * x2) + x4)))) hC (hT _ tg_M_43) rfl hw.1 rfl dX12_worthOf_37 ?_
      replace hw := hw.2
      refine g_topi (fun v101 ev101 => ?_)
      replace hw := hw v101 ev101
      refine g_istore (lv' := [(5, .int v101), (0, .ref (xB X + 37)), (2, .int x2), (3, .int x3), (4, .int x4)]) hC dX12_worthOf_38 (hN 5 (by decide)) rfl ?_
      refine g_iload hC dX12_worthOf_40 rfl ?_
      refine g_if_ge (tgt := 61) hC dX12_worthOf_42 rfl (fun c => ?_) (fun c => ?_)
      · replace hw := hw.1 c
        refine g_iload hC dX12_worthOf_61 rfl ?_
        refine g_bipush (v := 6) hC dX12_worthOf_63 (by decide) ?_
        refine g_icmp_ge (tgt := 87) hC dX12_worthOf_65 rfl (fun c => ?_) (fun c => ?_)
        · replace hw := hw.1 c
          refine g_iload hC dX12_worthOf_87 rfl ?_
          refine g_bipush (v := 12) hC dX12_worthOf_89 (by decide) ?_
          refine g_icmp_ne (tgt := 121) hC dX12_worthOf_91 rfl (fun c => ?_) (fun c => ?_)
          · replace hw := hw.1 c
            refine g_iload hC dX12_worthOf_121 rfl ?_
            refine g_bipush (v := 18) hC dX12_worthOf_123 (by decide) ?_
            refine g_icmp_ne (tgt := 148) hC dX12_worthOf_125 rfl (fun c => ?_) (fun c => ?_)
            · replace hw := hw.1 c
              refine g_iinc (v := x3 + (-1)) (lv' := [(3, .int (x3 + (-1))), (5, .int v101), (0, .ref (xB X + 37)), (2, .int x2), (4, .int x4)]) hC dX12_worthOf_148 rfl rfl (hN 3 (by decide)) rfl ?_
              refine g_aload_n hC dX12_worthOf_151 rfl ?_
              refine g_getrS hC fl_X12_164_12.s (hT _ tg_M_37) (hP _ pt_M_37_26) dX12_worthOf_152 ?_
              refine g_iload_n hC dX12_worthOf_155 rfl ?_
              refine g_iconst (v := 1) hC dX12_worthOf_156 (by decide) ?_
              refine g_isub hC dX12_worthOf_157 ?_
              refine g_iload hC dX12_worthOf_158 rfl ?_
              refine g_aload_n hC dX12_worthOf_160 rfl ?_
              refine g_getrS hC fl_X12_164_12.s (hT _ tg_M_37) (hP _ pt_M_37_26) dX12_worthOf_161 ?_
              refine g_iload_n hC dX12_worthOf_164 rfl ?_
              refine g_iconst (v := 1) hC dX12_worthOf_165 (by decide) ?_
              refine g_isub hC dX12_worthOf_166 ?_
              refine g_ialdSv (v := (mI σ 49 (Int32.toNatClampNeg (x3 + (-1) - 1)))) hC (hT _ tg_M_49) rfl hw.1 rfl dX12_worthOf_167 ?_
              replace hw := hw.2
              refine g_aload_n hC dX12_worthOf_168 rfl ?_
              refine g_getrS hC fl_X12_164_12.s (hT _ tg_M_37) (hP _ pt_M_37_26) dX12_worthOf_169 ?_
              refine g_iload_n hC dX12_worthOf_172 rfl ?_
              refine g_ialdSv (v := (mI σ 49 (Int32.toNatClampNeg (x3 + (-1))))) hC (hT _ tg_M_49) rfl hw.1 rfl dX12_worthOf_173 ?_
              replace hw := hw.2
              refine mG.st (st1 := ([.int v101, .int (mI σ 49 (Int32.toNatClampNeg (x3 + (-1) - 1))), .int (mI σ 49 (Int32.toNatClampNeg (x3 + (-1))))] : List Value).reverse ++ [.int (x3 + (-1) - 1), .ref (xB X + 49)]) rfl ?_
              refine g_callS (As := [.int v101, .int (mI σ 49 (Int32.toNatClampNeg (x3 + (-1) - 1))), .int (mI σ 49 (Int32.toNatClampNeg (x3 + (-1))))]) (st := [.int (x3 + (-1) - 1), .ref (xB X + 49)]) hC yw_X12_done ys_X12_done tw_489 dX12_worthOf_174 (fun _ h => h) (fun _ h => h) (fun h => h) (c_X12_done (d := 0) (Nat.le_refl _) hw) rfl (Nat.le_of_ble_eq_true rfl) (by omega) (by decide) (by decide) (kI fun v102 s104 hw => ?_)
              have hin := hw.1
              replace hw := hw.2
              refine g_iastS (k := (Int32.toNatClampNeg (x3 + (-1) - 1))) hC (hT _ tg_M_49) rfl hin dX12_worthOf_177 ?_
              refine mG.pick (lv' := [(0, .ref (xB X + 37)), (2, .int x2), (3, .int (x3 + (-1))), (4, .int x4)]) [2, 3, 0, 4] rfl ?_
              exact t_X12_worthOf_178 hC hd hN hP hT ih hw
            · replace hw := hw.2 c
              refine g_aload_n hC dX12_worthOf_128 rfl ?_
              refine g_getrS hC fl_X12_164_12.s (hT _ tg_M_37) (hP _ pt_M_37_26) dX12_worthOf_129 ?_
              refine g_iload_n hC dX12_worthOf_132 rfl ?_
              refine g_iconst (v := 1) hC dX12_worthOf_133 (by decide) ?_
              refine g_isub hC dX12_worthOf_134 ?_
              refine g_aload_n hC dX12_worthOf_135 rfl ?_
              refine g_getrS hC fl_X12_164_12.s (hT _ tg_M_37) (hP _ pt_M_37_26) dX12_worthOf_136 ?_
              refine g_iload_n hC dX12_worthOf_139 rfl ?_
              refine g_iconst (v := 1) hC dX12_worthOf_140 (by decide) ?_
              refine g_isub hC dX12_worthOf_141 ?_
              refine g_ialdSv (v := (mI σ 49 (Int32.toNatClampNeg (x3 - 1)))) hC (hT _ tg_M_49) rfl hw.1 rfl dX12_worthOf_142 ?_
              replace hw := hw.2
              refine g_ineg hC dX12_worthOf_143 ?_
              refine g_topi (fun v105 ev105 => ?_)
              replace hw := hw v105 ev105
              have hin := hw.1
              replace hw := hw.2
              refine g_iastS (k := (Int32.toNatClampNeg (x3 - 1))) hC (hT _ tg_M_49) rfl hin dX12_worthOf_144 ?_
              refine g_goto (tgt := 178) hC dX12_worthOf_145 rfl ?_
              refine mG.pick (lv' := [(0, .ref (xB X + 37)), (2, .int x2), (3, .int x3), (4, .int x4)]) [1, 2, 3, 4] rfl ?_
              exact t_X12_worthOf_178 hC hd hN hP hT ih hw
          · replace hw := hw.2 c
            refine g_aload_n hC dX12_worthOf_94 rfl ?_
            refine g_getrS hC fl_X12_164_12.s (hT _ tg_M_37) (hP _ pt_M_37_26) dX12_worthOf_95 ?_
            refine g_iload_n hC dX12_worthOf_98 rfl ?_
            refine g_iconst (v := 1) hC dX12_worthOf_99 (by decide) ?_
            refine g_isub hC dX12_worthOf_100 ?_
            refine g_aload_n hC dX12_worthOf_101 rfl ?_
            refine g_getrS hC fl_X12_164_12.s (hT _ tg_M_37) (hP _ pt_M_37_26) dX12_worthOf_102 ?_
            refine g_iload_n hC dX12_worthOf_105 rfl ?_
            refine g_iconst (v := 1) hC dX12_worthOf_106 (by decide) ?_
            refine g_isub hC dX12_worthOf_107 ?_
            refine g_ialdSv (v := (mI σ 49 (Int32.toNatClampNeg (x3 - 1)))) hC (hT _ tg_M_49) rfl hw.1 rfl dX12_worthOf_108 ?_
            replace hw := hw.2
            refine g_if_ne (tgt := 116) hC dX12_worthOf_109 rfl (fun c => ?_) (fun c => ?_)
            · replace hw := hw.1 c
              refine g_iconst (v := 0) hC dX12_worthOf_116 (by decide) ?_
              refine mG.pick (lv' := [(0, .ref (xB X + 37)), (2, .int x2), (3, .int x3), (4, .int x4)]) [1, 2, 3, 4] rfl ?_
              exact t_X12_worthOf_117 hC hd hN hP hT ih hw
            · replace hw := hw.2 c
              refine g_iconst (v := 1) hC dX12_worthOf_112 (by decide) ?_
              refine g_goto (tgt := 117) hC dX12_worthOf_113 rfl ?_
              refine mG.pick (lv' := [(0, .ref (xB X + 37)), (2, .int x2), (3, .int x3), (4, .int x4)]) [1, 2, 3, 4] rfl ?_
              exact t_X12_worthOf_117 hC hd hN hP hT ih hw
        · replace hw := hw.2 c
          refine g_aload_n hC dX12_worthOf_68 rfl ?_
          refine g_getrS hC fl_X12_164_12.s (hT _ tg_M_37) (hP _ pt_M_37_26) dX12_worthOf_69 ?_
          refine g_iload_n hC dX12_worthOf_72 rfl ?_
          refine g_aload_n hC dX12_worthOf_73 rfl ?_
          refine g_getrS hC fl_X12_167_12.s (hT _ tg_M_37) (hP _ pt_M_37_27) dX12_worthOf_74 ?_
          refine g_iload hC dX12_worthOf_77 rfl ?_
          refine g_ialdSv (v := (mI σ 50 (Int32.toNatClampNeg v101))) hC (hT _ tg_M_50) rfl hw.1 rfl dX12_worthOf_79 ?_
          replace hw := hw.2
          refine g_topi (fun v106 ev106 => ?_)
          replace hw := hw v106 ev106
          have hin := hw.1
          replace hw := hw.2
          refine g_iastS (k := (Int32.toNatClampNeg x3)) hC (hT _ tg_M_49) rfl hin dX12_worthOf_80 ?_
          refine g_iinc (v := x3 + 1) (lv' := [(3, .int (x3 + 1)), (5, .int v101), (0, .ref (xB X + 37)), (2, .int x2), (4, .int x4)]) hC dX12_worthOf_81 rfl rfl (hN 3 (by decide)) rfl ?_
          refine g_goto (tgt := 178) hC dX12_worthOf_84 rfl ?_
          refine mG.pick (lv' := [(0, .ref (xB X + 37)), (2, .int x2), (3, .int (x3 + 1)), (4, .int x4)]) [2, 3, 0, 4] rfl ?_
          exact t_X12_worthOf_178 hC hd hN hP hT ih hw
      · replace hw := hw.2 c
        refine g_aload_n hC dX12_worthOf_45 rfl ?_
        refine g_getrS hC fl_X12_164_12.s (hT _ tg_M_37) (hP _ pt_M_37_26) dX12_worthOf_46 ?_
        refine g_iload_n hC dX12_worthOf_49 rfl ?_
        refine g_iconst (v := (-1)) hC dX12_worthOf_50 (by decide) ?_
        refine g_iload hC dX12_worthOf_51 rfl ?_
        refine g_isub hC dX12_worthOf_53 ?_
        have hin := hw.1
        replace hw := hw.2
        refine g_iastS (k := (Int32.toNatClampNeg x3)) hC (hT _ tg_M_49) rfl hin dX12_worthOf_54 ?_
        refine g_iinc (v := x3 + 1) (lv' := [(3, .int (x3 + 1)), (5, .int v101), (0, .ref (xB X + 37)), (2, .int x2), (4, .int x4)]) hC dX12_worthOf_55 rfl rfl (hN 3 (by decide)) rfl ?_
        refine g_goto (tgt := 178) hC dX12_worthOf_58 rfl ?_
        refine mG.pick (lv' := [(0, .ref (xB X + 37)), (2, .int x2), (3, .int (x3 + 1)), (4, .int x4)]) [2, 3, 0, 4] rfl ?_
        exact t_X12_worthOf_178 hC hd hN hP hT ih hw
def w_X12_worthOf (σ : Mem) (x1 : Int32) (Q : Int32 → Mem → Prop) : Prop := ∃ m101 : Nat, w_X12_worthOf_14 Q m101 ((3 * (mI σ 37 10)) + x1) 0 0 σ
set_option maxRecDepth 4000 in
set_option maxHeartbeats 2000000 in
theorem t_X12_worthOf {X : Cx} {d : Nat} (hC : mOK X cX12_worthOf RX12 "worthOf" (some .int) d 0 0) (hd : 1 ≤ d) (hN : ∀ i, i < 6 → i < xN X) (hP : ∀ e ∈ psM, e ∈ xP X) (hT : ∀ e ∈ tsM, e ∈ xT X) {σ : Mem} {x1 : Int32} {Q : Int32 → Mem → Prop} (hw : w_X12_worthOf σ x1 Q) : mG X 0 [(0, .ref (xB X + 37)), (1, .int x1)] [] σ 0 0 (mQ X 0 0 (qI Q)) := by
  refine g_iconst (v := 3) hC dX12_worthOf_0 (by decide) ?_
  refine g_aload_n hC dX12_worthOf_1 rfl ?_
  refine g_getiSv (v := (mI σ 37 10)) hC fl_X12_156_12.s (hT _ tg_M_37) rfl dX12_worthOf_2 ?_
  refine g_imul hC dX12_worthOf_5 ?_
  refine g_iload_n hC dX12_worthOf_6 rfl ?_
  refine g_iadd hC dX12_worthOf_7 ?_
  refine g_istore_n (lv' := [(2, .int ((3 * (mI σ 37 10)) + x1)), (0, .ref (xB X + 37)), (1, .int x1)]) hC dX12_worthOf_8 (hN 2 (by decide)) rfl ?_
  refine g_iconst (v := 0) hC dX12_worthOf_9 (by decide) ?_
  refine g_istore_n (lv' := [(3, .int 0), (2, .int ((3 * (mI σ 37 10)) + x1)), (0, .ref (xB X + 37)), (1, .int x1)]) hC dX12_worthOf_10 (hN 3 (by decide)) rfl ?_
  refine g_iconst (v := 0) hC dX12_worthOf_11 (by decide) ?_
  refine g_istore (lv' := [(4, .int 0), (3, .int 0), (2, .int ((3 * (mI σ 37 10)) + x1)), (0, .ref (xB X + 37)), (1, .int x1)]) hC dX12_worthOf_12 (hN 4 (by decide)) rfl ?_
  refine mG.pick (lv' := [(0, .ref (xB X + 37)), (2, .int ((3 * (mI σ 37 10)) + x1)), (3, .int 0), (4, .int 0)]) [3, 2, 1, 0] rfl ?_
  obtain ⟨m101, hw⟩ := hw
  exact t_X12_worthOf_14 hC hd hN hP hT m101 _ _ _ _ hw
set_option maxRecDepth 4000 in
theorem c_X12_worthOf {Z : Fx} {ps ts : List (Nat × Nat × Nat)} {d : Nat} (hd : 1 ≤ d) (hP : ∀ e ∈ psM, e ∈ ps) (hT : ∀ e ∈ tsM, e ∈ ts) {σ : Mem} {x1 : Int32} {Q : Int32 → Mem → Prop} (hw : w_X12_worthOf σ x1 Q) : mM Z ps ts yX12_worthOf cX12_worthOf 6 (some .int) d 0 0 [.ref (Z.2.2 + 37), .int x1] σ (qI Q) := by
  refine mM.of (by decide) (Nat.le_of_ble_eq_true rfl) rfl (fun X hZ hp ht hn hC => ?_)
  subst hZ; subst hp; subst ht
  exact t_X12_worthOf hC hd (fun i h => by rw [hn]; exact h) hP hT hw
def w_X12_bound (σ : Mem) (x0 : Int32) (Q : Int32 → Mem → Prop) : Prop := (0 ≤ x0 → ((x0 ≤ 99 → (Q x0 σ)) ∧ (¬ x0 ≤ 99 → (Q 99 σ)))) ∧ (¬ 0 ≤ x0 → (Q 0 σ))
set_option maxRecDepth 4000 in
set_option maxHeartbeats 2000000 in
theorem t_X12_bound {X : Cx} {d : Nat} (hC : mOK X cX12_bound RX12 "bound" (some .int) d 0 0) (hd : 0 ≤ d) (hN : ∀ i, i < 1 → i < xN X) {σ : Mem} {x0 : Int32} {Q : Int32 → Mem → Prop} (hw : w_X12_bound σ x0 Q) : mG X 0 [(0, .int x0)] [] σ 0 0 (mQ X 0 0 (qI Q)) := by
  refine g_iload_n hC dX12_bound_0 rfl ?_
  refine g_if_ge (tgt := 8) hC dX12_bound_1 rfl (fun c => ?_) (fun c => ?_)
  · replace hw := hw.1 c
    refine g_iload_n hC dX12_bound_8 rfl ?_
    refine g_bipush (v := 99) hC dX12_bound_9 (by decide) ?_
    refine g_icmp_le (tgt := 19) hC dX12_bound_11 rfl (fun c => ?_) (fun c => ?_)
    · replace hw := hw.1 c
      refine g_iload_n hC dX12_bound_19 rfl ?_
      exact g_iret hC rfl (by decide) (by decide) dX12_bound_20 (fun _ => ⟨_, rfl, hw⟩)
    · replace hw := hw.2 c
      refine g_bipush (v := 99) hC dX12_bound_14 (by decide) ?_
      refine g_goto (tgt := 20) hC dX12_bound_16 rfl ?_
      exact g_iret hC rfl (by decide) (by decide) dX12_bound_20 (fun _ => ⟨_, rfl, hw⟩)
  · replace hw := hw.2 c
    refine g_iconst (v := 0) hC dX12_bound_4 (by decide) ?_
    refine g_goto (tgt := 20) hC dX12_bound_5 rfl ?_
    exact g_iret hC rfl (by decide) (by decide) dX12_bound_20 (fun _ => ⟨_, rfl, hw⟩)
set_option maxRecDepth 4000 in
theorem c_X12_bound {Z : Fx} {ps ts : List (Nat × Nat × Nat)} {d : Nat} (hd : 0 ≤ d) {σ : Mem} {x0 : Int32} {Q : Int32 → Mem → Prop} (hw : w_X12_bound σ x0 Q) : mM Z ps ts yX12_bound cX12_bound 1 (some .int) d 0 0 [.int x0] σ (qI Q) := by
  refine mM.of (by decide) (Nat.le_of_ble_eq_true rfl) rfl (fun X hZ hp ht hn hC => ?_)
  subst hZ; subst hp; subst ht
  exact t_X12_bound hC hd (fun i h => by rw [hn]; exact h) hw
def w_X12_told_36 (Q : Int32 → Mem → Prop) (x1 : Int32) (x2 : Int32) (σ : Mem) : Prop := (x2 = 0 → (vp_in x1 8 ∧ (Q (mI σ 38 (Int32.toNatClampNeg x1)) σ))) ∧ (x2 = 1 → (vp_in x1 8 ∧ (Q (mI σ 39 (Int32.toNatClampNeg x1)) σ))) ∧ (x2 = 2 → (w_X12_name σ x1 0 0 0 0 (fun s103 => w_X12_worthOf s103 2 (fun v104 s106 => w_X12_bound s106 v104 (fun v107 s109 => Q v107 s109))))) ∧ (x2 = 3 → (vp_in x1 5 ∧ (Q (mI σ 40 (Int32.toNatClampNeg x1)) σ))) ∧ (¬ x2 = 0 → ¬ x2 = 1 → ¬ x2 = 2 → ¬ x2 = 3 → (vp_in x1 5 ∧ (Q (mI σ 41 (Int32.toNatClampNeg x1)) σ)))
set_option maxRecDepth 4000 in
set_option maxHeartbeats 2000000 in
theorem t_X12_told_36 {X : Cx} {d : Nat} (hC : mOK X cX12_told RX12 "told" (some .int) d 0 0) (hd : 2 ≤ d) (hN : ∀ i, i < 3 → i < xN X) (hP : ∀ e ∈ psM, e ∈ xP X) (hT : ∀ e ∈ tsM, e ∈ xT X) {Q : Int32 → Mem → Prop} {x1 : Int32} {x2 : Int32} {σ : Mem} (hw : w_X12_told_36 Q x1 x2 σ) : mG X 36 [(0, .ref (xB X + 37)), (1, .int x1), (2, .int x2)] [] σ 0 0 (mQ X 0 0 (qI Q)) := by
  refine g_iload_n hC dX12_told_36 rfl ?_
  by_cases c0 : x2 = 0
  · replace hw := hw.1 c0
    refine g_tableIn (tgt := 68) hC dX12_told_37 0 c0 (by decide) (by decide) rfl rfl ?_
    refine g_aload_n hC dX12_told_68 rfl ?_
    refine g_getrS hC fl_X12_14_12.s (hT _ tg_M_37) (hP _ pt_M_37_1) dX12_told_69 ?_
    refine g_iload_n hC dX12_told_72 rfl ?_
    refine g_ialdSv (v := (mI σ 38 (Int32.toNatClampNeg x1))) hC (hT _ tg_M_38) rfl hw.1 rfl dX12_told_73 ?_
    replace hw := hw.2
    exact g_iret hC rfl (by decide) (by decide) dX12_told_74 (fun _ => ⟨_, rfl, hw⟩)
  by_cases c1 : x2 = 1
  · replace hw := hw.2.1 c1
    refine g_tableIn (tgt := 75) hC dX12_told_37 1 c1 (by decide) (by decide) rfl rfl ?_
    refine g_aload_n hC dX12_told_75 rfl ?_
    refine g_getrS hC fl_X12_18_12.s (hT _ tg_M_37) (hP _ pt_M_37_2) dX12_told_76 ?_
    refine g_iload_n hC dX12_told_79 rfl ?_
    refine g_ialdSv (v := (mI σ 39 (Int32.toNatClampNeg x1))) hC (hT _ tg_M_39) rfl hw.1 rfl dX12_told_80 ?_
    replace hw := hw.2
    exact g_iret hC rfl (by decide) (by decide) dX12_told_81 (fun _ => ⟨_, rfl, hw⟩)
  by_cases c2 : x2 = 2
  · replace hw := hw.2.2.1 c2
    refine g_tableIn (tgt := 82) hC dX12_told_37 2 c2 (by decide) (by decide) rfl rfl ?_
    refine g_aload_n hC dX12_told_82 rfl ?_
    refine g_iload_n hC dX12_told_83 rfl ?_
    refine g_iconst (v := 0) hC dX12_told_84 (by decide) ?_
    refine g_iconst (v := 0) hC dX12_told_85 (by decide) ?_
    refine g_iconst (v := 0) hC dX12_told_86 (by decide) ?_
    refine g_iconst (v := 0) hC dX12_told_87 (by decide) ?_
    refine g_known (fun hS => ?_)
    refine mG.st (st1 := ([.int x1, .int 0, .int 0, .int 0, .int 0] : List Value).reverse ++ .ref (xB X + 37) :: []) rfl ?_
    refine g_callV (As := [.int x1, .int 0, .int 0, .int 0, .int 0]) (st := []) hC (hS.2 _ (hT _ tg_M_37)) (by decide) ycl_12_X12_name yw_X12_name yv_X12_name tw_484 dX12_told_88 (fun _ h => h) (fun _ h => h) (fun h => h) (c_X12_name (d := 0) (Nat.le_refl _) hP hT hw) rfl (Nat.le_of_ble_eq_true rfl) (by omega) (by decide) (by decide) (kV fun s103 hw => ?_)
    refine g_aload_n hC dX12_told_91 rfl ?_
    refine g_iconst (v := 2) hC dX12_told_92 (by decide) ?_
    refine g_known (fun hS => ?_)
    refine mG.st (st1 := ([.int 2] : List Value).reverse ++ .ref (xB X + 37) :: []) rfl ?_
    refine g_callV (As := [.int 2]) (st := []) hC (hS.2 _ (hT _ tg_M_37)) (by decide) ycl_12_X12_worthOf yw_X12_worthOf yv_X12_worthOf tw_486 dX12_told_93 (fun _ h => h) (fun _ h => h) (fun h => h) (c_X12_worthOf (d := 1) (Nat.le_refl _) hP hT hw) rfl (Nat.le_of_ble_eq_true rfl) (by omega) (by decide) (by decide) (kI fun v104 s106 hw => ?_)
    refine mG.st (st1 := ([.int v104] : List Value).reverse ++ []) rfl ?_
    refine g_callS (As := [.int v104]) (st := []) hC yw_X12_bound ys_X12_bound tw_494 dX12_told_96 (fun _ h => h) (fun _ h => h) (fun h => h) (c_X12_bound (d := 0) (Nat.le_refl _) hw) rfl (Nat.le_of_ble_eq_true rfl) (by omega) (by decide) (by decide) (kI fun v107 s109 hw => ?_)
    exact g_iret hC rfl (by decide) (by decide) dX12_told_99 (fun _ => ⟨_, rfl, hw⟩)
  by_cases c3 : x2 = 3
  · replace hw := hw.2.2.2.1 c3
    refine g_tableIn (tgt := 100) hC dX12_told_37 3 c3 (by decide) (by decide) rfl rfl ?_
    refine g_aload_n hC dX12_told_100 rfl ?_
    refine g_getrS hC fl_X12_21_12.s (hT _ tg_M_37) (hP _ pt_M_37_4) dX12_told_101 ?_
    refine g_iload_n hC dX12_told_104 rfl ?_
    refine g_ialdSv (v := (mI σ 40 (Int32.toNatClampNeg x1))) hC (hT _ tg_M_40) rfl hw.1 rfl dX12_told_105 ?_
    replace hw := hw.2
    exact g_iret hC rfl (by decide) (by decide) dX12_told_106 (fun _ => ⟨_, rfl, hw⟩)
  replace hw := hw.2.2.2.2 c0 c1 c2 c3
  refine g_tableOut (tgt := 107) hC dX12_told_37 (sw_out 0 3 x2 (by decide) [0, 1, 2, 3] (by decide) (List.forall_mem_cons.mpr ⟨c0, (List.forall_mem_cons.mpr ⟨c1, (List.forall_mem_cons.mpr ⟨c2, (List.forall_mem_cons.mpr ⟨c3, (fun k h => absurd h List.not_mem_nil)⟩)⟩)⟩)⟩)) rfl ?_
  refine g_aload_n hC dX12_told_107 rfl ?_
  refine g_getrS hC fl_X12_24_12.s (hT _ tg_M_37) (hP _ pt_M_37_5) dX12_told_108 ?_
  refine g_iload_n hC dX12_told_111 rfl ?_
  refine g_ialdSv (v := (mI σ 41 (Int32.toNatClampNeg x1))) hC (hT _ tg_M_41) rfl hw.1 rfl dX12_told_112 ?_
  replace hw := hw.2
  exact g_iret hC rfl (by decide) (by decide) dX12_told_113 (fun _ => ⟨_, rfl, hw⟩)
def w_X12_told (σ : Mem) (x1 : Int32) (x2 : Int32) (Q : Int32 → Mem → Prop) : Prop := w_X12_isIn σ x2 0 4 (fun v101 s103 => (v101 = 0 → (Q (-2) s103)) ∧ (¬ v101 = 0 → ((3 ≤ x2 → (w_X12_isLayer s103 x1 (fun v104 s106 => (¬ v104 = 0 → (w_X12_told_36 Q x1 x2 s106)) ∧ (v104 = 0 → (Q (-2) s106))))) ∧ (¬ 3 ≤ x2 → (w_X12_isPlate s103 x1 (fun v107 s109 => (¬ v107 = 0 → (w_X12_told_36 Q x1 x2 s109)) ∧ (v107 = 0 → (Q (-2) s109))))))))
set_option maxRecDepth 4000 in
set_option maxHeartbeats 2000000 in
theorem t_X12_told {X : Cx} {d : Nat} (hC : mOK X cX12_told RX12 "told" (some .int) d 0 0) (hd : 2 ≤ d) (hN : ∀ i, i < 3 → i < xN X) (hP : ∀ e ∈ psM, e ∈ xP X) (hT : ∀ e ∈ tsM, e ∈ xT X) {σ : Mem} {x1 : Int32} {x2 : Int32} {Q : Int32 → Mem → Prop} (hw : w_X12_told σ x1 x2 Q) : mG X 0 [(0, .ref (xB X + 37)), (1, .int x1), (2, .int x2)] [] σ 0 0 (mQ X 0 0 (qI Q)) := by
  refine g_iload_n hC dX12_told_0 rfl ?_
  refine g_iconst (v := 0) hC dX12_told_1 (by decide) ?_
  refine g_iconst (v := 4) hC dX12_told_2 (by decide) ?_
  refine mG.st (st1 := ([.int x2, .int 0, .int 4] : List Value).reverse ++ []) rfl ?_
  refine g_callS (As := [.int x2, .int 0, .int 4]) (st := []) hC yw_X12_isIn ys_X12_isIn tw_465 dX12_told_3 (fun _ h => h) (fun _ h => h) (fun h => h) (c_X12_isIn (d := 0) (Nat.le_refl _) hw) rfl (Nat.le_of_ble_eq_true rfl) (by omega) (by decide) (by decide) (kI fun v101 s103 hw => ?_)
  refine g_if_eq (tgt := 33) hC dX12_told_6 rfl (fun c => ?_) (fun c => ?_)
  · replace hw := hw.1 c
    refine g_bipush (v := (-2)) hC dX12_told_33 (by decide) ?_
    exact g_iret hC rfl (by decide) (by decide) dX12_told_35 (fun _ => ⟨_, rfl, hw⟩)
  · replace hw := hw.2 c
    refine g_iload_n hC dX12_told_9 rfl ?_
    refine g_iconst (v := 3) hC dX12_told_10 (by decide) ?_
    refine g_icmp_ge (tgt := 25) hC dX12_told_11 rfl (fun c => ?_) (fun c => ?_)
    · replace hw := hw.1 c
      refine g_aload_n hC dX12_told_25 rfl ?_
      refine g_iload_n hC dX12_told_26 rfl ?_
      refine g_known (fun hS => ?_)
      refine mG.st (st1 := ([.int x1] : List Value).reverse ++ .ref (xB X + 37) :: []) rfl ?_
      refine g_callV (As := [.int x1]) (st := []) hC (hS.2 _ (hT _ tg_M_37)) (by decide) ycl_12_X12_isLayer yw_X12_isLayer yv_X12_isLayer tw_480 dX12_told_27 (fun _ h => h) (fun _ h => h) (fun h => h) (c_X12_isLayer (d := 1) (Nat.le_refl _) hP hT hw) rfl (Nat.le_of_ble_eq_true rfl) (by omega) (by decide) (by decide) (kI fun v104 s106 hw => ?_)
      refine g_if_ne (tgt := 36) hC dX12_told_30 rfl (fun c => ?_) (fun c => ?_)
      · replace hw := hw.1 c
        refine mG.pick (lv' := [(0, .ref (xB X + 37)), (1, .int x1), (2, .int x2)]) [0, 1, 2] rfl ?_
        exact t_X12_told_36 hC hd hN hP hT hw
      · replace hw := hw.2 c
        refine g_bipush (v := (-2)) hC dX12_told_33 (by decide) ?_
        exact g_iret hC rfl (by decide) (by decide) dX12_told_35 (fun _ => ⟨_, rfl, hw⟩)
    · replace hw := hw.2 c
      refine g_aload_n hC dX12_told_14 rfl ?_
      refine g_iload_n hC dX12_told_15 rfl ?_
      refine g_known (fun hS => ?_)
      refine mG.st (st1 := ([.int x1] : List Value).reverse ++ .ref (xB X + 37) :: []) rfl ?_
      refine g_callV (As := [.int x1]) (st := []) hC (hS.2 _ (hT _ tg_M_37)) (by decide) ycl_12_X12_isPlate yw_X12_isPlate yv_X12_isPlate tw_475 dX12_told_16 (fun _ h => h) (fun _ h => h) (fun h => h) (c_X12_isPlate (d := 1) (Nat.le_refl _) hP hT hw) rfl (Nat.le_of_ble_eq_true rfl) (by omega) (by decide) (by decide) (kI fun v107 s109 hw => ?_)
      refine g_if_ne (tgt := 36) hC dX12_told_19 rfl (fun c => ?_) (fun c => ?_)
      · replace hw := hw.1 c
        refine mG.pick (lv' := [(0, .ref (xB X + 37)), (1, .int x1), (2, .int x2)]) [0, 1, 2] rfl ?_
        exact t_X12_told_36 hC hd hN hP hT hw
      · replace hw := hw.2 c
        refine g_goto (tgt := 33) hC dX12_told_22 rfl ?_
        refine g_bipush (v := (-2)) hC dX12_told_33 (by decide) ?_
        exact g_iret hC rfl (by decide) (by decide) dX12_told_35 (fun _ => ⟨_, rfl, hw⟩)
set_option maxRecDepth 4000 in
theorem c_X12_told {Z : Fx} {ps ts : List (Nat × Nat × Nat)} {d : Nat} (hd : 2 ≤ d) (hP : ∀ e ∈ psM, e ∈ ps) (hT : ∀ e ∈ tsM, e ∈ ts) {σ : Mem} {x1 : Int32} {x2 : Int32} {Q : Int32 → Mem → Prop} (hw : w_X12_told σ x1 x2 Q) : mM Z ps ts yX12_told cX12_told 3 (some .int) d 0 0 [.ref (Z.2.2 + 37), .int x1, .int x2] σ (qI Q) := by
  refine mM.of (by decide) (Nat.le_of_ble_eq_true rfl) rfl (fun X hZ hp ht hn hC => ?_)
  subst hZ; subst hp; subst ht
  exact t_X12_told hC hd (fun i h => by rw [hn]; exact h) hP hT hw
def w_X12_feed (σ : Mem) (x1 : Int32) (Q : Int32 → Mem → Prop) : Prop := w_X12_isIn σ x1 0 255 (fun v101 s103 => (¬ v101 = 0 → ((¬ (mI s103 37 8) = 160 → (vp_in (mI s103 37 8) 160 ∧ (Q ((mI s103 37 8) + 1) (sI (sI s103 42 (Int32.toNatClampNeg (mI s103 37 8)) x1) 37 8 ((mI s103 37 8) + 1))))) ∧ ((mI s103 37 8) = 160 → (Q (-4) s103)))) ∧ (v101 = 0 → (Q (-2) s103)))
set_option maxRecDepth 4000 in
set_option maxHeartbeats 2000000 in
theorem t_X12_feed {X : Cx} {d : Nat} (hC : mOK X cX12_feed RX12 "feed" (some .int) d 0 0) (hd : 1 ≤ d) (hN : ∀ i, i < 2 → i < xN X) (hP : ∀ e ∈ psM, e ∈ xP X) (hT : ∀ e ∈ tsM, e ∈ xT X) {σ : Mem} {x1 : Int32} {Q : Int32 → Mem → Prop} (hw : w_X12_feed σ x1 Q) : mG X 0 [(0, .ref (xB X + 37)), (1, .int x1)] [] σ 0 0 (mQ X 0 0 (qI Q)) := by
  refine g_iload_n hC dX12_feed_0 rfl ?_
  refine g_iconst (v := 0) hC dX12_feed_1 (by decide) ?_
  refine g_sipush (v := 255) hC dX12_feed_2 (by decide) ?_
  refine mG.st (st1 := ([.int x1, .int 0, .int 255] : List Value).reverse ++ []) rfl ?_
  refine g_callS (As := [.int x1, .int 0, .int 255]) (st := []) hC yw_X12_isIn ys_X12_isIn tw_465 dX12_feed_5 (fun _ h => h) (fun _ h => h) (fun h => h) (c_X12_isIn (d := 0) (Nat.le_refl _) hw) rfl (Nat.le_of_ble_eq_true rfl) (by omega) (by decide) (by decide) (kI fun v101 s103 hw => ?_)
  refine g_if_ne (tgt := 14) hC dX12_feed_8 rfl (fun c => ?_) (fun c => ?_)
  · replace hw := hw.1 c
    refine g_aload_n hC dX12_feed_14 rfl ?_
    refine g_getiSv (v := (mI s103 37 8)) hC fl_X12_48_12.s (hT _ tg_M_37) rfl dX12_feed_15 ?_
    refine g_sipush (v := 160) hC dX12_feed_18 (by decide) ?_
    refine g_icmp_ne (tgt := 27) hC dX12_feed_21 rfl (fun c => ?_) (fun c => ?_)
    · replace hw := hw.1 c
      refine g_aload_n hC dX12_feed_27 rfl ?_
      refine g_getrS hC fl_X12_51_12.s (hT _ tg_M_37) (hP _ pt_M_37_7) dX12_feed_28 ?_
      refine g_aload_n hC dX12_feed_31 rfl ?_
      refine g_getiSv (v := (mI s103 37 8)) hC fl_X12_48_12.s (hT _ tg_M_37) rfl dX12_feed_32 ?_
      refine g_iload_n hC dX12_feed_35 rfl ?_
      have hin := hw.1
      replace hw := hw.2
      refine g_iastS (k := (Int32.toNatClampNeg (mI s103 37 8))) hC (hT _ tg_M_42) rfl hin dX12_feed_36 ?_
      refine g_aload_n hC dX12_feed_37 rfl ?_
      refine g_dup hC dX12_feed_38 rfl ?_
      refine g_getiSv (v := (mI s103 37 8)) hC fl_X12_48_12.s (hT _ tg_M_37) (mI_sI_n _ _ (by decide)) dX12_feed_39 ?_
      refine g_iconst (v := 1) hC dX12_feed_42 (by decide) ?_
      refine g_iadd hC dX12_feed_43 ?_
      refine g_putIS hC (fw_X12_48_12 _) (hT _ tg_M_37) rfl rfl dX12_feed_44 ?_
      refine g_aload_n hC dX12_feed_47 rfl ?_
      refine g_getiSv (v := ((mI s103 37 8) + 1)) hC fl_X12_48_12.s (hT _ tg_M_37) (mI_sI_s _ _ _ _) dX12_feed_48 ?_
      exact g_iret hC rfl (by decide) (by decide) dX12_feed_51 (fun _ => ⟨_, rfl, hw⟩)
    · replace hw := hw.2 c
      refine g_bipush (v := (-4)) hC dX12_feed_24 (by decide) ?_
      exact g_iret hC rfl (by decide) (by decide) dX12_feed_26 (fun _ => ⟨_, rfl, hw⟩)
  · replace hw := hw.2 c
    refine g_bipush (v := (-2)) hC dX12_feed_11 (by decide) ?_
    exact g_iret hC rfl (by decide) (by decide) dX12_feed_13 (fun _ => ⟨_, rfl, hw⟩)
set_option maxRecDepth 4000 in
theorem c_X12_feed {Z : Fx} {ps ts : List (Nat × Nat × Nat)} {d : Nat} (hd : 1 ≤ d) (hP : ∀ e ∈ psM, e ∈ ps) (hT : ∀ e ∈ tsM, e ∈ ts) {σ : Mem} {x1 : Int32} {Q : Int32 → Mem → Prop} (hw : w_X12_feed σ x1 Q) : mM Z ps ts yX12_feed cX12_feed 2 (some .int) d 0 0 [.ref (Z.2.2 + 37), .int x1] σ (qI Q) := by
  refine mM.of (by decide) (Nat.le_of_ble_eq_true rfl) rfl (fun X hZ hp ht hn hC => ?_)
  subst hZ; subst hp; subst ht
  exact t_X12_feed hC hd (fun i h => by rw [hn]; exact h) hP hT hw
def w_X12_isLetter (σ : Mem) (x1 : Int32) (Q : Int32 → Mem → Prop) : Prop := ((mI σ 37 8) ≤ x1 → (Q 0 σ)) ∧ (¬ (mI σ 37 8) ≤ x1 → (vp_in x1 160 ∧ (((mI σ 42 (Int32.toNatClampNeg x1)) < 97 → (Q 0 σ)) ∧ (¬ (mI σ 42 (Int32.toNatClampNeg x1)) < 97 → (vp_in x1 160 ∧ ((122 < (mI σ 42 (Int32.toNatClampNeg x1)) → (Q 0 σ)) ∧ (¬ 122 < (mI σ 42 (Int32.toNatClampNeg x1)) → (Q 1 σ))))))))
set_option maxRecDepth 4000 in
set_option maxHeartbeats 2000000 in
theorem t_X12_isLetter {X : Cx} {d : Nat} (hC : mOK X cX12_isLetter RX12 "isLetter" (some .boolean) d 0 0) (hd : 0 ≤ d) (hN : ∀ i, i < 2 → i < xN X) (hP : ∀ e ∈ psM, e ∈ xP X) (hT : ∀ e ∈ tsM, e ∈ xT X) {σ : Mem} {x1 : Int32} {Q : Int32 → Mem → Prop} (hw : w_X12_isLetter σ x1 Q) : mG X 0 [(0, .ref (xB X + 37)), (1, .int x1)] [] σ 0 0 (mQ X 0 0 (qI Q)) := by
  refine g_iload_n hC dX12_isLetter_0 rfl ?_
  refine g_aload_n hC dX12_isLetter_1 rfl ?_
  refine g_getiSv (v := (mI σ 37 8)) hC fl_X12_48_12.s (hT _ tg_M_37) rfl dX12_isLetter_2 ?_
  refine g_icmp_ge (tgt := 34) hC dX12_isLetter_5 rfl (fun c => ?_) (fun c => ?_)
  · replace hw := hw.1 c
    refine g_iconst (v := 0) hC dX12_isLetter_34 (by decide) ?_
    exact g_iret hC bz0 (by decide) (by decide) dX12_isLetter_35 (fun _ => ⟨_, rfl, hw⟩)
  · replace hw := hw.2 c
    refine g_aload_n hC dX12_isLetter_8 rfl ?_
    refine g_getrS hC fl_X12_51_12.s (hT _ tg_M_37) (hP _ pt_M_37_7) dX12_isLetter_9 ?_
    refine g_iload_n hC dX12_isLetter_12 rfl ?_
    refine g_ialdSv (v := (mI σ 42 (Int32.toNatClampNeg x1))) hC (hT _ tg_M_42) rfl hw.1 rfl dX12_isLetter_13 ?_
    replace hw := hw.2
    refine g_bipush (v := 97) hC dX12_isLetter_14 (by decide) ?_
    refine g_icmp_lt (tgt := 34) hC dX12_isLetter_16 rfl (fun c => ?_) (fun c => ?_)
    · replace hw := hw.1 c
      refine g_iconst (v := 0) hC dX12_isLetter_34 (by decide) ?_
      exact g_iret hC bz0 (by decide) (by decide) dX12_isLetter_35 (fun _ => ⟨_, rfl, hw⟩)
    · replace hw := hw.2 c
      refine g_aload_n hC dX12_isLetter_19 rfl ?_
      refine g_getrS hC fl_X12_51_12.s (hT _ tg_M_37) (hP _ pt_M_37_7) dX12_isLetter_20 ?_
      refine g_iload_n hC dX12_isLetter_23 rfl ?_
      refine g_ialdSv (v := (mI σ 42 (Int32.toNatClampNeg x1))) hC (hT _ tg_M_42) rfl hw.1 rfl dX12_isLetter_24 ?_
      replace hw := hw.2
      refine g_bipush (v := 122) hC dX12_isLetter_25 (by decide) ?_
      refine g_icmp_gt (tgt := 34) hC dX12_isLetter_27 rfl (fun c => ?_) (fun c => ?_)
      · replace hw := hw.1 c
        refine g_iconst (v := 0) hC dX12_isLetter_34 (by decide) ?_
        exact g_iret hC bz0 (by decide) (by decide) dX12_isLetter_35 (fun _ => ⟨_, rfl, hw⟩)
      · replace hw := hw.2 c
        refine g_iconst (v := 1) hC dX12_isLetter_30 (by decide) ?_
        refine g_goto (tgt := 35) hC dX12_isLetter_31 rfl ?_
        exact g_iret hC bz1 (by decide) (by decide) dX12_isLetter_35 (fun _ => ⟨_, rfl, hw⟩)
set_option maxRecDepth 4000 in
theorem c_X12_isLetter {Z : Fx} {ps ts : List (Nat × Nat × Nat)} {d : Nat} (hd : 0 ≤ d) (hP : ∀ e ∈ psM, e ∈ ps) (hT : ∀ e ∈ tsM, e ∈ ts) {σ : Mem} {x1 : Int32} {Q : Int32 → Mem → Prop} (hw : w_X12_isLetter σ x1 Q) : mM Z ps ts yX12_isLetter cX12_isLetter 2 (some .boolean) d 0 0 [.ref (Z.2.2 + 37), .int x1] σ (qI Q) := by
  refine mM.of (by decide) (Nat.le_of_ble_eq_true rfl) rfl (fun X hZ hp ht hn hC => ?_)
  subst hZ; subst hp; subst ht
  exact t_X12_isLetter hC hd (fun i h => by rw [hn]; exact h) hP hT hw
def w_X12_isDigit (σ : Mem) (x1 : Int32) (Q : Int32 → Mem → Prop) : Prop := ((mI σ 37 8) ≤ x1 → (Q 0 σ)) ∧ (¬ (mI σ 37 8) ≤ x1 → (vp_in x1 160 ∧ (((mI σ 42 (Int32.toNatClampNeg x1)) < 48 → (Q 0 σ)) ∧ (¬ (mI σ 42 (Int32.toNatClampNeg x1)) < 48 → (vp_in x1 160 ∧ ((57 < (mI σ 42 (Int32.toNatClampNeg x1)) → (Q 0 σ)) ∧ (¬ 57 < (mI σ 42 (Int32.toNatClampNeg x1)) → (Q 1 σ))))))))
set_option maxRecDepth 4000 in
set_option maxHeartbeats 2000000 in
theorem t_X12_isDigit {X : Cx} {d : Nat} (hC : mOK X cX12_isDigit RX12 "isDigit" (some .boolean) d 0 0) (hd : 0 ≤ d) (hN : ∀ i, i < 2 → i < xN X) (hP : ∀ e ∈ psM, e ∈ xP X) (hT : ∀ e ∈ tsM, e ∈ xT X) {σ : Mem} {x1 : Int32} {Q : Int32 → Mem → Prop} (hw : w_X12_isDigit σ x1 Q) : mG X 0 [(0, .ref (xB X + 37)), (1, .int x1)] [] σ 0 0 (mQ X 0 0 (qI Q)) := by
  refine g_iload_n hC dX12_isDigit_0 rfl ?_
  refine g_aload_n hC dX12_isDigit_1 rfl ?_
  refine g_getiSv (v := (mI σ 37 8)) hC fl_X12_48_12.s (hT _ tg_M_37) rfl dX12_isDigit_2 ?_
  refine g_icmp_ge (tgt := 34) hC dX12_isDigit_5 rfl (fun c => ?_) (fun c => ?_)
  · replace hw := hw.1 c
    refine g_iconst (v := 0) hC dX12_isDigit_34 (by decide) ?_
    exact g_iret hC bz0 (by decide) (by decide) dX12_isDigit_35 (fun _ => ⟨_, rfl, hw⟩)
  · replace hw := hw.2 c
    refine g_aload_n hC dX12_isDigit_8 rfl ?_
    refine g_getrS hC fl_X12_51_12.s (hT _ tg_M_37) (hP _ pt_M_37_7) dX12_isDigit_9 ?_
    refine g_iload_n hC dX12_isDigit_12 rfl ?_
    refine g_ialdSv (v := (mI σ 42 (Int32.toNatClampNeg x1))) hC (hT _ tg_M_42) rfl hw.1 rfl dX12_isDigit_13 ?_
    replace hw := hw.2
    refine g_bipush (v := 48) hC dX12_isDigit_14 (by decide) ?_
    refine g_icmp_lt (tgt := 34) hC dX12_isDigit_16 rfl (fun c => ?_) (fun c => ?_)
    · replace hw := hw.1 c
      refine g_iconst (v := 0) hC dX12_isDigit_34 (by decide) ?_
      exact g_iret hC bz0 (by decide) (by decide) dX12_isDigit_35 (fun _ => ⟨_, rfl, hw⟩)
    · replace hw := hw.2 c
      refine g_aload_n hC dX12_isDigit_19 rfl ?_
      refine g_getrS hC fl_X12_51_12.s (hT _ tg_M_37) (hP _ pt_M_37_7) dX12_isDigit_20 ?_
      refine g_iload_n hC dX12_isDigit_23 rfl ?_
      refine g_ialdSv (v := (mI σ 42 (Int32.toNatClampNeg x1))) hC (hT _ tg_M_42) rfl hw.1 rfl dX12_isDigit_24 ?_
      replace hw := hw.2
      refine g_bipush (v := 57) hC dX12_isDigit_25 (by decide) ?_
      refine g_icmp_gt (tgt := 34) hC dX12_isDigit_27 rfl (fun c => ?_) (fun c => ?_)
      · replace hw := hw.1 c
        refine g_iconst (v := 0) hC dX12_isDigit_34 (by decide) ?_
        exact g_iret hC bz0 (by decide) (by decide) dX12_isDigit_35 (fun _ => ⟨_, rfl, hw⟩)
      · replace hw := hw.2 c
        refine g_iconst (v := 1) hC dX12_isDigit_30 (by decide) ?_
        refine g_goto (tgt := 35) hC dX12_isDigit_31 rfl ?_
        exact g_iret hC bz1 (by decide) (by decide) dX12_isDigit_35 (fun _ => ⟨_, rfl, hw⟩)
set_option maxRecDepth 4000 in
theorem c_X12_isDigit {Z : Fx} {ps ts : List (Nat × Nat × Nat)} {d : Nat} (hd : 0 ≤ d) (hP : ∀ e ∈ psM, e ∈ ps) (hT : ∀ e ∈ tsM, e ∈ ts) {σ : Mem} {x1 : Int32} {Q : Int32 → Mem → Prop} (hw : w_X12_isDigit σ x1 Q) : mM Z ps ts yX12_isDigit cX12_isDigit 2 (some .boolean) d 0 0 [.ref (Z.2.2 + 37), .int x1] σ (qI Q) := by
  refine mM.of (by decide) (Nat.le_of_ble_eq_true rfl) rfl (fun X hZ hp ht hn hC => ?_)
  subst hZ; subst hp; subst ht
  exact t_X12_isDigit hC hd (fun i h => by rw [hn]; exact h) hP hT hw
def w_X12_readWord_164 (Q : Mem → Prop) (K32 : Int32 → Mem → Prop) (x1 : Int32) (σ : Mem) : Prop := K32 (x1 + 1) σ
set_option maxRecDepth 4000 in
set_option maxHeartbeats 2000000 in
theorem t_X12_readWord_164 {X : Cx} {d : Nat} (hC : mOK X cX12_readWord RX12 "readWord" none d 0 0) (hd : 1 ≤ d) (hN : ∀ i, i < 5 → i < xN X) (hP : ∀ e ∈ psM, e ∈ xP X) (hT : ∀ e ∈ tsM, e ∈ xT X) {Q : Mem → Prop} {K32 : Int32 → Mem → Prop} (hK32 : ∀ (x1 : Int32) (s : Mem), K32 x1 s → mG X 32 [(0, .ref (xB X + 37)), (1, .int x1)] [] s 0 0 (mQ X 0 0 (qV Q))) {x1 : Int32} {σ : Mem} (hw : w_X12_readWord_164 Q K32 x1 σ) : mG X 164 [(0, .ref (xB X + 37)), (1, .int x1)] [] σ 0 0 (mQ X 0 0 (qV Q)) := by
  refine g_iinc (v := x1 + 1) (lv' := [(1, .int (x1 + 1)), (0, .ref (xB X + 37))]) hC dX12_readWord_164 rfl rfl (hN 1 (by decide)) rfl ?_
  refine g_goto (tgt := 32) hC dX12_readWord_167 rfl ?_
  refine mG.pick (lv' := [(0, .ref (xB X + 37)), (1, .int (x1 + 1))]) [1, 0] rfl ?_
  exact hK32 _ _ hw
def w_X12_readWord_161 (Q : Mem → Prop) (K32 : Int32 → Mem → Prop) (x1 : Int32) (xy0 : Int32) (σ : Mem) : Prop := w_X12_readWord_164 Q K32 x1 (sI σ 37 15 xy0)
set_option maxRecDepth 4000 in
set_option maxHeartbeats 2000000 in
theorem t_X12_readWord_161 {X : Cx} {d : Nat} (hC : mOK X cX12_readWord RX12 "readWord" none d 0 0) (hd : 1 ≤ d) (hN : ∀ i, i < 5 → i < xN X) (hP : ∀ e ∈ psM, e ∈ xP X) (hT : ∀ e ∈ tsM, e ∈ xT X) {Q : Mem → Prop} {K32 : Int32 → Mem → Prop} (hK32 : ∀ (x1 : Int32) (s : Mem), K32 x1 s → mG X 32 [(0, .ref (xB X + 37)), (1, .int x1)] [] s 0 0 (mQ X 0 0 (qV Q))) {x1 : Int32} {xy0 : Int32} {σ : Mem} (hw : w_X12_readWord_161 Q K32 x1 xy0 σ) : mG X 161 [(0, .ref (xB X + 37)), (1, .int x1)] [.int xy0, .ref (xB X + 37)] σ 0 0 (mQ X 0 0 (qV Q)) := by
  refine g_putIS hC (fw_X12_73_12 _) (hT _ tg_M_37) rfl rfl dX12_readWord_161 ?_
  refine mG.pick (lv' := [(0, .ref (xB X + 37)), (1, .int x1)]) [0, 1] rfl ?_
  exact t_X12_readWord_164 hC hd hN hP hT hK32 hw
def w_X12_readWord_143 (Q : Mem → Prop) (K32 : Int32 → Mem → Prop) (x1 : Int32) (xy0 : Int32) (σ : Mem) : Prop := (6 ≤ x1 → (w_X12_readWord_161 Q K32 x1 (x1 - 6) (sI σ 37 14 xy0))) ∧ (¬ 6 ≤ x1 → (w_X12_readWord_161 Q K32 x1 x1 (sI σ 37 14 xy0)))
set_option maxRecDepth 4000 in
set_option maxHeartbeats 2000000 in
theorem t_X12_readWord_143 {X : Cx} {d : Nat} (hC : mOK X cX12_readWord RX12 "readWord" none d 0 0) (hd : 1 ≤ d) (hN : ∀ i, i < 5 → i < xN X) (hP : ∀ e ∈ psM, e ∈ xP X) (hT : ∀ e ∈ tsM, e ∈ xT X) {Q : Mem → Prop} {K32 : Int32 → Mem → Prop} (hK32 : ∀ (x1 : Int32) (s : Mem), K32 x1 s → mG X 32 [(0, .ref (xB X + 37)), (1, .int x1)] [] s 0 0 (mQ X 0 0 (qV Q))) {x1 : Int32} {xy0 : Int32} {σ : Mem} (hw : w_X12_readWord_143 Q K32 x1 xy0 σ) : mG X 143 [(0, .ref (xB X + 37)), (1, .int x1)] [.int xy0, .ref (xB X + 37)] σ 0 0 (mQ X 0 0 (qV Q)) := by
  refine g_putIS hC (fw_X12_60_12 _) (hT _ tg_M_37) rfl rfl dX12_readWord_143 ?_
  refine g_aload_n hC dX12_readWord_146 rfl ?_
  refine g_iload_n hC dX12_readWord_147 rfl ?_
  refine g_bipush (v := 6) hC dX12_readWord_148 (by decide) ?_
  refine g_icmp_ge (tgt := 157) hC dX12_readWord_150 rfl (fun c => ?_) (fun c => ?_)
  · replace hw := hw.1 c
    refine g_iload_n hC dX12_readWord_157 rfl ?_
    refine g_bipush (v := 6) hC dX12_readWord_158 (by decide) ?_
    refine g_isub hC dX12_readWord_160 ?_
    refine mG.pick (lv' := [(0, .ref (xB X + 37)), (1, .int x1)]) [0, 1] rfl ?_
    exact t_X12_readWord_161 hC hd hN hP hT hK32 hw
  · replace hw := hw.2 c
    refine g_iload_n hC dX12_readWord_153 rfl ?_
    refine g_goto (tgt := 161) hC dX12_readWord_154 rfl ?_
    refine mG.pick (lv' := [(0, .ref (xB X + 37)), (1, .int x1)]) [0, 1] rfl ?_
    exact t_X12_readWord_161 hC hd hN hP hT hK32 hw
def w_X12_readWord_127 (Q : Mem → Prop) (K32 : Int32 → Mem → Prop) (x1 : Int32) (x3 : Int32) (σ : Mem) : Prop := (x3 = 0 → (w_X12_readWord_164 Q K32 x1 σ)) ∧ (¬ x3 = 0 → ((6 ≤ x1 → (w_X12_readWord_143 Q K32 x1 3 σ)) ∧ (¬ 6 ≤ x1 → (w_X12_readWord_143 Q K32 x1 2 σ))))
set_option maxRecDepth 4000 in
set_option maxHeartbeats 2000000 in
theorem t_X12_readWord_127 {X : Cx} {d : Nat} (hC : mOK X cX12_readWord RX12 "readWord" none d 0 0) (hd : 1 ≤ d) (hN : ∀ i, i < 5 → i < xN X) (hP : ∀ e ∈ psM, e ∈ xP X) (hT : ∀ e ∈ tsM, e ∈ xT X) {Q : Mem → Prop} {K32 : Int32 → Mem → Prop} (hK32 : ∀ (x1 : Int32) (s : Mem), K32 x1 s → mG X 32 [(0, .ref (xB X + 37)), (1, .int x1)] [] s 0 0 (mQ X 0 0 (qV Q))) {x1 : Int32} {x3 : Int32} {σ : Mem} (hw : w_X12_readWord_127 Q K32 x1 x3 σ) : mG X 127 [(0, .ref (xB X + 37)), (1, .int x1), (3, .int x3)] [] σ 0 0 (mQ X 0 0 (qV Q)) := by
  refine g_iload_n hC dX12_readWord_127 rfl ?_
  refine g_if_eq (tgt := 164) hC dX12_readWord_128 rfl (fun c => ?_) (fun c => ?_)
  · replace hw := hw.1 c
    refine mG.pick (lv' := [(0, .ref (xB X + 37)), (1, .int x1)]) [0, 1] rfl ?_
    exact t_X12_readWord_164 hC hd hN hP hT hK32 hw
  · replace hw := hw.2 c
    refine g_aload_n hC dX12_readWord_131 rfl ?_
    refine g_iload_n hC dX12_readWord_132 rfl ?_
    refine g_bipush (v := 6) hC dX12_readWord_133 (by decide) ?_
    refine g_icmp_ge (tgt := 142) hC dX12_readWord_135 rfl (fun c => ?_) (fun c => ?_)
    · replace hw := hw.1 c
      refine g_iconst (v := 3) hC dX12_readWord_142 (by decide) ?_
      refine mG.pick (lv' := [(0, .ref (xB X + 37)), (1, .int x1)]) [0, 1] rfl ?_
      exact t_X12_readWord_143 hC hd hN hP hT hK32 hw
    · replace hw := hw.2 c
      refine g_iconst (v := 2) hC dX12_readWord_138 (by decide) ?_
      refine g_goto (tgt := 143) hC dX12_readWord_139 rfl ?_
      refine mG.pick (lv' := [(0, .ref (xB X + 37)), (1, .int x1)]) [0, 1] rfl ?_
      exact t_X12_readWord_143 hC hd hN hP hT hK32 hw
def w_X12_readWord_120 (Q : Mem → Prop) (K32 : Int32 → Mem → Prop) (K76 : Int32 → Int32 → Int32 → Int32 → Mem → Prop) (x1 : Int32) (x2 : Int32) (x4 : Int32) (xy0 : Int32) (σ : Mem) : Prop := K76 x1 x2 xy0 (x4 + 1) σ
set_option maxRecDepth 4000 in
set_option maxHeartbeats 2000000 in
theorem t_X12_readWord_120 {X : Cx} {d : Nat} (hC : mOK X cX12_readWord RX12 "readWord" none d 0 0) (hd : 1 ≤ d) (hN : ∀ i, i < 5 → i < xN X) (hP : ∀ e ∈ psM, e ∈ xP X) (hT : ∀ e ∈ tsM, e ∈ xT X) {Q : Mem → Prop} {K32 : Int32 → Mem → Prop} {K76 : Int32 → Int32 → Int32 → Int32 → Mem → Prop} (hK32 : ∀ (x1 : Int32) (s : Mem), K32 x1 s → mG X 32 [(0, .ref (xB X + 37)), (1, .int x1)] [] s 0 0 (mQ X 0 0 (qV Q))) (hK76 : ∀ (x1 : Int32) (x2 : Int32) (x3 : Int32) (x4 : Int32) (s : Mem), K76 x1 x2 x3 x4 s → mG X 76 [(0, .ref (xB X + 37)), (1, .int x1), (2, .int x2), (3, .int x3), (4, .int x4)] [] s 0 0 (mQ X 0 0 (qV Q))) {x1 : Int32} {x2 : Int32} {x4 : Int32} {xy0 : Int32} {σ : Mem} (hw : w_X12_readWord_120 Q K32 K76 x1 x2 x4 xy0 σ) : mG X 120 [(0, .ref (xB X + 37)), (1, .int x1), (2, .int x2), (4, .int x4)] [.int xy0] σ 0 0 (mQ X 0 0 (qV Q)) := by
  refine g_istore_n (lv' := [(3, .int xy0), (0, .ref (xB X + 37)), (1, .int x1), (2, .int x2), (4, .int x4)]) hC dX12_readWord_120 (hN 3 (by decide)) rfl ?_
  refine g_iinc (v := x4 + 1) (lv' := [(4, .int (x4 + 1)), (3, .int xy0), (0, .ref (xB X + 37)), (1, .int x1), (2, .int x2)]) hC dX12_readWord_121 rfl rfl (hN 4 (by decide)) rfl ?_
  refine g_goto (tgt := 76) hC dX12_readWord_124 rfl ?_
  refine mG.pick (lv' := [(0, .ref (xB X + 37)), (1, .int x1), (2, .int x2), (3, .int xy0), (4, .int (x4 + 1))]) [2, 3, 4, 1, 0] rfl ?_
  exact hK76 _ _ _ _ _ hw
def w_X12_readWord_76 (Q : Mem → Prop) (K32 : Int32 → Mem → Prop) : Nat → Int32 → Int32 → Int32 → Int32 → Mem → Prop
  | 0, _, _, _, _, _ => False
  | n + 1, x1, x2, x3, x4, σ => (x2 ≤ x4 → (w_X12_readWord_127 Q K32 x1 x3 σ)) ∧ (¬ x2 ≤ x4 → ((x3 = 0 → (w_X12_readWord_127 Q K32 x1 x3 σ)) ∧ (¬ x3 = 0 → (vp_in ((mI σ 37 16) + x4) 160 ∧ (vp_in x1 13 ∧ (vp_in ((mI σ 46 (Int32.toNatClampNeg x1)) + x4) 45 ∧ ((¬ (mI σ 42 (Int32.toNatClampNeg ((mI σ 37 16) + x4))) = (mI σ 45 (Int32.toNatClampNeg ((mI σ 46 (Int32.toNatClampNeg x1)) + x4))) → (w_X12_readWord_120 Q K32 (fun z0 z1 z2 z3 z4 => w_X12_readWord_76 Q K32 n z0 z1 z2 z3 z4) x1 x2 x4 0 σ)) ∧ ((mI σ 42 (Int32.toNatClampNeg ((mI σ 37 16) + x4))) = (mI σ 45 (Int32.toNatClampNeg ((mI σ 46 (Int32.toNatClampNeg x1)) + x4))) → (w_X12_readWord_120 Q K32 (fun z0 z1 z2 z3 z4 => w_X12_readWord_76 Q K32 n z0 z1 z2 z3 z4) x1 x2 x4 1 σ)))))))))
set_option maxRecDepth 4000 in
set_option maxHeartbeats 2000000 in
theorem t_X12_readWord_76 {X : Cx} {d : Nat} (hC : mOK X cX12_readWord RX12 "readWord" none d 0 0) (hd : 1 ≤ d) (hN : ∀ i, i < 5 → i < xN X) (hP : ∀ e ∈ psM, e ∈ xP X) (hT : ∀ e ∈ tsM, e ∈ xT X) {Q : Mem → Prop} {K32 : Int32 → Mem → Prop} (hK32 : ∀ (x1 : Int32) (s : Mem), K32 x1 s → mG X 32 [(0, .ref (xB X + 37)), (1, .int x1)] [] s 0 0 (mQ X 0 0 (qV Q))) : ∀ (n : Nat) (x1 : Int32) (x2 : Int32) (x3 : Int32) (x4 : Int32) (σ : Mem), w_X12_readWord_76 Q K32 n x1 x2 x3 x4 σ → mG X 76 [(0, .ref (xB X + 37)), (1, .int x1), (2, .int x2), (3, .int x3), (4, .int x4)] [] σ 0 0 (mQ X 0 0 (qV Q)) := by
  intro n
  induction n with
  | zero => intro x1 x2 x3 x4 σ hw; exact False.elim hw
  | succ n ih =>
    intro x1 x2 x3 x4 σ hw
    rw [w_X12_readWord_76] at hw
    refine g_iload hC dX12_readWord_76 rfl ?_
    refine g_iload_n hC dX12_readWord_78 rfl ?_
    refine g_icmp_ge (tgt := 127) hC dX12_readWord_79 rfl (fun c => ?_) (fun c => ?_)
    · replace hw := hw.1 c
      refine mG.pick (lv' := [(0, .ref (xB X + 37)), (1, .int x1), (3, .int x3)]) [0, 1, 3] rfl ?_
      exact t_X12_readWord_127 hC hd hN hP hT hK32 hw
    · replace hw := hw.2 c
      refine g_iload_n hC dX12_readWord_82 rfl ?_
      refine g_if_eq (tgt := 127) hC dX12_readWord_83 rfl (fun c => ?_) (fun c => ?_)
      · replace hw := hw.1 c
        refine mG.pick (lv' := [(0, .ref (xB X + 37)), (1, .int x1), (3, .int x3)]) [0, 1, 3] rfl ?_
        exact t_X12_readWord_127 hC hd hN hP hT hK32 hw
      · replace hw := hw.2 c
        refine g_aload_n hC dX12_readWord_86 rfl ?_
        refine g_getrS hC fl_X12_51_12.s (hT _ tg_M_37) (hP _ pt_M_37_7) dX12_readWord_87 ?_
        refine g_aload_n hC dX12_readWord_90 rfl ?_
        refine g_getiSv (v := (mI σ 37 16)) hC fl_X12_66_12.s (hT _ tg_M_37) rfl dX12_readWord_91 ?_
        refine g_iload hC dX12_readWord_94 rfl ?_
        refine g_iadd hC dX12_readWord_96 ?_
        refine g_ialdSv (v := (mI σ 42 (Int32.toNatClampNeg ((mI σ 37 16) + x4)))) hC (hT _ tg_M_42) rfl hw.1 rfl dX12_readWord_97 ?_
        replace hw := hw.2
        refine g_aload_n hC dX12_readWord_98 rfl ?_
        refine g_getrS hC fl_X12_69_12.s (hT _ tg_M_37) (hP _ pt_M_37_17) dX12_readWord_99 ?_
        refine g_aload_n hC dX12_readWord_102 rfl ?_
        refine g_getrS hC fl_X12_63_12.s (hT _ tg_M_37) (hP _ pt_M_37_18) dX12_readWord_103 ?_
        refine g_iload_n hC dX12_readWord_106 rfl ?_
        refine g_ialdSv (v := (mI σ 46 (Int32.toNatClampNeg x1))) hC (hT _ tg_M_46) rfl hw.1 rfl dX12_readWord_107 ?_
        replace hw := hw.2
        refine g_iload hC dX12_readWord_108 rfl ?_
        refine g_iadd hC dX12_readWord_110 ?_
        refine g_caldSv (v := (mI σ 45 (Int32.toNatClampNeg ((mI σ 46 (Int32.toNatClampNeg x1)) + x4)))) hC (hT _ tg_M_45) rfl hw.1 rfl dX12_readWord_111 ?_
        replace hw := hw.2
        refine g_icmp_ne (tgt := 119) hC dX12_readWord_112 rfl (fun c => ?_) (fun c => ?_)
        · replace hw := hw.1 c
          refine g_iconst (v := 0) hC dX12_readWord_119 (by decide) ?_
          refine mG.pick (lv' := [(0, .ref (xB X + 37)), (1, .int x1), (2, .int x2), (4, .int x4)]) [0, 1, 2, 4] rfl ?_
          exact t_X12_readWord_120 hC hd hN hP hT hK32 ih hw
        · replace hw := hw.2 c
          refine g_iconst (v := 1) hC dX12_readWord_115 (by decide) ?_
          refine g_goto (tgt := 120) hC dX12_readWord_116 rfl ?_
          refine mG.pick (lv' := [(0, .ref (xB X + 37)), (1, .int x1), (2, .int x2), (4, .int x4)]) [0, 1, 2, 4] rfl ?_
          exact t_X12_readWord_120 hC hd hN hP hT hK32 ih hw
def w_X12_readWord_72 (Q : Mem → Prop) (K32 : Int32 → Mem → Prop) (x1 : Int32) (x2 : Int32) (xy0 : Int32) (σ : Mem) : Prop := ∃ m101 : Nat, w_X12_readWord_76 Q K32 m101 x1 x2 xy0 0 σ
set_option maxRecDepth 4000 in
set_option maxHeartbeats 2000000 in
theorem t_X12_readWord_72 {X : Cx} {d : Nat} (hC : mOK X cX12_readWord RX12 "readWord" none d 0 0) (hd : 1 ≤ d) (hN : ∀ i, i < 5 → i < xN X) (hP : ∀ e ∈ psM, e ∈ xP X) (hT : ∀ e ∈ tsM, e ∈ xT X) {Q : Mem → Prop} {K32 : Int32 → Mem → Prop} (hK32 : ∀ (x1 : Int32) (s : Mem), K32 x1 s → mG X 32 [(0, .ref (xB X + 37)), (1, .int x1)] [] s 0 0 (mQ X 0 0 (qV Q))) {x1 : Int32} {x2 : Int32} {xy0 : Int32} {σ : Mem} (hw : w_X12_readWord_72 Q K32 x1 x2 xy0 σ) : mG X 72 [(0, .ref (xB X + 37)), (1, .int x1), (2, .int x2)] [.int xy0] σ 0 0 (mQ X 0 0 (qV Q)) := by
  refine g_istore_n (lv' := [(3, .int xy0), (0, .ref (xB X + 37)), (1, .int x1), (2, .int x2)]) hC dX12_readWord_72 (hN 3 (by decide)) rfl ?_
  refine g_iconst (v := 0) hC dX12_readWord_73 (by decide) ?_
  refine g_istore (lv' := [(4, .int 0), (3, .int xy0), (0, .ref (xB X + 37)), (1, .int x1), (2, .int x2)]) hC dX12_readWord_74 (hN 4 (by decide)) rfl ?_
  refine mG.pick (lv' := [(0, .ref (xB X + 37)), (1, .int x1), (2, .int x2), (3, .int xy0), (4, .int 0)]) [2, 3, 4, 1, 0] rfl ?_
  obtain ⟨m101, hw⟩ := hw
  exact t_X12_readWord_76 hC hd hN hP hT hK32 m101 _ _ _ _ _ hw
def w_X12_readWord_32 (Q : Mem → Prop) : Nat → Int32 → Mem → Prop
  | 0, _, _ => False
  | n + 1, x1, σ => (12 ≤ x1 → (Q σ)) ∧ (¬ 12 ≤ x1 → (vp_in (x1 + 1) 13 ∧ (vp_in x1 13 ∧ (∀ v101 : Int32, v101 = ((mI σ 46 (Int32.toNatClampNeg (x1 + 1))) - (mI σ 46 (Int32.toNatClampNeg x1))) → ((¬ v101 = ((mI σ 37 13) - (mI σ 37 16)) → (w_X12_readWord_72 Q (fun z0 z1 => w_X12_readWord_32 Q n z0 z1) x1 v101 0 σ)) ∧ (v101 = ((mI σ 37 13) - (mI σ 37 16)) → (w_X12_readWord_72 Q (fun z0 z1 => w_X12_readWord_32 Q n z0 z1) x1 v101 1 σ)))))))
set_option maxRecDepth 4000 in
set_option maxHeartbeats 2000000 in
theorem t_X12_readWord_32 {X : Cx} {d : Nat} (hC : mOK X cX12_readWord RX12 "readWord" none d 0 0) (hd : 1 ≤ d) (hN : ∀ i, i < 5 → i < xN X) (hP : ∀ e ∈ psM, e ∈ xP X) (hT : ∀ e ∈ tsM, e ∈ xT X) {Q : Mem → Prop} : ∀ (n : Nat) (x1 : Int32) (σ : Mem), w_X12_readWord_32 Q n x1 σ → mG X 32 [(0, .ref (xB X + 37)), (1, .int x1)] [] σ 0 0 (mQ X 0 0 (qV Q)) := by
  intro n
  induction n with
  | zero => intro x1 σ hw; exact False.elim hw
  | succ n ih =>
    intro x1 σ hw
    rw [w_X12_readWord_32] at hw
    refine g_iload_n hC dX12_readWord_32 rfl ?_
    refine g_bipush (v := 12) hC dX12_readWord_33 (by decide) ?_
    refine g_icmp_ge (tgt := 170) hC dX12_readWord_35 rfl (fun c => ?_) (fun c => ?_)
    · replace hw := hw.1 c
      exact g_vret hC (by decide) (by decide) dX12_readWord_170 (fun _ => ⟨rfl, hw⟩)
    · replace hw := hw.2 c
      refine g_aload_n hC dX12_readWord_38 rfl ?_
      refine g_getrS hC fl_X12_63_12.s (hT _ tg_M_37) (hP _ pt_M_37_18) dX12_readWord_39 ?_
      refine g_iload_n hC dX12_readWord_42 rfl ?_
      refine g_iconst (v := 1) hC dX12_readWord_43 (by decide) ?_
      refine g_iadd hC dX12_readWord_44 ?_
      refine g_ialdSv (v := (mI σ 46 (Int32.toNatClampNeg (x1 + 1)))) hC (hT _ tg_M_46) rfl hw.1 rfl dX12_readWord_45 ?_
      replace hw := hw.2
      refine g_aload_n hC dX12_readWord_46 rfl ?_
      refine g_getrS hC fl_X12_63_12.s (hT _ tg_M_37) (hP _ pt_M_37_18) dX12_readWord_47 ?_
      refine g_iload_n hC dX12_readWord_50 rfl ?_
      refine g_ialdSv (v := (mI σ 46 (Int32.toNatClampNeg x1))) hC (hT _ tg_M_46) rfl hw.1 rfl dX12_readWord_51 ?_
      replace hw := hw.2
      refine g_isub hC dX12_readWord_52 ?_
      refine g_topi (fun v101 ev101 => ?_)
      replace hw := hw v101 ev101
      refine g_istore_n (lv' := [(2, .int v101), (0, .ref (xB X + 37)), (1, .int x1)]) hC dX12_readWord_53 (hN 2 (by decide)) rfl ?_
      refine g_iload_n hC dX12_readWord_54 rfl ?_
      refine g_aload_n hC dX12_readWord_55 rfl ?_
      refine g_getiSv (v := (mI σ 37 13)) hC fl_X12_54_12.s (hT _ tg_M_37) rfl dX12_readWord_56 ?_
      refine g_aload_n hC dX12_readWord_59 rfl ?_
      refine g_getiSv (v := (mI σ 37 16)) hC fl_X12_66_12.s (hT _ tg_M_37) rfl dX12_readWord_60 ?_
      refine g_isub hC dX12_readWord_63 ?_
      refine g_icmp_ne (tgt := 71) hC dX12_readWord_64 rfl (fun c => ?_) (fun c => ?_)
      · replace hw := hw.1 c
        refine g_iconst (v := 0) hC dX12_readWord_71 (by decide) ?_
        refine mG.pick (lv' := [(0, .ref (xB X + 37)), (1, .int x1), (2, .int v101)]) [1, 2, 0] rfl ?_
        exact t_X12_readWord_72 hC hd hN hP hT ih hw
      · replace hw := hw.2 c
        refine g_iconst (v := 1) hC dX12_readWord_67 (by decide) ?_
        refine g_goto (tgt := 72) hC dX12_readWord_68 rfl ?_
        refine mG.pick (lv' := [(0, .ref (xB X + 37)), (1, .int x1), (2, .int v101)]) [1, 2, 0] rfl ?_
        exact t_X12_readWord_72 hC hd hN hP hT ih hw
def w_X12_readWord_0 (Q : Mem → Prop) : Nat → Mem → Prop
  | 0, _ => False
  | n + 1, σ => w_X12_isLetter σ (mI σ 37 13) (fun v101 s103 => (v101 = 0 → (∃ m104 : Nat, w_X12_readWord_32 Q m104 0 (sI s103 37 14 6))) ∧ (¬ v101 = 0 → (w_X12_readWord_0 Q n (sI s103 37 13 ((mI s103 37 13) + 1)))))
set_option maxRecDepth 4000 in
set_option maxHeartbeats 2000000 in
theorem t_X12_readWord_0 {X : Cx} {d : Nat} (hC : mOK X cX12_readWord RX12 "readWord" none d 0 0) (hd : 1 ≤ d) (hN : ∀ i, i < 5 → i < xN X) (hP : ∀ e ∈ psM, e ∈ xP X) (hT : ∀ e ∈ tsM, e ∈ xT X) {Q : Mem → Prop} : ∀ (n : Nat) (σ : Mem), w_X12_readWord_0 Q n σ → mG X 0 [(0, .ref (xB X + 37))] [] σ 0 0 (mQ X 0 0 (qV Q)) := by
  intro n
  induction n with
  | zero => intro σ hw; exact False.elim hw
  | succ n ih =>
    intro σ hw
    rw [w_X12_readWord_0] at hw
    refine g_aload_n hC dX12_readWord_0 rfl ?_
    refine g_aload_n hC dX12_readWord_1 rfl ?_
    refine g_getiSv (v := (mI σ 37 13)) hC fl_X12_54_12.s (hT _ tg_M_37) rfl dX12_readWord_2 ?_
    refine g_known (fun hS => ?_)
    refine mG.st (st1 := ([.int (mI σ 37 13)] : List Value).reverse ++ .ref (xB X + 37) :: []) rfl ?_
    refine g_callV (As := [.int (mI σ 37 13)]) (st := []) hC (hS.2 _ (hT _ tg_M_37)) (by decide) ycl_12_X12_isLetter yw_X12_isLetter yv_X12_isLetter tw_505 dX12_readWord_5 (fun _ h => h) (fun _ h => h) (fun h => h) (c_X12_isLetter (d := 0) (Nat.le_refl _) hP hT hw) rfl (Nat.le_of_ble_eq_true rfl) (by omega) (by decide) (by decide) (kI fun v101 s103 hw => ?_)
    refine g_if_eq (tgt := 24) hC dX12_readWord_8 rfl (fun c => ?_) (fun c => ?_)
    · replace hw := hw.1 c
      refine g_aload_n hC dX12_readWord_24 rfl ?_
      refine g_bipush (v := 6) hC dX12_readWord_25 (by decide) ?_
      refine g_putIS hC (fw_X12_60_12 _) (hT _ tg_M_37) rfl rfl dX12_readWord_27 ?_
      refine g_iconst (v := 0) hC dX12_readWord_30 (by decide) ?_
      refine g_istore_n (lv' := [(1, .int 0), (0, .ref (xB X + 37))]) hC dX12_readWord_31 (hN 1 (by decide)) rfl ?_
      refine mG.pick (lv' := [(0, .ref (xB X + 37)), (1, .int 0)]) [1, 0] rfl ?_
      obtain ⟨m104, hw⟩ := hw
      exact t_X12_readWord_32 hC hd hN hP hT m104 _ _ hw
    · replace hw := hw.2 c
      refine g_aload_n hC dX12_readWord_11 rfl ?_
      refine g_dup hC dX12_readWord_12 rfl ?_
      refine g_getiSv (v := (mI s103 37 13)) hC fl_X12_54_12.s (hT _ tg_M_37) rfl dX12_readWord_13 ?_
      refine g_iconst (v := 1) hC dX12_readWord_16 (by decide) ?_
      refine g_iadd hC dX12_readWord_17 ?_
      refine g_putIS hC (fw_X12_54_12 _) (hT _ tg_M_37) rfl rfl dX12_readWord_18 ?_
      refine g_goto (tgt := 0) hC dX12_readWord_21 rfl ?_
      refine mG.pick (lv' := [(0, .ref (xB X + 37))]) [0] rfl ?_
      exact ih _ hw
def w_X12_readWord (σ : Mem) (Q : Mem → Prop) : Prop := ∃ n : Nat, w_X12_readWord_0 Q n σ
theorem t_X12_readWord {X : Cx} {d : Nat} (hC : mOK X cX12_readWord RX12 "readWord" none d 0 0) (hd : 1 ≤ d) (hN : ∀ i, i < 5 → i < xN X) (hP : ∀ e ∈ psM, e ∈ xP X) (hT : ∀ e ∈ tsM, e ∈ xT X) {σ : Mem} {Q : Mem → Prop} (hw : w_X12_readWord σ Q) : mG X 0 [(0, .ref (xB X + 37))] [] σ 0 0 (mQ X 0 0 (qV Q)) := by
  obtain ⟨n, hw⟩ := hw
  refine mG.pick (lv' := [(0, .ref (xB X + 37))]) [0] rfl ?_
  exact t_X12_readWord_0 hC hd hN hP hT n _ hw
set_option maxRecDepth 4000 in
theorem c_X12_readWord {Z : Fx} {ps ts : List (Nat × Nat × Nat)} {d : Nat} (hd : 1 ≤ d) (hP : ∀ e ∈ psM, e ∈ ps) (hT : ∀ e ∈ tsM, e ∈ ts) {σ : Mem} {Q : Mem → Prop} (hw : w_X12_readWord σ Q) : mM Z ps ts yX12_readWord cX12_readWord 5 none d 0 0 [.ref (Z.2.2 + 37)] σ (qV Q) := by
  refine mM.of (by decide) (Nat.le_of_ble_eq_true rfl) rfl (fun X hZ hp ht hn hC => ?_)
  subst hZ; subst hp; subst ht
  exact t_X12_readWord hC hd (fun i h => by rw [hn]; exact h) hP hT hw
def w_X12_readNumber_57 (Q : Mem → Prop) (K5 : Mem → Prop) (xy0 : Int32) (σ : Mem) : Prop := K5 (sI (sI σ 37 15 xy0) 37 13 ((mI σ 37 13) + 1))
set_option maxRecDepth 4000 in
set_option maxHeartbeats 2000000 in
theorem t_X12_readNumber_57 {X : Cx} {d : Nat} (hC : mOK X cX12_readNumber RX12 "readNumber" none d 0 0) (hd : 1 ≤ d) (hN : ∀ i, i < 1 → i < xN X) (hP : ∀ e ∈ psM, e ∈ xP X) (hT : ∀ e ∈ tsM, e ∈ xT X) {Q : Mem → Prop} {K5 : Mem → Prop} (hK5 : ∀ (s : Mem), K5 s → mG X 5 [(0, .ref (xB X + 37))] [] s 0 0 (mQ X 0 0 (qV Q))) {xy0 : Int32} {σ : Mem} (hw : w_X12_readNumber_57 Q K5 xy0 σ) : mG X 57 [(0, .ref (xB X + 37))] [.int xy0, .ref (xB X + 37)] σ 0 0 (mQ X 0 0 (qV Q)) := by
  refine g_putIS hC (fw_X12_73_12 _) (hT _ tg_M_37) rfl rfl dX12_readNumber_57 ?_
  refine g_aload_n hC dX12_readNumber_60 rfl ?_
  refine g_dup hC dX12_readNumber_61 rfl ?_
  refine g_getiSv (v := (mI σ 37 13)) hC fl_X12_54_12.s (hT _ tg_M_37) (mI_sI_k _ _ (by decide)) dX12_readNumber_62 ?_
  refine g_iconst (v := 1) hC dX12_readNumber_65 (by decide) ?_
  refine g_iadd hC dX12_readNumber_66 ?_
  refine g_putIS hC (fw_X12_54_12 _) (hT _ tg_M_37) rfl rfl dX12_readNumber_67 ?_
  refine g_goto (tgt := 5) hC dX12_readNumber_70 rfl ?_
  refine mG.pick (lv' := [(0, .ref (xB X + 37))]) [0] rfl ?_
  exact hK5 _ hw
def w_X12_readNumber_5 (Q : Mem → Prop) : Nat → Mem → Prop
  | 0, _ => False
  | n + 1, σ => w_X12_isDigit σ (mI σ 37 13) (fun v101 s103 => (v101 = 0 → ((((mI s103 37 13) - (mI s103 37 16)) ≤ 4 → (Q (sI s103 37 14 1))) ∧ (¬ ((mI s103 37 13) - (mI s103 37 16)) ≤ 4 → (Q (sI s103 37 14 6))))) ∧ (¬ v101 = 0 → ((4 ≤ ((mI s103 37 13) - (mI s103 37 16)) → (w_X12_readNumber_57 Q (fun z0 => w_X12_readNumber_5 Q n z0) (mI s103 37 15) s103)) ∧ (¬ 4 ≤ ((mI s103 37 13) - (mI s103 37 16)) → (vp_in (mI s103 37 13) 160 ∧ (w_X12_readNumber_57 Q (fun z0 => w_X12_readNumber_5 Q n z0) (((10 * (mI s103 37 15)) + (mI s103 42 (Int32.toNatClampNeg (mI s103 37 13)))) - 48) s103))))))
set_option maxRecDepth 4000 in
set_option maxHeartbeats 2000000 in
theorem t_X12_readNumber_5 {X : Cx} {d : Nat} (hC : mOK X cX12_readNumber RX12 "readNumber" none d 0 0) (hd : 1 ≤ d) (hN : ∀ i, i < 1 → i < xN X) (hP : ∀ e ∈ psM, e ∈ xP X) (hT : ∀ e ∈ tsM, e ∈ xT X) {Q : Mem → Prop} : ∀ (n : Nat) (σ : Mem), w_X12_readNumber_5 Q n σ → mG X 5 [(0, .ref (xB X + 37))] [] σ 0 0 (mQ X 0 0 (qV Q)) := by
  intro n
  induction n with
  | zero => intro σ hw; exact False.elim hw
  | succ n ih =>
    intro σ hw
    rw [w_X12_readNumber_5] at hw
    refine g_aload_n hC dX12_readNumber_5 rfl ?_
    refine g_aload_n hC dX12_readNumber_6 rfl ?_
    refine g_getiSv (v := (mI σ 37 13)) hC fl_X12_54_12.s (hT _ tg_M_37) rfl dX12_readNumber_7 ?_
    refine g_known (fun hS => ?_)
    refine mG.st (st1 := ([.int (mI σ 37 13)] : List Value).reverse ++ .ref (xB X + 37) :: []) rfl ?_
    refine g_callV (As := [.int (mI σ 37 13)]) (st := []) hC (hS.2 _ (hT _ tg_M_37)) (by decide) ycl_12_X12_isDigit yw_X12_isDigit yv_X12_isDigit tw_515 dX12_readNumber_10 (fun _ h => h) (fun _ h => h) (fun h => h) (c_X12_isDigit (d := 0) (Nat.le_refl _) hP hT hw) rfl (Nat.le_of_ble_eq_true rfl) (by omega) (by decide) (by decide) (kI fun v101 s103 hw => ?_)
    refine g_if_eq (tgt := 73) hC dX12_readNumber_13 rfl (fun c => ?_) (fun c => ?_)
    · replace hw := hw.1 c
      refine g_aload_n hC dX12_readNumber_73 rfl ?_
      refine g_aload_n hC dX12_readNumber_74 rfl ?_
      refine g_getiSv (v := (mI s103 37 13)) hC fl_X12_54_12.s (hT _ tg_M_37) rfl dX12_readNumber_75 ?_
      refine g_aload_n hC dX12_readNumber_78 rfl ?_
      refine g_getiSv (v := (mI s103 37 16)) hC fl_X12_66_12.s (hT _ tg_M_37) rfl dX12_readNumber_79 ?_
      refine g_isub hC dX12_readNumber_82 ?_
      refine g_iconst (v := 4) hC dX12_readNumber_83 (by decide) ?_
      refine g_icmp_le (tgt := 92) hC dX12_readNumber_84 rfl (fun c => ?_) (fun c => ?_)
      · replace hw := hw.1 c
        refine g_iconst (v := 1) hC dX12_readNumber_92 (by decide) ?_
        refine g_putIS hC (fw_X12_60_12 _) (hT _ tg_M_37) rfl rfl dX12_readNumber_93 ?_
        exact g_vret hC (by decide) (by decide) dX12_readNumber_96 (fun _ => ⟨rfl, hw⟩)
      · replace hw := hw.2 c
        refine g_bipush (v := 6) hC dX12_readNumber_87 (by decide) ?_
        refine g_goto (tgt := 93) hC dX12_readNumber_89 rfl ?_
        refine g_putIS hC (fw_X12_60_12 _) (hT _ tg_M_37) rfl rfl dX12_readNumber_93 ?_
        exact g_vret hC (by decide) (by decide) dX12_readNumber_96 (fun _ => ⟨rfl, hw⟩)
    · replace hw := hw.2 c
      refine g_aload_n hC dX12_readNumber_16 rfl ?_
      refine g_aload_n hC dX12_readNumber_17 rfl ?_
      refine g_getiSv (v := (mI s103 37 13)) hC fl_X12_54_12.s (hT _ tg_M_37) rfl dX12_readNumber_18 ?_
      refine g_aload_n hC dX12_readNumber_21 rfl ?_
      refine g_getiSv (v := (mI s103 37 16)) hC fl_X12_66_12.s (hT _ tg_M_37) rfl dX12_readNumber_22 ?_
      refine g_isub hC dX12_readNumber_25 ?_
      refine g_iconst (v := 4) hC dX12_readNumber_26 (by decide) ?_
      refine g_icmp_ge (tgt := 53) hC dX12_readNumber_27 rfl (fun c => ?_) (fun c => ?_)
      · replace hw := hw.1 c
        refine g_aload_n hC dX12_readNumber_53 rfl ?_
        refine g_getiSv (v := (mI s103 37 15)) hC fl_X12_73_12.s (hT _ tg_M_37) rfl dX12_readNumber_54 ?_
        refine mG.pick (lv' := [(0, .ref (xB X + 37))]) [0] rfl ?_
        exact t_X12_readNumber_57 hC hd hN hP hT ih hw
      · replace hw := hw.2 c
        refine g_bipush (v := 10) hC dX12_readNumber_30 (by decide) ?_
        refine g_aload_n hC dX12_readNumber_32 rfl ?_
        refine g_getiSv (v := (mI s103 37 15)) hC fl_X12_73_12.s (hT _ tg_M_37) rfl dX12_readNumber_33 ?_
        refine g_imul hC dX12_readNumber_36 ?_
        refine g_aload_n hC dX12_readNumber_37 rfl ?_
        refine g_getrS hC fl_X12_51_12.s (hT _ tg_M_37) (hP _ pt_M_37_7) dX12_readNumber_38 ?_
        refine g_aload_n hC dX12_readNumber_41 rfl ?_
        refine g_getiSv (v := (mI s103 37 13)) hC fl_X12_54_12.s (hT _ tg_M_37) rfl dX12_readNumber_42 ?_
        refine g_ialdSv (v := (mI s103 42 (Int32.toNatClampNeg (mI s103 37 13)))) hC (hT _ tg_M_42) rfl hw.1 rfl dX12_readNumber_45 ?_
        replace hw := hw.2
        refine g_iadd hC dX12_readNumber_46 ?_
        refine g_bipush (v := 48) hC dX12_readNumber_47 (by decide) ?_
        refine g_isub hC dX12_readNumber_49 ?_
        refine g_goto (tgt := 57) hC dX12_readNumber_50 rfl ?_
        refine mG.pick (lv' := [(0, .ref (xB X + 37))]) [0] rfl ?_
        exact t_X12_readNumber_57 hC hd hN hP hT ih hw
def w_X12_readNumber (σ : Mem) (Q : Mem → Prop) : Prop := ∃ m101 : Nat, w_X12_readNumber_5 Q m101 (sI σ 37 15 0)
set_option maxRecDepth 4000 in
set_option maxHeartbeats 2000000 in
theorem t_X12_readNumber {X : Cx} {d : Nat} (hC : mOK X cX12_readNumber RX12 "readNumber" none d 0 0) (hd : 1 ≤ d) (hN : ∀ i, i < 1 → i < xN X) (hP : ∀ e ∈ psM, e ∈ xP X) (hT : ∀ e ∈ tsM, e ∈ xT X) {σ : Mem} {Q : Mem → Prop} (hw : w_X12_readNumber σ Q) : mG X 0 [(0, .ref (xB X + 37))] [] σ 0 0 (mQ X 0 0 (qV Q)) := by
  refine g_aload_n hC dX12_readNumber_0 rfl ?_
  refine g_iconst (v := 0) hC dX12_readNumber_1 (by decide) ?_
  refine g_putIS hC (fw_X12_73_12 _) (hT _ tg_M_37) rfl rfl dX12_readNumber_2 ?_
  refine mG.pick (lv' := [(0, .ref (xB X + 37))]) [0] rfl ?_
  obtain ⟨m101, hw⟩ := hw
  exact t_X12_readNumber_5 hC hd hN hP hT m101 _ hw
set_option maxRecDepth 4000 in
theorem c_X12_readNumber {Z : Fx} {ps ts : List (Nat × Nat × Nat)} {d : Nat} (hd : 1 ≤ d) (hP : ∀ e ∈ psM, e ∈ ps) (hT : ∀ e ∈ tsM, e ∈ ts) {σ : Mem} {Q : Mem → Prop} (hw : w_X12_readNumber σ Q) : mM Z ps ts yX12_readNumber cX12_readNumber 1 none d 0 0 [.ref (Z.2.2 + 37)] σ (qV Q) := by
  refine mM.of (by decide) (Nat.le_of_ble_eq_true rfl) rfl (fun X hZ hp ht hn hC => ?_)
  subst hZ; subst hp; subst ht
  exact t_X12_readNumber hC hd (fun i h => by rw [hn]; exact h) hP hT hw
def w_X12_next_217 (Q : Mem → Prop) (xy0 : Int32) (σ : Mem) : Prop := Q (sI (sI σ 37 14 xy0) 37 13 ((mI σ 37 13) + 1))
set_option maxRecDepth 4000 in
set_option maxHeartbeats 2000000 in
theorem t_X12_next_217 {X : Cx} {d : Nat} (hC : mOK X cX12_next RX12 "next" none d 0 0) (hd : 2 ≤ d) (hN : ∀ i, i < 2 → i < xN X) (hP : ∀ e ∈ psM, e ∈ xP X) (hT : ∀ e ∈ tsM, e ∈ xT X) {Q : Mem → Prop} {xy0 : Int32} {σ : Mem} (hw : w_X12_next_217 Q xy0 σ) : mG X 217 [(0, .ref (xB X + 37))] [.int xy0, .ref (xB X + 37)] σ 0 0 (mQ X 0 0 (qV Q)) := by
  refine g_putIS hC (fw_X12_60_12 _) (hT _ tg_M_37) rfl rfl dX12_next_217 ?_
  refine g_aload_n hC dX12_next_220 rfl ?_
  refine g_dup hC dX12_next_221 rfl ?_
  refine g_getiSv (v := (mI σ 37 13)) hC fl_X12_54_12.s (hT _ tg_M_37) (mI_sI_k _ _ (by decide)) dX12_next_222 ?_
  refine g_iconst (v := 1) hC dX12_next_225 (by decide) ?_
  refine g_iadd hC dX12_next_226 ?_
  refine g_putIS hC (fw_X12_54_12 _) (hT _ tg_M_37) rfl rfl dX12_next_227 ?_
  exact g_vret hC (by decide) (by decide) dX12_next_230 (fun _ => ⟨rfl, hw⟩)
def w_X12_next_205 (Q : Mem → Prop) (xy0 : Int32) (σ : Mem) : Prop := (xy0 = 0 → (w_X12_next_217 Q 6 σ)) ∧ (¬ xy0 = 0 → (w_X12_next_217 Q 4 σ))
set_option maxRecDepth 4000 in
set_option maxHeartbeats 2000000 in
theorem t_X12_next_205 {X : Cx} {d : Nat} (hC : mOK X cX12_next RX12 "next" none d 0 0) (hd : 2 ≤ d) (hN : ∀ i, i < 2 → i < xN X) (hP : ∀ e ∈ psM, e ∈ xP X) (hT : ∀ e ∈ tsM, e ∈ xT X) {Q : Mem → Prop} {xy0 : Int32} {σ : Mem} (hw : w_X12_next_205 Q xy0 σ) : mG X 205 [(0, .ref (xB X + 37))] [.int xy0] σ 0 0 (mQ X 0 0 (qV Q)) := by
  refine g_istore_n (lv' := [(1, .int xy0), (0, .ref (xB X + 37))]) hC dX12_next_205 (hN 1 (by decide)) rfl ?_
  refine g_aload_n hC dX12_next_206 rfl ?_
  refine g_iload_n hC dX12_next_207 rfl ?_
  refine g_if_eq (tgt := 215) hC dX12_next_208 rfl (fun c => ?_) (fun c => ?_)
  · replace hw := hw.1 c
    refine g_bipush (v := 6) hC dX12_next_215 (by decide) ?_
    refine mG.pick (lv' := [(0, .ref (xB X + 37))]) [1] rfl ?_
    exact t_X12_next_217 hC hd hN hP hT hw
  · replace hw := hw.2 c
    refine g_iconst (v := 4) hC dX12_next_211 (by decide) ?_
    refine g_goto (tgt := 217) hC dX12_next_212 rfl ?_
    refine mG.pick (lv' := [(0, .ref (xB X + 37))]) [1] rfl ?_
    exact t_X12_next_217 hC hd hN hP hT hw
def w_X12_next_200 (Q : Mem → Prop) (σ : Mem) : Prop := w_X12_next_205 Q 1 σ
set_option maxRecDepth 4000 in
set_option maxHeartbeats 2000000 in
theorem t_X12_next_200 {X : Cx} {d : Nat} (hC : mOK X cX12_next RX12 "next" none d 0 0) (hd : 2 ≤ d) (hN : ∀ i, i < 2 → i < xN X) (hP : ∀ e ∈ psM, e ∈ xP X) (hT : ∀ e ∈ tsM, e ∈ xT X) {Q : Mem → Prop} {σ : Mem} (hw : w_X12_next_200 Q σ) : mG X 200 [(0, .ref (xB X + 37))] [] σ 0 0 (mQ X 0 0 (qV Q)) := by
  refine g_iconst (v := 1) hC dX12_next_200 (by decide) ?_
  refine g_goto (tgt := 205) hC dX12_next_201 rfl ?_
  refine mG.pick (lv' := [(0, .ref (xB X + 37))]) [0] rfl ?_
  exact t_X12_next_205 hC hd hN hP hT hw
def w_X12_next_52 (Q : Mem → Prop) (σ : Mem) : Prop := (¬ (mI σ 37 13) = (mI σ 37 8) → (w_X12_isLetter (sI σ 37 16 (mI σ 37 13)) (mI σ 37 13) (fun v101 s103 => (v101 = 0 → (w_X12_isDigit s103 (mI s103 37 13) (fun v104 s106 => (v104 = 0 → (vp_in (mI s106 37 13) 160 ∧ (∀ v107 : Int32, v107 = (mI s106 42 (Int32.toNatClampNeg (mI s106 37 13))) → ((v107 = 40 → (w_X12_next_200 Q (sI s106 37 15 v107))) ∧ (¬ v107 = 40 → ((v107 = 41 → (w_X12_next_200 Q (sI s106 37 15 v107))) ∧ (¬ v107 = 41 → ((v107 = 59 → (w_X12_next_200 Q (sI s106 37 15 v107))) ∧ (¬ v107 = 59 → ((v107 = 43 → (w_X12_next_200 Q (sI s106 37 15 v107))) ∧ (¬ v107 = 43 → ((v107 = 45 → (w_X12_next_200 Q (sI s106 37 15 v107))) ∧ (¬ v107 = 45 → ((v107 = 42 → (w_X12_next_200 Q (sI s106 37 15 v107))) ∧ (¬ v107 = 42 → ((v107 = 60 → (w_X12_next_200 Q (sI s106 37 15 v107))) ∧ (¬ v107 = 60 → ((¬ v107 = 61 → (w_X12_next_205 Q 0 (sI s106 37 15 v107))) ∧ (v107 = 61 → (w_X12_next_200 Q (sI s106 37 15 v107))))))))))))))))))))) ∧ (¬ v104 = 0 → (w_X12_readNumber s106 (fun s110 => Q s110)))))) ∧ (¬ v101 = 0 → (w_X12_readWord s103 (fun s113 => Q s113)))))) ∧ ((mI σ 37 13) = (mI σ 37 8) → (Q (sI (sI σ 37 16 (mI σ 37 13)) 37 14 5)))
set_option maxRecDepth 4000 in
set_option maxHeartbeats 2000000 in
theorem t_X12_next_52 {X : Cx} {d : Nat} (hC : mOK X cX12_next RX12 "next" none d 0 0) (hd : 2 ≤ d) (hN : ∀ i, i < 2 → i < xN X) (hP : ∀ e ∈ psM, e ∈ xP X) (hT : ∀ e ∈ tsM, e ∈ xT X) {Q : Mem → Prop} {σ : Mem} (hw : w_X12_next_52 Q σ) : mG X 52 [(0, .ref (xB X + 37))] [] σ 0 0 (mQ X 0 0 (qV Q)) := by
  refine g_aload_n hC dX12_next_52 rfl ?_
  refine g_aload_n hC dX12_next_53 rfl ?_
  refine g_getiSv (v := (mI σ 37 13)) hC fl_X12_54_12.s (hT _ tg_M_37) rfl dX12_next_54 ?_
  refine g_putIS hC (fw_X12_66_12 _) (hT _ tg_M_37) rfl rfl dX12_next_57 ?_
  refine g_aload_n hC dX12_next_60 rfl ?_
  refine g_getiSv (v := (mI σ 37 13)) hC fl_X12_54_12.s (hT _ tg_M_37) (mI_sI_k _ _ (by decide)) dX12_next_61 ?_
  refine g_aload_n hC dX12_next_64 rfl ?_
  refine g_getiSv (v := (mI σ 37 8)) hC fl_X12_48_12.s (hT _ tg_M_37) (mI_sI_k _ _ (by decide)) dX12_next_65 ?_
  refine g_icmp_ne (tgt := 79) hC dX12_next_68 rfl (fun c => ?_) (fun c => ?_)
  · replace hw := hw.1 c
    refine g_aload_n hC dX12_next_79 rfl ?_
    refine g_aload_n hC dX12_next_80 rfl ?_
    refine g_getiSv (v := (mI σ 37 13)) hC fl_X12_54_12.s (hT _ tg_M_37) (mI_sI_k _ _ (by decide)) dX12_next_81 ?_
    refine g_known (fun hS => ?_)
    refine mG.st (st1 := ([.int (mI σ 37 13)] : List Value).reverse ++ .ref (xB X + 37) :: []) rfl ?_
    refine g_callV (As := [.int (mI σ 37 13)]) (st := []) hC (hS.2 _ (hT _ tg_M_37)) (by decide) ycl_12_X12_isLetter yw_X12_isLetter yv_X12_isLetter tw_505 dX12_next_84 (fun _ h => h) (fun _ h => h) (fun h => h) (c_X12_isLetter (d := 0) (Nat.le_refl _) hP hT hw) rfl (Nat.le_of_ble_eq_true rfl) (by omega) (by decide) (by decide) (kI fun v101 s103 hw => ?_)
    refine g_if_eq (tgt := 97) hC dX12_next_87 rfl (fun c => ?_) (fun c => ?_)
    · replace hw := hw.1 c
      refine g_aload_n hC dX12_next_97 rfl ?_
      refine g_aload_n hC dX12_next_98 rfl ?_
      refine g_getiSv (v := (mI s103 37 13)) hC fl_X12_54_12.s (hT _ tg_M_37) rfl dX12_next_99 ?_
      refine g_known (fun hS => ?_)
      refine mG.st (st1 := ([.int (mI s103 37 13)] : List Value).reverse ++ .ref (xB X + 37) :: []) rfl ?_
      refine g_callV (As := [.int (mI s103 37 13)]) (st := []) hC (hS.2 _ (hT _ tg_M_37)) (by decide) ycl_12_X12_isDigit yw_X12_isDigit yv_X12_isDigit tw_515 dX12_next_102 (fun _ h => h) (fun _ h => h) (fun h => h) (c_X12_isDigit (d := 0) (Nat.le_refl _) hP hT hw) rfl (Nat.le_of_ble_eq_true rfl) (by omega) (by decide) (by decide) (kI fun v104 s106 hw => ?_)
      refine g_if_eq (tgt := 115) hC dX12_next_105 rfl (fun c => ?_) (fun c => ?_)
      · replace hw := hw.1 c
        refine g_aload_n hC dX12_next_115 rfl ?_
        refine g_aload_n hC dX12_next_116 rfl ?_
        refine g_getrS hC fl_X12_51_12.s (hT _ tg_M_37) (hP _ pt_M_37_7) dX12_next_117 ?_
        refine g_aload_n hC dX12_next_120 rfl ?_
        refine g_getiSv (v := (mI s106 37 13)) hC fl_X12_54_12.s (hT _ tg_M_37) rfl dX12_next_121 ?_
        refine g_ialdSv (v := (mI s106 42 (Int32.toNatClampNeg (mI s106 37 13)))) hC (hT _ tg_M_42) rfl hw.1 rfl dX12_next_124 ?_
        replace hw := hw.2
        refine g_topi (fun v107 ev107 => ?_)
        replace hw := hw v107 ev107
        refine g_putIS hC (fw_X12_73_12 _) (hT _ tg_M_37) rfl rfl dX12_next_125 ?_
        refine g_aload_n hC dX12_next_128 rfl ?_
        refine g_getiSv (v := v107) hC fl_X12_73_12.s (hT _ tg_M_37) (mI_sI_s _ _ _ _) dX12_next_129 ?_
        refine g_bipush (v := 40) hC dX12_next_132 (by decide) ?_
        refine g_icmp_eq (tgt := 200) hC dX12_next_134 rfl (fun c => ?_) (fun c => ?_)
        · replace hw := hw.1 c
          refine mG.pick (lv' := [(0, .ref (xB X + 37))]) [0] rfl ?_
          exact t_X12_next_200 hC hd hN hP hT hw
        · replace hw := hw.2 c
          refine g_aload_n hC dX12_next_137 rfl ?_
          refine g_getiSv (v := v107) hC fl_X12_73_12.s (hT _ tg_M_37) (mI_sI_s _ _ _ _) dX12_next_138 ?_
          refine g_bipush (v := 41) hC dX12_next_141 (by decide) ?_
          refine g_icmp_eq (tgt := 200) hC dX12_next_143 rfl (fun c => ?_) (fun c => ?_)
          · replace hw := hw.1 c
            refine mG.pick (lv' := [(0, .ref (xB X + 37))]) [0] rfl ?_
            exact t_X12_next_200 hC hd hN hP hT hw
          · replace hw := hw.2 c
            refine g_aload_n hC dX12_next_146 rfl ?_
            refine g_getiSv (v := v107) hC fl_X12_73_12.s (hT _ tg_M_37) (mI_sI_s _ _ _ _) dX12_next_147 ?_
            refine g_bipush (v := 59) hC dX12_next_150 (by decide) ?_
            refine g_icmp_eq (tgt := 200) hC dX12_next_152 rfl (fun c => ?_) (fun c => ?_)
            · replace hw := hw.1 c
              refine mG.pick (lv' := [(0, .ref (xB X + 37))]) [0] rfl ?_
              exact t_X12_next_200 hC hd hN hP hT hw
            · replace hw := hw.2 c
              refine g_aload_n hC dX12_next_155 rfl ?_
              refine g_getiSv (v := v107) hC fl_X12_73_12.s (hT _ tg_M_37) (mI_sI_s _ _ _ _) dX12_next_156 ?_
              refine g_bipush (v := 43) hC dX12_next_159 (by decide) ?_
              refine g_icmp_eq (tgt := 200) hC dX12_next_161 rfl (fun c => ?_) (fun c => ?_)
              · replace hw := hw.1 c
                refine mG.pick (lv' := [(0, .ref (xB X + 37))]) [0] rfl ?_
                exact t_X12_next_200 hC hd hN hP hT hw
              · replace hw := hw.2 c
                refine g_aload_n hC dX12_next_164 rfl ?_
                refine g_getiSv (v := v107) hC fl_X12_73_12.s (hT _ tg_M_37) (mI_sI_s _ _ _ _) dX12_next_165 ?_
                refine g_bipush (v := 45) hC dX12_next_168 (by decide) ?_
                refine g_icmp_eq (tgt := 200) hC dX12_next_170 rfl (fun c => ?_) (fun c => ?_)
                · replace hw := hw.1 c
                  refine mG.pick (lv' := [(0, .ref (xB X + 37))]) [0] rfl ?_
                  exact t_X12_next_200 hC hd hN hP hT hw
                · replace hw := hw.2 c
                  refine g_aload_n hC dX12_next_173 rfl ?_
                  refine g_getiSv (v := v107) hC fl_X12_73_12.s (hT _ tg_M_37) (mI_sI_s _ _ _ _) dX12_next_174 ?_
                  refine g_bipush (v := 42) hC dX12_next_177 (by decide) ?_
                  refine g_icmp_eq (tgt := 200) hC dX12_next_179 rfl (fun c => ?_) (fun c => ?_)
                  · replace hw := hw.1 c
                    refine mG.pick (lv' := [(0, .ref (xB X + 37))]) [0] rfl ?_
                    exact t_X12_next_200 hC hd hN hP hT hw
                  · replace hw := hw.2 c
                    refine g_aload_n hC dX12_next_182 rfl ?_
                    refine g_getiSv (v := v107) hC fl_X12_73_12.s (hT _ tg_M_37) (mI_sI_s _ _ _ _) dX12_next_183 ?_
                    refine g_bipush (v := 60) hC dX12_next_186 (by decide) ?_
                    refine g_icmp_eq (tgt := 200) hC dX12_next_188 rfl (fun c => ?_) (fun c => ?_)
                    · replace hw := hw.1 c
                      refine mG.pick (lv' := [(0, .ref (xB X + 37))]) [0] rfl ?_
                      exact t_X12_next_200 hC hd hN hP hT hw
                    · replace hw := hw.2 c
                      refine g_aload_n hC dX12_next_191 rfl ?_
                      refine g_getiSv (v := v107) hC fl_X12_73_12.s (hT _ tg_M_37) (mI_sI_s _ _ _ _) dX12_next_192 ?_
                      refine g_bipush (v := 61) hC dX12_next_195 (by decide) ?_
                      refine g_icmp_ne (tgt := 204) hC dX12_next_197 rfl (fun c => ?_) (fun c => ?_)
                      · replace hw := hw.1 c
                        refine g_iconst (v := 0) hC dX12_next_204 (by decide) ?_
                        refine mG.pick (lv' := [(0, .ref (xB X + 37))]) [0] rfl ?_
                        exact t_X12_next_205 hC hd hN hP hT hw
                      · replace hw := hw.2 c
                        refine mG.pick (lv' := [(0, .ref (xB X + 37))]) [0] rfl ?_
                        exact t_X12_next_200 hC hd hN hP hT hw
      · replace hw := hw.2 c
        refine g_aload_n hC dX12_next_108 rfl ?_
        refine g_known (fun hS => ?_)
        refine mG.st (st1 := ([] : List Value).reverse ++ .ref (xB X + 37) :: []) rfl ?_
        refine g_callV (As := []) (st := []) hC (hS.2 _ (hT _ tg_M_37)) (by decide) ycl_12_X12_readNumber yw_X12_readNumber yv_X12_readNumber tw_519 dX12_next_109 (fun _ h => h) (fun _ h => h) (fun h => h) (c_X12_readNumber (d := 1) (Nat.le_refl _) hP hT hw) rfl (Nat.le_of_ble_eq_true rfl) (by omega) (by decide) (by decide) (kV fun s110 hw => ?_)
        refine g_goto (tgt := 230) hC dX12_next_112 rfl ?_
        exact g_vret hC (by decide) (by decide) dX12_next_230 (fun _ => ⟨rfl, hw⟩)
    · replace hw := hw.2 c
      refine g_aload_n hC dX12_next_90 rfl ?_
      refine g_known (fun hS => ?_)
      refine mG.st (st1 := ([] : List Value).reverse ++ .ref (xB X + 37) :: []) rfl ?_
      refine g_callV (As := []) (st := []) hC (hS.2 _ (hT _ tg_M_37)) (by decide) ycl_12_X12_readWord yw_X12_readWord yv_X12_readWord tw_523 dX12_next_91 (fun _ h => h) (fun _ h => h) (fun h => h) (c_X12_readWord (d := 1) (Nat.le_refl _) hP hT hw) rfl (Nat.le_of_ble_eq_true rfl) (by omega) (by decide) (by decide) (kV fun s113 hw => ?_)
      refine g_goto (tgt := 230) hC dX12_next_94 rfl ?_
      exact g_vret hC (by decide) (by decide) dX12_next_230 (fun _ => ⟨rfl, hw⟩)
  · replace hw := hw.2 c
    refine g_aload_n hC dX12_next_71 rfl ?_
    refine g_iconst (v := 5) hC dX12_next_72 (by decide) ?_
    refine g_putIS hC (fw_X12_60_12 _) (hT _ tg_M_37) rfl rfl dX12_next_73 ?_
    refine g_goto (tgt := 230) hC dX12_next_76 rfl ?_
    exact g_vret hC (by decide) (by decide) dX12_next_230 (fun _ => ⟨rfl, hw⟩)
def w_X12_next_39 (Q : Mem → Prop) (K0 : Mem → Prop) (σ : Mem) : Prop := K0 (sI σ 37 13 ((mI σ 37 13) + 1))
set_option maxRecDepth 4000 in
set_option maxHeartbeats 2000000 in
theorem t_X12_next_39 {X : Cx} {d : Nat} (hC : mOK X cX12_next RX12 "next" none d 0 0) (hd : 2 ≤ d) (hN : ∀ i, i < 2 → i < xN X) (hP : ∀ e ∈ psM, e ∈ xP X) (hT : ∀ e ∈ tsM, e ∈ xT X) {Q : Mem → Prop} {K0 : Mem → Prop} (hK0 : ∀ (s : Mem), K0 s → mG X 0 [(0, .ref (xB X + 37))] [] s 0 0 (mQ X 0 0 (qV Q))) {σ : Mem} (hw : w_X12_next_39 Q K0 σ) : mG X 39 [(0, .ref (xB X + 37))] [] σ 0 0 (mQ X 0 0 (qV Q)) := by
  refine g_aload_n hC dX12_next_39 rfl ?_
  refine g_dup hC dX12_next_40 rfl ?_
  refine g_getiSv (v := (mI σ 37 13)) hC fl_X12_54_12.s (hT _ tg_M_37) rfl dX12_next_41 ?_
  refine g_iconst (v := 1) hC dX12_next_44 (by decide) ?_
  refine g_iadd hC dX12_next_45 ?_
  refine g_putIS hC (fw_X12_54_12 _) (hT _ tg_M_37) rfl rfl dX12_next_46 ?_
  refine g_goto (tgt := 0) hC dX12_next_49 rfl ?_
  refine mG.pick (lv' := [(0, .ref (xB X + 37))]) [0] rfl ?_
  exact hK0 _ hw
def w_X12_next_0 (Q : Mem → Prop) : Nat → Mem → Prop
  | 0, _ => False
  | n + 1, σ => ((mI σ 37 8) ≤ (mI σ 37 13) → (w_X12_next_52 Q σ)) ∧ (¬ (mI σ 37 8) ≤ (mI σ 37 13) → (vp_in (mI σ 37 13) 160 ∧ (((mI σ 42 (Int32.toNatClampNeg (mI σ 37 13))) = 32 → (w_X12_next_39 Q (fun z0 => w_X12_next_0 Q n z0) σ)) ∧ (¬ (mI σ 42 (Int32.toNatClampNeg (mI σ 37 13))) = 32 → (vp_in (mI σ 37 13) 160 ∧ ((¬ (mI σ 42 (Int32.toNatClampNeg (mI σ 37 13))) = 10 → (w_X12_next_52 Q σ)) ∧ ((mI σ 42 (Int32.toNatClampNeg (mI σ 37 13))) = 10 → (w_X12_next_39 Q (fun z0 => w_X12_next_0 Q n z0) σ))))))))
set_option maxRecDepth 4000 in
set_option maxHeartbeats 2000000 in
theorem t_X12_next_0 {X : Cx} {d : Nat} (hC : mOK X cX12_next RX12 "next" none d 0 0) (hd : 2 ≤ d) (hN : ∀ i, i < 2 → i < xN X) (hP : ∀ e ∈ psM, e ∈ xP X) (hT : ∀ e ∈ tsM, e ∈ xT X) {Q : Mem → Prop} : ∀ (n : Nat) (σ : Mem), w_X12_next_0 Q n σ → mG X 0 [(0, .ref (xB X + 37))] [] σ 0 0 (mQ X 0 0 (qV Q)) := by
  intro n
  induction n with
  | zero => intro σ hw; exact False.elim hw
  | succ n ih =>
    intro σ hw
    rw [w_X12_next_0] at hw
    refine g_aload_n hC dX12_next_0 rfl ?_
    refine g_getiSv (v := (mI σ 37 13)) hC fl_X12_54_12.s (hT _ tg_M_37) rfl dX12_next_1 ?_
    refine g_aload_n hC dX12_next_4 rfl ?_
    refine g_getiSv (v := (mI σ 37 8)) hC fl_X12_48_12.s (hT _ tg_M_37) rfl dX12_next_5 ?_
    refine g_icmp_ge (tgt := 52) hC dX12_next_8 rfl (fun c => ?_) (fun c => ?_)
    · replace hw := hw.1 c
      refine mG.pick (lv' := [(0, .ref (xB X + 37))]) [0] rfl ?_
      exact t_X12_next_52 hC hd hN hP hT hw
    · replace hw := hw.2 c
      refine g_aload_n hC dX12_next_11 rfl ?_
      refine g_getrS hC fl_X12_51_12.s (hT _ tg_M_37) (hP _ pt_M_37_7) dX12_next_12 ?_
      refine g_aload_n hC dX12_next_15 rfl ?_
      refine g_getiSv (v := (mI σ 37 13)) hC fl_X12_54_12.s (hT _ tg_M_37) rfl dX12_next_16 ?_
      refine g_ialdSv (v := (mI σ 42 (Int32.toNatClampNeg (mI σ 37 13)))) hC (hT _ tg_M_42) rfl hw.1 rfl dX12_next_19 ?_
      replace hw := hw.2
      refine g_bipush (v := 32) hC dX12_next_20 (by decide) ?_
      refine g_icmp_eq (tgt := 39) hC dX12_next_22 rfl (fun c => ?_) (fun c => ?_)
      · replace hw := hw.1 c
        refine mG.pick (lv' := [(0, .ref (xB X + 37))]) [0] rfl ?_
        exact t_X12_next_39 hC hd hN hP hT ih hw
      · replace hw := hw.2 c
        refine g_aload_n hC dX12_next_25 rfl ?_
        refine g_getrS hC fl_X12_51_12.s (hT _ tg_M_37) (hP _ pt_M_37_7) dX12_next_26 ?_
        refine g_aload_n hC dX12_next_29 rfl ?_
        refine g_getiSv (v := (mI σ 37 13)) hC fl_X12_54_12.s (hT _ tg_M_37) rfl dX12_next_30 ?_
        refine g_ialdSv (v := (mI σ 42 (Int32.toNatClampNeg (mI σ 37 13)))) hC (hT _ tg_M_42) rfl hw.1 rfl dX12_next_33 ?_
        replace hw := hw.2
        refine g_bipush (v := 10) hC dX12_next_34 (by decide) ?_
        refine g_icmp_ne (tgt := 52) hC dX12_next_36 rfl (fun c => ?_) (fun c => ?_)
        · replace hw := hw.1 c
          refine mG.pick (lv' := [(0, .ref (xB X + 37))]) [0] rfl ?_
          exact t_X12_next_52 hC hd hN hP hT hw
        · replace hw := hw.2 c
          refine mG.pick (lv' := [(0, .ref (xB X + 37))]) [0] rfl ?_
          exact t_X12_next_39 hC hd hN hP hT ih hw
def w_X12_next (σ : Mem) (Q : Mem → Prop) : Prop := ∃ n : Nat, w_X12_next_0 Q n σ
theorem t_X12_next {X : Cx} {d : Nat} (hC : mOK X cX12_next RX12 "next" none d 0 0) (hd : 2 ≤ d) (hN : ∀ i, i < 2 → i < xN X) (hP : ∀ e ∈ psM, e ∈ xP X) (hT : ∀ e ∈ tsM, e ∈ xT X) {σ : Mem} {Q : Mem → Prop} (hw : w_X12_next σ Q) : mG X 0 [(0, .ref (xB X + 37))] [] σ 0 0 (mQ X 0 0 (qV Q)) := by
  obtain ⟨n, hw⟩ := hw
  refine mG.pick (lv' := [(0, .ref (xB X + 37))]) [0] rfl ?_
  exact t_X12_next_0 hC hd hN hP hT n _ hw
set_option maxRecDepth 4000 in
theorem c_X12_next {Z : Fx} {ps ts : List (Nat × Nat × Nat)} {d : Nat} (hd : 2 ≤ d) (hP : ∀ e ∈ psM, e ∈ ps) (hT : ∀ e ∈ tsM, e ∈ ts) {σ : Mem} {Q : Mem → Prop} (hw : w_X12_next σ Q) : mM Z ps ts yX12_next cX12_next 2 none d 0 0 [.ref (Z.2.2 + 37)] σ (qV Q) := by
  refine mM.of (by decide) (Nat.le_of_ble_eq_true rfl) rfl (fun X hZ hp ht hn hC => ?_)
  subst hZ; subst hp; subst ht
  exact t_X12_next hC hd (fun i h => by rw [hn]; exact h) hP hT hw
def w_X12_isSign (σ : Mem) (x1 : Int32) (Q : Int32 → Mem → Prop) : Prop := (¬ (mI σ 37 14) = 4 → (Q 0 σ)) ∧ ((mI σ 37 14) = 4 → ((¬ (mI σ 37 15) = x1 → (Q 0 σ)) ∧ ((mI σ 37 15) = x1 → (Q 1 σ))))
set_option maxRecDepth 4000 in
set_option maxHeartbeats 2000000 in
theorem t_X12_isSign {X : Cx} {d : Nat} (hC : mOK X cX12_isSign RX12 "isSign" (some .boolean) d 0 0) (hd : 0 ≤ d) (hN : ∀ i, i < 2 → i < xN X) (hP : ∀ e ∈ psM, e ∈ xP X) (hT : ∀ e ∈ tsM, e ∈ xT X) {σ : Mem} {x1 : Int32} {Q : Int32 → Mem → Prop} (hw : w_X12_isSign σ x1 Q) : mG X 0 [(0, .ref (xB X + 37)), (1, .int x1)] [] σ 0 0 (mQ X 0 0 (qI Q)) := by
  refine g_aload_n hC dX12_isSign_0 rfl ?_
  refine g_getiSv (v := (mI σ 37 14)) hC fl_X12_60_12.s (hT _ tg_M_37) rfl dX12_isSign_1 ?_
  refine g_iconst (v := 4) hC dX12_isSign_4 (by decide) ?_
  refine g_icmp_ne (tgt := 20) hC dX12_isSign_5 rfl (fun c => ?_) (fun c => ?_)
  · replace hw := hw.1 c
    refine g_iconst (v := 0) hC dX12_isSign_20 (by decide) ?_
    exact g_iret hC bz0 (by decide) (by decide) dX12_isSign_21 (fun _ => ⟨_, rfl, hw⟩)
  · replace hw := hw.2 c
    refine g_aload_n hC dX12_isSign_8 rfl ?_
    refine g_getiSv (v := (mI σ 37 15)) hC fl_X12_73_12.s (hT _ tg_M_37) rfl dX12_isSign_9 ?_
    refine g_iload_n hC dX12_isSign_12 rfl ?_
    refine g_icmp_ne (tgt := 20) hC dX12_isSign_13 rfl (fun c => ?_) (fun c => ?_)
    · replace hw := hw.1 c
      refine g_iconst (v := 0) hC dX12_isSign_20 (by decide) ?_
      exact g_iret hC bz0 (by decide) (by decide) dX12_isSign_21 (fun _ => ⟨_, rfl, hw⟩)
    · replace hw := hw.2 c
      refine g_iconst (v := 1) hC dX12_isSign_16 (by decide) ?_
      refine g_goto (tgt := 21) hC dX12_isSign_17 rfl ?_
      exact g_iret hC bz1 (by decide) (by decide) dX12_isSign_21 (fun _ => ⟨_, rfl, hw⟩)
set_option maxRecDepth 4000 in
theorem c_X12_isSign {Z : Fx} {ps ts : List (Nat × Nat × Nat)} {d : Nat} (hd : 0 ≤ d) (hP : ∀ e ∈ psM, e ∈ ps) (hT : ∀ e ∈ tsM, e ∈ ts) {σ : Mem} {x1 : Int32} {Q : Int32 → Mem → Prop} (hw : w_X12_isSign σ x1 Q) : mM Z ps ts yX12_isSign cX12_isSign 2 (some .boolean) d 0 0 [.ref (Z.2.2 + 37), .int x1] σ (qI Q) := by
  refine mM.of (by decide) (Nat.le_of_ble_eq_true rfl) rfl (fun X hZ hp ht hn hC => ?_)
  subst hZ; subst hp; subst ht
  exact t_X12_isSign hC hd (fun i h => by rw [hn]; exact h) hP hT hw
def w_X12_isKey (σ : Mem) (x1 : Int32) (Q : Int32 → Mem → Prop) : Prop := (¬ (mI σ 37 14) = 3 → (Q 0 σ)) ∧ ((mI σ 37 14) = 3 → ((¬ (mI σ 37 15) = x1 → (Q 0 σ)) ∧ ((mI σ 37 15) = x1 → (Q 1 σ))))
set_option maxRecDepth 4000 in
set_option maxHeartbeats 2000000 in
theorem t_X12_isKey {X : Cx} {d : Nat} (hC : mOK X cX12_isKey RX12 "isKey" (some .boolean) d 0 0) (hd : 0 ≤ d) (hN : ∀ i, i < 2 → i < xN X) (hP : ∀ e ∈ psM, e ∈ xP X) (hT : ∀ e ∈ tsM, e ∈ xT X) {σ : Mem} {x1 : Int32} {Q : Int32 → Mem → Prop} (hw : w_X12_isKey σ x1 Q) : mG X 0 [(0, .ref (xB X + 37)), (1, .int x1)] [] σ 0 0 (mQ X 0 0 (qI Q)) := by
  refine g_aload_n hC dX12_isKey_0 rfl ?_
  refine g_getiSv (v := (mI σ 37 14)) hC fl_X12_60_12.s (hT _ tg_M_37) rfl dX12_isKey_1 ?_
  refine g_iconst (v := 3) hC dX12_isKey_4 (by decide) ?_
  refine g_icmp_ne (tgt := 20) hC dX12_isKey_5 rfl (fun c => ?_) (fun c => ?_)
  · replace hw := hw.1 c
    refine g_iconst (v := 0) hC dX12_isKey_20 (by decide) ?_
    exact g_iret hC bz0 (by decide) (by decide) dX12_isKey_21 (fun _ => ⟨_, rfl, hw⟩)
  · replace hw := hw.2 c
    refine g_aload_n hC dX12_isKey_8 rfl ?_
    refine g_getiSv (v := (mI σ 37 15)) hC fl_X12_73_12.s (hT _ tg_M_37) rfl dX12_isKey_9 ?_
    refine g_iload_n hC dX12_isKey_12 rfl ?_
    refine g_icmp_ne (tgt := 20) hC dX12_isKey_13 rfl (fun c => ?_) (fun c => ?_)
    · replace hw := hw.1 c
      refine g_iconst (v := 0) hC dX12_isKey_20 (by decide) ?_
      exact g_iret hC bz0 (by decide) (by decide) dX12_isKey_21 (fun _ => ⟨_, rfl, hw⟩)
    · replace hw := hw.2 c
      refine g_iconst (v := 1) hC dX12_isKey_16 (by decide) ?_
      refine g_goto (tgt := 21) hC dX12_isKey_17 rfl ?_
      exact g_iret hC bz1 (by decide) (by decide) dX12_isKey_21 (fun _ => ⟨_, rfl, hw⟩)
set_option maxRecDepth 4000 in
theorem c_X12_isKey {Z : Fx} {ps ts : List (Nat × Nat × Nat)} {d : Nat} (hd : 0 ≤ d) (hP : ∀ e ∈ psM, e ∈ ps) (hT : ∀ e ∈ tsM, e ∈ ts) {σ : Mem} {x1 : Int32} {Q : Int32 → Mem → Prop} (hw : w_X12_isKey σ x1 Q) : mM Z ps ts yX12_isKey cX12_isKey 2 (some .boolean) d 0 0 [.ref (Z.2.2 + 37), .int x1] σ (qI Q) := by
  refine mM.of (by decide) (Nat.le_of_ble_eq_true rfl) rfl (fun X hZ hp ht hn hC => ?_)
  subst hZ; subst hp; subst ht
  exact t_X12_isKey hC hd (fun i h => by rw [hn]; exact h) hP hT hw
def w_X12_emit (σ : Mem) (x1 : Int32) (Q : Mem → Prop) : Prop := vp_in ((mI σ 37 24) + (mI σ 37 25)) 2880 ∧ (Q (sI (sI σ 43 (Int32.toNatClampNeg ((mI σ 37 24) + (mI σ 37 25))) x1) 37 25 ((mI σ 37 25) + 1)))
set_option maxRecDepth 4000 in
set_option maxHeartbeats 2000000 in
theorem t_X12_emit {X : Cx} {d : Nat} (hC : mOK X cX12_emit RX12 "emit" none d 0 0) (hd : 0 ≤ d) (hN : ∀ i, i < 2 → i < xN X) (hP : ∀ e ∈ psM, e ∈ xP X) (hT : ∀ e ∈ tsM, e ∈ xT X) {σ : Mem} {x1 : Int32} {Q : Mem → Prop} (hw : w_X12_emit σ x1 Q) : mG X 0 [(0, .ref (xB X + 37)), (1, .int x1)] [] σ 0 0 (mQ X 0 0 (qV Q)) := by
  refine g_aload_n hC dX12_emit_0 rfl ?_
  refine g_getrS hC fl_X12_86_12.s (hT _ tg_M_37) (hP _ pt_M_37_11) dX12_emit_1 ?_
  refine g_aload_n hC dX12_emit_4 rfl ?_
  refine g_getiSv (v := (mI σ 37 24)) hC fl_X12_89_12.s (hT _ tg_M_37) rfl dX12_emit_5 ?_
  refine g_aload_n hC dX12_emit_8 rfl ?_
  refine g_getiSv (v := (mI σ 37 25)) hC fl_X12_92_12.s (hT _ tg_M_37) rfl dX12_emit_9 ?_
  refine g_iadd hC dX12_emit_12 ?_
  refine g_iload_n hC dX12_emit_13 rfl ?_
  have hin := hw.1
  replace hw := hw.2
  refine g_iastS (k := (Int32.toNatClampNeg ((mI σ 37 24) + (mI σ 37 25)))) hC (hT _ tg_M_43) rfl hin dX12_emit_14 ?_
  refine g_aload_n hC dX12_emit_15 rfl ?_
  refine g_dup hC dX12_emit_16 rfl ?_
  refine g_getiSv (v := (mI σ 37 25)) hC fl_X12_92_12.s (hT _ tg_M_37) (mI_sI_n _ _ (by decide)) dX12_emit_17 ?_
  refine g_iconst (v := 1) hC dX12_emit_20 (by decide) ?_
  refine g_iadd hC dX12_emit_21 ?_
  refine g_putIS hC (fw_X12_92_12 _) (hT _ tg_M_37) rfl rfl dX12_emit_22 ?_
  exact g_vret hC (by decide) (by decide) dX12_emit_25 (fun _ => ⟨rfl, hw⟩)
set_option maxRecDepth 4000 in
theorem c_X12_emit {Z : Fx} {ps ts : List (Nat × Nat × Nat)} {d : Nat} (hd : 0 ≤ d) (hP : ∀ e ∈ psM, e ∈ ps) (hT : ∀ e ∈ tsM, e ∈ ts) {σ : Mem} {x1 : Int32} {Q : Mem → Prop} (hw : w_X12_emit σ x1 Q) : mM Z ps ts yX12_emit cX12_emit 2 none d 0 0 [.ref (Z.2.2 + 37), .int x1] σ (qV Q) := by
  refine mM.of (by decide) (Nat.le_of_ble_eq_true rfl) rfl (fun X hZ hp ht hn hC => ?_)
  subst hZ; subst hp; subst ht
  exact t_X12_emit hC hd (fun i h => by rw [hn]; exact h) hP hT hw
def w_X12_rank (σ : Mem) (x0 : Int32) (Q : Int32 → Mem → Prop) : Prop := (¬ x0 = 10 → ((¬ x0 = 11 → ((¬ x0 = 12 → ((x0 = 13 → (Q 4 σ)) ∧ (¬ x0 = 13 → ((¬ x0 = 14 → ((x0 = 15 → (Q 5 σ)) ∧ (¬ x0 = 15 → ((¬ x0 = 16 → ((¬ x0 = 17 → ((¬ x0 = 18 → (Q 0 σ)) ∧ (x0 = 18 → (Q 7 σ)))) ∧ (x0 = 17 → (Q 6 σ)))) ∧ (x0 = 16 → (Q 5 σ)))))) ∧ (x0 = 14 → (Q 4 σ)))))) ∧ (x0 = 12 → (Q 3 σ)))) ∧ (x0 = 11 → (Q 2 σ)))) ∧ (x0 = 10 → (Q 1 σ))
set_option maxRecDepth 4000 in
set_option maxHeartbeats 2000000 in
theorem t_X12_rank {X : Cx} {d : Nat} (hC : mOK X cX12_rank RX12 "rank" (some .int) d 0 0) (hd : 0 ≤ d) (hN : ∀ i, i < 1 → i < xN X) {σ : Mem} {x0 : Int32} {Q : Int32 → Mem → Prop} (hw : w_X12_rank σ x0 Q) : mG X 0 [(0, .int x0)] [] σ 0 0 (mQ X 0 0 (qI Q)) := by
  refine g_iload_n hC dX12_rank_0 rfl ?_
  refine g_bipush (v := 10) hC dX12_rank_1 (by decide) ?_
  refine g_icmp_ne (tgt := 10) hC dX12_rank_3 rfl (fun c => ?_) (fun c => ?_)
  · replace hw := hw.1 c
    refine g_iload_n hC dX12_rank_10 rfl ?_
    refine g_bipush (v := 11) hC dX12_rank_11 (by decide) ?_
    refine g_icmp_ne (tgt := 20) hC dX12_rank_13 rfl (fun c => ?_) (fun c => ?_)
    · replace hw := hw.1 c
      refine g_iload_n hC dX12_rank_20 rfl ?_
      refine g_bipush (v := 12) hC dX12_rank_21 (by decide) ?_
      refine g_icmp_ne (tgt := 30) hC dX12_rank_23 rfl (fun c => ?_) (fun c => ?_)
      · replace hw := hw.1 c
        refine g_iload_n hC dX12_rank_30 rfl ?_
        refine g_bipush (v := 13) hC dX12_rank_31 (by decide) ?_
        refine g_icmp_eq (tgt := 42) hC dX12_rank_33 rfl (fun c => ?_) (fun c => ?_)
        · replace hw := hw.1 c
          refine g_iconst (v := 4) hC dX12_rank_42 (by decide) ?_
          refine g_goto (tgt := 85) hC dX12_rank_43 rfl ?_
          exact g_iret hC rfl (by decide) (by decide) dX12_rank_85 (fun _ => ⟨_, rfl, hw⟩)
        · replace hw := hw.2 c
          refine g_iload_n hC dX12_rank_36 rfl ?_
          refine g_bipush (v := 14) hC dX12_rank_37 (by decide) ?_
          refine g_icmp_ne (tgt := 46) hC dX12_rank_39 rfl (fun c => ?_) (fun c => ?_)
          · replace hw := hw.1 c
            refine g_iload_n hC dX12_rank_46 rfl ?_
            refine g_bipush (v := 15) hC dX12_rank_47 (by decide) ?_
            refine g_icmp_eq (tgt := 58) hC dX12_rank_49 rfl (fun c => ?_) (fun c => ?_)
            · replace hw := hw.1 c
              refine g_iconst (v := 5) hC dX12_rank_58 (by decide) ?_
              refine g_goto (tgt := 85) hC dX12_rank_59 rfl ?_
              exact g_iret hC rfl (by decide) (by decide) dX12_rank_85 (fun _ => ⟨_, rfl, hw⟩)
            · replace hw := hw.2 c
              refine g_iload_n hC dX12_rank_52 rfl ?_
              refine g_bipush (v := 16) hC dX12_rank_53 (by decide) ?_
              refine g_icmp_ne (tgt := 62) hC dX12_rank_55 rfl (fun c => ?_) (fun c => ?_)
              · replace hw := hw.1 c
                refine g_iload_n hC dX12_rank_62 rfl ?_
                refine g_bipush (v := 17) hC dX12_rank_63 (by decide) ?_
                refine g_icmp_ne (tgt := 73) hC dX12_rank_65 rfl (fun c => ?_) (fun c => ?_)
                · replace hw := hw.1 c
                  refine g_iload_n hC dX12_rank_73 rfl ?_
                  refine g_bipush (v := 18) hC dX12_rank_74 (by decide) ?_
                  refine g_icmp_ne (tgt := 84) hC dX12_rank_76 rfl (fun c => ?_) (fun c => ?_)
                  · replace hw := hw.1 c
                    refine g_iconst (v := 0) hC dX12_rank_84 (by decide) ?_
                    exact g_iret hC rfl (by decide) (by decide) dX12_rank_85 (fun _ => ⟨_, rfl, hw⟩)
                  · replace hw := hw.2 c
                    refine g_bipush (v := 7) hC dX12_rank_79 (by decide) ?_
                    refine g_goto (tgt := 85) hC dX12_rank_81 rfl ?_
                    exact g_iret hC rfl (by decide) (by decide) dX12_rank_85 (fun _ => ⟨_, rfl, hw⟩)
                · replace hw := hw.2 c
                  refine g_bipush (v := 6) hC dX12_rank_68 (by decide) ?_
                  refine g_goto (tgt := 85) hC dX12_rank_70 rfl ?_
                  exact g_iret hC rfl (by decide) (by decide) dX12_rank_85 (fun _ => ⟨_, rfl, hw⟩)
              · replace hw := hw.2 c
                refine g_iconst (v := 5) hC dX12_rank_58 (by decide) ?_
                refine g_goto (tgt := 85) hC dX12_rank_59 rfl ?_
                exact g_iret hC rfl (by decide) (by decide) dX12_rank_85 (fun _ => ⟨_, rfl, hw⟩)
          · replace hw := hw.2 c
            refine g_iconst (v := 4) hC dX12_rank_42 (by decide) ?_
            refine g_goto (tgt := 85) hC dX12_rank_43 rfl ?_
            exact g_iret hC rfl (by decide) (by decide) dX12_rank_85 (fun _ => ⟨_, rfl, hw⟩)
      · replace hw := hw.2 c
        refine g_iconst (v := 3) hC dX12_rank_26 (by decide) ?_
        refine g_goto (tgt := 85) hC dX12_rank_27 rfl ?_
        exact g_iret hC rfl (by decide) (by decide) dX12_rank_85 (fun _ => ⟨_, rfl, hw⟩)
    · replace hw := hw.2 c
      refine g_iconst (v := 2) hC dX12_rank_16 (by decide) ?_
      refine g_goto (tgt := 85) hC dX12_rank_17 rfl ?_
      exact g_iret hC rfl (by decide) (by decide) dX12_rank_85 (fun _ => ⟨_, rfl, hw⟩)
  · replace hw := hw.2 c
    refine g_iconst (v := 1) hC dX12_rank_6 (by decide) ?_
    refine g_goto (tgt := 85) hC dX12_rank_7 rfl ?_
    exact g_iret hC rfl (by decide) (by decide) dX12_rank_85 (fun _ => ⟨_, rfl, hw⟩)
set_option maxRecDepth 4000 in
theorem c_X12_rank {Z : Fx} {ps ts : List (Nat × Nat × Nat)} {d : Nat} (hd : 0 ≤ d) {σ : Mem} {x0 : Int32} {Q : Int32 → Mem → Prop} (hw : w_X12_rank σ x0 Q) : mM Z ps ts yX12_rank cX12_rank 1 (some .int) d 0 0 [.int x0] σ (qI Q) := by
  refine mM.of (by decide) (Nat.le_of_ble_eq_true rfl) rfl (fun X hZ hp ht hn hC => ?_)
  subst hZ; subst hp; subst ht
  exact t_X12_rank hC hd (fun i h => by rw [hn]; exact h) hw
def w_X12_doAll_89 (Q : Mem → Prop) (K0 : Int32 → Mem → Prop) (x1 : Int32) (xy0 : Int32) (xy1 : Int32) (σ : Mem) : Prop := vp_in (mI σ 37 20) 170 ∧ (w_X12_emit (sI σ 37 21 (xy1 - xy0)) (mI σ 47 (Int32.toNatClampNeg (mI σ 37 20))) (fun s103 => K0 x1 s103))
set_option maxRecDepth 4000 in
set_option maxHeartbeats 2000000 in
theorem t_X12_doAll_89 {X : Cx} {d : Nat} (hC : mOK X cX12_doAll RX12 "doAll" none d 0 0) (hd : 1 ≤ d) (hN : ∀ i, i < 2 → i < xN X) (hP : ∀ e ∈ psM, e ∈ xP X) (hT : ∀ e ∈ tsM, e ∈ xT X) {Q : Mem → Prop} {K0 : Int32 → Mem → Prop} (hK0 : ∀ (x1 : Int32) (s : Mem), K0 x1 s → mG X 0 [(0, .ref (xB X + 37)), (1, .int x1)] [] s 0 0 (mQ X 0 0 (qV Q))) {x1 : Int32} {xy0 : Int32} {xy1 : Int32} {σ : Mem} (hw : w_X12_doAll_89 Q K0 x1 xy0 xy1 σ) : mG X 89 [(0, .ref (xB X + 37)), (1, .int x1)] [.int xy0, .int xy1, .ref (xB X + 37)] σ 0 0 (mQ X 0 0 (qV Q)) := by
  refine g_isub hC dX12_doAll_89 ?_
  refine g_putIS hC (fw_X12_104_12 _) (hT _ tg_M_37) rfl rfl dX12_doAll_90 ?_
  refine g_aload_n hC dX12_doAll_93 rfl ?_
  refine g_aload_n hC dX12_doAll_94 rfl ?_
  refine g_getrS hC fl_X12_98_12.s (hT _ tg_M_37) (hP _ pt_M_37_19) dX12_doAll_95 ?_
  refine g_aload_n hC dX12_doAll_98 rfl ?_
  refine g_getiSv (v := (mI σ 37 20)) hC fl_X12_95_12.s (hT _ tg_M_37) (mI_sI_k _ _ (by decide)) dX12_doAll_99 ?_
  refine g_ialdSv (v := (mI σ 47 (Int32.toNatClampNeg (mI σ 37 20)))) hC (hT _ tg_M_47) rfl hw.1 (mI_sI_n _ _ (by decide)) dX12_doAll_102 ?_
  replace hw := hw.2
  refine g_known (fun hS => ?_)
  refine mG.st (st1 := ([.int (mI σ 47 (Int32.toNatClampNeg (mI σ 37 20)))] : List Value).reverse ++ .ref (xB X + 37) :: []) rfl ?_
  refine g_callV (As := [.int (mI σ 47 (Int32.toNatClampNeg (mI σ 37 20)))]) (st := []) hC (hS.2 _ (hT _ tg_M_37)) (by decide) ycl_12_X12_emit yw_X12_emit yv_X12_emit tw_535 dX12_doAll_103 (fun _ h => h) (fun _ h => h) (fun h => h) (c_X12_emit (d := 0) (Nat.le_refl _) hP hT hw) rfl (Nat.le_of_ble_eq_true rfl) (by omega) (by decide) (by decide) (kV fun s103 hw => ?_)
  refine g_goto (tgt := 0) hC dX12_doAll_106 rfl ?_
  refine mG.pick (lv' := [(0, .ref (xB X + 37)), (1, .int x1)]) [0, 1] rfl ?_
  exact hK0 _ _ hw
def w_X12_doAll_84 (Q : Mem → Prop) (K0 : Int32 → Mem → Prop) (x1 : Int32) (xy0 : Int32) (σ : Mem) : Prop := w_X12_doAll_89 Q K0 x1 1 xy0 σ
set_option maxRecDepth 4000 in
set_option maxHeartbeats 2000000 in
theorem t_X12_doAll_84 {X : Cx} {d : Nat} (hC : mOK X cX12_doAll RX12 "doAll" none d 0 0) (hd : 1 ≤ d) (hN : ∀ i, i < 2 → i < xN X) (hP : ∀ e ∈ psM, e ∈ xP X) (hT : ∀ e ∈ tsM, e ∈ xT X) {Q : Mem → Prop} {K0 : Int32 → Mem → Prop} (hK0 : ∀ (x1 : Int32) (s : Mem), K0 x1 s → mG X 0 [(0, .ref (xB X + 37)), (1, .int x1)] [] s 0 0 (mQ X 0 0 (qV Q))) {x1 : Int32} {xy0 : Int32} {σ : Mem} (hw : w_X12_doAll_84 Q K0 x1 xy0 σ) : mG X 84 [(0, .ref (xB X + 37)), (1, .int x1)] [.int xy0, .ref (xB X + 37)] σ 0 0 (mQ X 0 0 (qV Q)) := by
  refine g_iconst (v := 1) hC dX12_doAll_84 (by decide) ?_
  refine g_goto (tgt := 89) hC dX12_doAll_85 rfl ?_
  refine mG.pick (lv' := [(0, .ref (xB X + 37)), (1, .int x1)]) [0, 1] rfl ?_
  exact t_X12_doAll_89 hC hd hN hP hT hK0 hw
def w_X12_doAll_0 (Q : Mem → Prop) : Nat → Int32 → Mem → Prop
  | 0, _, _ => False
  | n + 1, x1, σ => ((mI σ 37 20) ≤ 0 → (Q σ)) ∧ (¬ (mI σ 37 20) ≤ 0 → (vp_in ((mI σ 37 20) - 1) 170 ∧ (((mI σ 47 (Int32.toNatClampNeg ((mI σ 37 20) - 1))) = 30 → (Q σ)) ∧ (¬ (mI σ 47 (Int32.toNatClampNeg ((mI σ 37 20) - 1))) = 30 → (vp_in ((mI σ 37 20) - 1) 170 ∧ (w_X12_rank σ (mI σ 47 (Int32.toNatClampNeg ((mI σ 37 20) - 1))) (fun v101 s103 => (v101 < x1 → (Q s103)) ∧ (¬ v101 < x1 → (vp_in ((mI s103 37 20) - 1) 170 ∧ (((mI s103 47 (Int32.toNatClampNeg ((mI s103 37 20) - 1))) = 12 → (w_X12_doAll_84 Q (fun z0 z1 => w_X12_doAll_0 Q n z0 z1) x1 (mI s103 37 21) (sI s103 37 20 ((mI s103 37 20) - 1)))) ∧ (¬ (mI s103 47 (Int32.toNatClampNeg ((mI s103 37 20) - 1))) = 12 → (vp_in ((mI s103 37 20) - 1) 170 ∧ ((¬ (mI s103 47 (Int32.toNatClampNeg ((mI s103 37 20) - 1))) = 18 → (w_X12_doAll_89 Q (fun z0 z1 => w_X12_doAll_0 Q n z0 z1) x1 0 (mI s103 37 21) (sI s103 37 20 ((mI s103 37 20) - 1)))) ∧ ((mI s103 47 (Int32.toNatClampNeg ((mI s103 37 20) - 1))) = 18 → (w_X12_doAll_84 Q (fun z0 z1 => w_X12_doAll_0 Q n z0 z1) x1 (mI s103 37 21) (sI s103 37 20 ((mI s103 37 20) - 1)))))))))))))))))
set_option maxRecDepth 4000 in
set_option maxHeartbeats 2000000 in
theorem t_X12_doAll_0 {X : Cx} {d : Nat} (hC : mOK X cX12_doAll RX12 "doAll" none d 0 0) (hd : 1 ≤ d) (hN : ∀ i, i < 2 → i < xN X) (hP : ∀ e ∈ psM, e ∈ xP X) (hT : ∀ e ∈ tsM, e ∈ xT X) {Q : Mem → Prop} : ∀ (n : Nat) (x1 : Int32) (σ : Mem), w_X12_doAll_0 Q n x1 σ → mG X 0 [(0, .ref (xB X + 37)), (1, .int x1)] [] σ 0 0 (mQ X 0 0 (qV Q)) := by
  intro n
  induction n with
  | zero => intro x1 σ hw; exact False.elim hw
  | succ n ih =>
    intro x1 σ hw
    rw [w_X12_doAll_0] at hw
    refine g_aload_n hC dX12_doAll_0 rfl ?_
    refine g_getiSv (v := (mI σ 37 20)) hC fl_X12_95_12.s (hT _ tg_M_37) rfl dX12_doAll_1 ?_
    refine g_if_le (tgt := 109) hC dX12_doAll_4 rfl (fun c => ?_) (fun c => ?_)
    · replace hw := hw.1 c
      exact g_vret hC (by decide) (by decide) dX12_doAll_109 (fun _ => ⟨rfl, hw⟩)
    · replace hw := hw.2 c
      refine g_aload_n hC dX12_doAll_7 rfl ?_
      refine g_getrS hC fl_X12_98_12.s (hT _ tg_M_37) (hP _ pt_M_37_19) dX12_doAll_8 ?_
      refine g_aload_n hC dX12_doAll_11 rfl ?_
      refine g_getiSv (v := (mI σ 37 20)) hC fl_X12_95_12.s (hT _ tg_M_37) rfl dX12_doAll_12 ?_
      refine g_iconst (v := 1) hC dX12_doAll_15 (by decide) ?_
      refine g_isub hC dX12_doAll_16 ?_
      refine g_ialdSv (v := (mI σ 47 (Int32.toNatClampNeg ((mI σ 37 20) - 1)))) hC (hT _ tg_M_47) rfl hw.1 rfl dX12_doAll_17 ?_
      replace hw := hw.2
      refine g_bipush (v := 30) hC dX12_doAll_18 (by decide) ?_
      refine g_icmp_eq (tgt := 109) hC dX12_doAll_20 rfl (fun c => ?_) (fun c => ?_)
      · replace hw := hw.1 c
        exact g_vret hC (by decide) (by decide) dX12_doAll_109 (fun _ => ⟨rfl, hw⟩)
      · replace hw := hw.2 c
        refine g_aload_n hC dX12_doAll_23 rfl ?_
        refine g_getrS hC fl_X12_98_12.s (hT _ tg_M_37) (hP _ pt_M_37_19) dX12_doAll_24 ?_
        refine g_aload_n hC dX12_doAll_27 rfl ?_
        refine g_getiSv (v := (mI σ 37 20)) hC fl_X12_95_12.s (hT _ tg_M_37) rfl dX12_doAll_28 ?_
        refine g_iconst (v := 1) hC dX12_doAll_31 (by decide) ?_
        refine g_isub hC dX12_doAll_32 ?_
        refine g_ialdSv (v := (mI σ 47 (Int32.toNatClampNeg ((mI σ 37 20) - 1)))) hC (hT _ tg_M_47) rfl hw.1 rfl dX12_doAll_33 ?_
        replace hw := hw.2
        refine mG.st (st1 := ([.int (mI σ 47 (Int32.toNatClampNeg ((mI σ 37 20) - 1)))] : List Value).reverse ++ []) rfl ?_
        refine g_callS (As := [.int (mI σ 47 (Int32.toNatClampNeg ((mI σ 37 20) - 1)))]) (st := []) hC yw_X12_rank ys_X12_rank tw_529 dX12_doAll_34 (fun _ h => h) (fun _ h => h) (fun h => h) (c_X12_rank (d := 0) (Nat.le_refl _) hw) rfl (Nat.le_of_ble_eq_true rfl) (by omega) (by decide) (by decide) (kI fun v101 s103 hw => ?_)
        refine g_iload_n hC dX12_doAll_37 rfl ?_
        refine g_icmp_lt (tgt := 109) hC dX12_doAll_38 rfl (fun c => ?_) (fun c => ?_)
        · replace hw := hw.1 c
          exact g_vret hC (by decide) (by decide) dX12_doAll_109 (fun _ => ⟨rfl, hw⟩)
        · replace hw := hw.2 c
          refine g_aload_n hC dX12_doAll_41 rfl ?_
          refine g_dup hC dX12_doAll_42 rfl ?_
          refine g_getiSv (v := (mI s103 37 20)) hC fl_X12_95_12.s (hT _ tg_M_37) rfl dX12_doAll_43 ?_
          refine g_iconst (v := 1) hC dX12_doAll_46 (by decide) ?_
          refine g_isub hC dX12_doAll_47 ?_
          refine g_putIS hC (fw_X12_95_12 _) (hT _ tg_M_37) rfl rfl dX12_doAll_48 ?_
          refine g_aload_n hC dX12_doAll_51 rfl ?_
          refine g_dup hC dX12_doAll_52 rfl ?_
          refine g_getiSv (v := (mI s103 37 21)) hC fl_X12_104_12.s (hT _ tg_M_37) (mI_sI_k _ _ (by decide)) dX12_doAll_53 ?_
          refine g_aload_n hC dX12_doAll_56 rfl ?_
          refine g_getrS hC fl_X12_98_12.s (hT _ tg_M_37) (hP _ pt_M_37_19) dX12_doAll_57 ?_
          refine g_aload_n hC dX12_doAll_60 rfl ?_
          refine g_getiSv (v := ((mI s103 37 20) - 1)) hC fl_X12_95_12.s (hT _ tg_M_37) (mI_sI_s _ _ _ _) dX12_doAll_61 ?_
          refine g_ialdSv (v := (mI s103 47 (Int32.toNatClampNeg ((mI s103 37 20) - 1)))) hC (hT _ tg_M_47) rfl hw.1 (mI_sI_n _ _ (by decide)) dX12_doAll_64 ?_
          replace hw := hw.2
          refine g_bipush (v := 12) hC dX12_doAll_65 (by decide) ?_
          refine g_icmp_eq (tgt := 84) hC dX12_doAll_67 rfl (fun c => ?_) (fun c => ?_)
          · replace hw := hw.1 c
            refine mG.pick (lv' := [(0, .ref (xB X + 37)), (1, .int x1)]) [0, 1] rfl ?_
            exact t_X12_doAll_84 hC hd hN hP hT ih hw
          · replace hw := hw.2 c
            refine g_aload_n hC dX12_doAll_70 rfl ?_
            refine g_getrS hC fl_X12_98_12.s (hT _ tg_M_37) (hP _ pt_M_37_19) dX12_doAll_71 ?_
            refine g_aload_n hC dX12_doAll_74 rfl ?_
            refine g_getiSv (v := ((mI s103 37 20) - 1)) hC fl_X12_95_12.s (hT _ tg_M_37) (mI_sI_s _ _ _ _) dX12_doAll_75 ?_
            refine g_ialdSv (v := (mI s103 47 (Int32.toNatClampNeg ((mI s103 37 20) - 1)))) hC (hT _ tg_M_47) rfl hw.1 (mI_sI_n _ _ (by decide)) dX12_doAll_78 ?_
            replace hw := hw.2
            refine g_bipush (v := 18) hC dX12_doAll_79 (by decide) ?_
            refine g_icmp_ne (tgt := 88) hC dX12_doAll_81 rfl (fun c => ?_) (fun c => ?_)
            · replace hw := hw.1 c
              refine g_iconst (v := 0) hC dX12_doAll_88 (by decide) ?_
              refine mG.pick (lv' := [(0, .ref (xB X + 37)), (1, .int x1)]) [0, 1] rfl ?_
              exact t_X12_doAll_89 hC hd hN hP hT ih hw
            · replace hw := hw.2 c
              refine mG.pick (lv' := [(0, .ref (xB X + 37)), (1, .int x1)]) [0, 1] rfl ?_
              exact t_X12_doAll_84 hC hd hN hP hT ih hw
def w_X12_doAll (σ : Mem) (x1 : Int32) (Q : Mem → Prop) : Prop := ∃ n : Nat, w_X12_doAll_0 Q n x1 σ
theorem t_X12_doAll {X : Cx} {d : Nat} (hC : mOK X cX12_doAll RX12 "doAll" none d 0 0) (hd : 1 ≤ d) (hN : ∀ i, i < 2 → i < xN X) (hP : ∀ e ∈ psM, e ∈ xP X) (hT : ∀ e ∈ tsM, e ∈ xT X) {σ : Mem} {x1 : Int32} {Q : Mem → Prop} (hw : w_X12_doAll σ x1 Q) : mG X 0 [(0, .ref (xB X + 37)), (1, .int x1)] [] σ 0 0 (mQ X 0 0 (qV Q)) := by
  obtain ⟨n, hw⟩ := hw
  refine mG.pick (lv' := [(0, .ref (xB X + 37)), (1, .int x1)]) [0, 1] rfl ?_
  exact t_X12_doAll_0 hC hd hN hP hT n _ _ hw
set_option maxRecDepth 4000 in
theorem c_X12_doAll {Z : Fx} {ps ts : List (Nat × Nat × Nat)} {d : Nat} (hd : 1 ≤ d) (hP : ∀ e ∈ psM, e ∈ ps) (hT : ∀ e ∈ tsM, e ∈ ts) {σ : Mem} {x1 : Int32} {Q : Mem → Prop} (hw : w_X12_doAll σ x1 Q) : mM Z ps ts yX12_doAll cX12_doAll 2 none d 0 0 [.ref (Z.2.2 + 37), .int x1] σ (qV Q) := by
  refine mM.of (by decide) (Nat.le_of_ble_eq_true rfl) rfl (fun X hZ hp ht hn hC => ?_)
  subst hZ; subst hp; subst ht
  exact t_X12_doAll hC hd (fun i h => by rw [hn]; exact h) hP hT hw
def w_X12_await (σ : Mem) (x1 : Int32) (Q : Mem → Prop) : Prop := vp_in (mI σ 37 20) 170 ∧ (Q (sI (sI σ 47 (Int32.toNatClampNeg (mI σ 37 20)) x1) 37 20 ((mI σ 37 20) + 1)))
set_option maxRecDepth 4000 in
set_option maxHeartbeats 2000000 in
theorem t_X12_await {X : Cx} {d : Nat} (hC : mOK X cX12_await RX12 "await" none d 0 0) (hd : 0 ≤ d) (hN : ∀ i, i < 2 → i < xN X) (hP : ∀ e ∈ psM, e ∈ xP X) (hT : ∀ e ∈ tsM, e ∈ xT X) {σ : Mem} {x1 : Int32} {Q : Mem → Prop} (hw : w_X12_await σ x1 Q) : mG X 0 [(0, .ref (xB X + 37)), (1, .int x1)] [] σ 0 0 (mQ X 0 0 (qV Q)) := by
  refine g_aload_n hC dX12_await_0 rfl ?_
  refine g_getrS hC fl_X12_98_12.s (hT _ tg_M_37) (hP _ pt_M_37_19) dX12_await_1 ?_
  refine g_aload_n hC dX12_await_4 rfl ?_
  refine g_getiSv (v := (mI σ 37 20)) hC fl_X12_95_12.s (hT _ tg_M_37) rfl dX12_await_5 ?_
  refine g_iload_n hC dX12_await_8 rfl ?_
  have hin := hw.1
  replace hw := hw.2
  refine g_iastS (k := (Int32.toNatClampNeg (mI σ 37 20))) hC (hT _ tg_M_47) rfl hin dX12_await_9 ?_
  refine g_aload_n hC dX12_await_10 rfl ?_
  refine g_dup hC dX12_await_11 rfl ?_
  refine g_getiSv (v := (mI σ 37 20)) hC fl_X12_95_12.s (hT _ tg_M_37) (mI_sI_n _ _ (by decide)) dX12_await_12 ?_
  refine g_iconst (v := 1) hC dX12_await_15 (by decide) ?_
  refine g_iadd hC dX12_await_16 ?_
  refine g_putIS hC (fw_X12_95_12 _) (hT _ tg_M_37) rfl rfl dX12_await_17 ?_
  exact g_vret hC (by decide) (by decide) dX12_await_20 (fun _ => ⟨rfl, hw⟩)
set_option maxRecDepth 4000 in
theorem c_X12_await {Z : Fx} {ps ts : List (Nat × Nat × Nat)} {d : Nat} (hd : 0 ≤ d) (hP : ∀ e ∈ psM, e ∈ ps) (hT : ∀ e ∈ tsM, e ∈ ts) {σ : Mem} {x1 : Int32} {Q : Mem → Prop} (hw : w_X12_await σ x1 Q) : mM Z ps ts yX12_await cX12_await 2 none d 0 0 [.ref (Z.2.2 + 37), .int x1] σ (qV Q) := by
  refine mM.of (by decide) (Nat.le_of_ble_eq_true rfl) rfl (fun X hZ hp ht hn hC => ?_)
  subst hZ; subst hp; subst ht
  exact t_X12_await hC hd (fun i h => by rw [hn]; exact h) hP hT hw
def w_X12_between_125 (Q : Int32 → Mem → Prop) (x1 : Int32) (σ : Mem) : Prop := w_X12_rank σ x1 (fun v101 s103 => w_X12_doAll s103 v101 (fun s106 => w_X12_await s106 x1 (fun s109 => w_X12_rank s109 x1 (fun v110 s112 => (v110 = 4 → (vp_in (mI s109 37 22) 8 ∧ (Q 1 (sI s112 48 (Int32.toNatClampNeg (mI s109 37 22)) 1)))) ∧ (¬ v110 = 4 → (w_X12_rank s112 x1 (fun v113 s115 => (v113 ≤ 4 → (vp_in (mI s109 37 22) 8 ∧ (Q 1 (sI s115 48 (Int32.toNatClampNeg (mI s109 37 22)) 0)))) ∧ (¬ v113 ≤ 4 → (vp_in (mI s115 37 22) 8 ∧ (((mI s115 48 (Int32.toNatClampNeg (mI s115 37 22))) = 0 → (vp_in (mI s109 37 22) 8 ∧ (Q 1 (sI s115 48 (Int32.toNatClampNeg (mI s109 37 22)) 0)))) ∧ (¬ (mI s115 48 (Int32.toNatClampNeg (mI s115 37 22))) = 0 → (vp_in (mI s109 37 22) 8 ∧ (Q 1 (sI s115 48 (Int32.toNatClampNeg (mI s109 37 22)) 1))))))))))))))
set_option maxRecDepth 4000 in
set_option maxHeartbeats 2000000 in
theorem t_X12_between_125 {X : Cx} {d : Nat} (hC : mOK X cX12_between RX12 "between" (some .boolean) d 0 0) (hd : 2 ≤ d) (hN : ∀ i, i < 2 → i < xN X) (hP : ∀ e ∈ psM, e ∈ xP X) (hT : ∀ e ∈ tsM, e ∈ xT X) {Q : Int32 → Mem → Prop} {x1 : Int32} {σ : Mem} (hw : w_X12_between_125 Q x1 σ) : mG X 125 [(0, .ref (xB X + 37)), (1, .int x1)] [] σ 0 0 (mQ X 0 0 (qI Q)) := by
  refine g_aload_n hC dX12_between_125 rfl ?_
  refine g_iload_n hC dX12_between_126 rfl ?_
  refine mG.st (st1 := ([.int x1] : List Value).reverse ++ [.ref (xB X + 37)]) rfl ?_
  refine g_callS (As := [.int x1]) (st := [.ref (xB X + 37)]) hC yw_X12_rank ys_X12_rank tw_529 dX12_between_127 (fun _ h => h) (fun _ h => h) (fun h => h) (c_X12_rank (d := 0) (Nat.le_refl _) hw) rfl (Nat.le_of_ble_eq_true rfl) (by omega) (by decide) (by decide) (kI fun v101 s103 hw => ?_)
  refine g_known (fun hS => ?_)
  refine mG.st (st1 := ([.int v101] : List Value).reverse ++ .ref (xB X + 37) :: []) rfl ?_
  refine g_callV (As := [.int v101]) (st := []) hC (hS.2 _ (hT _ tg_M_37)) (by decide) ycl_12_X12_doAll yw_X12_doAll yv_X12_doAll tw_549 dX12_between_130 (fun _ h => h) (fun _ h => h) (fun h => h) (c_X12_doAll (d := 1) (Nat.le_refl _) hP hT hw) rfl (Nat.le_of_ble_eq_true rfl) (by omega) (by decide) (by decide) (kV fun s106 hw => ?_)
  refine g_aload_n hC dX12_between_133 rfl ?_
  refine g_iload_n hC dX12_between_134 rfl ?_
  refine g_known (fun hS => ?_)
  refine mG.st (st1 := ([.int x1] : List Value).reverse ++ .ref (xB X + 37) :: []) rfl ?_
  refine g_callV (As := [.int x1]) (st := []) hC (hS.2 _ (hT _ tg_M_37)) (by decide) ycl_12_X12_await yw_X12_await yv_X12_await tw_550 dX12_between_135 (fun _ h => h) (fun _ h => h) (fun h => h) (c_X12_await (d := 0) (Nat.le_refl _) hP hT hw) rfl (Nat.le_of_ble_eq_true rfl) (by omega) (by decide) (by decide) (kV fun s109 hw => ?_)
  refine g_aload_n hC dX12_between_138 rfl ?_
  refine g_getrS hC fl_X12_117_12.s (hT _ tg_M_37) (hP _ pt_M_37_23) dX12_between_139 ?_
  refine g_aload_n hC dX12_between_142 rfl ?_
  refine g_getiSv (v := (mI s109 37 22)) hC fl_X12_121_12.s (hT _ tg_M_37) rfl dX12_between_143 ?_
  refine g_iload_n hC dX12_between_146 rfl ?_
  refine mG.st (st1 := ([.int x1] : List Value).reverse ++ [.int (mI s109 37 22), .ref (xB X + 48)]) rfl ?_
  refine g_callS (As := [.int x1]) (st := [.int (mI s109 37 22), .ref (xB X + 48)]) hC yw_X12_rank ys_X12_rank tw_529 dX12_between_147 (fun _ h => h) (fun _ h => h) (fun h => h) (c_X12_rank (d := 0) (Nat.le_refl _) hw) rfl (Nat.le_of_ble_eq_true rfl) (by omega) (by decide) (by decide) (kI fun v110 s112 hw => ?_)
  refine g_iconst (v := 4) hC dX12_between_150 (by decide) ?_
  refine g_icmp_eq (tgt := 174) hC dX12_between_151 rfl (fun c => ?_) (fun c => ?_)
  · replace hw := hw.1 c
    refine g_iconst (v := 1) hC dX12_between_174 (by decide) ?_
    refine g_goto (tgt := 179) hC dX12_between_175 rfl ?_
    have hin := hw.1
    replace hw := hw.2
    refine g_zastS (k := (Int32.toNatClampNeg (mI s109 37 22))) hC (hT _ tg_M_48) rfl hin bz1 dX12_between_179 ?_
    refine g_iconst (v := 1) hC dX12_between_180 (by decide) ?_
    exact g_iret hC bz1 (by decide) (by decide) dX12_between_181 (fun _ => ⟨_, rfl, hw⟩)
  · replace hw := hw.2 c
    refine g_iload_n hC dX12_between_154 rfl ?_
    refine mG.st (st1 := ([.int x1] : List Value).reverse ++ [.int (mI s109 37 22), .ref (xB X + 48)]) rfl ?_
    refine g_callS (As := [.int x1]) (st := [.int (mI s109 37 22), .ref (xB X + 48)]) hC yw_X12_rank ys_X12_rank tw_529 dX12_between_155 (fun _ h => h) (fun _ h => h) (fun h => h) (c_X12_rank (d := 0) (Nat.le_refl _) hw) rfl (Nat.le_of_ble_eq_true rfl) (by omega) (by decide) (by decide) (kI fun v113 s115 hw => ?_)
    refine g_iconst (v := 4) hC dX12_between_158 (by decide) ?_
    refine g_icmp_le (tgt := 178) hC dX12_between_159 rfl (fun c => ?_) (fun c => ?_)
    · replace hw := hw.1 c
      refine g_iconst (v := 0) hC dX12_between_178 (by decide) ?_
      have hin := hw.1
      replace hw := hw.2
      refine g_zastS (k := (Int32.toNatClampNeg (mI s109 37 22))) hC (hT _ tg_M_48) rfl hin bz0 dX12_between_179 ?_
      refine g_iconst (v := 1) hC dX12_between_180 (by decide) ?_
      exact g_iret hC bz1 (by decide) (by decide) dX12_between_181 (fun _ => ⟨_, rfl, hw⟩)
    · replace hw := hw.2 c
      refine g_aload_n hC dX12_between_162 rfl ?_
      refine g_getrS hC fl_X12_117_12.s (hT _ tg_M_37) (hP _ pt_M_37_23) dX12_between_163 ?_
      refine g_aload_n hC dX12_between_166 rfl ?_
      refine g_getiSv (v := (mI s115 37 22)) hC fl_X12_121_12.s (hT _ tg_M_37) rfl dX12_between_167 ?_
      refine g_zaldSv (v := (mI s115 48 (Int32.toNatClampNeg (mI s115 37 22)))) hC (hT _ tg_M_48) rfl hw.1 rfl dX12_between_170 ?_
      replace hw := hw.2
      refine g_if_eq (tgt := 178) hC dX12_between_171 rfl (fun c => ?_) (fun c => ?_)
      · replace hw := hw.1 c
        refine g_iconst (v := 0) hC dX12_between_178 (by decide) ?_
        have hin := hw.1
        replace hw := hw.2
        refine g_zastS (k := (Int32.toNatClampNeg (mI s109 37 22))) hC (hT _ tg_M_48) rfl hin bz0 dX12_between_179 ?_
        refine g_iconst (v := 1) hC dX12_between_180 (by decide) ?_
        exact g_iret hC bz1 (by decide) (by decide) dX12_between_181 (fun _ => ⟨_, rfl, hw⟩)
      · replace hw := hw.2 c
        refine g_iconst (v := 1) hC dX12_between_174 (by decide) ?_
        refine g_goto (tgt := 179) hC dX12_between_175 rfl ?_
        have hin := hw.1
        replace hw := hw.2
        refine g_zastS (k := (Int32.toNatClampNeg (mI s109 37 22))) hC (hT _ tg_M_48) rfl hin bz1 dX12_between_179 ?_
        refine g_iconst (v := 1) hC dX12_between_180 (by decide) ?_
        exact g_iret hC bz1 (by decide) (by decide) dX12_between_181 (fun _ => ⟨_, rfl, hw⟩)
def w_X12_between_97 (Q : Int32 → Mem → Prop) (xy0 : Int32) (σ : Mem) : Prop := (xy0 = (-1) → (Q 0 σ)) ∧ (¬ xy0 = (-1) → (w_X12_rank σ xy0 (fun v101 s103 => (¬ v101 = 4 → (w_X12_between_125 Q xy0 s103)) ∧ (v101 = 4 → (vp_in (mI s103 37 22) 8 ∧ (((mI s103 48 (Int32.toNatClampNeg (mI s103 37 22))) = 0 → (w_X12_between_125 Q xy0 s103)) ∧ (¬ (mI s103 48 (Int32.toNatClampNeg (mI s103 37 22))) = 0 → (Q 0 s103))))))))
set_option maxRecDepth 4000 in
set_option maxHeartbeats 2000000 in
theorem t_X12_between_97 {X : Cx} {d : Nat} (hC : mOK X cX12_between RX12 "between" (some .boolean) d 0 0) (hd : 2 ≤ d) (hN : ∀ i, i < 2 → i < xN X) (hP : ∀ e ∈ psM, e ∈ xP X) (hT : ∀ e ∈ tsM, e ∈ xT X) {Q : Int32 → Mem → Prop} {xy0 : Int32} {σ : Mem} (hw : w_X12_between_97 Q xy0 σ) : mG X 97 [(0, .ref (xB X + 37))] [.int xy0] σ 0 0 (mQ X 0 0 (qI Q)) := by
  refine g_istore_n (lv' := [(1, .int xy0), (0, .ref (xB X + 37))]) hC dX12_between_97 (hN 1 (by decide)) rfl ?_
  refine g_iload_n hC dX12_between_98 rfl ?_
  refine g_iconst (v := (-1)) hC dX12_between_99 (by decide) ?_
  refine g_icmp_eq (tgt := 123) hC dX12_between_100 rfl (fun c => ?_) (fun c => ?_)
  · replace hw := hw.1 c
    refine g_iconst (v := 0) hC dX12_between_123 (by decide) ?_
    exact g_iret hC bz0 (by decide) (by decide) dX12_between_124 (fun _ => ⟨_, rfl, hw⟩)
  · replace hw := hw.2 c
    refine g_iload_n hC dX12_between_103 rfl ?_
    refine mG.st (st1 := ([.int xy0] : List Value).reverse ++ []) rfl ?_
    refine g_callS (As := [.int xy0]) (st := []) hC yw_X12_rank ys_X12_rank tw_529 dX12_between_104 (fun _ h => h) (fun _ h => h) (fun h => h) (c_X12_rank (d := 0) (Nat.le_refl _) hw) rfl (Nat.le_of_ble_eq_true rfl) (by omega) (by decide) (by decide) (kI fun v101 s103 hw => ?_)
    refine g_iconst (v := 4) hC dX12_between_107 (by decide) ?_
    refine g_icmp_ne (tgt := 125) hC dX12_between_108 rfl (fun c => ?_) (fun c => ?_)
    · replace hw := hw.1 c
      refine mG.pick (lv' := [(0, .ref (xB X + 37)), (1, .int xy0)]) [1, 0] rfl ?_
      exact t_X12_between_125 hC hd hN hP hT hw
    · replace hw := hw.2 c
      refine g_aload_n hC dX12_between_111 rfl ?_
      refine g_getrS hC fl_X12_117_12.s (hT _ tg_M_37) (hP _ pt_M_37_23) dX12_between_112 ?_
      refine g_aload_n hC dX12_between_115 rfl ?_
      refine g_getiSv (v := (mI s103 37 22)) hC fl_X12_121_12.s (hT _ tg_M_37) rfl dX12_between_116 ?_
      refine g_zaldSv (v := (mI s103 48 (Int32.toNatClampNeg (mI s103 37 22)))) hC (hT _ tg_M_48) rfl hw.1 rfl dX12_between_119 ?_
      replace hw := hw.2
      refine g_if_eq (tgt := 125) hC dX12_between_120 rfl (fun c => ?_) (fun c => ?_)
      · replace hw := hw.1 c
        refine mG.pick (lv' := [(0, .ref (xB X + 37)), (1, .int xy0)]) [1, 0] rfl ?_
        exact t_X12_between_125 hC hd hN hP hT hw
      · replace hw := hw.2 c
        refine g_iconst (v := 0) hC dX12_between_123 (by decide) ?_
        exact g_iret hC bz0 (by decide) (by decide) dX12_between_124 (fun _ => ⟨_, rfl, hw⟩)
def w_X12_between (σ : Mem) (Q : Int32 → Mem → Prop) : Prop := w_X12_isSign σ 43 (fun v101 s103 => (v101 = 0 → (w_X12_isSign s103 45 (fun v104 s106 => (v104 = 0 → (w_X12_isSign s106 42 (fun v107 s109 => (v107 = 0 → (w_X12_isSign s109 60 (fun v110 s112 => (v110 = 0 → (w_X12_isSign s112 61 (fun v113 s115 => (v113 = 0 → (w_X12_isKey s115 4 (fun v116 s118 => (v116 = 0 → (w_X12_isKey s118 3 (fun v119 s121 => (v119 = 0 → (w_X12_between_97 Q (-1) s121)) ∧ (¬ v119 = 0 → (w_X12_between_97 Q 10 s121))))) ∧ (¬ v116 = 0 → (w_X12_between_97 Q 11 s118))))) ∧ (¬ v113 = 0 → (w_X12_between_97 Q 14 s115))))) ∧ (¬ v110 = 0 → (w_X12_between_97 Q 13 s112))))) ∧ (¬ v107 = 0 → (w_X12_between_97 Q 17 s109))))) ∧ (¬ v104 = 0 → (w_X12_between_97 Q 16 s106))))) ∧ (¬ v101 = 0 → (w_X12_between_97 Q 15 s103)))
set_option maxRecDepth 4000 in
set_option maxHeartbeats 2000000 in
theorem t_X12_between {X : Cx} {d : Nat} (hC : mOK X cX12_between RX12 "between" (some .boolean) d 0 0) (hd : 2 ≤ d) (hN : ∀ i, i < 2 → i < xN X) (hP : ∀ e ∈ psM, e ∈ xP X) (hT : ∀ e ∈ tsM, e ∈ xT X) {σ : Mem} {Q : Int32 → Mem → Prop} (hw : w_X12_between σ Q) : mG X 0 [(0, .ref (xB X + 37))] [] σ 0 0 (mQ X 0 0 (qI Q)) := by
  refine g_aload_n hC dX12_between_0 rfl ?_
  refine g_bipush (v := 43) hC dX12_between_1 (by decide) ?_
  refine g_known (fun hS => ?_)
  refine mG.st (st1 := ([.int 43] : List Value).reverse ++ .ref (xB X + 37) :: []) rfl ?_
  refine g_callV (As := [.int 43]) (st := []) hC (hS.2 _ (hT _ tg_M_37)) (by decide) ycl_12_X12_isSign yw_X12_isSign yv_X12_isSign tw_539 dX12_between_3 (fun _ h => h) (fun _ h => h) (fun h => h) (c_X12_isSign (d := 0) (Nat.le_refl _) hP hT hw) rfl (Nat.le_of_ble_eq_true rfl) (by omega) (by decide) (by decide) (kI fun v101 s103 hw => ?_)
  refine g_if_eq (tgt := 14) hC dX12_between_6 rfl (fun c => ?_) (fun c => ?_)
  · replace hw := hw.1 c
    refine g_aload_n hC dX12_between_14 rfl ?_
    refine g_bipush (v := 45) hC dX12_between_15 (by decide) ?_
    refine g_known (fun hS => ?_)
    refine mG.st (st1 := ([.int 45] : List Value).reverse ++ .ref (xB X + 37) :: []) rfl ?_
    refine g_callV (As := [.int 45]) (st := []) hC (hS.2 _ (hT _ tg_M_37)) (by decide) ycl_12_X12_isSign yw_X12_isSign yv_X12_isSign tw_539 dX12_between_17 (fun _ h => h) (fun _ h => h) (fun h => h) (c_X12_isSign (d := 0) (Nat.le_refl _) hP hT hw) rfl (Nat.le_of_ble_eq_true rfl) (by omega) (by decide) (by decide) (kI fun v104 s106 hw => ?_)
    refine g_if_eq (tgt := 28) hC dX12_between_20 rfl (fun c => ?_) (fun c => ?_)
    · replace hw := hw.1 c
      refine g_aload_n hC dX12_between_28 rfl ?_
      refine g_bipush (v := 42) hC dX12_between_29 (by decide) ?_
      refine g_known (fun hS => ?_)
      refine mG.st (st1 := ([.int 42] : List Value).reverse ++ .ref (xB X + 37) :: []) rfl ?_
      refine g_callV (As := [.int 42]) (st := []) hC (hS.2 _ (hT _ tg_M_37)) (by decide) ycl_12_X12_isSign yw_X12_isSign yv_X12_isSign tw_539 dX12_between_31 (fun _ h => h) (fun _ h => h) (fun h => h) (c_X12_isSign (d := 0) (Nat.le_refl _) hP hT hw) rfl (Nat.le_of_ble_eq_true rfl) (by omega) (by decide) (by decide) (kI fun v107 s109 hw => ?_)
      refine g_if_eq (tgt := 42) hC dX12_between_34 rfl (fun c => ?_) (fun c => ?_)
      · replace hw := hw.1 c
        refine g_aload_n hC dX12_between_42 rfl ?_
        refine g_bipush (v := 60) hC dX12_between_43 (by decide) ?_
        refine g_known (fun hS => ?_)
        refine mG.st (st1 := ([.int 60] : List Value).reverse ++ .ref (xB X + 37) :: []) rfl ?_
        refine g_callV (As := [.int 60]) (st := []) hC (hS.2 _ (hT _ tg_M_37)) (by decide) ycl_12_X12_isSign yw_X12_isSign yv_X12_isSign tw_539 dX12_between_45 (fun _ h => h) (fun _ h => h) (fun h => h) (c_X12_isSign (d := 0) (Nat.le_refl _) hP hT hw) rfl (Nat.le_of_ble_eq_true rfl) (by omega) (by decide) (by decide) (kI fun v110 s112 hw => ?_)
        refine g_if_eq (tgt := 56) hC dX12_between_48 rfl (fun c => ?_) (fun c => ?_)
        · replace hw := hw.1 c
          refine g_aload_n hC dX12_between_56 rfl ?_
          refine g_bipush (v := 61) hC dX12_between_57 (by decide) ?_
          refine g_known (fun hS => ?_)
          refine mG.st (st1 := ([.int 61] : List Value).reverse ++ .ref (xB X + 37) :: []) rfl ?_
          refine g_callV (As := [.int 61]) (st := []) hC (hS.2 _ (hT _ tg_M_37)) (by decide) ycl_12_X12_isSign yw_X12_isSign yv_X12_isSign tw_539 dX12_between_59 (fun _ h => h) (fun _ h => h) (fun h => h) (c_X12_isSign (d := 0) (Nat.le_refl _) hP hT hw) rfl (Nat.le_of_ble_eq_true rfl) (by omega) (by decide) (by decide) (kI fun v113 s115 hw => ?_)
          refine g_if_eq (tgt := 70) hC dX12_between_62 rfl (fun c => ?_) (fun c => ?_)
          · replace hw := hw.1 c
            refine g_aload_n hC dX12_between_70 rfl ?_
            refine g_iconst (v := 4) hC dX12_between_71 (by decide) ?_
            refine g_known (fun hS => ?_)
            refine mG.st (st1 := ([.int 4] : List Value).reverse ++ .ref (xB X + 37) :: []) rfl ?_
            refine g_callV (As := [.int 4]) (st := []) hC (hS.2 _ (hT _ tg_M_37)) (by decide) ycl_12_X12_isKey yw_X12_isKey yv_X12_isKey tw_540 dX12_between_72 (fun _ h => h) (fun _ h => h) (fun h => h) (c_X12_isKey (d := 0) (Nat.le_refl _) hP hT hw) rfl (Nat.le_of_ble_eq_true rfl) (by omega) (by decide) (by decide) (kI fun v116 s118 hw => ?_)
            refine g_if_eq (tgt := 83) hC dX12_between_75 rfl (fun c => ?_) (fun c => ?_)
            · replace hw := hw.1 c
              refine g_aload_n hC dX12_between_83 rfl ?_
              refine g_iconst (v := 3) hC dX12_between_84 (by decide) ?_
              refine g_known (fun hS => ?_)
              refine mG.st (st1 := ([.int 3] : List Value).reverse ++ .ref (xB X + 37) :: []) rfl ?_
              refine g_callV (As := [.int 3]) (st := []) hC (hS.2 _ (hT _ tg_M_37)) (by decide) ycl_12_X12_isKey yw_X12_isKey yv_X12_isKey tw_540 dX12_between_85 (fun _ h => h) (fun _ h => h) (fun h => h) (c_X12_isKey (d := 0) (Nat.le_refl _) hP hT hw) rfl (Nat.le_of_ble_eq_true rfl) (by omega) (by decide) (by decide) (kI fun v119 s121 hw => ?_)
              refine g_if_eq (tgt := 96) hC dX12_between_88 rfl (fun c => ?_) (fun c => ?_)
              · replace hw := hw.1 c
                refine g_iconst (v := (-1)) hC dX12_between_96 (by decide) ?_
                refine mG.pick (lv' := [(0, .ref (xB X + 37))]) [0] rfl ?_
                exact t_X12_between_97 hC hd hN hP hT hw
              · replace hw := hw.2 c
                refine g_bipush (v := 10) hC dX12_between_91 (by decide) ?_
                refine g_goto (tgt := 97) hC dX12_between_93 rfl ?_
                refine mG.pick (lv' := [(0, .ref (xB X + 37))]) [0] rfl ?_
                exact t_X12_between_97 hC hd hN hP hT hw
            · replace hw := hw.2 c
              refine g_bipush (v := 11) hC dX12_between_78 (by decide) ?_
              refine g_goto (tgt := 97) hC dX12_between_80 rfl ?_
              refine mG.pick (lv' := [(0, .ref (xB X + 37))]) [0] rfl ?_
              exact t_X12_between_97 hC hd hN hP hT hw
          · replace hw := hw.2 c
            refine g_bipush (v := 14) hC dX12_between_65 (by decide) ?_
            refine g_goto (tgt := 97) hC dX12_between_67 rfl ?_
            refine mG.pick (lv' := [(0, .ref (xB X + 37))]) [0] rfl ?_
            exact t_X12_between_97 hC hd hN hP hT hw
        · replace hw := hw.2 c
          refine g_bipush (v := 13) hC dX12_between_51 (by decide) ?_
          refine g_goto (tgt := 97) hC dX12_between_53 rfl ?_
          refine mG.pick (lv' := [(0, .ref (xB X + 37))]) [0] rfl ?_
          exact t_X12_between_97 hC hd hN hP hT hw
      · replace hw := hw.2 c
        refine g_bipush (v := 17) hC dX12_between_37 (by decide) ?_
        refine g_goto (tgt := 97) hC dX12_between_39 rfl ?_
        refine mG.pick (lv' := [(0, .ref (xB X + 37))]) [0] rfl ?_
        exact t_X12_between_97 hC hd hN hP hT hw
    · replace hw := hw.2 c
      refine g_bipush (v := 16) hC dX12_between_23 (by decide) ?_
      refine g_goto (tgt := 97) hC dX12_between_25 rfl ?_
      refine mG.pick (lv' := [(0, .ref (xB X + 37))]) [0] rfl ?_
      exact t_X12_between_97 hC hd hN hP hT hw
  · replace hw := hw.2 c
    refine g_bipush (v := 15) hC dX12_between_9 (by decide) ?_
    refine g_goto (tgt := 97) hC dX12_between_11 rfl ?_
    refine mG.pick (lv' := [(0, .ref (xB X + 37))]) [0] rfl ?_
    exact t_X12_between_97 hC hd hN hP hT hw
set_option maxRecDepth 4000 in
theorem c_X12_between {Z : Fx} {ps ts : List (Nat × Nat × Nat)} {d : Nat} (hd : 2 ≤ d) (hP : ∀ e ∈ psM, e ∈ ps) (hT : ∀ e ∈ tsM, e ∈ ts) {σ : Mem} {Q : Int32 → Mem → Prop} (hw : w_X12_between σ Q) : mM Z ps ts yX12_between cX12_between 2 (some .boolean) d 0 0 [.ref (Z.2.2 + 37)] σ (qI Q) := by
  refine mM.of (by decide) (Nat.le_of_ble_eq_true rfl) rfl (fun X hZ hp ht hn hC => ?_)
  subst hZ; subst hp; subst ht
  exact t_X12_between hC hd (fun i h => by rw [hn]; exact h) hP hT hw
def w_X12_closes (σ : Mem) (Q : Int32 → Mem → Prop) : Prop := w_X12_isSign σ 41 (fun v101 s103 => (v101 = 0 → (Q 0 s103)) ∧ (¬ v101 = 0 → ((¬ (mI s103 37 22) = 0 → (w_X12_doAll s103 1 (fun s106 => w_X12_doAll (sI (sI (sI s106 37 20 ((mI s106 37 20) - 1)) 37 22 ((mI s106 37 22) - 1)) 37 21 ((mI s106 37 21) - 1)) 7 (fun s109 => Q 1 s109)))) ∧ ((mI s103 37 22) = 0 → (Q 0 s103)))))
set_option maxRecDepth 4000 in
set_option maxHeartbeats 2000000 in
theorem t_X12_closes {X : Cx} {d : Nat} (hC : mOK X cX12_closes RX12 "closes" (some .boolean) d 0 0) (hd : 2 ≤ d) (hN : ∀ i, i < 1 → i < xN X) (hP : ∀ e ∈ psM, e ∈ xP X) (hT : ∀ e ∈ tsM, e ∈ xT X) {σ : Mem} {Q : Int32 → Mem → Prop} (hw : w_X12_closes σ Q) : mG X 0 [(0, .ref (xB X + 37))] [] σ 0 0 (mQ X 0 0 (qI Q)) := by
  refine g_aload_n hC dX12_closes_0 rfl ?_
  refine g_bipush (v := 41) hC dX12_closes_1 (by decide) ?_
  refine g_known (fun hS => ?_)
  refine mG.st (st1 := ([.int 41] : List Value).reverse ++ .ref (xB X + 37) :: []) rfl ?_
  refine g_callV (As := [.int 41]) (st := []) hC (hS.2 _ (hT _ tg_M_37)) (by decide) ycl_12_X12_isSign yw_X12_isSign yv_X12_isSign tw_539 dX12_closes_3 (fun _ h => h) (fun _ h => h) (fun h => h) (c_X12_isSign (d := 0) (Nat.le_refl _) hP hT hw) rfl (Nat.le_of_ble_eq_true rfl) (by omega) (by decide) (by decide) (kI fun v101 s103 hw => ?_)
  refine g_if_eq (tgt := 16) hC dX12_closes_6 rfl (fun c => ?_) (fun c => ?_)
  · replace hw := hw.1 c
    refine g_iconst (v := 0) hC dX12_closes_16 (by decide) ?_
    exact g_iret hC bz0 (by decide) (by decide) dX12_closes_17 (fun _ => ⟨_, rfl, hw⟩)
  · replace hw := hw.2 c
    refine g_aload_n hC dX12_closes_9 rfl ?_
    refine g_getiSv (v := (mI s103 37 22)) hC fl_X12_121_12.s (hT _ tg_M_37) rfl dX12_closes_10 ?_
    refine g_if_ne (tgt := 18) hC dX12_closes_13 rfl (fun c => ?_) (fun c => ?_)
    · replace hw := hw.1 c
      refine g_aload_n hC dX12_closes_18 rfl ?_
      refine g_iconst (v := 1) hC dX12_closes_19 (by decide) ?_
      refine g_known (fun hS => ?_)
      refine mG.st (st1 := ([.int 1] : List Value).reverse ++ .ref (xB X + 37) :: []) rfl ?_
      refine g_callV (As := [.int 1]) (st := []) hC (hS.2 _ (hT _ tg_M_37)) (by decide) ycl_12_X12_doAll yw_X12_doAll yv_X12_doAll tw_549 dX12_closes_20 (fun _ h => h) (fun _ h => h) (fun h => h) (c_X12_doAll (d := 1) (Nat.le_refl _) hP hT hw) rfl (Nat.le_of_ble_eq_true rfl) (by omega) (by decide) (by decide) (kV fun s106 hw => ?_)
      refine g_aload_n hC dX12_closes_23 rfl ?_
      refine g_dup hC dX12_closes_24 rfl ?_
      refine g_getiSv (v := (mI s106 37 20)) hC fl_X12_95_12.s (hT _ tg_M_37) rfl dX12_closes_25 ?_
      refine g_iconst (v := 1) hC dX12_closes_28 (by decide) ?_
      refine g_isub hC dX12_closes_29 ?_
      refine g_putIS hC (fw_X12_95_12 _) (hT _ tg_M_37) rfl rfl dX12_closes_30 ?_
      refine g_aload_n hC dX12_closes_33 rfl ?_
      refine g_dup hC dX12_closes_34 rfl ?_
      refine g_getiSv (v := (mI s106 37 22)) hC fl_X12_121_12.s (hT _ tg_M_37) (mI_sI_k _ _ (by decide)) dX12_closes_35 ?_
      refine g_iconst (v := 1) hC dX12_closes_38 (by decide) ?_
      refine g_isub hC dX12_closes_39 ?_
      refine g_putIS hC (fw_X12_121_12 _) (hT _ tg_M_37) rfl rfl dX12_closes_40 ?_
      refine g_aload_n hC dX12_closes_43 rfl ?_
      refine g_dup hC dX12_closes_44 rfl ?_
      refine g_getiSv (v := (mI s106 37 21)) hC fl_X12_104_12.s (hT _ tg_M_37) ((mI_sI_k _ _ (by decide)).trans (mI_sI_k _ _ (by decide))) dX12_closes_45 ?_
      refine g_iconst (v := 1) hC dX12_closes_48 (by decide) ?_
      refine g_isub hC dX12_closes_49 ?_
      refine g_putIS hC (fw_X12_104_12 _) (hT _ tg_M_37) rfl rfl dX12_closes_50 ?_
      refine g_aload_n hC dX12_closes_53 rfl ?_
      refine g_bipush (v := 7) hC dX12_closes_54 (by decide) ?_
      refine g_known (fun hS => ?_)
      refine mG.st (st1 := ([.int 7] : List Value).reverse ++ .ref (xB X + 37) :: []) rfl ?_
      refine g_callV (As := [.int 7]) (st := []) hC (hS.2 _ (hT _ tg_M_37)) (by decide) ycl_12_X12_doAll yw_X12_doAll yv_X12_doAll tw_549 dX12_closes_56 (fun _ h => h) (fun _ h => h) (fun h => h) (c_X12_doAll (d := 1) (Nat.le_refl _) hP hT hw) rfl (Nat.le_of_ble_eq_true rfl) (by omega) (by decide) (by decide) (kV fun s109 hw => ?_)
      refine g_iconst (v := 1) hC dX12_closes_59 (by decide) ?_
      exact g_iret hC bz1 (by decide) (by decide) dX12_closes_60 (fun _ => ⟨_, rfl, hw⟩)
    · replace hw := hw.2 c
      refine g_iconst (v := 0) hC dX12_closes_16 (by decide) ?_
      exact g_iret hC bz0 (by decide) (by decide) dX12_closes_17 (fun _ => ⟨_, rfl, hw⟩)
set_option maxRecDepth 4000 in
theorem c_X12_closes {Z : Fx} {ps ts : List (Nat × Nat × Nat)} {d : Nat} (hd : 2 ≤ d) (hP : ∀ e ∈ psM, e ∈ ps) (hT : ∀ e ∈ tsM, e ∈ ts) {σ : Mem} {Q : Int32 → Mem → Prop} (hw : w_X12_closes σ Q) : mM Z ps ts yX12_closes cX12_closes 1 (some .boolean) d 0 0 [.ref (Z.2.2 + 37)] σ (qI Q) := by
  refine mM.of (by decide) (Nat.le_of_ble_eq_true rfl) rfl (fun X hZ hp ht hn hC => ?_)
  subst hZ; subst hp; subst ht
  exact t_X12_closes hC hd (fun i h => by rw [hn]; exact h) hP hT hw
def w_X12_ahead_114 (Q : Int32 → Mem → Prop) (xy0 : Int32) (σ : Mem) : Prop := w_X12_await σ xy0 (fun s103 => Q 1 s103)
set_option maxRecDepth 4000 in
set_option maxHeartbeats 2000000 in
theorem t_X12_ahead_114 {X : Cx} {d : Nat} (hC : mOK X cX12_ahead RX12 "ahead" (some .boolean) d 0 0) (hd : 1 ≤ d) (hN : ∀ i, i < 3 → i < xN X) (hP : ∀ e ∈ psM, e ∈ xP X) (hT : ∀ e ∈ tsM, e ∈ xT X) {Q : Int32 → Mem → Prop} {xy0 : Int32} {σ : Mem} (hw : w_X12_ahead_114 Q xy0 σ) : mG X 114 [] [.int xy0, .ref (xB X + 37)] σ 0 0 (mQ X 0 0 (qI Q)) := by
  refine g_known (fun hS => ?_)
  refine mG.st (st1 := ([.int xy0] : List Value).reverse ++ .ref (xB X + 37) :: []) rfl ?_
  refine g_callV (As := [.int xy0]) (st := []) hC (hS.2 _ (hT _ tg_M_37)) (by decide) ycl_12_X12_await yw_X12_await yv_X12_await tw_550 dX12_ahead_114 (fun _ h => h) (fun _ h => h) (fun h => h) (c_X12_await (d := 0) (Nat.le_refl _) hP hT hw) rfl (Nat.le_of_ble_eq_true rfl) (by omega) (by decide) (by decide) (kV fun s103 hw => ?_)
  refine g_iconst (v := 1) hC dX12_ahead_117 (by decide) ?_
  exact g_iret hC bz1 (by decide) (by decide) dX12_ahead_118 (fun _ => ⟨_, rfl, hw⟩)
def w_X12_ahead_35 (Q : Int32 → Mem → Prop) (xy0 : Int32) (σ : Mem) : Prop := (xy0 = 0 → (Q 0 σ)) ∧ (¬ xy0 = 0 → ((¬ (mI σ 37 21) = 5 → (w_X12_isSign (sI σ 37 21 ((mI σ 37 21) + 1)) 40 (fun v101 s103 => (v101 = 0 → ((¬ (mI s103 37 14) = 3 → (w_X12_ahead_114 Q 18 s103)) ∧ ((mI s103 37 14) = 3 → (w_X12_ahead_114 Q 12 s103)))) ∧ (¬ v101 = 0 → (w_X12_await s103 30 (fun s106 => vp_in ((mI s106 37 22) + 1) 8 ∧ (Q 1 (sI (sI s106 37 22 ((mI s106 37 22) + 1)) 48 (Int32.toNatClampNeg ((mI s106 37 22) + 1)) 0)))))))) ∧ ((mI σ 37 21) = 5 → (Q 0 σ))))
set_option maxRecDepth 4000 in
set_option maxHeartbeats 2000000 in
theorem t_X12_ahead_35 {X : Cx} {d : Nat} (hC : mOK X cX12_ahead RX12 "ahead" (some .boolean) d 0 0) (hd : 1 ≤ d) (hN : ∀ i, i < 3 → i < xN X) (hP : ∀ e ∈ psM, e ∈ xP X) (hT : ∀ e ∈ tsM, e ∈ xT X) {Q : Int32 → Mem → Prop} {xy0 : Int32} {σ : Mem} (hw : w_X12_ahead_35 Q xy0 σ) : mG X 35 [(0, .ref (xB X + 37))] [.int xy0] σ 0 0 (mQ X 0 0 (qI Q)) := by
  refine g_istore_n (lv' := [(2, .int xy0), (0, .ref (xB X + 37))]) hC dX12_ahead_35 (hN 2 (by decide)) rfl ?_
  refine g_iload_n hC dX12_ahead_36 rfl ?_
  refine g_if_eq (tgt := 48) hC dX12_ahead_37 rfl (fun c => ?_) (fun c => ?_)
  · replace hw := hw.1 c
    refine g_iconst (v := 0) hC dX12_ahead_48 (by decide) ?_
    exact g_iret hC bz0 (by decide) (by decide) dX12_ahead_49 (fun _ => ⟨_, rfl, hw⟩)
  · replace hw := hw.2 c
    refine g_aload_n hC dX12_ahead_40 rfl ?_
    refine g_getiSv (v := (mI σ 37 21)) hC fl_X12_104_12.s (hT _ tg_M_37) rfl dX12_ahead_41 ?_
    refine g_iconst (v := 5) hC dX12_ahead_44 (by decide) ?_
    refine g_icmp_ne (tgt := 50) hC dX12_ahead_45 rfl (fun c => ?_) (fun c => ?_)
    · replace hw := hw.1 c
      refine g_aload_n hC dX12_ahead_50 rfl ?_
      refine g_dup hC dX12_ahead_51 rfl ?_
      refine g_getiSv (v := (mI σ 37 21)) hC fl_X12_104_12.s (hT _ tg_M_37) rfl dX12_ahead_52 ?_
      refine g_iconst (v := 1) hC dX12_ahead_55 (by decide) ?_
      refine g_iadd hC dX12_ahead_56 ?_
      refine g_putIS hC (fw_X12_104_12 _) (hT _ tg_M_37) rfl rfl dX12_ahead_57 ?_
      refine g_aload_n hC dX12_ahead_60 rfl ?_
      refine g_bipush (v := 40) hC dX12_ahead_61 (by decide) ?_
      refine g_known (fun hS => ?_)
      refine mG.st (st1 := ([.int 40] : List Value).reverse ++ .ref (xB X + 37) :: []) rfl ?_
      refine g_callV (As := [.int 40]) (st := []) hC (hS.2 _ (hT _ tg_M_37)) (by decide) ycl_12_X12_isSign yw_X12_isSign yv_X12_isSign tw_539 dX12_ahead_63 (fun _ h => h) (fun _ h => h) (fun h => h) (c_X12_isSign (d := 0) (Nat.le_refl _) hP hT hw) rfl (Nat.le_of_ble_eq_true rfl) (by omega) (by decide) (by decide) (kI fun v101 s103 hw => ?_)
      refine g_if_eq (tgt := 98) hC dX12_ahead_66 rfl (fun c => ?_) (fun c => ?_)
      · replace hw := hw.1 c
        refine g_aload_n hC dX12_ahead_98 rfl ?_
        refine g_aload_n hC dX12_ahead_99 rfl ?_
        refine g_getiSv (v := (mI s103 37 14)) hC fl_X12_60_12.s (hT _ tg_M_37) rfl dX12_ahead_100 ?_
        refine g_iconst (v := 3) hC dX12_ahead_103 (by decide) ?_
        refine g_icmp_ne (tgt := 112) hC dX12_ahead_104 rfl (fun c => ?_) (fun c => ?_)
        · replace hw := hw.1 c
          refine g_bipush (v := 18) hC dX12_ahead_112 (by decide) ?_
          refine mG.pick (lv' := []) [] rfl ?_
          exact t_X12_ahead_114 hC hd hN hP hT hw
        · replace hw := hw.2 c
          refine g_bipush (v := 12) hC dX12_ahead_107 (by decide) ?_
          refine g_goto (tgt := 114) hC dX12_ahead_109 rfl ?_
          refine mG.pick (lv' := []) [] rfl ?_
          exact t_X12_ahead_114 hC hd hN hP hT hw
      · replace hw := hw.2 c
        refine g_aload_n hC dX12_ahead_69 rfl ?_
        refine g_bipush (v := 30) hC dX12_ahead_70 (by decide) ?_
        refine g_known (fun hS => ?_)
        refine mG.st (st1 := ([.int 30] : List Value).reverse ++ .ref (xB X + 37) :: []) rfl ?_
        refine g_callV (As := [.int 30]) (st := []) hC (hS.2 _ (hT _ tg_M_37)) (by decide) ycl_12_X12_await yw_X12_await yv_X12_await tw_550 dX12_ahead_72 (fun _ h => h) (fun _ h => h) (fun h => h) (c_X12_await (d := 0) (Nat.le_refl _) hP hT hw) rfl (Nat.le_of_ble_eq_true rfl) (by omega) (by decide) (by decide) (kV fun s106 hw => ?_)
        refine g_aload_n hC dX12_ahead_75 rfl ?_
        refine g_dup hC dX12_ahead_76 rfl ?_
        refine g_getiSv (v := (mI s106 37 22)) hC fl_X12_121_12.s (hT _ tg_M_37) rfl dX12_ahead_77 ?_
        refine g_iconst (v := 1) hC dX12_ahead_80 (by decide) ?_
        refine g_iadd hC dX12_ahead_81 ?_
        refine g_putIS hC (fw_X12_121_12 _) (hT _ tg_M_37) rfl rfl dX12_ahead_82 ?_
        refine g_aload_n hC dX12_ahead_85 rfl ?_
        refine g_getrS hC fl_X12_117_12.s (hT _ tg_M_37) (hP _ pt_M_37_23) dX12_ahead_86 ?_
        refine g_aload_n hC dX12_ahead_89 rfl ?_
        refine g_getiSv (v := ((mI s106 37 22) + 1)) hC fl_X12_121_12.s (hT _ tg_M_37) (mI_sI_s _ _ _ _) dX12_ahead_90 ?_
        refine g_iconst (v := 0) hC dX12_ahead_93 (by decide) ?_
        have hin := hw.1
        replace hw := hw.2
        refine g_zastS (k := (Int32.toNatClampNeg ((mI s106 37 22) + 1))) hC (hT _ tg_M_48) rfl hin bz0 dX12_ahead_94 ?_
        refine g_goto (tgt := 117) hC dX12_ahead_95 rfl ?_
        refine g_iconst (v := 1) hC dX12_ahead_117 (by decide) ?_
        exact g_iret hC bz1 (by decide) (by decide) dX12_ahead_118 (fun _ => ⟨_, rfl, hw⟩)
    · replace hw := hw.2 c
      refine g_iconst (v := 0) hC dX12_ahead_48 (by decide) ?_
      exact g_iret hC bz0 (by decide) (by decide) dX12_ahead_49 (fun _ => ⟨_, rfl, hw⟩)
def w_X12_ahead_30 (Q : Int32 → Mem → Prop) (σ : Mem) : Prop := w_X12_ahead_35 Q 1 σ
set_option maxRecDepth 4000 in
set_option maxHeartbeats 2000000 in
theorem t_X12_ahead_30 {X : Cx} {d : Nat} (hC : mOK X cX12_ahead RX12 "ahead" (some .boolean) d 0 0) (hd : 1 ≤ d) (hN : ∀ i, i < 3 → i < xN X) (hP : ∀ e ∈ psM, e ∈ xP X) (hT : ∀ e ∈ tsM, e ∈ xT X) {Q : Int32 → Mem → Prop} {σ : Mem} (hw : w_X12_ahead_30 Q σ) : mG X 30 [(0, .ref (xB X + 37))] [] σ 0 0 (mQ X 0 0 (qI Q)) := by
  refine g_iconst (v := 1) hC dX12_ahead_30 (by decide) ?_
  refine g_goto (tgt := 35) hC dX12_ahead_31 rfl ?_
  refine mG.pick (lv' := [(0, .ref (xB X + 37))]) [0] rfl ?_
  exact t_X12_ahead_35 hC hd hN hP hT hw
def w_X12_ahead_34 (Q : Int32 → Mem → Prop) (σ : Mem) : Prop := w_X12_ahead_35 Q 0 σ
set_option maxRecDepth 4000 in
set_option maxHeartbeats 2000000 in
theorem t_X12_ahead_34 {X : Cx} {d : Nat} (hC : mOK X cX12_ahead RX12 "ahead" (some .boolean) d 0 0) (hd : 1 ≤ d) (hN : ∀ i, i < 3 → i < xN X) (hP : ∀ e ∈ psM, e ∈ xP X) (hT : ∀ e ∈ tsM, e ∈ xT X) {Q : Int32 → Mem → Prop} {σ : Mem} (hw : w_X12_ahead_34 Q σ) : mG X 34 [(0, .ref (xB X + 37))] [] σ 0 0 (mQ X 0 0 (qI Q)) := by
  refine g_iconst (v := 0) hC dX12_ahead_34 (by decide) ?_
  refine mG.pick (lv' := [(0, .ref (xB X + 37))]) [0] rfl ?_
  exact t_X12_ahead_35 hC hd hN hP hT hw
def w_X12_ahead (σ : Mem) (x1 : Int32) (Q : Int32 → Mem → Prop) : Prop := w_X12_isSign σ 40 (fun v101 s103 => (¬ v101 = 0 → (w_X12_ahead_30 Q s103)) ∧ (v101 = 0 → (w_X12_isSign s103 45 (fun v104 s106 => (¬ v104 = 0 → (w_X12_ahead_30 Q s106)) ∧ (v104 = 0 → ((x1 = 0 → (w_X12_ahead_34 Q s106)) ∧ (¬ x1 = 0 → (w_X12_isKey s106 5 (fun v107 s109 => (v107 = 0 → (w_X12_ahead_34 Q s109)) ∧ (¬ v107 = 0 → (w_X12_ahead_30 Q s109)))))))))))
set_option maxRecDepth 4000 in
set_option maxHeartbeats 2000000 in
theorem t_X12_ahead {X : Cx} {d : Nat} (hC : mOK X cX12_ahead RX12 "ahead" (some .boolean) d 0 0) (hd : 1 ≤ d) (hN : ∀ i, i < 3 → i < xN X) (hP : ∀ e ∈ psM, e ∈ xP X) (hT : ∀ e ∈ tsM, e ∈ xT X) {σ : Mem} {x1 : Int32} {Q : Int32 → Mem → Prop} (hw : w_X12_ahead σ x1 Q) : mG X 0 [(0, .ref (xB X + 37)), (1, .int x1)] [] σ 0 0 (mQ X 0 0 (qI Q)) := by
  refine g_aload_n hC dX12_ahead_0 rfl ?_
  refine g_bipush (v := 40) hC dX12_ahead_1 (by decide) ?_
  refine g_known (fun hS => ?_)
  refine mG.st (st1 := ([.int 40] : List Value).reverse ++ .ref (xB X + 37) :: []) rfl ?_
  refine g_callV (As := [.int 40]) (st := []) hC (hS.2 _ (hT _ tg_M_37)) (by decide) ycl_12_X12_isSign yw_X12_isSign yv_X12_isSign tw_539 dX12_ahead_3 (fun _ h => h) (fun _ h => h) (fun h => h) (c_X12_isSign (d := 0) (Nat.le_refl _) hP hT hw) rfl (Nat.le_of_ble_eq_true rfl) (by omega) (by decide) (by decide) (kI fun v101 s103 hw => ?_)
  refine g_if_ne (tgt := 30) hC dX12_ahead_6 rfl (fun c => ?_) (fun c => ?_)
  · replace hw := hw.1 c
    refine mG.pick (lv' := [(0, .ref (xB X + 37))]) [0] rfl ?_
    exact t_X12_ahead_30 hC hd hN hP hT hw
  · replace hw := hw.2 c
    refine g_aload_n hC dX12_ahead_9 rfl ?_
    refine g_bipush (v := 45) hC dX12_ahead_10 (by decide) ?_
    refine g_known (fun hS => ?_)
    refine mG.st (st1 := ([.int 45] : List Value).reverse ++ .ref (xB X + 37) :: []) rfl ?_
    refine g_callV (As := [.int 45]) (st := []) hC (hS.2 _ (hT _ tg_M_37)) (by decide) ycl_12_X12_isSign yw_X12_isSign yv_X12_isSign tw_539 dX12_ahead_12 (fun _ h => h) (fun _ h => h) (fun h => h) (c_X12_isSign (d := 0) (Nat.le_refl _) hP hT hw) rfl (Nat.le_of_ble_eq_true rfl) (by omega) (by decide) (by decide) (kI fun v104 s106 hw => ?_)
    refine g_if_ne (tgt := 30) hC dX12_ahead_15 rfl (fun c => ?_) (fun c => ?_)
    · replace hw := hw.1 c
      refine mG.pick (lv' := [(0, .ref (xB X + 37))]) [0] rfl ?_
      exact t_X12_ahead_30 hC hd hN hP hT hw
    · replace hw := hw.2 c
      refine g_iload_n hC dX12_ahead_18 rfl ?_
      refine g_if_eq (tgt := 34) hC dX12_ahead_19 rfl (fun c => ?_) (fun c => ?_)
      · replace hw := hw.1 c
        refine mG.pick (lv' := [(0, .ref (xB X + 37))]) [0] rfl ?_
        exact t_X12_ahead_34 hC hd hN hP hT hw
      · replace hw := hw.2 c
        refine g_aload_n hC dX12_ahead_22 rfl ?_
        refine g_iconst (v := 5) hC dX12_ahead_23 (by decide) ?_
        refine g_known (fun hS => ?_)
        refine mG.st (st1 := ([.int 5] : List Value).reverse ++ .ref (xB X + 37) :: []) rfl ?_
        refine g_callV (As := [.int 5]) (st := []) hC (hS.2 _ (hT _ tg_M_37)) (by decide) ycl_12_X12_isKey yw_X12_isKey yv_X12_isKey tw_540 dX12_ahead_24 (fun _ h => h) (fun _ h => h) (fun h => h) (c_X12_isKey (d := 0) (Nat.le_refl _) hP hT hw) rfl (Nat.le_of_ble_eq_true rfl) (by omega) (by decide) (by decide) (kI fun v107 s109 hw => ?_)
        refine g_if_eq (tgt := 34) hC dX12_ahead_27 rfl (fun c => ?_) (fun c => ?_)
        · replace hw := hw.1 c
          refine mG.pick (lv' := [(0, .ref (xB X + 37))]) [0] rfl ?_
          exact t_X12_ahead_34 hC hd hN hP hT hw
        · replace hw := hw.2 c
          refine mG.pick (lv' := [(0, .ref (xB X + 37))]) [0] rfl ?_
          exact t_X12_ahead_30 hC hd hN hP hT hw
set_option maxRecDepth 4000 in
theorem c_X12_ahead {Z : Fx} {ps ts : List (Nat × Nat × Nat)} {d : Nat} (hd : 1 ≤ d) (hP : ∀ e ∈ psM, e ∈ ps) (hT : ∀ e ∈ tsM, e ∈ ts) {σ : Mem} {x1 : Int32} {Q : Int32 → Mem → Prop} (hw : w_X12_ahead σ x1 Q) : mM Z ps ts yX12_ahead cX12_ahead 3 (some .boolean) d 0 0 [.ref (Z.2.2 + 37), .int x1] σ (qI Q) := by
  refine mM.of (by decide) (Nat.le_of_ble_eq_true rfl) rfl (fun X hZ hp ht hn hC => ?_)
  subst hZ; subst hp; subst ht
  exact t_X12_ahead hC hd (fun i h => by rw [hn]; exact h) hP hT hw
def w_X12_readE_208 (Q : Int32 → Mem → Prop) (K40 : Int32 → Int32 → Int32 → Mem → Prop) (x1 : Int32) (x2 : Int32) (x3 : Int32) (σ : Mem) : Prop := w_X12_next σ (fun s103 => K40 x1 x2 x3 s103)
set_option maxRecDepth 4000 in
set_option maxHeartbeats 2000000 in
theorem t_X12_readE_208 {X : Cx} {d : Nat} (hC : mOK X cX12_readE RX12 "readE" (some .boolean) d 0 0) (hd : 3 ≤ d) (hN : ∀ i, i < 5 → i < xN X) (hP : ∀ e ∈ psM, e ∈ xP X) (hT : ∀ e ∈ tsM, e ∈ xT X) {Q : Int32 → Mem → Prop} {K40 : Int32 → Int32 → Int32 → Mem → Prop} (hK40 : ∀ (x1 : Int32) (x2 : Int32) (x3 : Int32) (s : Mem), K40 x1 x2 x3 s → mG X 40 [(0, .ref (xB X + 37)), (1, .int x1), (2, .int x2), (3, .int x3)] [] s 0 0 (mQ X 0 0 (qI Q))) {x1 : Int32} {x2 : Int32} {x3 : Int32} {σ : Mem} (hw : w_X12_readE_208 Q K40 x1 x2 x3 σ) : mG X 208 [(0, .ref (xB X + 37)), (1, .int x1), (2, .int x2), (3, .int x3)] [] σ 0 0 (mQ X 0 0 (qI Q)) := by
  refine g_aload_n hC dX12_readE_208 rfl ?_
  refine g_known (fun hS => ?_)
  refine mG.st (st1 := ([] : List Value).reverse ++ .ref (xB X + 37) :: []) rfl ?_
  refine g_callV (As := []) (st := []) hC (hS.2 _ (hT _ tg_M_37)) (by decide) ycl_12_X12_next yw_X12_next yv_X12_next tw_569 dX12_readE_209 (fun _ h => h) (fun _ h => h) (fun h => h) (c_X12_next (d := 2) (Nat.le_refl _) hP hT hw) rfl (Nat.le_of_ble_eq_true rfl) (by omega) (by decide) (by decide) (kV fun s103 hw => ?_)
  refine g_goto (tgt := 40) hC dX12_readE_212 rfl ?_
  refine mG.pick (lv' := [(0, .ref (xB X + 37)), (1, .int x1), (2, .int x2), (3, .int x3)]) [0, 1, 2, 3] rfl ?_
  exact hK40 _ _ _ _ hw
def w_X12_readE_195 (Q : Int32 → Mem → Prop) (K40 : Int32 → Int32 → Int32 → Mem → Prop) (x1 : Int32) (x2 : Int32) (xy0 : Int32) (σ : Mem) : Prop := w_X12_readE_208 Q K40 x1 x2 xy0 σ
set_option maxRecDepth 4000 in
set_option maxHeartbeats 2000000 in
theorem t_X12_readE_195 {X : Cx} {d : Nat} (hC : mOK X cX12_readE RX12 "readE" (some .boolean) d 0 0) (hd : 3 ≤ d) (hN : ∀ i, i < 5 → i < xN X) (hP : ∀ e ∈ psM, e ∈ xP X) (hT : ∀ e ∈ tsM, e ∈ xT X) {Q : Int32 → Mem → Prop} {K40 : Int32 → Int32 → Int32 → Mem → Prop} (hK40 : ∀ (x1 : Int32) (x2 : Int32) (x3 : Int32) (s : Mem), K40 x1 x2 x3 s → mG X 40 [(0, .ref (xB X + 37)), (1, .int x1), (2, .int x2), (3, .int x3)] [] s 0 0 (mQ X 0 0 (qI Q))) {x1 : Int32} {x2 : Int32} {xy0 : Int32} {σ : Mem} (hw : w_X12_readE_195 Q K40 x1 x2 xy0 σ) : mG X 195 [(0, .ref (xB X + 37)), (1, .int x1), (2, .int x2)] [.int xy0] σ 0 0 (mQ X 0 0 (qI Q)) := by
  refine g_istore_n (lv' := [(3, .int xy0), (0, .ref (xB X + 37)), (1, .int x1), (2, .int x2)]) hC dX12_readE_195 (hN 3 (by decide)) rfl ?_
  refine g_goto (tgt := 208) hC dX12_readE_196 rfl ?_
  refine mG.pick (lv' := [(0, .ref (xB X + 37)), (1, .int x1), (2, .int x2), (3, .int xy0)]) [1, 2, 3, 0] rfl ?_
  exact t_X12_readE_208 hC hd hN hP hT hK40 hw
def w_X12_readE_190 (Q : Int32 → Mem → Prop) (K40 : Int32 → Int32 → Int32 → Mem → Prop) (x1 : Int32) (x2 : Int32) (σ : Mem) : Prop := w_X12_readE_195 Q K40 x1 x2 1 σ
set_option maxRecDepth 4000 in
set_option maxHeartbeats 2000000 in
theorem t_X12_readE_190 {X : Cx} {d : Nat} (hC : mOK X cX12_readE RX12 "readE" (some .boolean) d 0 0) (hd : 3 ≤ d) (hN : ∀ i, i < 5 → i < xN X) (hP : ∀ e ∈ psM, e ∈ xP X) (hT : ∀ e ∈ tsM, e ∈ xT X) {Q : Int32 → Mem → Prop} {K40 : Int32 → Int32 → Int32 → Mem → Prop} (hK40 : ∀ (x1 : Int32) (x2 : Int32) (x3 : Int32) (s : Mem), K40 x1 x2 x3 s → mG X 40 [(0, .ref (xB X + 37)), (1, .int x1), (2, .int x2), (3, .int x3)] [] s 0 0 (mQ X 0 0 (qI Q))) {x1 : Int32} {x2 : Int32} {σ : Mem} (hw : w_X12_readE_190 Q K40 x1 x2 σ) : mG X 190 [(0, .ref (xB X + 37)), (1, .int x1), (2, .int x2)] [] σ 0 0 (mQ X 0 0 (qI Q)) := by
  refine g_iconst (v := 1) hC dX12_readE_190 (by decide) ?_
  refine g_goto (tgt := 195) hC dX12_readE_191 rfl ?_
  refine mG.pick (lv' := [(0, .ref (xB X + 37)), (1, .int x1), (2, .int x2)]) [0, 1, 2] rfl ?_
  exact t_X12_readE_195 hC hd hN hP hT hK40 hw
def w_X12_readE_165 (Q : Int32 → Mem → Prop) (K40 : Int32 → Int32 → Int32 → Mem → Prop) (x1 : Int32) (x2 : Int32) (x3 : Int32) (σ : Mem) : Prop := w_X12_between σ (fun v101 s103 => (v101 = 0 → (w_X12_closes s103 (fun v104 s106 => (¬ v104 = 0 → (w_X12_readE_208 Q K40 x1 x2 x3 s106)) ∧ (v104 = 0 → (Q 0 s106))))) ∧ (¬ v101 = 0 → (w_X12_isKey s103 4 (fun v107 s109 => (¬ v107 = 0 → (w_X12_readE_190 Q K40 x1 1 s109)) ∧ (v107 = 0 → (w_X12_isKey s109 3 (fun v110 s112 => (v110 = 0 → (w_X12_readE_195 Q K40 x1 1 0 s112)) ∧ (¬ v110 = 0 → (w_X12_readE_190 Q K40 x1 1 s112)))))))))
set_option maxRecDepth 4000 in
set_option maxHeartbeats 2000000 in
theorem t_X12_readE_165 {X : Cx} {d : Nat} (hC : mOK X cX12_readE RX12 "readE" (some .boolean) d 0 0) (hd : 3 ≤ d) (hN : ∀ i, i < 5 → i < xN X) (hP : ∀ e ∈ psM, e ∈ xP X) (hT : ∀ e ∈ tsM, e ∈ xT X) {Q : Int32 → Mem → Prop} {K40 : Int32 → Int32 → Int32 → Mem → Prop} (hK40 : ∀ (x1 : Int32) (x2 : Int32) (x3 : Int32) (s : Mem), K40 x1 x2 x3 s → mG X 40 [(0, .ref (xB X + 37)), (1, .int x1), (2, .int x2), (3, .int x3)] [] s 0 0 (mQ X 0 0 (qI Q))) {x1 : Int32} {x2 : Int32} {x3 : Int32} {σ : Mem} (hw : w_X12_readE_165 Q K40 x1 x2 x3 σ) : mG X 165 [(0, .ref (xB X + 37)), (1, .int x1), (2, .int x2), (3, .int x3)] [] σ 0 0 (mQ X 0 0 (qI Q)) := by
  refine g_aload_n hC dX12_readE_165 rfl ?_
  refine g_known (fun hS => ?_)
  refine mG.st (st1 := ([] : List Value).reverse ++ .ref (xB X + 37) :: []) rfl ?_
  refine g_callV (As := []) (st := []) hC (hS.2 _ (hT _ tg_M_37)) (by decide) ycl_12_X12_between yw_X12_between yv_X12_between tw_561 dX12_readE_166 (fun _ h => h) (fun _ h => h) (fun h => h) (c_X12_between (d := 2) (Nat.le_refl _) hP hT hw) rfl (Nat.le_of_ble_eq_true rfl) (by omega) (by decide) (by decide) (kI fun v101 s103 hw => ?_)
  refine g_if_eq (tgt := 199) hC dX12_readE_169 rfl (fun c => ?_) (fun c => ?_)
  · replace hw := hw.1 c
    refine g_aload_n hC dX12_readE_199 rfl ?_
    refine g_known (fun hS => ?_)
    refine mG.st (st1 := ([] : List Value).reverse ++ .ref (xB X + 37) :: []) rfl ?_
    refine g_callV (As := []) (st := []) hC (hS.2 _ (hT _ tg_M_37)) (by decide) ycl_12_X12_closes yw_X12_closes yv_X12_closes tw_562 dX12_readE_200 (fun _ h => h) (fun _ h => h) (fun h => h) (c_X12_closes (d := 2) (Nat.le_refl _) hP hT hw) rfl (Nat.le_of_ble_eq_true rfl) (by omega) (by decide) (by decide) (kI fun v104 s106 hw => ?_)
    refine g_if_ne (tgt := 208) hC dX12_readE_203 rfl (fun c => ?_) (fun c => ?_)
    · replace hw := hw.1 c
      refine mG.pick (lv' := [(0, .ref (xB X + 37)), (1, .int x1), (2, .int x2), (3, .int x3)]) [0, 1, 2, 3] rfl ?_
      exact t_X12_readE_208 hC hd hN hP hT hK40 hw
    · replace hw := hw.2 c
      refine g_iconst (v := 0) hC dX12_readE_206 (by decide) ?_
      exact g_iret hC bz0 (by decide) (by decide) dX12_readE_207 (fun _ => ⟨_, rfl, hw⟩)
  · replace hw := hw.2 c
    refine g_iconst (v := 1) hC dX12_readE_172 (by decide) ?_
    refine g_istore_n (lv' := [(2, .int 1), (0, .ref (xB X + 37)), (1, .int x1), (3, .int x3)]) hC dX12_readE_173 (hN 2 (by decide)) rfl ?_
    refine g_aload_n hC dX12_readE_174 rfl ?_
    refine g_iconst (v := 4) hC dX12_readE_175 (by decide) ?_
    refine g_known (fun hS => ?_)
    refine mG.st (st1 := ([.int 4] : List Value).reverse ++ .ref (xB X + 37) :: []) rfl ?_
    refine g_callV (As := [.int 4]) (st := []) hC (hS.2 _ (hT _ tg_M_37)) (by decide) ycl_12_X12_isKey yw_X12_isKey yv_X12_isKey tw_540 dX12_readE_176 (fun _ h => h) (fun _ h => h) (fun h => h) (c_X12_isKey (d := 0) (Nat.le_refl _) hP hT hw) rfl (Nat.le_of_ble_eq_true rfl) (by omega) (by decide) (by decide) (kI fun v107 s109 hw => ?_)
    refine g_if_ne (tgt := 190) hC dX12_readE_179 rfl (fun c => ?_) (fun c => ?_)
    · replace hw := hw.1 c
      refine mG.pick (lv' := [(0, .ref (xB X + 37)), (1, .int x1), (2, .int 1)]) [1, 2, 0] rfl ?_
      exact t_X12_readE_190 hC hd hN hP hT hK40 hw
    · replace hw := hw.2 c
      refine g_aload_n hC dX12_readE_182 rfl ?_
      refine g_iconst (v := 3) hC dX12_readE_183 (by decide) ?_
      refine g_known (fun hS => ?_)
      refine mG.st (st1 := ([.int 3] : List Value).reverse ++ .ref (xB X + 37) :: []) rfl ?_
      refine g_callV (As := [.int 3]) (st := []) hC (hS.2 _ (hT _ tg_M_37)) (by decide) ycl_12_X12_isKey yw_X12_isKey yv_X12_isKey tw_540 dX12_readE_184 (fun _ h => h) (fun _ h => h) (fun h => h) (c_X12_isKey (d := 0) (Nat.le_refl _) hP hT hw) rfl (Nat.le_of_ble_eq_true rfl) (by omega) (by decide) (by decide) (kI fun v110 s112 hw => ?_)
      refine g_if_eq (tgt := 194) hC dX12_readE_187 rfl (fun c => ?_) (fun c => ?_)
      · replace hw := hw.1 c
        refine g_iconst (v := 0) hC dX12_readE_194 (by decide) ?_
        refine mG.pick (lv' := [(0, .ref (xB X + 37)), (1, .int x1), (2, .int 1)]) [1, 2, 0] rfl ?_
        exact t_X12_readE_195 hC hd hN hP hT hK40 hw
      · replace hw := hw.2 c
        refine mG.pick (lv' := [(0, .ref (xB X + 37)), (1, .int x1), (2, .int 1)]) [1, 2, 0] rfl ?_
        exact t_X12_readE_190 hC hd hN hP hT hK40 hw
def w_X12_readE_128 (Q : Int32 → Mem → Prop) (K40 : Int32 → Int32 → Int32 → Mem → Prop) (x1 : Int32) (x2 : Int32) (xy0 : Int32) (σ : Mem) : Prop := w_X12_readE_208 Q K40 x1 x2 xy0 σ
set_option maxRecDepth 4000 in
set_option maxHeartbeats 2000000 in
theorem t_X12_readE_128 {X : Cx} {d : Nat} (hC : mOK X cX12_readE RX12 "readE" (some .boolean) d 0 0) (hd : 3 ≤ d) (hN : ∀ i, i < 5 → i < xN X) (hP : ∀ e ∈ psM, e ∈ xP X) (hT : ∀ e ∈ tsM, e ∈ xT X) {Q : Int32 → Mem → Prop} {K40 : Int32 → Int32 → Int32 → Mem → Prop} (hK40 : ∀ (x1 : Int32) (x2 : Int32) (x3 : Int32) (s : Mem), K40 x1 x2 x3 s → mG X 40 [(0, .ref (xB X + 37)), (1, .int x1), (2, .int x2), (3, .int x3)] [] s 0 0 (mQ X 0 0 (qI Q))) {x1 : Int32} {x2 : Int32} {xy0 : Int32} {σ : Mem} (hw : w_X12_readE_128 Q K40 x1 x2 xy0 σ) : mG X 128 [(0, .ref (xB X + 37)), (1, .int x1), (2, .int x2)] [.int xy0] σ 0 0 (mQ X 0 0 (qI Q)) := by
  refine g_istore_n (lv' := [(3, .int xy0), (0, .ref (xB X + 37)), (1, .int x1), (2, .int x2)]) hC dX12_readE_128 (hN 3 (by decide)) rfl ?_
  refine g_goto (tgt := 208) hC dX12_readE_129 rfl ?_
  refine mG.pick (lv' := [(0, .ref (xB X + 37)), (1, .int x1), (2, .int x2), (3, .int xy0)]) [1, 2, 3, 0] rfl ?_
  exact t_X12_readE_208 hC hd hN hP hT hK40 hw
def w_X12_readE_96 (Q : Int32 → Mem → Prop) (K40 : Int32 → Int32 → Int32 → Mem → Prop) (x1 : Int32) (x2 : Int32) (x3 : Int32) (σ : Mem) : Prop := (x2 = 0 → (w_X12_isSign σ 59 (fun v101 s103 => (v101 = 0 → (w_X12_readE_165 Q K40 x1 x2 x3 s103)) ∧ (¬ v101 = 0 → ((¬ (mI s103 37 22) = 0 → (w_X12_readE_165 Q K40 x1 x2 x3 s103)) ∧ ((mI s103 37 22) = 0 → (w_X12_doAll s103 1 (fun s106 => vp_in x1 18 ∧ (Q 1 (sI s106 44 (Int32.toNatClampNeg x1) (mI s106 37 25))))))))))) ∧ (¬ x2 = 0 → (w_X12_isSign σ 45 (fun v107 s109 => w_X12_ahead s109 x3 (fun v110 s112 => (¬ v110 = 0 → ((¬ v107 = 0 → (w_X12_readE_128 Q K40 x1 x2 0 s112)) ∧ (v107 = 0 → (w_X12_readE_128 Q K40 x1 x2 1 s112)))) ∧ (v110 = 0 → (Q 0 s112))))))
set_option maxRecDepth 4000 in
set_option maxHeartbeats 2000000 in
theorem t_X12_readE_96 {X : Cx} {d : Nat} (hC : mOK X cX12_readE RX12 "readE" (some .boolean) d 0 0) (hd : 3 ≤ d) (hN : ∀ i, i < 5 → i < xN X) (hP : ∀ e ∈ psM, e ∈ xP X) (hT : ∀ e ∈ tsM, e ∈ xT X) {Q : Int32 → Mem → Prop} {K40 : Int32 → Int32 → Int32 → Mem → Prop} (hK40 : ∀ (x1 : Int32) (x2 : Int32) (x3 : Int32) (s : Mem), K40 x1 x2 x3 s → mG X 40 [(0, .ref (xB X + 37)), (1, .int x1), (2, .int x2), (3, .int x3)] [] s 0 0 (mQ X 0 0 (qI Q))) {x1 : Int32} {x2 : Int32} {x3 : Int32} {σ : Mem} (hw : w_X12_readE_96 Q K40 x1 x2 x3 σ) : mG X 96 [(0, .ref (xB X + 37)), (1, .int x1), (2, .int x2), (3, .int x3)] [] σ 0 0 (mQ X 0 0 (qI Q)) := by
  refine g_iload_n hC dX12_readE_96 rfl ?_
  refine g_if_eq (tgt := 132) hC dX12_readE_97 rfl (fun c => ?_) (fun c => ?_)
  · replace hw := hw.1 c
    refine g_aload_n hC dX12_readE_132 rfl ?_
    refine g_bipush (v := 59) hC dX12_readE_133 (by decide) ?_
    refine g_known (fun hS => ?_)
    refine mG.st (st1 := ([.int 59] : List Value).reverse ++ .ref (xB X + 37) :: []) rfl ?_
    refine g_callV (As := [.int 59]) (st := []) hC (hS.2 _ (hT _ tg_M_37)) (by decide) ycl_12_X12_isSign yw_X12_isSign yv_X12_isSign tw_539 dX12_readE_135 (fun _ h => h) (fun _ h => h) (fun h => h) (c_X12_isSign (d := 0) (Nat.le_refl _) hP hT hw) rfl (Nat.le_of_ble_eq_true rfl) (by omega) (by decide) (by decide) (kI fun v101 s103 hw => ?_)
    refine g_if_eq (tgt := 165) hC dX12_readE_138 rfl (fun c => ?_) (fun c => ?_)
    · replace hw := hw.1 c
      refine mG.pick (lv' := [(0, .ref (xB X + 37)), (1, .int x1), (2, .int x2), (3, .int x3)]) [0, 1, 2, 3] rfl ?_
      exact t_X12_readE_165 hC hd hN hP hT hK40 hw
    · replace hw := hw.2 c
      refine g_aload_n hC dX12_readE_141 rfl ?_
      refine g_getiSv (v := (mI s103 37 22)) hC fl_X12_121_12.s (hT _ tg_M_37) rfl dX12_readE_142 ?_
      refine g_if_ne (tgt := 165) hC dX12_readE_145 rfl (fun c => ?_) (fun c => ?_)
      · replace hw := hw.1 c
        refine mG.pick (lv' := [(0, .ref (xB X + 37)), (1, .int x1), (2, .int x2), (3, .int x3)]) [0, 1, 2, 3] rfl ?_
        exact t_X12_readE_165 hC hd hN hP hT hK40 hw
      · replace hw := hw.2 c
        refine g_aload_n hC dX12_readE_148 rfl ?_
        refine g_iconst (v := 1) hC dX12_readE_149 (by decide) ?_
        refine g_known (fun hS => ?_)
        refine mG.st (st1 := ([.int 1] : List Value).reverse ++ .ref (xB X + 37) :: []) rfl ?_
        refine g_callV (As := [.int 1]) (st := []) hC (hS.2 _ (hT _ tg_M_37)) (by decide) ycl_12_X12_doAll yw_X12_doAll yv_X12_doAll tw_549 dX12_readE_150 (fun _ h => h) (fun _ h => h) (fun h => h) (c_X12_doAll (d := 1) (Nat.le_refl _) hP hT hw) rfl (Nat.le_of_ble_eq_true rfl) (by omega) (by decide) (by decide) (kV fun s106 hw => ?_)
        refine g_aload_n hC dX12_readE_153 rfl ?_
        refine g_getrS hC fl_X12_134_12.s (hT _ tg_M_37) (hP _ pt_M_37_12) dX12_readE_154 ?_
        refine g_iload_n hC dX12_readE_157 rfl ?_
        refine g_aload_n hC dX12_readE_158 rfl ?_
        refine g_getiSv (v := (mI s106 37 25)) hC fl_X12_92_12.s (hT _ tg_M_37) rfl dX12_readE_159 ?_
        have hin := hw.1
        replace hw := hw.2
        refine g_iastS (k := (Int32.toNatClampNeg x1)) hC (hT _ tg_M_44) rfl hin dX12_readE_162 ?_
        refine g_iconst (v := 1) hC dX12_readE_163 (by decide) ?_
        exact g_iret hC bz1 (by decide) (by decide) dX12_readE_164 (fun _ => ⟨_, rfl, hw⟩)
  · replace hw := hw.2 c
    refine g_aload_n hC dX12_readE_100 rfl ?_
    refine g_bipush (v := 45) hC dX12_readE_101 (by decide) ?_
    refine g_known (fun hS => ?_)
    refine mG.st (st1 := ([.int 45] : List Value).reverse ++ .ref (xB X + 37) :: []) rfl ?_
    refine g_callV (As := [.int 45]) (st := []) hC (hS.2 _ (hT _ tg_M_37)) (by decide) ycl_12_X12_isSign yw_X12_isSign yv_X12_isSign tw_539 dX12_readE_103 (fun _ h => h) (fun _ h => h) (fun h => h) (c_X12_isSign (d := 0) (Nat.le_refl _) hP hT hw) rfl (Nat.le_of_ble_eq_true rfl) (by omega) (by decide) (by decide) (kI fun v107 s109 hw => ?_)
    refine g_istore (lv' := [(4, .int v107), (0, .ref (xB X + 37)), (1, .int x1), (2, .int x2), (3, .int x3)]) hC dX12_readE_106 (hN 4 (by decide)) rfl ?_
    refine g_aload_n hC dX12_readE_108 rfl ?_
    refine g_iload_n hC dX12_readE_109 rfl ?_
    refine g_known (fun hS => ?_)
    refine mG.st (st1 := ([.int x3] : List Value).reverse ++ .ref (xB X + 37) :: []) rfl ?_
    refine g_callV (As := [.int x3]) (st := []) hC (hS.2 _ (hT _ tg_M_37)) (by decide) ycl_12_X12_ahead yw_X12_ahead yv_X12_ahead tw_557 dX12_readE_110 (fun _ h => h) (fun _ h => h) (fun h => h) (c_X12_ahead (d := 1) (Nat.le_refl _) hP hT hw) rfl (Nat.le_of_ble_eq_true rfl) (by omega) (by decide) (by decide) (kI fun v110 s112 hw => ?_)
    refine g_if_ne (tgt := 118) hC dX12_readE_113 rfl (fun c => ?_) (fun c => ?_)
    · replace hw := hw.1 c
      refine g_iload hC dX12_readE_118 rfl ?_
      refine g_if_ne (tgt := 127) hC dX12_readE_120 rfl (fun c => ?_) (fun c => ?_)
      · replace hw := hw.1 c
        refine g_iconst (v := 0) hC dX12_readE_127 (by decide) ?_
        refine mG.pick (lv' := [(0, .ref (xB X + 37)), (1, .int x1), (2, .int x2)]) [1, 2, 3] rfl ?_
        exact t_X12_readE_128 hC hd hN hP hT hK40 hw
      · replace hw := hw.2 c
        refine g_iconst (v := 1) hC dX12_readE_123 (by decide) ?_
        refine g_goto (tgt := 128) hC dX12_readE_124 rfl ?_
        refine mG.pick (lv' := [(0, .ref (xB X + 37)), (1, .int x1), (2, .int x2)]) [1, 2, 3] rfl ?_
        exact t_X12_readE_128 hC hd hN hP hT hK40 hw
    · replace hw := hw.2 c
      refine g_iconst (v := 0) hC dX12_readE_116 (by decide) ?_
      exact g_iret hC bz0 (by decide) (by decide) dX12_readE_117 (fun _ => ⟨_, rfl, hw⟩)
def w_X12_readE_82 (Q : Int32 → Mem → Prop) (K40 : Int32 → Int32 → Int32 → Mem → Prop) (x1 : Int32) (x3 : Int32) (xy0 : Int32) (σ : Mem) : Prop := w_X12_emit σ xy0 (fun s103 => w_X12_doAll s103 7 (fun s106 => w_X12_readE_208 Q K40 x1 0 x3 s106))
set_option maxRecDepth 4000 in
set_option maxHeartbeats 2000000 in
theorem t_X12_readE_82 {X : Cx} {d : Nat} (hC : mOK X cX12_readE RX12 "readE" (some .boolean) d 0 0) (hd : 3 ≤ d) (hN : ∀ i, i < 5 → i < xN X) (hP : ∀ e ∈ psM, e ∈ xP X) (hT : ∀ e ∈ tsM, e ∈ xT X) {Q : Int32 → Mem → Prop} {K40 : Int32 → Int32 → Int32 → Mem → Prop} (hK40 : ∀ (x1 : Int32) (x2 : Int32) (x3 : Int32) (s : Mem), K40 x1 x2 x3 s → mG X 40 [(0, .ref (xB X + 37)), (1, .int x1), (2, .int x2), (3, .int x3)] [] s 0 0 (mQ X 0 0 (qI Q))) {x1 : Int32} {x3 : Int32} {xy0 : Int32} {σ : Mem} (hw : w_X12_readE_82 Q K40 x1 x3 xy0 σ) : mG X 82 [(0, .ref (xB X + 37)), (1, .int x1), (3, .int x3)] [.int xy0, .ref (xB X + 37)] σ 0 0 (mQ X 0 0 (qI Q)) := by
  refine g_known (fun hS => ?_)
  refine mG.st (st1 := ([.int xy0] : List Value).reverse ++ .ref (xB X + 37) :: []) rfl ?_
  refine g_callV (As := [.int xy0]) (st := []) hC (hS.2 _ (hT _ tg_M_37)) (by decide) ycl_12_X12_emit yw_X12_emit yv_X12_emit tw_535 dX12_readE_82 (fun _ h => h) (fun _ h => h) (fun h => h) (c_X12_emit (d := 0) (Nat.le_refl _) hP hT hw) rfl (Nat.le_of_ble_eq_true rfl) (by omega) (by decide) (by decide) (kV fun s103 hw => ?_)
  refine g_aload_n hC dX12_readE_85 rfl ?_
  refine g_bipush (v := 7) hC dX12_readE_86 (by decide) ?_
  refine g_known (fun hS => ?_)
  refine mG.st (st1 := ([.int 7] : List Value).reverse ++ .ref (xB X + 37) :: []) rfl ?_
  refine g_callV (As := [.int 7]) (st := []) hC (hS.2 _ (hT _ tg_M_37)) (by decide) ycl_12_X12_doAll yw_X12_doAll yv_X12_doAll tw_549 dX12_readE_88 (fun _ h => h) (fun _ h => h) (fun h => h) (c_X12_doAll (d := 1) (Nat.le_refl _) hP hT hw) rfl (Nat.le_of_ble_eq_true rfl) (by omega) (by decide) (by decide) (kV fun s106 hw => ?_)
  refine g_iconst (v := 0) hC dX12_readE_91 (by decide) ?_
  refine g_istore_n (lv' := [(2, .int 0), (0, .ref (xB X + 37)), (1, .int x1), (3, .int x3)]) hC dX12_readE_92 (hN 2 (by decide)) rfl ?_
  refine g_goto (tgt := 208) hC dX12_readE_93 rfl ?_
  refine mG.pick (lv' := [(0, .ref (xB X + 37)), (1, .int x1), (2, .int 0), (3, .int x3)]) [1, 2, 0, 3] rfl ?_
  exact t_X12_readE_208 hC hd hN hP hT hK40 hw
def w_X12_readE_60 (Q : Int32 → Mem → Prop) (K40 : Int32 → Int32 → Int32 → Mem → Prop) (x1 : Int32) (x3 : Int32) (σ : Mem) : Prop := (¬ (mI σ 37 14) = 1 → (w_X12_readE_82 Q K40 x1 x3 (mI σ 37 15) σ)) ∧ ((mI σ 37 14) = 1 → (w_X12_readE_82 Q K40 x1 x3 ((-1) - (mI σ 37 15)) σ))
set_option maxRecDepth 4000 in
set_option maxHeartbeats 2000000 in
theorem t_X12_readE_60 {X : Cx} {d : Nat} (hC : mOK X cX12_readE RX12 "readE" (some .boolean) d 0 0) (hd : 3 ≤ d) (hN : ∀ i, i < 5 → i < xN X) (hP : ∀ e ∈ psM, e ∈ xP X) (hT : ∀ e ∈ tsM, e ∈ xT X) {Q : Int32 → Mem → Prop} {K40 : Int32 → Int32 → Int32 → Mem → Prop} (hK40 : ∀ (x1 : Int32) (x2 : Int32) (x3 : Int32) (s : Mem), K40 x1 x2 x3 s → mG X 40 [(0, .ref (xB X + 37)), (1, .int x1), (2, .int x2), (3, .int x3)] [] s 0 0 (mQ X 0 0 (qI Q))) {x1 : Int32} {x3 : Int32} {σ : Mem} (hw : w_X12_readE_60 Q K40 x1 x3 σ) : mG X 60 [(0, .ref (xB X + 37)), (1, .int x1), (3, .int x3)] [] σ 0 0 (mQ X 0 0 (qI Q)) := by
  refine g_aload_n hC dX12_readE_60 rfl ?_
  refine g_aload_n hC dX12_readE_61 rfl ?_
  refine g_getiSv (v := (mI σ 37 14)) hC fl_X12_60_12.s (hT _ tg_M_37) rfl dX12_readE_62 ?_
  refine g_iconst (v := 1) hC dX12_readE_65 (by decide) ?_
  refine g_icmp_ne (tgt := 78) hC dX12_readE_66 rfl (fun c => ?_) (fun c => ?_)
  · replace hw := hw.1 c
    refine g_aload_n hC dX12_readE_78 rfl ?_
    refine g_getiSv (v := (mI σ 37 15)) hC fl_X12_73_12.s (hT _ tg_M_37) rfl dX12_readE_79 ?_
    refine mG.pick (lv' := [(0, .ref (xB X + 37)), (1, .int x1), (3, .int x3)]) [0, 1, 2] rfl ?_
    exact t_X12_readE_82 hC hd hN hP hT hK40 hw
  · replace hw := hw.2 c
    refine g_iconst (v := (-1)) hC dX12_readE_69 (by decide) ?_
    refine g_aload_n hC dX12_readE_70 rfl ?_
    refine g_getiSv (v := (mI σ 37 15)) hC fl_X12_73_12.s (hT _ tg_M_37) rfl dX12_readE_71 ?_
    refine g_isub hC dX12_readE_74 ?_
    refine g_goto (tgt := 82) hC dX12_readE_75 rfl ?_
    refine mG.pick (lv' := [(0, .ref (xB X + 37)), (1, .int x1), (3, .int x3)]) [0, 1, 2] rfl ?_
    exact t_X12_readE_82 hC hd hN hP hT hK40 hw
def w_X12_readE_40 (Q : Int32 → Mem → Prop) : Nat → Int32 → Int32 → Int32 → Mem → Prop
  | 0, _, _, _, _ => False
  | n + 1, x1, x2, x3, σ => (x2 = 0 → (w_X12_readE_96 Q (fun z0 z1 z2 z3 => w_X12_readE_40 Q n z0 z1 z2 z3) x1 x2 x3 σ)) ∧ (¬ x2 = 0 → (((mI σ 37 14) = 1 → (w_X12_readE_60 Q (fun z0 z1 z2 z3 => w_X12_readE_40 Q n z0 z1 z2 z3) x1 x3 σ)) ∧ (¬ (mI σ 37 14) = 1 → ((¬ (mI σ 37 14) = 2 → (w_X12_readE_96 Q (fun z0 z1 z2 z3 => w_X12_readE_40 Q n z0 z1 z2 z3) x1 x2 x3 σ)) ∧ ((mI σ 37 14) = 2 → (w_X12_readE_60 Q (fun z0 z1 z2 z3 => w_X12_readE_40 Q n z0 z1 z2 z3) x1 x3 σ))))))
set_option maxRecDepth 4000 in
set_option maxHeartbeats 2000000 in
theorem t_X12_readE_40 {X : Cx} {d : Nat} (hC : mOK X cX12_readE RX12 "readE" (some .boolean) d 0 0) (hd : 3 ≤ d) (hN : ∀ i, i < 5 → i < xN X) (hP : ∀ e ∈ psM, e ∈ xP X) (hT : ∀ e ∈ tsM, e ∈ xT X) {Q : Int32 → Mem → Prop} : ∀ (n : Nat) (x1 : Int32) (x2 : Int32) (x3 : Int32) (σ : Mem), w_X12_readE_40 Q n x1 x2 x3 σ → mG X 40 [(0, .ref (xB X + 37)), (1, .int x1), (2, .int x2), (3, .int x3)] [] σ 0 0 (mQ X 0 0 (qI Q)) := by
  intro n
  induction n with
  | zero => intro x1 x2 x3 σ hw; exact False.elim hw
  | succ n ih =>
    intro x1 x2 x3 σ hw
    rw [w_X12_readE_40] at hw
    refine g_iload_n hC dX12_readE_40 rfl ?_
    refine g_if_eq (tgt := 96) hC dX12_readE_41 rfl (fun c => ?_) (fun c => ?_)
    · replace hw := hw.1 c
      refine mG.pick (lv' := [(0, .ref (xB X + 37)), (1, .int x1), (2, .int x2), (3, .int x3)]) [0, 1, 2, 3] rfl ?_
      exact t_X12_readE_96 hC hd hN hP hT ih hw
    · replace hw := hw.2 c
      refine g_aload_n hC dX12_readE_44 rfl ?_
      refine g_getiSv (v := (mI σ 37 14)) hC fl_X12_60_12.s (hT _ tg_M_37) rfl dX12_readE_45 ?_
      refine g_iconst (v := 1) hC dX12_readE_48 (by decide) ?_
      refine g_icmp_eq (tgt := 60) hC dX12_readE_49 rfl (fun c => ?_) (fun c => ?_)
      · replace hw := hw.1 c
        refine mG.pick (lv' := [(0, .ref (xB X + 37)), (1, .int x1), (3, .int x3)]) [0, 1, 3] rfl ?_
        exact t_X12_readE_60 hC hd hN hP hT ih hw
      · replace hw := hw.2 c
        refine g_aload_n hC dX12_readE_52 rfl ?_
        refine g_getiSv (v := (mI σ 37 14)) hC fl_X12_60_12.s (hT _ tg_M_37) rfl dX12_readE_53 ?_
        refine g_iconst (v := 2) hC dX12_readE_56 (by decide) ?_
        refine g_icmp_ne (tgt := 96) hC dX12_readE_57 rfl (fun c => ?_) (fun c => ?_)
        · replace hw := hw.1 c
          refine mG.pick (lv' := [(0, .ref (xB X + 37)), (1, .int x1), (2, .int x2), (3, .int x3)]) [0, 1, 2, 3] rfl ?_
          exact t_X12_readE_96 hC hd hN hP hT ih hw
        · replace hw := hw.2 c
          refine mG.pick (lv' := [(0, .ref (xB X + 37)), (1, .int x1), (3, .int x3)]) [0, 1, 3] rfl ?_
          exact t_X12_readE_60 hC hd hN hP hT ih hw
def w_X12_readE (σ : Mem) (x1 : Int32) (Q : Int32 → Mem → Prop) : Prop := (∃ m101 : Nat, w_X12_readE_40 Q m101 x1 1 1 (sI (sI (sI (sI (sI (sI σ 37 24 (160 * x1)) 37 25 0) 37 20 0) 37 21 0) 37 22 0) 48 0 0))
set_option maxRecDepth 4000 in
set_option maxHeartbeats 2000000 in
theorem t_X12_readE {X : Cx} {d : Nat} (hC : mOK X cX12_readE RX12 "readE" (some .boolean) d 0 0) (hd : 3 ≤ d) (hN : ∀ i, i < 5 → i < xN X) (hP : ∀ e ∈ psM, e ∈ xP X) (hT : ∀ e ∈ tsM, e ∈ xT X) {σ : Mem} {x1 : Int32} {Q : Int32 → Mem → Prop} (hw : w_X12_readE σ x1 Q) : mG X 0 [(0, .ref (xB X + 37)), (1, .int x1)] [] σ 0 0 (mQ X 0 0 (qI Q)) := by
  refine g_aload_n hC dX12_readE_0 rfl ?_
  refine g_sipush (v := 160) hC dX12_readE_1 (by decide) ?_
  refine g_iload_n hC dX12_readE_4 rfl ?_
  refine g_imul hC dX12_readE_5 ?_
  refine g_putIS hC (fw_X12_89_12 _) (hT _ tg_M_37) rfl rfl dX12_readE_6 ?_
  refine g_aload_n hC dX12_readE_9 rfl ?_
  refine g_iconst (v := 0) hC dX12_readE_10 (by decide) ?_
  refine g_putIS hC (fw_X12_92_12 _) (hT _ tg_M_37) rfl rfl dX12_readE_11 ?_
  refine g_aload_n hC dX12_readE_14 rfl ?_
  refine g_iconst (v := 0) hC dX12_readE_15 (by decide) ?_
  refine g_putIS hC (fw_X12_95_12 _) (hT _ tg_M_37) rfl rfl dX12_readE_16 ?_
  refine g_aload_n hC dX12_readE_19 rfl ?_
  refine g_iconst (v := 0) hC dX12_readE_20 (by decide) ?_
  refine g_putIS hC (fw_X12_104_12 _) (hT _ tg_M_37) rfl rfl dX12_readE_21 ?_
  refine g_aload_n hC dX12_readE_24 rfl ?_
  refine g_iconst (v := 0) hC dX12_readE_25 (by decide) ?_
  refine g_putIS hC (fw_X12_121_12 _) (hT _ tg_M_37) rfl rfl dX12_readE_26 ?_
  refine g_aload_n hC dX12_readE_29 rfl ?_
  refine g_getrS hC fl_X12_117_12.s (hT _ tg_M_37) (hP _ pt_M_37_23) dX12_readE_30 ?_
  refine g_iconst (v := 0) hC dX12_readE_33 (by decide) ?_
  refine g_iconst (v := 0) hC dX12_readE_34 (by decide) ?_
  refine g_zastS (k := 0) hC (hT _ tg_M_48) (by decide) (vpl (by decide)) bz0 dX12_readE_35 ?_
  refine g_iconst (v := 1) hC dX12_readE_36 (by decide) ?_
  refine g_istore_n (lv' := [(2, .int 1), (0, .ref (xB X + 37)), (1, .int x1)]) hC dX12_readE_37 (hN 2 (by decide)) rfl ?_
  refine g_iconst (v := 1) hC dX12_readE_38 (by decide) ?_
  refine g_istore_n (lv' := [(3, .int 1), (2, .int 1), (0, .ref (xB X + 37)), (1, .int x1)]) hC dX12_readE_39 (hN 3 (by decide)) rfl ?_
  refine mG.pick (lv' := [(0, .ref (xB X + 37)), (1, .int x1), (2, .int 1), (3, .int 1)]) [2, 3, 1, 0] rfl ?_
  obtain ⟨m101, hw⟩ := hw
  exact t_X12_readE_40 hC hd hN hP hT m101 _ _ _ _ hw
set_option maxRecDepth 4000 in
theorem c_X12_readE {Z : Fx} {ps ts : List (Nat × Nat × Nat)} {d : Nat} (hd : 3 ≤ d) (hP : ∀ e ∈ psM, e ∈ ps) (hT : ∀ e ∈ tsM, e ∈ ts) {σ : Mem} {x1 : Int32} {Q : Int32 → Mem → Prop} (hw : w_X12_readE σ x1 Q) : mM Z ps ts yX12_readE cX12_readE 5 (some .boolean) d 0 0 [.ref (Z.2.2 + 37), .int x1] σ (qI Q) := by
  refine mM.of (by decide) (Nat.le_of_ble_eq_true rfl) rfl (fun X hZ hp ht hn hC => ?_)
  subst hZ; subst hp; subst ht
  exact t_X12_readE hC hd (fun i h => by rw [hn]; exact h) hP hT hw
def w_X12_readAll_7 (Q : Int32 → Mem → Prop) : Nat → Int32 → Int32 → Mem → Prop
  | 0, _, _, _ => False
  | n + 1, x1, x2, σ => (3 ≤ x2 → (w_X12_next σ (fun s103 => (¬ (mI s103 37 14) = 5 → (Q (mI s103 37 16) s103)) ∧ ((mI s103 37 14) = 5 → (Q (-1) s103))))) ∧ (¬ 3 ≤ x2 → (w_X12_next σ (fun s106 => w_X12_isKey s106 x2 (fun v107 s109 => (¬ v107 = 0 → (w_X12_next s109 (fun s112 => w_X12_readE s112 ((3 * x1) + x2) (fun v113 s115 => (¬ v113 = 0 → (w_X12_readAll_7 Q n x1 (x2 + 1) s115)) ∧ (v113 = 0 → (Q (mI s115 37 16) s115)))))) ∧ (v107 = 0 → (Q (mI s109 37 16) s109))))))
set_option maxRecDepth 4000 in
set_option maxHeartbeats 2000000 in
theorem t_X12_readAll_7 {X : Cx} {d : Nat} (hC : mOK X cX12_readAll RX12 "readAll" (some .int) d 0 0) (hd : 4 ≤ d) (hN : ∀ i, i < 3 → i < xN X) (hP : ∀ e ∈ psM, e ∈ xP X) (hT : ∀ e ∈ tsM, e ∈ xT X) {Q : Int32 → Mem → Prop} : ∀ (n : Nat) (x1 : Int32) (x2 : Int32) (σ : Mem), w_X12_readAll_7 Q n x1 x2 σ → mG X 7 [(0, .ref (xB X + 37)), (1, .int x1), (2, .int x2)] [] σ 0 0 (mQ X 0 0 (qI Q)) := by
  intro n
  induction n with
  | zero => intro x1 x2 σ hw; exact False.elim hw
  | succ n ih =>
    intro x1 x2 σ hw
    rw [w_X12_readAll_7] at hw
    refine g_iload_n hC dX12_readAll_7 rfl ?_
    refine g_iconst (v := 3) hC dX12_readAll_8 (by decide) ?_
    refine g_icmp_ge (tgt := 56) hC dX12_readAll_9 rfl (fun c => ?_) (fun c => ?_)
    · replace hw := hw.1 c
      refine g_aload_n hC dX12_readAll_56 rfl ?_
      refine g_known (fun hS => ?_)
      refine mG.st (st1 := ([] : List Value).reverse ++ .ref (xB X + 37) :: []) rfl ?_
      refine g_callV (As := []) (st := []) hC (hS.2 _ (hT _ tg_M_37)) (by decide) ycl_12_X12_next yw_X12_next yv_X12_next tw_569 dX12_readAll_57 (fun _ h => h) (fun _ h => h) (fun h => h) (c_X12_next (d := 2) (Nat.le_refl _) hP hT hw) rfl (Nat.le_of_ble_eq_true rfl) (by omega) (by decide) (by decide) (kV fun s103 hw => ?_)
      refine g_aload_n hC dX12_readAll_60 rfl ?_
      refine g_getiSv (v := (mI s103 37 14)) hC fl_X12_60_12.s (hT _ tg_M_37) rfl dX12_readAll_61 ?_
      refine g_iconst (v := 5) hC dX12_readAll_64 (by decide) ?_
      refine g_icmp_ne (tgt := 72) hC dX12_readAll_65 rfl (fun c => ?_) (fun c => ?_)
      · replace hw := hw.1 c
        refine g_aload_n hC dX12_readAll_72 rfl ?_
        refine g_getiSv (v := (mI s103 37 16)) hC fl_X12_66_12.s (hT _ tg_M_37) rfl dX12_readAll_73 ?_
        exact g_iret hC rfl (by decide) (by decide) dX12_readAll_76 (fun _ => ⟨_, rfl, hw⟩)
      · replace hw := hw.2 c
        refine g_iconst (v := (-1)) hC dX12_readAll_68 (by decide) ?_
        refine g_goto (tgt := 76) hC dX12_readAll_69 rfl ?_
        exact g_iret hC rfl (by decide) (by decide) dX12_readAll_76 (fun _ => ⟨_, rfl, hw⟩)
    · replace hw := hw.2 c
      refine g_aload_n hC dX12_readAll_12 rfl ?_
      refine g_known (fun hS => ?_)
      refine mG.st (st1 := ([] : List Value).reverse ++ .ref (xB X + 37) :: []) rfl ?_
      refine g_callV (As := []) (st := []) hC (hS.2 _ (hT _ tg_M_37)) (by decide) ycl_12_X12_next yw_X12_next yv_X12_next tw_569 dX12_readAll_13 (fun _ h => h) (fun _ h => h) (fun h => h) (c_X12_next (d := 2) (Nat.le_refl _) hP hT hw) rfl (Nat.le_of_ble_eq_true rfl) (by omega) (by decide) (by decide) (kV fun s106 hw => ?_)
      refine g_aload_n hC dX12_readAll_16 rfl ?_
      refine g_iload_n hC dX12_readAll_17 rfl ?_
      refine g_known (fun hS => ?_)
      refine mG.st (st1 := ([.int x2] : List Value).reverse ++ .ref (xB X + 37) :: []) rfl ?_
      refine g_callV (As := [.int x2]) (st := []) hC (hS.2 _ (hT _ tg_M_37)) (by decide) ycl_12_X12_isKey yw_X12_isKey yv_X12_isKey tw_540 dX12_readAll_18 (fun _ h => h) (fun _ h => h) (fun h => h) (c_X12_isKey (d := 0) (Nat.le_refl _) hP hT hw) rfl (Nat.le_of_ble_eq_true rfl) (by omega) (by decide) (by decide) (kI fun v107 s109 hw => ?_)
      refine g_if_ne (tgt := 29) hC dX12_readAll_21 rfl (fun c => ?_) (fun c => ?_)
      · replace hw := hw.1 c
        refine g_aload_n hC dX12_readAll_29 rfl ?_
        refine g_known (fun hS => ?_)
        refine mG.st (st1 := ([] : List Value).reverse ++ .ref (xB X + 37) :: []) rfl ?_
        refine g_callV (As := []) (st := []) hC (hS.2 _ (hT _ tg_M_37)) (by decide) ycl_12_X12_next yw_X12_next yv_X12_next tw_569 dX12_readAll_30 (fun _ h => h) (fun _ h => h) (fun h => h) (c_X12_next (d := 2) (Nat.le_refl _) hP hT hw) rfl (Nat.le_of_ble_eq_true rfl) (by omega) (by decide) (by decide) (kV fun s112 hw => ?_)
        refine g_aload_n hC dX12_readAll_33 rfl ?_
        refine g_iconst (v := 3) hC dX12_readAll_34 (by decide) ?_
        refine g_iload_n hC dX12_readAll_35 rfl ?_
        refine g_imul hC dX12_readAll_36 ?_
        refine g_iload_n hC dX12_readAll_37 rfl ?_
        refine g_iadd hC dX12_readAll_38 ?_
        refine g_known (fun hS => ?_)
        refine mG.st (st1 := ([.int ((3 * x1) + x2)] : List Value).reverse ++ .ref (xB X + 37) :: []) rfl ?_
        refine g_callV (As := [.int ((3 * x1) + x2)]) (st := []) hC (hS.2 _ (hT _ tg_M_37)) (by decide) ycl_12_X12_readE yw_X12_readE yv_X12_readE tw_573 dX12_readAll_39 (fun _ h => h) (fun _ h => h) (fun h => h) (c_X12_readE (d := 3) (Nat.le_refl _) hP hT hw) rfl (Nat.le_of_ble_eq_true rfl) (by omega) (by decide) (by decide) (kI fun v113 s115 hw => ?_)
        refine g_if_ne (tgt := 50) hC dX12_readAll_42 rfl (fun c => ?_) (fun c => ?_)
        · replace hw := hw.1 c
          refine g_iinc (v := x2 + 1) (lv' := [(2, .int (x2 + 1)), (0, .ref (xB X + 37)), (1, .int x1)]) hC dX12_readAll_50 rfl rfl (hN 2 (by decide)) rfl ?_
          refine g_goto (tgt := 7) hC dX12_readAll_53 rfl ?_
          refine mG.pick (lv' := [(0, .ref (xB X + 37)), (1, .int x1), (2, .int (x2 + 1))]) [1, 2, 0] rfl ?_
          exact ih _ _ _ hw
        · replace hw := hw.2 c
          refine g_aload_n hC dX12_readAll_45 rfl ?_
          refine g_getiSv (v := (mI s115 37 16)) hC fl_X12_66_12.s (hT _ tg_M_37) rfl dX12_readAll_46 ?_
          exact g_iret hC rfl (by decide) (by decide) dX12_readAll_49 (fun _ => ⟨_, rfl, hw⟩)
      · replace hw := hw.2 c
        refine g_aload_n hC dX12_readAll_24 rfl ?_
        refine g_getiSv (v := (mI s109 37 16)) hC fl_X12_66_12.s (hT _ tg_M_37) rfl dX12_readAll_25 ?_
        exact g_iret hC rfl (by decide) (by decide) dX12_readAll_28 (fun _ => ⟨_, rfl, hw⟩)
def w_X12_readAll (σ : Mem) (x1 : Int32) (Q : Int32 → Mem → Prop) : Prop := ∃ m101 : Nat, w_X12_readAll_7 Q m101 x1 0 (sI σ 37 13 0)
set_option maxRecDepth 4000 in
set_option maxHeartbeats 2000000 in
theorem t_X12_readAll {X : Cx} {d : Nat} (hC : mOK X cX12_readAll RX12 "readAll" (some .int) d 0 0) (hd : 4 ≤ d) (hN : ∀ i, i < 3 → i < xN X) (hP : ∀ e ∈ psM, e ∈ xP X) (hT : ∀ e ∈ tsM, e ∈ xT X) {σ : Mem} {x1 : Int32} {Q : Int32 → Mem → Prop} (hw : w_X12_readAll σ x1 Q) : mG X 0 [(0, .ref (xB X + 37)), (1, .int x1)] [] σ 0 0 (mQ X 0 0 (qI Q)) := by
  refine g_aload_n hC dX12_readAll_0 rfl ?_
  refine g_iconst (v := 0) hC dX12_readAll_1 (by decide) ?_
  refine g_putIS hC (fw_X12_54_12 _) (hT _ tg_M_37) rfl rfl dX12_readAll_2 ?_
  refine g_iconst (v := 0) hC dX12_readAll_5 (by decide) ?_
  refine g_istore_n (lv' := [(2, .int 0), (0, .ref (xB X + 37)), (1, .int x1)]) hC dX12_readAll_6 (hN 2 (by decide)) rfl ?_
  refine mG.pick (lv' := [(0, .ref (xB X + 37)), (1, .int x1), (2, .int 0)]) [1, 2, 0] rfl ?_
  obtain ⟨m101, hw⟩ := hw
  exact t_X12_readAll_7 hC hd hN hP hT m101 _ _ _ hw
set_option maxRecDepth 4000 in
theorem c_X12_readAll {Z : Fx} {ps ts : List (Nat × Nat × Nat)} {d : Nat} (hd : 4 ≤ d) (hP : ∀ e ∈ psM, e ∈ ps) (hT : ∀ e ∈ tsM, e ∈ ts) {σ : Mem} {x1 : Int32} {Q : Int32 → Mem → Prop} (hw : w_X12_readAll σ x1 Q) : mM Z ps ts yX12_readAll cX12_readAll 3 (some .int) d 0 0 [.ref (Z.2.2 + 37), .int x1] σ (qI Q) := by
  refine mM.of (by decide) (Nat.le_of_ble_eq_true rfl) rfl (fun X hZ hp ht hn hC => ?_)
  subst hZ; subst hp; subst ht
  exact t_X12_readAll hC hd (fun i h => by rw [hn]; exact h) hP hT hw
def w_X12_text (σ : Mem) (Q : Int32 → Mem → Prop) : Prop := (¬ (mI σ 37 9) = 6 → (w_X12_readAll σ (mI σ 37 9) (fun v101 s103 => (v101 = (-1) → (Q (((mI s103 37 9) + 1) - 1) (sI (sI s103 37 8 0) 37 9 ((mI s103 37 9) + 1)))) ∧ (¬ v101 = (-1) → (Q ((-100) - v101) (sI s103 37 8 0)))))) ∧ ((mI σ 37 9) = 6 → (Q (-4) σ))
set_option maxRecDepth 4000 in
set_option maxHeartbeats 2000000 in
theorem t_X12_text {X : Cx} {d : Nat} (hC : mOK X cX12_text RX12 "text" (some .int) d 0 0) (hd : 5 ≤ d) (hN : ∀ i, i < 2 → i < xN X) (hP : ∀ e ∈ psM, e ∈ xP X) (hT : ∀ e ∈ tsM, e ∈ xT X) {σ : Mem} {Q : Int32 → Mem → Prop} (hw : w_X12_text σ Q) : mG X 0 [(0, .ref (xB X + 37))] [] σ 0 0 (mQ X 0 0 (qI Q)) := by
  refine g_aload_n hC dX12_text_0 rfl ?_
  refine g_getiSv (v := (mI σ 37 9)) hC fl_X12_150_12.s (hT _ tg_M_37) rfl dX12_text_1 ?_
  refine g_bipush (v := 6) hC dX12_text_4 (by decide) ?_
  refine g_icmp_ne (tgt := 12) hC dX12_text_6 rfl (fun c => ?_) (fun c => ?_)
  · replace hw := hw.1 c
    refine g_aload_n hC dX12_text_12 rfl ?_
    refine g_aload_n hC dX12_text_13 rfl ?_
    refine g_getiSv (v := (mI σ 37 9)) hC fl_X12_150_12.s (hT _ tg_M_37) rfl dX12_text_14 ?_
    refine g_known (fun hS => ?_)
    refine mG.st (st1 := ([.int (mI σ 37 9)] : List Value).reverse ++ .ref (xB X + 37) :: []) rfl ?_
    refine g_callV (As := [.int (mI σ 37 9)]) (st := []) hC (hS.2 _ (hT _ tg_M_37)) (by decide) ycl_12_X12_readAll yw_X12_readAll yv_X12_readAll tw_577 dX12_text_17 (fun _ h => h) (fun _ h => h) (fun h => h) (c_X12_readAll (d := 4) (Nat.le_refl _) hP hT hw) rfl (Nat.le_of_ble_eq_true rfl) (by omega) (by decide) (by decide) (kI fun v101 s103 hw => ?_)
    refine g_istore_n (lv' := [(1, .int v101), (0, .ref (xB X + 37))]) hC dX12_text_20 (hN 1 (by decide)) rfl ?_
    refine g_aload_n hC dX12_text_21 rfl ?_
    refine g_iconst (v := 0) hC dX12_text_22 (by decide) ?_
    refine g_putIS hC (fw_X12_48_12 _) (hT _ tg_M_37) rfl rfl dX12_text_23 ?_
    refine g_iload_n hC dX12_text_26 rfl ?_
    refine g_iconst (v := (-1)) hC dX12_text_27 (by decide) ?_
    refine g_icmp_eq (tgt := 36) hC dX12_text_28 rfl (fun c => ?_) (fun c => ?_)
    · replace hw := hw.1 c
      refine g_aload_n hC dX12_text_36 rfl ?_
      refine g_dup hC dX12_text_37 rfl ?_
      refine g_getiSv (v := (mI s103 37 9)) hC fl_X12_150_12.s (hT _ tg_M_37) (mI_sI_k _ _ (by decide)) dX12_text_38 ?_
      refine g_iconst (v := 1) hC dX12_text_41 (by decide) ?_
      refine g_iadd hC dX12_text_42 ?_
      refine g_putIS hC (fw_X12_150_12 _) (hT _ tg_M_37) rfl rfl dX12_text_43 ?_
      refine g_aload_n hC dX12_text_46 rfl ?_
      refine g_getiSv (v := ((mI s103 37 9) + 1)) hC fl_X12_150_12.s (hT _ tg_M_37) (mI_sI_s _ _ _ _) dX12_text_47 ?_
      refine g_iconst (v := 1) hC dX12_text_50 (by decide) ?_
      refine g_isub hC dX12_text_51 ?_
      exact g_iret hC rfl (by decide) (by decide) dX12_text_52 (fun _ => ⟨_, rfl, hw⟩)
    · replace hw := hw.2 c
      refine g_bipush (v := (-100)) hC dX12_text_31 (by decide) ?_
      refine g_iload_n hC dX12_text_33 rfl ?_
      refine g_isub hC dX12_text_34 ?_
      exact g_iret hC rfl (by decide) (by decide) dX12_text_35 (fun _ => ⟨_, rfl, hw⟩)
  · replace hw := hw.2 c
    refine g_bipush (v := (-4)) hC dX12_text_9 (by decide) ?_
    exact g_iret hC rfl (by decide) (by decide) dX12_text_11 (fun _ => ⟨_, rfl, hw⟩)
set_option maxRecDepth 4000 in
theorem c_X12_text {Z : Fx} {ps ts : List (Nat × Nat × Nat)} {d : Nat} (hd : 5 ≤ d) (hP : ∀ e ∈ psM, e ∈ ps) (hT : ∀ e ∈ tsM, e ∈ ts) {σ : Mem} {Q : Int32 → Mem → Prop} (hw : w_X12_text σ Q) : mM Z ps ts yX12_text cX12_text 2 (some .int) d 0 0 [.ref (Z.2.2 + 37)] σ (qI Q) := by
  refine mM.of (by decide) (Nat.le_of_ble_eq_true rfl) rfl (fun X hZ hp ht hn hC => ?_)
  subst hZ; subst hp; subst ht
  exact t_X12_text hC hd (fun i h => by rw [hn]; exact h) hP hT hw
def w_X12_force (σ : Mem) (x1 : Int32) (Q : Int32 → Mem → Prop) : Prop := w_X12_isIn σ x1 0 ((mI σ 37 9) - 1) (fun v101 s103 => (¬ v101 = 0 → (Q (mI s103 37 10) (sI s103 37 10 x1))) ∧ (v101 = 0 → (Q (-2) s103)))
set_option maxRecDepth 4000 in
set_option maxHeartbeats 2000000 in
theorem t_X12_force {X : Cx} {d : Nat} (hC : mOK X cX12_force RX12 "force" (some .int) d 0 0) (hd : 1 ≤ d) (hN : ∀ i, i < 3 → i < xN X) (hP : ∀ e ∈ psM, e ∈ xP X) (hT : ∀ e ∈ tsM, e ∈ xT X) {σ : Mem} {x1 : Int32} {Q : Int32 → Mem → Prop} (hw : w_X12_force σ x1 Q) : mG X 0 [(0, .ref (xB X + 37)), (1, .int x1)] [] σ 0 0 (mQ X 0 0 (qI Q)) := by
  refine g_iload_n hC dX12_force_0 rfl ?_
  refine g_iconst (v := 0) hC dX12_force_1 (by decide) ?_
  refine g_aload_n hC dX12_force_2 rfl ?_
  refine g_getiSv (v := (mI σ 37 9)) hC fl_X12_150_12.s (hT _ tg_M_37) rfl dX12_force_3 ?_
  refine g_iconst (v := 1) hC dX12_force_6 (by decide) ?_
  refine g_isub hC dX12_force_7 ?_
  refine mG.st (st1 := ([.int x1, .int 0, .int ((mI σ 37 9) - 1)] : List Value).reverse ++ []) rfl ?_
  refine g_callS (As := [.int x1, .int 0, .int ((mI σ 37 9) - 1)]) (st := []) hC yw_X12_isIn ys_X12_isIn tw_465 dX12_force_8 (fun _ h => h) (fun _ h => h) (fun h => h) (c_X12_isIn (d := 0) (Nat.le_refl _) hw) rfl (Nat.le_of_ble_eq_true rfl) (by omega) (by decide) (by decide) (kI fun v101 s103 hw => ?_)
  refine g_if_ne (tgt := 17) hC dX12_force_11 rfl (fun c => ?_) (fun c => ?_)
  · replace hw := hw.1 c
    refine g_aload_n hC dX12_force_17 rfl ?_
    refine g_getiSv (v := (mI s103 37 10)) hC fl_X12_156_12.s (hT _ tg_M_37) rfl dX12_force_18 ?_
    refine g_istore_n (lv' := [(2, .int (mI s103 37 10)), (0, .ref (xB X + 37)), (1, .int x1)]) hC dX12_force_21 (hN 2 (by decide)) rfl ?_
    refine g_aload_n hC dX12_force_22 rfl ?_
    refine g_iload_n hC dX12_force_23 rfl ?_
    refine g_putIS hC (fw_X12_156_12 _) (hT _ tg_M_37) rfl rfl dX12_force_24 ?_
    refine g_iload_n hC dX12_force_27 rfl ?_
    exact g_iret hC rfl (by decide) (by decide) dX12_force_28 (fun _ => ⟨_, rfl, hw⟩)
  · replace hw := hw.2 c
    refine g_bipush (v := (-2)) hC dX12_force_14 (by decide) ?_
    exact g_iret hC rfl (by decide) (by decide) dX12_force_16 (fun _ => ⟨_, rfl, hw⟩)
set_option maxRecDepth 4000 in
theorem c_X12_force {Z : Fx} {ps ts : List (Nat × Nat × Nat)} {d : Nat} (hd : 1 ≤ d) (hP : ∀ e ∈ psM, e ∈ ps) (hT : ∀ e ∈ tsM, e ∈ ts) {σ : Mem} {x1 : Int32} {Q : Int32 → Mem → Prop} (hw : w_X12_force σ x1 Q) : mM Z ps ts yX12_force cX12_force 3 (some .int) d 0 0 [.ref (Z.2.2 + 37), .int x1] σ (qI Q) := by
  refine mM.of (by decide) (Nat.le_of_ble_eq_true rfl) rfl (fun X hZ hp ht hn hC => ?_)
  subst hZ; subst hp; subst ht
  exact t_X12_force hC hd (fun i h => by rw [hn]; exact h) hP hT hw
def w_X12_nameOn_97 (Q : Mem → Prop) (x2 : Int32) (xy0 : Int32) (xy1 : Int32) (xy2 : Int32) (xy3 : Int32) (σ : Mem) : Prop := w_X12_name σ xy3 xy2 xy1 xy0 x2 (fun s103 => Q s103)
set_option maxRecDepth 4000 in
set_option maxHeartbeats 2000000 in
theorem t_X12_nameOn_97 {X : Cx} {d : Nat} (hC : mOK X cX12_nameOn RX12 "nameOn" none d 0 0) (hd : 1 ≤ d) (hN : ∀ i, i < 5 → i < xN X) (hP : ∀ e ∈ psM, e ∈ xP X) (hT : ∀ e ∈ tsM, e ∈ xT X) {Q : Mem → Prop} {x2 : Int32} {xy0 : Int32} {xy1 : Int32} {xy2 : Int32} {xy3 : Int32} {σ : Mem} (hw : w_X12_nameOn_97 Q x2 xy0 xy1 xy2 xy3 σ) : mG X 97 [(2, .int x2)] [.int xy0, .int xy1, .int xy2, .int xy3, .ref (xB X + 37)] σ 0 0 (mQ X 0 0 (qV Q)) := by
  refine g_iload_n hC dX12_nameOn_97 rfl ?_
  refine g_known (fun hS => ?_)
  refine mG.st (st1 := ([.int xy3, .int xy2, .int xy1, .int xy0, .int x2] : List Value).reverse ++ .ref (xB X + 37) :: []) rfl ?_
  refine g_callV (As := [.int xy3, .int xy2, .int xy1, .int xy0, .int x2]) (st := []) hC (hS.2 _ (hT _ tg_M_37)) (by decide) ycl_12_X12_name yw_X12_name yv_X12_name tw_484 dX12_nameOn_98 (fun _ h => h) (fun _ h => h) (fun h => h) (c_X12_name (d := 0) (Nat.le_refl _) hP hT hw) rfl (Nat.le_of_ble_eq_true rfl) (by omega) (by decide) (by decide) (kV fun s103 hw => ?_)
  exact g_vret hC (by decide) (by decide) dX12_nameOn_101 (fun _ => ⟨rfl, hw⟩)
def w_X12_nameOn_83 (Q : Mem → Prop) (x2 : Int32) (x3 : Int32) (xy0 : Int32) (xy1 : Int32) (xy2 : Int32) (σ : Mem) : Prop := (x3 = 0 → (vp_in x2 8 ∧ (w_X12_nameOn_97 Q x2 (mI σ 51 (Int32.toNatClampNeg x2)) xy0 xy1 xy2 σ))) ∧ (¬ x3 = 0 → (w_X12_nameOn_97 Q x2 0 xy0 xy1 xy2 σ))
set_option maxRecDepth 4000 in
set_option maxHeartbeats 2000000 in
theorem t_X12_nameOn_83 {X : Cx} {d : Nat} (hC : mOK X cX12_nameOn RX12 "nameOn" none d 0 0) (hd : 1 ≤ d) (hN : ∀ i, i < 5 → i < xN X) (hP : ∀ e ∈ psM, e ∈ xP X) (hT : ∀ e ∈ tsM, e ∈ xT X) {Q : Mem → Prop} {x2 : Int32} {x3 : Int32} {xy0 : Int32} {xy1 : Int32} {xy2 : Int32} {σ : Mem} (hw : w_X12_nameOn_83 Q x2 x3 xy0 xy1 xy2 σ) : mG X 83 [(0, .ref (xB X + 37)), (2, .int x2), (3, .int x3)] [.int xy0, .int xy1, .int xy2, .ref (xB X + 37)] σ 0 0 (mQ X 0 0 (qV Q)) := by
  refine g_iload_n hC dX12_nameOn_83 rfl ?_
  refine g_if_eq (tgt := 91) hC dX12_nameOn_84 rfl (fun c => ?_) (fun c => ?_)
  · replace hw := hw.1 c
    refine g_aload_n hC dX12_nameOn_91 rfl ?_
    refine g_getrS hC fl_X12_170_12.s (hT _ tg_M_37) (hP _ pt_M_37_29) dX12_nameOn_92 ?_
    refine g_iload_n hC dX12_nameOn_95 rfl ?_
    refine g_ialdSv (v := (mI σ 51 (Int32.toNatClampNeg x2))) hC (hT _ tg_M_51) rfl hw.1 rfl dX12_nameOn_96 ?_
    replace hw := hw.2
    refine mG.pick (lv' := [(2, .int x2)]) [1] rfl ?_
    exact t_X12_nameOn_97 hC hd hN hP hT hw
  · replace hw := hw.2 c
    refine g_iconst (v := 0) hC dX12_nameOn_87 (by decide) ?_
    refine g_goto (tgt := 97) hC dX12_nameOn_88 rfl ?_
    refine mG.pick (lv' := [(2, .int x2)]) [1] rfl ?_
    exact t_X12_nameOn_97 hC hd hN hP hT hw
def w_X12_nameOn_68 (Q : Mem → Prop) (x2 : Int32) (x3 : Int32) (x4 : Int32) (xy0 : Int32) (xy1 : Int32) (σ : Mem) : Prop := (x3 = 0 → (vp_in x4 8 ∧ (w_X12_nameOn_83 Q x2 x3 (mI σ 39 (Int32.toNatClampNeg x4)) xy0 xy1 σ))) ∧ (¬ x3 = 0 → (w_X12_nameOn_83 Q x2 x3 0 xy0 xy1 σ))
set_option maxRecDepth 4000 in
set_option maxHeartbeats 2000000 in
theorem t_X12_nameOn_68 {X : Cx} {d : Nat} (hC : mOK X cX12_nameOn RX12 "nameOn" none d 0 0) (hd : 1 ≤ d) (hN : ∀ i, i < 5 → i < xN X) (hP : ∀ e ∈ psM, e ∈ xP X) (hT : ∀ e ∈ tsM, e ∈ xT X) {Q : Mem → Prop} {x2 : Int32} {x3 : Int32} {x4 : Int32} {xy0 : Int32} {xy1 : Int32} {σ : Mem} (hw : w_X12_nameOn_68 Q x2 x3 x4 xy0 xy1 σ) : mG X 68 [(0, .ref (xB X + 37)), (2, .int x2), (3, .int x3), (4, .int x4)] [.int xy0, .int xy1, .ref (xB X + 37)] σ 0 0 (mQ X 0 0 (qV Q)) := by
  refine g_iload_n hC dX12_nameOn_68 rfl ?_
  refine g_if_eq (tgt := 76) hC dX12_nameOn_69 rfl (fun c => ?_) (fun c => ?_)
  · replace hw := hw.1 c
    refine g_aload_n hC dX12_nameOn_76 rfl ?_
    refine g_getrS hC fl_X12_18_12.s (hT _ tg_M_37) (hP _ pt_M_37_2) dX12_nameOn_77 ?_
    refine g_iload hC dX12_nameOn_80 rfl ?_
    refine g_ialdSv (v := (mI σ 39 (Int32.toNatClampNeg x4))) hC (hT _ tg_M_39) rfl hw.1 rfl dX12_nameOn_82 ?_
    replace hw := hw.2
    refine mG.pick (lv' := [(0, .ref (xB X + 37)), (2, .int x2), (3, .int x3)]) [0, 1, 2] rfl ?_
    exact t_X12_nameOn_83 hC hd hN hP hT hw
  · replace hw := hw.2 c
    refine g_iconst (v := 0) hC dX12_nameOn_72 (by decide) ?_
    refine g_goto (tgt := 83) hC dX12_nameOn_73 rfl ?_
    refine mG.pick (lv' := [(0, .ref (xB X + 37)), (2, .int x2), (3, .int x3)]) [0, 1, 2] rfl ?_
    exact t_X12_nameOn_83 hC hd hN hP hT hw
def w_X12_nameOn_49 (Q : Mem → Prop) (x1 : Int32) (x2 : Int32) (x3 : Int32) (xy0 : Int32) (σ : Mem) : Prop := (x3 = 0 → (vp_in xy0 8 ∧ (w_X12_nameOn_68 Q x2 x3 xy0 (mI σ 38 (Int32.toNatClampNeg xy0)) x1 σ))) ∧ (¬ x3 = 0 → (w_X12_nameOn_68 Q x2 x3 xy0 0 x1 σ))
set_option maxRecDepth 4000 in
set_option maxHeartbeats 2000000 in
theorem t_X12_nameOn_49 {X : Cx} {d : Nat} (hC : mOK X cX12_nameOn RX12 "nameOn" none d 0 0) (hd : 1 ≤ d) (hN : ∀ i, i < 5 → i < xN X) (hP : ∀ e ∈ psM, e ∈ xP X) (hT : ∀ e ∈ tsM, e ∈ xT X) {Q : Mem → Prop} {x1 : Int32} {x2 : Int32} {x3 : Int32} {xy0 : Int32} {σ : Mem} (hw : w_X12_nameOn_49 Q x1 x2 x3 xy0 σ) : mG X 49 [(0, .ref (xB X + 37)), (1, .int x1), (2, .int x2), (3, .int x3)] [.int xy0] σ 0 0 (mQ X 0 0 (qV Q)) := by
  refine g_istore (lv' := [(4, .int xy0), (0, .ref (xB X + 37)), (1, .int x1), (2, .int x2), (3, .int x3)]) hC dX12_nameOn_49 (hN 4 (by decide)) rfl ?_
  refine g_aload_n hC dX12_nameOn_51 rfl ?_
  refine g_iload_n hC dX12_nameOn_52 rfl ?_
  refine g_iload_n hC dX12_nameOn_53 rfl ?_
  refine g_if_eq (tgt := 61) hC dX12_nameOn_54 rfl (fun c => ?_) (fun c => ?_)
  · replace hw := hw.1 c
    refine g_aload_n hC dX12_nameOn_61 rfl ?_
    refine g_getrS hC fl_X12_14_12.s (hT _ tg_M_37) (hP _ pt_M_37_1) dX12_nameOn_62 ?_
    refine g_iload hC dX12_nameOn_65 rfl ?_
    refine g_ialdSv (v := (mI σ 38 (Int32.toNatClampNeg xy0))) hC (hT _ tg_M_38) rfl hw.1 rfl dX12_nameOn_67 ?_
    replace hw := hw.2
    refine mG.pick (lv' := [(0, .ref (xB X + 37)), (2, .int x2), (3, .int x3), (4, .int xy0)]) [1, 3, 4, 0] rfl ?_
    exact t_X12_nameOn_68 hC hd hN hP hT hw
  · replace hw := hw.2 c
    refine g_iconst (v := 0) hC dX12_nameOn_57 (by decide) ?_
    refine g_goto (tgt := 68) hC dX12_nameOn_58 rfl ?_
    refine mG.pick (lv' := [(0, .ref (xB X + 37)), (2, .int x2), (3, .int x3), (4, .int xy0)]) [1, 3, 4, 0] rfl ?_
    exact t_X12_nameOn_68 hC hd hN hP hT hw
def w_X12_nameOn_22 (Q : Mem → Prop) (x1 : Int32) (x2 : Int32) (xy0 : Int32) (σ : Mem) : Prop := (xy0 = 0 → (vp_in x2 8 ∧ (vp_in (((8 * x2) + (mI σ 51 (Int32.toNatClampNeg x2))) - 1) 64 ∧ (w_X12_nameOn_49 Q x1 x2 xy0 (mI σ 52 (Int32.toNatClampNeg (((8 * x2) + (mI σ 51 (Int32.toNatClampNeg x2))) - 1))) σ)))) ∧ (¬ xy0 = 0 → (w_X12_nameOn_49 Q x1 x2 xy0 0 σ))
set_option maxRecDepth 4000 in
set_option maxHeartbeats 2000000 in
theorem t_X12_nameOn_22 {X : Cx} {d : Nat} (hC : mOK X cX12_nameOn RX12 "nameOn" none d 0 0) (hd : 1 ≤ d) (hN : ∀ i, i < 5 → i < xN X) (hP : ∀ e ∈ psM, e ∈ xP X) (hT : ∀ e ∈ tsM, e ∈ xT X) {Q : Mem → Prop} {x1 : Int32} {x2 : Int32} {xy0 : Int32} {σ : Mem} (hw : w_X12_nameOn_22 Q x1 x2 xy0 σ) : mG X 22 [(0, .ref (xB X + 37)), (1, .int x1), (2, .int x2)] [.int xy0] σ 0 0 (mQ X 0 0 (qV Q)) := by
  refine g_istore_n (lv' := [(3, .int xy0), (0, .ref (xB X + 37)), (1, .int x1), (2, .int x2)]) hC dX12_nameOn_22 (hN 3 (by decide)) rfl ?_
  refine g_iload_n hC dX12_nameOn_23 rfl ?_
  refine g_if_eq (tgt := 31) hC dX12_nameOn_24 rfl (fun c => ?_) (fun c => ?_)
  · replace hw := hw.1 c
    refine g_aload_n hC dX12_nameOn_31 rfl ?_
    refine g_getrS hC fl_X12_173_12.s (hT _ tg_M_37) (hP _ pt_M_37_30) dX12_nameOn_32 ?_
    refine g_bipush (v := 8) hC dX12_nameOn_35 (by decide) ?_
    refine g_iload_n hC dX12_nameOn_37 rfl ?_
    refine g_imul hC dX12_nameOn_38 ?_
    refine g_aload_n hC dX12_nameOn_39 rfl ?_
    refine g_getrS hC fl_X12_170_12.s (hT _ tg_M_37) (hP _ pt_M_37_29) dX12_nameOn_40 ?_
    refine g_iload_n hC dX12_nameOn_43 rfl ?_
    refine g_ialdSv (v := (mI σ 51 (Int32.toNatClampNeg x2))) hC (hT _ tg_M_51) rfl hw.1 rfl dX12_nameOn_44 ?_
    replace hw := hw.2
    refine g_iadd hC dX12_nameOn_45 ?_
    refine g_iconst (v := 1) hC dX12_nameOn_46 (by decide) ?_
    refine g_isub hC dX12_nameOn_47 ?_
    refine g_ialdSv (v := (mI σ 52 (Int32.toNatClampNeg (((8 * x2) + (mI σ 51 (Int32.toNatClampNeg x2))) - 1)))) hC (hT _ tg_M_52) rfl hw.1 rfl dX12_nameOn_48 ?_
    replace hw := hw.2
    refine mG.pick (lv' := [(0, .ref (xB X + 37)), (1, .int x1), (2, .int x2), (3, .int xy0)]) [1, 2, 3, 0] rfl ?_
    exact t_X12_nameOn_49 hC hd hN hP hT hw
  · replace hw := hw.2 c
    refine g_iconst (v := 0) hC dX12_nameOn_27 (by decide) ?_
    refine g_goto (tgt := 49) hC dX12_nameOn_28 rfl ?_
    refine mG.pick (lv' := [(0, .ref (xB X + 37)), (1, .int x1), (2, .int x2), (3, .int xy0)]) [1, 2, 3, 0] rfl ?_
    exact t_X12_nameOn_49 hC hd hN hP hT hw
def w_X12_nameOn_17 (Q : Mem → Prop) (x1 : Int32) (x2 : Int32) (σ : Mem) : Prop := w_X12_nameOn_22 Q x1 x2 1 σ
set_option maxRecDepth 4000 in
set_option maxHeartbeats 2000000 in
theorem t_X12_nameOn_17 {X : Cx} {d : Nat} (hC : mOK X cX12_nameOn RX12 "nameOn" none d 0 0) (hd : 1 ≤ d) (hN : ∀ i, i < 5 → i < xN X) (hP : ∀ e ∈ psM, e ∈ xP X) (hT : ∀ e ∈ tsM, e ∈ xT X) {Q : Mem → Prop} {x1 : Int32} {x2 : Int32} {σ : Mem} (hw : w_X12_nameOn_17 Q x1 x2 σ) : mG X 17 [(0, .ref (xB X + 37)), (1, .int x1), (2, .int x2)] [] σ 0 0 (mQ X 0 0 (qV Q)) := by
  refine g_iconst (v := 1) hC dX12_nameOn_17 (by decide) ?_
  refine g_goto (tgt := 22) hC dX12_nameOn_18 rfl ?_
  refine mG.pick (lv' := [(0, .ref (xB X + 37)), (1, .int x1), (2, .int x2)]) [0, 1, 2] rfl ?_
  exact t_X12_nameOn_22 hC hd hN hP hT hw
def w_X12_nameOn (σ : Mem) (x1 : Int32) (x2 : Int32) (Q : Mem → Prop) : Prop := (x2 = (mI σ 37 28) → (w_X12_nameOn_17 Q x1 x2 σ)) ∧ (¬ x2 = (mI σ 37 28) → (vp_in x2 8 ∧ ((¬ (mI σ 51 (Int32.toNatClampNeg x2)) = 0 → (w_X12_nameOn_22 Q x1 x2 0 σ)) ∧ ((mI σ 51 (Int32.toNatClampNeg x2)) = 0 → (w_X12_nameOn_17 Q x1 x2 σ)))))
set_option maxRecDepth 4000 in
set_option maxHeartbeats 2000000 in
theorem t_X12_nameOn {X : Cx} {d : Nat} (hC : mOK X cX12_nameOn RX12 "nameOn" none d 0 0) (hd : 1 ≤ d) (hN : ∀ i, i < 5 → i < xN X) (hP : ∀ e ∈ psM, e ∈ xP X) (hT : ∀ e ∈ tsM, e ∈ xT X) {σ : Mem} {x1 : Int32} {x2 : Int32} {Q : Mem → Prop} (hw : w_X12_nameOn σ x1 x2 Q) : mG X 0 [(0, .ref (xB X + 37)), (1, .int x1), (2, .int x2)] [] σ 0 0 (mQ X 0 0 (qV Q)) := by
  refine g_iload_n hC dX12_nameOn_0 rfl ?_
  refine g_aload_n hC dX12_nameOn_1 rfl ?_
  refine g_getiSv (v := (mI σ 37 28)) hC fl_X12_225_12.s (hT _ tg_M_37) rfl dX12_nameOn_2 ?_
  refine g_icmp_eq (tgt := 17) hC dX12_nameOn_5 rfl (fun c => ?_) (fun c => ?_)
  · replace hw := hw.1 c
    refine mG.pick (lv' := [(0, .ref (xB X + 37)), (1, .int x1), (2, .int x2)]) [0, 1, 2] rfl ?_
    exact t_X12_nameOn_17 hC hd hN hP hT hw
  · replace hw := hw.2 c
    refine g_aload_n hC dX12_nameOn_8 rfl ?_
    refine g_getrS hC fl_X12_170_12.s (hT _ tg_M_37) (hP _ pt_M_37_29) dX12_nameOn_9 ?_
    refine g_iload_n hC dX12_nameOn_12 rfl ?_
    refine g_ialdSv (v := (mI σ 51 (Int32.toNatClampNeg x2))) hC (hT _ tg_M_51) rfl hw.1 rfl dX12_nameOn_13 ?_
    replace hw := hw.2
    refine g_if_ne (tgt := 21) hC dX12_nameOn_14 rfl (fun c => ?_) (fun c => ?_)
    · replace hw := hw.1 c
      refine g_iconst (v := 0) hC dX12_nameOn_21 (by decide) ?_
      refine mG.pick (lv' := [(0, .ref (xB X + 37)), (1, .int x1), (2, .int x2)]) [0, 1, 2] rfl ?_
      exact t_X12_nameOn_22 hC hd hN hP hT hw
    · replace hw := hw.2 c
      refine mG.pick (lv' := [(0, .ref (xB X + 37)), (1, .int x1), (2, .int x2)]) [0, 1, 2] rfl ?_
      exact t_X12_nameOn_17 hC hd hN hP hT hw
set_option maxRecDepth 4000 in
theorem c_X12_nameOn {Z : Fx} {ps ts : List (Nat × Nat × Nat)} {d : Nat} (hd : 1 ≤ d) (hP : ∀ e ∈ psM, e ∈ ps) (hT : ∀ e ∈ tsM, e ∈ ts) {σ : Mem} {x1 : Int32} {x2 : Int32} {Q : Mem → Prop} (hw : w_X12_nameOn σ x1 x2 Q) : mM Z ps ts yX12_nameOn cX12_nameOn 5 none d 0 0 [.ref (Z.2.2 + 37), .int x1, .int x2] σ (qV Q) := by
  refine mM.of (by decide) (Nat.le_of_ble_eq_true rfl) rfl (fun X hZ hp ht hn hC => ?_)
  subst hZ; subst hp; subst ht
  exact t_X12_nameOn hC hd (fun i h => by rw [hn]; exact h) hP hT hw
def w_X12_mayLie (σ : Mem) (x1 : Int32) (x2 : Int32) (Q : Int32 → Mem → Prop) : Prop := vp_in x2 8 ∧ (((mI σ 51 (Int32.toNatClampNeg x2)) < (mI σ 37 6) → (w_X12_nameOn σ x1 x2 (fun s103 => vp_in x2 8 ∧ (((mI s103 51 (Int32.toNatClampNeg x2)) = 0 → (Q 1 s103)) ∧ (¬ (mI s103 51 (Int32.toNatClampNeg x2)) = 0 → (w_X12_worthOf s103 0 (fun v104 s106 => (v104 = 0 → (Q 0 s106)) ∧ (¬ v104 = 0 → (Q 1 s106))))))))) ∧ (¬ (mI σ 51 (Int32.toNatClampNeg x2)) < (mI σ 37 6) → (Q 0 σ)))
set_option maxRecDepth 4000 in
set_option maxHeartbeats 2000000 in
theorem t_X12_mayLie {X : Cx} {d : Nat} (hC : mOK X cX12_mayLie RX12 "mayLie" (some .boolean) d 0 0) (hd : 2 ≤ d) (hN : ∀ i, i < 3 → i < xN X) (hP : ∀ e ∈ psM, e ∈ xP X) (hT : ∀ e ∈ tsM, e ∈ xT X) {σ : Mem} {x1 : Int32} {x2 : Int32} {Q : Int32 → Mem → Prop} (hw : w_X12_mayLie σ x1 x2 Q) : mG X 0 [(0, .ref (xB X + 37)), (1, .int x1), (2, .int x2)] [] σ 0 0 (mQ X 0 0 (qI Q)) := by
  refine g_aload_n hC dX12_mayLie_0 rfl ?_
  refine g_getrS hC fl_X12_170_12.s (hT _ tg_M_37) (hP _ pt_M_37_29) dX12_mayLie_1 ?_
  refine g_iload_n hC dX12_mayLie_4 rfl ?_
  refine g_ialdSv (v := (mI σ 51 (Int32.toNatClampNeg x2))) hC (hT _ tg_M_51) rfl hw.1 rfl dX12_mayLie_5 ?_
  replace hw := hw.2
  refine g_aload_n hC dX12_mayLie_6 rfl ?_
  refine g_getiSv (v := (mI σ 37 6)) hC fl_X12_31_12.s (hT _ tg_M_37) rfl dX12_mayLie_7 ?_
  refine g_icmp_lt (tgt := 15) hC dX12_mayLie_10 rfl (fun c => ?_) (fun c => ?_)
  · replace hw := hw.1 c
    refine g_aload_n hC dX12_mayLie_15 rfl ?_
    refine g_iload_n hC dX12_mayLie_16 rfl ?_
    refine g_iload_n hC dX12_mayLie_17 rfl ?_
    refine g_known (fun hS => ?_)
    refine mG.st (st1 := ([.int x1, .int x2] : List Value).reverse ++ .ref (xB X + 37) :: []) rfl ?_
    refine g_callV (As := [.int x1, .int x2]) (st := []) hC (hS.2 _ (hT _ tg_M_37)) (by decide) ycl_12_X12_nameOn yw_X12_nameOn yv_X12_nameOn tw_585 dX12_mayLie_18 (fun _ h => h) (fun _ h => h) (fun h => h) (c_X12_nameOn (d := 1) (Nat.le_refl _) hP hT hw) rfl (Nat.le_of_ble_eq_true rfl) (by omega) (by decide) (by decide) (kV fun s103 hw => ?_)
    refine g_aload_n hC dX12_mayLie_21 rfl ?_
    refine g_getrS hC fl_X12_170_12.s (hT _ tg_M_37) (hP _ pt_M_37_29) dX12_mayLie_22 ?_
    refine g_iload_n hC dX12_mayLie_25 rfl ?_
    refine g_ialdSv (v := (mI s103 51 (Int32.toNatClampNeg x2))) hC (hT _ tg_M_51) rfl hw.1 rfl dX12_mayLie_26 ?_
    replace hw := hw.2
    refine g_if_eq (tgt := 38) hC dX12_mayLie_27 rfl (fun c => ?_) (fun c => ?_)
    · replace hw := hw.1 c
      refine g_iconst (v := 1) hC dX12_mayLie_38 (by decide) ?_
      refine g_goto (tgt := 43) hC dX12_mayLie_39 rfl ?_
      exact g_iret hC bz1 (by decide) (by decide) dX12_mayLie_43 (fun _ => ⟨_, rfl, hw⟩)
    · replace hw := hw.2 c
      refine g_aload_n hC dX12_mayLie_30 rfl ?_
      refine g_iconst (v := 0) hC dX12_mayLie_31 (by decide) ?_
      refine g_known (fun hS => ?_)
      refine mG.st (st1 := ([.int 0] : List Value).reverse ++ .ref (xB X + 37) :: []) rfl ?_
      refine g_callV (As := [.int 0]) (st := []) hC (hS.2 _ (hT _ tg_M_37)) (by decide) ycl_12_X12_worthOf yw_X12_worthOf yv_X12_worthOf tw_486 dX12_mayLie_32 (fun _ h => h) (fun _ h => h) (fun h => h) (c_X12_worthOf (d := 1) (Nat.le_refl _) hP hT hw) rfl (Nat.le_of_ble_eq_true rfl) (by omega) (by decide) (by decide) (kI fun v104 s106 hw => ?_)
      refine g_if_eq (tgt := 42) hC dX12_mayLie_35 rfl (fun c => ?_) (fun c => ?_)
      · replace hw := hw.1 c
        refine g_iconst (v := 0) hC dX12_mayLie_42 (by decide) ?_
        exact g_iret hC bz0 (by decide) (by decide) dX12_mayLie_43 (fun _ => ⟨_, rfl, hw⟩)
      · replace hw := hw.2 c
        refine g_iconst (v := 1) hC dX12_mayLie_38 (by decide) ?_
        refine g_goto (tgt := 43) hC dX12_mayLie_39 rfl ?_
        exact g_iret hC bz1 (by decide) (by decide) dX12_mayLie_43 (fun _ => ⟨_, rfl, hw⟩)
  · replace hw := hw.2 c
    refine g_iconst (v := 0) hC dX12_mayLie_13 (by decide) ?_
    exact g_iret hC bz0 (by decide) (by decide) dX12_mayLie_14 (fun _ => ⟨_, rfl, hw⟩)
set_option maxRecDepth 4000 in
theorem c_X12_mayLie {Z : Fx} {ps ts : List (Nat × Nat × Nat)} {d : Nat} (hd : 2 ≤ d) (hP : ∀ e ∈ psM, e ∈ ps) (hT : ∀ e ∈ tsM, e ∈ ts) {σ : Mem} {x1 : Int32} {x2 : Int32} {Q : Int32 → Mem → Prop} (hw : w_X12_mayLie σ x1 x2 Q) : mM Z ps ts yX12_mayLie cX12_mayLie 3 (some .boolean) d 0 0 [.ref (Z.2.2 + 37), .int x1, .int x2] σ (qI Q) := by
  refine mM.of (by decide) (Nat.le_of_ble_eq_true rfl) rfl (fun X hZ hp ht hn hC => ?_)
  subst hZ; subst hp; subst ht
  exact t_X12_mayLie hC hd (fun i h => by rw [hn]; exact h) hP hT hw
def w_X12_put_25 (Q : Mem → Prop) (x1 : Int32) (x2 : Int32) (σ : Mem) : Prop := vp_in x2 8 ∧ (vp_in ((8 * x2) + (mI σ 51 (Int32.toNatClampNeg x2))) 64 ∧ (vp_in x2 8 ∧ (∀ v101 : Int32, v101 = ((mI σ 51 (Int32.toNatClampNeg x2)) + 1) → (vp_in x2 8 ∧ (Q (sI (sI σ 52 (Int32.toNatClampNeg ((8 * x2) + (mI σ 51 (Int32.toNatClampNeg x2)))) x1) 51 (Int32.toNatClampNeg x2) v101))))))
set_option maxRecDepth 4000 in
set_option maxHeartbeats 2000000 in
theorem t_X12_put_25 {X : Cx} {d : Nat} (hC : mOK X cX12_put RX12 "put" none d 0 0) (hd : 0 ≤ d) (hN : ∀ i, i < 3 → i < xN X) (hP : ∀ e ∈ psM, e ∈ xP X) (hT : ∀ e ∈ tsM, e ∈ xT X) {Q : Mem → Prop} {x1 : Int32} {x2 : Int32} {σ : Mem} (hw : w_X12_put_25 Q x1 x2 σ) : mG X 25 [(0, .ref (xB X + 37)), (1, .int x1), (2, .int x2)] [] σ 0 0 (mQ X 0 0 (qV Q)) := by
  refine g_aload_n hC dX12_put_25 rfl ?_
  refine g_getrS hC fl_X12_173_12.s (hT _ tg_M_37) (hP _ pt_M_37_30) dX12_put_26 ?_
  refine g_bipush (v := 8) hC dX12_put_29 (by decide) ?_
  refine g_iload_n hC dX12_put_31 rfl ?_
  refine g_imul hC dX12_put_32 ?_
  refine g_aload_n hC dX12_put_33 rfl ?_
  refine g_getrS hC fl_X12_170_12.s (hT _ tg_M_37) (hP _ pt_M_37_29) dX12_put_34 ?_
  refine g_iload_n hC dX12_put_37 rfl ?_
  refine g_ialdSv (v := (mI σ 51 (Int32.toNatClampNeg x2))) hC (hT _ tg_M_51) rfl hw.1 rfl dX12_put_38 ?_
  replace hw := hw.2
  refine g_iadd hC dX12_put_39 ?_
  refine g_iload_n hC dX12_put_40 rfl ?_
  have hin := hw.1
  replace hw := hw.2
  refine g_iastS (k := (Int32.toNatClampNeg ((8 * x2) + (mI σ 51 (Int32.toNatClampNeg x2))))) hC (hT _ tg_M_52) rfl hin dX12_put_41 ?_
  refine g_aload_n hC dX12_put_42 rfl ?_
  refine g_getrS hC fl_X12_170_12.s (hT _ tg_M_37) (hP _ pt_M_37_29) dX12_put_43 ?_
  refine g_iload_n hC dX12_put_46 rfl ?_
  refine g_dup2 hC dX12_put_47 rfl rfl ?_
  refine g_ialdSv (v := (mI σ 51 (Int32.toNatClampNeg x2))) hC (hT _ tg_M_51) rfl hw.1 (mI_sI_n _ _ (by decide)) dX12_put_48 ?_
  replace hw := hw.2
  refine g_iconst (v := 1) hC dX12_put_49 (by decide) ?_
  refine g_iadd hC dX12_put_50 ?_
  refine g_topi (fun v101 ev101 => ?_)
  replace hw := hw v101 ev101
  have hin := hw.1
  replace hw := hw.2
  refine g_iastS (k := (Int32.toNatClampNeg x2)) hC (hT _ tg_M_51) rfl hin dX12_put_51 ?_
  exact g_vret hC (by decide) (by decide) dX12_put_52 (fun _ => ⟨rfl, hw⟩)
def w_X12_put (σ : Mem) (x1 : Int32) (x2 : Int32) (Q : Mem → Prop) : Prop := (¬ x2 = (mI σ 37 28) → (w_X12_put_25 Q x1 x2 σ)) ∧ (x2 = (mI σ 37 28) → (vp_in x2 8 ∧ (w_X12_put_25 Q x1 x2 (sI (sI σ 51 (Int32.toNatClampNeg x2) 0) 37 28 ((mI σ 37 28) + 1)))))
set_option maxRecDepth 4000 in
set_option maxHeartbeats 2000000 in
theorem t_X12_put {X : Cx} {d : Nat} (hC : mOK X cX12_put RX12 "put" none d 0 0) (hd : 0 ≤ d) (hN : ∀ i, i < 3 → i < xN X) (hP : ∀ e ∈ psM, e ∈ xP X) (hT : ∀ e ∈ tsM, e ∈ xT X) {σ : Mem} {x1 : Int32} {x2 : Int32} {Q : Mem → Prop} (hw : w_X12_put σ x1 x2 Q) : mG X 0 [(0, .ref (xB X + 37)), (1, .int x1), (2, .int x2)] [] σ 0 0 (mQ X 0 0 (qV Q)) := by
  refine g_iload_n hC dX12_put_0 rfl ?_
  refine g_aload_n hC dX12_put_1 rfl ?_
  refine g_getiSv (v := (mI σ 37 28)) hC fl_X12_225_12.s (hT _ tg_M_37) rfl dX12_put_2 ?_
  refine g_icmp_ne (tgt := 25) hC dX12_put_5 rfl (fun c => ?_) (fun c => ?_)
  · replace hw := hw.1 c
    refine mG.pick (lv' := [(0, .ref (xB X + 37)), (1, .int x1), (2, .int x2)]) [0, 1, 2] rfl ?_
    exact t_X12_put_25 hC hd hN hP hT hw
  · replace hw := hw.2 c
    refine g_aload_n hC dX12_put_8 rfl ?_
    refine g_getrS hC fl_X12_170_12.s (hT _ tg_M_37) (hP _ pt_M_37_29) dX12_put_9 ?_
    refine g_iload_n hC dX12_put_12 rfl ?_
    refine g_iconst (v := 0) hC dX12_put_13 (by decide) ?_
    have hin := hw.1
    replace hw := hw.2
    refine g_iastS (k := (Int32.toNatClampNeg x2)) hC (hT _ tg_M_51) rfl hin dX12_put_14 ?_
    refine g_aload_n hC dX12_put_15 rfl ?_
    refine g_dup hC dX12_put_16 rfl ?_
    refine g_getiSv (v := (mI σ 37 28)) hC fl_X12_225_12.s (hT _ tg_M_37) (mI_sI_n _ _ (by decide)) dX12_put_17 ?_
    refine g_iconst (v := 1) hC dX12_put_20 (by decide) ?_
    refine g_iadd hC dX12_put_21 ?_
    refine g_putIS hC (fw_X12_225_12 _) (hT _ tg_M_37) rfl rfl dX12_put_22 ?_
    refine mG.pick (lv' := [(0, .ref (xB X + 37)), (1, .int x1), (2, .int x2)]) [0, 1, 2] rfl ?_
    exact t_X12_put_25 hC hd hN hP hT hw
set_option maxRecDepth 4000 in
theorem c_X12_put {Z : Fx} {ps ts : List (Nat × Nat × Nat)} {d : Nat} (hd : 0 ≤ d) (hP : ∀ e ∈ psM, e ∈ ps) (hT : ∀ e ∈ tsM, e ∈ ts) {σ : Mem} {x1 : Int32} {x2 : Int32} {Q : Mem → Prop} (hw : w_X12_put σ x1 x2 Q) : mM Z ps ts yX12_put cX12_put 3 none d 0 0 [.ref (Z.2.2 + 37), .int x1, .int x2] σ (qV Q) := by
  refine mM.of (by decide) (Nat.le_of_ble_eq_true rfl) rfl (fun X hZ hp ht hn hC => ?_)
  subst hZ; subst hp; subst ht
  exact t_X12_put hC hd (fun i h => by rw [hn]; exact h) hP hT hw
def w_X12_putBack (σ : Mem) (x1 : Int32) (Q : Mem → Prop) : Prop := vp_in x1 8 ∧ (∀ v101 : Int32, v101 = ((mI σ 51 (Int32.toNatClampNeg x1)) - 1) → (vp_in x1 8 ∧ ((¬ x1 = ((mI σ 37 28) - 1) → (Q (sI (sI σ 51 (Int32.toNatClampNeg x1) v101) 37 28 ((mI σ 37 28) - 0)))) ∧ (x1 = ((mI σ 37 28) - 1) → (vp_in x1 8 ∧ ((¬ v101 = 0 → (Q (sI (sI σ 51 (Int32.toNatClampNeg x1) v101) 37 28 ((mI σ 37 28) - 0)))) ∧ (v101 = 0 → (Q (sI (sI σ 51 (Int32.toNatClampNeg x1) v101) 37 28 ((mI σ 37 28) - 1))))))))))
set_option maxRecDepth 4000 in
set_option maxHeartbeats 2000000 in
theorem t_X12_putBack {X : Cx} {d : Nat} (hC : mOK X cX12_putBack RX12 "putBack" none d 0 0) (hd : 0 ≤ d) (hN : ∀ i, i < 2 → i < xN X) (hP : ∀ e ∈ psM, e ∈ xP X) (hT : ∀ e ∈ tsM, e ∈ xT X) {σ : Mem} {x1 : Int32} {Q : Mem → Prop} (hw : w_X12_putBack σ x1 Q) : mG X 0 [(0, .ref (xB X + 37)), (1, .int x1)] [] σ 0 0 (mQ X 0 0 (qV Q)) := by
  refine g_aload_n hC dX12_putBack_0 rfl ?_
  refine g_getrS hC fl_X12_170_12.s (hT _ tg_M_37) (hP _ pt_M_37_29) dX12_putBack_1 ?_
  refine g_iload_n hC dX12_putBack_4 rfl ?_
  refine g_dup2 hC dX12_putBack_5 rfl rfl ?_
  refine g_ialdSv (v := (mI σ 51 (Int32.toNatClampNeg x1))) hC (hT _ tg_M_51) rfl hw.1 rfl dX12_putBack_6 ?_
  replace hw := hw.2
  refine g_iconst (v := 1) hC dX12_putBack_7 (by decide) ?_
  refine g_isub hC dX12_putBack_8 ?_
  refine g_topi (fun v101 ev101 => ?_)
  replace hw := hw v101 ev101
  have hin := hw.1
  replace hw := hw.2
  refine g_iastS (k := (Int32.toNatClampNeg x1)) hC (hT _ tg_M_51) rfl hin dX12_putBack_9 ?_
  refine g_aload_n hC dX12_putBack_10 rfl ?_
  refine g_dup hC dX12_putBack_11 rfl ?_
  refine g_getiSv (v := (mI σ 37 28)) hC fl_X12_225_12.s (hT _ tg_M_37) (mI_sI_n _ _ (by decide)) dX12_putBack_12 ?_
  refine g_iload_n hC dX12_putBack_15 rfl ?_
  refine g_aload_n hC dX12_putBack_16 rfl ?_
  refine g_getiSv (v := (mI σ 37 28)) hC fl_X12_225_12.s (hT _ tg_M_37) (mI_sI_n _ _ (by decide)) dX12_putBack_17 ?_
  refine g_iconst (v := 1) hC dX12_putBack_20 (by decide) ?_
  refine g_isub hC dX12_putBack_21 ?_
  refine g_icmp_ne (tgt := 38) hC dX12_putBack_22 rfl (fun c => ?_) (fun c => ?_)
  · replace hw := hw.1 c
    refine g_iconst (v := 0) hC dX12_putBack_38 (by decide) ?_
    refine g_isub hC dX12_putBack_39 ?_
    refine g_putIS hC (fw_X12_225_12 _) (hT _ tg_M_37) rfl rfl dX12_putBack_40 ?_
    exact g_vret hC (by decide) (by decide) dX12_putBack_43 (fun _ => ⟨rfl, hw⟩)
  · replace hw := hw.2 c
    refine g_aload_n hC dX12_putBack_25 rfl ?_
    refine g_getrS hC fl_X12_170_12.s (hT _ tg_M_37) (hP _ pt_M_37_29) dX12_putBack_26 ?_
    refine g_iload_n hC dX12_putBack_29 rfl ?_
    refine g_ialdSv (v := v101) hC (hT _ tg_M_51) rfl hw.1 (mI_sI_s _ _ _ _) dX12_putBack_30 ?_
    replace hw := hw.2
    refine g_if_ne (tgt := 38) hC dX12_putBack_31 rfl (fun c => ?_) (fun c => ?_)
    · replace hw := hw.1 c
      refine g_iconst (v := 0) hC dX12_putBack_38 (by decide) ?_
      refine g_isub hC dX12_putBack_39 ?_
      refine g_putIS hC (fw_X12_225_12 _) (hT _ tg_M_37) rfl rfl dX12_putBack_40 ?_
      exact g_vret hC (by decide) (by decide) dX12_putBack_43 (fun _ => ⟨rfl, hw⟩)
    · replace hw := hw.2 c
      refine g_iconst (v := 1) hC dX12_putBack_34 (by decide) ?_
      refine g_goto (tgt := 39) hC dX12_putBack_35 rfl ?_
      refine g_isub hC dX12_putBack_39 ?_
      refine g_putIS hC (fw_X12_225_12 _) (hT _ tg_M_37) rfl rfl dX12_putBack_40 ?_
      exact g_vret hC (by decide) (by decide) dX12_putBack_43 (fun _ => ⟨rfl, hw⟩)
set_option maxRecDepth 4000 in
theorem c_X12_putBack {Z : Fx} {ps ts : List (Nat × Nat × Nat)} {d : Nat} (hd : 0 ≤ d) (hP : ∀ e ∈ psM, e ∈ ps) (hT : ∀ e ∈ tsM, e ∈ ts) {σ : Mem} {x1 : Int32} {Q : Mem → Prop} (hw : w_X12_putBack σ x1 Q) : mM Z ps ts yX12_putBack cX12_putBack 2 none d 0 0 [.ref (Z.2.2 + 37), .int x1] σ (qV Q) := by
  refine mM.of (by decide) (Nat.le_of_ble_eq_true rfl) rfl (fun X hZ hp ht hn hC => ?_)
  subst hZ; subst hp; subst ht
  exact t_X12_putBack hC hd (fun i h => by rw [hn]; exact h) hP hT hw
def w_X12_rank_ (σ : Mem) (x1 : Int32) (x2 : Int32) (x3 : Int32) (Q : Int32 → Mem → Prop) : Prop := vp_in x3 8 ∧ ((¬ (mI σ 51 (Int32.toNatClampNeg x3)) = 0 → (vp_in x3 8 ∧ (vp_in (((8 * x3) + (mI σ 51 (Int32.toNatClampNeg x3))) - 1) 64 ∧ (vp_in (mI σ 52 (Int32.toNatClampNeg (((8 * x3) + (mI σ 51 (Int32.toNatClampNeg x3))) - 1))) 8 ∧ (∀ v101 : Int32, v101 = (mI σ 38 (Int32.toNatClampNeg (mI σ 52 (Int32.toNatClampNeg (((8 * x3) + (mI σ 51 (Int32.toNatClampNeg x3))) - 1))))) → (vp_in x2 8 ∧ (vp_in x1 5 ∧ (∀ v102 : Int32, v102 = ((if 0 ≤ (v101 - (mI σ 38 (Int32.toNatClampNeg x2))) then (v101 - (mI σ 38 (Int32.toNatClampNeg x2))) else 0 - (v101 - (mI σ 38 (Int32.toNatClampNeg x2)))) + (mI σ 41 (Int32.toNatClampNeg x1))) → (vp_in x1 5 ∧ (((mI σ 40 (Int32.toNatClampNeg x1)) = 0 → (Q v101 σ)) ∧ ((mI σ 40 (Int32.toNatClampNeg x1)) = 1 → (Q v102 σ)) ∧ ((mI σ 40 (Int32.toNatClampNeg x1)) = 2 → (Q x3 σ)) ∧ ((mI σ 40 (Int32.toNatClampNeg x1)) = 3 → (vp_in x3 8 ∧ (Q (v102 + (10 * (mI σ 51 (Int32.toNatClampNeg x3)))) σ))) ∧ ((mI σ 40 (Int32.toNatClampNeg x1)) = 4 → (vp_in x1 5 ∧ (Q ((x3 + (mI σ 41 (Int32.toNatClampNeg x1))) - (x3 + (mI σ 41 (Int32.toNatClampNeg x1))) / 4 * 4) σ))) ∧ (¬ (mI σ 40 (Int32.toNatClampNeg x1)) = 0 → ¬ (mI σ 40 (Int32.toNatClampNeg x1)) = 1 → ¬ (mI σ 40 (Int32.toNatClampNeg x1)) = 2 → ¬ (mI σ 40 (Int32.toNatClampNeg x1)) = 3 → ¬ (mI σ 40 (Int32.toNatClampNeg x1)) = 4 → (Q (100 - v102) σ)))))))))))) ∧ ((mI σ 51 (Int32.toNatClampNeg x3)) = 0 → (Q 1000 σ)))
set_option maxRecDepth 4000 in
set_option maxHeartbeats 2000000 in
theorem t_X12_rank_ {X : Cx} {d : Nat} (hC : mOK X cX12_rank_ RX12 "rank" (some .int) d 0 0) (hd : 1 ≤ d) (hN : ∀ i, i < 6 → i < xN X) (hP : ∀ e ∈ psM, e ∈ xP X) (hT : ∀ e ∈ tsM, e ∈ xT X) {σ : Mem} {x1 : Int32} {x2 : Int32} {x3 : Int32} {Q : Int32 → Mem → Prop} (hw : w_X12_rank_ σ x1 x2 x3 Q) : mG X 0 [(0, .ref (xB X + 37)), (1, .int x1), (2, .int x2), (3, .int x3)] [] σ 0 0 (mQ X 0 0 (qI Q)) := by
  refine g_aload_n hC dX12_rank__0 rfl ?_
  refine g_getrS hC fl_X12_170_12.s (hT _ tg_M_37) (hP _ pt_M_37_29) dX12_rank__1 ?_
  refine g_iload_n hC dX12_rank__4 rfl ?_
  refine g_ialdSv (v := (mI σ 51 (Int32.toNatClampNeg x3))) hC (hT _ tg_M_51) rfl hw.1 rfl dX12_rank__5 ?_
  replace hw := hw.2
  refine g_if_ne (tgt := 13) hC dX12_rank__6 rfl (fun c => ?_) (fun c => ?_)
  · replace hw := hw.1 c
    refine g_aload_n hC dX12_rank__13 rfl ?_
    refine g_getrS hC fl_X12_14_12.s (hT _ tg_M_37) (hP _ pt_M_37_1) dX12_rank__14 ?_
    refine g_aload_n hC dX12_rank__17 rfl ?_
    refine g_getrS hC fl_X12_173_12.s (hT _ tg_M_37) (hP _ pt_M_37_30) dX12_rank__18 ?_
    refine g_bipush (v := 8) hC dX12_rank__21 (by decide) ?_
    refine g_iload_n hC dX12_rank__23 rfl ?_
    refine g_imul hC dX12_rank__24 ?_
    refine g_aload_n hC dX12_rank__25 rfl ?_
    refine g_getrS hC fl_X12_170_12.s (hT _ tg_M_37) (hP _ pt_M_37_29) dX12_rank__26 ?_
    refine g_iload_n hC dX12_rank__29 rfl ?_
    refine g_ialdSv (v := (mI σ 51 (Int32.toNatClampNeg x3))) hC (hT _ tg_M_51) rfl hw.1 rfl dX12_rank__30 ?_
    replace hw := hw.2
    refine g_iadd hC dX12_rank__31 ?_
    refine g_iconst (v := 1) hC dX12_rank__32 (by decide) ?_
    refine g_isub hC dX12_rank__33 ?_
    refine g_ialdSv (v := (mI σ 52 (Int32.toNatClampNeg (((8 * x3) + (mI σ 51 (Int32.toNatClampNeg x3))) - 1)))) hC (hT _ tg_M_52) rfl hw.1 rfl dX12_rank__34 ?_
    replace hw := hw.2
    refine g_ialdSv (v := (mI σ 38 (Int32.toNatClampNeg (mI σ 52 (Int32.toNatClampNeg (((8 * x3) + (mI σ 51 (Int32.toNatClampNeg x3))) - 1)))))) hC (hT _ tg_M_38) rfl hw.1 rfl dX12_rank__35 ?_
    replace hw := hw.2
    refine g_topi (fun v101 ev101 => ?_)
    replace hw := hw v101 ev101
    refine g_istore (lv' := [(4, .int v101), (0, .ref (xB X + 37)), (1, .int x1), (2, .int x2), (3, .int x3)]) hC dX12_rank__36 (hN 4 (by decide)) rfl ?_
    refine g_iload hC dX12_rank__38 rfl ?_
    refine g_aload_n hC dX12_rank__40 rfl ?_
    refine g_getrS hC fl_X12_14_12.s (hT _ tg_M_37) (hP _ pt_M_37_1) dX12_rank__41 ?_
    refine g_iload_n hC dX12_rank__44 rfl ?_
    refine g_ialdSv (v := (mI σ 38 (Int32.toNatClampNeg x2))) hC (hT _ tg_M_38) rfl hw.1 rfl dX12_rank__45 ?_
    replace hw := hw.2
    refine g_isub hC dX12_rank__46 ?_
    refine g_mabs hC tw_589 tw_4 tw_5 tw_6 (Nat.le_of_ble_eq_true rfl) (by omega) (by decide) (by decide) dX12_rank__47 ?_
    refine g_aload_n hC dX12_rank__50 rfl ?_
    refine g_getrS hC fl_X12_24_12.s (hT _ tg_M_37) (hP _ pt_M_37_5) dX12_rank__51 ?_
    refine g_iload_n hC dX12_rank__54 rfl ?_
    refine g_ialdSv (v := (mI σ 41 (Int32.toNatClampNeg x1))) hC (hT _ tg_M_41) rfl hw.1 rfl dX12_rank__55 ?_
    replace hw := hw.2
    refine g_iadd hC dX12_rank__56 ?_
    refine g_topi (fun v102 ev102 => ?_)
    replace hw := hw v102 ev102
    refine g_istore (lv' := [(5, .int v102), (4, .int v101), (0, .ref (xB X + 37)), (1, .int x1), (2, .int x2), (3, .int x3)]) hC dX12_rank__57 (hN 5 (by decide)) rfl ?_
    refine g_aload_n hC dX12_rank__59 rfl ?_
    refine g_getrS hC fl_X12_21_12.s (hT _ tg_M_37) (hP _ pt_M_37_4) dX12_rank__60 ?_
    refine g_iload_n hC dX12_rank__63 rfl ?_
    refine g_ialdSv (v := (mI σ 40 (Int32.toNatClampNeg x1))) hC (hT _ tg_M_40) rfl hw.1 rfl dX12_rank__64 ?_
    replace hw := hw.2
    by_cases c0 : (mI σ 40 (Int32.toNatClampNeg x1)) = 0
    · replace hw := hw.1 c0
      refine g_tableIn (tgt := 100) hC dX12_rank__65 0 c0 (by decide) (by decide) rfl rfl ?_
      refine g_iload hC dX12_rank__100 rfl ?_
      exact g_iret hC rfl (by decide) (by decide) dX12_rank__102 (fun _ => ⟨_, rfl, hw⟩)
    by_cases c1 : (mI σ 40 (Int32.toNatClampNeg x1)) = 1
    · replace hw := hw.2.1 c1
      refine g_tableIn (tgt := 103) hC dX12_rank__65 1 c1 (by decide) (by decide) rfl rfl ?_
      refine g_iload hC dX12_rank__103 rfl ?_
      exact g_iret hC rfl (by decide) (by decide) dX12_rank__105 (fun _ => ⟨_, rfl, hw⟩)
    by_cases c2 : (mI σ 40 (Int32.toNatClampNeg x1)) = 2
    · replace hw := hw.2.2.1 c2
      refine g_tableIn (tgt := 106) hC dX12_rank__65 2 c2 (by decide) (by decide) rfl rfl ?_
      refine g_iload_n hC dX12_rank__106 rfl ?_
      exact g_iret hC rfl (by decide) (by decide) dX12_rank__107 (fun _ => ⟨_, rfl, hw⟩)
    by_cases c3 : (mI σ 40 (Int32.toNatClampNeg x1)) = 3
    · replace hw := hw.2.2.2.1 c3
      refine g_tableIn (tgt := 108) hC dX12_rank__65 3 c3 (by decide) (by decide) rfl rfl ?_
      refine g_iload hC dX12_rank__108 rfl ?_
      refine g_bipush (v := 10) hC dX12_rank__110 (by decide) ?_
      refine g_aload_n hC dX12_rank__112 rfl ?_
      refine g_getrS hC fl_X12_170_12.s (hT _ tg_M_37) (hP _ pt_M_37_29) dX12_rank__113 ?_
      refine g_iload_n hC dX12_rank__116 rfl ?_
      refine g_ialdSv (v := (mI σ 51 (Int32.toNatClampNeg x3))) hC (hT _ tg_M_51) rfl hw.1 rfl dX12_rank__117 ?_
      replace hw := hw.2
      refine g_imul hC dX12_rank__118 ?_
      refine g_iadd hC dX12_rank__119 ?_
      exact g_iret hC rfl (by decide) (by decide) dX12_rank__120 (fun _ => ⟨_, rfl, hw⟩)
    by_cases c4 : (mI σ 40 (Int32.toNatClampNeg x1)) = 4
    · replace hw := hw.2.2.2.2.1 c4
      refine g_tableIn (tgt := 121) hC dX12_rank__65 4 c4 (by decide) (by decide) rfl rfl ?_
      refine g_iload_n hC dX12_rank__121 rfl ?_
      refine g_aload_n hC dX12_rank__122 rfl ?_
      refine g_getrS hC fl_X12_24_12.s (hT _ tg_M_37) (hP _ pt_M_37_5) dX12_rank__123 ?_
      refine g_iload_n hC dX12_rank__126 rfl ?_
      refine g_ialdSv (v := (mI σ 41 (Int32.toNatClampNeg x1))) hC (hT _ tg_M_41) rfl hw.1 rfl dX12_rank__127 ?_
      replace hw := hw.2
      refine g_iadd hC dX12_rank__128 ?_
      refine g_iconst (v := 4) hC dX12_rank__129 (by decide) ?_
      refine g_irem hC dX12_rank__130 (by decide) ?_
      exact g_iret hC rfl (by decide) (by decide) dX12_rank__131 (fun _ => ⟨_, rfl, hw⟩)
    replace hw := hw.2.2.2.2.2 c0 c1 c2 c3 c4
    refine g_tableOut (tgt := 132) hC dX12_rank__65 (sw_out 0 4 (mI σ 40 (Int32.toNatClampNeg x1)) (by decide) [0, 1, 2, 3, 4] (by decide) (List.forall_mem_cons.mpr ⟨c0, (List.forall_mem_cons.mpr ⟨c1, (List.forall_mem_cons.mpr ⟨c2, (List.forall_mem_cons.mpr ⟨c3, (List.forall_mem_cons.mpr ⟨c4, (fun k h => absurd h List.not_mem_nil)⟩)⟩)⟩)⟩)⟩)) rfl ?_
    refine g_bipush (v := 100) hC dX12_rank__132 (by decide) ?_
    refine g_iload hC dX12_rank__134 rfl ?_
    refine g_isub hC dX12_rank__136 ?_
    exact g_iret hC rfl (by decide) (by decide) dX12_rank__137 (fun _ => ⟨_, rfl, hw⟩)
  · replace hw := hw.2 c
    refine g_sipush (v := 1000) hC dX12_rank__9 (by decide) ?_
    exact g_iret hC rfl (by decide) (by decide) dX12_rank__12 (fun _ => ⟨_, rfl, hw⟩)
set_option maxRecDepth 4000 in
theorem c_X12_rank_ {Z : Fx} {ps ts : List (Nat × Nat × Nat)} {d : Nat} (hd : 1 ≤ d) (hP : ∀ e ∈ psM, e ∈ ps) (hT : ∀ e ∈ tsM, e ∈ ts) {σ : Mem} {x1 : Int32} {x2 : Int32} {x3 : Int32} {Q : Int32 → Mem → Prop} (hw : w_X12_rank_ σ x1 x2 x3 Q) : mM Z ps ts yX12_rank_ cX12_rank_ 6 (some .int) d 0 0 [.ref (Z.2.2 + 37), .int x1, .int x2, .int x3] σ (qI Q) := by
  refine mM.of (by decide) (Nat.le_of_ble_eq_true rfl) rfl (fun X hZ hp ht hn hC => ?_)
  subst hZ; subst hp; subst ht
  exact t_X12_rank_ hC hd (fun i h => by rw [hn]; exact h) hP hT hw
def w_X12_likes (σ : Mem) (x1 : Int32) (x2 : Int32) (Q : Int32 → Mem → Prop) : Prop := vp_in x1 5 ∧ (((mI σ 40 (Int32.toNatClampNeg x1)) = 1 → ((x2 ≤ 50 → (Q 0 σ)) ∧ (¬ x2 ≤ 50 → (Q 1 σ)))) ∧ ((mI σ 40 (Int32.toNatClampNeg x1)) = 3 → ((x2 ≤ 50 → (Q 0 σ)) ∧ (¬ x2 ≤ 50 → (Q 1 σ)))) ∧ ((mI σ 40 (Int32.toNatClampNeg x1)) = 4 → (vp_in x1 5 ∧ ((((mI σ 41 (Int32.toNatClampNeg x1)) - (mI σ 41 (Int32.toNatClampNeg x1)) / 3 * 3) ≤ (mI σ 37 28) → (Q 0 σ)) ∧ (¬ ((mI σ 41 (Int32.toNatClampNeg x1)) - (mI σ 41 (Int32.toNatClampNeg x1)) / 3 * 3) ≤ (mI σ 37 28) → (Q 1 σ))))) ∧ ((mI σ 40 (Int32.toNatClampNeg x1)) = 5 → ((50 < x2 → (Q 1 σ)) ∧ (¬ 50 < x2 → ((¬ (mI σ 37 28) = 1 → (Q 0 σ)) ∧ ((mI σ 37 28) = 1 → (Q 1 σ)))))) ∧ (¬ (mI σ 40 (Int32.toNatClampNeg x1)) = 1 → ¬ (mI σ 40 (Int32.toNatClampNeg x1)) = 3 → ¬ (mI σ 40 (Int32.toNatClampNeg x1)) = 4 → ¬ (mI σ 40 (Int32.toNatClampNeg x1)) = 5 → (Q 0 σ)))
set_option maxRecDepth 4000 in
set_option maxHeartbeats 2000000 in
theorem t_X12_likes {X : Cx} {d : Nat} (hC : mOK X cX12_likes RX12 "likes" (some .boolean) d 0 0) (hd : 0 ≤ d) (hN : ∀ i, i < 3 → i < xN X) (hP : ∀ e ∈ psM, e ∈ xP X) (hT : ∀ e ∈ tsM, e ∈ xT X) {σ : Mem} {x1 : Int32} {x2 : Int32} {Q : Int32 → Mem → Prop} (hw : w_X12_likes σ x1 x2 Q) : mG X 0 [(0, .ref (xB X + 37)), (1, .int x1), (2, .int x2)] [] σ 0 0 (mQ X 0 0 (qI Q)) := by
  refine g_aload_n hC dX12_likes_0 rfl ?_
  refine g_getrS hC fl_X12_21_12.s (hT _ tg_M_37) (hP _ pt_M_37_4) dX12_likes_1 ?_
  refine g_iload_n hC dX12_likes_4 rfl ?_
  refine g_ialdSv (v := (mI σ 40 (Int32.toNatClampNeg x1))) hC (hT _ tg_M_40) rfl hw.1 rfl dX12_likes_5 ?_
  replace hw := hw.2
  by_cases c0 : (mI σ 40 (Int32.toNatClampNeg x1)) = 1
  · replace hw := hw.1 c0
    refine g_tableIn (tgt := 40) hC dX12_likes_6 1 c0 (by decide) (by decide) rfl rfl ?_
    refine g_iload_n hC dX12_likes_40 rfl ?_
    refine g_bipush (v := 50) hC dX12_likes_41 (by decide) ?_
    refine g_icmp_le (tgt := 50) hC dX12_likes_43 rfl (fun c => ?_) (fun c => ?_)
    · replace hw := hw.1 c
      refine g_iconst (v := 0) hC dX12_likes_50 (by decide) ?_
      exact g_iret hC bz0 (by decide) (by decide) dX12_likes_51 (fun _ => ⟨_, rfl, hw⟩)
    · replace hw := hw.2 c
      refine g_iconst (v := 1) hC dX12_likes_46 (by decide) ?_
      refine g_goto (tgt := 51) hC dX12_likes_47 rfl ?_
      exact g_iret hC bz1 (by decide) (by decide) dX12_likes_51 (fun _ => ⟨_, rfl, hw⟩)
  by_cases c1 : (mI σ 40 (Int32.toNatClampNeg x1)) = 3
  · replace hw := hw.2.1 c1
    refine g_tableIn (tgt := 40) hC dX12_likes_6 3 c1 (by decide) (by decide) rfl rfl ?_
    refine g_iload_n hC dX12_likes_40 rfl ?_
    refine g_bipush (v := 50) hC dX12_likes_41 (by decide) ?_
    refine g_icmp_le (tgt := 50) hC dX12_likes_43 rfl (fun c => ?_) (fun c => ?_)
    · replace hw := hw.1 c
      refine g_iconst (v := 0) hC dX12_likes_50 (by decide) ?_
      exact g_iret hC bz0 (by decide) (by decide) dX12_likes_51 (fun _ => ⟨_, rfl, hw⟩)
    · replace hw := hw.2 c
      refine g_iconst (v := 1) hC dX12_likes_46 (by decide) ?_
      refine g_goto (tgt := 51) hC dX12_likes_47 rfl ?_
      exact g_iret hC bz1 (by decide) (by decide) dX12_likes_51 (fun _ => ⟨_, rfl, hw⟩)
  by_cases c2 : (mI σ 40 (Int32.toNatClampNeg x1)) = 4
  · replace hw := hw.2.2.1 c2
    refine g_tableIn (tgt := 52) hC dX12_likes_6 4 c2 (by decide) (by decide) rfl rfl ?_
    refine g_aload_n hC dX12_likes_52 rfl ?_
    refine g_getiSv (v := (mI σ 37 28)) hC fl_X12_225_12.s (hT _ tg_M_37) rfl dX12_likes_53 ?_
    refine g_aload_n hC dX12_likes_56 rfl ?_
    refine g_getrS hC fl_X12_24_12.s (hT _ tg_M_37) (hP _ pt_M_37_5) dX12_likes_57 ?_
    refine g_iload_n hC dX12_likes_60 rfl ?_
    refine g_ialdSv (v := (mI σ 41 (Int32.toNatClampNeg x1))) hC (hT _ tg_M_41) rfl hw.1 rfl dX12_likes_61 ?_
    replace hw := hw.2
    refine g_iconst (v := 3) hC dX12_likes_62 (by decide) ?_
    refine g_irem hC dX12_likes_63 (by decide) ?_
    refine g_icmp_ge (tgt := 71) hC dX12_likes_64 rfl (fun c => ?_) (fun c => ?_)
    · replace hw := hw.1 c
      refine g_iconst (v := 0) hC dX12_likes_71 (by decide) ?_
      exact g_iret hC bz0 (by decide) (by decide) dX12_likes_72 (fun _ => ⟨_, rfl, hw⟩)
    · replace hw := hw.2 c
      refine g_iconst (v := 1) hC dX12_likes_67 (by decide) ?_
      refine g_goto (tgt := 72) hC dX12_likes_68 rfl ?_
      exact g_iret hC bz1 (by decide) (by decide) dX12_likes_72 (fun _ => ⟨_, rfl, hw⟩)
  by_cases c3 : (mI σ 40 (Int32.toNatClampNeg x1)) = 5
  · replace hw := hw.2.2.2.1 c3
    refine g_tableIn (tgt := 73) hC dX12_likes_6 5 c3 (by decide) (by decide) rfl rfl ?_
    refine g_iload_n hC dX12_likes_73 rfl ?_
    refine g_bipush (v := 50) hC dX12_likes_74 (by decide) ?_
    refine g_icmp_gt (tgt := 87) hC dX12_likes_76 rfl (fun c => ?_) (fun c => ?_)
    · replace hw := hw.1 c
      refine g_iconst (v := 1) hC dX12_likes_87 (by decide) ?_
      refine g_goto (tgt := 92) hC dX12_likes_88 rfl ?_
      exact g_iret hC bz1 (by decide) (by decide) dX12_likes_92 (fun _ => ⟨_, rfl, hw⟩)
    · replace hw := hw.2 c
      refine g_aload_n hC dX12_likes_79 rfl ?_
      refine g_getiSv (v := (mI σ 37 28)) hC fl_X12_225_12.s (hT _ tg_M_37) rfl dX12_likes_80 ?_
      refine g_iconst (v := 1) hC dX12_likes_83 (by decide) ?_
      refine g_icmp_ne (tgt := 91) hC dX12_likes_84 rfl (fun c => ?_) (fun c => ?_)
      · replace hw := hw.1 c
        refine g_iconst (v := 0) hC dX12_likes_91 (by decide) ?_
        exact g_iret hC bz0 (by decide) (by decide) dX12_likes_92 (fun _ => ⟨_, rfl, hw⟩)
      · replace hw := hw.2 c
        refine g_iconst (v := 1) hC dX12_likes_87 (by decide) ?_
        refine g_goto (tgt := 92) hC dX12_likes_88 rfl ?_
        exact g_iret hC bz1 (by decide) (by decide) dX12_likes_92 (fun _ => ⟨_, rfl, hw⟩)
  replace hw := hw.2.2.2.2 c0 c1 c2 c3
  by_cases h0 : (mI σ 40 (Int32.toNatClampNeg x1)) = 2
  · refine g_tableIn (tgt := 93) hC dX12_likes_6 2 h0 (by decide) (by decide) rfl rfl ?_
    refine g_iconst (v := 0) hC dX12_likes_93 (by decide) ?_
    exact g_iret hC bz0 (by decide) (by decide) dX12_likes_94 (fun _ => ⟨_, rfl, hw⟩)
  refine g_tableOut (tgt := 93) hC dX12_likes_6 (sw_out 1 5 (mI σ 40 (Int32.toNatClampNeg x1)) (by decide) [1, 2, 3, 4, 5] (by decide) (List.forall_mem_cons.mpr ⟨c0, (List.forall_mem_cons.mpr ⟨h0, (List.forall_mem_cons.mpr ⟨c1, (List.forall_mem_cons.mpr ⟨c2, (List.forall_mem_cons.mpr ⟨c3, (fun k h => absurd h List.not_mem_nil)⟩)⟩)⟩)⟩)⟩)) rfl ?_
  refine g_iconst (v := 0) hC dX12_likes_93 (by decide) ?_
  exact g_iret hC bz0 (by decide) (by decide) dX12_likes_94 (fun _ => ⟨_, rfl, hw⟩)
set_option maxRecDepth 4000 in
theorem c_X12_likes {Z : Fx} {ps ts : List (Nat × Nat × Nat)} {d : Nat} (hd : 0 ≤ d) (hP : ∀ e ∈ psM, e ∈ ps) (hT : ∀ e ∈ tsM, e ∈ ts) {σ : Mem} {x1 : Int32} {x2 : Int32} {Q : Int32 → Mem → Prop} (hw : w_X12_likes σ x1 x2 Q) : mM Z ps ts yX12_likes cX12_likes 3 (some .boolean) d 0 0 [.ref (Z.2.2 + 37), .int x1, .int x2] σ (qI Q) := by
  refine mM.of (by decide) (Nat.le_of_ble_eq_true rfl) rfl (fun X hZ hp ht hn hC => ?_)
  subst hZ; subst hp; subst ht
  exact t_X12_likes hC hd (fun i h => by rw [hn]; exact h) hP hT hw
def w_X12_choice_56 (Q : Int32 → Mem → Prop) (K8 : Int32 → Int32 → Int32 → Int32 → Int32 → Mem → Prop) (x1 : Int32) (x2 : Int32) (x3 : Int32) (x4 : Int32) (x5 : Int32) (σ : Mem) : Prop := K8 x1 x2 x3 x4 (x5 + 1) σ
set_option maxRecDepth 4000 in
set_option maxHeartbeats 2000000 in
theorem t_X12_choice_56 {X : Cx} {d : Nat} (hC : mOK X cX12_choice RX12 "choice" (some .int) d 0 0) (hd : 3 ≤ d) (hN : ∀ i, i < 7 → i < xN X) (hP : ∀ e ∈ psM, e ∈ xP X) (hT : ∀ e ∈ tsM, e ∈ xT X) {Q : Int32 → Mem → Prop} {K8 : Int32 → Int32 → Int32 → Int32 → Int32 → Mem → Prop} (hK8 : ∀ (x1 : Int32) (x2 : Int32) (x3 : Int32) (x4 : Int32) (x5 : Int32) (s : Mem), K8 x1 x2 x3 x4 x5 s → mG X 8 [(0, .ref (xB X + 37)), (1, .int x1), (2, .int x2), (3, .int x3), (4, .int x4), (5, .int x5)] [] s 0 0 (mQ X 0 0 (qI Q))) {x1 : Int32} {x2 : Int32} {x3 : Int32} {x4 : Int32} {x5 : Int32} {σ : Mem} (hw : w_X12_choice_56 Q K8 x1 x2 x3 x4 x5 σ) : mG X 56 [(0, .ref (xB X + 37)), (1, .int x1), (2, .int x2), (3, .int x3), (4, .int x4), (5, .int x5)] [] σ 0 0 (mQ X 0 0 (qI Q)) := by
  refine g_iinc (v := x5 + 1) (lv' := [(5, .int (x5 + 1)), (0, .ref (xB X + 37)), (1, .int x1), (2, .int x2), (3, .int x3), (4, .int x4)]) hC dX12_choice_56 rfl rfl (hN 5 (by decide)) rfl ?_
  refine g_goto (tgt := 8) hC dX12_choice_59 rfl ?_
  refine mG.pick (lv' := [(0, .ref (xB X + 37)), (1, .int x1), (2, .int x2), (3, .int x3), (4, .int x4), (5, .int (x5 + 1))]) [1, 2, 3, 4, 5, 0] rfl ?_
  exact hK8 _ _ _ _ _ _ hw
def w_X12_choice_49 (Q : Int32 → Mem → Prop) (K8 : Int32 → Int32 → Int32 → Int32 → Int32 → Mem → Prop) (x1 : Int32) (x2 : Int32) (x5 : Int32) (x6 : Int32) (σ : Mem) : Prop := w_X12_choice_56 Q K8 x1 x2 x5 x6 x5 σ
set_option maxRecDepth 4000 in
set_option maxHeartbeats 2000000 in
theorem t_X12_choice_49 {X : Cx} {d : Nat} (hC : mOK X cX12_choice RX12 "choice" (some .int) d 0 0) (hd : 3 ≤ d) (hN : ∀ i, i < 7 → i < xN X) (hP : ∀ e ∈ psM, e ∈ xP X) (hT : ∀ e ∈ tsM, e ∈ xT X) {Q : Int32 → Mem → Prop} {K8 : Int32 → Int32 → Int32 → Int32 → Int32 → Mem → Prop} (hK8 : ∀ (x1 : Int32) (x2 : Int32) (x3 : Int32) (x4 : Int32) (x5 : Int32) (s : Mem), K8 x1 x2 x3 x4 x5 s → mG X 8 [(0, .ref (xB X + 37)), (1, .int x1), (2, .int x2), (3, .int x3), (4, .int x4), (5, .int x5)] [] s 0 0 (mQ X 0 0 (qI Q))) {x1 : Int32} {x2 : Int32} {x5 : Int32} {x6 : Int32} {σ : Mem} (hw : w_X12_choice_49 Q K8 x1 x2 x5 x6 σ) : mG X 49 [(0, .ref (xB X + 37)), (1, .int x1), (2, .int x2), (5, .int x5), (6, .int x6)] [] σ 0 0 (mQ X 0 0 (qI Q)) := by
  refine g_iload hC dX12_choice_49 rfl ?_
  refine g_istore_n (lv' := [(3, .int x5), (0, .ref (xB X + 37)), (1, .int x1), (2, .int x2), (5, .int x5), (6, .int x6)]) hC dX12_choice_51 (hN 3 (by decide)) rfl ?_
  refine g_iload hC dX12_choice_52 rfl ?_
  refine g_istore (lv' := [(4, .int x6), (3, .int x5), (0, .ref (xB X + 37)), (1, .int x1), (2, .int x2), (5, .int x5), (6, .int x6)]) hC dX12_choice_54 (hN 4 (by decide)) rfl ?_
  refine mG.pick (lv' := [(0, .ref (xB X + 37)), (1, .int x1), (2, .int x2), (3, .int x5), (4, .int x6), (5, .int x5)]) [2, 3, 4, 1, 0, 5] rfl ?_
  exact t_X12_choice_56 hC hd hN hP hT hK8 hw
def w_X12_choice_8 (Q : Int32 → Mem → Prop) : Nat → Int32 → Int32 → Int32 → Int32 → Int32 → Mem → Prop
  | 0, _, _, _, _, _, _ => False
  | n + 1, x1, x2, x3, x4, x5, σ => ((mI σ 37 28) ≤ x5 → ((x3 = (-1) → (Q (mI σ 37 28) σ)) ∧ (¬ x3 = (-1) → (w_X12_likes σ x1 x4 (fun v101 s103 => (v101 = 0 → (Q x3 s103)) ∧ (¬ v101 = 0 → (Q (mI s103 37 28) s103))))))) ∧ (¬ (mI σ 37 28) ≤ x5 → (w_X12_mayLie σ x2 x5 (fun v104 s106 => (v104 = 0 → (w_X12_choice_56 Q (fun z0 z1 z2 z3 z4 z5 => w_X12_choice_8 Q n z0 z1 z2 z3 z4 z5) x1 x2 x3 x4 x5 s106)) ∧ (¬ v104 = 0 → (w_X12_rank_ s106 x1 x2 x5 (fun v107 s109 => (x3 = (-1) → (w_X12_choice_49 Q (fun z0 z1 z2 z3 z4 z5 => w_X12_choice_8 Q n z0 z1 z2 z3 z4 z5) x1 x2 x5 v107 s109)) ∧ (¬ x3 = (-1) → ((x4 ≤ v107 → (w_X12_choice_56 Q (fun z0 z1 z2 z3 z4 z5 => w_X12_choice_8 Q n z0 z1 z2 z3 z4 z5) x1 x2 x3 x4 x5 s109)) ∧ (¬ x4 ≤ v107 → (w_X12_choice_49 Q (fun z0 z1 z2 z3 z4 z5 => w_X12_choice_8 Q n z0 z1 z2 z3 z4 z5) x1 x2 x5 v107 s109))))))))))
set_option maxRecDepth 4000 in
set_option maxHeartbeats 2000000 in
theorem t_X12_choice_8 {X : Cx} {d : Nat} (hC : mOK X cX12_choice RX12 "choice" (some .int) d 0 0) (hd : 3 ≤ d) (hN : ∀ i, i < 7 → i < xN X) (hP : ∀ e ∈ psM, e ∈ xP X) (hT : ∀ e ∈ tsM, e ∈ xT X) {Q : Int32 → Mem → Prop} : ∀ (n : Nat) (x1 : Int32) (x2 : Int32) (x3 : Int32) (x4 : Int32) (x5 : Int32) (σ : Mem), w_X12_choice_8 Q n x1 x2 x3 x4 x5 σ → mG X 8 [(0, .ref (xB X + 37)), (1, .int x1), (2, .int x2), (3, .int x3), (4, .int x4), (5, .int x5)] [] σ 0 0 (mQ X 0 0 (qI Q)) := by
  intro n
  induction n with
  | zero => intro x1 x2 x3 x4 x5 σ hw; exact False.elim hw
  | succ n ih =>
    intro x1 x2 x3 x4 x5 σ hw
    rw [w_X12_choice_8] at hw
    refine g_iload hC dX12_choice_8 rfl ?_
    refine g_aload_n hC dX12_choice_10 rfl ?_
    refine g_getiSv (v := (mI σ 37 28)) hC fl_X12_225_12.s (hT _ tg_M_37) rfl dX12_choice_11 ?_
    refine g_icmp_ge (tgt := 62) hC dX12_choice_14 rfl (fun c => ?_) (fun c => ?_)
    · replace hw := hw.1 c
      refine g_iload_n hC dX12_choice_62 rfl ?_
      refine g_iconst (v := (-1)) hC dX12_choice_63 (by decide) ?_
      refine g_icmp_eq (tgt := 77) hC dX12_choice_64 rfl (fun c => ?_) (fun c => ?_)
      · replace hw := hw.1 c
        refine g_aload_n hC dX12_choice_77 rfl ?_
        refine g_getiSv (v := (mI σ 37 28)) hC fl_X12_225_12.s (hT _ tg_M_37) rfl dX12_choice_78 ?_
        refine g_goto (tgt := 85) hC dX12_choice_81 rfl ?_
        exact g_iret hC rfl (by decide) (by decide) dX12_choice_85 (fun _ => ⟨_, rfl, hw⟩)
      · replace hw := hw.2 c
        refine g_aload_n hC dX12_choice_67 rfl ?_
        refine g_iload_n hC dX12_choice_68 rfl ?_
        refine g_iload hC dX12_choice_69 rfl ?_
        refine g_known (fun hS => ?_)
        refine mG.st (st1 := ([.int x1, .int x4] : List Value).reverse ++ .ref (xB X + 37) :: []) rfl ?_
        refine g_callV (As := [.int x1, .int x4]) (st := []) hC (hS.2 _ (hT _ tg_M_37)) (by decide) ycl_12_X12_likes yw_X12_likes yv_X12_likes tw_590 dX12_choice_71 (fun _ h => h) (fun _ h => h) (fun h => h) (c_X12_likes (d := 0) (Nat.le_refl _) hP hT hw) rfl (Nat.le_of_ble_eq_true rfl) (by omega) (by decide) (by decide) (kI fun v101 s103 hw => ?_)
        refine g_if_eq (tgt := 84) hC dX12_choice_74 rfl (fun c => ?_) (fun c => ?_)
        · replace hw := hw.1 c
          refine g_iload_n hC dX12_choice_84 rfl ?_
          exact g_iret hC rfl (by decide) (by decide) dX12_choice_85 (fun _ => ⟨_, rfl, hw⟩)
        · replace hw := hw.2 c
          refine g_aload_n hC dX12_choice_77 rfl ?_
          refine g_getiSv (v := (mI s103 37 28)) hC fl_X12_225_12.s (hT _ tg_M_37) rfl dX12_choice_78 ?_
          refine g_goto (tgt := 85) hC dX12_choice_81 rfl ?_
          exact g_iret hC rfl (by decide) (by decide) dX12_choice_85 (fun _ => ⟨_, rfl, hw⟩)
    · replace hw := hw.2 c
      refine g_aload_n hC dX12_choice_17 rfl ?_
      refine g_iload_n hC dX12_choice_18 rfl ?_
      refine g_iload hC dX12_choice_19 rfl ?_
      refine g_known (fun hS => ?_)
      refine mG.st (st1 := ([.int x2, .int x5] : List Value).reverse ++ .ref (xB X + 37) :: []) rfl ?_
      refine g_callV (As := [.int x2, .int x5]) (st := []) hC (hS.2 _ (hT _ tg_M_37)) (by decide) ycl_12_X12_mayLie yw_X12_mayLie yv_X12_mayLie tw_594 dX12_choice_21 (fun _ h => h) (fun _ h => h) (fun h => h) (c_X12_mayLie (d := 2) (Nat.le_refl _) hP hT hw) rfl (Nat.le_of_ble_eq_true rfl) (by omega) (by decide) (by decide) (kI fun v104 s106 hw => ?_)
      refine g_if_eq (tgt := 56) hC dX12_choice_24 rfl (fun c => ?_) (fun c => ?_)
      · replace hw := hw.1 c
        refine mG.pick (lv' := [(0, .ref (xB X + 37)), (1, .int x1), (2, .int x2), (3, .int x3), (4, .int x4), (5, .int x5)]) [0, 1, 2, 3, 4, 5] rfl ?_
        exact t_X12_choice_56 hC hd hN hP hT ih hw
      · replace hw := hw.2 c
        refine g_aload_n hC dX12_choice_27 rfl ?_
        refine g_iload_n hC dX12_choice_28 rfl ?_
        refine g_iload_n hC dX12_choice_29 rfl ?_
        refine g_iload hC dX12_choice_30 rfl ?_
        refine g_known (fun hS => ?_)
        refine mG.st (st1 := ([.int x1, .int x2, .int x5] : List Value).reverse ++ .ref (xB X + 37) :: []) rfl ?_
        refine g_callV (As := [.int x1, .int x2, .int x5]) (st := []) hC (hS.2 _ (hT _ tg_M_37)) (by decide) ycl_12_X12_rank_ yw_X12_rank_ yv_X12_rank_ tw_595 dX12_choice_32 (fun _ h => h) (fun _ h => h) (fun h => h) (c_X12_rank_ (d := 1) (Nat.le_refl _) hP hT hw) rfl (Nat.le_of_ble_eq_true rfl) (by omega) (by decide) (by decide) (kI fun v107 s109 hw => ?_)
        refine g_istore (lv' := [(6, .int v107), (0, .ref (xB X + 37)), (1, .int x1), (2, .int x2), (3, .int x3), (4, .int x4), (5, .int x5)]) hC dX12_choice_35 (hN 6 (by decide)) rfl ?_
        refine g_iload_n hC dX12_choice_37 rfl ?_
        refine g_iconst (v := (-1)) hC dX12_choice_38 (by decide) ?_
        refine g_icmp_eq (tgt := 49) hC dX12_choice_39 rfl (fun c => ?_) (fun c => ?_)
        · replace hw := hw.1 c
          refine mG.pick (lv' := [(0, .ref (xB X + 37)), (1, .int x1), (2, .int x2), (5, .int x5), (6, .int v107)]) [1, 2, 3, 6, 0] rfl ?_
          exact t_X12_choice_49 hC hd hN hP hT ih hw
        · replace hw := hw.2 c
          refine g_iload hC dX12_choice_42 rfl ?_
          refine g_iload hC dX12_choice_44 rfl ?_
          refine g_icmp_ge (tgt := 56) hC dX12_choice_46 rfl (fun c => ?_) (fun c => ?_)
          · replace hw := hw.1 c
            refine mG.pick (lv' := [(0, .ref (xB X + 37)), (1, .int x1), (2, .int x2), (3, .int x3), (4, .int x4), (5, .int x5)]) [1, 2, 3, 4, 5, 6] rfl ?_
            exact t_X12_choice_56 hC hd hN hP hT ih hw
          · replace hw := hw.2 c
            refine mG.pick (lv' := [(0, .ref (xB X + 37)), (1, .int x1), (2, .int x2), (5, .int x5), (6, .int v107)]) [1, 2, 3, 6, 0] rfl ?_
            exact t_X12_choice_49 hC hd hN hP hT ih hw
def w_X12_choice (σ : Mem) (x1 : Int32) (x2 : Int32) (Q : Int32 → Mem → Prop) : Prop := ∃ m101 : Nat, w_X12_choice_8 Q m101 x1 x2 (-1) 0 0 σ
set_option maxRecDepth 4000 in
set_option maxHeartbeats 2000000 in
theorem t_X12_choice {X : Cx} {d : Nat} (hC : mOK X cX12_choice RX12 "choice" (some .int) d 0 0) (hd : 3 ≤ d) (hN : ∀ i, i < 7 → i < xN X) (hP : ∀ e ∈ psM, e ∈ xP X) (hT : ∀ e ∈ tsM, e ∈ xT X) {σ : Mem} {x1 : Int32} {x2 : Int32} {Q : Int32 → Mem → Prop} (hw : w_X12_choice σ x1 x2 Q) : mG X 0 [(0, .ref (xB X + 37)), (1, .int x1), (2, .int x2)] [] σ 0 0 (mQ X 0 0 (qI Q)) := by
  refine g_iconst (v := (-1)) hC dX12_choice_0 (by decide) ?_
  refine g_istore_n (lv' := [(3, .int (-1)), (0, .ref (xB X + 37)), (1, .int x1), (2, .int x2)]) hC dX12_choice_1 (hN 3 (by decide)) rfl ?_
  refine g_iconst (v := 0) hC dX12_choice_2 (by decide) ?_
  refine g_istore (lv' := [(4, .int 0), (3, .int (-1)), (0, .ref (xB X + 37)), (1, .int x1), (2, .int x2)]) hC dX12_choice_3 (hN 4 (by decide)) rfl ?_
  refine g_iconst (v := 0) hC dX12_choice_5 (by decide) ?_
  refine g_istore (lv' := [(5, .int 0), (4, .int 0), (3, .int (-1)), (0, .ref (xB X + 37)), (1, .int x1), (2, .int x2)]) hC dX12_choice_6 (hN 5 (by decide)) rfl ?_
  refine mG.pick (lv' := [(0, .ref (xB X + 37)), (1, .int x1), (2, .int x2), (3, .int (-1)), (4, .int 0), (5, .int 0)]) [3, 4, 5, 2, 1, 0] rfl ?_
  obtain ⟨m101, hw⟩ := hw
  exact t_X12_choice_8 hC hd hN hP hT m101 _ _ _ _ _ _ hw
set_option maxRecDepth 4000 in
theorem c_X12_choice {Z : Fx} {ps ts : List (Nat × Nat × Nat)} {d : Nat} (hd : 3 ≤ d) (hP : ∀ e ∈ psM, e ∈ ps) (hT : ∀ e ∈ tsM, e ∈ ts) {σ : Mem} {x1 : Int32} {x2 : Int32} {Q : Int32 → Mem → Prop} (hw : w_X12_choice σ x1 x2 Q) : mM Z ps ts yX12_choice cX12_choice 7 (some .int) d 0 0 [.ref (Z.2.2 + 37), .int x1, .int x2] σ (qI Q) := by
  refine mM.of (by decide) (Nat.le_of_ble_eq_true rfl) rfl (fun X hZ hp ht hn hC => ?_)
  subst hZ; subst hp; subst ht
  exact t_X12_choice hC hd (fun i h => by rw [hn]; exact h) hP hT hw
def w_X12_layAll_105 (Q : Mem → Prop) (K12 : Int32 → Int32 → Mem → Prop) (x1 : Int32) (x2 : Int32) (x3 : Int32) (x4 : Int32) (xy0 : Int32) (xy1 : Int32) (σ : Mem) : Prop := vp_in xy1 8 ∧ (w_X12_put (sI σ 55 (Int32.toNatClampNeg xy1) xy0) x3 x4 (fun s103 => K12 x1 (x2 + 1) s103))
set_option maxRecDepth 4000 in
set_option maxHeartbeats 2000000 in
theorem t_X12_layAll_105 {X : Cx} {d : Nat} (hC : mOK X cX12_layAll RX12 "layAll" none d 0 0) (hd : 4 ≤ d) (hN : ∀ i, i < 5 → i < xN X) (hP : ∀ e ∈ psM, e ∈ xP X) (hT : ∀ e ∈ tsM, e ∈ xT X) {Q : Mem → Prop} {K12 : Int32 → Int32 → Mem → Prop} (hK12 : ∀ (x1 : Int32) (x2 : Int32) (s : Mem), K12 x1 x2 s → mG X 12 [(0, .ref (xB X + 37)), (1, .int x1), (2, .int x2)] [] s 0 0 (mQ X 0 0 (qV Q))) {x1 : Int32} {x2 : Int32} {x3 : Int32} {x4 : Int32} {xy0 : Int32} {xy1 : Int32} {σ : Mem} (hw : w_X12_layAll_105 Q K12 x1 x2 x3 x4 xy0 xy1 σ) : mG X 105 [(0, .ref (xB X + 37)), (1, .int x1), (2, .int x2), (3, .int x3), (4, .int x4)] [.int xy0, .int xy1, .ref (xB X + 55)] σ 0 0 (mQ X 0 0 (qV Q)) := by
  have hin := hw.1
  replace hw := hw.2
  refine g_iastS (k := (Int32.toNatClampNeg xy1)) hC (hT _ tg_M_55) rfl hin dX12_layAll_105 ?_
  refine g_aload_n hC dX12_layAll_106 rfl ?_
  refine g_iload_n hC dX12_layAll_107 rfl ?_
  refine g_iload hC dX12_layAll_108 rfl ?_
  refine g_known (fun hS => ?_)
  refine mG.st (st1 := ([.int x3, .int x4] : List Value).reverse ++ .ref (xB X + 37) :: []) rfl ?_
  refine g_callV (As := [.int x3, .int x4]) (st := []) hC (hS.2 _ (hT _ tg_M_37)) (by decide) ycl_12_X12_put yw_X12_put yv_X12_put tw_610 dX12_layAll_110 (fun _ h => h) (fun _ h => h) (fun h => h) (c_X12_put (d := 0) (Nat.le_refl _) hP hT hw) rfl (Nat.le_of_ble_eq_true rfl) (by omega) (by decide) (by decide) (kV fun s103 hw => ?_)
  refine g_iinc (v := x2 + 1) (lv' := [(2, .int (x2 + 1)), (0, .ref (xB X + 37)), (1, .int x1), (3, .int x3), (4, .int x4)]) hC dX12_layAll_113 rfl rfl (hN 2 (by decide)) rfl ?_
  refine g_goto (tgt := 12) hC dX12_layAll_116 rfl ?_
  refine mG.pick (lv' := [(0, .ref (xB X + 37)), (1, .int x1), (2, .int (x2 + 1))]) [1, 2, 0] rfl ?_
  exact hK12 _ _ _ hw
def w_X12_layAll_12 (Q : Mem → Prop) : Nat → Int32 → Int32 → Mem → Prop
  | 0, _, _, _ => False
  | n + 1, x1, x2, σ => ((mI σ 37 0) ≤ x2 → (Q σ)) ∧ (¬ (mI σ 37 0) ≤ x2 → (vp_in x2 8 ∧ (∀ v101 : Int32, v101 = (mI σ 53 (Int32.toNatClampNeg x2)) → (w_X12_choice σ x1 v101 (fun v102 s104 => w_X12_nameOn s104 v101 v102 (fun s107 => w_X12_worthOf s107 1 (fun v108 s110 => w_X12_bound s110 v108 (fun v111 s113 => vp_in v101 8 ∧ ((¬ v102 = (mI s113 37 28) → (vp_in v102 8 ∧ (vp_in (((8 * v102) + (mI s113 51 (Int32.toNatClampNeg v102))) - 1) 64 ∧ (w_X12_layAll_105 Q (fun z0 z1 z2 => w_X12_layAll_12 Q n z0 z1 z2) x1 x2 v101 v102 (mI s113 52 (Int32.toNatClampNeg (((8 * v102) + (mI s113 51 (Int32.toNatClampNeg v102))) - 1))) v101 (sI (sI s113 37 34 ((mI s107 37 34) + v111)) 54 (Int32.toNatClampNeg v101) v102))))) ∧ (v102 = (mI s113 37 28) → (w_X12_layAll_105 Q (fun z0 z1 z2 => w_X12_layAll_12 Q n z0 z1 z2) x1 x2 v101 v102 (-1) v101 (sI (sI s113 37 34 ((mI s107 37 34) + v111)) 54 (Int32.toNatClampNeg v101) v102))))))))))))
set_option maxRecDepth 4000 in
set_option maxHeartbeats 2000000 in
theorem t_X12_layAll_12 {X : Cx} {d : Nat} (hC : mOK X cX12_layAll RX12 "layAll" none d 0 0) (hd : 4 ≤ d) (hN : ∀ i, i < 5 → i < xN X) (hP : ∀ e ∈ psM, e ∈ xP X) (hT : ∀ e ∈ tsM, e ∈ xT X) {Q : Mem → Prop} : ∀ (n : Nat) (x1 : Int32) (x2 : Int32) (σ : Mem), w_X12_layAll_12 Q n x1 x2 σ → mG X 12 [(0, .ref (xB X + 37)), (1, .int x1), (2, .int x2)] [] σ 0 0 (mQ X 0 0 (qV Q)) := by
  intro n
  induction n with
  | zero => intro x1 x2 σ hw; exact False.elim hw
  | succ n ih =>
    intro x1 x2 σ hw
    rw [w_X12_layAll_12] at hw
    refine g_iload_n hC dX12_layAll_12 rfl ?_
    refine g_aload_n hC dX12_layAll_13 rfl ?_
    refine g_getiSv (v := (mI σ 37 0)) hC fl_X12_1_12.s (hT _ tg_M_37) rfl dX12_layAll_14 ?_
    refine g_icmp_ge (tgt := 119) hC dX12_layAll_17 rfl (fun c => ?_) (fun c => ?_)
    · replace hw := hw.1 c
      exact g_vret hC (by decide) (by decide) dX12_layAll_119 (fun _ => ⟨rfl, hw⟩)
    · replace hw := hw.2 c
      refine g_aload_n hC dX12_layAll_20 rfl ?_
      refine g_getrS hC fl_X12_176_12.s (hT _ tg_M_37) (hP _ pt_M_37_31) dX12_layAll_21 ?_
      refine g_iload_n hC dX12_layAll_24 rfl ?_
      refine g_ialdSv (v := (mI σ 53 (Int32.toNatClampNeg x2))) hC (hT _ tg_M_53) rfl hw.1 rfl dX12_layAll_25 ?_
      replace hw := hw.2
      refine g_topi (fun v101 ev101 => ?_)
      replace hw := hw v101 ev101
      refine g_istore_n (lv' := [(3, .int v101), (0, .ref (xB X + 37)), (1, .int x1), (2, .int x2)]) hC dX12_layAll_26 (hN 3 (by decide)) rfl ?_
      refine g_aload_n hC dX12_layAll_27 rfl ?_
      refine g_iload_n hC dX12_layAll_28 rfl ?_
      refine g_iload_n hC dX12_layAll_29 rfl ?_
      refine g_known (fun hS => ?_)
      refine mG.st (st1 := ([.int x1, .int v101] : List Value).reverse ++ .ref (xB X + 37) :: []) rfl ?_
      refine g_callV (As := [.int x1, .int v101]) (st := []) hC (hS.2 _ (hT _ tg_M_37)) (by decide) ycl_12_X12_choice yw_X12_choice yv_X12_choice tw_603 dX12_layAll_30 (fun _ h => h) (fun _ h => h) (fun h => h) (c_X12_choice (d := 3) (Nat.le_refl _) hP hT hw) rfl (Nat.le_of_ble_eq_true rfl) (by omega) (by decide) (by decide) (kI fun v102 s104 hw => ?_)
      refine g_istore (lv' := [(4, .int v102), (3, .int v101), (0, .ref (xB X + 37)), (1, .int x1), (2, .int x2)]) hC dX12_layAll_33 (hN 4 (by decide)) rfl ?_
      refine g_aload_n hC dX12_layAll_35 rfl ?_
      refine g_iload_n hC dX12_layAll_36 rfl ?_
      refine g_iload hC dX12_layAll_37 rfl ?_
      refine g_known (fun hS => ?_)
      refine mG.st (st1 := ([.int v101, .int v102] : List Value).reverse ++ .ref (xB X + 37) :: []) rfl ?_
      refine g_callV (As := [.int v101, .int v102]) (st := []) hC (hS.2 _ (hT _ tg_M_37)) (by decide) ycl_12_X12_nameOn yw_X12_nameOn yv_X12_nameOn tw_585 dX12_layAll_39 (fun _ h => h) (fun _ h => h) (fun h => h) (c_X12_nameOn (d := 1) (Nat.le_refl _) hP hT hw) rfl (Nat.le_of_ble_eq_true rfl) (by omega) (by decide) (by decide) (kV fun s107 hw => ?_)
      refine g_aload_n hC dX12_layAll_42 rfl ?_
      refine g_dup hC dX12_layAll_43 rfl ?_
      refine g_getiSv (v := (mI s107 37 34)) hC fl_X12_246_12.s (hT _ tg_M_37) rfl dX12_layAll_44 ?_
      refine g_aload_n hC dX12_layAll_47 rfl ?_
      refine g_iconst (v := 1) hC dX12_layAll_48 (by decide) ?_
      refine g_known (fun hS => ?_)
      refine mG.st (st1 := ([.int 1] : List Value).reverse ++ .ref (xB X + 37) :: [.int (mI s107 37 34), .ref (xB X + 37)]) rfl ?_
      refine g_callV (As := [.int 1]) (st := [.int (mI s107 37 34), .ref (xB X + 37)]) hC (hS.2 _ (hT _ tg_M_37)) (by decide) ycl_12_X12_worthOf yw_X12_worthOf yv_X12_worthOf tw_486 dX12_layAll_49 (fun _ h => h) (fun _ h => h) (fun h => h) (c_X12_worthOf (d := 1) (Nat.le_refl _) hP hT hw) rfl (Nat.le_of_ble_eq_true rfl) (by omega) (by decide) (by decide) (kI fun v108 s110 hw => ?_)
      refine mG.st (st1 := ([.int v108] : List Value).reverse ++ [.int (mI s107 37 34), .ref (xB X + 37)]) rfl ?_
      refine g_callS (As := [.int v108]) (st := [.int (mI s107 37 34), .ref (xB X + 37)]) hC yw_X12_bound ys_X12_bound tw_494 dX12_layAll_52 (fun _ h => h) (fun _ h => h) (fun h => h) (c_X12_bound (d := 0) (Nat.le_refl _) hw) rfl (Nat.le_of_ble_eq_true rfl) (by omega) (by decide) (by decide) (kI fun v111 s113 hw => ?_)
      refine g_iadd hC dX12_layAll_55 ?_
      refine g_putIS hC (fw_X12_246_12 _) (hT _ tg_M_37) rfl rfl dX12_layAll_56 ?_
      refine g_aload_n hC dX12_layAll_59 rfl ?_
      refine g_getrS hC fl_X12_179_12.s (hT _ tg_M_37) (hP _ pt_M_37_32) dX12_layAll_60 ?_
      refine g_iload_n hC dX12_layAll_63 rfl ?_
      refine g_iload hC dX12_layAll_64 rfl ?_
      have hin := hw.1
      replace hw := hw.2
      refine g_iastS (k := (Int32.toNatClampNeg v101)) hC (hT _ tg_M_54) rfl hin dX12_layAll_66 ?_
      refine g_aload_n hC dX12_layAll_67 rfl ?_
      refine g_getrS hC fl_X12_182_12.s (hT _ tg_M_37) (hP _ pt_M_37_33) dX12_layAll_68 ?_
      refine g_iload_n hC dX12_layAll_71 rfl ?_
      refine g_iload hC dX12_layAll_72 rfl ?_
      refine g_aload_n hC dX12_layAll_74 rfl ?_
      refine g_getiSv (v := (mI s113 37 28)) hC fl_X12_225_12.s (hT _ tg_M_37) ((mI_sI_n _ _ (by decide)).trans (mI_sI_k _ _ (by decide))) dX12_layAll_75 ?_
      refine g_icmp_ne (tgt := 85) hC dX12_layAll_78 rfl (fun c => ?_) (fun c => ?_)
      · replace hw := hw.1 c
        refine g_aload_n hC dX12_layAll_85 rfl ?_
        refine g_getrS hC fl_X12_173_12.s (hT _ tg_M_37) (hP _ pt_M_37_30) dX12_layAll_86 ?_
        refine g_bipush (v := 8) hC dX12_layAll_89 (by decide) ?_
        refine g_iload hC dX12_layAll_91 rfl ?_
        refine g_imul hC dX12_layAll_93 ?_
        refine g_aload_n hC dX12_layAll_94 rfl ?_
        refine g_getrS hC fl_X12_170_12.s (hT _ tg_M_37) (hP _ pt_M_37_29) dX12_layAll_95 ?_
        refine g_iload hC dX12_layAll_98 rfl ?_
        refine g_ialdSv (v := (mI s113 51 (Int32.toNatClampNeg v102))) hC (hT _ tg_M_51) rfl hw.1 ((mI_sI_n _ _ (by decide)).trans (mI_sI_n _ _ (by decide))) dX12_layAll_100 ?_
        replace hw := hw.2
        refine g_iadd hC dX12_layAll_101 ?_
        refine g_iconst (v := 1) hC dX12_layAll_102 (by decide) ?_
        refine g_isub hC dX12_layAll_103 ?_
        refine g_ialdSv (v := (mI s113 52 (Int32.toNatClampNeg (((8 * v102) + (mI s113 51 (Int32.toNatClampNeg v102))) - 1)))) hC (hT _ tg_M_52) rfl hw.1 ((mI_sI_n _ _ (by decide)).trans (mI_sI_n _ _ (by decide))) dX12_layAll_104 ?_
        replace hw := hw.2
        refine mG.pick (lv' := [(0, .ref (xB X + 37)), (1, .int x1), (2, .int x2), (3, .int v101), (4, .int v102)]) [2, 3, 4, 1, 0] rfl ?_
        exact t_X12_layAll_105 hC hd hN hP hT ih hw
      · replace hw := hw.2 c
        refine g_iconst (v := (-1)) hC dX12_layAll_81 (by decide) ?_
        refine g_goto (tgt := 105) hC dX12_layAll_82 rfl ?_
        refine mG.pick (lv' := [(0, .ref (xB X + 37)), (1, .int x1), (2, .int x2), (3, .int v101), (4, .int v102)]) [2, 3, 4, 1, 0] rfl ?_
        exact t_X12_layAll_105 hC hd hN hP hT ih hw
def w_X12_layAll (σ : Mem) (x1 : Int32) (Q : Mem → Prop) : Prop := ∃ m101 : Nat, w_X12_layAll_12 Q m101 x1 0 (sI (sI σ 37 28 0) 37 34 0)
set_option maxRecDepth 4000 in
set_option maxHeartbeats 2000000 in
theorem t_X12_layAll {X : Cx} {d : Nat} (hC : mOK X cX12_layAll RX12 "layAll" none d 0 0) (hd : 4 ≤ d) (hN : ∀ i, i < 5 → i < xN X) (hP : ∀ e ∈ psM, e ∈ xP X) (hT : ∀ e ∈ tsM, e ∈ xT X) {σ : Mem} {x1 : Int32} {Q : Mem → Prop} (hw : w_X12_layAll σ x1 Q) : mG X 0 [(0, .ref (xB X + 37)), (1, .int x1)] [] σ 0 0 (mQ X 0 0 (qV Q)) := by
  refine g_aload_n hC dX12_layAll_0 rfl ?_
  refine g_iconst (v := 0) hC dX12_layAll_1 (by decide) ?_
  refine g_putIS hC (fw_X12_225_12 _) (hT _ tg_M_37) rfl rfl dX12_layAll_2 ?_
  refine g_aload_n hC dX12_layAll_5 rfl ?_
  refine g_iconst (v := 0) hC dX12_layAll_6 (by decide) ?_
  refine g_putIS hC (fw_X12_246_12 _) (hT _ tg_M_37) rfl rfl dX12_layAll_7 ?_
  refine g_iconst (v := 0) hC dX12_layAll_10 (by decide) ?_
  refine g_istore_n (lv' := [(2, .int 0), (0, .ref (xB X + 37)), (1, .int x1)]) hC dX12_layAll_11 (hN 2 (by decide)) rfl ?_
  refine mG.pick (lv' := [(0, .ref (xB X + 37)), (1, .int x1), (2, .int 0)]) [1, 2, 0] rfl ?_
  obtain ⟨m101, hw⟩ := hw
  exact t_X12_layAll_12 hC hd hN hP hT m101 _ _ _ hw
set_option maxRecDepth 4000 in
theorem c_X12_layAll {Z : Fx} {ps ts : List (Nat × Nat × Nat)} {d : Nat} (hd : 4 ≤ d) (hP : ∀ e ∈ psM, e ∈ ps) (hT : ∀ e ∈ tsM, e ∈ ts) {σ : Mem} {x1 : Int32} {Q : Mem → Prop} (hw : w_X12_layAll σ x1 Q) : mM Z ps ts yX12_layAll cX12_layAll 5 none d 0 0 [.ref (Z.2.2 + 37), .int x1] σ (qV Q) := by
  refine mM.of (by decide) (Nat.le_of_ble_eq_true rfl) rfl (fun X hZ hp ht hn hC => ?_)
  subst hZ; subst hp; subst ht
  exact t_X12_layAll hC hd (fun i h => by rw [hn]; exact h) hP hT hw
def w_X12_asTheyCame_2 (Q : Mem → Prop) : Nat → Int32 → Mem → Prop
  | 0, _, _ => False
  | n + 1, x1, σ => (8 ≤ x1 → (Q σ)) ∧ (¬ 8 ≤ x1 → (vp_in x1 8 ∧ (w_X12_asTheyCame_2 Q n (x1 + 1) (sI σ 53 (Int32.toNatClampNeg x1) x1))))
set_option maxRecDepth 4000 in
set_option maxHeartbeats 2000000 in
theorem t_X12_asTheyCame_2 {X : Cx} {d : Nat} (hC : mOK X cX12_asTheyCame RX12 "asTheyCame" none d 0 0) (hd : 0 ≤ d) (hN : ∀ i, i < 2 → i < xN X) (hP : ∀ e ∈ psM, e ∈ xP X) (hT : ∀ e ∈ tsM, e ∈ xT X) {Q : Mem → Prop} : ∀ (n : Nat) (x1 : Int32) (σ : Mem), w_X12_asTheyCame_2 Q n x1 σ → mG X 2 [(0, .ref (xB X + 37)), (1, .int x1)] [] σ 0 0 (mQ X 0 0 (qV Q)) := by
  intro n
  induction n with
  | zero => intro x1 σ hw; exact False.elim hw
  | succ n ih =>
    intro x1 σ hw
    rw [w_X12_asTheyCame_2] at hw
    refine g_iload_n hC dX12_asTheyCame_2 rfl ?_
    refine g_bipush (v := 8) hC dX12_asTheyCame_3 (by decide) ?_
    refine g_icmp_ge (tgt := 21) hC dX12_asTheyCame_5 rfl (fun c => ?_) (fun c => ?_)
    · replace hw := hw.1 c
      exact g_vret hC (by decide) (by decide) dX12_asTheyCame_21 (fun _ => ⟨rfl, hw⟩)
    · replace hw := hw.2 c
      refine g_aload_n hC dX12_asTheyCame_8 rfl ?_
      refine g_getrS hC fl_X12_176_12.s (hT _ tg_M_37) (hP _ pt_M_37_31) dX12_asTheyCame_9 ?_
      refine g_iload_n hC dX12_asTheyCame_12 rfl ?_
      refine g_iload_n hC dX12_asTheyCame_13 rfl ?_
      have hin := hw.1
      replace hw := hw.2
      refine g_iastS (k := (Int32.toNatClampNeg x1)) hC (hT _ tg_M_53) rfl hin dX12_asTheyCame_14 ?_
      refine g_iinc (v := x1 + 1) (lv' := [(1, .int (x1 + 1)), (0, .ref (xB X + 37))]) hC dX12_asTheyCame_15 rfl rfl (hN 1 (by decide)) rfl ?_
      refine g_goto (tgt := 2) hC dX12_asTheyCame_18 rfl ?_
      refine mG.pick (lv' := [(0, .ref (xB X + 37)), (1, .int (x1 + 1))]) [1, 0] rfl ?_
      exact ih _ _ hw
def w_X12_asTheyCame (σ : Mem) (Q : Mem → Prop) : Prop := ∃ m101 : Nat, w_X12_asTheyCame_2 Q m101 0 σ
set_option maxRecDepth 4000 in
set_option maxHeartbeats 2000000 in
theorem t_X12_asTheyCame {X : Cx} {d : Nat} (hC : mOK X cX12_asTheyCame RX12 "asTheyCame" none d 0 0) (hd : 0 ≤ d) (hN : ∀ i, i < 2 → i < xN X) (hP : ∀ e ∈ psM, e ∈ xP X) (hT : ∀ e ∈ tsM, e ∈ xT X) {σ : Mem} {Q : Mem → Prop} (hw : w_X12_asTheyCame σ Q) : mG X 0 [(0, .ref (xB X + 37))] [] σ 0 0 (mQ X 0 0 (qV Q)) := by
  refine g_iconst (v := 0) hC dX12_asTheyCame_0 (by decide) ?_
  refine g_istore_n (lv' := [(1, .int 0), (0, .ref (xB X + 37))]) hC dX12_asTheyCame_1 (hN 1 (by decide)) rfl ?_
  refine mG.pick (lv' := [(0, .ref (xB X + 37)), (1, .int 0)]) [1, 0] rfl ?_
  obtain ⟨m101, hw⟩ := hw
  exact t_X12_asTheyCame_2 hC hd hN hP hT m101 _ _ hw
set_option maxRecDepth 4000 in
theorem c_X12_asTheyCame {Z : Fx} {ps ts : List (Nat × Nat × Nat)} {d : Nat} (hd : 0 ≤ d) (hP : ∀ e ∈ psM, e ∈ ps) (hT : ∀ e ∈ tsM, e ∈ ts) {σ : Mem} {Q : Mem → Prop} (hw : w_X12_asTheyCame σ Q) : mM Z ps ts yX12_asTheyCame cX12_asTheyCame 2 none d 0 0 [.ref (Z.2.2 + 37)] σ (qV Q) := by
  refine mM.of (by decide) (Nat.le_of_ble_eq_true rfl) rfl (fun X hZ hp ht hn hC => ?_)
  subst hZ; subst hp; subst ht
  exact t_X12_asTheyCame hC hd (fun i h => by rw [hn]; exact h) hP hT hw
def w_X12_by (σ : Mem) (x1 : Int32) (x2 : Int32) (Q : Int32 → Mem → Prop) : Prop := w_X12_isLayer σ x1 (fun v101 s103 => (v101 = 0 → (Q (-2) s103)) ∧ (¬ v101 = 0 → (w_X12_isIn s103 x2 0 1 (fun v104 s106 => (¬ v104 = 0 → (w_X12_layAll s106 x1 (fun s109 => (¬ x2 = 0 → (Q (mI s109 37 34) s109)) ∧ (x2 = 0 → (Q (mI s109 37 28) s109))))) ∧ (v104 = 0 → (Q (-2) s106))))))
set_option maxRecDepth 4000 in
set_option maxHeartbeats 2000000 in
theorem t_X12_by {X : Cx} {d : Nat} (hC : mOK X cX12_by RX12 "by" (some .int) d 0 0) (hd : 5 ≤ d) (hN : ∀ i, i < 3 → i < xN X) (hP : ∀ e ∈ psM, e ∈ xP X) (hT : ∀ e ∈ tsM, e ∈ xT X) {σ : Mem} {x1 : Int32} {x2 : Int32} {Q : Int32 → Mem → Prop} (hw : w_X12_by σ x1 x2 Q) : mG X 0 [(0, .ref (xB X + 37)), (1, .int x1), (2, .int x2)] [] σ 0 0 (mQ X 0 0 (qI Q)) := by
  refine g_aload_n hC dX12_by_0 rfl ?_
  refine g_iload_n hC dX12_by_1 rfl ?_
  refine g_known (fun hS => ?_)
  refine mG.st (st1 := ([.int x1] : List Value).reverse ++ .ref (xB X + 37) :: []) rfl ?_
  refine g_callV (As := [.int x1]) (st := []) hC (hS.2 _ (hT _ tg_M_37)) (by decide) ycl_12_X12_isLayer yw_X12_isLayer yv_X12_isLayer tw_480 dX12_by_2 (fun _ h => h) (fun _ h => h) (fun h => h) (c_X12_isLayer (d := 1) (Nat.le_refl _) hP hT hw) rfl (Nat.le_of_ble_eq_true rfl) (by omega) (by decide) (by decide) (kI fun v101 s103 hw => ?_)
  refine g_if_eq (tgt := 17) hC dX12_by_5 rfl (fun c => ?_) (fun c => ?_)
  · replace hw := hw.1 c
    refine g_bipush (v := (-2)) hC dX12_by_17 (by decide) ?_
    exact g_iret hC rfl (by decide) (by decide) dX12_by_19 (fun _ => ⟨_, rfl, hw⟩)
  · replace hw := hw.2 c
    refine g_iload_n hC dX12_by_8 rfl ?_
    refine g_iconst (v := 0) hC dX12_by_9 (by decide) ?_
    refine g_iconst (v := 1) hC dX12_by_10 (by decide) ?_
    refine mG.st (st1 := ([.int x2, .int 0, .int 1] : List Value).reverse ++ []) rfl ?_
    refine g_callS (As := [.int x2, .int 0, .int 1]) (st := []) hC yw_X12_isIn ys_X12_isIn tw_465 dX12_by_11 (fun _ h => h) (fun _ h => h) (fun h => h) (c_X12_isIn (d := 0) (Nat.le_refl _) hw) rfl (Nat.le_of_ble_eq_true rfl) (by omega) (by decide) (by decide) (kI fun v104 s106 hw => ?_)
    refine g_if_ne (tgt := 20) hC dX12_by_14 rfl (fun c => ?_) (fun c => ?_)
    · replace hw := hw.1 c
      refine g_aload_n hC dX12_by_20 rfl ?_
      refine g_iload_n hC dX12_by_21 rfl ?_
      refine g_known (fun hS => ?_)
      refine mG.st (st1 := ([.int x1] : List Value).reverse ++ .ref (xB X + 37) :: []) rfl ?_
      refine g_callV (As := [.int x1]) (st := []) hC (hS.2 _ (hT _ tg_M_37)) (by decide) ycl_12_X12_layAll yw_X12_layAll yv_X12_layAll tw_614 dX12_by_22 (fun _ h => h) (fun _ h => h) (fun h => h) (c_X12_layAll (d := 4) (Nat.le_refl _) hP hT hw) rfl (Nat.le_of_ble_eq_true rfl) (by omega) (by decide) (by decide) (kV fun s109 hw => ?_)
      refine g_iload_n hC dX12_by_25 rfl ?_
      refine g_if_ne (tgt := 36) hC dX12_by_26 rfl (fun c => ?_) (fun c => ?_)
      · replace hw := hw.1 c
        refine g_aload_n hC dX12_by_36 rfl ?_
        refine g_getiSv (v := (mI s109 37 34)) hC fl_X12_246_12.s (hT _ tg_M_37) rfl dX12_by_37 ?_
        exact g_iret hC rfl (by decide) (by decide) dX12_by_40 (fun _ => ⟨_, rfl, hw⟩)
      · replace hw := hw.2 c
        refine g_aload_n hC dX12_by_29 rfl ?_
        refine g_getiSv (v := (mI s109 37 28)) hC fl_X12_225_12.s (hT _ tg_M_37) rfl dX12_by_30 ?_
        refine g_goto (tgt := 40) hC dX12_by_33 rfl ?_
        exact g_iret hC rfl (by decide) (by decide) dX12_by_40 (fun _ => ⟨_, rfl, hw⟩)
    · replace hw := hw.2 c
      refine g_bipush (v := (-2)) hC dX12_by_17 (by decide) ?_
      exact g_iret hC rfl (by decide) (by decide) dX12_by_19 (fun _ => ⟨_, rfl, hw⟩)
set_option maxRecDepth 4000 in
theorem c_X12_by {Z : Fx} {ps ts : List (Nat × Nat × Nat)} {d : Nat} (hd : 5 ≤ d) (hP : ∀ e ∈ psM, e ∈ ps) (hT : ∀ e ∈ tsM, e ∈ ts) {σ : Mem} {x1 : Int32} {x2 : Int32} {Q : Int32 → Mem → Prop} (hw : w_X12_by σ x1 x2 Q) : mM Z ps ts yX12_by cX12_by 3 (some .int) d 0 0 [.ref (Z.2.2 + 37), .int x1, .int x2] σ (qI Q) := by
  refine mM.of (by decide) (Nat.le_of_ble_eq_true rfl) rfl (fun X hZ hp ht hn hC => ?_)
  subst hZ; subst hp; subst ht
  exact t_X12_by hC hd (fun i h => by rw [hn]; exact h) hP hT hw
def w_X12_heapOf (σ : Mem) (x1 : Int32) (x2 : Int32) (Q : Int32 → Mem → Prop) : Prop := w_X12_isLayer σ x1 (fun v101 s103 => (v101 = 0 → (Q (-2) s103)) ∧ (¬ v101 = 0 → (w_X12_isPlate s103 x2 (fun v104 s106 => (¬ v104 = 0 → (w_X12_layAll s106 x1 (fun s109 => vp_in x2 8 ∧ (Q (mI s109 54 (Int32.toNatClampNeg x2)) s109)))) ∧ (v104 = 0 → (Q (-2) s106))))))
set_option maxRecDepth 4000 in
set_option maxHeartbeats 2000000 in
theorem t_X12_heapOf {X : Cx} {d : Nat} (hC : mOK X cX12_heapOf RX12 "heapOf" (some .int) d 0 0) (hd : 5 ≤ d) (hN : ∀ i, i < 3 → i < xN X) (hP : ∀ e ∈ psM, e ∈ xP X) (hT : ∀ e ∈ tsM, e ∈ xT X) {σ : Mem} {x1 : Int32} {x2 : Int32} {Q : Int32 → Mem → Prop} (hw : w_X12_heapOf σ x1 x2 Q) : mG X 0 [(0, .ref (xB X + 37)), (1, .int x1), (2, .int x2)] [] σ 0 0 (mQ X 0 0 (qI Q)) := by
  refine g_aload_n hC dX12_heapOf_0 rfl ?_
  refine g_iload_n hC dX12_heapOf_1 rfl ?_
  refine g_known (fun hS => ?_)
  refine mG.st (st1 := ([.int x1] : List Value).reverse ++ .ref (xB X + 37) :: []) rfl ?_
  refine g_callV (As := [.int x1]) (st := []) hC (hS.2 _ (hT _ tg_M_37)) (by decide) ycl_12_X12_isLayer yw_X12_isLayer yv_X12_isLayer tw_480 dX12_heapOf_2 (fun _ h => h) (fun _ h => h) (fun h => h) (c_X12_isLayer (d := 1) (Nat.le_refl _) hP hT hw) rfl (Nat.le_of_ble_eq_true rfl) (by omega) (by decide) (by decide) (kI fun v101 s103 hw => ?_)
  refine g_if_eq (tgt := 16) hC dX12_heapOf_5 rfl (fun c => ?_) (fun c => ?_)
  · replace hw := hw.1 c
    refine g_bipush (v := (-2)) hC dX12_heapOf_16 (by decide) ?_
    exact g_iret hC rfl (by decide) (by decide) dX12_heapOf_18 (fun _ => ⟨_, rfl, hw⟩)
  · replace hw := hw.2 c
    refine g_aload_n hC dX12_heapOf_8 rfl ?_
    refine g_iload_n hC dX12_heapOf_9 rfl ?_
    refine g_known (fun hS => ?_)
    refine mG.st (st1 := ([.int x2] : List Value).reverse ++ .ref (xB X + 37) :: []) rfl ?_
    refine g_callV (As := [.int x2]) (st := []) hC (hS.2 _ (hT _ tg_M_37)) (by decide) ycl_12_X12_isPlate yw_X12_isPlate yv_X12_isPlate tw_475 dX12_heapOf_10 (fun _ h => h) (fun _ h => h) (fun h => h) (c_X12_isPlate (d := 1) (Nat.le_refl _) hP hT hw) rfl (Nat.le_of_ble_eq_true rfl) (by omega) (by decide) (by decide) (kI fun v104 s106 hw => ?_)
    refine g_if_ne (tgt := 19) hC dX12_heapOf_13 rfl (fun c => ?_) (fun c => ?_)
    · replace hw := hw.1 c
      refine g_aload_n hC dX12_heapOf_19 rfl ?_
      refine g_iload_n hC dX12_heapOf_20 rfl ?_
      refine g_known (fun hS => ?_)
      refine mG.st (st1 := ([.int x1] : List Value).reverse ++ .ref (xB X + 37) :: []) rfl ?_
      refine g_callV (As := [.int x1]) (st := []) hC (hS.2 _ (hT _ tg_M_37)) (by decide) ycl_12_X12_layAll yw_X12_layAll yv_X12_layAll tw_614 dX12_heapOf_21 (fun _ h => h) (fun _ h => h) (fun h => h) (c_X12_layAll (d := 4) (Nat.le_refl _) hP hT hw) rfl (Nat.le_of_ble_eq_true rfl) (by omega) (by decide) (by decide) (kV fun s109 hw => ?_)
      refine g_aload_n hC dX12_heapOf_24 rfl ?_
      refine g_getrS hC fl_X12_179_12.s (hT _ tg_M_37) (hP _ pt_M_37_32) dX12_heapOf_25 ?_
      refine g_iload_n hC dX12_heapOf_28 rfl ?_
      refine g_ialdSv (v := (mI s109 54 (Int32.toNatClampNeg x2))) hC (hT _ tg_M_54) rfl hw.1 rfl dX12_heapOf_29 ?_
      replace hw := hw.2
      exact g_iret hC rfl (by decide) (by decide) dX12_heapOf_30 (fun _ => ⟨_, rfl, hw⟩)
    · replace hw := hw.2 c
      refine g_bipush (v := (-2)) hC dX12_heapOf_16 (by decide) ?_
      exact g_iret hC rfl (by decide) (by decide) dX12_heapOf_18 (fun _ => ⟨_, rfl, hw⟩)
set_option maxRecDepth 4000 in
theorem c_X12_heapOf {Z : Fx} {ps ts : List (Nat × Nat × Nat)} {d : Nat} (hd : 5 ≤ d) (hP : ∀ e ∈ psM, e ∈ ps) (hT : ∀ e ∈ tsM, e ∈ ts) {σ : Mem} {x1 : Int32} {x2 : Int32} {Q : Int32 → Mem → Prop} (hw : w_X12_heapOf σ x1 x2 Q) : mM Z ps ts yX12_heapOf cX12_heapOf 3 (some .int) d 0 0 [.ref (Z.2.2 + 37), .int x1, .int x2] σ (qI Q) := by
  refine mM.of (by decide) (Nat.le_of_ble_eq_true rfl) rfl (fun X hZ hp ht hn hC => ?_)
  subst hZ; subst hp; subst ht
  exact t_X12_heapOf hC hd (fun i h => by rw [hn]; exact h) hP hT hw
def w_X12_ways_152 (rec_X12_ways : Mem → Int32 → Int32 → Int32 → (Mem → Prop) → Prop) (Q : Mem → Prop) (K83 : Int32 → Int32 → Int32 → Int32 → Int32 → Int32 → Mem → Prop) (x1 : Int32) (x2 : Int32) (x3 : Int32) (x4 : Int32) (x5 : Int32) (x6 : Int32) (σ : Mem) : Prop := K83 x1 x2 x3 x4 x5 (x6 + 1) σ
set_option maxRecDepth 4000 in
set_option maxHeartbeats 2000000 in
theorem t_X12_ways_152 {X : Cx} {d : Nat} {dr : Nat} (hC : mOK X cX12_ways RX12 "ways" none d 0 0) (hd : dr + 3 ≤ d) (hN : ∀ i, i < 8 → i < xN X) (hP : ∀ e ∈ psM, e ∈ xP X) (hT : ∀ e ∈ tsM, e ∈ xT X) {rec_X12_ways : Mem → Int32 → Int32 → Int32 → (Mem → Prop) → Prop} (hrec_X12_ways : ∀ (s : Mem) (z0 : Int32) (z1 : Int32) (z2 : Int32) (q : Mem → Prop), rec_X12_ways s z0 z1 z2 q → mM (xZ X) (xP X) (xT X) yX12_ways cX12_ways 8 none dr 0 0 [.ref ((xB X) + 37), .int z0, .int z1, .int z2] s (qV q)) {Q : Mem → Prop} {K83 : Int32 → Int32 → Int32 → Int32 → Int32 → Int32 → Mem → Prop} (hK83 : ∀ (x1 : Int32) (x2 : Int32) (x3 : Int32) (x4 : Int32) (x5 : Int32) (x6 : Int32) (s : Mem), K83 x1 x2 x3 x4 x5 x6 s → mG X 83 [(0, .ref (xB X + 37)), (1, .int x1), (2, .int x2), (3, .int x3), (4, .int x4), (5, .int x5), (6, .int x6)] [] s 0 0 (mQ X 0 0 (qV Q))) {x1 : Int32} {x2 : Int32} {x3 : Int32} {x4 : Int32} {x5 : Int32} {x6 : Int32} {σ : Mem} (hw : w_X12_ways_152 rec_X12_ways Q K83 x1 x2 x3 x4 x5 x6 σ) : mG X 152 [(0, .ref (xB X + 37)), (1, .int x1), (2, .int x2), (3, .int x3), (4, .int x4), (5, .int x5), (6, .int x6)] [] σ 0 0 (mQ X 0 0 (qV Q)) := by
  refine g_iinc (v := x6 + 1) (lv' := [(6, .int (x6 + 1)), (0, .ref (xB X + 37)), (1, .int x1), (2, .int x2), (3, .int x3), (4, .int x4), (5, .int x5)]) hC dX12_ways_152 rfl rfl (hN 6 (by decide)) rfl ?_
  refine g_goto (tgt := 83) hC dX12_ways_155 rfl ?_
  refine mG.pick (lv' := [(0, .ref (xB X + 37)), (1, .int x1), (2, .int x2), (3, .int x3), (4, .int x4), (5, .int x5), (6, .int (x6 + 1))]) [1, 2, 3, 4, 5, 6, 0] rfl ?_
  exact hK83 _ _ _ _ _ _ _ hw
def w_X12_ways_108 (rec_X12_ways : Mem → Int32 → Int32 → Int32 → (Mem → Prop) → Prop) (Q : Mem → Prop) (K83 : Int32 → Int32 → Int32 → Int32 → Int32 → Int32 → Mem → Prop) (x1 : Int32) (x2 : Int32) (x3 : Int32) (x4 : Int32) (x5 : Int32) (x6 : Int32) (σ : Mem) : Prop := w_X12_nameOn σ x4 x6 (fun s103 => w_X12_worthOf s103 1 (fun v104 s106 => w_X12_bound s106 v104 (fun v107 s109 => w_X12_put s109 x4 x6 (fun s112 => rec_X12_ways s112 (x1 + 1) x2 (x3 + v107) (fun s115 => w_X12_putBack s115 x6 (fun s118 => w_X12_ways_152 rec_X12_ways Q K83 x1 x2 x3 x4 x5 x6 s118))))))
set_option maxRecDepth 4000 in
set_option maxHeartbeats 2000000 in
theorem t_X12_ways_108 {X : Cx} {d : Nat} {dr : Nat} (hC : mOK X cX12_ways RX12 "ways" none d 0 0) (hd : dr + 3 ≤ d) (hN : ∀ i, i < 8 → i < xN X) (hP : ∀ e ∈ psM, e ∈ xP X) (hT : ∀ e ∈ tsM, e ∈ xT X) {rec_X12_ways : Mem → Int32 → Int32 → Int32 → (Mem → Prop) → Prop} (hrec_X12_ways : ∀ (s : Mem) (z0 : Int32) (z1 : Int32) (z2 : Int32) (q : Mem → Prop), rec_X12_ways s z0 z1 z2 q → mM (xZ X) (xP X) (xT X) yX12_ways cX12_ways 8 none dr 0 0 [.ref ((xB X) + 37), .int z0, .int z1, .int z2] s (qV q)) {Q : Mem → Prop} {K83 : Int32 → Int32 → Int32 → Int32 → Int32 → Int32 → Mem → Prop} (hK83 : ∀ (x1 : Int32) (x2 : Int32) (x3 : Int32) (x4 : Int32) (x5 : Int32) (x6 : Int32) (s : Mem), K83 x1 x2 x3 x4 x5 x6 s → mG X 83 [(0, .ref (xB X + 37)), (1, .int x1), (2, .int x2), (3, .int x3), (4, .int x4), (5, .int x5), (6, .int x6)] [] s 0 0 (mQ X 0 0 (qV Q))) {x1 : Int32} {x2 : Int32} {x3 : Int32} {x4 : Int32} {x5 : Int32} {x6 : Int32} {σ : Mem} (hw : w_X12_ways_108 rec_X12_ways Q K83 x1 x2 x3 x4 x5 x6 σ) : mG X 108 [(0, .ref (xB X + 37)), (1, .int x1), (2, .int x2), (3, .int x3), (4, .int x4), (5, .int x5), (6, .int x6)] [] σ 0 0 (mQ X 0 0 (qV Q)) := by
  refine g_aload_n hC dX12_ways_108 rfl ?_
  refine g_iload hC dX12_ways_109 rfl ?_
  refine g_iload hC dX12_ways_111 rfl ?_
  refine g_known (fun hS => ?_)
  refine mG.st (st1 := ([.int x4, .int x6] : List Value).reverse ++ .ref (xB X + 37) :: []) rfl ?_
  refine g_callV (As := [.int x4, .int x6]) (st := []) hC (hS.2 _ (hT _ tg_M_37)) (by decide) ycl_12_X12_nameOn yw_X12_nameOn yv_X12_nameOn tw_585 dX12_ways_113 (fun _ h => h) (fun _ h => h) (fun h => h) (c_X12_nameOn (d := 1) (Nat.le_refl _) hP hT hw) rfl (Nat.le_of_ble_eq_true rfl) (by omega) (by decide) (by decide) (kV fun s103 hw => ?_)
  refine g_aload_n hC dX12_ways_116 rfl ?_
  refine g_iconst (v := 1) hC dX12_ways_117 (by decide) ?_
  refine g_known (fun hS => ?_)
  refine mG.st (st1 := ([.int 1] : List Value).reverse ++ .ref (xB X + 37) :: []) rfl ?_
  refine g_callV (As := [.int 1]) (st := []) hC (hS.2 _ (hT _ tg_M_37)) (by decide) ycl_12_X12_worthOf yw_X12_worthOf yv_X12_worthOf tw_486 dX12_ways_118 (fun _ h => h) (fun _ h => h) (fun h => h) (c_X12_worthOf (d := 1) (Nat.le_refl _) hP hT hw) rfl (Nat.le_of_ble_eq_true rfl) (by omega) (by decide) (by decide) (kI fun v104 s106 hw => ?_)
  refine mG.st (st1 := ([.int v104] : List Value).reverse ++ []) rfl ?_
  refine g_callS (As := [.int v104]) (st := []) hC yw_X12_bound ys_X12_bound tw_494 dX12_ways_121 (fun _ h => h) (fun _ h => h) (fun h => h) (c_X12_bound (d := 0) (Nat.le_refl _) hw) rfl (Nat.le_of_ble_eq_true rfl) (by omega) (by decide) (by decide) (kI fun v107 s109 hw => ?_)
  refine g_istore (lv' := [(7, .int v107), (0, .ref (xB X + 37)), (1, .int x1), (2, .int x2), (3, .int x3), (4, .int x4), (5, .int x5), (6, .int x6)]) hC dX12_ways_124 (hN 7 (by decide)) rfl ?_
  refine g_aload_n hC dX12_ways_126 rfl ?_
  refine g_iload hC dX12_ways_127 rfl ?_
  refine g_iload hC dX12_ways_129 rfl ?_
  refine g_known (fun hS => ?_)
  refine mG.st (st1 := ([.int x4, .int x6] : List Value).reverse ++ .ref (xB X + 37) :: []) rfl ?_
  refine g_callV (As := [.int x4, .int x6]) (st := []) hC (hS.2 _ (hT _ tg_M_37)) (by decide) ycl_12_X12_put yw_X12_put yv_X12_put tw_610 dX12_ways_131 (fun _ h => h) (fun _ h => h) (fun h => h) (c_X12_put (d := 0) (Nat.le_refl _) hP hT hw) rfl (Nat.le_of_ble_eq_true rfl) (by omega) (by decide) (by decide) (kV fun s112 hw => ?_)
  refine g_aload_n hC dX12_ways_134 rfl ?_
  refine g_iload_n hC dX12_ways_135 rfl ?_
  refine g_iconst (v := 1) hC dX12_ways_136 (by decide) ?_
  refine g_iadd hC dX12_ways_137 ?_
  refine g_iload_n hC dX12_ways_138 rfl ?_
  refine g_iload_n hC dX12_ways_139 rfl ?_
  refine g_iload hC dX12_ways_140 rfl ?_
  refine g_iadd hC dX12_ways_142 ?_
  refine g_known (fun hS => ?_)
  refine mG.st (st1 := ([.int (x1 + 1), .int x2, .int (x3 + v107)] : List Value).reverse ++ .ref (xB X + 37) :: []) rfl ?_
  refine g_callV (As := [.int (x1 + 1), .int x2, .int (x3 + v107)]) (st := []) hC (hS.2 _ (hT _ tg_M_37)) (by decide) ycl_12_X12_ways yw_X12_ways yv_X12_ways tw_618 dX12_ways_143 (fun _ h => h) (fun _ h => h) (fun h => h) (hrec_X12_ways _ _ _ _ _ hw) rfl (Nat.le_of_ble_eq_true rfl) (by omega) (by decide) (by decide) (kV fun s115 hw => ?_)
  refine g_aload_n hC dX12_ways_146 rfl ?_
  refine g_iload hC dX12_ways_147 rfl ?_
  refine g_known (fun hS => ?_)
  refine mG.st (st1 := ([.int x6] : List Value).reverse ++ .ref (xB X + 37) :: []) rfl ?_
  refine g_callV (As := [.int x6]) (st := []) hC (hS.2 _ (hT _ tg_M_37)) (by decide) ycl_12_X12_putBack yw_X12_putBack yv_X12_putBack tw_621 dX12_ways_149 (fun _ h => h) (fun _ h => h) (fun h => h) (c_X12_putBack (d := 0) (Nat.le_refl _) hP hT hw) rfl (Nat.le_of_ble_eq_true rfl) (by omega) (by decide) (by decide) (kV fun s118 hw => ?_)
  refine mG.pick (lv' := [(0, .ref (xB X + 37)), (1, .int x1), (2, .int x2), (3, .int x3), (4, .int x4), (5, .int x5), (6, .int x6)]) [1, 2, 3, 4, 5, 6, 7] rfl ?_
  exact t_X12_ways_152 hC hd hN hP hT hrec_X12_ways hK83 hw
def w_X12_ways_83 (rec_X12_ways : Mem → Int32 → Int32 → Int32 → (Mem → Prop) → Prop) (Q : Mem → Prop) : Nat → Int32 → Int32 → Int32 → Int32 → Int32 → Int32 → Mem → Prop
  | 0, _, _, _, _, _, _, _ => False
  | n + 1, x1, x2, x3, x4, x5, x6, σ => (x5 < x6 → (Q σ)) ∧ (¬ x5 < x6 → ((x6 = x5 → (w_X12_ways_108 rec_X12_ways Q (fun z0 z1 z2 z3 z4 z5 z6 => w_X12_ways_83 rec_X12_ways Q n z0 z1 z2 z3 z4 z5 z6) x1 x2 x3 x4 x5 x6 σ)) ∧ (¬ x6 = x5 → (w_X12_mayLie σ x4 x6 (fun v101 s103 => (v101 = 0 → (w_X12_ways_152 rec_X12_ways Q (fun z0 z1 z2 z3 z4 z5 z6 => w_X12_ways_83 rec_X12_ways Q n z0 z1 z2 z3 z4 z5 z6) x1 x2 x3 x4 x5 x6 s103)) ∧ (¬ v101 = 0 → (w_X12_ways_108 rec_X12_ways Q (fun z0 z1 z2 z3 z4 z5 z6 => w_X12_ways_83 rec_X12_ways Q n z0 z1 z2 z3 z4 z5 z6) x1 x2 x3 x4 x5 x6 s103)))))))
set_option maxRecDepth 4000 in
set_option maxHeartbeats 2000000 in
theorem t_X12_ways_83 {X : Cx} {d : Nat} {dr : Nat} (hC : mOK X cX12_ways RX12 "ways" none d 0 0) (hd : dr + 3 ≤ d) (hN : ∀ i, i < 8 → i < xN X) (hP : ∀ e ∈ psM, e ∈ xP X) (hT : ∀ e ∈ tsM, e ∈ xT X) {rec_X12_ways : Mem → Int32 → Int32 → Int32 → (Mem → Prop) → Prop} (hrec_X12_ways : ∀ (s : Mem) (z0 : Int32) (z1 : Int32) (z2 : Int32) (q : Mem → Prop), rec_X12_ways s z0 z1 z2 q → mM (xZ X) (xP X) (xT X) yX12_ways cX12_ways 8 none dr 0 0 [.ref ((xB X) + 37), .int z0, .int z1, .int z2] s (qV q)) {Q : Mem → Prop} : ∀ (n : Nat) (x1 : Int32) (x2 : Int32) (x3 : Int32) (x4 : Int32) (x5 : Int32) (x6 : Int32) (σ : Mem), w_X12_ways_83 rec_X12_ways Q n x1 x2 x3 x4 x5 x6 σ → mG X 83 [(0, .ref (xB X + 37)), (1, .int x1), (2, .int x2), (3, .int x3), (4, .int x4), (5, .int x5), (6, .int x6)] [] σ 0 0 (mQ X 0 0 (qV Q)) := by
  intro n
  induction n with
  | zero => intro x1 x2 x3 x4 x5 x6 σ hw; exact False.elim hw
  | succ n ih =>
    intro x1 x2 x3 x4 x5 x6 σ hw
    rw [w_X12_ways_83] at hw
    refine g_iload hC dX12_ways_83 rfl ?_
    refine g_iload hC dX12_ways_85 rfl ?_
    refine g_icmp_gt (tgt := 158) hC dX12_ways_87 rfl (fun c => ?_) (fun c => ?_)
    · replace hw := hw.1 c
      exact g_vret hC (by decide) (by decide) dX12_ways_158 (fun _ => ⟨rfl, hw⟩)
    · replace hw := hw.2 c
      refine g_iload hC dX12_ways_90 rfl ?_
      refine g_iload hC dX12_ways_92 rfl ?_
      refine g_icmp_eq (tgt := 108) hC dX12_ways_94 rfl (fun c => ?_) (fun c => ?_)
      · replace hw := hw.1 c
        refine mG.pick (lv' := [(0, .ref (xB X + 37)), (1, .int x1), (2, .int x2), (3, .int x3), (4, .int x4), (5, .int x5), (6, .int x6)]) [0, 1, 2, 3, 4, 5, 6] rfl ?_
        exact t_X12_ways_108 hC hd hN hP hT hrec_X12_ways ih hw
      · replace hw := hw.2 c
        refine g_aload_n hC dX12_ways_97 rfl ?_
        refine g_iload hC dX12_ways_98 rfl ?_
        refine g_iload hC dX12_ways_100 rfl ?_
        refine g_known (fun hS => ?_)
        refine mG.st (st1 := ([.int x4, .int x6] : List Value).reverse ++ .ref (xB X + 37) :: []) rfl ?_
        refine g_callV (As := [.int x4, .int x6]) (st := []) hC (hS.2 _ (hT _ tg_M_37)) (by decide) ycl_12_X12_mayLie yw_X12_mayLie yv_X12_mayLie tw_594 dX12_ways_102 (fun _ h => h) (fun _ h => h) (fun h => h) (c_X12_mayLie (d := 2) (Nat.le_refl _) hP hT hw) rfl (Nat.le_of_ble_eq_true rfl) (by omega) (by decide) (by decide) (kI fun v101 s103 hw => ?_)
        refine g_if_eq (tgt := 152) hC dX12_ways_105 rfl (fun c => ?_) (fun c => ?_)
        · replace hw := hw.1 c
          refine mG.pick (lv' := [(0, .ref (xB X + 37)), (1, .int x1), (2, .int x2), (3, .int x3), (4, .int x4), (5, .int x5), (6, .int x6)]) [0, 1, 2, 3, 4, 5, 6] rfl ?_
          exact t_X12_ways_152 hC hd hN hP hT hrec_X12_ways ih hw
        · replace hw := hw.2 c
          refine mG.pick (lv' := [(0, .ref (xB X + 37)), (1, .int x1), (2, .int x2), (3, .int x3), (4, .int x4), (5, .int x5), (6, .int x6)]) [0, 1, 2, 3, 4, 5, 6] rfl ?_
          exact t_X12_ways_108 hC hd hN hP hT hrec_X12_ways ih hw
def w_X12_ways_35 (rec_X12_ways : Mem → Int32 → Int32 → Int32 → (Mem → Prop) → Prop) (Q : Mem → Prop) (x3 : Int32) (xy0 : Int32) (σ : Mem) : Prop := ((mI σ 37 36) < 0 → (Q (sI (sI σ 37 35 xy0) 37 36 x3))) ∧ (¬ (mI σ 37 36) < 0 → (((mI σ 37 36) ≤ x3 → (Q (sI (sI σ 37 35 xy0) 37 36 (mI σ 37 36)))) ∧ (¬ (mI σ 37 36) ≤ x3 → (Q (sI (sI σ 37 35 xy0) 37 36 x3)))))
set_option maxRecDepth 4000 in
set_option maxHeartbeats 2000000 in
theorem t_X12_ways_35 {X : Cx} {d : Nat} {dr : Nat} (hC : mOK X cX12_ways RX12 "ways" none d 0 0) (hd : dr + 3 ≤ d) (hN : ∀ i, i < 8 → i < xN X) (hP : ∀ e ∈ psM, e ∈ xP X) (hT : ∀ e ∈ tsM, e ∈ xT X) {rec_X12_ways : Mem → Int32 → Int32 → Int32 → (Mem → Prop) → Prop} (hrec_X12_ways : ∀ (s : Mem) (z0 : Int32) (z1 : Int32) (z2 : Int32) (q : Mem → Prop), rec_X12_ways s z0 z1 z2 q → mM (xZ X) (xP X) (xT X) yX12_ways cX12_ways 8 none dr 0 0 [.ref ((xB X) + 37), .int z0, .int z1, .int z2] s (qV q)) {Q : Mem → Prop} {x3 : Int32} {xy0 : Int32} {σ : Mem} (hw : w_X12_ways_35 rec_X12_ways Q x3 xy0 σ) : mG X 35 [(0, .ref (xB X + 37)), (3, .int x3)] [.int xy0, .ref (xB X + 37)] σ 0 0 (mQ X 0 0 (qV Q)) := by
  refine g_putIS hC (fw_X12_259_12 _) (hT _ tg_M_37) rfl rfl dX12_ways_35 ?_
  refine g_aload_n hC dX12_ways_38 rfl ?_
  refine g_aload_n hC dX12_ways_39 rfl ?_
  refine g_getiSv (v := (mI σ 37 36)) hC fl_X12_262_12.s (hT _ tg_M_37) (mI_sI_k _ _ (by decide)) dX12_ways_40 ?_
  refine g_if_lt (tgt := 54) hC dX12_ways_43 rfl (fun c => ?_) (fun c => ?_)
  · replace hw := hw.1 c
    refine g_iload_n hC dX12_ways_54 rfl ?_
    refine g_goto (tgt := 62) hC dX12_ways_55 rfl ?_
    refine g_putIS hC (fw_X12_262_12 _) (hT _ tg_M_37) rfl rfl dX12_ways_62 ?_
    exact g_vret hC (by decide) (by decide) dX12_ways_65 (fun _ => ⟨rfl, hw⟩)
  · replace hw := hw.2 c
    refine g_iload_n hC dX12_ways_46 rfl ?_
    refine g_aload_n hC dX12_ways_47 rfl ?_
    refine g_getiSv (v := (mI σ 37 36)) hC fl_X12_262_12.s (hT _ tg_M_37) (mI_sI_k _ _ (by decide)) dX12_ways_48 ?_
    refine g_icmp_ge (tgt := 58) hC dX12_ways_51 rfl (fun c => ?_) (fun c => ?_)
    · replace hw := hw.1 c
      refine g_aload_n hC dX12_ways_58 rfl ?_
      refine g_getiSv (v := (mI σ 37 36)) hC fl_X12_262_12.s (hT _ tg_M_37) (mI_sI_k _ _ (by decide)) dX12_ways_59 ?_
      refine g_putIS hC (fw_X12_262_12 _) (hT _ tg_M_37) rfl rfl dX12_ways_62 ?_
      exact g_vret hC (by decide) (by decide) dX12_ways_65 (fun _ => ⟨rfl, hw⟩)
    · replace hw := hw.2 c
      refine g_iload_n hC dX12_ways_54 rfl ?_
      refine g_goto (tgt := 62) hC dX12_ways_55 rfl ?_
      refine g_putIS hC (fw_X12_262_12 _) (hT _ tg_M_37) rfl rfl dX12_ways_62 ?_
      exact g_vret hC (by decide) (by decide) dX12_ways_65 (fun _ => ⟨rfl, hw⟩)
def w_X12_ways_24 (rec_X12_ways : Mem → Int32 → Int32 → Int32 → (Mem → Prop) → Prop) (Q : Mem → Prop) (x3 : Int32) (σ : Mem) : Prop := w_X12_ways_35 rec_X12_ways Q x3 (mI σ 37 28) σ
set_option maxRecDepth 4000 in
set_option maxHeartbeats 2000000 in
theorem t_X12_ways_24 {X : Cx} {d : Nat} {dr : Nat} (hC : mOK X cX12_ways RX12 "ways" none d 0 0) (hd : dr + 3 ≤ d) (hN : ∀ i, i < 8 → i < xN X) (hP : ∀ e ∈ psM, e ∈ xP X) (hT : ∀ e ∈ tsM, e ∈ xT X) {rec_X12_ways : Mem → Int32 → Int32 → Int32 → (Mem → Prop) → Prop} (hrec_X12_ways : ∀ (s : Mem) (z0 : Int32) (z1 : Int32) (z2 : Int32) (q : Mem → Prop), rec_X12_ways s z0 z1 z2 q → mM (xZ X) (xP X) (xT X) yX12_ways cX12_ways 8 none dr 0 0 [.ref ((xB X) + 37), .int z0, .int z1, .int z2] s (qV q)) {Q : Mem → Prop} {x3 : Int32} {σ : Mem} (hw : w_X12_ways_24 rec_X12_ways Q x3 σ) : mG X 24 [(0, .ref (xB X + 37)), (3, .int x3)] [.ref (xB X + 37)] σ 0 0 (mQ X 0 0 (qV Q)) := by
  refine g_aload_n hC dX12_ways_24 rfl ?_
  refine g_getiSv (v := (mI σ 37 28)) hC fl_X12_225_12.s (hT _ tg_M_37) rfl dX12_ways_25 ?_
  refine g_goto (tgt := 35) hC dX12_ways_28 rfl ?_
  refine mG.pick (lv' := [(0, .ref (xB X + 37)), (3, .int x3)]) [0, 1] rfl ?_
  exact t_X12_ways_35 hC hd hN hP hT hrec_X12_ways hw
def w_X12_ways (rec_X12_ways : Mem → Int32 → Int32 → Int32 → (Mem → Prop) → Prop) (σ : Mem) (x1 : Int32) (x2 : Int32) (x3 : Int32) (Q : Mem → Prop) : Prop := (¬ x1 = x2 → (vp_in x1 8 ∧ (∀ v101 : Int32, v101 = (mI σ 53 (Int32.toNatClampNeg x1)) → (∃ m102 : Nat, w_X12_ways_83 rec_X12_ways Q m102 x1 x2 x3 v101 (mI σ 37 28) 0 σ)))) ∧ (x1 = x2 → (((mI σ 37 35) < 0 → (w_X12_ways_24 rec_X12_ways Q x3 σ)) ∧ (¬ (mI σ 37 35) < 0 → (((mI σ 37 35) ≤ (mI σ 37 28) → (w_X12_ways_35 rec_X12_ways Q x3 (mI σ 37 35) σ)) ∧ (¬ (mI σ 37 35) ≤ (mI σ 37 28) → (w_X12_ways_24 rec_X12_ways Q x3 σ))))))
set_option maxRecDepth 4000 in
set_option maxHeartbeats 2000000 in
theorem t_X12_ways {X : Cx} {d : Nat} {dr : Nat} (hC : mOK X cX12_ways RX12 "ways" none d 0 0) (hd : dr + 3 ≤ d) (hN : ∀ i, i < 8 → i < xN X) (hP : ∀ e ∈ psM, e ∈ xP X) (hT : ∀ e ∈ tsM, e ∈ xT X) {rec_X12_ways : Mem → Int32 → Int32 → Int32 → (Mem → Prop) → Prop} (hrec_X12_ways : ∀ (s : Mem) (z0 : Int32) (z1 : Int32) (z2 : Int32) (q : Mem → Prop), rec_X12_ways s z0 z1 z2 q → mM (xZ X) (xP X) (xT X) yX12_ways cX12_ways 8 none dr 0 0 [.ref ((xB X) + 37), .int z0, .int z1, .int z2] s (qV q)) {σ : Mem} {x1 : Int32} {x2 : Int32} {x3 : Int32} {Q : Mem → Prop} (hw : w_X12_ways rec_X12_ways σ x1 x2 x3 Q) : mG X 0 [(0, .ref (xB X + 37)), (1, .int x1), (2, .int x2), (3, .int x3)] [] σ 0 0 (mQ X 0 0 (qV Q)) := by
  refine g_iload_n hC dX12_ways_0 rfl ?_
  refine g_iload_n hC dX12_ways_1 rfl ?_
  refine g_icmp_ne (tgt := 66) hC dX12_ways_2 rfl (fun c => ?_) (fun c => ?_)
  · replace hw := hw.1 c
    refine g_aload_n hC dX12_ways_66 rfl ?_
    refine g_getrS hC fl_X12_176_12.s (hT _ tg_M_37) (hP _ pt_M_37_31) dX12_ways_67 ?_
    refine g_iload_n hC dX12_ways_70 rfl ?_
    refine g_ialdSv (v := (mI σ 53 (Int32.toNatClampNeg x1))) hC (hT _ tg_M_53) rfl hw.1 rfl dX12_ways_71 ?_
    replace hw := hw.2
    refine g_topi (fun v101 ev101 => ?_)
    replace hw := hw v101 ev101
    refine g_istore (lv' := [(4, .int v101), (0, .ref (xB X + 37)), (1, .int x1), (2, .int x2), (3, .int x3)]) hC dX12_ways_72 (hN 4 (by decide)) rfl ?_
    refine g_aload_n hC dX12_ways_74 rfl ?_
    refine g_getiSv (v := (mI σ 37 28)) hC fl_X12_225_12.s (hT _ tg_M_37) rfl dX12_ways_75 ?_
    refine g_istore (lv' := [(5, .int (mI σ 37 28)), (4, .int v101), (0, .ref (xB X + 37)), (1, .int x1), (2, .int x2), (3, .int x3)]) hC dX12_ways_78 (hN 5 (by decide)) rfl ?_
    refine g_iconst (v := 0) hC dX12_ways_80 (by decide) ?_
    refine g_istore (lv' := [(6, .int 0), (5, .int (mI σ 37 28)), (4, .int v101), (0, .ref (xB X + 37)), (1, .int x1), (2, .int x2), (3, .int x3)]) hC dX12_ways_81 (hN 6 (by decide)) rfl ?_
    refine mG.pick (lv' := [(0, .ref (xB X + 37)), (1, .int x1), (2, .int x2), (3, .int x3), (4, .int v101), (5, .int (mI σ 37 28)), (6, .int 0)]) [3, 4, 5, 6, 2, 1, 0] rfl ?_
    obtain ⟨m102, hw⟩ := hw
    exact t_X12_ways_83 hC hd hN hP hT hrec_X12_ways m102 _ _ _ _ _ _ _ hw
  · replace hw := hw.2 c
    refine g_aload_n hC dX12_ways_5 rfl ?_
    refine g_aload_n hC dX12_ways_6 rfl ?_
    refine g_getiSv (v := (mI σ 37 35)) hC fl_X12_259_12.s (hT _ tg_M_37) rfl dX12_ways_7 ?_
    refine g_if_lt (tgt := 24) hC dX12_ways_10 rfl (fun c => ?_) (fun c => ?_)
    · replace hw := hw.1 c
      refine mG.pick (lv' := [(0, .ref (xB X + 37)), (3, .int x3)]) [0, 3] rfl ?_
      exact t_X12_ways_24 hC hd hN hP hT hrec_X12_ways hw
    · replace hw := hw.2 c
      refine g_aload_n hC dX12_ways_13 rfl ?_
      refine g_getiSv (v := (mI σ 37 28)) hC fl_X12_225_12.s (hT _ tg_M_37) rfl dX12_ways_14 ?_
      refine g_aload_n hC dX12_ways_17 rfl ?_
      refine g_getiSv (v := (mI σ 37 35)) hC fl_X12_259_12.s (hT _ tg_M_37) rfl dX12_ways_18 ?_
      refine g_icmp_ge (tgt := 31) hC dX12_ways_21 rfl (fun c => ?_) (fun c => ?_)
      · replace hw := hw.1 c
        refine g_aload_n hC dX12_ways_31 rfl ?_
        refine g_getiSv (v := (mI σ 37 35)) hC fl_X12_259_12.s (hT _ tg_M_37) rfl dX12_ways_32 ?_
        refine mG.pick (lv' := [(0, .ref (xB X + 37)), (3, .int x3)]) [0, 3] rfl ?_
        exact t_X12_ways_35 hC hd hN hP hT hrec_X12_ways hw
      · replace hw := hw.2 c
        refine mG.pick (lv' := [(0, .ref (xB X + 37)), (3, .int x3)]) [0, 3] rfl ?_
        exact t_X12_ways_24 hC hd hN hP hT hrec_X12_ways hw
set_option maxRecDepth 4000 in
theorem c_X12_ways {Z : Fx} {ps ts : List (Nat × Nat × Nat)} {d dr : Nat} (hd : dr + 3 ≤ d) {rec_X12_ways : Mem → Int32 → Int32 → Int32 → (Mem → Prop) → Prop} (hrec_X12_ways : ∀ (s : Mem) (z0 : Int32) (z1 : Int32) (z2 : Int32) (q : Mem → Prop), rec_X12_ways s z0 z1 z2 q → mM Z ps ts yX12_ways cX12_ways 8 none dr 0 0 [.ref (Z.2.2 + 37), .int z0, .int z1, .int z2] s (qV q)) (hP : ∀ e ∈ psM, e ∈ ps) (hT : ∀ e ∈ tsM, e ∈ ts) {σ : Mem} {x1 : Int32} {x2 : Int32} {x3 : Int32} {Q : Mem → Prop} (hw : w_X12_ways rec_X12_ways σ x1 x2 x3 Q) : mM Z ps ts yX12_ways cX12_ways 8 none d 0 0 [.ref (Z.2.2 + 37), .int x1, .int x2, .int x3] σ (qV Q) := by
  refine mM.of (by decide) (Nat.le_of_ble_eq_true rfl) rfl (fun X hZ hp ht hn hC => ?_)
  subst hZ; subst hp; subst ht
  exact t_X12_ways hC hd (fun i h => by rw [hn]; exact h) hP hT hrec_X12_ways hw
def f_X12_ways : Nat → Mem → Int32 → Int32 → Int32 → (Mem → Prop) → Prop
  | 0, _, _, _, _, _ => False
  | n + 1, σ, x1, x2, x3, Q => w_X12_ways (f_X12_ways n) σ x1 x2 x3 Q
theorem cf_X12_ways {Z : Fx} {ps ts : List (Nat × Nat × Nat)} (n : Nat) (hP : ∀ e ∈ psM, e ∈ ps) (hT : ∀ e ∈ tsM, e ∈ ts) : ∀ {σ : Mem} {x1 : Int32} {x2 : Int32} {x3 : Int32} {Q : Mem → Prop}, f_X12_ways n σ x1 x2 x3 Q → mM Z ps ts yX12_ways cX12_ways 8 none (3 * (n + 1)) 0 0 [.ref (Z.2.2 + 37), .int x1, .int x2, .int x3] σ (qV Q) := by
  induction n with
  | zero => intro σ x1 x2 x3 Q hw; exact False.elim hw
  | succ n ih =>
    intro σ x1 x2 x3 Q hw
    rw [f_X12_ways] at hw
    exact c_X12_ways (dr := 3 * (n + 1)) (by omega) (fun s z0 z1 z2 q h => ih h) hP hT hw
def w_X12_goThrough (σ : Mem) (x1 : Int32) (Q : Mem → Prop) : Prop := ∃ m104 : Nat, m104 ≤ 12 ∧ f_X12_ways m104 (sI (sI (sI σ 37 28 0) 37 35 (-1)) 37 36 (-1)) 0 x1 0 (fun s103 => Q s103)
set_option maxRecDepth 4000 in
set_option maxHeartbeats 2000000 in
theorem t_X12_goThrough {X : Cx} {d : Nat} (hC : mOK X cX12_goThrough RX12 "goThrough" none d 0 0) (hd : 40 ≤ d) (hN : ∀ i, i < 2 → i < xN X) (hP : ∀ e ∈ psM, e ∈ xP X) (hT : ∀ e ∈ tsM, e ∈ xT X) {σ : Mem} {x1 : Int32} {Q : Mem → Prop} (hw : w_X12_goThrough σ x1 Q) : mG X 0 [(0, .ref (xB X + 37)), (1, .int x1)] [] σ 0 0 (mQ X 0 0 (qV Q)) := by
  refine g_aload_n hC dX12_goThrough_0 rfl ?_
  refine g_iconst (v := 0) hC dX12_goThrough_1 (by decide) ?_
  refine g_putIS hC (fw_X12_225_12 _) (hT _ tg_M_37) rfl rfl dX12_goThrough_2 ?_
  refine g_aload_n hC dX12_goThrough_5 rfl ?_
  refine g_iconst (v := (-1)) hC dX12_goThrough_6 (by decide) ?_
  refine g_putIS hC (fw_X12_259_12 _) (hT _ tg_M_37) rfl rfl dX12_goThrough_7 ?_
  refine g_aload_n hC dX12_goThrough_10 rfl ?_
  refine g_iconst (v := (-1)) hC dX12_goThrough_11 (by decide) ?_
  refine g_putIS hC (fw_X12_262_12 _) (hT _ tg_M_37) rfl rfl dX12_goThrough_12 ?_
  refine g_aload_n hC dX12_goThrough_15 rfl ?_
  refine g_iconst (v := 0) hC dX12_goThrough_16 (by decide) ?_
  refine g_iload_n hC dX12_goThrough_17 rfl ?_
  refine g_iconst (v := 0) hC dX12_goThrough_18 (by decide) ?_
  refine g_known (fun hS => ?_)
  obtain ⟨m104, hn, hw⟩ := hw
  refine mG.st (st1 := ([.int 0, .int x1, .int 0] : List Value).reverse ++ .ref (xB X + 37) :: []) rfl ?_
  refine g_callV (As := [.int 0, .int x1, .int 0]) (st := []) hC (hS.2 _ (hT _ tg_M_37)) (by decide) ycl_12_X12_ways yw_X12_ways yv_X12_ways tw_618 dX12_goThrough_19 (fun _ h => h) (fun _ h => h) (fun h => h) (cf_X12_ways m104 hP hT hw) rfl (Nat.le_of_ble_eq_true rfl) (by omega) (by decide) (by decide) (kV fun s103 hw => ?_)
  exact g_vret hC (by decide) (by decide) dX12_goThrough_22 (fun _ => ⟨rfl, hw⟩)
set_option maxRecDepth 4000 in
theorem c_X12_goThrough {Z : Fx} {ps ts : List (Nat × Nat × Nat)} {d : Nat} (hd : 40 ≤ d) (hP : ∀ e ∈ psM, e ∈ ps) (hT : ∀ e ∈ tsM, e ∈ ts) {σ : Mem} {x1 : Int32} {Q : Mem → Prop} (hw : w_X12_goThrough σ x1 Q) : mM Z ps ts yX12_goThrough cX12_goThrough 2 none d 0 0 [.ref (Z.2.2 + 37), .int x1] σ (qV Q) := by
  refine mM.of (by decide) (Nat.le_of_ble_eq_true rfl) rfl (fun X hZ hp ht hn hC => ?_)
  subst hZ; subst hp; subst ht
  exact t_X12_goThrough hC hd (fun i h => by rw [hn]; exact h) hP hT hw
def w_X12_fewest (σ : Mem) (x1 : Int32) (Q : Int32 → Mem → Prop) : Prop := w_X12_isIn σ x1 0 1 (fun v101 s103 => (¬ v101 = 0 → (w_X12_goThrough s103 (mI s103 37 0) (fun s106 => (¬ x1 = 0 → (Q (mI s106 37 36) s106)) ∧ (x1 = 0 → (Q (mI s106 37 35) s106))))) ∧ (v101 = 0 → (Q (-2) s103)))
set_option maxRecDepth 4000 in
set_option maxHeartbeats 2000000 in
theorem t_X12_fewest {X : Cx} {d : Nat} (hC : mOK X cX12_fewest RX12 "fewest" (some .int) d 0 0) (hd : 41 ≤ d) (hN : ∀ i, i < 2 → i < xN X) (hP : ∀ e ∈ psM, e ∈ xP X) (hT : ∀ e ∈ tsM, e ∈ xT X) {σ : Mem} {x1 : Int32} {Q : Int32 → Mem → Prop} (hw : w_X12_fewest σ x1 Q) : mG X 0 [(0, .ref (xB X + 37)), (1, .int x1)] [] σ 0 0 (mQ X 0 0 (qI Q)) := by
  refine g_iload_n hC dX12_fewest_0 rfl ?_
  refine g_iconst (v := 0) hC dX12_fewest_1 (by decide) ?_
  refine g_iconst (v := 1) hC dX12_fewest_2 (by decide) ?_
  refine mG.st (st1 := ([.int x1, .int 0, .int 1] : List Value).reverse ++ []) rfl ?_
  refine g_callS (As := [.int x1, .int 0, .int 1]) (st := []) hC yw_X12_isIn ys_X12_isIn tw_465 dX12_fewest_3 (fun _ h => h) (fun _ h => h) (fun h => h) (c_X12_isIn (d := 0) (Nat.le_refl _) hw) rfl (Nat.le_of_ble_eq_true rfl) (by omega) (by decide) (by decide) (kI fun v101 s103 hw => ?_)
  refine g_if_ne (tgt := 12) hC dX12_fewest_6 rfl (fun c => ?_) (fun c => ?_)
  · replace hw := hw.1 c
    refine g_aload_n hC dX12_fewest_12 rfl ?_
    refine g_aload_n hC dX12_fewest_13 rfl ?_
    refine g_getiSv (v := (mI s103 37 0)) hC fl_X12_1_12.s (hT _ tg_M_37) rfl dX12_fewest_14 ?_
    refine g_known (fun hS => ?_)
    refine mG.st (st1 := ([.int (mI s103 37 0)] : List Value).reverse ++ .ref (xB X + 37) :: []) rfl ?_
    refine g_callV (As := [.int (mI s103 37 0)]) (st := []) hC (hS.2 _ (hT _ tg_M_37)) (by decide) ycl_12_X12_goThrough yw_X12_goThrough yv_X12_goThrough tw_628 dX12_fewest_17 (fun _ h => h) (fun _ h => h) (fun h => h) (c_X12_goThrough (d := 40) (Nat.le_refl _) hP hT hw) rfl (Nat.le_of_ble_eq_true rfl) (by omega) (by decide) (by decide) (kV fun s106 hw => ?_)
    refine g_iload_n hC dX12_fewest_20 rfl ?_
    refine g_if_ne (tgt := 31) hC dX12_fewest_21 rfl (fun c => ?_) (fun c => ?_)
    · replace hw := hw.1 c
      refine g_aload_n hC dX12_fewest_31 rfl ?_
      refine g_getiSv (v := (mI s106 37 36)) hC fl_X12_262_12.s (hT _ tg_M_37) rfl dX12_fewest_32 ?_
      exact g_iret hC rfl (by decide) (by decide) dX12_fewest_35 (fun _ => ⟨_, rfl, hw⟩)
    · replace hw := hw.2 c
      refine g_aload_n hC dX12_fewest_24 rfl ?_
      refine g_getiSv (v := (mI s106 37 35)) hC fl_X12_259_12.s (hT _ tg_M_37) rfl dX12_fewest_25 ?_
      refine g_goto (tgt := 35) hC dX12_fewest_28 rfl ?_
      exact g_iret hC rfl (by decide) (by decide) dX12_fewest_35 (fun _ => ⟨_, rfl, hw⟩)
  · replace hw := hw.2 c
    refine g_bipush (v := (-2)) hC dX12_fewest_9 (by decide) ?_
    exact g_iret hC rfl (by decide) (by decide) dX12_fewest_11 (fun _ => ⟨_, rfl, hw⟩)
set_option maxRecDepth 4000 in
theorem c_X12_fewest {Z : Fx} {ps ts : List (Nat × Nat × Nat)} {d : Nat} (hd : 41 ≤ d) (hP : ∀ e ∈ psM, e ∈ ps) (hT : ∀ e ∈ tsM, e ∈ ts) {σ : Mem} {x1 : Int32} {Q : Int32 → Mem → Prop} (hw : w_X12_fewest σ x1 Q) : mM Z ps ts yX12_fewest cX12_fewest 2 (some .int) d 0 0 [.ref (Z.2.2 + 37), .int x1] σ (qI Q) := by
  refine mM.of (by decide) (Nat.le_of_ble_eq_true rfl) rfl (fun X hZ hp ht hn hC => ?_)
  subst hZ; subst hp; subst ht
  exact t_X12_fewest hC hd (fun i h => by rw [hn]; exact h) hP hT hw
def w_X12_less_142 (Q : Int32 → Mem → Prop) (K30 : Int32 → Int32 → Int32 → Int32 → Mem → Prop) (x1 : Int32) (x2 : Int32) (x4 : Int32) (xy0 : Int32) (σ : Mem) : Prop := w_X12_asTheyCame σ (fun s103 => K30 x1 x2 xy0 (x4 + 1) s103)
set_option maxRecDepth 4000 in
set_option maxHeartbeats 2000000 in
theorem t_X12_less_142 {X : Cx} {d : Nat} (hC : mOK X cX12_less RX12 "less" (some .int) d 0 0) (hd : 41 ≤ d) (hN : ∀ i, i < 6 → i < xN X) (hP : ∀ e ∈ psM, e ∈ xP X) (hT : ∀ e ∈ tsM, e ∈ xT X) {Q : Int32 → Mem → Prop} {K30 : Int32 → Int32 → Int32 → Int32 → Mem → Prop} (hK30 : ∀ (x1 : Int32) (x2 : Int32) (x3 : Int32) (x4 : Int32) (s : Mem), K30 x1 x2 x3 x4 s → mG X 30 [(0, .ref (xB X + 37)), (1, .int x1), (2, .int x2), (3, .int x3), (4, .int x4)] [] s 0 0 (mQ X 0 0 (qI Q))) {x1 : Int32} {x2 : Int32} {x4 : Int32} {xy0 : Int32} {σ : Mem} (hw : w_X12_less_142 Q K30 x1 x2 x4 xy0 σ) : mG X 142 [(0, .ref (xB X + 37)), (1, .int x1), (2, .int x2), (4, .int x4)] [.int xy0] σ 0 0 (mQ X 0 0 (qI Q)) := by
  refine g_istore_n (lv' := [(3, .int xy0), (0, .ref (xB X + 37)), (1, .int x1), (2, .int x2), (4, .int x4)]) hC dX12_less_142 (hN 3 (by decide)) rfl ?_
  refine g_aload_n hC dX12_less_143 rfl ?_
  refine g_known (fun hS => ?_)
  refine mG.st (st1 := ([] : List Value).reverse ++ .ref (xB X + 37) :: []) rfl ?_
  refine g_callV (As := []) (st := []) hC (hS.2 _ (hT _ tg_M_37)) (by decide) ycl_12_X12_asTheyCame yw_X12_asTheyCame yv_X12_asTheyCame tw_632 dX12_less_144 (fun _ h => h) (fun _ h => h) (fun h => h) (c_X12_asTheyCame (d := 0) (Nat.le_refl _) hP hT hw) rfl (Nat.le_of_ble_eq_true rfl) (by omega) (by decide) (by decide) (kV fun s103 hw => ?_)
  refine g_iinc (v := x4 + 1) (lv' := [(4, .int (x4 + 1)), (3, .int xy0), (0, .ref (xB X + 37)), (1, .int x1), (2, .int x2)]) hC dX12_less_147 rfl rfl (hN 4 (by decide)) rfl ?_
  refine g_goto (tgt := 30) hC dX12_less_150 rfl ?_
  refine mG.pick (lv' := [(0, .ref (xB X + 37)), (1, .int x1), (2, .int x2), (3, .int xy0), (4, .int (x4 + 1))]) [2, 3, 4, 1, 0] rfl ?_
  exact hK30 _ _ _ _ _ hw
def w_X12_less_125 (Q : Int32 → Mem → Prop) (K30 : Int32 → Int32 → Int32 → Int32 → Mem → Prop) (x1 : Int32) (x2 : Int32) (x4 : Int32) (xy0 : Int32) (σ : Mem) : Prop := w_X12_goThrough σ xy0 (fun s103 => (x2 ≤ (mI s103 37 35) → (w_X12_less_142 Q K30 x1 x2 x4 (-1) s103)) ∧ (¬ x2 ≤ (mI s103 37 35) → (w_X12_less_142 Q K30 x1 x2 x4 x4 s103)))
set_option maxRecDepth 4000 in
set_option maxHeartbeats 2000000 in
theorem t_X12_less_125 {X : Cx} {d : Nat} (hC : mOK X cX12_less RX12 "less" (some .int) d 0 0) (hd : 41 ≤ d) (hN : ∀ i, i < 6 → i < xN X) (hP : ∀ e ∈ psM, e ∈ xP X) (hT : ∀ e ∈ tsM, e ∈ xT X) {Q : Int32 → Mem → Prop} {K30 : Int32 → Int32 → Int32 → Int32 → Mem → Prop} (hK30 : ∀ (x1 : Int32) (x2 : Int32) (x3 : Int32) (x4 : Int32) (s : Mem), K30 x1 x2 x3 x4 s → mG X 30 [(0, .ref (xB X + 37)), (1, .int x1), (2, .int x2), (3, .int x3), (4, .int x4)] [] s 0 0 (mQ X 0 0 (qI Q))) {x1 : Int32} {x2 : Int32} {x4 : Int32} {xy0 : Int32} {σ : Mem} (hw : w_X12_less_125 Q K30 x1 x2 x4 xy0 σ) : mG X 125 [(0, .ref (xB X + 37)), (1, .int x1), (2, .int x2), (4, .int x4)] [.int xy0, .ref (xB X + 37)] σ 0 0 (mQ X 0 0 (qI Q)) := by
  refine g_known (fun hS => ?_)
  refine mG.st (st1 := ([.int xy0] : List Value).reverse ++ .ref (xB X + 37) :: []) rfl ?_
  refine g_callV (As := [.int xy0]) (st := []) hC (hS.2 _ (hT _ tg_M_37)) (by decide) ycl_12_X12_goThrough yw_X12_goThrough yv_X12_goThrough tw_628 dX12_less_125 (fun _ h => h) (fun _ h => h) (fun h => h) (c_X12_goThrough (d := 40) (Nat.le_refl _) hP hT hw) rfl (Nat.le_of_ble_eq_true rfl) (by omega) (by decide) (by decide) (kV fun s103 hw => ?_)
  refine g_aload_n hC dX12_less_128 rfl ?_
  refine g_getiSv (v := (mI s103 37 35)) hC fl_X12_259_12.s (hT _ tg_M_37) rfl dX12_less_129 ?_
  refine g_iload_n hC dX12_less_132 rfl ?_
  refine g_icmp_ge (tgt := 141) hC dX12_less_133 rfl (fun c => ?_) (fun c => ?_)
  · replace hw := hw.1 c
    refine g_iconst (v := (-1)) hC dX12_less_141 (by decide) ?_
    refine mG.pick (lv' := [(0, .ref (xB X + 37)), (1, .int x1), (2, .int x2), (4, .int x4)]) [0, 1, 2, 3] rfl ?_
    exact t_X12_less_142 hC hd hN hP hT hK30 hw
  · replace hw := hw.2 c
    refine g_iload hC dX12_less_136 rfl ?_
    refine g_goto (tgt := 142) hC dX12_less_138 rfl ?_
    refine mG.pick (lv' := [(0, .ref (xB X + 37)), (1, .int x1), (2, .int x2), (4, .int x4)]) [0, 1, 2, 3] rfl ?_
    exact t_X12_less_142 hC hd hN hP hT hK30 hw
def w_X12_less_107 (Q : Int32 → Mem → Prop) (K30 : Int32 → Int32 → Int32 → Int32 → Mem → Prop) (x1 : Int32) (x2 : Int32) (x4 : Int32) (σ : Mem) : Prop := (¬ x1 = 0 → (w_X12_less_125 Q K30 x1 x2 x4 (mI σ 37 0) σ)) ∧ (x1 = 0 → (w_X12_less_125 Q K30 x1 x2 x4 ((mI σ 37 0) - 1) σ))
set_option maxRecDepth 4000 in
set_option maxHeartbeats 2000000 in
theorem t_X12_less_107 {X : Cx} {d : Nat} (hC : mOK X cX12_less RX12 "less" (some .int) d 0 0) (hd : 41 ≤ d) (hN : ∀ i, i < 6 → i < xN X) (hP : ∀ e ∈ psM, e ∈ xP X) (hT : ∀ e ∈ tsM, e ∈ xT X) {Q : Int32 → Mem → Prop} {K30 : Int32 → Int32 → Int32 → Int32 → Mem → Prop} (hK30 : ∀ (x1 : Int32) (x2 : Int32) (x3 : Int32) (x4 : Int32) (s : Mem), K30 x1 x2 x3 x4 s → mG X 30 [(0, .ref (xB X + 37)), (1, .int x1), (2, .int x2), (3, .int x3), (4, .int x4)] [] s 0 0 (mQ X 0 0 (qI Q))) {x1 : Int32} {x2 : Int32} {x4 : Int32} {σ : Mem} (hw : w_X12_less_107 Q K30 x1 x2 x4 σ) : mG X 107 [(0, .ref (xB X + 37)), (1, .int x1), (2, .int x2), (4, .int x4)] [] σ 0 0 (mQ X 0 0 (qI Q)) := by
  refine g_aload_n hC dX12_less_107 rfl ?_
  refine g_iload_n hC dX12_less_108 rfl ?_
  refine g_if_ne (tgt := 121) hC dX12_less_109 rfl (fun c => ?_) (fun c => ?_)
  · replace hw := hw.1 c
    refine g_aload_n hC dX12_less_121 rfl ?_
    refine g_getiSv (v := (mI σ 37 0)) hC fl_X12_1_12.s (hT _ tg_M_37) rfl dX12_less_122 ?_
    refine mG.pick (lv' := [(0, .ref (xB X + 37)), (1, .int x1), (2, .int x2), (4, .int x4)]) [0, 1, 2, 3] rfl ?_
    exact t_X12_less_125 hC hd hN hP hT hK30 hw
  · replace hw := hw.2 c
    refine g_aload_n hC dX12_less_112 rfl ?_
    refine g_getiSv (v := (mI σ 37 0)) hC fl_X12_1_12.s (hT _ tg_M_37) rfl dX12_less_113 ?_
    refine g_iconst (v := 1) hC dX12_less_116 (by decide) ?_
    refine g_isub hC dX12_less_117 ?_
    refine g_goto (tgt := 125) hC dX12_less_118 rfl ?_
    refine mG.pick (lv' := [(0, .ref (xB X + 37)), (1, .int x1), (2, .int x2), (4, .int x4)]) [0, 1, 2, 3] rfl ?_
    exact t_X12_less_125 hC hd hN hP hT hK30 hw
def w_X12_less_54 (Q : Int32 → Mem → Prop) (K30 : Int32 → Int32 → Int32 → Int32 → Mem → Prop) : Nat → Int32 → Int32 → Int32 → Int32 → Mem → Prop
  | 0, _, _, _, _, _ => False
  | n + 1, x1, x2, x4, x5, σ => (((mI σ 37 0) - 1) ≤ x5 → (w_X12_less_107 Q K30 x1 x2 x4 σ)) ∧ (¬ ((mI σ 37 0) - 1) ≤ x5 → (vp_in x5 8 ∧ (w_X12_less_54 Q K30 n x1 x2 x4 (x5 + 1) (sI σ 53 (Int32.toNatClampNeg x5) (x5 + 1)))))
set_option maxRecDepth 4000 in
set_option maxHeartbeats 2000000 in
theorem t_X12_less_54 {X : Cx} {d : Nat} (hC : mOK X cX12_less RX12 "less" (some .int) d 0 0) (hd : 41 ≤ d) (hN : ∀ i, i < 6 → i < xN X) (hP : ∀ e ∈ psM, e ∈ xP X) (hT : ∀ e ∈ tsM, e ∈ xT X) {Q : Int32 → Mem → Prop} {K30 : Int32 → Int32 → Int32 → Int32 → Mem → Prop} (hK30 : ∀ (x1 : Int32) (x2 : Int32) (x3 : Int32) (x4 : Int32) (s : Mem), K30 x1 x2 x3 x4 s → mG X 30 [(0, .ref (xB X + 37)), (1, .int x1), (2, .int x2), (3, .int x3), (4, .int x4)] [] s 0 0 (mQ X 0 0 (qI Q))) : ∀ (n : Nat) (x1 : Int32) (x2 : Int32) (x4 : Int32) (x5 : Int32) (σ : Mem), w_X12_less_54 Q K30 n x1 x2 x4 x5 σ → mG X 54 [(0, .ref (xB X + 37)), (1, .int x1), (2, .int x2), (4, .int x4), (5, .int x5)] [] σ 0 0 (mQ X 0 0 (qI Q)) := by
  intro n
  induction n with
  | zero => intro x1 x2 x4 x5 σ hw; exact False.elim hw
  | succ n ih =>
    intro x1 x2 x4 x5 σ hw
    rw [w_X12_less_54] at hw
    refine g_iload hC dX12_less_54 rfl ?_
    refine g_aload_n hC dX12_less_56 rfl ?_
    refine g_getiSv (v := (mI σ 37 0)) hC fl_X12_1_12.s (hT _ tg_M_37) rfl dX12_less_57 ?_
    refine g_iconst (v := 1) hC dX12_less_60 (by decide) ?_
    refine g_isub hC dX12_less_61 ?_
    refine g_icmp_ge (tgt := 82) hC dX12_less_62 rfl (fun c => ?_) (fun c => ?_)
    · replace hw := hw.1 c
      refine g_goto (tgt := 107) hC dX12_less_82 rfl ?_
      refine mG.pick (lv' := [(0, .ref (xB X + 37)), (1, .int x1), (2, .int x2), (4, .int x4)]) [0, 1, 2, 3] rfl ?_
      exact t_X12_less_107 hC hd hN hP hT hK30 hw
    · replace hw := hw.2 c
      refine g_aload_n hC dX12_less_65 rfl ?_
      refine g_getrS hC fl_X12_176_12.s (hT _ tg_M_37) (hP _ pt_M_37_31) dX12_less_66 ?_
      refine g_iload hC dX12_less_69 rfl ?_
      refine g_iload hC dX12_less_71 rfl ?_
      refine g_iconst (v := 1) hC dX12_less_73 (by decide) ?_
      refine g_iadd hC dX12_less_74 ?_
      have hin := hw.1
      replace hw := hw.2
      refine g_iastS (k := (Int32.toNatClampNeg x5)) hC (hT _ tg_M_53) rfl hin dX12_less_75 ?_
      refine g_iinc (v := x5 + 1) (lv' := [(5, .int (x5 + 1)), (0, .ref (xB X + 37)), (1, .int x1), (2, .int x2), (4, .int x4)]) hC dX12_less_76 rfl rfl (hN 5 (by decide)) rfl ?_
      refine g_goto (tgt := 54) hC dX12_less_79 rfl ?_
      refine mG.pick (lv' := [(0, .ref (xB X + 37)), (1, .int x1), (2, .int x2), (4, .int x4), (5, .int (x5 + 1))]) [1, 2, 3, 4, 0] rfl ?_
      exact ih _ _ _ _ _ hw
def w_X12_less_30 (Q : Int32 → Mem → Prop) : Nat → Int32 → Int32 → Int32 → Int32 → Mem → Prop
  | 0, _, _, _, _, _ => False
  | n + 1, x1, x2, x3, x4, σ => (((mI σ 37 0) - x1) ≤ x4 → (Q x3 σ)) ∧ (¬ ((mI σ 37 0) - x1) ≤ x4 → ((¬ x3 = (-1) → (Q x3 σ)) ∧ (x3 = (-1) → ((¬ x1 = 0 → (vp_in x4 8 ∧ (vp_in (x4 + 1) 8 ∧ (w_X12_less_107 Q (fun z0 z1 z2 z3 z4 => w_X12_less_30 Q n z0 z1 z2 z3 z4) x1 x2 x4 (sI (sI σ 53 (Int32.toNatClampNeg x4) (x4 + 1)) 53 (Int32.toNatClampNeg (x4 + 1)) x4))))) ∧ (x1 = 0 → (∃ m101 : Nat, w_X12_less_54 Q (fun z0 z1 z2 z3 z4 => w_X12_less_30 Q n z0 z1 z2 z3 z4) m101 x1 x2 x4 x4 σ))))))
set_option maxRecDepth 4000 in
set_option maxHeartbeats 2000000 in
theorem t_X12_less_30 {X : Cx} {d : Nat} (hC : mOK X cX12_less RX12 "less" (some .int) d 0 0) (hd : 41 ≤ d) (hN : ∀ i, i < 6 → i < xN X) (hP : ∀ e ∈ psM, e ∈ xP X) (hT : ∀ e ∈ tsM, e ∈ xT X) {Q : Int32 → Mem → Prop} : ∀ (n : Nat) (x1 : Int32) (x2 : Int32) (x3 : Int32) (x4 : Int32) (σ : Mem), w_X12_less_30 Q n x1 x2 x3 x4 σ → mG X 30 [(0, .ref (xB X + 37)), (1, .int x1), (2, .int x2), (3, .int x3), (4, .int x4)] [] σ 0 0 (mQ X 0 0 (qI Q)) := by
  intro n
  induction n with
  | zero => intro x1 x2 x3 x4 σ hw; exact False.elim hw
  | succ n ih =>
    intro x1 x2 x3 x4 σ hw
    rw [w_X12_less_30] at hw
    refine g_iload hC dX12_less_30 rfl ?_
    refine g_aload_n hC dX12_less_32 rfl ?_
    refine g_getiSv (v := (mI σ 37 0)) hC fl_X12_1_12.s (hT _ tg_M_37) rfl dX12_less_33 ?_
    refine g_iload_n hC dX12_less_36 rfl ?_
    refine g_isub hC dX12_less_37 ?_
    refine g_icmp_ge (tgt := 153) hC dX12_less_38 rfl (fun c => ?_) (fun c => ?_)
    · replace hw := hw.1 c
      refine g_iload_n hC dX12_less_153 rfl ?_
      exact g_iret hC rfl (by decide) (by decide) dX12_less_154 (fun _ => ⟨_, rfl, hw⟩)
    · replace hw := hw.2 c
      refine g_iload_n hC dX12_less_41 rfl ?_
      refine g_iconst (v := (-1)) hC dX12_less_42 (by decide) ?_
      refine g_icmp_ne (tgt := 153) hC dX12_less_43 rfl (fun c => ?_) (fun c => ?_)
      · replace hw := hw.1 c
        refine g_iload_n hC dX12_less_153 rfl ?_
        exact g_iret hC rfl (by decide) (by decide) dX12_less_154 (fun _ => ⟨_, rfl, hw⟩)
      · replace hw := hw.2 c
        refine g_iload_n hC dX12_less_46 rfl ?_
        refine g_if_ne (tgt := 85) hC dX12_less_47 rfl (fun c => ?_) (fun c => ?_)
        · replace hw := hw.1 c
          refine g_aload_n hC dX12_less_85 rfl ?_
          refine g_getrS hC fl_X12_176_12.s (hT _ tg_M_37) (hP _ pt_M_37_31) dX12_less_86 ?_
          refine g_iload hC dX12_less_89 rfl ?_
          refine g_iload hC dX12_less_91 rfl ?_
          refine g_iconst (v := 1) hC dX12_less_93 (by decide) ?_
          refine g_iadd hC dX12_less_94 ?_
          have hin := hw.1
          replace hw := hw.2
          refine g_iastS (k := (Int32.toNatClampNeg x4)) hC (hT _ tg_M_53) rfl hin dX12_less_95 ?_
          refine g_aload_n hC dX12_less_96 rfl ?_
          refine g_getrS hC fl_X12_176_12.s (hT _ tg_M_37) (hP _ pt_M_37_31) dX12_less_97 ?_
          refine g_iload hC dX12_less_100 rfl ?_
          refine g_iconst (v := 1) hC dX12_less_102 (by decide) ?_
          refine g_iadd hC dX12_less_103 ?_
          refine g_iload hC dX12_less_104 rfl ?_
          have hin := hw.1
          replace hw := hw.2
          refine g_iastS (k := (Int32.toNatClampNeg (x4 + 1))) hC (hT _ tg_M_53) rfl hin dX12_less_106 ?_
          refine mG.pick (lv' := [(0, .ref (xB X + 37)), (1, .int x1), (2, .int x2), (4, .int x4)]) [0, 1, 2, 4] rfl ?_
          exact t_X12_less_107 hC hd hN hP hT ih hw
        · replace hw := hw.2 c
          refine g_iload hC dX12_less_50 rfl ?_
          refine g_istore (lv' := [(5, .int x4), (0, .ref (xB X + 37)), (1, .int x1), (2, .int x2), (3, .int x3), (4, .int x4)]) hC dX12_less_52 (hN 5 (by decide)) rfl ?_
          refine mG.pick (lv' := [(0, .ref (xB X + 37)), (1, .int x1), (2, .int x2), (4, .int x4), (5, .int x4)]) [1, 2, 3, 5, 0] rfl ?_
          obtain ⟨m101, hw⟩ := hw
          exact t_X12_less_54 hC hd hN hP hT ih m101 _ _ _ _ _ hw
def w_X12_less (σ : Mem) (x1 : Int32) (Q : Int32 → Mem → Prop) : Prop := w_X12_isIn σ x1 0 1 (fun v101 s103 => (¬ v101 = 0 → (w_X12_goThrough s103 (mI s103 37 0) (fun s106 => ∃ m107 : Nat, w_X12_less_30 Q m107 x1 (mI s106 37 35) (-1) 0 s106))) ∧ (v101 = 0 → (Q (-2) s103)))
set_option maxRecDepth 4000 in
set_option maxHeartbeats 2000000 in
theorem t_X12_less {X : Cx} {d : Nat} (hC : mOK X cX12_less RX12 "less" (some .int) d 0 0) (hd : 41 ≤ d) (hN : ∀ i, i < 6 → i < xN X) (hP : ∀ e ∈ psM, e ∈ xP X) (hT : ∀ e ∈ tsM, e ∈ xT X) {σ : Mem} {x1 : Int32} {Q : Int32 → Mem → Prop} (hw : w_X12_less σ x1 Q) : mG X 0 [(0, .ref (xB X + 37)), (1, .int x1)] [] σ 0 0 (mQ X 0 0 (qI Q)) := by
  refine g_iload_n hC dX12_less_0 rfl ?_
  refine g_iconst (v := 0) hC dX12_less_1 (by decide) ?_
  refine g_iconst (v := 1) hC dX12_less_2 (by decide) ?_
  refine mG.st (st1 := ([.int x1, .int 0, .int 1] : List Value).reverse ++ []) rfl ?_
  refine g_callS (As := [.int x1, .int 0, .int 1]) (st := []) hC yw_X12_isIn ys_X12_isIn tw_465 dX12_less_3 (fun _ h => h) (fun _ h => h) (fun h => h) (c_X12_isIn (d := 0) (Nat.le_refl _) hw) rfl (Nat.le_of_ble_eq_true rfl) (by omega) (by decide) (by decide) (kI fun v101 s103 hw => ?_)
  refine g_if_ne (tgt := 12) hC dX12_less_6 rfl (fun c => ?_) (fun c => ?_)
  · replace hw := hw.1 c
    refine g_aload_n hC dX12_less_12 rfl ?_
    refine g_aload_n hC dX12_less_13 rfl ?_
    refine g_getiSv (v := (mI s103 37 0)) hC fl_X12_1_12.s (hT _ tg_M_37) rfl dX12_less_14 ?_
    refine g_known (fun hS => ?_)
    refine mG.st (st1 := ([.int (mI s103 37 0)] : List Value).reverse ++ .ref (xB X + 37) :: []) rfl ?_
    refine g_callV (As := [.int (mI s103 37 0)]) (st := []) hC (hS.2 _ (hT _ tg_M_37)) (by decide) ycl_12_X12_goThrough yw_X12_goThrough yv_X12_goThrough tw_628 dX12_less_17 (fun _ h => h) (fun _ h => h) (fun h => h) (c_X12_goThrough (d := 40) (Nat.le_refl _) hP hT hw) rfl (Nat.le_of_ble_eq_true rfl) (by omega) (by decide) (by decide) (kV fun s106 hw => ?_)
    refine g_aload_n hC dX12_less_20 rfl ?_
    refine g_getiSv (v := (mI s106 37 35)) hC fl_X12_259_12.s (hT _ tg_M_37) rfl dX12_less_21 ?_
    refine g_istore_n (lv' := [(2, .int (mI s106 37 35)), (0, .ref (xB X + 37)), (1, .int x1)]) hC dX12_less_24 (hN 2 (by decide)) rfl ?_
    refine g_iconst (v := (-1)) hC dX12_less_25 (by decide) ?_
    refine g_istore_n (lv' := [(3, .int (-1)), (2, .int (mI s106 37 35)), (0, .ref (xB X + 37)), (1, .int x1)]) hC dX12_less_26 (hN 3 (by decide)) rfl ?_
    refine g_iconst (v := 0) hC dX12_less_27 (by decide) ?_
    refine g_istore (lv' := [(4, .int 0), (3, .int (-1)), (2, .int (mI s106 37 35)), (0, .ref (xB X + 37)), (1, .int x1)]) hC dX12_less_28 (hN 4 (by decide)) rfl ?_
    refine mG.pick (lv' := [(0, .ref (xB X + 37)), (1, .int x1), (2, .int (mI s106 37 35)), (3, .int (-1)), (4, .int 0)]) [3, 4, 2, 1, 0] rfl ?_
    obtain ⟨m107, hw⟩ := hw
    exact t_X12_less_30 hC hd hN hP hT m107 _ _ _ _ _ hw
  · replace hw := hw.2 c
    refine g_bipush (v := (-2)) hC dX12_less_9 (by decide) ?_
    exact g_iret hC rfl (by decide) (by decide) dX12_less_11 (fun _ => ⟨_, rfl, hw⟩)
set_option maxRecDepth 4000 in
theorem c_X12_less {Z : Fx} {ps ts : List (Nat × Nat × Nat)} {d : Nat} (hd : 41 ≤ d) (hP : ∀ e ∈ psM, e ∈ ps) (hT : ∀ e ∈ tsM, e ∈ ts) {σ : Mem} {x1 : Int32} {Q : Int32 → Mem → Prop} (hw : w_X12_less σ x1 Q) : mM Z ps ts yX12_less cX12_less 6 (some .int) d 0 0 [.ref (Z.2.2 + 37), .int x1] σ (qI Q) := by
  refine mM.of (by decide) (Nat.le_of_ble_eq_true rfl) rfl (fun X hZ hp ht hn hC => ?_)
  subst hZ; subst hp; subst ht
  exact t_X12_less hC hd (fun i h => by rw [hn]; exact h) hP hT hw
def w_X12_couldLie (σ : Mem) (x1 : Int32) (x2 : Int32) (Q : Int32 → Mem → Prop) : Prop := vp_in x2 8 ∧ (vp_in x2 8 ∧ (w_X12_name σ x1 (mI σ 38 (Int32.toNatClampNeg x2)) (mI σ 39 (Int32.toNatClampNeg x2)) 1 0 (fun s103 => w_X12_worthOf s103 0 (fun v104 s106 => (v104 = 0 → (Q 0 s106)) ∧ (¬ v104 = 0 → (Q 1 s106))))))
set_option maxRecDepth 4000 in
set_option maxHeartbeats 2000000 in
theorem t_X12_couldLie {X : Cx} {d : Nat} (hC : mOK X cX12_couldLie RX12 "couldLie" (some .boolean) d 0 0) (hd : 2 ≤ d) (hN : ∀ i, i < 3 → i < xN X) (hP : ∀ e ∈ psM, e ∈ xP X) (hT : ∀ e ∈ tsM, e ∈ xT X) {σ : Mem} {x1 : Int32} {x2 : Int32} {Q : Int32 → Mem → Prop} (hw : w_X12_couldLie σ x1 x2 Q) : mG X 0 [(0, .ref (xB X + 37)), (1, .int x1), (2, .int x2)] [] σ 0 0 (mQ X 0 0 (qI Q)) := by
  refine g_aload_n hC dX12_couldLie_0 rfl ?_
  refine g_iload_n hC dX12_couldLie_1 rfl ?_
  refine g_aload_n hC dX12_couldLie_2 rfl ?_
  refine g_getrS hC fl_X12_14_12.s (hT _ tg_M_37) (hP _ pt_M_37_1) dX12_couldLie_3 ?_
  refine g_iload_n hC dX12_couldLie_6 rfl ?_
  refine g_ialdSv (v := (mI σ 38 (Int32.toNatClampNeg x2))) hC (hT _ tg_M_38) rfl hw.1 rfl dX12_couldLie_7 ?_
  replace hw := hw.2
  refine g_aload_n hC dX12_couldLie_8 rfl ?_
  refine g_getrS hC fl_X12_18_12.s (hT _ tg_M_37) (hP _ pt_M_37_2) dX12_couldLie_9 ?_
  refine g_iload_n hC dX12_couldLie_12 rfl ?_
  refine g_ialdSv (v := (mI σ 39 (Int32.toNatClampNeg x2))) hC (hT _ tg_M_39) rfl hw.1 rfl dX12_couldLie_13 ?_
  replace hw := hw.2
  refine g_iconst (v := 1) hC dX12_couldLie_14 (by decide) ?_
  refine g_iconst (v := 0) hC dX12_couldLie_15 (by decide) ?_
  refine g_known (fun hS => ?_)
  refine mG.st (st1 := ([.int x1, .int (mI σ 38 (Int32.toNatClampNeg x2)), .int (mI σ 39 (Int32.toNatClampNeg x2)), .int 1, .int 0] : List Value).reverse ++ .ref (xB X + 37) :: []) rfl ?_
  refine g_callV (As := [.int x1, .int (mI σ 38 (Int32.toNatClampNeg x2)), .int (mI σ 39 (Int32.toNatClampNeg x2)), .int 1, .int 0]) (st := []) hC (hS.2 _ (hT _ tg_M_37)) (by decide) ycl_12_X12_name yw_X12_name yv_X12_name tw_484 dX12_couldLie_16 (fun _ h => h) (fun _ h => h) (fun h => h) (c_X12_name (d := 0) (Nat.le_refl _) hP hT hw) rfl (Nat.le_of_ble_eq_true rfl) (by omega) (by decide) (by decide) (kV fun s103 hw => ?_)
  refine g_aload_n hC dX12_couldLie_19 rfl ?_
  refine g_iconst (v := 0) hC dX12_couldLie_20 (by decide) ?_
  refine g_known (fun hS => ?_)
  refine mG.st (st1 := ([.int 0] : List Value).reverse ++ .ref (xB X + 37) :: []) rfl ?_
  refine g_callV (As := [.int 0]) (st := []) hC (hS.2 _ (hT _ tg_M_37)) (by decide) ycl_12_X12_worthOf yw_X12_worthOf yv_X12_worthOf tw_486 dX12_couldLie_21 (fun _ h => h) (fun _ h => h) (fun h => h) (c_X12_worthOf (d := 1) (Nat.le_refl _) hP hT hw) rfl (Nat.le_of_ble_eq_true rfl) (by omega) (by decide) (by decide) (kI fun v104 s106 hw => ?_)
  refine g_if_eq (tgt := 31) hC dX12_couldLie_24 rfl (fun c => ?_) (fun c => ?_)
  · replace hw := hw.1 c
    refine g_iconst (v := 0) hC dX12_couldLie_31 (by decide) ?_
    exact g_iret hC bz0 (by decide) (by decide) dX12_couldLie_32 (fun _ => ⟨_, rfl, hw⟩)
  · replace hw := hw.2 c
    refine g_iconst (v := 1) hC dX12_couldLie_27 (by decide) ?_
    refine g_goto (tgt := 32) hC dX12_couldLie_28 rfl ?_
    exact g_iret hC bz1 (by decide) (by decide) dX12_couldLie_32 (fun _ => ⟨_, rfl, hw⟩)
set_option maxRecDepth 4000 in
theorem c_X12_couldLie {Z : Fx} {ps ts : List (Nat × Nat × Nat)} {d : Nat} (hd : 2 ≤ d) (hP : ∀ e ∈ psM, e ∈ ps) (hT : ∀ e ∈ tsM, e ∈ ts) {σ : Mem} {x1 : Int32} {x2 : Int32} {Q : Int32 → Mem → Prop} (hw : w_X12_couldLie σ x1 x2 Q) : mM Z ps ts yX12_couldLie cX12_couldLie 3 (some .boolean) d 0 0 [.ref (Z.2.2 + 37), .int x1, .int x2] σ (qI Q) := by
  refine mM.of (by decide) (Nat.le_of_ble_eq_true rfl) rfl (fun X hZ hp ht hn hC => ?_)
  subst hZ; subst hp; subst ht
  exact t_X12_couldLie hC hd (fun i h => by rw [hn]; exact h) hP hT hw
def w_X12_isRow_54 (Q : Int32 → Mem → Prop) (K7 : Int32 → Int32 → Int32 → Int32 → Mem → Prop) (x1 : Int32) (x2 : Int32) (x3 : Int32) (x4 : Int32) (σ : Mem) : Prop := K7 x1 x2 x3 (x4 + 1) σ
set_option maxRecDepth 4000 in
set_option maxHeartbeats 2000000 in
theorem t_X12_isRow_54 {X : Cx} {d : Nat} (hC : mOK X cX12_isRow RX12 "isRow" (some .boolean) d 0 0) (hd : 3 ≤ d) (hN : ∀ i, i < 5 → i < xN X) (hP : ∀ e ∈ psM, e ∈ xP X) (hT : ∀ e ∈ tsM, e ∈ xT X) {Q : Int32 → Mem → Prop} {K7 : Int32 → Int32 → Int32 → Int32 → Mem → Prop} (hK7 : ∀ (x1 : Int32) (x2 : Int32) (x3 : Int32) (x4 : Int32) (s : Mem), K7 x1 x2 x3 x4 s → mG X 7 [(0, .ref (xB X + 37)), (1, .int x1), (2, .int x2), (3, .int x3), (4, .int x4)] [] s 0 0 (mQ X 0 0 (qI Q))) {x1 : Int32} {x2 : Int32} {x3 : Int32} {x4 : Int32} {σ : Mem} (hw : w_X12_isRow_54 Q K7 x1 x2 x3 x4 σ) : mG X 54 [(0, .ref (xB X + 37)), (1, .int x1), (2, .int x2), (3, .int x3), (4, .int x4)] [] σ 0 0 (mQ X 0 0 (qI Q)) := by
  refine g_iinc (v := x4 + 1) (lv' := [(4, .int (x4 + 1)), (0, .ref (xB X + 37)), (1, .int x1), (2, .int x2), (3, .int x3)]) hC dX12_isRow_54 rfl rfl (hN 4 (by decide)) rfl ?_
  refine g_goto (tgt := 7) hC dX12_isRow_57 rfl ?_
  refine mG.pick (lv' := [(0, .ref (xB X + 37)), (1, .int x1), (2, .int x2), (3, .int x3), (4, .int (x4 + 1))]) [1, 2, 3, 4, 0] rfl ?_
  exact hK7 _ _ _ _ _ hw
def w_X12_isRow_50 (Q : Int32 → Mem → Prop) (K7 : Int32 → Int32 → Int32 → Int32 → Mem → Prop) (x1 : Int32) (x4 : Int32) (xy0 : Int32) (σ : Mem) : Prop := w_X12_isRow_54 Q K7 x1 x4 xy0 x4 σ
set_option maxRecDepth 4000 in
set_option maxHeartbeats 2000000 in
theorem t_X12_isRow_50 {X : Cx} {d : Nat} (hC : mOK X cX12_isRow RX12 "isRow" (some .boolean) d 0 0) (hd : 3 ≤ d) (hN : ∀ i, i < 5 → i < xN X) (hP : ∀ e ∈ psM, e ∈ xP X) (hT : ∀ e ∈ tsM, e ∈ xT X) {Q : Int32 → Mem → Prop} {K7 : Int32 → Int32 → Int32 → Int32 → Mem → Prop} (hK7 : ∀ (x1 : Int32) (x2 : Int32) (x3 : Int32) (x4 : Int32) (s : Mem), K7 x1 x2 x3 x4 s → mG X 7 [(0, .ref (xB X + 37)), (1, .int x1), (2, .int x2), (3, .int x3), (4, .int x4)] [] s 0 0 (mQ X 0 0 (qI Q))) {x1 : Int32} {x4 : Int32} {xy0 : Int32} {σ : Mem} (hw : w_X12_isRow_50 Q K7 x1 x4 xy0 σ) : mG X 50 [(0, .ref (xB X + 37)), (1, .int x1), (4, .int x4)] [.int xy0] σ 0 0 (mQ X 0 0 (qI Q)) := by
  refine g_istore_n (lv' := [(3, .int xy0), (0, .ref (xB X + 37)), (1, .int x1), (4, .int x4)]) hC dX12_isRow_50 (hN 3 (by decide)) rfl ?_
  refine g_iload hC dX12_isRow_51 rfl ?_
  refine g_istore_n (lv' := [(2, .int x4), (3, .int xy0), (0, .ref (xB X + 37)), (1, .int x1), (4, .int x4)]) hC dX12_isRow_53 (hN 2 (by decide)) rfl ?_
  refine mG.pick (lv' := [(0, .ref (xB X + 37)), (1, .int x1), (2, .int x4), (3, .int xy0), (4, .int x4)]) [2, 3, 0, 1, 4] rfl ?_
  exact t_X12_isRow_54 hC hd hN hP hT hK7 hw
def w_X12_isRow_45 (Q : Int32 → Mem → Prop) (K7 : Int32 → Int32 → Int32 → Int32 → Mem → Prop) (x1 : Int32) (x4 : Int32) (σ : Mem) : Prop := w_X12_isRow_50 Q K7 x1 x4 1 σ
set_option maxRecDepth 4000 in
set_option maxHeartbeats 2000000 in
theorem t_X12_isRow_45 {X : Cx} {d : Nat} (hC : mOK X cX12_isRow RX12 "isRow" (some .boolean) d 0 0) (hd : 3 ≤ d) (hN : ∀ i, i < 5 → i < xN X) (hP : ∀ e ∈ psM, e ∈ xP X) (hT : ∀ e ∈ tsM, e ∈ xT X) {Q : Int32 → Mem → Prop} {K7 : Int32 → Int32 → Int32 → Int32 → Mem → Prop} (hK7 : ∀ (x1 : Int32) (x2 : Int32) (x3 : Int32) (x4 : Int32) (s : Mem), K7 x1 x2 x3 x4 s → mG X 7 [(0, .ref (xB X + 37)), (1, .int x1), (2, .int x2), (3, .int x3), (4, .int x4)] [] s 0 0 (mQ X 0 0 (qI Q))) {x1 : Int32} {x4 : Int32} {σ : Mem} (hw : w_X12_isRow_45 Q K7 x1 x4 σ) : mG X 45 [(0, .ref (xB X + 37)), (1, .int x1), (4, .int x4)] [] σ 0 0 (mQ X 0 0 (qI Q)) := by
  refine g_iconst (v := 1) hC dX12_isRow_45 (by decide) ?_
  refine g_goto (tgt := 50) hC dX12_isRow_46 rfl ?_
  refine mG.pick (lv' := [(0, .ref (xB X + 37)), (1, .int x1), (4, .int x4)]) [0, 1, 2] rfl ?_
  exact t_X12_isRow_50 hC hd hN hP hT hK7 hw
def w_X12_isRow_7 (Q : Int32 → Mem → Prop) : Nat → Int32 → Int32 → Int32 → Int32 → Mem → Prop
  | 0, _, _, _, _, _ => False
  | n + 1, x1, x2, x3, x4, σ => ((mI σ 37 0) ≤ x4 → (bz x3 ∧ Q x3 σ)) ∧ (¬ (mI σ 37 0) ≤ x4 → ((x3 = 0 → (bz x3 ∧ Q x3 σ)) ∧ (¬ x3 = 0 → ((¬ ((x1 >>> (x4 &&& 31)) &&& 1) = 1 → (w_X12_isRow_54 Q (fun z0 z1 z2 z3 z4 => w_X12_isRow_7 Q n z0 z1 z2 z3 z4) x1 x2 x3 x4 σ)) ∧ (((x1 >>> (x4 &&& 31)) &&& 1) = 1 → ((x2 = (-1) → (w_X12_isRow_45 Q (fun z0 z1 z2 z3 z4 => w_X12_isRow_7 Q n z0 z1 z2 z3 z4) x1 x4 σ)) ∧ (¬ x2 = (-1) → (w_X12_couldLie σ x4 x2 (fun v101 s103 => (¬ v101 = 0 → (w_X12_isRow_50 Q (fun z0 z1 z2 z3 z4 => w_X12_isRow_7 Q n z0 z1 z2 z3 z4) x1 x4 0 s103)) ∧ (v101 = 0 → (w_X12_isRow_45 Q (fun z0 z1 z2 z3 z4 => w_X12_isRow_7 Q n z0 z1 z2 z3 z4) x1 x4 s103)))))))))))
set_option maxRecDepth 4000 in
set_option maxHeartbeats 2000000 in
theorem t_X12_isRow_7 {X : Cx} {d : Nat} (hC : mOK X cX12_isRow RX12 "isRow" (some .boolean) d 0 0) (hd : 3 ≤ d) (hN : ∀ i, i < 5 → i < xN X) (hP : ∀ e ∈ psM, e ∈ xP X) (hT : ∀ e ∈ tsM, e ∈ xT X) {Q : Int32 → Mem → Prop} : ∀ (n : Nat) (x1 : Int32) (x2 : Int32) (x3 : Int32) (x4 : Int32) (σ : Mem), w_X12_isRow_7 Q n x1 x2 x3 x4 σ → mG X 7 [(0, .ref (xB X + 37)), (1, .int x1), (2, .int x2), (3, .int x3), (4, .int x4)] [] σ 0 0 (mQ X 0 0 (qI Q)) := by
  intro n
  induction n with
  | zero => intro x1 x2 x3 x4 σ hw; exact False.elim hw
  | succ n ih =>
    intro x1 x2 x3 x4 σ hw
    rw [w_X12_isRow_7] at hw
    refine g_iload hC dX12_isRow_7 rfl ?_
    refine g_aload_n hC dX12_isRow_9 rfl ?_
    refine g_getiSv (v := (mI σ 37 0)) hC fl_X12_1_12.s (hT _ tg_M_37) rfl dX12_isRow_10 ?_
    refine g_icmp_ge (tgt := 60) hC dX12_isRow_13 rfl (fun c => ?_) (fun c => ?_)
    · replace hw := hw.1 c
      refine g_iload_n hC dX12_isRow_60 rfl ?_
      exact g_iret hC hw.1 (by decide) (by decide) dX12_isRow_61 (fun _ => ⟨_, rfl, hw.2⟩)
    · replace hw := hw.2 c
      refine g_iload_n hC dX12_isRow_16 rfl ?_
      refine g_if_eq (tgt := 60) hC dX12_isRow_17 rfl (fun c => ?_) (fun c => ?_)
      · replace hw := hw.1 c
        refine g_iload_n hC dX12_isRow_60 rfl ?_
        exact g_iret hC hw.1 (by decide) (by decide) dX12_isRow_61 (fun _ => ⟨_, rfl, hw.2⟩)
      · replace hw := hw.2 c
        refine g_iload_n hC dX12_isRow_20 rfl ?_
        refine g_iload hC dX12_isRow_21 rfl ?_
        refine g_ishr hC dX12_isRow_23 ?_
        refine g_iconst (v := 1) hC dX12_isRow_24 (by decide) ?_
        refine g_iand hC dX12_isRow_25 ?_
        refine g_iconst (v := 1) hC dX12_isRow_26 (by decide) ?_
        refine g_icmp_ne (tgt := 54) hC dX12_isRow_27 rfl (fun c => ?_) (fun c => ?_)
        · replace hw := hw.1 c
          refine mG.pick (lv' := [(0, .ref (xB X + 37)), (1, .int x1), (2, .int x2), (3, .int x3), (4, .int x4)]) [0, 1, 2, 3, 4] rfl ?_
          exact t_X12_isRow_54 hC hd hN hP hT ih hw
        · replace hw := hw.2 c
          refine g_iload_n hC dX12_isRow_30 rfl ?_
          refine g_iconst (v := (-1)) hC dX12_isRow_31 (by decide) ?_
          refine g_icmp_eq (tgt := 45) hC dX12_isRow_32 rfl (fun c => ?_) (fun c => ?_)
          · replace hw := hw.1 c
            refine mG.pick (lv' := [(0, .ref (xB X + 37)), (1, .int x1), (4, .int x4)]) [0, 1, 4] rfl ?_
            exact t_X12_isRow_45 hC hd hN hP hT ih hw
          · replace hw := hw.2 c
            refine g_aload_n hC dX12_isRow_35 rfl ?_
            refine g_iload hC dX12_isRow_36 rfl ?_
            refine g_iload_n hC dX12_isRow_38 rfl ?_
            refine g_known (fun hS => ?_)
            refine mG.st (st1 := ([.int x4, .int x2] : List Value).reverse ++ .ref (xB X + 37) :: []) rfl ?_
            refine g_callV (As := [.int x4, .int x2]) (st := []) hC (hS.2 _ (hT _ tg_M_37)) (by decide) ycl_12_X12_couldLie yw_X12_couldLie yv_X12_couldLie tw_636 dX12_isRow_39 (fun _ h => h) (fun _ h => h) (fun h => h) (c_X12_couldLie (d := 2) (Nat.le_refl _) hP hT hw) rfl (Nat.le_of_ble_eq_true rfl) (by omega) (by decide) (by decide) (kI fun v101 s103 hw => ?_)
            refine g_if_ne (tgt := 49) hC dX12_isRow_42 rfl (fun c => ?_) (fun c => ?_)
            · replace hw := hw.1 c
              refine g_iconst (v := 0) hC dX12_isRow_49 (by decide) ?_
              refine mG.pick (lv' := [(0, .ref (xB X + 37)), (1, .int x1), (4, .int x4)]) [0, 1, 4] rfl ?_
              exact t_X12_isRow_50 hC hd hN hP hT ih hw
            · replace hw := hw.2 c
              refine mG.pick (lv' := [(0, .ref (xB X + 37)), (1, .int x1), (4, .int x4)]) [0, 1, 4] rfl ?_
              exact t_X12_isRow_45 hC hd hN hP hT ih hw
def w_X12_isRow (σ : Mem) (x1 : Int32) (Q : Int32 → Mem → Prop) : Prop := ∃ m101 : Nat, w_X12_isRow_7 Q m101 x1 (-1) 1 0 σ
set_option maxRecDepth 4000 in
set_option maxHeartbeats 2000000 in
theorem t_X12_isRow {X : Cx} {d : Nat} (hC : mOK X cX12_isRow RX12 "isRow" (some .boolean) d 0 0) (hd : 3 ≤ d) (hN : ∀ i, i < 5 → i < xN X) (hP : ∀ e ∈ psM, e ∈ xP X) (hT : ∀ e ∈ tsM, e ∈ xT X) {σ : Mem} {x1 : Int32} {Q : Int32 → Mem → Prop} (hw : w_X12_isRow σ x1 Q) : mG X 0 [(0, .ref (xB X + 37)), (1, .int x1)] [] σ 0 0 (mQ X 0 0 (qI Q)) := by
  refine g_iconst (v := (-1)) hC dX12_isRow_0 (by decide) ?_
  refine g_istore_n (lv' := [(2, .int (-1)), (0, .ref (xB X + 37)), (1, .int x1)]) hC dX12_isRow_1 (hN 2 (by decide)) rfl ?_
  refine g_iconst (v := 1) hC dX12_isRow_2 (by decide) ?_
  refine g_istore_n (lv' := [(3, .int 1), (2, .int (-1)), (0, .ref (xB X + 37)), (1, .int x1)]) hC dX12_isRow_3 (hN 3 (by decide)) rfl ?_
  refine g_iconst (v := 0) hC dX12_isRow_4 (by decide) ?_
  refine g_istore (lv' := [(4, .int 0), (3, .int 1), (2, .int (-1)), (0, .ref (xB X + 37)), (1, .int x1)]) hC dX12_isRow_5 (hN 4 (by decide)) rfl ?_
  refine mG.pick (lv' := [(0, .ref (xB X + 37)), (1, .int x1), (2, .int (-1)), (3, .int 1), (4, .int 0)]) [3, 4, 2, 1, 0] rfl ?_
  obtain ⟨m101, hw⟩ := hw
  exact t_X12_isRow_7 hC hd hN hP hT m101 _ _ _ _ _ hw
set_option maxRecDepth 4000 in
theorem c_X12_isRow {Z : Fx} {ps ts : List (Nat × Nat × Nat)} {d : Nat} (hd : 3 ≤ d) (hP : ∀ e ∈ psM, e ∈ ps) (hT : ∀ e ∈ tsM, e ∈ ts) {σ : Mem} {x1 : Int32} {Q : Int32 → Mem → Prop} (hw : w_X12_isRow σ x1 Q) : mM Z ps ts yX12_isRow cX12_isRow 5 (some .boolean) d 0 0 [.ref (Z.2.2 + 37), .int x1] σ (qI Q) := by
  refine mM.of (by decide) (Nat.le_of_ble_eq_true rfl) rfl (fun X hZ hp ht hn hC => ?_)
  subst hZ; subst hp; subst ht
  exact t_X12_isRow hC hd (fun i h => by rw [hn]; exact h) hP hT hw
def w_X12_bits_4 (Q : Int32 → Mem → Prop) : Nat → Int32 → Int32 → Int32 → Mem → Prop
  | 0, _, _, _, _ => False
  | n + 1, x0, x1, x2, σ => (8 ≤ x2 → (Q x1 σ)) ∧ (¬ 8 ≤ x2 → (∀ v101 : Int32, v101 = (x1 + ((x0 >>> (x2 &&& 31)) &&& 1)) → (w_X12_bits_4 Q n x0 v101 (x2 + 1) σ)))
set_option maxRecDepth 4000 in
set_option maxHeartbeats 2000000 in
theorem t_X12_bits_4 {X : Cx} {d : Nat} (hC : mOK X cX12_bits RX12 "bits" (some .int) d 0 0) (hd : 0 ≤ d) (hN : ∀ i, i < 3 → i < xN X) {Q : Int32 → Mem → Prop} : ∀ (n : Nat) (x0 : Int32) (x1 : Int32) (x2 : Int32) (σ : Mem), w_X12_bits_4 Q n x0 x1 x2 σ → mG X 4 [(0, .int x0), (1, .int x1), (2, .int x2)] [] σ 0 0 (mQ X 0 0 (qI Q)) := by
  intro n
  induction n with
  | zero => intro x0 x1 x2 σ hw; exact False.elim hw
  | succ n ih =>
    intro x0 x1 x2 σ hw
    rw [w_X12_bits_4] at hw
    refine g_iload_n hC dX12_bits_4 rfl ?_
    refine g_bipush (v := 8) hC dX12_bits_5 (by decide) ?_
    refine g_icmp_ge (tgt := 24) hC dX12_bits_7 rfl (fun c => ?_) (fun c => ?_)
    · replace hw := hw.1 c
      refine g_iload_n hC dX12_bits_24 rfl ?_
      exact g_iret hC rfl (by decide) (by decide) dX12_bits_25 (fun _ => ⟨_, rfl, hw⟩)
    · replace hw := hw.2 c
      refine g_iload_n hC dX12_bits_10 rfl ?_
      refine g_iload_n hC dX12_bits_11 rfl ?_
      refine g_iload_n hC dX12_bits_12 rfl ?_
      refine g_ishr hC dX12_bits_13 ?_
      refine g_iconst (v := 1) hC dX12_bits_14 (by decide) ?_
      refine g_iand hC dX12_bits_15 ?_
      refine g_iadd hC dX12_bits_16 ?_
      refine g_topi (fun v101 ev101 => ?_)
      replace hw := hw v101 ev101
      refine g_istore_n (lv' := [(1, .int v101), (0, .int x0), (2, .int x2)]) hC dX12_bits_17 (hN 1 (by decide)) rfl ?_
      refine g_iinc (v := x2 + 1) (lv' := [(2, .int (x2 + 1)), (1, .int v101), (0, .int x0)]) hC dX12_bits_18 rfl rfl (hN 2 (by decide)) rfl ?_
      refine g_goto (tgt := 4) hC dX12_bits_21 rfl ?_
      refine mG.pick (lv' := [(0, .int x0), (1, .int v101), (2, .int (x2 + 1))]) [2, 1, 0] rfl ?_
      exact ih _ _ _ _ hw
def w_X12_bits (σ : Mem) (x0 : Int32) (Q : Int32 → Mem → Prop) : Prop := ∃ m101 : Nat, w_X12_bits_4 Q m101 x0 0 0 σ
set_option maxRecDepth 4000 in
set_option maxHeartbeats 2000000 in
theorem t_X12_bits {X : Cx} {d : Nat} (hC : mOK X cX12_bits RX12 "bits" (some .int) d 0 0) (hd : 0 ≤ d) (hN : ∀ i, i < 3 → i < xN X) {σ : Mem} {x0 : Int32} {Q : Int32 → Mem → Prop} (hw : w_X12_bits σ x0 Q) : mG X 0 [(0, .int x0)] [] σ 0 0 (mQ X 0 0 (qI Q)) := by
  refine g_iconst (v := 0) hC dX12_bits_0 (by decide) ?_
  refine g_istore_n (lv' := [(1, .int 0), (0, .int x0)]) hC dX12_bits_1 (hN 1 (by decide)) rfl ?_
  refine g_iconst (v := 0) hC dX12_bits_2 (by decide) ?_
  refine g_istore_n (lv' := [(2, .int 0), (1, .int 0), (0, .int x0)]) hC dX12_bits_3 (hN 2 (by decide)) rfl ?_
  refine mG.pick (lv' := [(0, .int x0), (1, .int 0), (2, .int 0)]) [2, 1, 0] rfl ?_
  obtain ⟨m101, hw⟩ := hw
  exact t_X12_bits_4 hC hd hN m101 _ _ _ _ hw
set_option maxRecDepth 4000 in
theorem c_X12_bits {Z : Fx} {ps ts : List (Nat × Nat × Nat)} {d : Nat} (hd : 0 ≤ d) {σ : Mem} {x0 : Int32} {Q : Int32 → Mem → Prop} (hw : w_X12_bits σ x0 Q) : mM Z ps ts yX12_bits cX12_bits 3 (some .int) d 0 0 [.int x0] σ (qI Q) := by
  refine mM.of (by decide) (Nat.le_of_ble_eq_true rfl) rfl (fun X hZ hp ht hn hC => ?_)
  subst hZ; subst hp; subst ht
  exact t_X12_bits hC hd (fun i h => by rw [hn]; exact h) hw
def w_X12_longest_108 (Q : Int32 → Mem → Prop) (K25 : Int32 → Int32 → Int32 → Int32 → Int32 → Int32 → Mem → Prop) (x1 : Int32) (x2 : Int32) (x3 : Int32) (x4 : Int32) (x5 : Int32) (x6 : Int32) (σ : Mem) : Prop := K25 x1 x2 x3 x4 x5 (x6 + 1) σ
set_option maxRecDepth 4000 in
set_option maxHeartbeats 2000000 in
theorem t_X12_longest_108 {X : Cx} {d : Nat} (hC : mOK X cX12_longest RX12 "longest" (some .int) d 0 0) (hd : 4 ≤ d) (hN : ∀ i, i < 8 → i < xN X) (hP : ∀ e ∈ psM, e ∈ xP X) (hT : ∀ e ∈ tsM, e ∈ xT X) {Q : Int32 → Mem → Prop} {K25 : Int32 → Int32 → Int32 → Int32 → Int32 → Int32 → Mem → Prop} (hK25 : ∀ (x1 : Int32) (x2 : Int32) (x3 : Int32) (x4 : Int32) (x5 : Int32) (x6 : Int32) (s : Mem), K25 x1 x2 x3 x4 x5 x6 s → mG X 25 [(0, .ref (xB X + 37)), (1, .int x1), (2, .int x2), (3, .int x3), (4, .int x4), (5, .int x5), (6, .int x6)] [] s 0 0 (mQ X 0 0 (qI Q))) {x1 : Int32} {x2 : Int32} {x3 : Int32} {x4 : Int32} {x5 : Int32} {x6 : Int32} {σ : Mem} (hw : w_X12_longest_108 Q K25 x1 x2 x3 x4 x5 x6 σ) : mG X 108 [(0, .ref (xB X + 37)), (1, .int x1), (2, .int x2), (3, .int x3), (4, .int x4), (5, .int x5), (6, .int x6)] [] σ 0 0 (mQ X 0 0 (qI Q)) := by
  refine g_iinc (v := x6 + 1) (lv' := [(6, .int (x6 + 1)), (0, .ref (xB X + 37)), (1, .int x1), (2, .int x2), (3, .int x3), (4, .int x4), (5, .int x5)]) hC dX12_longest_108 rfl rfl (hN 6 (by decide)) rfl ?_
  refine g_goto (tgt := 25) hC dX12_longest_111 rfl ?_
  refine mG.pick (lv' := [(0, .ref (xB X + 37)), (1, .int x1), (2, .int x2), (3, .int x3), (4, .int x4), (5, .int x5), (6, .int (x6 + 1))]) [1, 2, 3, 4, 5, 6, 0] rfl ?_
  exact hK25 _ _ _ _ _ _ _ hw
def w_X12_longest_104 (Q : Int32 → Mem → Prop) (K25 : Int32 → Int32 → Int32 → Int32 → Int32 → Int32 → Mem → Prop) (x1 : Int32) (x4 : Int32) (x5 : Int32) (x6 : Int32) (x7 : Int32) (xy0 : Int32) (σ : Mem) : Prop := w_X12_longest_108 Q K25 x1 x7 xy0 x4 x5 x6 σ
set_option maxRecDepth 4000 in
set_option maxHeartbeats 2000000 in
theorem t_X12_longest_104 {X : Cx} {d : Nat} (hC : mOK X cX12_longest RX12 "longest" (some .int) d 0 0) (hd : 4 ≤ d) (hN : ∀ i, i < 8 → i < xN X) (hP : ∀ e ∈ psM, e ∈ xP X) (hT : ∀ e ∈ tsM, e ∈ xT X) {Q : Int32 → Mem → Prop} {K25 : Int32 → Int32 → Int32 → Int32 → Int32 → Int32 → Mem → Prop} (hK25 : ∀ (x1 : Int32) (x2 : Int32) (x3 : Int32) (x4 : Int32) (x5 : Int32) (x6 : Int32) (s : Mem), K25 x1 x2 x3 x4 x5 x6 s → mG X 25 [(0, .ref (xB X + 37)), (1, .int x1), (2, .int x2), (3, .int x3), (4, .int x4), (5, .int x5), (6, .int x6)] [] s 0 0 (mQ X 0 0 (qI Q))) {x1 : Int32} {x4 : Int32} {x5 : Int32} {x6 : Int32} {x7 : Int32} {xy0 : Int32} {σ : Mem} (hw : w_X12_longest_104 Q K25 x1 x4 x5 x6 x7 xy0 σ) : mG X 104 [(0, .ref (xB X + 37)), (1, .int x1), (4, .int x4), (5, .int x5), (6, .int x6), (7, .int x7)] [.int xy0] σ 0 0 (mQ X 0 0 (qI Q)) := by
  refine g_istore_n (lv' := [(3, .int xy0), (0, .ref (xB X + 37)), (1, .int x1), (4, .int x4), (5, .int x5), (6, .int x6), (7, .int x7)]) hC dX12_longest_104 (hN 3 (by decide)) rfl ?_
  refine g_iload hC dX12_longest_105 rfl ?_
  refine g_istore_n (lv' := [(2, .int x7), (3, .int xy0), (0, .ref (xB X + 37)), (1, .int x1), (4, .int x4), (5, .int x5), (6, .int x6), (7, .int x7)]) hC dX12_longest_107 (hN 2 (by decide)) rfl ?_
  refine mG.pick (lv' := [(0, .ref (xB X + 37)), (1, .int x1), (2, .int x7), (3, .int xy0), (4, .int x4), (5, .int x5), (6, .int x6)]) [2, 3, 0, 1, 4, 5, 6] rfl ?_
  exact t_X12_longest_108 hC hd hN hP hT hK25 hw
def w_X12_longest_89 (Q : Int32 → Mem → Prop) (K25 : Int32 → Int32 → Int32 → Int32 → Int32 → Int32 → Mem → Prop) (x1 : Int32) (x2 : Int32) (x3 : Int32) (x4 : Int32) (x6 : Int32) (x7 : Int32) (xy0 : Int32) (σ : Mem) : Prop := (x7 ≤ x2 → (w_X12_longest_104 Q K25 x1 x4 xy0 x6 x7 (x3 + 1) σ)) ∧ (¬ x7 ≤ x2 → (w_X12_longest_104 Q K25 x1 x4 xy0 x6 x7 1 σ))
set_option maxRecDepth 4000 in
set_option maxHeartbeats 2000000 in
theorem t_X12_longest_89 {X : Cx} {d : Nat} (hC : mOK X cX12_longest RX12 "longest" (some .int) d 0 0) (hd : 4 ≤ d) (hN : ∀ i, i < 8 → i < xN X) (hP : ∀ e ∈ psM, e ∈ xP X) (hT : ∀ e ∈ tsM, e ∈ xT X) {Q : Int32 → Mem → Prop} {K25 : Int32 → Int32 → Int32 → Int32 → Int32 → Int32 → Mem → Prop} (hK25 : ∀ (x1 : Int32) (x2 : Int32) (x3 : Int32) (x4 : Int32) (x5 : Int32) (x6 : Int32) (s : Mem), K25 x1 x2 x3 x4 x5 x6 s → mG X 25 [(0, .ref (xB X + 37)), (1, .int x1), (2, .int x2), (3, .int x3), (4, .int x4), (5, .int x5), (6, .int x6)] [] s 0 0 (mQ X 0 0 (qI Q))) {x1 : Int32} {x2 : Int32} {x3 : Int32} {x4 : Int32} {x6 : Int32} {x7 : Int32} {xy0 : Int32} {σ : Mem} (hw : w_X12_longest_89 Q K25 x1 x2 x3 x4 x6 x7 xy0 σ) : mG X 89 [(0, .ref (xB X + 37)), (1, .int x1), (2, .int x2), (3, .int x3), (4, .int x4), (6, .int x6), (7, .int x7)] [.int xy0] σ 0 0 (mQ X 0 0 (qI Q)) := by
  refine g_istore (lv' := [(5, .int xy0), (0, .ref (xB X + 37)), (1, .int x1), (2, .int x2), (3, .int x3), (4, .int x4), (6, .int x6), (7, .int x7)]) hC dX12_longest_89 (hN 5 (by decide)) rfl ?_
  refine g_iload hC dX12_longest_91 rfl ?_
  refine g_iload_n hC dX12_longest_93 rfl ?_
  refine g_icmp_le (tgt := 101) hC dX12_longest_94 rfl (fun c => ?_) (fun c => ?_)
  · replace hw := hw.1 c
    refine g_iload_n hC dX12_longest_101 rfl ?_
    refine g_iconst (v := 1) hC dX12_longest_102 (by decide) ?_
    refine g_iadd hC dX12_longest_103 ?_
    refine mG.pick (lv' := [(0, .ref (xB X + 37)), (1, .int x1), (4, .int x4), (5, .int xy0), (6, .int x6), (7, .int x7)]) [1, 2, 5, 0, 6, 7] rfl ?_
    exact t_X12_longest_104 hC hd hN hP hT hK25 hw
  · replace hw := hw.2 c
    refine g_iconst (v := 1) hC dX12_longest_97 (by decide) ?_
    refine g_goto (tgt := 104) hC dX12_longest_98 rfl ?_
    refine mG.pick (lv' := [(0, .ref (xB X + 37)), (1, .int x1), (4, .int x4), (5, .int xy0), (6, .int x6), (7, .int x7)]) [1, 2, 5, 0, 6, 7] rfl ?_
    exact t_X12_longest_104 hC hd hN hP hT hK25 hw
def w_X12_longest_74 (Q : Int32 → Mem → Prop) (K25 : Int32 → Int32 → Int32 → Int32 → Int32 → Int32 → Mem → Prop) (x1 : Int32) (x2 : Int32) (x3 : Int32) (x5 : Int32) (x6 : Int32) (x7 : Int32) (xy0 : Int32) (σ : Mem) : Prop := (x7 ≤ x2 → (w_X12_longest_89 Q K25 x1 x2 x3 xy0 x6 x7 x5 σ)) ∧ (¬ x7 ≤ x2 → (w_X12_longest_89 Q K25 x1 x2 x3 xy0 x6 x7 x6 σ))
set_option maxRecDepth 4000 in
set_option maxHeartbeats 2000000 in
theorem t_X12_longest_74 {X : Cx} {d : Nat} (hC : mOK X cX12_longest RX12 "longest" (some .int) d 0 0) (hd : 4 ≤ d) (hN : ∀ i, i < 8 → i < xN X) (hP : ∀ e ∈ psM, e ∈ xP X) (hT : ∀ e ∈ tsM, e ∈ xT X) {Q : Int32 → Mem → Prop} {K25 : Int32 → Int32 → Int32 → Int32 → Int32 → Int32 → Mem → Prop} (hK25 : ∀ (x1 : Int32) (x2 : Int32) (x3 : Int32) (x4 : Int32) (x5 : Int32) (x6 : Int32) (s : Mem), K25 x1 x2 x3 x4 x5 x6 s → mG X 25 [(0, .ref (xB X + 37)), (1, .int x1), (2, .int x2), (3, .int x3), (4, .int x4), (5, .int x5), (6, .int x6)] [] s 0 0 (mQ X 0 0 (qI Q))) {x1 : Int32} {x2 : Int32} {x3 : Int32} {x5 : Int32} {x6 : Int32} {x7 : Int32} {xy0 : Int32} {σ : Mem} (hw : w_X12_longest_74 Q K25 x1 x2 x3 x5 x6 x7 xy0 σ) : mG X 74 [(0, .ref (xB X + 37)), (1, .int x1), (2, .int x2), (3, .int x3), (5, .int x5), (6, .int x6), (7, .int x7)] [.int xy0] σ 0 0 (mQ X 0 0 (qI Q)) := by
  refine g_istore (lv' := [(4, .int xy0), (0, .ref (xB X + 37)), (1, .int x1), (2, .int x2), (3, .int x3), (5, .int x5), (6, .int x6), (7, .int x7)]) hC dX12_longest_74 (hN 4 (by decide)) rfl ?_
  refine g_iload hC dX12_longest_76 rfl ?_
  refine g_iload_n hC dX12_longest_78 rfl ?_
  refine g_icmp_le (tgt := 87) hC dX12_longest_79 rfl (fun c => ?_) (fun c => ?_)
  · replace hw := hw.1 c
    refine g_iload hC dX12_longest_87 rfl ?_
    refine mG.pick (lv' := [(0, .ref (xB X + 37)), (1, .int x1), (2, .int x2), (3, .int x3), (4, .int xy0), (6, .int x6), (7, .int x7)]) [1, 2, 3, 4, 0, 6, 7] rfl ?_
    exact t_X12_longest_89 hC hd hN hP hT hK25 hw
  · replace hw := hw.2 c
    refine g_iload hC dX12_longest_82 rfl ?_
    refine g_goto (tgt := 89) hC dX12_longest_84 rfl ?_
    refine mG.pick (lv' := [(0, .ref (xB X + 37)), (1, .int x1), (2, .int x2), (3, .int x3), (4, .int xy0), (6, .int x6), (7, .int x7)]) [1, 2, 3, 4, 0, 6, 7] rfl ?_
    exact t_X12_longest_89 hC hd hN hP hT hK25 hw
def w_X12_longest_25 (Q : Int32 → Mem → Prop) : Nat → Int32 → Int32 → Int32 → Int32 → Int32 → Int32 → Mem → Prop
  | 0, _, _, _, _, _, _, _ => False
  | n + 1, x1, x2, x3, x4, x5, x6, σ => (((1 : Int32) <<< ((mI σ 37 0) &&& 31)) ≤ x6 → ((¬ x1 = 0 → ((¬ x1 = 1 → ((¬ x1 = 2 → (Q x5 σ)) ∧ (x1 = 2 → (Q x4 σ)))) ∧ (x1 = 1 → (Q x3 σ)))) ∧ (x1 = 0 → (Q x2 σ)))) ∧ (¬ ((1 : Int32) <<< ((mI σ 37 0) &&& 31)) ≤ x6 → (w_X12_bits σ x6 (fun v101 s103 => (v101 < x2 → (w_X12_longest_108 Q (fun z0 z1 z2 z3 z4 z5 z6 => w_X12_longest_25 Q n z0 z1 z2 z3 z4 z5 z6) x1 x2 x3 x4 x5 x6 s103)) ∧ (¬ v101 < x2 → (w_X12_isRow s103 x6 (fun v104 s106 => (v104 = 0 → (w_X12_longest_108 Q (fun z0 z1 z2 z3 z4 z5 z6 => w_X12_longest_25 Q n z0 z1 z2 z3 z4 z5 z6) x1 x2 x3 x4 x5 x6 s106)) ∧ (¬ v104 = 0 → ((v101 ≤ x2 → (w_X12_longest_74 Q (fun z0 z1 z2 z3 z4 z5 z6 => w_X12_longest_25 Q n z0 z1 z2 z3 z4 z5 z6) x1 x2 x3 x5 x6 v101 (x4 &&& x6) s106)) ∧ (¬ v101 ≤ x2 → (w_X12_longest_74 Q (fun z0 z1 z2 z3 z4 z5 z6 => w_X12_longest_25 Q n z0 z1 z2 z3 z4 z5 z6) x1 x2 x3 x5 x6 v101 x6 s106))))))))))
set_option maxRecDepth 4000 in
set_option maxHeartbeats 2000000 in
theorem t_X12_longest_25 {X : Cx} {d : Nat} (hC : mOK X cX12_longest RX12 "longest" (some .int) d 0 0) (hd : 4 ≤ d) (hN : ∀ i, i < 8 → i < xN X) (hP : ∀ e ∈ psM, e ∈ xP X) (hT : ∀ e ∈ tsM, e ∈ xT X) {Q : Int32 → Mem → Prop} : ∀ (n : Nat) (x1 : Int32) (x2 : Int32) (x3 : Int32) (x4 : Int32) (x5 : Int32) (x6 : Int32) (σ : Mem), w_X12_longest_25 Q n x1 x2 x3 x4 x5 x6 σ → mG X 25 [(0, .ref (xB X + 37)), (1, .int x1), (2, .int x2), (3, .int x3), (4, .int x4), (5, .int x5), (6, .int x6)] [] σ 0 0 (mQ X 0 0 (qI Q)) := by
  intro n
  induction n with
  | zero => intro x1 x2 x3 x4 x5 x6 σ hw; exact False.elim hw
  | succ n ih =>
    intro x1 x2 x3 x4 x5 x6 σ hw
    rw [w_X12_longest_25] at hw
    refine g_iload hC dX12_longest_25 rfl ?_
    refine g_iconst (v := 1) hC dX12_longest_27 (by decide) ?_
    refine g_aload_n hC dX12_longest_28 rfl ?_
    refine g_getiSv (v := (mI σ 37 0)) hC fl_X12_1_12.s (hT _ tg_M_37) rfl dX12_longest_29 ?_
    refine g_ishl hC dX12_longest_32 ?_
    refine g_icmp_ge (tgt := 114) hC dX12_longest_33 rfl (fun c => ?_) (fun c => ?_)
    · replace hw := hw.1 c
      refine g_iload_n hC dX12_longest_114 rfl ?_
      refine g_if_ne (tgt := 122) hC dX12_longest_115 rfl (fun c => ?_) (fun c => ?_)
      · replace hw := hw.1 c
        refine g_iload_n hC dX12_longest_122 rfl ?_
        refine g_iconst (v := 1) hC dX12_longest_123 (by decide) ?_
        refine g_icmp_ne (tgt := 131) hC dX12_longest_124 rfl (fun c => ?_) (fun c => ?_)
        · replace hw := hw.1 c
          refine g_iload_n hC dX12_longest_131 rfl ?_
          refine g_iconst (v := 2) hC dX12_longest_132 (by decide) ?_
          refine g_icmp_ne (tgt := 141) hC dX12_longest_133 rfl (fun c => ?_) (fun c => ?_)
          · replace hw := hw.1 c
            refine g_iload hC dX12_longest_141 rfl ?_
            exact g_iret hC rfl (by decide) (by decide) dX12_longest_143 (fun _ => ⟨_, rfl, hw⟩)
          · replace hw := hw.2 c
            refine g_iload hC dX12_longest_136 rfl ?_
            refine g_goto (tgt := 143) hC dX12_longest_138 rfl ?_
            exact g_iret hC rfl (by decide) (by decide) dX12_longest_143 (fun _ => ⟨_, rfl, hw⟩)
        · replace hw := hw.2 c
          refine g_iload_n hC dX12_longest_127 rfl ?_
          refine g_goto (tgt := 143) hC dX12_longest_128 rfl ?_
          exact g_iret hC rfl (by decide) (by decide) dX12_longest_143 (fun _ => ⟨_, rfl, hw⟩)
      · replace hw := hw.2 c
        refine g_iload_n hC dX12_longest_118 rfl ?_
        refine g_goto (tgt := 143) hC dX12_longest_119 rfl ?_
        exact g_iret hC rfl (by decide) (by decide) dX12_longest_143 (fun _ => ⟨_, rfl, hw⟩)
    · replace hw := hw.2 c
      refine g_iload hC dX12_longest_36 rfl ?_
      refine mG.st (st1 := ([.int x6] : List Value).reverse ++ []) rfl ?_
      refine g_callS (As := [.int x6]) (st := []) hC yw_X12_bits ys_X12_bits tw_640 dX12_longest_38 (fun _ h => h) (fun _ h => h) (fun h => h) (c_X12_bits (d := 0) (Nat.le_refl _) hw) rfl (Nat.le_of_ble_eq_true rfl) (by omega) (by decide) (by decide) (kI fun v101 s103 hw => ?_)
      refine g_istore (lv' := [(7, .int v101), (0, .ref (xB X + 37)), (1, .int x1), (2, .int x2), (3, .int x3), (4, .int x4), (5, .int x5), (6, .int x6)]) hC dX12_longest_41 (hN 7 (by decide)) rfl ?_
      refine g_iload hC dX12_longest_43 rfl ?_
      refine g_iload_n hC dX12_longest_45 rfl ?_
      refine g_icmp_lt (tgt := 108) hC dX12_longest_46 rfl (fun c => ?_) (fun c => ?_)
      · replace hw := hw.1 c
        refine mG.pick (lv' := [(0, .ref (xB X + 37)), (1, .int x1), (2, .int x2), (3, .int x3), (4, .int x4), (5, .int x5), (6, .int x6)]) [1, 2, 3, 4, 5, 6, 7] rfl ?_
        exact t_X12_longest_108 hC hd hN hP hT ih hw
      · replace hw := hw.2 c
        refine g_aload_n hC dX12_longest_49 rfl ?_
        refine g_iload hC dX12_longest_50 rfl ?_
        refine g_known (fun hS => ?_)
        refine mG.st (st1 := ([.int x6] : List Value).reverse ++ .ref (xB X + 37) :: []) rfl ?_
        refine g_callV (As := [.int x6]) (st := []) hC (hS.2 _ (hT _ tg_M_37)) (by decide) ycl_12_X12_isRow yw_X12_isRow yv_X12_isRow tw_641 dX12_longest_52 (fun _ h => h) (fun _ h => h) (fun h => h) (c_X12_isRow (d := 3) (Nat.le_refl _) hP hT hw) rfl (Nat.le_of_ble_eq_true rfl) (by omega) (by decide) (by decide) (kI fun v104 s106 hw => ?_)
        refine g_if_eq (tgt := 108) hC dX12_longest_55 rfl (fun c => ?_) (fun c => ?_)
        · replace hw := hw.1 c
          refine mG.pick (lv' := [(0, .ref (xB X + 37)), (1, .int x1), (2, .int x2), (3, .int x3), (4, .int x4), (5, .int x5), (6, .int x6)]) [1, 2, 3, 4, 5, 6, 7] rfl ?_
          exact t_X12_longest_108 hC hd hN hP hT ih hw
        · replace hw := hw.2 c
          refine g_iload hC dX12_longest_58 rfl ?_
          refine g_iload_n hC dX12_longest_60 rfl ?_
          refine g_icmp_le (tgt := 69) hC dX12_longest_61 rfl (fun c => ?_) (fun c => ?_)
          · replace hw := hw.1 c
            refine g_iload hC dX12_longest_69 rfl ?_
            refine g_iload hC dX12_longest_71 rfl ?_
            refine g_iand hC dX12_longest_73 ?_
            refine mG.pick (lv' := [(0, .ref (xB X + 37)), (1, .int x1), (2, .int x2), (3, .int x3), (5, .int x5), (6, .int x6), (7, .int v101)]) [1, 2, 3, 4, 6, 7, 0] rfl ?_
            exact t_X12_longest_74 hC hd hN hP hT ih hw
          · replace hw := hw.2 c
            refine g_iload hC dX12_longest_64 rfl ?_
            refine g_goto (tgt := 74) hC dX12_longest_66 rfl ?_
            refine mG.pick (lv' := [(0, .ref (xB X + 37)), (1, .int x1), (2, .int x2), (3, .int x3), (5, .int x5), (6, .int x6), (7, .int v101)]) [1, 2, 3, 4, 6, 7, 0] rfl ?_
            exact t_X12_longest_74 hC hd hN hP hT ih hw
def w_X12_longest (σ : Mem) (x1 : Int32) (Q : Int32 → Mem → Prop) : Prop := w_X12_isIn σ x1 0 3 (fun v101 s103 => (¬ v101 = 0 → (∃ m104 : Nat, w_X12_longest_25 Q m104 x1 0 0 0 0 1 s103)) ∧ (v101 = 0 → (Q (-2) s103)))
set_option maxRecDepth 4000 in
set_option maxHeartbeats 2000000 in
theorem t_X12_longest {X : Cx} {d : Nat} (hC : mOK X cX12_longest RX12 "longest" (some .int) d 0 0) (hd : 4 ≤ d) (hN : ∀ i, i < 8 → i < xN X) (hP : ∀ e ∈ psM, e ∈ xP X) (hT : ∀ e ∈ tsM, e ∈ xT X) {σ : Mem} {x1 : Int32} {Q : Int32 → Mem → Prop} (hw : w_X12_longest σ x1 Q) : mG X 0 [(0, .ref (xB X + 37)), (1, .int x1)] [] σ 0 0 (mQ X 0 0 (qI Q)) := by
  refine g_iload_n hC dX12_longest_0 rfl ?_
  refine g_iconst (v := 0) hC dX12_longest_1 (by decide) ?_
  refine g_iconst (v := 3) hC dX12_longest_2 (by decide) ?_
  refine mG.st (st1 := ([.int x1, .int 0, .int 3] : List Value).reverse ++ []) rfl ?_
  refine g_callS (As := [.int x1, .int 0, .int 3]) (st := []) hC yw_X12_isIn ys_X12_isIn tw_465 dX12_longest_3 (fun _ h => h) (fun _ h => h) (fun h => h) (c_X12_isIn (d := 0) (Nat.le_refl _) hw) rfl (Nat.le_of_ble_eq_true rfl) (by omega) (by decide) (by decide) (kI fun v101 s103 hw => ?_)
  refine g_if_ne (tgt := 12) hC dX12_longest_6 rfl (fun c => ?_) (fun c => ?_)
  · replace hw := hw.1 c
    refine g_iconst (v := 0) hC dX12_longest_12 (by decide) ?_
    refine g_istore_n (lv' := [(2, .int 0), (0, .ref (xB X + 37)), (1, .int x1)]) hC dX12_longest_13 (hN 2 (by decide)) rfl ?_
    refine g_iconst (v := 0) hC dX12_longest_14 (by decide) ?_
    refine g_istore_n (lv' := [(3, .int 0), (2, .int 0), (0, .ref (xB X + 37)), (1, .int x1)]) hC dX12_longest_15 (hN 3 (by decide)) rfl ?_
    refine g_iconst (v := 0) hC dX12_longest_16 (by decide) ?_
    refine g_istore (lv' := [(4, .int 0), (3, .int 0), (2, .int 0), (0, .ref (xB X + 37)), (1, .int x1)]) hC dX12_longest_17 (hN 4 (by decide)) rfl ?_
    refine g_iconst (v := 0) hC dX12_longest_19 (by decide) ?_
    refine g_istore (lv' := [(5, .int 0), (4, .int 0), (3, .int 0), (2, .int 0), (0, .ref (xB X + 37)), (1, .int x1)]) hC dX12_longest_20 (hN 5 (by decide)) rfl ?_
    refine g_iconst (v := 1) hC dX12_longest_22 (by decide) ?_
    refine g_istore (lv' := [(6, .int 1), (5, .int 0), (4, .int 0), (3, .int 0), (2, .int 0), (0, .ref (xB X + 37)), (1, .int x1)]) hC dX12_longest_23 (hN 6 (by decide)) rfl ?_
    refine mG.pick (lv' := [(0, .ref (xB X + 37)), (1, .int x1), (2, .int 0), (3, .int 0), (4, .int 0), (5, .int 0), (6, .int 1)]) [5, 6, 4, 3, 2, 1, 0] rfl ?_
    obtain ⟨m104, hw⟩ := hw
    exact t_X12_longest_25 hC hd hN hP hT m104 _ _ _ _ _ _ _ hw
  · replace hw := hw.2 c
    refine g_bipush (v := (-2)) hC dX12_longest_9 (by decide) ?_
    exact g_iret hC rfl (by decide) (by decide) dX12_longest_11 (fun _ => ⟨_, rfl, hw⟩)
set_option maxRecDepth 4000 in
theorem c_X12_longest {Z : Fx} {ps ts : List (Nat × Nat × Nat)} {d : Nat} (hd : 4 ≤ d) (hP : ∀ e ∈ psM, e ∈ ps) (hT : ∀ e ∈ tsM, e ∈ ts) {σ : Mem} {x1 : Int32} {Q : Int32 → Mem → Prop} (hw : w_X12_longest σ x1 Q) : mM Z ps ts yX12_longest cX12_longest 8 (some .int) d 0 0 [.ref (Z.2.2 + 37), .int x1] σ (qI Q) := by
  refine mM.of (by decide) (Nat.le_of_ble_eq_true rfl) rfl (fun X hZ hp ht hn hC => ?_)
  subst hZ; subst hp; subst ht
  exact t_X12_longest hC hd (fun i h => by rw [hn]; exact h) hP hT hw
def w_X12_mostFrom_85 (rec_X12_mostFrom : Mem → Int32 → Int32 → (Int32 → Mem → Prop) → Prop) (Q : Int32 → Mem → Prop) (K22 : Int32 → Int32 → Int32 → Int32 → Mem → Prop) (x1 : Int32) (x2 : Int32) (x3 : Int32) (x4 : Int32) (σ : Mem) : Prop := K22 x1 x2 x3 (x4 + 1) σ
set_option maxRecDepth 4000 in
set_option maxHeartbeats 2000000 in
theorem t_X12_mostFrom_85 {X : Cx} {d : Nat} {dr : Nat} (hC : mOK X cX12_mostFrom RX12 "mostFrom" (some .int) d 0 0) (hd : dr + 3 ≤ d) (hN : ∀ i, i < 6 → i < xN X) (hP : ∀ e ∈ psM, e ∈ xP X) (hT : ∀ e ∈ tsM, e ∈ xT X) {rec_X12_mostFrom : Mem → Int32 → Int32 → (Int32 → Mem → Prop) → Prop} (hrec_X12_mostFrom : ∀ (s : Mem) (z0 : Int32) (z1 : Int32) (q : Int32 → Mem → Prop), rec_X12_mostFrom s z0 z1 q → mM (xZ X) (xP X) (xT X) yX12_mostFrom cX12_mostFrom 6 (some .int) dr 0 0 [.ref ((xB X) + 37), .int z0, .int z1] s (qI q)) {Q : Int32 → Mem → Prop} {K22 : Int32 → Int32 → Int32 → Int32 → Mem → Prop} (hK22 : ∀ (x1 : Int32) (x2 : Int32) (x3 : Int32) (x4 : Int32) (s : Mem), K22 x1 x2 x3 x4 s → mG X 22 [(0, .ref (xB X + 37)), (1, .int x1), (2, .int x2), (3, .int x3), (4, .int x4)] [] s 0 0 (mQ X 0 0 (qI Q))) {x1 : Int32} {x2 : Int32} {x3 : Int32} {x4 : Int32} {σ : Mem} (hw : w_X12_mostFrom_85 rec_X12_mostFrom Q K22 x1 x2 x3 x4 σ) : mG X 85 [(0, .ref (xB X + 37)), (1, .int x1), (2, .int x2), (3, .int x3), (4, .int x4)] [] σ 0 0 (mQ X 0 0 (qI Q)) := by
  refine g_iinc (v := x4 + 1) (lv' := [(4, .int (x4 + 1)), (0, .ref (xB X + 37)), (1, .int x1), (2, .int x2), (3, .int x3)]) hC dX12_mostFrom_85 rfl rfl (hN 4 (by decide)) rfl ?_
  refine g_goto (tgt := 22) hC dX12_mostFrom_88 rfl ?_
  refine mG.pick (lv' := [(0, .ref (xB X + 37)), (1, .int x1), (2, .int x2), (3, .int x3), (4, .int (x4 + 1))]) [1, 2, 3, 4, 0] rfl ?_
  exact hK22 _ _ _ _ _ hw
def w_X12_mostFrom_53 (rec_X12_mostFrom : Mem → Int32 → Int32 → (Int32 → Mem → Prop) → Prop) (Q : Int32 → Mem → Prop) (K22 : Int32 → Int32 → Int32 → Int32 → Mem → Prop) (x1 : Int32) (x2 : Int32) (x3 : Int32) (x4 : Int32) (x5 : Int32) (σ : Mem) : Prop := vp_in x4 3 ∧ (rec_X12_mostFrom (sI σ 56 (Int32.toNatClampNeg x4) x1) (x1 + 1) x2 (fun v101 s103 => ∀ v104 : Int32, v104 = (if x3 < (1 + v101) then (1 + v101) else x3) → (vp_in x4 3 ∧ (w_X12_mostFrom_85 rec_X12_mostFrom Q K22 x1 x2 v104 x4 (sI s103 56 (Int32.toNatClampNeg x4) x5)))))
set_option maxRecDepth 4000 in
set_option maxHeartbeats 2000000 in
theorem t_X12_mostFrom_53 {X : Cx} {d : Nat} {dr : Nat} (hC : mOK X cX12_mostFrom RX12 "mostFrom" (some .int) d 0 0) (hd : dr + 3 ≤ d) (hN : ∀ i, i < 6 → i < xN X) (hP : ∀ e ∈ psM, e ∈ xP X) (hT : ∀ e ∈ tsM, e ∈ xT X) {rec_X12_mostFrom : Mem → Int32 → Int32 → (Int32 → Mem → Prop) → Prop} (hrec_X12_mostFrom : ∀ (s : Mem) (z0 : Int32) (z1 : Int32) (q : Int32 → Mem → Prop), rec_X12_mostFrom s z0 z1 q → mM (xZ X) (xP X) (xT X) yX12_mostFrom cX12_mostFrom 6 (some .int) dr 0 0 [.ref ((xB X) + 37), .int z0, .int z1] s (qI q)) {Q : Int32 → Mem → Prop} {K22 : Int32 → Int32 → Int32 → Int32 → Mem → Prop} (hK22 : ∀ (x1 : Int32) (x2 : Int32) (x3 : Int32) (x4 : Int32) (s : Mem), K22 x1 x2 x3 x4 s → mG X 22 [(0, .ref (xB X + 37)), (1, .int x1), (2, .int x2), (3, .int x3), (4, .int x4)] [] s 0 0 (mQ X 0 0 (qI Q))) {x1 : Int32} {x2 : Int32} {x3 : Int32} {x4 : Int32} {x5 : Int32} {σ : Mem} (hw : w_X12_mostFrom_53 rec_X12_mostFrom Q K22 x1 x2 x3 x4 x5 σ) : mG X 53 [(0, .ref (xB X + 37)), (1, .int x1), (2, .int x2), (3, .int x3), (4, .int x4), (5, .int x5)] [] σ 0 0 (mQ X 0 0 (qI Q)) := by
  refine g_aload_n hC dX12_mostFrom_53 rfl ?_
  refine g_getrS hC fl_X12_185_12.s (hT _ tg_M_37) (hP _ pt_M_37_37) dX12_mostFrom_54 ?_
  refine g_iload hC dX12_mostFrom_57 rfl ?_
  refine g_iload_n hC dX12_mostFrom_59 rfl ?_
  have hin := hw.1
  replace hw := hw.2
  refine g_iastS (k := (Int32.toNatClampNeg x4)) hC (hT _ tg_M_56) rfl hin dX12_mostFrom_60 ?_
  refine g_iload_n hC dX12_mostFrom_61 rfl ?_
  refine g_iconst (v := 1) hC dX12_mostFrom_62 (by decide) ?_
  refine g_aload_n hC dX12_mostFrom_63 rfl ?_
  refine g_iload_n hC dX12_mostFrom_64 rfl ?_
  refine g_iconst (v := 1) hC dX12_mostFrom_65 (by decide) ?_
  refine g_iadd hC dX12_mostFrom_66 ?_
  refine g_iload_n hC dX12_mostFrom_67 rfl ?_
  refine g_known (fun hS => ?_)
  refine mG.st (st1 := ([.int (x1 + 1), .int x2] : List Value).reverse ++ .ref (xB X + 37) :: [.int 1, .int x3]) rfl ?_
  refine g_callV (As := [.int (x1 + 1), .int x2]) (st := [.int 1, .int x3]) hC (hS.2 _ (hT _ tg_M_37)) (by decide) ycl_12_X12_mostFrom yw_X12_mostFrom yv_X12_mostFrom tw_647 dX12_mostFrom_68 (fun _ h => h) (fun _ h => h) (fun h => h) (hrec_X12_mostFrom _ _ _ _ hw) rfl (Nat.le_of_ble_eq_true rfl) (by omega) (by decide) (by decide) (kI fun v101 s103 hw => ?_)
  refine g_iadd hC dX12_mostFrom_71 ?_
  refine g_mmax hC tw_652 tw_103 tw_5 tw_104 (Nat.le_of_ble_eq_true rfl) (by omega) (by decide) (by decide) dX12_mostFrom_72 ?_
  refine g_topi (fun v104 ev104 => ?_)
  replace hw := hw v104 ev104
  refine g_istore_n (lv' := [(3, .int v104), (0, .ref (xB X + 37)), (1, .int x1), (2, .int x2), (4, .int x4), (5, .int x5)]) hC dX12_mostFrom_75 (hN 3 (by decide)) rfl ?_
  refine g_aload_n hC dX12_mostFrom_76 rfl ?_
  refine g_getrS hC fl_X12_185_12.s (hT _ tg_M_37) (hP _ pt_M_37_37) dX12_mostFrom_77 ?_
  refine g_iload hC dX12_mostFrom_80 rfl ?_
  refine g_iload hC dX12_mostFrom_82 rfl ?_
  have hin := hw.1
  replace hw := hw.2
  refine g_iastS (k := (Int32.toNatClampNeg x4)) hC (hT _ tg_M_56) rfl hin dX12_mostFrom_84 ?_
  refine mG.pick (lv' := [(0, .ref (xB X + 37)), (1, .int x1), (2, .int x2), (3, .int v104), (4, .int x4)]) [1, 2, 3, 0, 4] rfl ?_
  exact t_X12_mostFrom_85 hC hd hN hP hT hrec_X12_mostFrom hK22 hw
def w_X12_mostFrom_22 (rec_X12_mostFrom : Mem → Int32 → Int32 → (Int32 → Mem → Prop) → Prop) (Q : Int32 → Mem → Prop) : Nat → Int32 → Int32 → Int32 → Int32 → Mem → Prop
  | 0, _, _, _, _, _ => False
  | n + 1, x1, x2, x3, x4, σ => (x2 ≤ x4 → (Q x3 σ)) ∧ (¬ x2 ≤ x4 → (vp_in x4 3 ∧ (∀ v101 : Int32, v101 = (mI σ 56 (Int32.toNatClampNeg x4)) → ((v101 = (-1) → (w_X12_mostFrom_53 rec_X12_mostFrom Q (fun z0 z1 z2 z3 z4 => w_X12_mostFrom_22 rec_X12_mostFrom Q n z0 z1 z2 z3 z4) x1 x2 x3 x4 v101 σ)) ∧ (¬ v101 = (-1) → (w_X12_couldLie σ x1 v101 (fun v102 s104 => (¬ v102 = 0 → (w_X12_mostFrom_85 rec_X12_mostFrom Q (fun z0 z1 z2 z3 z4 => w_X12_mostFrom_22 rec_X12_mostFrom Q n z0 z1 z2 z3 z4) x1 x2 x3 x4 s104)) ∧ (v102 = 0 → (w_X12_mostFrom_53 rec_X12_mostFrom Q (fun z0 z1 z2 z3 z4 => w_X12_mostFrom_22 rec_X12_mostFrom Q n z0 z1 z2 z3 z4) x1 x2 x3 x4 v101 s104)))))))))
set_option maxRecDepth 4000 in
set_option maxHeartbeats 2000000 in
theorem t_X12_mostFrom_22 {X : Cx} {d : Nat} {dr : Nat} (hC : mOK X cX12_mostFrom RX12 "mostFrom" (some .int) d 0 0) (hd : dr + 3 ≤ d) (hN : ∀ i, i < 6 → i < xN X) (hP : ∀ e ∈ psM, e ∈ xP X) (hT : ∀ e ∈ tsM, e ∈ xT X) {rec_X12_mostFrom : Mem → Int32 → Int32 → (Int32 → Mem → Prop) → Prop} (hrec_X12_mostFrom : ∀ (s : Mem) (z0 : Int32) (z1 : Int32) (q : Int32 → Mem → Prop), rec_X12_mostFrom s z0 z1 q → mM (xZ X) (xP X) (xT X) yX12_mostFrom cX12_mostFrom 6 (some .int) dr 0 0 [.ref ((xB X) + 37), .int z0, .int z1] s (qI q)) {Q : Int32 → Mem → Prop} : ∀ (n : Nat) (x1 : Int32) (x2 : Int32) (x3 : Int32) (x4 : Int32) (σ : Mem), w_X12_mostFrom_22 rec_X12_mostFrom Q n x1 x2 x3 x4 σ → mG X 22 [(0, .ref (xB X + 37)), (1, .int x1), (2, .int x2), (3, .int x3), (4, .int x4)] [] σ 0 0 (mQ X 0 0 (qI Q)) := by
  intro n
  induction n with
  | zero => intro x1 x2 x3 x4 σ hw; exact False.elim hw
  | succ n ih =>
    intro x1 x2 x3 x4 σ hw
    rw [w_X12_mostFrom_22] at hw
    refine g_iload hC dX12_mostFrom_22 rfl ?_
    refine g_iload_n hC dX12_mostFrom_24 rfl ?_
    refine g_icmp_ge (tgt := 91) hC dX12_mostFrom_25 rfl (fun c => ?_) (fun c => ?_)
    · replace hw := hw.1 c
      refine g_iload_n hC dX12_mostFrom_91 rfl ?_
      exact g_iret hC rfl (by decide) (by decide) dX12_mostFrom_92 (fun _ => ⟨_, rfl, hw⟩)
    · replace hw := hw.2 c
      refine g_aload_n hC dX12_mostFrom_28 rfl ?_
      refine g_getrS hC fl_X12_185_12.s (hT _ tg_M_37) (hP _ pt_M_37_37) dX12_mostFrom_29 ?_
      refine g_iload hC dX12_mostFrom_32 rfl ?_
      refine g_ialdSv (v := (mI σ 56 (Int32.toNatClampNeg x4))) hC (hT _ tg_M_56) rfl hw.1 rfl dX12_mostFrom_34 ?_
      replace hw := hw.2
      refine g_topi (fun v101 ev101 => ?_)
      replace hw := hw v101 ev101
      refine g_istore (lv' := [(5, .int v101), (0, .ref (xB X + 37)), (1, .int x1), (2, .int x2), (3, .int x3), (4, .int x4)]) hC dX12_mostFrom_35 (hN 5 (by decide)) rfl ?_
      refine g_iload hC dX12_mostFrom_37 rfl ?_
      refine g_iconst (v := (-1)) hC dX12_mostFrom_39 (by decide) ?_
      refine g_icmp_eq (tgt := 53) hC dX12_mostFrom_40 rfl (fun c => ?_) (fun c => ?_)
      · replace hw := hw.1 c
        refine mG.pick (lv' := [(0, .ref (xB X + 37)), (1, .int x1), (2, .int x2), (3, .int x3), (4, .int x4), (5, .int v101)]) [1, 2, 3, 4, 5, 0] rfl ?_
        exact t_X12_mostFrom_53 hC hd hN hP hT hrec_X12_mostFrom ih hw
      · replace hw := hw.2 c
        refine g_aload_n hC dX12_mostFrom_43 rfl ?_
        refine g_iload_n hC dX12_mostFrom_44 rfl ?_
        refine g_iload hC dX12_mostFrom_45 rfl ?_
        refine g_known (fun hS => ?_)
        refine mG.st (st1 := ([.int x1, .int v101] : List Value).reverse ++ .ref (xB X + 37) :: []) rfl ?_
        refine g_callV (As := [.int x1, .int v101]) (st := []) hC (hS.2 _ (hT _ tg_M_37)) (by decide) ycl_12_X12_couldLie yw_X12_couldLie yv_X12_couldLie tw_636 dX12_mostFrom_47 (fun _ h => h) (fun _ h => h) (fun h => h) (c_X12_couldLie (d := 2) (Nat.le_refl _) hP hT hw) rfl (Nat.le_of_ble_eq_true rfl) (by omega) (by decide) (by decide) (kI fun v102 s104 hw => ?_)
        refine g_if_ne (tgt := 85) hC dX12_mostFrom_50 rfl (fun c => ?_) (fun c => ?_)
        · replace hw := hw.1 c
          refine mG.pick (lv' := [(0, .ref (xB X + 37)), (1, .int x1), (2, .int x2), (3, .int x3), (4, .int x4)]) [1, 2, 3, 4, 5] rfl ?_
          exact t_X12_mostFrom_85 hC hd hN hP hT hrec_X12_mostFrom ih hw
        · replace hw := hw.2 c
          refine mG.pick (lv' := [(0, .ref (xB X + 37)), (1, .int x1), (2, .int x2), (3, .int x3), (4, .int x4), (5, .int v101)]) [1, 2, 3, 4, 5, 0] rfl ?_
          exact t_X12_mostFrom_53 hC hd hN hP hT hrec_X12_mostFrom ih hw
def w_X12_mostFrom (rec_X12_mostFrom : Mem → Int32 → Int32 → (Int32 → Mem → Prop) → Prop) (σ : Mem) (x1 : Int32) (x2 : Int32) (Q : Int32 → Mem → Prop) : Prop := (¬ x1 = (mI σ 37 0) → (rec_X12_mostFrom σ (x1 + 1) x2 (fun v101 s103 => ∃ m104 : Nat, w_X12_mostFrom_22 rec_X12_mostFrom Q m104 x1 x2 v101 0 s103))) ∧ (x1 = (mI σ 37 0) → (Q 0 σ))
set_option maxRecDepth 4000 in
set_option maxHeartbeats 2000000 in
theorem t_X12_mostFrom {X : Cx} {d : Nat} {dr : Nat} (hC : mOK X cX12_mostFrom RX12 "mostFrom" (some .int) d 0 0) (hd : dr + 3 ≤ d) (hN : ∀ i, i < 6 → i < xN X) (hP : ∀ e ∈ psM, e ∈ xP X) (hT : ∀ e ∈ tsM, e ∈ xT X) {rec_X12_mostFrom : Mem → Int32 → Int32 → (Int32 → Mem → Prop) → Prop} (hrec_X12_mostFrom : ∀ (s : Mem) (z0 : Int32) (z1 : Int32) (q : Int32 → Mem → Prop), rec_X12_mostFrom s z0 z1 q → mM (xZ X) (xP X) (xT X) yX12_mostFrom cX12_mostFrom 6 (some .int) dr 0 0 [.ref ((xB X) + 37), .int z0, .int z1] s (qI q)) {σ : Mem} {x1 : Int32} {x2 : Int32} {Q : Int32 → Mem → Prop} (hw : w_X12_mostFrom rec_X12_mostFrom σ x1 x2 Q) : mG X 0 [(0, .ref (xB X + 37)), (1, .int x1), (2, .int x2)] [] σ 0 0 (mQ X 0 0 (qI Q)) := by
  refine g_iload_n hC dX12_mostFrom_0 rfl ?_
  refine g_aload_n hC dX12_mostFrom_1 rfl ?_
  refine g_getiSv (v := (mI σ 37 0)) hC fl_X12_1_12.s (hT _ tg_M_37) rfl dX12_mostFrom_2 ?_
  refine g_icmp_ne (tgt := 10) hC dX12_mostFrom_5 rfl (fun c => ?_) (fun c => ?_)
  · replace hw := hw.1 c
    refine g_aload_n hC dX12_mostFrom_10 rfl ?_
    refine g_iload_n hC dX12_mostFrom_11 rfl ?_
    refine g_iconst (v := 1) hC dX12_mostFrom_12 (by decide) ?_
    refine g_iadd hC dX12_mostFrom_13 ?_
    refine g_iload_n hC dX12_mostFrom_14 rfl ?_
    refine g_known (fun hS => ?_)
    refine mG.st (st1 := ([.int (x1 + 1), .int x2] : List Value).reverse ++ .ref (xB X + 37) :: []) rfl ?_
    refine g_callV (As := [.int (x1 + 1), .int x2]) (st := []) hC (hS.2 _ (hT _ tg_M_37)) (by decide) ycl_12_X12_mostFrom yw_X12_mostFrom yv_X12_mostFrom tw_647 dX12_mostFrom_15 (fun _ h => h) (fun _ h => h) (fun h => h) (hrec_X12_mostFrom _ _ _ _ hw) rfl (Nat.le_of_ble_eq_true rfl) (by omega) (by decide) (by decide) (kI fun v101 s103 hw => ?_)
    refine g_istore_n (lv' := [(3, .int v101), (0, .ref (xB X + 37)), (1, .int x1), (2, .int x2)]) hC dX12_mostFrom_18 (hN 3 (by decide)) rfl ?_
    refine g_iconst (v := 0) hC dX12_mostFrom_19 (by decide) ?_
    refine g_istore (lv' := [(4, .int 0), (3, .int v101), (0, .ref (xB X + 37)), (1, .int x1), (2, .int x2)]) hC dX12_mostFrom_20 (hN 4 (by decide)) rfl ?_
    refine mG.pick (lv' := [(0, .ref (xB X + 37)), (1, .int x1), (2, .int x2), (3, .int v101), (4, .int 0)]) [2, 3, 4, 1, 0] rfl ?_
    obtain ⟨m104, hw⟩ := hw
    exact t_X12_mostFrom_22 hC hd hN hP hT hrec_X12_mostFrom m104 _ _ _ _ _ hw
  · replace hw := hw.2 c
    refine g_iconst (v := 0) hC dX12_mostFrom_8 (by decide) ?_
    exact g_iret hC rfl (by decide) (by decide) dX12_mostFrom_9 (fun _ => ⟨_, rfl, hw⟩)
set_option maxRecDepth 4000 in
theorem c_X12_mostFrom {Z : Fx} {ps ts : List (Nat × Nat × Nat)} {d dr : Nat} (hd : dr + 3 ≤ d) {rec_X12_mostFrom : Mem → Int32 → Int32 → (Int32 → Mem → Prop) → Prop} (hrec_X12_mostFrom : ∀ (s : Mem) (z0 : Int32) (z1 : Int32) (q : Int32 → Mem → Prop), rec_X12_mostFrom s z0 z1 q → mM Z ps ts yX12_mostFrom cX12_mostFrom 6 (some .int) dr 0 0 [.ref (Z.2.2 + 37), .int z0, .int z1] s (qI q)) (hP : ∀ e ∈ psM, e ∈ ps) (hT : ∀ e ∈ tsM, e ∈ ts) {σ : Mem} {x1 : Int32} {x2 : Int32} {Q : Int32 → Mem → Prop} (hw : w_X12_mostFrom rec_X12_mostFrom σ x1 x2 Q) : mM Z ps ts yX12_mostFrom cX12_mostFrom 6 (some .int) d 0 0 [.ref (Z.2.2 + 37), .int x1, .int x2] σ (qI Q) := by
  refine mM.of (by decide) (Nat.le_of_ble_eq_true rfl) rfl (fun X hZ hp ht hn hC => ?_)
  subst hZ; subst hp; subst ht
  exact t_X12_mostFrom hC hd (fun i h => by rw [hn]; exact h) hP hT hrec_X12_mostFrom hw
def f_X12_mostFrom : Nat → Mem → Int32 → Int32 → (Int32 → Mem → Prop) → Prop
  | 0, _, _, _, _ => False
  | n + 1, σ, x1, x2, Q => w_X12_mostFrom (f_X12_mostFrom n) σ x1 x2 Q
theorem cf_X12_mostFrom {Z : Fx} {ps ts : List (Nat × Nat × Nat)} (n : Nat) (hP : ∀ e ∈ psM, e ∈ ps) (hT : ∀ e ∈ tsM, e ∈ ts) : ∀ {σ : Mem} {x1 : Int32} {x2 : Int32} {Q : Int32 → Mem → Prop}, f_X12_mostFrom n σ x1 x2 Q → mM Z ps ts yX12_mostFrom cX12_mostFrom 6 (some .int) (3 * (n + 1)) 0 0 [.ref (Z.2.2 + 37), .int x1, .int x2] σ (qI Q) := by
  induction n with
  | zero => intro σ x1 x2 Q hw; exact False.elim hw
  | succ n ih =>
    intro σ x1 x2 Q hw
    rw [f_X12_mostFrom] at hw
    exact c_X12_mostFrom (dr := 3 * (n + 1)) (by omega) (fun s z0 z1 q h => ih h) hP hT hw
def w_X12_several_14 (Q : Int32 → Mem → Prop) : Nat → Int32 → Int32 → Mem → Prop
  | 0, _, _, _ => False
  | n + 1, x1, x2, σ => (3 ≤ x2 → (∃ m104 : Nat, m104 ≤ 12 ∧ f_X12_mostFrom m104 σ 0 x1 (fun v101 s103 => Q v101 s103))) ∧ (¬ 3 ≤ x2 → (vp_in x2 3 ∧ (w_X12_several_14 Q n x1 (x2 + 1) (sI σ 56 (Int32.toNatClampNeg x2) (-1)))))
set_option maxRecDepth 4000 in
set_option maxHeartbeats 2000000 in
theorem t_X12_several_14 {X : Cx} {d : Nat} (hC : mOK X cX12_several RX12 "several" (some .int) d 0 0) (hd : 40 ≤ d) (hN : ∀ i, i < 3 → i < xN X) (hP : ∀ e ∈ psM, e ∈ xP X) (hT : ∀ e ∈ tsM, e ∈ xT X) {Q : Int32 → Mem → Prop} : ∀ (n : Nat) (x1 : Int32) (x2 : Int32) (σ : Mem), w_X12_several_14 Q n x1 x2 σ → mG X 14 [(0, .ref (xB X + 37)), (1, .int x1), (2, .int x2)] [] σ 0 0 (mQ X 0 0 (qI Q)) := by
  intro n
  induction n with
  | zero => intro x1 x2 σ hw; exact False.elim hw
  | succ n ih =>
    intro x1 x2 σ hw
    rw [w_X12_several_14] at hw
    refine g_iload_n hC dX12_several_14 rfl ?_
    refine g_iconst (v := 3) hC dX12_several_15 (by decide) ?_
    refine g_icmp_ge (tgt := 32) hC dX12_several_16 rfl (fun c => ?_) (fun c => ?_)
    · replace hw := hw.1 c
      refine g_aload_n hC dX12_several_32 rfl ?_
      refine g_iconst (v := 0) hC dX12_several_33 (by decide) ?_
      refine g_iload_n hC dX12_several_34 rfl ?_
      refine g_known (fun hS => ?_)
      obtain ⟨m104, hn, hw⟩ := hw
      refine mG.st (st1 := ([.int 0, .int x1] : List Value).reverse ++ .ref (xB X + 37) :: []) rfl ?_
      refine g_callV (As := [.int 0, .int x1]) (st := []) hC (hS.2 _ (hT _ tg_M_37)) (by decide) ycl_12_X12_mostFrom yw_X12_mostFrom yv_X12_mostFrom tw_647 dX12_several_35 (fun _ h => h) (fun _ h => h) (fun h => h) (cf_X12_mostFrom m104 hP hT hw) rfl (Nat.le_of_ble_eq_true rfl) (by omega) (by decide) (by decide) (kI fun v101 s103 hw => ?_)
      exact g_iret hC rfl (by decide) (by decide) dX12_several_38 (fun _ => ⟨_, rfl, hw⟩)
    · replace hw := hw.2 c
      refine g_aload_n hC dX12_several_19 rfl ?_
      refine g_getrS hC fl_X12_185_12.s (hT _ tg_M_37) (hP _ pt_M_37_37) dX12_several_20 ?_
      refine g_iload_n hC dX12_several_23 rfl ?_
      refine g_iconst (v := (-1)) hC dX12_several_24 (by decide) ?_
      have hin := hw.1
      replace hw := hw.2
      refine g_iastS (k := (Int32.toNatClampNeg x2)) hC (hT _ tg_M_56) rfl hin dX12_several_25 ?_
      refine g_iinc (v := x2 + 1) (lv' := [(2, .int (x2 + 1)), (0, .ref (xB X + 37)), (1, .int x1)]) hC dX12_several_26 rfl rfl (hN 2 (by decide)) rfl ?_
      refine g_goto (tgt := 14) hC dX12_several_29 rfl ?_
      refine mG.pick (lv' := [(0, .ref (xB X + 37)), (1, .int x1), (2, .int (x2 + 1))]) [1, 2, 0] rfl ?_
      exact ih _ _ _ hw
def w_X12_several (σ : Mem) (x1 : Int32) (Q : Int32 → Mem → Prop) : Prop := w_X12_isIn σ x1 1 3 (fun v101 s103 => (¬ v101 = 0 → (∃ m104 : Nat, w_X12_several_14 Q m104 x1 0 s103)) ∧ (v101 = 0 → (Q (-2) s103)))
set_option maxRecDepth 4000 in
set_option maxHeartbeats 2000000 in
theorem t_X12_several {X : Cx} {d : Nat} (hC : mOK X cX12_several RX12 "several" (some .int) d 0 0) (hd : 40 ≤ d) (hN : ∀ i, i < 3 → i < xN X) (hP : ∀ e ∈ psM, e ∈ xP X) (hT : ∀ e ∈ tsM, e ∈ xT X) {σ : Mem} {x1 : Int32} {Q : Int32 → Mem → Prop} (hw : w_X12_several σ x1 Q) : mG X 0 [(0, .ref (xB X + 37)), (1, .int x1)] [] σ 0 0 (mQ X 0 0 (qI Q)) := by
  refine g_iload_n hC dX12_several_0 rfl ?_
  refine g_iconst (v := 1) hC dX12_several_1 (by decide) ?_
  refine g_iconst (v := 3) hC dX12_several_2 (by decide) ?_
  refine mG.st (st1 := ([.int x1, .int 1, .int 3] : List Value).reverse ++ []) rfl ?_
  refine g_callS (As := [.int x1, .int 1, .int 3]) (st := []) hC yw_X12_isIn ys_X12_isIn tw_465 dX12_several_3 (fun _ h => h) (fun _ h => h) (fun h => h) (c_X12_isIn (d := 0) (Nat.le_refl _) hw) rfl (Nat.le_of_ble_eq_true rfl) (by omega) (by decide) (by decide) (kI fun v101 s103 hw => ?_)
  refine g_if_ne (tgt := 12) hC dX12_several_6 rfl (fun c => ?_) (fun c => ?_)
  · replace hw := hw.1 c
    refine g_iconst (v := 0) hC dX12_several_12 (by decide) ?_
    refine g_istore_n (lv' := [(2, .int 0), (0, .ref (xB X + 37)), (1, .int x1)]) hC dX12_several_13 (hN 2 (by decide)) rfl ?_
    refine mG.pick (lv' := [(0, .ref (xB X + 37)), (1, .int x1), (2, .int 0)]) [1, 2, 0] rfl ?_
    obtain ⟨m104, hw⟩ := hw
    exact t_X12_several_14 hC hd hN hP hT m104 _ _ _ hw
  · replace hw := hw.2 c
    refine g_bipush (v := (-2)) hC dX12_several_9 (by decide) ?_
    exact g_iret hC rfl (by decide) (by decide) dX12_several_11 (fun _ => ⟨_, rfl, hw⟩)
set_option maxRecDepth 4000 in
theorem c_X12_several {Z : Fx} {ps ts : List (Nat × Nat × Nat)} {d : Nat} (hd : 40 ≤ d) (hP : ∀ e ∈ psM, e ∈ ps) (hT : ∀ e ∈ tsM, e ∈ ts) {σ : Mem} {x1 : Int32} {Q : Int32 → Mem → Prop} (hw : w_X12_several σ x1 Q) : mM Z ps ts yX12_several cX12_several 3 (some .int) d 0 0 [.ref (Z.2.2 + 37), .int x1] σ (qI Q) := by
  refine mM.of (by decide) (Nat.le_of_ble_eq_true rfl) rfl (fun X hZ hp ht hn hC => ?_)
  subst hZ; subst hp; subst ht
  exact t_X12_several hC hd (fun i h => by rw [hn]; exact h) hP hT hw
def w_X12_rises_140 (Q : Int32 → Mem → Prop) (K16 : Int32 → Int32 → Int32 → Mem → Prop) (x1 : Int32) (x3 : Int32) (xy0 : Int32) (σ : Mem) : Prop := K16 x1 xy0 (x3 + 1) σ
set_option maxRecDepth 4000 in
set_option maxHeartbeats 2000000 in
theorem t_X12_rises_140 {X : Cx} {d : Nat} (hC : mOK X cX12_rises RX12 "rises" (some .int) d 0 0) (hd : 1 ≤ d) (hN : ∀ i, i < 7 → i < xN X) (hP : ∀ e ∈ psM, e ∈ xP X) (hT : ∀ e ∈ tsM, e ∈ xT X) {Q : Int32 → Mem → Prop} {K16 : Int32 → Int32 → Int32 → Mem → Prop} (hK16 : ∀ (x1 : Int32) (x2 : Int32) (x3 : Int32) (s : Mem), K16 x1 x2 x3 s → mG X 16 [(0, .ref (xB X + 37)), (1, .int x1), (2, .int x2), (3, .int x3)] [] s 0 0 (mQ X 0 0 (qI Q))) {x1 : Int32} {x3 : Int32} {xy0 : Int32} {σ : Mem} (hw : w_X12_rises_140 Q K16 x1 x3 xy0 σ) : mG X 140 [(0, .ref (xB X + 37)), (1, .int x1), (3, .int x3)] [.int xy0] σ 0 0 (mQ X 0 0 (qI Q)) := by
  refine g_istore_n (lv' := [(2, .int xy0), (0, .ref (xB X + 37)), (1, .int x1), (3, .int x3)]) hC dX12_rises_140 (hN 2 (by decide)) rfl ?_
  refine g_iinc (v := x3 + 1) (lv' := [(3, .int (x3 + 1)), (2, .int xy0), (0, .ref (xB X + 37)), (1, .int x1)]) hC dX12_rises_141 rfl rfl (hN 3 (by decide)) rfl ?_
  refine g_goto (tgt := 16) hC dX12_rises_144 rfl ?_
  refine mG.pick (lv' := [(0, .ref (xB X + 37)), (1, .int x1), (2, .int xy0), (3, .int (x3 + 1))]) [2, 3, 1, 0] rfl ?_
  exact hK16 _ _ _ _ hw
def w_X12_rises_117 (Q : Int32 → Mem → Prop) (K16 : Int32 → Int32 → Int32 → Mem → Prop) (K35 : Int32 → Int32 → Int32 → Int32 → Int32 → Int32 → Mem → Prop) (x1 : Int32) (x2 : Int32) (x3 : Int32) (x4 : Int32) (x5 : Int32) (x6 : Int32) (σ : Mem) : Prop := K35 x1 x2 x3 x4 x5 (x6 + 1) σ
set_option maxRecDepth 4000 in
set_option maxHeartbeats 2000000 in
theorem t_X12_rises_117 {X : Cx} {d : Nat} (hC : mOK X cX12_rises RX12 "rises" (some .int) d 0 0) (hd : 1 ≤ d) (hN : ∀ i, i < 7 → i < xN X) (hP : ∀ e ∈ psM, e ∈ xP X) (hT : ∀ e ∈ tsM, e ∈ xT X) {Q : Int32 → Mem → Prop} {K16 : Int32 → Int32 → Int32 → Mem → Prop} {K35 : Int32 → Int32 → Int32 → Int32 → Int32 → Int32 → Mem → Prop} (hK16 : ∀ (x1 : Int32) (x2 : Int32) (x3 : Int32) (s : Mem), K16 x1 x2 x3 s → mG X 16 [(0, .ref (xB X + 37)), (1, .int x1), (2, .int x2), (3, .int x3)] [] s 0 0 (mQ X 0 0 (qI Q))) (hK35 : ∀ (x1 : Int32) (x2 : Int32) (x3 : Int32) (x4 : Int32) (x5 : Int32) (x6 : Int32) (s : Mem), K35 x1 x2 x3 x4 x5 x6 s → mG X 35 [(0, .ref (xB X + 37)), (1, .int x1), (2, .int x2), (3, .int x3), (4, .int x4), (5, .int x5), (6, .int x6)] [] s 0 0 (mQ X 0 0 (qI Q))) {x1 : Int32} {x2 : Int32} {x3 : Int32} {x4 : Int32} {x5 : Int32} {x6 : Int32} {σ : Mem} (hw : w_X12_rises_117 Q K16 K35 x1 x2 x3 x4 x5 x6 σ) : mG X 117 [(0, .ref (xB X + 37)), (1, .int x1), (2, .int x2), (3, .int x3), (4, .int x4), (5, .int x5), (6, .int x6)] [] σ 0 0 (mQ X 0 0 (qI Q)) := by
  refine g_iinc (v := x6 + 1) (lv' := [(6, .int (x6 + 1)), (0, .ref (xB X + 37)), (1, .int x1), (2, .int x2), (3, .int x3), (4, .int x4), (5, .int x5)]) hC dX12_rises_117 rfl rfl (hN 6 (by decide)) rfl ?_
  refine g_goto (tgt := 35) hC dX12_rises_120 rfl ?_
  refine mG.pick (lv' := [(0, .ref (xB X + 37)), (1, .int x1), (2, .int x2), (3, .int x3), (4, .int x4), (5, .int x5), (6, .int (x6 + 1))]) [1, 2, 3, 4, 5, 6, 0] rfl ?_
  exact hK35 _ _ _ _ _ _ _ hw
def w_X12_rises_111 (Q : Int32 → Mem → Prop) (K16 : Int32 → Int32 → Int32 → Mem → Prop) (K35 : Int32 → Int32 → Int32 → Int32 → Int32 → Int32 → Mem → Prop) (x1 : Int32) (x2 : Int32) (x3 : Int32) (x6 : Int32) (xy0 : Int32) (σ : Mem) : Prop := w_X12_rises_117 Q K16 K35 x1 x2 x3 x6 xy0 x6 σ
set_option maxRecDepth 4000 in
set_option maxHeartbeats 2000000 in
theorem t_X12_rises_111 {X : Cx} {d : Nat} (hC : mOK X cX12_rises RX12 "rises" (some .int) d 0 0) (hd : 1 ≤ d) (hN : ∀ i, i < 7 → i < xN X) (hP : ∀ e ∈ psM, e ∈ xP X) (hT : ∀ e ∈ tsM, e ∈ xT X) {Q : Int32 → Mem → Prop} {K16 : Int32 → Int32 → Int32 → Mem → Prop} {K35 : Int32 → Int32 → Int32 → Int32 → Int32 → Int32 → Mem → Prop} (hK16 : ∀ (x1 : Int32) (x2 : Int32) (x3 : Int32) (s : Mem), K16 x1 x2 x3 s → mG X 16 [(0, .ref (xB X + 37)), (1, .int x1), (2, .int x2), (3, .int x3)] [] s 0 0 (mQ X 0 0 (qI Q))) (hK35 : ∀ (x1 : Int32) (x2 : Int32) (x3 : Int32) (x4 : Int32) (x5 : Int32) (x6 : Int32) (s : Mem), K35 x1 x2 x3 x4 x5 x6 s → mG X 35 [(0, .ref (xB X + 37)), (1, .int x1), (2, .int x2), (3, .int x3), (4, .int x4), (5, .int x5), (6, .int x6)] [] s 0 0 (mQ X 0 0 (qI Q))) {x1 : Int32} {x2 : Int32} {x3 : Int32} {x6 : Int32} {xy0 : Int32} {σ : Mem} (hw : w_X12_rises_111 Q K16 K35 x1 x2 x3 x6 xy0 σ) : mG X 111 [(0, .ref (xB X + 37)), (1, .int x1), (2, .int x2), (3, .int x3), (6, .int x6)] [.int xy0] σ 0 0 (mQ X 0 0 (qI Q)) := by
  refine g_istore (lv' := [(5, .int xy0), (0, .ref (xB X + 37)), (1, .int x1), (2, .int x2), (3, .int x3), (6, .int x6)]) hC dX12_rises_111 (hN 5 (by decide)) rfl ?_
  refine g_iload hC dX12_rises_113 rfl ?_
  refine g_istore (lv' := [(4, .int x6), (5, .int xy0), (0, .ref (xB X + 37)), (1, .int x1), (2, .int x2), (3, .int x3), (6, .int x6)]) hC dX12_rises_115 (hN 4 (by decide)) rfl ?_
  refine mG.pick (lv' := [(0, .ref (xB X + 37)), (1, .int x1), (2, .int x2), (3, .int x3), (4, .int x6), (5, .int xy0), (6, .int x6)]) [2, 3, 4, 5, 0, 1, 6] rfl ?_
  exact t_X12_rises_117 hC hd hN hP hT hK16 hK35 hw
def w_X12_rises_110 (Q : Int32 → Mem → Prop) (K16 : Int32 → Int32 → Int32 → Mem → Prop) (K35 : Int32 → Int32 → Int32 → Int32 → Int32 → Int32 → Mem → Prop) (x1 : Int32) (x2 : Int32) (x3 : Int32) (x6 : Int32) (σ : Mem) : Prop := w_X12_rises_111 Q K16 K35 x1 x2 x3 x6 0 σ
set_option maxRecDepth 4000 in
set_option maxHeartbeats 2000000 in
theorem t_X12_rises_110 {X : Cx} {d : Nat} (hC : mOK X cX12_rises RX12 "rises" (some .int) d 0 0) (hd : 1 ≤ d) (hN : ∀ i, i < 7 → i < xN X) (hP : ∀ e ∈ psM, e ∈ xP X) (hT : ∀ e ∈ tsM, e ∈ xT X) {Q : Int32 → Mem → Prop} {K16 : Int32 → Int32 → Int32 → Mem → Prop} {K35 : Int32 → Int32 → Int32 → Int32 → Int32 → Int32 → Mem → Prop} (hK16 : ∀ (x1 : Int32) (x2 : Int32) (x3 : Int32) (s : Mem), K16 x1 x2 x3 s → mG X 16 [(0, .ref (xB X + 37)), (1, .int x1), (2, .int x2), (3, .int x3)] [] s 0 0 (mQ X 0 0 (qI Q))) (hK35 : ∀ (x1 : Int32) (x2 : Int32) (x3 : Int32) (x4 : Int32) (x5 : Int32) (x6 : Int32) (s : Mem), K35 x1 x2 x3 x4 x5 x6 s → mG X 35 [(0, .ref (xB X + 37)), (1, .int x1), (2, .int x2), (3, .int x3), (4, .int x4), (5, .int x5), (6, .int x6)] [] s 0 0 (mQ X 0 0 (qI Q))) {x1 : Int32} {x2 : Int32} {x3 : Int32} {x6 : Int32} {σ : Mem} (hw : w_X12_rises_110 Q K16 K35 x1 x2 x3 x6 σ) : mG X 110 [(0, .ref (xB X + 37)), (1, .int x1), (2, .int x2), (3, .int x3), (6, .int x6)] [] σ 0 0 (mQ X 0 0 (qI Q)) := by
  refine g_iconst (v := 0) hC dX12_rises_110 (by decide) ?_
  refine mG.pick (lv' := [(0, .ref (xB X + 37)), (1, .int x1), (2, .int x2), (3, .int x3), (6, .int x6)]) [0, 1, 2, 3, 4] rfl ?_
  exact t_X12_rises_111 hC hd hN hP hT hK16 hK35 hw
def w_X12_rises_106 (Q : Int32 → Mem → Prop) (K16 : Int32 → Int32 → Int32 → Mem → Prop) (K35 : Int32 → Int32 → Int32 → Int32 → Int32 → Int32 → Mem → Prop) (x1 : Int32) (x2 : Int32) (x3 : Int32) (x6 : Int32) (σ : Mem) : Prop := w_X12_rises_111 Q K16 K35 x1 x2 x3 x6 1 σ
set_option maxRecDepth 4000 in
set_option maxHeartbeats 2000000 in
theorem t_X12_rises_106 {X : Cx} {d : Nat} (hC : mOK X cX12_rises RX12 "rises" (some .int) d 0 0) (hd : 1 ≤ d) (hN : ∀ i, i < 7 → i < xN X) (hP : ∀ e ∈ psM, e ∈ xP X) (hT : ∀ e ∈ tsM, e ∈ xT X) {Q : Int32 → Mem → Prop} {K16 : Int32 → Int32 → Int32 → Mem → Prop} {K35 : Int32 → Int32 → Int32 → Int32 → Int32 → Int32 → Mem → Prop} (hK16 : ∀ (x1 : Int32) (x2 : Int32) (x3 : Int32) (s : Mem), K16 x1 x2 x3 s → mG X 16 [(0, .ref (xB X + 37)), (1, .int x1), (2, .int x2), (3, .int x3)] [] s 0 0 (mQ X 0 0 (qI Q))) (hK35 : ∀ (x1 : Int32) (x2 : Int32) (x3 : Int32) (x4 : Int32) (x5 : Int32) (x6 : Int32) (s : Mem), K35 x1 x2 x3 x4 x5 x6 s → mG X 35 [(0, .ref (xB X + 37)), (1, .int x1), (2, .int x2), (3, .int x3), (4, .int x4), (5, .int x5), (6, .int x6)] [] s 0 0 (mQ X 0 0 (qI Q))) {x1 : Int32} {x2 : Int32} {x3 : Int32} {x6 : Int32} {σ : Mem} (hw : w_X12_rises_106 Q K16 K35 x1 x2 x3 x6 σ) : mG X 106 [(0, .ref (xB X + 37)), (1, .int x1), (2, .int x2), (3, .int x3), (6, .int x6)] [] σ 0 0 (mQ X 0 0 (qI Q)) := by
  refine g_iconst (v := 1) hC dX12_rises_106 (by decide) ?_
  refine g_goto (tgt := 111) hC dX12_rises_107 rfl ?_
  refine mG.pick (lv' := [(0, .ref (xB X + 37)), (1, .int x1), (2, .int x2), (3, .int x3), (6, .int x6)]) [0, 1, 2, 3, 4] rfl ?_
  exact t_X12_rises_111 hC hd hN hP hT hK16 hK35 hw
def w_X12_rises_35 (Q : Int32 → Mem → Prop) (K16 : Int32 → Int32 → Int32 → Mem → Prop) : Nat → Int32 → Int32 → Int32 → Int32 → Int32 → Int32 → Mem → Prop
  | 0, _, _, _, _, _, _, _ => False
  | n + 1, x1, x2, x3, x4, x5, x6, σ => ((mI σ 37 0) ≤ x6 → ((x5 = 0 → (w_X12_rises_140 Q K16 x1 x3 x2 σ)) ∧ (¬ x5 = 0 → (w_X12_bits σ x3 (fun v101 s103 => w_X12_rises_140 Q K16 x1 x3 (if x2 < v101 then v101 else x2) s103))))) ∧ (¬ (mI σ 37 0) ≤ x6 → ((¬ ((x3 >>> (x6 &&& 31)) &&& 1) = 1 → (w_X12_rises_117 Q K16 (fun z0 z1 z2 z3 z4 z5 z6 => w_X12_rises_35 Q K16 n z0 z1 z2 z3 z4 z5 z6) x1 x2 x3 x4 x5 x6 σ)) ∧ (((x3 >>> (x6 &&& 31)) &&& 1) = 1 → ((x5 = 0 → (w_X12_rises_110 Q K16 (fun z0 z1 z2 z3 z4 z5 z6 => w_X12_rises_35 Q K16 n z0 z1 z2 z3 z4 z5 z6) x1 x2 x3 x6 σ)) ∧ (¬ x5 = 0 → ((x4 = (-1) → (w_X12_rises_106 Q K16 (fun z0 z1 z2 z3 z4 z5 z6 => w_X12_rises_35 Q K16 n z0 z1 z2 z3 z4 z5 z6) x1 x2 x3 x6 σ)) ∧ (¬ x4 = (-1) → ((¬ x1 = 0 → (vp_in x6 8 ∧ (vp_in x4 8 ∧ (((mI σ 38 (Int32.toNatClampNeg x4)) ≤ (mI σ 38 (Int32.toNatClampNeg x6)) → (w_X12_rises_110 Q K16 (fun z0 z1 z2 z3 z4 z5 z6 => w_X12_rises_35 Q K16 n z0 z1 z2 z3 z4 z5 z6) x1 x2 x3 x6 σ)) ∧ (¬ (mI σ 38 (Int32.toNatClampNeg x4)) ≤ (mI σ 38 (Int32.toNatClampNeg x6)) → (w_X12_rises_106 Q K16 (fun z0 z1 z2 z3 z4 z5 z6 => w_X12_rises_35 Q K16 n z0 z1 z2 z3 z4 z5 z6) x1 x2 x3 x6 σ)))))) ∧ (x1 = 0 → (vp_in x6 8 ∧ (vp_in x4 8 ∧ (((mI σ 38 (Int32.toNatClampNeg x6)) ≤ (mI σ 38 (Int32.toNatClampNeg x4)) → (w_X12_rises_110 Q K16 (fun z0 z1 z2 z3 z4 z5 z6 => w_X12_rises_35 Q K16 n z0 z1 z2 z3 z4 z5 z6) x1 x2 x3 x6 σ)) ∧ (¬ (mI σ 38 (Int32.toNatClampNeg x6)) ≤ (mI σ 38 (Int32.toNatClampNeg x4)) → (w_X12_rises_106 Q K16 (fun z0 z1 z2 z3 z4 z5 z6 => w_X12_rises_35 Q K16 n z0 z1 z2 z3 z4 z5 z6) x1 x2 x3 x6 σ))))))))))))))
set_option maxRecDepth 4000 in
set_option maxHeartbeats 2000000 in
theorem t_X12_rises_35 {X : Cx} {d : Nat} (hC : mOK X cX12_rises RX12 "rises" (some .int) d 0 0) (hd : 1 ≤ d) (hN : ∀ i, i < 7 → i < xN X) (hP : ∀ e ∈ psM, e ∈ xP X) (hT : ∀ e ∈ tsM, e ∈ xT X) {Q : Int32 → Mem → Prop} {K16 : Int32 → Int32 → Int32 → Mem → Prop} (hK16 : ∀ (x1 : Int32) (x2 : Int32) (x3 : Int32) (s : Mem), K16 x1 x2 x3 s → mG X 16 [(0, .ref (xB X + 37)), (1, .int x1), (2, .int x2), (3, .int x3)] [] s 0 0 (mQ X 0 0 (qI Q))) : ∀ (n : Nat) (x1 : Int32) (x2 : Int32) (x3 : Int32) (x4 : Int32) (x5 : Int32) (x6 : Int32) (σ : Mem), w_X12_rises_35 Q K16 n x1 x2 x3 x4 x5 x6 σ → mG X 35 [(0, .ref (xB X + 37)), (1, .int x1), (2, .int x2), (3, .int x3), (4, .int x4), (5, .int x5), (6, .int x6)] [] σ 0 0 (mQ X 0 0 (qI Q)) := by
  intro n
  induction n with
  | zero => intro x1 x2 x3 x4 x5 x6 σ hw; exact False.elim hw
  | succ n ih =>
    intro x1 x2 x3 x4 x5 x6 σ hw
    rw [w_X12_rises_35] at hw
    refine g_iload hC dX12_rises_35 rfl ?_
    refine g_aload_n hC dX12_rises_37 rfl ?_
    refine g_getiSv (v := (mI σ 37 0)) hC fl_X12_1_12.s (hT _ tg_M_37) rfl dX12_rises_38 ?_
    refine g_icmp_ge (tgt := 123) hC dX12_rises_41 rfl (fun c => ?_) (fun c => ?_)
    · replace hw := hw.1 c
      refine g_iload hC dX12_rises_123 rfl ?_
      refine g_if_eq (tgt := 139) hC dX12_rises_125 rfl (fun c => ?_) (fun c => ?_)
      · replace hw := hw.1 c
        refine g_iload_n hC dX12_rises_139 rfl ?_
        refine mG.pick (lv' := [(0, .ref (xB X + 37)), (1, .int x1), (3, .int x3)]) [0, 1, 3] rfl ?_
        exact t_X12_rises_140 hC hd hN hP hT hK16 hw
      · replace hw := hw.2 c
        refine g_iload_n hC dX12_rises_128 rfl ?_
        refine g_iload_n hC dX12_rises_129 rfl ?_
        refine mG.st (st1 := ([.int x3] : List Value).reverse ++ [.int x2]) rfl ?_
        refine g_callS (As := [.int x3]) (st := [.int x2]) hC yw_X12_bits ys_X12_bits tw_640 dX12_rises_130 (fun _ h => h) (fun _ h => h) (fun h => h) (c_X12_bits (d := 0) (Nat.le_refl _) hw) rfl (Nat.le_of_ble_eq_true rfl) (by omega) (by decide) (by decide) (kI fun v101 s103 hw => ?_)
        refine g_mmax hC tw_652 tw_103 tw_5 tw_104 (Nat.le_of_ble_eq_true rfl) (by omega) (by decide) (by decide) dX12_rises_133 ?_
        refine g_goto (tgt := 140) hC dX12_rises_136 rfl ?_
        refine mG.pick (lv' := [(0, .ref (xB X + 37)), (1, .int x1), (3, .int x3)]) [0, 1, 3] rfl ?_
        exact t_X12_rises_140 hC hd hN hP hT hK16 hw
    · replace hw := hw.2 c
      refine g_iload_n hC dX12_rises_44 rfl ?_
      refine g_iload hC dX12_rises_45 rfl ?_
      refine g_ishr hC dX12_rises_47 ?_
      refine g_iconst (v := 1) hC dX12_rises_48 (by decide) ?_
      refine g_iand hC dX12_rises_49 ?_
      refine g_iconst (v := 1) hC dX12_rises_50 (by decide) ?_
      refine g_icmp_ne (tgt := 117) hC dX12_rises_51 rfl (fun c => ?_) (fun c => ?_)
      · replace hw := hw.1 c
        refine mG.pick (lv' := [(0, .ref (xB X + 37)), (1, .int x1), (2, .int x2), (3, .int x3), (4, .int x4), (5, .int x5), (6, .int x6)]) [0, 1, 2, 3, 4, 5, 6] rfl ?_
        exact t_X12_rises_117 hC hd hN hP hT hK16 ih hw
      · replace hw := hw.2 c
        refine g_iload hC dX12_rises_54 rfl ?_
        refine g_if_eq (tgt := 110) hC dX12_rises_56 rfl (fun c => ?_) (fun c => ?_)
        · replace hw := hw.1 c
          refine mG.pick (lv' := [(0, .ref (xB X + 37)), (1, .int x1), (2, .int x2), (3, .int x3), (6, .int x6)]) [0, 1, 2, 3, 6] rfl ?_
          exact t_X12_rises_110 hC hd hN hP hT hK16 ih hw
        · replace hw := hw.2 c
          refine g_iload hC dX12_rises_59 rfl ?_
          refine g_iconst (v := (-1)) hC dX12_rises_61 (by decide) ?_
          refine g_icmp_eq (tgt := 106) hC dX12_rises_62 rfl (fun c => ?_) (fun c => ?_)
          · replace hw := hw.1 c
            refine mG.pick (lv' := [(0, .ref (xB X + 37)), (1, .int x1), (2, .int x2), (3, .int x3), (6, .int x6)]) [0, 1, 2, 3, 6] rfl ?_
            exact t_X12_rises_106 hC hd hN hP hT hK16 ih hw
          · replace hw := hw.2 c
            refine g_iload_n hC dX12_rises_65 rfl ?_
            refine g_if_ne (tgt := 89) hC dX12_rises_66 rfl (fun c => ?_) (fun c => ?_)
            · replace hw := hw.1 c
              refine g_aload_n hC dX12_rises_89 rfl ?_
              refine g_getrS hC fl_X12_14_12.s (hT _ tg_M_37) (hP _ pt_M_37_1) dX12_rises_90 ?_
              refine g_iload hC dX12_rises_93 rfl ?_
              refine g_ialdSv (v := (mI σ 38 (Int32.toNatClampNeg x6))) hC (hT _ tg_M_38) rfl hw.1 rfl dX12_rises_95 ?_
              replace hw := hw.2
              refine g_aload_n hC dX12_rises_96 rfl ?_
              refine g_getrS hC fl_X12_14_12.s (hT _ tg_M_37) (hP _ pt_M_37_1) dX12_rises_97 ?_
              refine g_iload hC dX12_rises_100 rfl ?_
              refine g_ialdSv (v := (mI σ 38 (Int32.toNatClampNeg x4))) hC (hT _ tg_M_38) rfl hw.1 rfl dX12_rises_102 ?_
              replace hw := hw.2
              refine g_icmp_ge (tgt := 110) hC dX12_rises_103 rfl (fun c => ?_) (fun c => ?_)
              · replace hw := hw.1 c
                refine mG.pick (lv' := [(0, .ref (xB X + 37)), (1, .int x1), (2, .int x2), (3, .int x3), (6, .int x6)]) [0, 1, 2, 3, 6] rfl ?_
                exact t_X12_rises_110 hC hd hN hP hT hK16 ih hw
              · replace hw := hw.2 c
                refine mG.pick (lv' := [(0, .ref (xB X + 37)), (1, .int x1), (2, .int x2), (3, .int x3), (6, .int x6)]) [0, 1, 2, 3, 6] rfl ?_
                exact t_X12_rises_106 hC hd hN hP hT hK16 ih hw
            · replace hw := hw.2 c
              refine g_aload_n hC dX12_rises_69 rfl ?_
              refine g_getrS hC fl_X12_14_12.s (hT _ tg_M_37) (hP _ pt_M_37_1) dX12_rises_70 ?_
              refine g_iload hC dX12_rises_73 rfl ?_
              refine g_ialdSv (v := (mI σ 38 (Int32.toNatClampNeg x6))) hC (hT _ tg_M_38) rfl hw.1 rfl dX12_rises_75 ?_
              replace hw := hw.2
              refine g_aload_n hC dX12_rises_76 rfl ?_
              refine g_getrS hC fl_X12_14_12.s (hT _ tg_M_37) (hP _ pt_M_37_1) dX12_rises_77 ?_
              refine g_iload hC dX12_rises_80 rfl ?_
              refine g_ialdSv (v := (mI σ 38 (Int32.toNatClampNeg x4))) hC (hT _ tg_M_38) rfl hw.1 rfl dX12_rises_82 ?_
              replace hw := hw.2
              refine g_icmp_le (tgt := 110) hC dX12_rises_83 rfl (fun c => ?_) (fun c => ?_)
              · replace hw := hw.1 c
                refine mG.pick (lv' := [(0, .ref (xB X + 37)), (1, .int x1), (2, .int x2), (3, .int x3), (6, .int x6)]) [0, 1, 2, 3, 6] rfl ?_
                exact t_X12_rises_110 hC hd hN hP hT hK16 ih hw
              · replace hw := hw.2 c
                refine g_goto (tgt := 106) hC dX12_rises_86 rfl ?_
                refine mG.pick (lv' := [(0, .ref (xB X + 37)), (1, .int x1), (2, .int x2), (3, .int x3), (6, .int x6)]) [0, 1, 2, 3, 6] rfl ?_
                exact t_X12_rises_106 hC hd hN hP hT hK16 ih hw
def w_X12_rises_16 (Q : Int32 → Mem → Prop) : Nat → Int32 → Int32 → Int32 → Mem → Prop
  | 0, _, _, _, _ => False
  | n + 1, x1, x2, x3, σ => (((1 : Int32) <<< ((mI σ 37 0) &&& 31)) ≤ x3 → (Q x2 σ)) ∧ (¬ ((1 : Int32) <<< ((mI σ 37 0) &&& 31)) ≤ x3 → (∃ m101 : Nat, w_X12_rises_35 Q (fun z0 z1 z2 z3 => w_X12_rises_16 Q n z0 z1 z2 z3) m101 x1 x2 x3 (-1) 1 0 σ))
set_option maxRecDepth 4000 in
set_option maxHeartbeats 2000000 in
theorem t_X12_rises_16 {X : Cx} {d : Nat} (hC : mOK X cX12_rises RX12 "rises" (some .int) d 0 0) (hd : 1 ≤ d) (hN : ∀ i, i < 7 → i < xN X) (hP : ∀ e ∈ psM, e ∈ xP X) (hT : ∀ e ∈ tsM, e ∈ xT X) {Q : Int32 → Mem → Prop} : ∀ (n : Nat) (x1 : Int32) (x2 : Int32) (x3 : Int32) (σ : Mem), w_X12_rises_16 Q n x1 x2 x3 σ → mG X 16 [(0, .ref (xB X + 37)), (1, .int x1), (2, .int x2), (3, .int x3)] [] σ 0 0 (mQ X 0 0 (qI Q)) := by
  intro n
  induction n with
  | zero => intro x1 x2 x3 σ hw; exact False.elim hw
  | succ n ih =>
    intro x1 x2 x3 σ hw
    rw [w_X12_rises_16] at hw
    refine g_iload_n hC dX12_rises_16 rfl ?_
    refine g_iconst (v := 1) hC dX12_rises_17 (by decide) ?_
    refine g_aload_n hC dX12_rises_18 rfl ?_
    refine g_getiSv (v := (mI σ 37 0)) hC fl_X12_1_12.s (hT _ tg_M_37) rfl dX12_rises_19 ?_
    refine g_ishl hC dX12_rises_22 ?_
    refine g_icmp_ge (tgt := 147) hC dX12_rises_23 rfl (fun c => ?_) (fun c => ?_)
    · replace hw := hw.1 c
      refine g_iload_n hC dX12_rises_147 rfl ?_
      exact g_iret hC rfl (by decide) (by decide) dX12_rises_148 (fun _ => ⟨_, rfl, hw⟩)
    · replace hw := hw.2 c
      refine g_iconst (v := (-1)) hC dX12_rises_26 (by decide) ?_
      refine g_istore (lv' := [(4, .int (-1)), (0, .ref (xB X + 37)), (1, .int x1), (2, .int x2), (3, .int x3)]) hC dX12_rises_27 (hN 4 (by decide)) rfl ?_
      refine g_iconst (v := 1) hC dX12_rises_29 (by decide) ?_
      refine g_istore (lv' := [(5, .int 1), (4, .int (-1)), (0, .ref (xB X + 37)), (1, .int x1), (2, .int x2), (3, .int x3)]) hC dX12_rises_30 (hN 5 (by decide)) rfl ?_
      refine g_iconst (v := 0) hC dX12_rises_32 (by decide) ?_
      refine g_istore (lv' := [(6, .int 0), (5, .int 1), (4, .int (-1)), (0, .ref (xB X + 37)), (1, .int x1), (2, .int x2), (3, .int x3)]) hC dX12_rises_33 (hN 6 (by decide)) rfl ?_
      refine mG.pick (lv' := [(0, .ref (xB X + 37)), (1, .int x1), (2, .int x2), (3, .int x3), (4, .int (-1)), (5, .int 1), (6, .int 0)]) [3, 4, 5, 6, 2, 1, 0] rfl ?_
      obtain ⟨m101, hw⟩ := hw
      exact t_X12_rises_35 hC hd hN hP hT ih m101 _ _ _ _ _ _ _ hw
def w_X12_rises (σ : Mem) (x1 : Int32) (Q : Int32 → Mem → Prop) : Prop := w_X12_isIn σ x1 0 1 (fun v101 s103 => (¬ v101 = 0 → (∃ m104 : Nat, w_X12_rises_16 Q m104 x1 0 0 s103)) ∧ (v101 = 0 → (Q (-2) s103)))
set_option maxRecDepth 4000 in
set_option maxHeartbeats 2000000 in
theorem t_X12_rises {X : Cx} {d : Nat} (hC : mOK X cX12_rises RX12 "rises" (some .int) d 0 0) (hd : 1 ≤ d) (hN : ∀ i, i < 7 → i < xN X) (hP : ∀ e ∈ psM, e ∈ xP X) (hT : ∀ e ∈ tsM, e ∈ xT X) {σ : Mem} {x1 : Int32} {Q : Int32 → Mem → Prop} (hw : w_X12_rises σ x1 Q) : mG X 0 [(0, .ref (xB X + 37)), (1, .int x1)] [] σ 0 0 (mQ X 0 0 (qI Q)) := by
  refine g_iload_n hC dX12_rises_0 rfl ?_
  refine g_iconst (v := 0) hC dX12_rises_1 (by decide) ?_
  refine g_iconst (v := 1) hC dX12_rises_2 (by decide) ?_
  refine mG.st (st1 := ([.int x1, .int 0, .int 1] : List Value).reverse ++ []) rfl ?_
  refine g_callS (As := [.int x1, .int 0, .int 1]) (st := []) hC yw_X12_isIn ys_X12_isIn tw_465 dX12_rises_3 (fun _ h => h) (fun _ h => h) (fun h => h) (c_X12_isIn (d := 0) (Nat.le_refl _) hw) rfl (Nat.le_of_ble_eq_true rfl) (by omega) (by decide) (by decide) (kI fun v101 s103 hw => ?_)
  refine g_if_ne (tgt := 12) hC dX12_rises_6 rfl (fun c => ?_) (fun c => ?_)
  · replace hw := hw.1 c
    refine g_iconst (v := 0) hC dX12_rises_12 (by decide) ?_
    refine g_istore_n (lv' := [(2, .int 0), (0, .ref (xB X + 37)), (1, .int x1)]) hC dX12_rises_13 (hN 2 (by decide)) rfl ?_
    refine g_iconst (v := 0) hC dX12_rises_14 (by decide) ?_
    refine g_istore_n (lv' := [(3, .int 0), (2, .int 0), (0, .ref (xB X + 37)), (1, .int x1)]) hC dX12_rises_15 (hN 3 (by decide)) rfl ?_
    refine mG.pick (lv' := [(0, .ref (xB X + 37)), (1, .int x1), (2, .int 0), (3, .int 0)]) [2, 3, 1, 0] rfl ?_
    obtain ⟨m104, hw⟩ := hw
    exact t_X12_rises_16 hC hd hN hP hT m104 _ _ _ _ hw
  · replace hw := hw.2 c
    refine g_bipush (v := (-2)) hC dX12_rises_9 (by decide) ?_
    exact g_iret hC rfl (by decide) (by decide) dX12_rises_11 (fun _ => ⟨_, rfl, hw⟩)
set_option maxRecDepth 4000 in
theorem c_X12_rises {Z : Fx} {ps ts : List (Nat × Nat × Nat)} {d : Nat} (hd : 1 ≤ d) (hP : ∀ e ∈ psM, e ∈ ps) (hT : ∀ e ∈ tsM, e ∈ ts) {σ : Mem} {x1 : Int32} {Q : Int32 → Mem → Prop} (hw : w_X12_rises σ x1 Q) : mM Z ps ts yX12_rises cX12_rises 7 (some .int) d 0 0 [.ref (Z.2.2 + 37), .int x1] σ (qI Q) := by
  refine mM.of (by decide) (Nat.le_of_ble_eq_true rfl) rfl (fun X hZ hp ht hn hC => ?_)
  subst hZ; subst hp; subst ht
  exact t_X12_rises hC hd (fun i h => by rw [hn]; exact h) hP hT hw
def w_X12_orders_220 (rec_X12_orders : Mem → Int32 → Int32 → Int32 → (Mem → Prop) → Prop) (Q : Mem → Prop) (K180 : Int32 → Int32 → Int32 → Int32 → Mem → Prop) (x1 : Int32) (x2 : Int32) (x3 : Int32) (x4 : Int32) (σ : Mem) : Prop := K180 x1 x2 x3 (x4 + 1) σ
set_option maxRecDepth 4000 in
set_option maxHeartbeats 2000000 in
theorem t_X12_orders_220 {X : Cx} {d : Nat} {dr : Nat} (hC : mOK X cX12_orders RX12 "orders" none d 0 0) (hd : dr + 5 ≤ d) (hN : ∀ i, i < 6 → i < xN X) (hP : ∀ e ∈ psM, e ∈ xP X) (hT : ∀ e ∈ tsM, e ∈ xT X) {rec_X12_orders : Mem → Int32 → Int32 → Int32 → (Mem → Prop) → Prop} (hrec_X12_orders : ∀ (s : Mem) (z0 : Int32) (z1 : Int32) (z2 : Int32) (q : Mem → Prop), rec_X12_orders s z0 z1 z2 q → mM (xZ X) (xP X) (xT X) yX12_orders cX12_orders 6 none dr 0 0 [.ref ((xB X) + 37), .int z0, .int z1, .int z2] s (qV q)) {Q : Mem → Prop} {K180 : Int32 → Int32 → Int32 → Int32 → Mem → Prop} (hK180 : ∀ (x1 : Int32) (x2 : Int32) (x3 : Int32) (x4 : Int32) (s : Mem), K180 x1 x2 x3 x4 s → mG X 180 [(0, .ref (xB X + 37)), (1, .int x1), (2, .int x2), (3, .int x3), (4, .int x4)] [] s 0 0 (mQ X 0 0 (qV Q))) {x1 : Int32} {x2 : Int32} {x3 : Int32} {x4 : Int32} {σ : Mem} (hw : w_X12_orders_220 rec_X12_orders Q K180 x1 x2 x3 x4 σ) : mG X 220 [(0, .ref (xB X + 37)), (1, .int x1), (2, .int x2), (3, .int x3), (4, .int x4)] [] σ 0 0 (mQ X 0 0 (qV Q)) := by
  refine g_iinc (v := x4 + 1) (lv' := [(4, .int (x4 + 1)), (0, .ref (xB X + 37)), (1, .int x1), (2, .int x2), (3, .int x3)]) hC dX12_orders_220 rfl rfl (hN 4 (by decide)) rfl ?_
  refine g_goto (tgt := 180) hC dX12_orders_223 rfl ?_
  refine mG.pick (lv' := [(0, .ref (xB X + 37)), (1, .int x1), (2, .int x2), (3, .int x3), (4, .int (x4 + 1))]) [1, 2, 3, 4, 0] rfl ?_
  exact hK180 _ _ _ _ _ hw
def w_X12_orders_180 (rec_X12_orders : Mem → Int32 → Int32 → Int32 → (Mem → Prop) → Prop) (Q : Mem → Prop) : Nat → Int32 → Int32 → Int32 → Int32 → Mem → Prop
  | 0, _, _, _, _, _ => False
  | n + 1, x1, x2, x3, x4, σ => ((mI σ 37 0) ≤ x4 → (Q σ)) ∧ (¬ (mI σ 37 0) ≤ x4 → ((¬ ((x3 >>> (x4 &&& 31)) &&& 1) = 0 → (w_X12_orders_220 rec_X12_orders Q (fun z0 z1 z2 z3 z4 => w_X12_orders_180 rec_X12_orders Q n z0 z1 z2 z3 z4) x1 x2 x3 x4 σ)) ∧ (((x3 >>> (x4 &&& 31)) &&& 1) = 0 → (vp_in x2 8 ∧ (rec_X12_orders (sI σ 53 (Int32.toNatClampNeg x2) x4) x1 (x2 + 1) (x3 ||| ((1 : Int32) <<< (x4 &&& 31))) (fun s103 => w_X12_orders_220 rec_X12_orders Q (fun z0 z1 z2 z3 z4 => w_X12_orders_180 rec_X12_orders Q n z0 z1 z2 z3 z4) x1 x2 x3 x4 s103))))))
set_option maxRecDepth 4000 in
set_option maxHeartbeats 2000000 in
theorem t_X12_orders_180 {X : Cx} {d : Nat} {dr : Nat} (hC : mOK X cX12_orders RX12 "orders" none d 0 0) (hd : dr + 5 ≤ d) (hN : ∀ i, i < 6 → i < xN X) (hP : ∀ e ∈ psM, e ∈ xP X) (hT : ∀ e ∈ tsM, e ∈ xT X) {rec_X12_orders : Mem → Int32 → Int32 → Int32 → (Mem → Prop) → Prop} (hrec_X12_orders : ∀ (s : Mem) (z0 : Int32) (z1 : Int32) (z2 : Int32) (q : Mem → Prop), rec_X12_orders s z0 z1 z2 q → mM (xZ X) (xP X) (xT X) yX12_orders cX12_orders 6 none dr 0 0 [.ref ((xB X) + 37), .int z0, .int z1, .int z2] s (qV q)) {Q : Mem → Prop} : ∀ (n : Nat) (x1 : Int32) (x2 : Int32) (x3 : Int32) (x4 : Int32) (σ : Mem), w_X12_orders_180 rec_X12_orders Q n x1 x2 x3 x4 σ → mG X 180 [(0, .ref (xB X + 37)), (1, .int x1), (2, .int x2), (3, .int x3), (4, .int x4)] [] σ 0 0 (mQ X 0 0 (qV Q)) := by
  intro n
  induction n with
  | zero => intro x1 x2 x3 x4 σ hw; exact False.elim hw
  | succ n ih =>
    intro x1 x2 x3 x4 σ hw
    rw [w_X12_orders_180] at hw
    refine g_iload hC dX12_orders_180 rfl ?_
    refine g_aload_n hC dX12_orders_182 rfl ?_
    refine g_getiSv (v := (mI σ 37 0)) hC fl_X12_1_12.s (hT _ tg_M_37) rfl dX12_orders_183 ?_
    refine g_icmp_ge (tgt := 226) hC dX12_orders_186 rfl (fun c => ?_) (fun c => ?_)
    · replace hw := hw.1 c
      exact g_vret hC (by decide) (by decide) dX12_orders_226 (fun _ => ⟨rfl, hw⟩)
    · replace hw := hw.2 c
      refine g_iload_n hC dX12_orders_189 rfl ?_
      refine g_iload hC dX12_orders_190 rfl ?_
      refine g_ishr hC dX12_orders_192 ?_
      refine g_iconst (v := 1) hC dX12_orders_193 (by decide) ?_
      refine g_iand hC dX12_orders_194 ?_
      refine g_if_ne (tgt := 220) hC dX12_orders_195 rfl (fun c => ?_) (fun c => ?_)
      · replace hw := hw.1 c
        refine mG.pick (lv' := [(0, .ref (xB X + 37)), (1, .int x1), (2, .int x2), (3, .int x3), (4, .int x4)]) [0, 1, 2, 3, 4] rfl ?_
        exact t_X12_orders_220 hC hd hN hP hT hrec_X12_orders ih hw
      · replace hw := hw.2 c
        refine g_aload_n hC dX12_orders_198 rfl ?_
        refine g_getrS hC fl_X12_176_12.s (hT _ tg_M_37) (hP _ pt_M_37_31) dX12_orders_199 ?_
        refine g_iload_n hC dX12_orders_202 rfl ?_
        refine g_iload hC dX12_orders_203 rfl ?_
        have hin := hw.1
        replace hw := hw.2
        refine g_iastS (k := (Int32.toNatClampNeg x2)) hC (hT _ tg_M_53) rfl hin dX12_orders_205 ?_
        refine g_aload_n hC dX12_orders_206 rfl ?_
        refine g_iload_n hC dX12_orders_207 rfl ?_
        refine g_iload_n hC dX12_orders_208 rfl ?_
        refine g_iconst (v := 1) hC dX12_orders_209 (by decide) ?_
        refine g_iadd hC dX12_orders_210 ?_
        refine g_iload_n hC dX12_orders_211 rfl ?_
        refine g_iconst (v := 1) hC dX12_orders_212 (by decide) ?_
        refine g_iload hC dX12_orders_213 rfl ?_
        refine g_ishl hC dX12_orders_215 ?_
        refine g_ior hC dX12_orders_216 ?_
        refine g_known (fun hS => ?_)
        refine mG.st (st1 := ([.int x1, .int (x2 + 1), .int (x3 ||| ((1 : Int32) <<< (x4 &&& 31)))] : List Value).reverse ++ .ref (xB X + 37) :: []) rfl ?_
        refine g_callV (As := [.int x1, .int (x2 + 1), .int (x3 ||| ((1 : Int32) <<< (x4 &&& 31)))]) (st := []) hC (hS.2 _ (hT _ tg_M_37)) (by decide) ycl_12_X12_orders yw_X12_orders yv_X12_orders tw_654 dX12_orders_217 (fun _ h => h) (fun _ h => h) (fun h => h) (hrec_X12_orders _ _ _ _ _ hw) rfl (Nat.le_of_ble_eq_true rfl) (by omega) (by decide) (by decide) (kV fun s103 hw => ?_)
        refine mG.pick (lv' := [(0, .ref (xB X + 37)), (1, .int x1), (2, .int x2), (3, .int x3), (4, .int x4)]) [0, 1, 2, 3, 4] rfl ?_
        exact t_X12_orders_220 hC hd hN hP hT hrec_X12_orders ih hw
def w_X12_orders_147 (rec_X12_orders : Mem → Int32 → Int32 → Int32 → (Mem → Prop) → Prop) (Q : Mem → Prop) : Nat → Int32 → Mem → Prop
  | 0, _, _ => False
  | n + 1, x5, σ => ((mI σ 37 0) ≤ x5 → (Q σ)) ∧ (¬ (mI σ 37 0) ≤ x5 → (vp_in x5 8 ∧ (∀ v101 : Int32, v101 = (mI σ 53 (Int32.toNatClampNeg x5)) → (vp_in x5 8 ∧ (w_X12_orders_147 rec_X12_orders Q n (x5 + 1) (sI σ 58 (Int32.toNatClampNeg x5) v101))))))
set_option maxRecDepth 4000 in
set_option maxHeartbeats 2000000 in
theorem t_X12_orders_147 {X : Cx} {d : Nat} {dr : Nat} (hC : mOK X cX12_orders RX12 "orders" none d 0 0) (hd : dr + 5 ≤ d) (hN : ∀ i, i < 6 → i < xN X) (hP : ∀ e ∈ psM, e ∈ xP X) (hT : ∀ e ∈ tsM, e ∈ xT X) {rec_X12_orders : Mem → Int32 → Int32 → Int32 → (Mem → Prop) → Prop} (hrec_X12_orders : ∀ (s : Mem) (z0 : Int32) (z1 : Int32) (z2 : Int32) (q : Mem → Prop), rec_X12_orders s z0 z1 z2 q → mM (xZ X) (xP X) (xT X) yX12_orders cX12_orders 6 none dr 0 0 [.ref ((xB X) + 37), .int z0, .int z1, .int z2] s (qV q)) {Q : Mem → Prop} : ∀ (n : Nat) (x5 : Int32) (σ : Mem), w_X12_orders_147 rec_X12_orders Q n x5 σ → mG X 147 [(0, .ref (xB X + 37)), (5, .int x5)] [] σ 0 0 (mQ X 0 0 (qV Q)) := by
  intro n
  induction n with
  | zero => intro x5 σ hw; exact False.elim hw
  | succ n ih =>
    intro x5 σ hw
    rw [w_X12_orders_147] at hw
    refine g_iload hC dX12_orders_147 rfl ?_
    refine g_aload_n hC dX12_orders_149 rfl ?_
    refine g_getiSv (v := (mI σ 37 0)) hC fl_X12_1_12.s (hT _ tg_M_37) rfl dX12_orders_150 ?_
    refine g_icmp_ge (tgt := 176) hC dX12_orders_153 rfl (fun c => ?_) (fun c => ?_)
    · replace hw := hw.1 c
      exact g_vret hC (by decide) (by decide) dX12_orders_176 (fun _ => ⟨rfl, hw⟩)
    · replace hw := hw.2 c
      refine g_aload_n hC dX12_orders_156 rfl ?_
      refine g_getrS hC fl_X12_191_12.s (hT _ tg_M_37) (hP _ pt_M_37_43) dX12_orders_157 ?_
      refine g_iload hC dX12_orders_160 rfl ?_
      refine g_aload_n hC dX12_orders_162 rfl ?_
      refine g_getrS hC fl_X12_176_12.s (hT _ tg_M_37) (hP _ pt_M_37_31) dX12_orders_163 ?_
      refine g_iload hC dX12_orders_166 rfl ?_
      refine g_ialdSv (v := (mI σ 53 (Int32.toNatClampNeg x5))) hC (hT _ tg_M_53) rfl hw.1 rfl dX12_orders_168 ?_
      replace hw := hw.2
      refine g_topi (fun v101 ev101 => ?_)
      replace hw := hw v101 ev101
      have hin := hw.1
      replace hw := hw.2
      refine g_iastS (k := (Int32.toNatClampNeg x5)) hC (hT _ tg_M_58) rfl hin dX12_orders_169 ?_
      refine g_iinc (v := x5 + 1) (lv' := [(5, .int (x5 + 1)), (0, .ref (xB X + 37))]) hC dX12_orders_170 rfl rfl (hN 5 (by decide)) rfl ?_
      refine g_goto (tgt := 147) hC dX12_orders_173 rfl ?_
      refine mG.pick (lv' := [(0, .ref (xB X + 37)), (5, .int (x5 + 1))]) [1, 0] rfl ?_
      exact ih _ _ hw
def w_X12_orders_136 (rec_X12_orders : Mem → Int32 → Int32 → Int32 → (Mem → Prop) → Prop) (Q : Mem → Prop) (σ : Mem) : Prop := ∃ m101 : Nat, w_X12_orders_147 rec_X12_orders Q m101 0 (sI σ 37 42 (mI σ 37 28))
set_option maxRecDepth 4000 in
set_option maxHeartbeats 2000000 in
theorem t_X12_orders_136 {X : Cx} {d : Nat} {dr : Nat} (hC : mOK X cX12_orders RX12 "orders" none d 0 0) (hd : dr + 5 ≤ d) (hN : ∀ i, i < 6 → i < xN X) (hP : ∀ e ∈ psM, e ∈ xP X) (hT : ∀ e ∈ tsM, e ∈ xT X) {rec_X12_orders : Mem → Int32 → Int32 → Int32 → (Mem → Prop) → Prop} (hrec_X12_orders : ∀ (s : Mem) (z0 : Int32) (z1 : Int32) (z2 : Int32) (q : Mem → Prop), rec_X12_orders s z0 z1 z2 q → mM (xZ X) (xP X) (xT X) yX12_orders cX12_orders 6 none dr 0 0 [.ref ((xB X) + 37), .int z0, .int z1, .int z2] s (qV q)) {Q : Mem → Prop} {σ : Mem} (hw : w_X12_orders_136 rec_X12_orders Q σ) : mG X 136 [(0, .ref (xB X + 37))] [] σ 0 0 (mQ X 0 0 (qV Q)) := by
  refine g_aload_n hC dX12_orders_136 rfl ?_
  refine g_aload_n hC dX12_orders_137 rfl ?_
  refine g_getiSv (v := (mI σ 37 28)) hC fl_X12_225_12.s (hT _ tg_M_37) rfl dX12_orders_138 ?_
  refine g_putIS hC (fw_X12_302_12 _) (hT _ tg_M_37) rfl rfl dX12_orders_141 ?_
  refine g_iconst (v := 0) hC dX12_orders_144 (by decide) ?_
  refine g_istore (lv' := [(5, .int 0), (0, .ref (xB X + 37))]) hC dX12_orders_145 (hN 5 (by decide)) rfl ?_
  refine mG.pick (lv' := [(0, .ref (xB X + 37)), (5, .int 0)]) [1, 0] rfl ?_
  obtain ⟨m101, hw⟩ := hw
  exact t_X12_orders_147 hC hd hN hP hT hrec_X12_orders m101 _ _ hw
def w_X12_orders_114 (rec_X12_orders : Mem → Int32 → Int32 → Int32 → (Mem → Prop) → Prop) (Q : Mem → Prop) (xy0 : Int32) (xy1 : Int32) (σ : Mem) : Prop := ((mI σ 37 42) < 0 → (w_X12_orders_136 rec_X12_orders Q (sI σ 37 41 (xy1 + xy0)))) ∧ (¬ (mI σ 37 42) < 0 → (((mI σ 37 42) ≤ (mI σ 37 28) → (Q (sI σ 37 41 (xy1 + xy0)))) ∧ (¬ (mI σ 37 42) ≤ (mI σ 37 28) → (w_X12_orders_136 rec_X12_orders Q (sI σ 37 41 (xy1 + xy0))))))
set_option maxRecDepth 4000 in
set_option maxHeartbeats 2000000 in
theorem t_X12_orders_114 {X : Cx} {d : Nat} {dr : Nat} (hC : mOK X cX12_orders RX12 "orders" none d 0 0) (hd : dr + 5 ≤ d) (hN : ∀ i, i < 6 → i < xN X) (hP : ∀ e ∈ psM, e ∈ xP X) (hT : ∀ e ∈ tsM, e ∈ xT X) {rec_X12_orders : Mem → Int32 → Int32 → Int32 → (Mem → Prop) → Prop} (hrec_X12_orders : ∀ (s : Mem) (z0 : Int32) (z1 : Int32) (z2 : Int32) (q : Mem → Prop), rec_X12_orders s z0 z1 z2 q → mM (xZ X) (xP X) (xT X) yX12_orders cX12_orders 6 none dr 0 0 [.ref ((xB X) + 37), .int z0, .int z1, .int z2] s (qV q)) {Q : Mem → Prop} {xy0 : Int32} {xy1 : Int32} {σ : Mem} (hw : w_X12_orders_114 rec_X12_orders Q xy0 xy1 σ) : mG X 114 [(0, .ref (xB X + 37))] [.int xy0, .int xy1, .ref (xB X + 37)] σ 0 0 (mQ X 0 0 (qV Q)) := by
  refine g_iadd hC dX12_orders_114 ?_
  refine g_putIS hC (fw_X12_299_12 _) (hT _ tg_M_37) rfl rfl dX12_orders_115 ?_
  refine g_aload_n hC dX12_orders_118 rfl ?_
  refine g_getiSv (v := (mI σ 37 42)) hC fl_X12_302_12.s (hT _ tg_M_37) (mI_sI_k _ _ (by decide)) dX12_orders_119 ?_
  refine g_if_lt (tgt := 136) hC dX12_orders_122 rfl (fun c => ?_) (fun c => ?_)
  · replace hw := hw.1 c
    refine mG.pick (lv' := [(0, .ref (xB X + 37))]) [0] rfl ?_
    exact t_X12_orders_136 hC hd hN hP hT hrec_X12_orders hw
  · replace hw := hw.2 c
    refine g_aload_n hC dX12_orders_125 rfl ?_
    refine g_getiSv (v := (mI σ 37 28)) hC fl_X12_225_12.s (hT _ tg_M_37) (mI_sI_k _ _ (by decide)) dX12_orders_126 ?_
    refine g_aload_n hC dX12_orders_129 rfl ?_
    refine g_getiSv (v := (mI σ 37 42)) hC fl_X12_302_12.s (hT _ tg_M_37) (mI_sI_k _ _ (by decide)) dX12_orders_130 ?_
    refine g_icmp_ge (tgt := 176) hC dX12_orders_133 rfl (fun c => ?_) (fun c => ?_)
    · replace hw := hw.1 c
      exact g_vret hC (by decide) (by decide) dX12_orders_176 (fun _ => ⟨rfl, hw⟩)
    · replace hw := hw.2 c
      refine mG.pick (lv' := [(0, .ref (xB X + 37))]) [0] rfl ?_
      exact t_X12_orders_136 hC hd hN hP hT hrec_X12_orders hw
def w_X12_orders_91 (rec_X12_orders : Mem → Int32 → Int32 → Int32 → (Mem → Prop) → Prop) (Q : Mem → Prop) (K55 : Int32 → Int32 → Mem → Prop) (x5 : Int32) (xy0 : Int32) (σ : Mem) : Prop := K55 xy0 (x5 + 1) σ
set_option maxRecDepth 4000 in
set_option maxHeartbeats 2000000 in
theorem t_X12_orders_91 {X : Cx} {d : Nat} {dr : Nat} (hC : mOK X cX12_orders RX12 "orders" none d 0 0) (hd : dr + 5 ≤ d) (hN : ∀ i, i < 6 → i < xN X) (hP : ∀ e ∈ psM, e ∈ xP X) (hT : ∀ e ∈ tsM, e ∈ xT X) {rec_X12_orders : Mem → Int32 → Int32 → Int32 → (Mem → Prop) → Prop} (hrec_X12_orders : ∀ (s : Mem) (z0 : Int32) (z1 : Int32) (z2 : Int32) (q : Mem → Prop), rec_X12_orders s z0 z1 z2 q → mM (xZ X) (xP X) (xT X) yX12_orders cX12_orders 6 none dr 0 0 [.ref ((xB X) + 37), .int z0, .int z1, .int z2] s (qV q)) {Q : Mem → Prop} {K55 : Int32 → Int32 → Mem → Prop} (hK55 : ∀ (x4 : Int32) (x5 : Int32) (s : Mem), K55 x4 x5 s → mG X 55 [(0, .ref (xB X + 37)), (4, .int x4), (5, .int x5)] [] s 0 0 (mQ X 0 0 (qV Q))) {x5 : Int32} {xy0 : Int32} {σ : Mem} (hw : w_X12_orders_91 rec_X12_orders Q K55 x5 xy0 σ) : mG X 91 [(0, .ref (xB X + 37)), (5, .int x5)] [.int xy0] σ 0 0 (mQ X 0 0 (qV Q)) := by
  refine g_istore (lv' := [(4, .int xy0), (0, .ref (xB X + 37)), (5, .int x5)]) hC dX12_orders_91 (hN 4 (by decide)) rfl ?_
  refine g_iinc (v := x5 + 1) (lv' := [(5, .int (x5 + 1)), (4, .int xy0), (0, .ref (xB X + 37))]) hC dX12_orders_93 rfl rfl (hN 5 (by decide)) rfl ?_
  refine g_goto (tgt := 55) hC dX12_orders_96 rfl ?_
  refine mG.pick (lv' := [(0, .ref (xB X + 37)), (4, .int xy0), (5, .int (x5 + 1))]) [2, 1, 0] rfl ?_
  exact hK55 _ _ _ hw
def w_X12_orders_90 (rec_X12_orders : Mem → Int32 → Int32 → Int32 → (Mem → Prop) → Prop) (Q : Mem → Prop) (K55 : Int32 → Int32 → Mem → Prop) (x5 : Int32) (σ : Mem) : Prop := w_X12_orders_91 rec_X12_orders Q K55 x5 0 σ
set_option maxRecDepth 4000 in
set_option maxHeartbeats 2000000 in
theorem t_X12_orders_90 {X : Cx} {d : Nat} {dr : Nat} (hC : mOK X cX12_orders RX12 "orders" none d 0 0) (hd : dr + 5 ≤ d) (hN : ∀ i, i < 6 → i < xN X) (hP : ∀ e ∈ psM, e ∈ xP X) (hT : ∀ e ∈ tsM, e ∈ xT X) {rec_X12_orders : Mem → Int32 → Int32 → Int32 → (Mem → Prop) → Prop} (hrec_X12_orders : ∀ (s : Mem) (z0 : Int32) (z1 : Int32) (z2 : Int32) (q : Mem → Prop), rec_X12_orders s z0 z1 z2 q → mM (xZ X) (xP X) (xT X) yX12_orders cX12_orders 6 none dr 0 0 [.ref ((xB X) + 37), .int z0, .int z1, .int z2] s (qV q)) {Q : Mem → Prop} {K55 : Int32 → Int32 → Mem → Prop} (hK55 : ∀ (x4 : Int32) (x5 : Int32) (s : Mem), K55 x4 x5 s → mG X 55 [(0, .ref (xB X + 37)), (4, .int x4), (5, .int x5)] [] s 0 0 (mQ X 0 0 (qV Q))) {x5 : Int32} {σ : Mem} (hw : w_X12_orders_90 rec_X12_orders Q K55 x5 σ) : mG X 90 [(0, .ref (xB X + 37)), (5, .int x5)] [] σ 0 0 (mQ X 0 0 (qV Q)) := by
  refine g_iconst (v := 0) hC dX12_orders_90 (by decide) ?_
  refine mG.pick (lv' := [(0, .ref (xB X + 37)), (5, .int x5)]) [0, 1] rfl ?_
  exact t_X12_orders_91 hC hd hN hP hT hrec_X12_orders hK55 hw
def w_X12_orders_55 (rec_X12_orders : Mem → Int32 → Int32 → Int32 → (Mem → Prop) → Prop) (Q : Mem → Prop) : Nat → Int32 → Int32 → Mem → Prop
  | 0, _, _, _ => False
  | n + 1, x4, x5, σ => ((mI σ 37 0) ≤ x5 → ((x4 = 0 → (w_X12_orders_114 rec_X12_orders Q 0 (mI σ 37 41) σ)) ∧ (¬ x4 = 0 → (w_X12_orders_114 rec_X12_orders Q 1 (mI σ 37 41) σ)))) ∧ (¬ (mI σ 37 0) ≤ x5 → ((x4 = 0 → (w_X12_orders_90 rec_X12_orders Q (fun z0 z1 z2 => w_X12_orders_55 rec_X12_orders Q n z0 z1 z2) x5 σ)) ∧ (¬ x4 = 0 → (vp_in x5 8 ∧ (vp_in x5 8 ∧ ((¬ (mI σ 55 (Int32.toNatClampNeg x5)) = (mI σ 59 (Int32.toNatClampNeg x5)) → (w_X12_orders_90 rec_X12_orders Q (fun z0 z1 z2 => w_X12_orders_55 rec_X12_orders Q n z0 z1 z2) x5 σ)) ∧ ((mI σ 55 (Int32.toNatClampNeg x5)) = (mI σ 59 (Int32.toNatClampNeg x5)) → (w_X12_orders_91 rec_X12_orders Q (fun z0 z1 z2 => w_X12_orders_55 rec_X12_orders Q n z0 z1 z2) x5 1 σ))))))))
set_option maxRecDepth 4000 in
set_option maxHeartbeats 2000000 in
theorem t_X12_orders_55 {X : Cx} {d : Nat} {dr : Nat} (hC : mOK X cX12_orders RX12 "orders" none d 0 0) (hd : dr + 5 ≤ d) (hN : ∀ i, i < 6 → i < xN X) (hP : ∀ e ∈ psM, e ∈ xP X) (hT : ∀ e ∈ tsM, e ∈ xT X) {rec_X12_orders : Mem → Int32 → Int32 → Int32 → (Mem → Prop) → Prop} (hrec_X12_orders : ∀ (s : Mem) (z0 : Int32) (z1 : Int32) (z2 : Int32) (q : Mem → Prop), rec_X12_orders s z0 z1 z2 q → mM (xZ X) (xP X) (xT X) yX12_orders cX12_orders 6 none dr 0 0 [.ref ((xB X) + 37), .int z0, .int z1, .int z2] s (qV q)) {Q : Mem → Prop} : ∀ (n : Nat) (x4 : Int32) (x5 : Int32) (σ : Mem), w_X12_orders_55 rec_X12_orders Q n x4 x5 σ → mG X 55 [(0, .ref (xB X + 37)), (4, .int x4), (5, .int x5)] [] σ 0 0 (mQ X 0 0 (qV Q)) := by
  intro n
  induction n with
  | zero => intro x4 x5 σ hw; exact False.elim hw
  | succ n ih =>
    intro x4 x5 σ hw
    rw [w_X12_orders_55] at hw
    refine g_iload hC dX12_orders_55 rfl ?_
    refine g_aload_n hC dX12_orders_57 rfl ?_
    refine g_getiSv (v := (mI σ 37 0)) hC fl_X12_1_12.s (hT _ tg_M_37) rfl dX12_orders_58 ?_
    refine g_icmp_ge (tgt := 99) hC dX12_orders_61 rfl (fun c => ?_) (fun c => ?_)
    · replace hw := hw.1 c
      refine g_aload_n hC dX12_orders_99 rfl ?_
      refine g_dup hC dX12_orders_100 rfl ?_
      refine g_getiSv (v := (mI σ 37 41)) hC fl_X12_299_12.s (hT _ tg_M_37) rfl dX12_orders_101 ?_
      refine g_iload hC dX12_orders_104 rfl ?_
      refine g_if_eq (tgt := 113) hC dX12_orders_106 rfl (fun c => ?_) (fun c => ?_)
      · replace hw := hw.1 c
        refine g_iconst (v := 0) hC dX12_orders_113 (by decide) ?_
        refine mG.pick (lv' := [(0, .ref (xB X + 37))]) [0] rfl ?_
        exact t_X12_orders_114 hC hd hN hP hT hrec_X12_orders hw
      · replace hw := hw.2 c
        refine g_iconst (v := 1) hC dX12_orders_109 (by decide) ?_
        refine g_goto (tgt := 114) hC dX12_orders_110 rfl ?_
        refine mG.pick (lv' := [(0, .ref (xB X + 37))]) [0] rfl ?_
        exact t_X12_orders_114 hC hd hN hP hT hrec_X12_orders hw
    · replace hw := hw.2 c
      refine g_iload hC dX12_orders_64 rfl ?_
      refine g_if_eq (tgt := 90) hC dX12_orders_66 rfl (fun c => ?_) (fun c => ?_)
      · replace hw := hw.1 c
        refine mG.pick (lv' := [(0, .ref (xB X + 37)), (5, .int x5)]) [0, 2] rfl ?_
        exact t_X12_orders_90 hC hd hN hP hT hrec_X12_orders ih hw
      · replace hw := hw.2 c
        refine g_aload_n hC dX12_orders_69 rfl ?_
        refine g_getrS hC fl_X12_182_12.s (hT _ tg_M_37) (hP _ pt_M_37_33) dX12_orders_70 ?_
        refine g_iload hC dX12_orders_73 rfl ?_
        refine g_ialdSv (v := (mI σ 55 (Int32.toNatClampNeg x5))) hC (hT _ tg_M_55) rfl hw.1 rfl dX12_orders_75 ?_
        replace hw := hw.2
        refine g_aload_n hC dX12_orders_76 rfl ?_
        refine g_getrS hC fl_X12_194_12.s (hT _ tg_M_37) (hP _ pt_M_37_44) dX12_orders_77 ?_
        refine g_iload hC dX12_orders_80 rfl ?_
        refine g_ialdSv (v := (mI σ 59 (Int32.toNatClampNeg x5))) hC (hT _ tg_M_59) rfl hw.1 rfl dX12_orders_82 ?_
        replace hw := hw.2
        refine g_icmp_ne (tgt := 90) hC dX12_orders_83 rfl (fun c => ?_) (fun c => ?_)
        · replace hw := hw.1 c
          refine mG.pick (lv' := [(0, .ref (xB X + 37)), (5, .int x5)]) [0, 2] rfl ?_
          exact t_X12_orders_90 hC hd hN hP hT hrec_X12_orders ih hw
        · replace hw := hw.2 c
          refine g_iconst (v := 1) hC dX12_orders_86 (by decide) ?_
          refine g_goto (tgt := 91) hC dX12_orders_87 rfl ?_
          refine mG.pick (lv' := [(0, .ref (xB X + 37)), (5, .int x5)]) [0, 2] rfl ?_
          exact t_X12_orders_91 hC hd hN hP hT hrec_X12_orders ih hw
def w_X12_orders (rec_X12_orders : Mem → Int32 → Int32 → Int32 → (Mem → Prop) → Prop) (σ : Mem) (x1 : Int32) (x2 : Int32) (x3 : Int32) (Q : Mem → Prop) : Prop := (¬ x2 = (mI σ 37 0) → (∃ m101 : Nat, w_X12_orders_180 rec_X12_orders Q m101 x1 x2 x3 0 σ)) ∧ (x2 = (mI σ 37 0) → (w_X12_layAll σ x1 (fun s104 => vp_in (mI s104 37 28) 9 ∧ (∀ v105 : Int32, v105 = ((mI s104 57 (Int32.toNatClampNeg (mI s104 37 28))) + 1) → (vp_in (mI s104 37 28) 9 ∧ (∀ v106 : Int32, v106 = ((mI s104 37 39) + (mI s104 37 28)) → (∃ m107 : Nat, w_X12_orders_55 rec_X12_orders Q m107 1 0 (sI (sI (sI s104 57 (Int32.toNatClampNeg (mI s104 37 28)) v105) 37 39 v106) 37 40 ((mI s104 37 40) + 1)))))))))
set_option maxRecDepth 4000 in
set_option maxHeartbeats 2000000 in
theorem t_X12_orders {X : Cx} {d : Nat} {dr : Nat} (hC : mOK X cX12_orders RX12 "orders" none d 0 0) (hd : dr + 5 ≤ d) (hN : ∀ i, i < 6 → i < xN X) (hP : ∀ e ∈ psM, e ∈ xP X) (hT : ∀ e ∈ tsM, e ∈ xT X) {rec_X12_orders : Mem → Int32 → Int32 → Int32 → (Mem → Prop) → Prop} (hrec_X12_orders : ∀ (s : Mem) (z0 : Int32) (z1 : Int32) (z2 : Int32) (q : Mem → Prop), rec_X12_orders s z0 z1 z2 q → mM (xZ X) (xP X) (xT X) yX12_orders cX12_orders 6 none dr 0 0 [.ref ((xB X) + 37), .int z0, .int z1, .int z2] s (qV q)) {σ : Mem} {x1 : Int32} {x2 : Int32} {x3 : Int32} {Q : Mem → Prop} (hw : w_X12_orders rec_X12_orders σ x1 x2 x3 Q) : mG X 0 [(0, .ref (xB X + 37)), (1, .int x1), (2, .int x2), (3, .int x3)] [] σ 0 0 (mQ X 0 0 (qV Q)) := by
  refine g_iload_n hC dX12_orders_0 rfl ?_
  refine g_aload_n hC dX12_orders_1 rfl ?_
  refine g_getiSv (v := (mI σ 37 0)) hC fl_X12_1_12.s (hT _ tg_M_37) rfl dX12_orders_2 ?_
  refine g_icmp_ne (tgt := 177) hC dX12_orders_5 rfl (fun c => ?_) (fun c => ?_)
  · replace hw := hw.1 c
    refine g_iconst (v := 0) hC dX12_orders_177 (by decide) ?_
    refine g_istore (lv' := [(4, .int 0), (0, .ref (xB X + 37)), (1, .int x1), (2, .int x2), (3, .int x3)]) hC dX12_orders_178 (hN 4 (by decide)) rfl ?_
    refine mG.pick (lv' := [(0, .ref (xB X + 37)), (1, .int x1), (2, .int x2), (3, .int x3), (4, .int 0)]) [1, 2, 3, 4, 0] rfl ?_
    obtain ⟨m101, hw⟩ := hw
    exact t_X12_orders_180 hC hd hN hP hT hrec_X12_orders m101 _ _ _ _ _ hw
  · replace hw := hw.2 c
    refine g_aload_n hC dX12_orders_8 rfl ?_
    refine g_iload_n hC dX12_orders_9 rfl ?_
    refine g_known (fun hS => ?_)
    refine mG.st (st1 := ([.int x1] : List Value).reverse ++ .ref (xB X + 37) :: []) rfl ?_
    refine g_callV (As := [.int x1]) (st := []) hC (hS.2 _ (hT _ tg_M_37)) (by decide) ycl_12_X12_layAll yw_X12_layAll yv_X12_layAll tw_614 dX12_orders_10 (fun _ h => h) (fun _ h => h) (fun h => h) (c_X12_layAll (d := 4) (Nat.le_refl _) hP hT hw) rfl (Nat.le_of_ble_eq_true rfl) (by omega) (by decide) (by decide) (kV fun s104 hw => ?_)
    refine g_aload_n hC dX12_orders_13 rfl ?_
    refine g_getrS hC fl_X12_188_12.s (hT _ tg_M_37) (hP _ pt_M_37_38) dX12_orders_14 ?_
    refine g_aload_n hC dX12_orders_17 rfl ?_
    refine g_getiSv (v := (mI s104 37 28)) hC fl_X12_225_12.s (hT _ tg_M_37) rfl dX12_orders_18 ?_
    refine g_dup2 hC dX12_orders_21 rfl rfl ?_
    refine g_ialdSv (v := (mI s104 57 (Int32.toNatClampNeg (mI s104 37 28)))) hC (hT _ tg_M_57) rfl hw.1 rfl dX12_orders_22 ?_
    replace hw := hw.2
    refine g_iconst (v := 1) hC dX12_orders_23 (by decide) ?_
    refine g_iadd hC dX12_orders_24 ?_
    refine g_topi (fun v105 ev105 => ?_)
    replace hw := hw v105 ev105
    have hin := hw.1
    replace hw := hw.2
    refine g_iastS (k := (Int32.toNatClampNeg (mI s104 37 28))) hC (hT _ tg_M_57) rfl hin dX12_orders_25 ?_
    refine g_aload_n hC dX12_orders_26 rfl ?_
    refine g_dup hC dX12_orders_27 rfl ?_
    refine g_getiSv (v := (mI s104 37 39)) hC fl_X12_293_12.s (hT _ tg_M_37) (mI_sI_n _ _ (by decide)) dX12_orders_28 ?_
    refine g_aload_n hC dX12_orders_31 rfl ?_
    refine g_getiSv (v := (mI s104 37 28)) hC fl_X12_225_12.s (hT _ tg_M_37) (mI_sI_n _ _ (by decide)) dX12_orders_32 ?_
    refine g_iadd hC dX12_orders_35 ?_
    refine g_topi (fun v106 ev106 => ?_)
    replace hw := hw v106 ev106
    refine g_putIS hC (fw_X12_293_12 _) (hT _ tg_M_37) rfl rfl dX12_orders_36 ?_
    refine g_aload_n hC dX12_orders_39 rfl ?_
    refine g_dup hC dX12_orders_40 rfl ?_
    refine g_getiSv (v := (mI s104 37 40)) hC fl_X12_296_12.s (hT _ tg_M_37) ((mI_sI_k _ _ (by decide)).trans (mI_sI_n _ _ (by decide))) dX12_orders_41 ?_
    refine g_iconst (v := 1) hC dX12_orders_44 (by decide) ?_
    refine g_iadd hC dX12_orders_45 ?_
    refine g_putIS hC (fw_X12_296_12 _) (hT _ tg_M_37) rfl rfl dX12_orders_46 ?_
    refine g_iconst (v := 1) hC dX12_orders_49 (by decide) ?_
    refine g_istore (lv' := [(4, .int 1), (0, .ref (xB X + 37)), (1, .int x1), (2, .int x2), (3, .int x3)]) hC dX12_orders_50 (hN 4 (by decide)) rfl ?_
    refine g_iconst (v := 0) hC dX12_orders_52 (by decide) ?_
    refine g_istore (lv' := [(5, .int 0), (4, .int 1), (0, .ref (xB X + 37)), (1, .int x1), (2, .int x2), (3, .int x3)]) hC dX12_orders_53 (hN 5 (by decide)) rfl ?_
    refine mG.pick (lv' := [(0, .ref (xB X + 37)), (4, .int 1), (5, .int 0)]) [2, 1, 0] rfl ?_
    obtain ⟨m107, hw⟩ := hw
    exact t_X12_orders_55 hC hd hN hP hT hrec_X12_orders m107 _ _ _ hw
set_option maxRecDepth 4000 in
theorem c_X12_orders {Z : Fx} {ps ts : List (Nat × Nat × Nat)} {d dr : Nat} (hd : dr + 5 ≤ d) {rec_X12_orders : Mem → Int32 → Int32 → Int32 → (Mem → Prop) → Prop} (hrec_X12_orders : ∀ (s : Mem) (z0 : Int32) (z1 : Int32) (z2 : Int32) (q : Mem → Prop), rec_X12_orders s z0 z1 z2 q → mM Z ps ts yX12_orders cX12_orders 6 none dr 0 0 [.ref (Z.2.2 + 37), .int z0, .int z1, .int z2] s (qV q)) (hP : ∀ e ∈ psM, e ∈ ps) (hT : ∀ e ∈ tsM, e ∈ ts) {σ : Mem} {x1 : Int32} {x2 : Int32} {x3 : Int32} {Q : Mem → Prop} (hw : w_X12_orders rec_X12_orders σ x1 x2 x3 Q) : mM Z ps ts yX12_orders cX12_orders 6 none d 0 0 [.ref (Z.2.2 + 37), .int x1, .int x2, .int x3] σ (qV Q) := by
  refine mM.of (by decide) (Nat.le_of_ble_eq_true rfl) rfl (fun X hZ hp ht hn hC => ?_)
  subst hZ; subst hp; subst ht
  exact t_X12_orders hC hd (fun i h => by rw [hn]; exact h) hP hT hrec_X12_orders hw
def f_X12_orders : Nat → Mem → Int32 → Int32 → Int32 → (Mem → Prop) → Prop
  | 0, _, _, _, _, _ => False
  | n + 1, σ, x1, x2, x3, Q => w_X12_orders (f_X12_orders n) σ x1 x2 x3 Q
theorem cf_X12_orders {Z : Fx} {ps ts : List (Nat × Nat × Nat)} (n : Nat) (hP : ∀ e ∈ psM, e ∈ ps) (hT : ∀ e ∈ tsM, e ∈ ts) : ∀ {σ : Mem} {x1 : Int32} {x2 : Int32} {x3 : Int32} {Q : Mem → Prop}, f_X12_orders n σ x1 x2 x3 Q → mM Z ps ts yX12_orders cX12_orders 6 none (5 * (n + 1)) 0 0 [.ref (Z.2.2 + 37), .int x1, .int x2, .int x3] σ (qV Q) := by
  induction n with
  | zero => intro σ x1 x2 x3 Q hw; exact False.elim hw
  | succ n ih =>
    intro σ x1 x2 x3 Q hw
    rw [f_X12_orders] at hw
    exact c_X12_orders (dr := 5 * (n + 1)) (by omega) (fun s z0 z1 z2 q h => ih h) hP hT hw
def w_X12_allOrders_35 (Q : Mem → Prop) : Nat → Int32 → Int32 → Mem → Prop
  | 0, _, _, _ => False
  | n + 1, x1, x2, σ => (9 ≤ x2 → (∃ m107 : Nat, m107 ≤ 12 ∧ f_X12_orders m107 (sI (sI (sI (sI σ 37 39 0) 37 40 0) 37 41 0) 37 42 (-1)) x1 0 0 (fun s103 => w_X12_asTheyCame s103 (fun s106 => Q s106)))) ∧ (¬ 9 ≤ x2 → (vp_in x2 9 ∧ (w_X12_allOrders_35 Q n x1 (x2 + 1) (sI σ 57 (Int32.toNatClampNeg x2) 0))))
set_option maxRecDepth 4000 in
set_option maxHeartbeats 2000000 in
theorem t_X12_allOrders_35 {X : Cx} {d : Nat} (hC : mOK X cX12_allOrders RX12 "allOrders" none d 0 0) (hd : 66 ≤ d) (hN : ∀ i, i < 3 → i < xN X) (hP : ∀ e ∈ psM, e ∈ xP X) (hT : ∀ e ∈ tsM, e ∈ xT X) {Q : Mem → Prop} : ∀ (n : Nat) (x1 : Int32) (x2 : Int32) (σ : Mem), w_X12_allOrders_35 Q n x1 x2 σ → mG X 35 [(0, .ref (xB X + 37)), (1, .int x1), (2, .int x2)] [] σ 0 0 (mQ X 0 0 (qV Q)) := by
  intro n
  induction n with
  | zero => intro x1 x2 σ hw; exact False.elim hw
  | succ n ih =>
    intro x1 x2 σ hw
    rw [w_X12_allOrders_35] at hw
    refine g_iload_n hC dX12_allOrders_35 rfl ?_
    refine g_bipush (v := 9) hC dX12_allOrders_36 (by decide) ?_
    refine g_icmp_ge (tgt := 54) hC dX12_allOrders_38 rfl (fun c => ?_) (fun c => ?_)
    · replace hw := hw.1 c
      refine g_aload_n hC dX12_allOrders_54 rfl ?_
      refine g_iconst (v := 0) hC dX12_allOrders_55 (by decide) ?_
      refine g_putIS hC (fw_X12_293_12 _) (hT _ tg_M_37) rfl rfl dX12_allOrders_56 ?_
      refine g_aload_n hC dX12_allOrders_59 rfl ?_
      refine g_iconst (v := 0) hC dX12_allOrders_60 (by decide) ?_
      refine g_putIS hC (fw_X12_296_12 _) (hT _ tg_M_37) rfl rfl dX12_allOrders_61 ?_
      refine g_aload_n hC dX12_allOrders_64 rfl ?_
      refine g_iconst (v := 0) hC dX12_allOrders_65 (by decide) ?_
      refine g_putIS hC (fw_X12_299_12 _) (hT _ tg_M_37) rfl rfl dX12_allOrders_66 ?_
      refine g_aload_n hC dX12_allOrders_69 rfl ?_
      refine g_iconst (v := (-1)) hC dX12_allOrders_70 (by decide) ?_
      refine g_putIS hC (fw_X12_302_12 _) (hT _ tg_M_37) rfl rfl dX12_allOrders_71 ?_
      refine g_aload_n hC dX12_allOrders_74 rfl ?_
      refine g_iload_n hC dX12_allOrders_75 rfl ?_
      refine g_iconst (v := 0) hC dX12_allOrders_76 (by decide) ?_
      refine g_iconst (v := 0) hC dX12_allOrders_77 (by decide) ?_
      refine g_known (fun hS => ?_)
      obtain ⟨m107, hn, hw⟩ := hw
      refine mG.st (st1 := ([.int x1, .int 0, .int 0] : List Value).reverse ++ .ref (xB X + 37) :: []) rfl ?_
      refine g_callV (As := [.int x1, .int 0, .int 0]) (st := []) hC (hS.2 _ (hT _ tg_M_37)) (by decide) ycl_12_X12_orders yw_X12_orders yv_X12_orders tw_654 dX12_allOrders_78 (fun _ h => h) (fun _ h => h) (fun h => h) (cf_X12_orders m107 hP hT hw) rfl (Nat.le_of_ble_eq_true rfl) (by omega) (by decide) (by decide) (kV fun s103 hw => ?_)
      refine g_aload_n hC dX12_allOrders_81 rfl ?_
      refine g_known (fun hS => ?_)
      refine mG.st (st1 := ([] : List Value).reverse ++ .ref (xB X + 37) :: []) rfl ?_
      refine g_callV (As := []) (st := []) hC (hS.2 _ (hT _ tg_M_37)) (by decide) ycl_12_X12_asTheyCame yw_X12_asTheyCame yv_X12_asTheyCame tw_632 dX12_allOrders_82 (fun _ h => h) (fun _ h => h) (fun h => h) (c_X12_asTheyCame (d := 0) (Nat.le_refl _) hP hT hw) rfl (Nat.le_of_ble_eq_true rfl) (by omega) (by decide) (by decide) (kV fun s106 hw => ?_)
      exact g_vret hC (by decide) (by decide) dX12_allOrders_85 (fun _ => ⟨rfl, hw⟩)
    · replace hw := hw.2 c
      refine g_aload_n hC dX12_allOrders_41 rfl ?_
      refine g_getrS hC fl_X12_188_12.s (hT _ tg_M_37) (hP _ pt_M_37_38) dX12_allOrders_42 ?_
      refine g_iload_n hC dX12_allOrders_45 rfl ?_
      refine g_iconst (v := 0) hC dX12_allOrders_46 (by decide) ?_
      have hin := hw.1
      replace hw := hw.2
      refine g_iastS (k := (Int32.toNatClampNeg x2)) hC (hT _ tg_M_57) rfl hin dX12_allOrders_47 ?_
      refine g_iinc (v := x2 + 1) (lv' := [(2, .int (x2 + 1)), (0, .ref (xB X + 37)), (1, .int x1)]) hC dX12_allOrders_48 rfl rfl (hN 2 (by decide)) rfl ?_
      refine g_goto (tgt := 35) hC dX12_allOrders_51 rfl ?_
      refine mG.pick (lv' := [(0, .ref (xB X + 37)), (1, .int x1), (2, .int (x2 + 1))]) [1, 2, 0] rfl ?_
      exact ih _ _ _ hw
def w_X12_allOrders_7 (Q : Mem → Prop) : Nat → Int32 → Int32 → Mem → Prop
  | 0, _, _, _ => False
  | n + 1, x1, x2, σ => ((mI σ 37 0) ≤ x2 → (∃ m101 : Nat, w_X12_allOrders_35 Q m101 x1 0 σ)) ∧ (¬ (mI σ 37 0) ≤ x2 → (vp_in x2 8 ∧ (∀ v102 : Int32, v102 = (mI σ 55 (Int32.toNatClampNeg x2)) → (vp_in x2 8 ∧ (w_X12_allOrders_7 Q n x1 (x2 + 1) (sI σ 59 (Int32.toNatClampNeg x2) v102))))))
set_option maxRecDepth 4000 in
set_option maxHeartbeats 2000000 in
theorem t_X12_allOrders_7 {X : Cx} {d : Nat} (hC : mOK X cX12_allOrders RX12 "allOrders" none d 0 0) (hd : 66 ≤ d) (hN : ∀ i, i < 3 → i < xN X) (hP : ∀ e ∈ psM, e ∈ xP X) (hT : ∀ e ∈ tsM, e ∈ xT X) {Q : Mem → Prop} : ∀ (n : Nat) (x1 : Int32) (x2 : Int32) (σ : Mem), w_X12_allOrders_7 Q n x1 x2 σ → mG X 7 [(0, .ref (xB X + 37)), (1, .int x1), (2, .int x2)] [] σ 0 0 (mQ X 0 0 (qV Q)) := by
  intro n
  induction n with
  | zero => intro x1 x2 σ hw; exact False.elim hw
  | succ n ih =>
    intro x1 x2 σ hw
    rw [w_X12_allOrders_7] at hw
    refine g_iload_n hC dX12_allOrders_7 rfl ?_
    refine g_aload_n hC dX12_allOrders_8 rfl ?_
    refine g_getiSv (v := (mI σ 37 0)) hC fl_X12_1_12.s (hT _ tg_M_37) rfl dX12_allOrders_9 ?_
    refine g_icmp_ge (tgt := 33) hC dX12_allOrders_12 rfl (fun c => ?_) (fun c => ?_)
    · replace hw := hw.1 c
      refine g_iconst (v := 0) hC dX12_allOrders_33 (by decide) ?_
      refine g_istore_n (lv' := [(2, .int 0), (0, .ref (xB X + 37)), (1, .int x1)]) hC dX12_allOrders_34 (hN 2 (by decide)) rfl ?_
      refine mG.pick (lv' := [(0, .ref (xB X + 37)), (1, .int x1), (2, .int 0)]) [1, 2, 0] rfl ?_
      obtain ⟨m101, hw⟩ := hw
      exact t_X12_allOrders_35 hC hd hN hP hT m101 _ _ _ hw
    · replace hw := hw.2 c
      refine g_aload_n hC dX12_allOrders_15 rfl ?_
      refine g_getrS hC fl_X12_194_12.s (hT _ tg_M_37) (hP _ pt_M_37_44) dX12_allOrders_16 ?_
      refine g_iload_n hC dX12_allOrders_19 rfl ?_
      refine g_aload_n hC dX12_allOrders_20 rfl ?_
      refine g_getrS hC fl_X12_182_12.s (hT _ tg_M_37) (hP _ pt_M_37_33) dX12_allOrders_21 ?_
      refine g_iload_n hC dX12_allOrders_24 rfl ?_
      refine g_ialdSv (v := (mI σ 55 (Int32.toNatClampNeg x2))) hC (hT _ tg_M_55) rfl hw.1 rfl dX12_allOrders_25 ?_
      replace hw := hw.2
      refine g_topi (fun v102 ev102 => ?_)
      replace hw := hw v102 ev102
      have hin := hw.1
      replace hw := hw.2
      refine g_iastS (k := (Int32.toNatClampNeg x2)) hC (hT _ tg_M_59) rfl hin dX12_allOrders_26 ?_
      refine g_iinc (v := x2 + 1) (lv' := [(2, .int (x2 + 1)), (0, .ref (xB X + 37)), (1, .int x1)]) hC dX12_allOrders_27 rfl rfl (hN 2 (by decide)) rfl ?_
      refine g_goto (tgt := 7) hC dX12_allOrders_30 rfl ?_
      refine mG.pick (lv' := [(0, .ref (xB X + 37)), (1, .int x1), (2, .int (x2 + 1))]) [1, 2, 0] rfl ?_
      exact ih _ _ _ hw
def w_X12_allOrders (σ : Mem) (x1 : Int32) (Q : Mem → Prop) : Prop := w_X12_layAll σ x1 (fun s103 => ∃ m104 : Nat, w_X12_allOrders_7 Q m104 x1 0 s103)
set_option maxRecDepth 4000 in
set_option maxHeartbeats 2000000 in
theorem t_X12_allOrders {X : Cx} {d : Nat} (hC : mOK X cX12_allOrders RX12 "allOrders" none d 0 0) (hd : 66 ≤ d) (hN : ∀ i, i < 3 → i < xN X) (hP : ∀ e ∈ psM, e ∈ xP X) (hT : ∀ e ∈ tsM, e ∈ xT X) {σ : Mem} {x1 : Int32} {Q : Mem → Prop} (hw : w_X12_allOrders σ x1 Q) : mG X 0 [(0, .ref (xB X + 37)), (1, .int x1)] [] σ 0 0 (mQ X 0 0 (qV Q)) := by
  refine g_aload_n hC dX12_allOrders_0 rfl ?_
  refine g_iload_n hC dX12_allOrders_1 rfl ?_
  refine g_known (fun hS => ?_)
  refine mG.st (st1 := ([.int x1] : List Value).reverse ++ .ref (xB X + 37) :: []) rfl ?_
  refine g_callV (As := [.int x1]) (st := []) hC (hS.2 _ (hT _ tg_M_37)) (by decide) ycl_12_X12_layAll yw_X12_layAll yv_X12_layAll tw_614 dX12_allOrders_2 (fun _ h => h) (fun _ h => h) (fun h => h) (c_X12_layAll (d := 4) (Nat.le_refl _) hP hT hw) rfl (Nat.le_of_ble_eq_true rfl) (by omega) (by decide) (by decide) (kV fun s103 hw => ?_)
  refine g_iconst (v := 0) hC dX12_allOrders_5 (by decide) ?_
  refine g_istore_n (lv' := [(2, .int 0), (0, .ref (xB X + 37)), (1, .int x1)]) hC dX12_allOrders_6 (hN 2 (by decide)) rfl ?_
  refine mG.pick (lv' := [(0, .ref (xB X + 37)), (1, .int x1), (2, .int 0)]) [1, 2, 0] rfl ?_
  obtain ⟨m104, hw⟩ := hw
  exact t_X12_allOrders_7 hC hd hN hP hT m104 _ _ _ hw
set_option maxRecDepth 4000 in
theorem c_X12_allOrders {Z : Fx} {ps ts : List (Nat × Nat × Nat)} {d : Nat} (hd : 66 ≤ d) (hP : ∀ e ∈ psM, e ∈ ps) (hT : ∀ e ∈ tsM, e ∈ ts) {σ : Mem} {x1 : Int32} {Q : Mem → Prop} (hw : w_X12_allOrders σ x1 Q) : mM Z ps ts yX12_allOrders cX12_allOrders 3 none d 0 0 [.ref (Z.2.2 + 37), .int x1] σ (qV Q) := by
  refine mM.of (by decide) (Nat.le_of_ble_eq_true rfl) rfl (fun X hZ hp ht hn hC => ?_)
  subst hZ; subst hp; subst ht
  exact t_X12_allOrders hC hd (fun i h => by rw [hn]; exact h) hP hT hw
def w_X12_orders_ (σ : Mem) (x1 : Int32) (x2 : Int32) (Q : Int32 → Mem → Prop) : Prop := w_X12_isLayer σ x1 (fun v101 s103 => (v101 = 0 → (Q (-2) s103)) ∧ (¬ v101 = 0 → (w_X12_isIn s103 x2 0 8 (fun v104 s106 => (¬ v104 = 0 → (((mI s106 37 0) ≤ 6 → (w_X12_allOrders s106 x1 (fun s109 => vp_in x2 9 ∧ (Q (mI s109 57 (Int32.toNatClampNeg x2)) s109)))) ∧ (¬ (mI s106 37 0) ≤ 6 → (Q (-3) s106)))) ∧ (v104 = 0 → (Q (-2) s106))))))
set_option maxRecDepth 4000 in
set_option maxHeartbeats 2000000 in
theorem t_X12_orders_ {X : Cx} {d : Nat} (hC : mOK X cX12_orders_ RX12 "orders" (some .int) d 0 0) (hd : 67 ≤ d) (hN : ∀ i, i < 3 → i < xN X) (hP : ∀ e ∈ psM, e ∈ xP X) (hT : ∀ e ∈ tsM, e ∈ xT X) {σ : Mem} {x1 : Int32} {x2 : Int32} {Q : Int32 → Mem → Prop} (hw : w_X12_orders_ σ x1 x2 Q) : mG X 0 [(0, .ref (xB X + 37)), (1, .int x1), (2, .int x2)] [] σ 0 0 (mQ X 0 0 (qI Q)) := by
  refine g_aload_n hC dX12_orders__0 rfl ?_
  refine g_iload_n hC dX12_orders__1 rfl ?_
  refine g_known (fun hS => ?_)
  refine mG.st (st1 := ([.int x1] : List Value).reverse ++ .ref (xB X + 37) :: []) rfl ?_
  refine g_callV (As := [.int x1]) (st := []) hC (hS.2 _ (hT _ tg_M_37)) (by decide) ycl_12_X12_isLayer yw_X12_isLayer yv_X12_isLayer tw_480 dX12_orders__2 (fun _ h => h) (fun _ h => h) (fun h => h) (c_X12_isLayer (d := 1) (Nat.le_refl _) hP hT hw) rfl (Nat.le_of_ble_eq_true rfl) (by omega) (by decide) (by decide) (kI fun v101 s103 hw => ?_)
  refine g_if_eq (tgt := 18) hC dX12_orders__5 rfl (fun c => ?_) (fun c => ?_)
  · replace hw := hw.1 c
    refine g_bipush (v := (-2)) hC dX12_orders__18 (by decide) ?_
    exact g_iret hC rfl (by decide) (by decide) dX12_orders__20 (fun _ => ⟨_, rfl, hw⟩)
  · replace hw := hw.2 c
    refine g_iload_n hC dX12_orders__8 rfl ?_
    refine g_iconst (v := 0) hC dX12_orders__9 (by decide) ?_
    refine g_bipush (v := 8) hC dX12_orders__10 (by decide) ?_
    refine mG.st (st1 := ([.int x2, .int 0, .int 8] : List Value).reverse ++ []) rfl ?_
    refine g_callS (As := [.int x2, .int 0, .int 8]) (st := []) hC yw_X12_isIn ys_X12_isIn tw_465 dX12_orders__12 (fun _ h => h) (fun _ h => h) (fun h => h) (c_X12_isIn (d := 0) (Nat.le_refl _) hw) rfl (Nat.le_of_ble_eq_true rfl) (by omega) (by decide) (by decide) (kI fun v104 s106 hw => ?_)
    refine g_if_ne (tgt := 21) hC dX12_orders__15 rfl (fun c => ?_) (fun c => ?_)
    · replace hw := hw.1 c
      refine g_aload_n hC dX12_orders__21 rfl ?_
      refine g_getiSv (v := (mI s106 37 0)) hC fl_X12_1_12.s (hT _ tg_M_37) rfl dX12_orders__22 ?_
      refine g_bipush (v := 6) hC dX12_orders__25 (by decide) ?_
      refine g_icmp_le (tgt := 33) hC dX12_orders__27 rfl (fun c => ?_) (fun c => ?_)
      · replace hw := hw.1 c
        refine g_aload_n hC dX12_orders__33 rfl ?_
        refine g_iload_n hC dX12_orders__34 rfl ?_
        refine g_known (fun hS => ?_)
        refine mG.st (st1 := ([.int x1] : List Value).reverse ++ .ref (xB X + 37) :: []) rfl ?_
        refine g_callV (As := [.int x1]) (st := []) hC (hS.2 _ (hT _ tg_M_37)) (by decide) ycl_12_X12_allOrders yw_X12_allOrders yv_X12_allOrders tw_664 dX12_orders__35 (fun _ h => h) (fun _ h => h) (fun h => h) (c_X12_allOrders (d := 66) (Nat.le_refl _) hP hT hw) rfl (Nat.le_of_ble_eq_true rfl) (by omega) (by decide) (by decide) (kV fun s109 hw => ?_)
        refine g_aload_n hC dX12_orders__38 rfl ?_
        refine g_getrS hC fl_X12_188_12.s (hT _ tg_M_37) (hP _ pt_M_37_38) dX12_orders__39 ?_
        refine g_iload_n hC dX12_orders__42 rfl ?_
        refine g_ialdSv (v := (mI s109 57 (Int32.toNatClampNeg x2))) hC (hT _ tg_M_57) rfl hw.1 rfl dX12_orders__43 ?_
        replace hw := hw.2
        exact g_iret hC rfl (by decide) (by decide) dX12_orders__44 (fun _ => ⟨_, rfl, hw⟩)
      · replace hw := hw.2 c
        refine g_bipush (v := (-3)) hC dX12_orders__30 (by decide) ?_
        exact g_iret hC rfl (by decide) (by decide) dX12_orders__32 (fun _ => ⟨_, rfl, hw⟩)
    · replace hw := hw.2 c
      refine g_bipush (v := (-2)) hC dX12_orders__18 (by decide) ?_
      exact g_iret hC rfl (by decide) (by decide) dX12_orders__20 (fun _ => ⟨_, rfl, hw⟩)
set_option maxRecDepth 4000 in
theorem c_X12_orders_ {Z : Fx} {ps ts : List (Nat × Nat × Nat)} {d : Nat} (hd : 67 ≤ d) (hP : ∀ e ∈ psM, e ∈ ps) (hT : ∀ e ∈ tsM, e ∈ ts) {σ : Mem} {x1 : Int32} {x2 : Int32} {Q : Int32 → Mem → Prop} (hw : w_X12_orders_ σ x1 x2 Q) : mM Z ps ts yX12_orders_ cX12_orders_ 3 (some .int) d 0 0 [.ref (Z.2.2 + 37), .int x1, .int x2] σ (qI Q) := by
  refine mM.of (by decide) (Nat.le_of_ble_eq_true rfl) rfl (fun X hZ hp ht hn hC => ?_)
  subst hZ; subst hp; subst ht
  exact t_X12_orders_ hC hd (fun i h => by rw [hn]; exact h) hP hT hw
def w_X12_divisor_4 (Q : Int32 → Mem → Prop) : Nat → Int32 → Int32 → Mem → Prop
  | 0, _, _, _ => False
  | n + 1, x2, x3, σ => (x3 = 0 → (Q x2 σ)) ∧ (¬ x3 = 0 → (¬ x3 = 0 ∧ (w_X12_divisor_4 Q n x3 (x2 - x2 / x3 * x3) σ)))
set_option maxRecDepth 4000 in
set_option maxHeartbeats 2000000 in
theorem t_X12_divisor_4 {X : Cx} {d : Nat} (hC : mOK X cX12_divisor RX12 "divisor" (some .int) d 0 0) (hd : 0 ≤ d) (hN : ∀ i, i < 5 → i < xN X) {Q : Int32 → Mem → Prop} : ∀ (n : Nat) (x2 : Int32) (x3 : Int32) (σ : Mem), w_X12_divisor_4 Q n x2 x3 σ → mG X 4 [(2, .int x2), (3, .int x3)] [] σ 0 0 (mQ X 0 0 (qI Q)) := by
  intro n
  induction n with
  | zero => intro x2 x3 σ hw; exact False.elim hw
  | succ n ih =>
    intro x2 x3 σ hw
    rw [w_X12_divisor_4] at hw
    refine g_iload_n hC dX12_divisor_4 rfl ?_
    refine g_if_eq (tgt := 21) hC dX12_divisor_5 rfl (fun c => ?_) (fun c => ?_)
    · replace hw := hw.1 c
      refine g_iload_n hC dX12_divisor_21 rfl ?_
      exact g_iret hC rfl (by decide) (by decide) dX12_divisor_22 (fun _ => ⟨_, rfl, hw⟩)
    · replace hw := hw.2 c
      refine g_iload_n hC dX12_divisor_8 rfl ?_
      refine g_iload_n hC dX12_divisor_9 rfl ?_
      refine g_irem hC dX12_divisor_10 hw.1 ?_
      replace hw := hw.2
      refine g_istore (lv' := [(4, .int (x2 - x2 / x3 * x3)), (2, .int x2), (3, .int x3)]) hC dX12_divisor_11 (hN 4 (by decide)) rfl ?_
      refine g_iload_n hC dX12_divisor_13 rfl ?_
      refine g_istore_n (lv' := [(2, .int x3), (4, .int (x2 - x2 / x3 * x3)), (3, .int x3)]) hC dX12_divisor_14 (hN 2 (by decide)) rfl ?_
      refine g_iload hC dX12_divisor_15 rfl ?_
      refine g_istore_n (lv' := [(3, .int (x2 - x2 / x3 * x3)), (2, .int x3), (4, .int (x2 - x2 / x3 * x3))]) hC dX12_divisor_17 (hN 3 (by decide)) rfl ?_
      refine g_goto (tgt := 4) hC dX12_divisor_18 rfl ?_
      refine mG.pick (lv' := [(2, .int x3), (3, .int (x2 - x2 / x3 * x3))]) [1, 0] rfl ?_
      exact ih _ _ _ hw
def w_X12_divisor (σ : Mem) (x0 : Int32) (x1 : Int32) (Q : Int32 → Mem → Prop) : Prop := ∃ m101 : Nat, w_X12_divisor_4 Q m101 x0 x1 σ
set_option maxRecDepth 4000 in
set_option maxHeartbeats 2000000 in
theorem t_X12_divisor {X : Cx} {d : Nat} (hC : mOK X cX12_divisor RX12 "divisor" (some .int) d 0 0) (hd : 0 ≤ d) (hN : ∀ i, i < 5 → i < xN X) {σ : Mem} {x0 : Int32} {x1 : Int32} {Q : Int32 → Mem → Prop} (hw : w_X12_divisor σ x0 x1 Q) : mG X 0 [(0, .int x0), (1, .int x1)] [] σ 0 0 (mQ X 0 0 (qI Q)) := by
  refine g_iload_n hC dX12_divisor_0 rfl ?_
  refine g_istore_n (lv' := [(2, .int x0), (0, .int x0), (1, .int x1)]) hC dX12_divisor_1 (hN 2 (by decide)) rfl ?_
  refine g_iload_n hC dX12_divisor_2 rfl ?_
  refine g_istore_n (lv' := [(3, .int x1), (2, .int x0), (0, .int x0), (1, .int x1)]) hC dX12_divisor_3 (hN 3 (by decide)) rfl ?_
  refine mG.pick (lv' := [(2, .int x0), (3, .int x1)]) [1, 0] rfl ?_
  obtain ⟨m101, hw⟩ := hw
  exact t_X12_divisor_4 hC hd hN m101 _ _ _ hw
set_option maxRecDepth 4000 in
theorem c_X12_divisor {Z : Fx} {ps ts : List (Nat × Nat × Nat)} {d : Nat} (hd : 0 ≤ d) {σ : Mem} {x0 : Int32} {x1 : Int32} {Q : Int32 → Mem → Prop} (hw : w_X12_divisor σ x0 x1 Q) : mM Z ps ts yX12_divisor cX12_divisor 5 (some .int) d 0 0 [.int x0, .int x1] σ (qI Q) := by
  refine mM.of (by decide) (Nat.le_of_ble_eq_true rfl) rfl (fun X hZ hp ht hn hC => ?_)
  subst hZ; subst hp; subst ht
  exact t_X12_divisor hC hd (fun i h => by rw [hn]; exact h) hw
def w_X12_mean (σ : Mem) (x1 : Int32) (x2 : Int32) (Q : Int64 → Mem → Prop) : Prop := w_X12_isLayer σ x1 (fun v101 s103 => (v101 = 0 → (Q (-4611686018427387904) s103)) ∧ (¬ v101 = 0 → (w_X12_isIn s103 x2 0 1 (fun v104 s106 => (v104 = 0 → (Q (-4611686018427387904) s106)) ∧ (¬ v104 = 0 → (((mI s106 37 0) ≤ 6 → (w_X12_allOrders s106 x1 (fun s109 => w_X12_divisor s109 (mI s109 37 39) (mI s109 37 40) (fun v110 s112 => (¬ x2 = 0 → (¬ v110 = 0 ∧ (Q (Int32.toInt64 ((mI s112 37 40) / v110)) s112))) ∧ (x2 = 0 → (¬ v110 = 0 ∧ (Q (Int32.toInt64 ((mI s112 37 39) / v110)) s112))))))) ∧ (¬ (mI s106 37 0) ≤ 6 → (Q (-4611686018427387904) s106))))))))
set_option maxRecDepth 4000 in
set_option maxHeartbeats 2000000 in
theorem t_X12_mean {X : Cx} {d : Nat} (hC : mOK X cX12_mean RX12 "mean" (some .long) d 0 0) (hd : 67 ≤ d) (hN : ∀ i, i < 4 → i < xN X) (hP : ∀ e ∈ psM, e ∈ xP X) (hT : ∀ e ∈ tsM, e ∈ xT X) {σ : Mem} {x1 : Int32} {x2 : Int32} {Q : Int64 → Mem → Prop} (hw : w_X12_mean σ x1 x2 Q) : mG X 0 [(0, .ref (xB X + 37)), (1, .int x1), (2, .int x2)] [] σ 0 0 (mQ X 0 0 (qJ Q)) := by
  refine g_aload_n hC dX12_mean_0 rfl ?_
  refine g_iload_n hC dX12_mean_1 rfl ?_
  refine g_known (fun hS => ?_)
  refine mG.st (st1 := ([.int x1] : List Value).reverse ++ .ref (xB X + 37) :: []) rfl ?_
  refine g_callV (As := [.int x1]) (st := []) hC (hS.2 _ (hT _ tg_M_37)) (by decide) ycl_12_X12_isLayer yw_X12_isLayer yv_X12_isLayer tw_480 dX12_mean_2 (fun _ h => h) (fun _ h => h) (fun h => h) (c_X12_isLayer (d := 1) (Nat.le_refl _) hP hT hw) rfl (Nat.le_of_ble_eq_true rfl) (by omega) (by decide) (by decide) (kI fun v101 s103 hw => ?_)
  refine g_if_eq (tgt := 26) hC dX12_mean_5 rfl (fun c => ?_) (fun c => ?_)
  · replace hw := hw.1 c
    refine g_ldc2 hC tw_668 dX12_mean_26 ?_
    exact g_lret hC (by decide) (by decide) dX12_mean_29 (fun _ => ⟨_, rfl, hw⟩)
  · replace hw := hw.2 c
    refine g_iload_n hC dX12_mean_8 rfl ?_
    refine g_iconst (v := 0) hC dX12_mean_9 (by decide) ?_
    refine g_iconst (v := 1) hC dX12_mean_10 (by decide) ?_
    refine mG.st (st1 := ([.int x2, .int 0, .int 1] : List Value).reverse ++ []) rfl ?_
    refine g_callS (As := [.int x2, .int 0, .int 1]) (st := []) hC yw_X12_isIn ys_X12_isIn tw_465 dX12_mean_11 (fun _ h => h) (fun _ h => h) (fun h => h) (c_X12_isIn (d := 0) (Nat.le_refl _) hw) rfl (Nat.le_of_ble_eq_true rfl) (by omega) (by decide) (by decide) (kI fun v104 s106 hw => ?_)
    refine g_if_eq (tgt := 26) hC dX12_mean_14 rfl (fun c => ?_) (fun c => ?_)
    · replace hw := hw.1 c
      refine g_ldc2 hC tw_668 dX12_mean_26 ?_
      exact g_lret hC (by decide) (by decide) dX12_mean_29 (fun _ => ⟨_, rfl, hw⟩)
    · replace hw := hw.2 c
      refine g_aload_n hC dX12_mean_17 rfl ?_
      refine g_getiSv (v := (mI s106 37 0)) hC fl_X12_1_12.s (hT _ tg_M_37) rfl dX12_mean_18 ?_
      refine g_bipush (v := 6) hC dX12_mean_21 (by decide) ?_
      refine g_icmp_le (tgt := 30) hC dX12_mean_23 rfl (fun c => ?_) (fun c => ?_)
      · replace hw := hw.1 c
        refine g_aload_n hC dX12_mean_30 rfl ?_
        refine g_iload_n hC dX12_mean_31 rfl ?_
        refine g_known (fun hS => ?_)
        refine mG.st (st1 := ([.int x1] : List Value).reverse ++ .ref (xB X + 37) :: []) rfl ?_
        refine g_callV (As := [.int x1]) (st := []) hC (hS.2 _ (hT _ tg_M_37)) (by decide) ycl_12_X12_allOrders yw_X12_allOrders yv_X12_allOrders tw_664 dX12_mean_32 (fun _ h => h) (fun _ h => h) (fun h => h) (c_X12_allOrders (d := 66) (Nat.le_refl _) hP hT hw) rfl (Nat.le_of_ble_eq_true rfl) (by omega) (by decide) (by decide) (kV fun s109 hw => ?_)
        refine g_aload_n hC dX12_mean_35 rfl ?_
        refine g_getiSv (v := (mI s109 37 39)) hC fl_X12_293_12.s (hT _ tg_M_37) rfl dX12_mean_36 ?_
        refine g_aload_n hC dX12_mean_39 rfl ?_
        refine g_getiSv (v := (mI s109 37 40)) hC fl_X12_296_12.s (hT _ tg_M_37) rfl dX12_mean_40 ?_
        refine mG.st (st1 := ([.int (mI s109 37 39), .int (mI s109 37 40)] : List Value).reverse ++ []) rfl ?_
        refine g_callS (As := [.int (mI s109 37 39), .int (mI s109 37 40)]) (st := []) hC yw_X12_divisor ys_X12_divisor tw_669 dX12_mean_43 (fun _ h => h) (fun _ h => h) (fun h => h) (c_X12_divisor (d := 0) (Nat.le_refl _) hw) rfl (Nat.le_of_ble_eq_true rfl) (by omega) (by decide) (by decide) (kI fun v110 s112 hw => ?_)
        refine g_istore_n (lv' := [(3, .int v110), (0, .ref (xB X + 37)), (1, .int x1), (2, .int x2)]) hC dX12_mean_46 (hN 3 (by decide)) rfl ?_
        refine g_iload_n hC dX12_mean_47 rfl ?_
        refine g_if_ne (tgt := 61) hC dX12_mean_48 rfl (fun c => ?_) (fun c => ?_)
        · replace hw := hw.1 c
          refine g_aload_n hC dX12_mean_61 rfl ?_
          refine g_getiSv (v := (mI s112 37 40)) hC fl_X12_296_12.s (hT _ tg_M_37) rfl dX12_mean_62 ?_
          refine g_iload_n hC dX12_mean_65 rfl ?_
          refine g_idiv hC dX12_mean_66 hw.1 ?_
          replace hw := hw.2
          refine g_i2l hC dX12_mean_67 ?_
          exact g_lret hC (by decide) (by decide) dX12_mean_68 (fun _ => ⟨_, rfl, hw⟩)
        · replace hw := hw.2 c
          refine g_aload_n hC dX12_mean_51 rfl ?_
          refine g_getiSv (v := (mI s112 37 39)) hC fl_X12_293_12.s (hT _ tg_M_37) rfl dX12_mean_52 ?_
          refine g_iload_n hC dX12_mean_55 rfl ?_
          refine g_idiv hC dX12_mean_56 hw.1 ?_
          replace hw := hw.2
          refine g_i2l hC dX12_mean_57 ?_
          refine g_goto (tgt := 68) hC dX12_mean_58 rfl ?_
          exact g_lret hC (by decide) (by decide) dX12_mean_68 (fun _ => ⟨_, rfl, hw⟩)
      · replace hw := hw.2 c
        refine g_ldc2 hC tw_668 dX12_mean_26 ?_
        exact g_lret hC (by decide) (by decide) dX12_mean_29 (fun _ => ⟨_, rfl, hw⟩)
set_option maxRecDepth 4000 in
theorem c_X12_mean {Z : Fx} {ps ts : List (Nat × Nat × Nat)} {d : Nat} (hd : 67 ≤ d) (hP : ∀ e ∈ psM, e ∈ ps) (hT : ∀ e ∈ tsM, e ∈ ts) {σ : Mem} {x1 : Int32} {x2 : Int32} {Q : Int64 → Mem → Prop} (hw : w_X12_mean σ x1 x2 Q) : mM Z ps ts yX12_mean cX12_mean 4 (some .long) d 0 0 [.ref (Z.2.2 + 37), .int x1, .int x2] σ (qJ Q) := by
  refine mM.of (by decide) (Nat.le_of_ble_eq_true rfl) rfl (fun X hZ hp ht hn hC => ?_)
  subst hZ; subst hp; subst ht
  exact t_X12_mean hC hd (fun i h => by rw [hn]; exact h) hP hT hw
def w_X12_bestOrder (σ : Mem) (x1 : Int32) (x2 : Int32) (Q : Int32 → Mem → Prop) : Prop := w_X12_isLayer σ x1 (fun v101 s103 => (v101 = 0 → (Q (-2) s103)) ∧ (¬ v101 = 0 → (w_X12_isPlate s103 x2 (fun v104 s106 => (¬ v104 = 0 → (((mI s106 37 0) ≤ 6 → (w_X12_allOrders s106 x1 (fun s109 => vp_in x2 8 ∧ (Q (mI s109 58 (Int32.toNatClampNeg x2)) s109)))) ∧ (¬ (mI s106 37 0) ≤ 6 → (Q (-3) s106)))) ∧ (v104 = 0 → (Q (-2) s106))))))
set_option maxRecDepth 4000 in
set_option maxHeartbeats 2000000 in
theorem t_X12_bestOrder {X : Cx} {d : Nat} (hC : mOK X cX12_bestOrder RX12 "bestOrder" (some .int) d 0 0) (hd : 67 ≤ d) (hN : ∀ i, i < 3 → i < xN X) (hP : ∀ e ∈ psM, e ∈ xP X) (hT : ∀ e ∈ tsM, e ∈ xT X) {σ : Mem} {x1 : Int32} {x2 : Int32} {Q : Int32 → Mem → Prop} (hw : w_X12_bestOrder σ x1 x2 Q) : mG X 0 [(0, .ref (xB X + 37)), (1, .int x1), (2, .int x2)] [] σ 0 0 (mQ X 0 0 (qI Q)) := by
  refine g_aload_n hC dX12_bestOrder_0 rfl ?_
  refine g_iload_n hC dX12_bestOrder_1 rfl ?_
  refine g_known (fun hS => ?_)
  refine mG.st (st1 := ([.int x1] : List Value).reverse ++ .ref (xB X + 37) :: []) rfl ?_
  refine g_callV (As := [.int x1]) (st := []) hC (hS.2 _ (hT _ tg_M_37)) (by decide) ycl_12_X12_isLayer yw_X12_isLayer yv_X12_isLayer tw_480 dX12_bestOrder_2 (fun _ h => h) (fun _ h => h) (fun h => h) (c_X12_isLayer (d := 1) (Nat.le_refl _) hP hT hw) rfl (Nat.le_of_ble_eq_true rfl) (by omega) (by decide) (by decide) (kI fun v101 s103 hw => ?_)
  refine g_if_eq (tgt := 16) hC dX12_bestOrder_5 rfl (fun c => ?_) (fun c => ?_)
  · replace hw := hw.1 c
    refine g_bipush (v := (-2)) hC dX12_bestOrder_16 (by decide) ?_
    exact g_iret hC rfl (by decide) (by decide) dX12_bestOrder_18 (fun _ => ⟨_, rfl, hw⟩)
  · replace hw := hw.2 c
    refine g_aload_n hC dX12_bestOrder_8 rfl ?_
    refine g_iload_n hC dX12_bestOrder_9 rfl ?_
    refine g_known (fun hS => ?_)
    refine mG.st (st1 := ([.int x2] : List Value).reverse ++ .ref (xB X + 37) :: []) rfl ?_
    refine g_callV (As := [.int x2]) (st := []) hC (hS.2 _ (hT _ tg_M_37)) (by decide) ycl_12_X12_isPlate yw_X12_isPlate yv_X12_isPlate tw_475 dX12_bestOrder_10 (fun _ h => h) (fun _ h => h) (fun h => h) (c_X12_isPlate (d := 1) (Nat.le_refl _) hP hT hw) rfl (Nat.le_of_ble_eq_true rfl) (by omega) (by decide) (by decide) (kI fun v104 s106 hw => ?_)
    refine g_if_ne (tgt := 19) hC dX12_bestOrder_13 rfl (fun c => ?_) (fun c => ?_)
    · replace hw := hw.1 c
      refine g_aload_n hC dX12_bestOrder_19 rfl ?_
      refine g_getiSv (v := (mI s106 37 0)) hC fl_X12_1_12.s (hT _ tg_M_37) rfl dX12_bestOrder_20 ?_
      refine g_bipush (v := 6) hC dX12_bestOrder_23 (by decide) ?_
      refine g_icmp_le (tgt := 31) hC dX12_bestOrder_25 rfl (fun c => ?_) (fun c => ?_)
      · replace hw := hw.1 c
        refine g_aload_n hC dX12_bestOrder_31 rfl ?_
        refine g_iload_n hC dX12_bestOrder_32 rfl ?_
        refine g_known (fun hS => ?_)
        refine mG.st (st1 := ([.int x1] : List Value).reverse ++ .ref (xB X + 37) :: []) rfl ?_
        refine g_callV (As := [.int x1]) (st := []) hC (hS.2 _ (hT _ tg_M_37)) (by decide) ycl_12_X12_allOrders yw_X12_allOrders yv_X12_allOrders tw_664 dX12_bestOrder_33 (fun _ h => h) (fun _ h => h) (fun h => h) (c_X12_allOrders (d := 66) (Nat.le_refl _) hP hT hw) rfl (Nat.le_of_ble_eq_true rfl) (by omega) (by decide) (by decide) (kV fun s109 hw => ?_)
        refine g_aload_n hC dX12_bestOrder_36 rfl ?_
        refine g_getrS hC fl_X12_191_12.s (hT _ tg_M_37) (hP _ pt_M_37_43) dX12_bestOrder_37 ?_
        refine g_iload_n hC dX12_bestOrder_40 rfl ?_
        refine g_ialdSv (v := (mI s109 58 (Int32.toNatClampNeg x2))) hC (hT _ tg_M_58) rfl hw.1 rfl dX12_bestOrder_41 ?_
        replace hw := hw.2
        exact g_iret hC rfl (by decide) (by decide) dX12_bestOrder_42 (fun _ => ⟨_, rfl, hw⟩)
      · replace hw := hw.2 c
        refine g_bipush (v := (-3)) hC dX12_bestOrder_28 (by decide) ?_
        exact g_iret hC rfl (by decide) (by decide) dX12_bestOrder_30 (fun _ => ⟨_, rfl, hw⟩)
    · replace hw := hw.2 c
      refine g_bipush (v := (-2)) hC dX12_bestOrder_16 (by decide) ?_
      exact g_iret hC rfl (by decide) (by decide) dX12_bestOrder_18 (fun _ => ⟨_, rfl, hw⟩)
set_option maxRecDepth 4000 in
theorem c_X12_bestOrder {Z : Fx} {ps ts : List (Nat × Nat × Nat)} {d : Nat} (hd : 67 ≤ d) (hP : ∀ e ∈ psM, e ∈ ps) (hT : ∀ e ∈ tsM, e ∈ ts) {σ : Mem} {x1 : Int32} {x2 : Int32} {Q : Int32 → Mem → Prop} (hw : w_X12_bestOrder σ x1 x2 Q) : mM Z ps ts yX12_bestOrder cX12_bestOrder 3 (some .int) d 0 0 [.ref (Z.2.2 + 37), .int x1, .int x2] σ (qI Q) := by
  refine mM.of (by decide) (Nat.le_of_ble_eq_true rfl) rfl (fun X hZ hp ht hn hC => ?_)
  subst hZ; subst hp; subst ht
  exact t_X12_bestOrder hC hd (fun i h => by rw [hn]; exact h) hP hT hw
def w_X12_came (σ : Mem) (x1 : Int32) (Q : Int32 → Mem → Prop) : Prop := w_X12_isLayer σ x1 (fun v101 s103 => (¬ v101 = 0 → (((mI s103 37 0) ≤ 6 → (w_X12_allOrders s103 x1 (fun s106 => Q (mI s106 37 41) s106))) ∧ (¬ (mI s103 37 0) ≤ 6 → (Q (-3) s103)))) ∧ (v101 = 0 → (Q (-2) s103)))
set_option maxRecDepth 4000 in
set_option maxHeartbeats 2000000 in
theorem t_X12_came {X : Cx} {d : Nat} (hC : mOK X cX12_came RX12 "came" (some .int) d 0 0) (hd : 67 ≤ d) (hN : ∀ i, i < 2 → i < xN X) (hP : ∀ e ∈ psM, e ∈ xP X) (hT : ∀ e ∈ tsM, e ∈ xT X) {σ : Mem} {x1 : Int32} {Q : Int32 → Mem → Prop} (hw : w_X12_came σ x1 Q) : mG X 0 [(0, .ref (xB X + 37)), (1, .int x1)] [] σ 0 0 (mQ X 0 0 (qI Q)) := by
  refine g_aload_n hC dX12_came_0 rfl ?_
  refine g_iload_n hC dX12_came_1 rfl ?_
  refine g_known (fun hS => ?_)
  refine mG.st (st1 := ([.int x1] : List Value).reverse ++ .ref (xB X + 37) :: []) rfl ?_
  refine g_callV (As := [.int x1]) (st := []) hC (hS.2 _ (hT _ tg_M_37)) (by decide) ycl_12_X12_isLayer yw_X12_isLayer yv_X12_isLayer tw_480 dX12_came_2 (fun _ h => h) (fun _ h => h) (fun h => h) (c_X12_isLayer (d := 1) (Nat.le_refl _) hP hT hw) rfl (Nat.le_of_ble_eq_true rfl) (by omega) (by decide) (by decide) (kI fun v101 s103 hw => ?_)
  refine g_if_ne (tgt := 11) hC dX12_came_5 rfl (fun c => ?_) (fun c => ?_)
  · replace hw := hw.1 c
    refine g_aload_n hC dX12_came_11 rfl ?_
    refine g_getiSv (v := (mI s103 37 0)) hC fl_X12_1_12.s (hT _ tg_M_37) rfl dX12_came_12 ?_
    refine g_bipush (v := 6) hC dX12_came_15 (by decide) ?_
    refine g_icmp_le (tgt := 23) hC dX12_came_17 rfl (fun c => ?_) (fun c => ?_)
    · replace hw := hw.1 c
      refine g_aload_n hC dX12_came_23 rfl ?_
      refine g_iload_n hC dX12_came_24 rfl ?_
      refine g_known (fun hS => ?_)
      refine mG.st (st1 := ([.int x1] : List Value).reverse ++ .ref (xB X + 37) :: []) rfl ?_
      refine g_callV (As := [.int x1]) (st := []) hC (hS.2 _ (hT _ tg_M_37)) (by decide) ycl_12_X12_allOrders yw_X12_allOrders yv_X12_allOrders tw_664 dX12_came_25 (fun _ h => h) (fun _ h => h) (fun h => h) (c_X12_allOrders (d := 66) (Nat.le_refl _) hP hT hw) rfl (Nat.le_of_ble_eq_true rfl) (by omega) (by decide) (by decide) (kV fun s106 hw => ?_)
      refine g_aload_n hC dX12_came_28 rfl ?_
      refine g_getiSv (v := (mI s106 37 41)) hC fl_X12_299_12.s (hT _ tg_M_37) rfl dX12_came_29 ?_
      exact g_iret hC rfl (by decide) (by decide) dX12_came_32 (fun _ => ⟨_, rfl, hw⟩)
    · replace hw := hw.2 c
      refine g_bipush (v := (-3)) hC dX12_came_20 (by decide) ?_
      exact g_iret hC rfl (by decide) (by decide) dX12_came_22 (fun _ => ⟨_, rfl, hw⟩)
  · replace hw := hw.2 c
    refine g_bipush (v := (-2)) hC dX12_came_8 (by decide) ?_
    exact g_iret hC rfl (by decide) (by decide) dX12_came_10 (fun _ => ⟨_, rfl, hw⟩)
set_option maxRecDepth 4000 in
theorem c_X12_came {Z : Fx} {ps ts : List (Nat × Nat × Nat)} {d : Nat} (hd : 67 ≤ d) (hP : ∀ e ∈ psM, e ∈ ps) (hT : ∀ e ∈ tsM, e ∈ ts) {σ : Mem} {x1 : Int32} {Q : Int32 → Mem → Prop} (hw : w_X12_came σ x1 Q) : mM Z ps ts yX12_came cX12_came 2 (some .int) d 0 0 [.ref (Z.2.2 + 37), .int x1] σ (qI Q) := by
  refine mM.of (by decide) (Nat.le_of_ble_eq_true rfl) rfl (fun X hZ hp ht hn hC => ?_)
  subst hZ; subst hp; subst ht
  exact t_X12_came hC hd (fun i h => by rw [hn]; exact h) hP hT hw
def w_X12_drawn_16 (Q : Int32 → Mem → Prop) : Nat → Int32 → Int32 → Int32 → Mem → Prop
  | 0, _, _, _, _ => False
  | n + 1, x1, x3, x4, σ => (((mI σ 37 0) - 1) ≤ x4 → (w_X12_layAll σ x1 (fun s103 => w_X12_asTheyCame s103 (fun s106 => Q (mI s106 37 28) s106)))) ∧ (¬ ((mI σ 37 0) - 1) ≤ x4 → (¬ ((mI σ 37 0) - x4) = 0 ∧ (∀ v107 : Int32, v107 = (x4 + ((Int32.toUInt32 ((x3 * 1103515245) + 12345) >>> (Int32.toUInt32 9 &&& Int32.toUInt32 31)).toInt32 - (Int32.toUInt32 ((x3 * 1103515245) + 12345) >>> (Int32.toUInt32 9 &&& Int32.toUInt32 31)).toInt32 / ((mI σ 37 0) - x4) * ((mI σ 37 0) - x4))) → (vp_in x4 8 ∧ (∀ v108 : Int32, v108 = (mI σ 53 (Int32.toNatClampNeg x4)) → (vp_in v107 8 ∧ (∀ v109 : Int32, v109 = (mI σ 53 (Int32.toNatClampNeg v107)) → (vp_in x4 8 ∧ (vp_in v107 8 ∧ (w_X12_drawn_16 Q n x1 ((x3 * 1103515245) + 12345) (x4 + 1) (sI (sI σ 53 (Int32.toNatClampNeg x4) v109) 53 (Int32.toNatClampNeg v107) v108)))))))))))
set_option maxRecDepth 4000 in
set_option maxHeartbeats 2000000 in
theorem t_X12_drawn_16 {X : Cx} {d : Nat} (hC : mOK X cX12_drawn RX12 "drawn" (some .int) d 0 0) (hd : 5 ≤ d) (hN : ∀ i, i < 7 → i < xN X) (hP : ∀ e ∈ psM, e ∈ xP X) (hT : ∀ e ∈ tsM, e ∈ xT X) {Q : Int32 → Mem → Prop} : ∀ (n : Nat) (x1 : Int32) (x3 : Int32) (x4 : Int32) (σ : Mem), w_X12_drawn_16 Q n x1 x3 x4 σ → mG X 16 [(0, .ref (xB X + 37)), (1, .int x1), (3, .int x3), (4, .int x4)] [] σ 0 0 (mQ X 0 0 (qI Q)) := by
  intro n
  induction n with
  | zero => intro x1 x3 x4 σ hw; exact False.elim hw
  | succ n ih =>
    intro x1 x3 x4 σ hw
    rw [w_X12_drawn_16] at hw
    refine g_iload hC dX12_drawn_16 rfl ?_
    refine g_aload_n hC dX12_drawn_18 rfl ?_
    refine g_getiSv (v := (mI σ 37 0)) hC fl_X12_1_12.s (hT _ tg_M_37) rfl dX12_drawn_19 ?_
    refine g_iconst (v := 1) hC dX12_drawn_22 (by decide) ?_
    refine g_isub hC dX12_drawn_23 ?_
    refine g_icmp_ge (tgt := 92) hC dX12_drawn_24 rfl (fun c => ?_) (fun c => ?_)
    · replace hw := hw.1 c
      refine g_aload_n hC dX12_drawn_92 rfl ?_
      refine g_iload_n hC dX12_drawn_93 rfl ?_
      refine g_known (fun hS => ?_)
      refine mG.st (st1 := ([.int x1] : List Value).reverse ++ .ref (xB X + 37) :: []) rfl ?_
      refine g_callV (As := [.int x1]) (st := []) hC (hS.2 _ (hT _ tg_M_37)) (by decide) ycl_12_X12_layAll yw_X12_layAll yv_X12_layAll tw_614 dX12_drawn_94 (fun _ h => h) (fun _ h => h) (fun h => h) (c_X12_layAll (d := 4) (Nat.le_refl _) hP hT hw) rfl (Nat.le_of_ble_eq_true rfl) (by omega) (by decide) (by decide) (kV fun s103 hw => ?_)
      refine g_aload_n hC dX12_drawn_97 rfl ?_
      refine g_known (fun hS => ?_)
      refine mG.st (st1 := ([] : List Value).reverse ++ .ref (xB X + 37) :: []) rfl ?_
      refine g_callV (As := []) (st := []) hC (hS.2 _ (hT _ tg_M_37)) (by decide) ycl_12_X12_asTheyCame yw_X12_asTheyCame yv_X12_asTheyCame tw_632 dX12_drawn_98 (fun _ h => h) (fun _ h => h) (fun h => h) (c_X12_asTheyCame (d := 0) (Nat.le_refl _) hP hT hw) rfl (Nat.le_of_ble_eq_true rfl) (by omega) (by decide) (by decide) (kV fun s106 hw => ?_)
      refine g_aload_n hC dX12_drawn_101 rfl ?_
      refine g_getiSv (v := (mI s106 37 28)) hC fl_X12_225_12.s (hT _ tg_M_37) rfl dX12_drawn_102 ?_
      exact g_iret hC rfl (by decide) (by decide) dX12_drawn_105 (fun _ => ⟨_, rfl, hw⟩)
    · replace hw := hw.2 c
      refine g_iload_n hC dX12_drawn_27 rfl ?_
      refine g_ldcw hC tw_672 dX12_drawn_28 ?_
      refine g_imul hC dX12_drawn_31 ?_
      refine g_sipush (v := 12345) hC dX12_drawn_32 (by decide) ?_
      refine g_iadd hC dX12_drawn_35 ?_
      refine g_istore_n (lv' := [(3, .int ((x3 * 1103515245) + 12345)), (0, .ref (xB X + 37)), (1, .int x1), (4, .int x4)]) hC dX12_drawn_36 (hN 3 (by decide)) rfl ?_
      refine g_iload hC dX12_drawn_37 rfl ?_
      refine g_iload_n hC dX12_drawn_39 rfl ?_
      refine g_bipush (v := 9) hC dX12_drawn_40 (by decide) ?_
      refine g_iushr hC dX12_drawn_42 ?_
      refine g_aload_n hC dX12_drawn_43 rfl ?_
      refine g_getiSv (v := (mI σ 37 0)) hC fl_X12_1_12.s (hT _ tg_M_37) rfl dX12_drawn_44 ?_
      refine g_iload hC dX12_drawn_47 rfl ?_
      refine g_isub hC dX12_drawn_49 ?_
      refine g_irem hC dX12_drawn_50 hw.1 ?_
      replace hw := hw.2
      refine g_iadd hC dX12_drawn_51 ?_
      refine g_topi (fun v107 ev107 => ?_)
      replace hw := hw v107 ev107
      refine g_istore (lv' := [(5, .int v107), (3, .int ((x3 * 1103515245) + 12345)), (0, .ref (xB X + 37)), (1, .int x1), (4, .int x4)]) hC dX12_drawn_52 (hN 5 (by decide)) rfl ?_
      refine g_aload_n hC dX12_drawn_54 rfl ?_
      refine g_getrS hC fl_X12_176_12.s (hT _ tg_M_37) (hP _ pt_M_37_31) dX12_drawn_55 ?_
      refine g_iload hC dX12_drawn_58 rfl ?_
      refine g_ialdSv (v := (mI σ 53 (Int32.toNatClampNeg x4))) hC (hT _ tg_M_53) rfl hw.1 rfl dX12_drawn_60 ?_
      replace hw := hw.2
      refine g_topi (fun v108 ev108 => ?_)
      replace hw := hw v108 ev108
      refine g_istore (lv' := [(6, .int v108), (5, .int v107), (3, .int ((x3 * 1103515245) + 12345)), (0, .ref (xB X + 37)), (1, .int x1), (4, .int x4)]) hC dX12_drawn_61 (hN 6 (by decide)) rfl ?_
      refine g_aload_n hC dX12_drawn_63 rfl ?_
      refine g_getrS hC fl_X12_176_12.s (hT _ tg_M_37) (hP _ pt_M_37_31) dX12_drawn_64 ?_
      refine g_iload hC dX12_drawn_67 rfl ?_
      refine g_aload_n hC dX12_drawn_69 rfl ?_
      refine g_getrS hC fl_X12_176_12.s (hT _ tg_M_37) (hP _ pt_M_37_31) dX12_drawn_70 ?_
      refine g_iload hC dX12_drawn_73 rfl ?_
      refine g_ialdSv (v := (mI σ 53 (Int32.toNatClampNeg v107))) hC (hT _ tg_M_53) rfl hw.1 rfl dX12_drawn_75 ?_
      replace hw := hw.2
      refine g_topi (fun v109 ev109 => ?_)
      replace hw := hw v109 ev109
      have hin := hw.1
      replace hw := hw.2
      refine g_iastS (k := (Int32.toNatClampNeg x4)) hC (hT _ tg_M_53) rfl hin dX12_drawn_76 ?_
      refine g_aload_n hC dX12_drawn_77 rfl ?_
      refine g_getrS hC fl_X12_176_12.s (hT _ tg_M_37) (hP _ pt_M_37_31) dX12_drawn_78 ?_
      refine g_iload hC dX12_drawn_81 rfl ?_
      refine g_iload hC dX12_drawn_83 rfl ?_
      have hin := hw.1
      replace hw := hw.2
      refine g_iastS (k := (Int32.toNatClampNeg v107)) hC (hT _ tg_M_53) rfl hin dX12_drawn_85 ?_
      refine g_iinc (v := x4 + 1) (lv' := [(4, .int (x4 + 1)), (6, .int v108), (5, .int v107), (3, .int ((x3 * 1103515245) + 12345)), (0, .ref (xB X + 37)), (1, .int x1)]) hC dX12_drawn_86 rfl rfl (hN 4 (by decide)) rfl ?_
      refine g_goto (tgt := 16) hC dX12_drawn_89 rfl ?_
      refine mG.pick (lv' := [(0, .ref (xB X + 37)), (1, .int x1), (3, .int ((x3 * 1103515245) + 12345)), (4, .int (x4 + 1))]) [4, 5, 3, 0] rfl ?_
      exact ih _ _ _ _ hw
def w_X12_drawn (σ : Mem) (x1 : Int32) (x2 : Int32) (Q : Int32 → Mem → Prop) : Prop := w_X12_isLayer σ x1 (fun v101 s103 => (¬ v101 = 0 → (∃ m104 : Nat, w_X12_drawn_16 Q m104 x1 x2 0 s103)) ∧ (v101 = 0 → (Q (-2) s103)))
set_option maxRecDepth 4000 in
set_option maxHeartbeats 2000000 in
theorem t_X12_drawn {X : Cx} {d : Nat} (hC : mOK X cX12_drawn RX12 "drawn" (some .int) d 0 0) (hd : 5 ≤ d) (hN : ∀ i, i < 7 → i < xN X) (hP : ∀ e ∈ psM, e ∈ xP X) (hT : ∀ e ∈ tsM, e ∈ xT X) {σ : Mem} {x1 : Int32} {x2 : Int32} {Q : Int32 → Mem → Prop} (hw : w_X12_drawn σ x1 x2 Q) : mG X 0 [(0, .ref (xB X + 37)), (1, .int x1), (2, .int x2)] [] σ 0 0 (mQ X 0 0 (qI Q)) := by
  refine g_aload_n hC dX12_drawn_0 rfl ?_
  refine g_iload_n hC dX12_drawn_1 rfl ?_
  refine g_known (fun hS => ?_)
  refine mG.st (st1 := ([.int x1] : List Value).reverse ++ .ref (xB X + 37) :: []) rfl ?_
  refine g_callV (As := [.int x1]) (st := []) hC (hS.2 _ (hT _ tg_M_37)) (by decide) ycl_12_X12_isLayer yw_X12_isLayer yv_X12_isLayer tw_480 dX12_drawn_2 (fun _ h => h) (fun _ h => h) (fun h => h) (c_X12_isLayer (d := 1) (Nat.le_refl _) hP hT hw) rfl (Nat.le_of_ble_eq_true rfl) (by omega) (by decide) (by decide) (kI fun v101 s103 hw => ?_)
  refine g_if_ne (tgt := 11) hC dX12_drawn_5 rfl (fun c => ?_) (fun c => ?_)
  · replace hw := hw.1 c
    refine g_iload_n hC dX12_drawn_11 rfl ?_
    refine g_istore_n (lv' := [(3, .int x2), (0, .ref (xB X + 37)), (1, .int x1), (2, .int x2)]) hC dX12_drawn_12 (hN 3 (by decide)) rfl ?_
    refine g_iconst (v := 0) hC dX12_drawn_13 (by decide) ?_
    refine g_istore (lv' := [(4, .int 0), (3, .int x2), (0, .ref (xB X + 37)), (1, .int x1), (2, .int x2)]) hC dX12_drawn_14 (hN 4 (by decide)) rfl ?_
    refine mG.pick (lv' := [(0, .ref (xB X + 37)), (1, .int x1), (3, .int x2), (4, .int 0)]) [2, 3, 1, 0] rfl ?_
    obtain ⟨m104, hw⟩ := hw
    exact t_X12_drawn_16 hC hd hN hP hT m104 _ _ _ _ hw
  · replace hw := hw.2 c
    refine g_bipush (v := (-2)) hC dX12_drawn_8 (by decide) ?_
    exact g_iret hC rfl (by decide) (by decide) dX12_drawn_10 (fun _ => ⟨_, rfl, hw⟩)
set_option maxRecDepth 4000 in
theorem c_X12_drawn {Z : Fx} {ps ts : List (Nat × Nat × Nat)} {d : Nat} (hd : 5 ≤ d) (hP : ∀ e ∈ psM, e ∈ ps) (hT : ∀ e ∈ tsM, e ∈ ts) {σ : Mem} {x1 : Int32} {x2 : Int32} {Q : Int32 → Mem → Prop} (hw : w_X12_drawn σ x1 x2 Q) : mM Z ps ts yX12_drawn cX12_drawn 7 (some .int) d 0 0 [.ref (Z.2.2 + 37), .int x1, .int x2] σ (qI Q) := by
  refine mM.of (by decide) (Nat.le_of_ble_eq_true rfl) rfl (fun X hZ hp ht hn hC => ?_)
  subst hZ; subst hp; subst ht
  exact t_X12_drawn hC hd (fun i h => by rw [hn]; exact h) hP hT hw
def w_X12_isSheet (σ : Mem) (x0 : Int32) (Q : Int32 → Mem → Prop) : Prop := w_X12_isIn σ x0 0 3 (fun v101 s103 => bz v101 ∧ Q v101 s103)
set_option maxRecDepth 4000 in
set_option maxHeartbeats 2000000 in
theorem t_X12_isSheet {X : Cx} {d : Nat} (hC : mOK X cX12_isSheet RX12 "isSheet" (some .boolean) d 0 0) (hd : 1 ≤ d) (hN : ∀ i, i < 1 → i < xN X) {σ : Mem} {x0 : Int32} {Q : Int32 → Mem → Prop} (hw : w_X12_isSheet σ x0 Q) : mG X 0 [(0, .int x0)] [] σ 0 0 (mQ X 0 0 (qI Q)) := by
  refine g_iload_n hC dX12_isSheet_0 rfl ?_
  refine g_iconst (v := 0) hC dX12_isSheet_1 (by decide) ?_
  refine g_iconst (v := 3) hC dX12_isSheet_2 (by decide) ?_
  refine mG.st (st1 := ([.int x0, .int 0, .int 3] : List Value).reverse ++ []) rfl ?_
  refine g_callS (As := [.int x0, .int 0, .int 3]) (st := []) hC yw_X12_isIn ys_X12_isIn tw_465 dX12_isSheet_3 (fun _ h => h) (fun _ h => h) (fun h => h) (c_X12_isIn (d := 0) (Nat.le_refl _) hw) rfl (Nat.le_of_ble_eq_true rfl) (by omega) (by decide) (by decide) (kI fun v101 s103 hw => ?_)
  exact g_iret hC hw.1 (by decide) (by decide) dX12_isSheet_6 (fun _ => ⟨_, rfl, hw.2⟩)
set_option maxRecDepth 4000 in
theorem c_X12_isSheet {Z : Fx} {ps ts : List (Nat × Nat × Nat)} {d : Nat} (hd : 1 ≤ d) {σ : Mem} {x0 : Int32} {Q : Int32 → Mem → Prop} (hw : w_X12_isSheet σ x0 Q) : mM Z ps ts yX12_isSheet cX12_isSheet 1 (some .boolean) d 0 0 [.int x0] σ (qI Q) := by
  refine mM.of (by decide) (Nat.le_of_ble_eq_true rfl) rfl (fun X hZ hp ht hn hC => ?_)
  subst hZ; subst hp; subst ht
  exact t_X12_isSheet hC hd (fun i h => by rw [hn]; exact h) hw
def w_X12_judge_90 (Q : Int32 → Mem → Prop) (K29 : Int32 → Int32 → Mem → Prop) (x1 : Int32) (x2 : Int32) (x3 : Int32) (σ : Mem) : Prop := w_X12_put σ x2 x3 (fun s103 => K29 x1 (x2 + 1) s103)
set_option maxRecDepth 4000 in
set_option maxHeartbeats 2000000 in
theorem t_X12_judge_90 {X : Cx} {d : Nat} (hC : mOK X cX12_judge RX12 "judge" (some .int) d 0 0) (hd : 3 ≤ d) (hN : ∀ i, i < 4 → i < xN X) (hP : ∀ e ∈ psM, e ∈ xP X) (hT : ∀ e ∈ tsM, e ∈ xT X) {Q : Int32 → Mem → Prop} {K29 : Int32 → Int32 → Mem → Prop} (hK29 : ∀ (x1 : Int32) (x2 : Int32) (s : Mem), K29 x1 x2 s → mG X 29 [(0, .ref (xB X + 37)), (1, .int x1), (2, .int x2)] [] s 0 0 (mQ X 0 0 (qI Q))) {x1 : Int32} {x2 : Int32} {x3 : Int32} {σ : Mem} (hw : w_X12_judge_90 Q K29 x1 x2 x3 σ) : mG X 90 [(0, .ref (xB X + 37)), (1, .int x1), (2, .int x2), (3, .int x3)] [] σ 0 0 (mQ X 0 0 (qI Q)) := by
  refine g_aload_n hC dX12_judge_90 rfl ?_
  refine g_iload_n hC dX12_judge_91 rfl ?_
  refine g_iload_n hC dX12_judge_92 rfl ?_
  refine g_known (fun hS => ?_)
  refine mG.st (st1 := ([.int x2, .int x3] : List Value).reverse ++ .ref (xB X + 37) :: []) rfl ?_
  refine g_callV (As := [.int x2, .int x3]) (st := []) hC (hS.2 _ (hT _ tg_M_37)) (by decide) ycl_12_X12_put yw_X12_put yv_X12_put tw_610 dX12_judge_93 (fun _ h => h) (fun _ h => h) (fun h => h) (c_X12_put (d := 0) (Nat.le_refl _) hP hT hw) rfl (Nat.le_of_ble_eq_true rfl) (by omega) (by decide) (by decide) (kV fun s103 hw => ?_)
  refine g_iinc (v := x2 + 1) (lv' := [(2, .int (x2 + 1)), (0, .ref (xB X + 37)), (1, .int x1), (3, .int x3)]) hC dX12_judge_96 rfl rfl (hN 2 (by decide)) rfl ?_
  refine g_goto (tgt := 29) hC dX12_judge_99 rfl ?_
  refine mG.pick (lv' := [(0, .ref (xB X + 37)), (1, .int x1), (2, .int (x2 + 1))]) [1, 2, 0] rfl ?_
  exact hK29 _ _ _ hw
def w_X12_judge_29 (Q : Int32 → Mem → Prop) : Nat → Int32 → Int32 → Mem → Prop
  | 0, _, _, _ => False
  | n + 1, x1, x2, σ => vp_in x1 4 ∧ (((mI σ 65 (Int32.toNatClampNeg x1)) ≤ x2 → (Q (-1) σ)) ∧ (¬ (mI σ 65 (Int32.toNatClampNeg x1)) ≤ x2 → (vp_in ((40 * x1) + x2) 160 ∧ (∀ v101 : Int32, v101 = (mI σ 66 (Int32.toNatClampNeg ((40 * x1) + x2))) → (((mI σ 37 0) ≤ x2 → (Q x2 σ)) ∧ (¬ (mI σ 37 0) ≤ x2 → (w_X12_isIn σ v101 0 (mI σ 37 28) (fun v102 s104 => (v102 = 0 → (Q x2 s104)) ∧ (¬ v102 = 0 → (((mI s104 37 28) ≤ v101 → (w_X12_judge_90 Q (fun z0 z1 z2 => w_X12_judge_29 Q n z0 z1 z2) x1 x2 v101 s104)) ∧ (¬ (mI s104 37 28) ≤ v101 → (w_X12_mayLie s104 x2 v101 (fun v105 s107 => (¬ v105 = 0 → (w_X12_judge_90 Q (fun z0 z1 z2 => w_X12_judge_29 Q n z0 z1 z2) x1 x2 v101 s107)) ∧ (v105 = 0 → (Q x2 s107)))))))))))))))
set_option maxRecDepth 4000 in
set_option maxHeartbeats 2000000 in
theorem t_X12_judge_29 {X : Cx} {d : Nat} (hC : mOK X cX12_judge RX12 "judge" (some .int) d 0 0) (hd : 3 ≤ d) (hN : ∀ i, i < 4 → i < xN X) (hP : ∀ e ∈ psM, e ∈ xP X) (hT : ∀ e ∈ tsM, e ∈ xT X) {Q : Int32 → Mem → Prop} : ∀ (n : Nat) (x1 : Int32) (x2 : Int32) (σ : Mem), w_X12_judge_29 Q n x1 x2 σ → mG X 29 [(0, .ref (xB X + 37)), (1, .int x1), (2, .int x2)] [] σ 0 0 (mQ X 0 0 (qI Q)) := by
  intro n
  induction n with
  | zero => intro x1 x2 σ hw; exact False.elim hw
  | succ n ih =>
    intro x1 x2 σ hw
    rw [w_X12_judge_29] at hw
    refine g_iload_n hC dX12_judge_29 rfl ?_
    refine g_aload_n hC dX12_judge_30 rfl ?_
    refine g_getrS hC fl_X12_212_12.s (hT _ tg_M_37) (hP _ pt_M_37_57) dX12_judge_31 ?_
    refine g_iload_n hC dX12_judge_34 rfl ?_
    refine g_ialdSv (v := (mI σ 65 (Int32.toNatClampNeg x1))) hC (hT _ tg_M_65) rfl hw.1 rfl dX12_judge_35 ?_
    replace hw := hw.2
    refine g_icmp_ge (tgt := 102) hC dX12_judge_36 rfl (fun c => ?_) (fun c => ?_)
    · replace hw := hw.1 c
      refine g_iconst (v := (-1)) hC dX12_judge_102 (by decide) ?_
      exact g_iret hC rfl (by decide) (by decide) dX12_judge_103 (fun _ => ⟨_, rfl, hw⟩)
    · replace hw := hw.2 c
      refine g_aload_n hC dX12_judge_39 rfl ?_
      refine g_getrS hC fl_X12_215_12.s (hT _ tg_M_37) (hP _ pt_M_37_58) dX12_judge_40 ?_
      refine g_bipush (v := 40) hC dX12_judge_43 (by decide) ?_
      refine g_iload_n hC dX12_judge_45 rfl ?_
      refine g_imul hC dX12_judge_46 ?_
      refine g_iload_n hC dX12_judge_47 rfl ?_
      refine g_iadd hC dX12_judge_48 ?_
      refine g_ialdSv (v := (mI σ 66 (Int32.toNatClampNeg ((40 * x1) + x2)))) hC (hT _ tg_M_66) rfl hw.1 rfl dX12_judge_49 ?_
      replace hw := hw.2
      refine g_topi (fun v101 ev101 => ?_)
      replace hw := hw v101 ev101
      refine g_istore_n (lv' := [(3, .int v101), (0, .ref (xB X + 37)), (1, .int x1), (2, .int x2)]) hC dX12_judge_50 (hN 3 (by decide)) rfl ?_
      refine g_iload_n hC dX12_judge_51 rfl ?_
      refine g_aload_n hC dX12_judge_52 rfl ?_
      refine g_getiSv (v := (mI σ 37 0)) hC fl_X12_1_12.s (hT _ tg_M_37) rfl dX12_judge_53 ?_
      refine g_icmp_ge (tgt := 88) hC dX12_judge_56 rfl (fun c => ?_) (fun c => ?_)
      · replace hw := hw.1 c
        refine g_iload_n hC dX12_judge_88 rfl ?_
        exact g_iret hC rfl (by decide) (by decide) dX12_judge_89 (fun _ => ⟨_, rfl, hw⟩)
      · replace hw := hw.2 c
        refine g_iload_n hC dX12_judge_59 rfl ?_
        refine g_iconst (v := 0) hC dX12_judge_60 (by decide) ?_
        refine g_aload_n hC dX12_judge_61 rfl ?_
        refine g_getiSv (v := (mI σ 37 28)) hC fl_X12_225_12.s (hT _ tg_M_37) rfl dX12_judge_62 ?_
        refine mG.st (st1 := ([.int v101, .int 0, .int (mI σ 37 28)] : List Value).reverse ++ []) rfl ?_
        refine g_callS (As := [.int v101, .int 0, .int (mI σ 37 28)]) (st := []) hC yw_X12_isIn ys_X12_isIn tw_465 dX12_judge_65 (fun _ h => h) (fun _ h => h) (fun h => h) (c_X12_isIn (d := 0) (Nat.le_refl _) hw) rfl (Nat.le_of_ble_eq_true rfl) (by omega) (by decide) (by decide) (kI fun v102 s104 hw => ?_)
        refine g_if_eq (tgt := 88) hC dX12_judge_68 rfl (fun c => ?_) (fun c => ?_)
        · replace hw := hw.1 c
          refine g_iload_n hC dX12_judge_88 rfl ?_
          exact g_iret hC rfl (by decide) (by decide) dX12_judge_89 (fun _ => ⟨_, rfl, hw⟩)
        · replace hw := hw.2 c
          refine g_iload_n hC dX12_judge_71 rfl ?_
          refine g_aload_n hC dX12_judge_72 rfl ?_
          refine g_getiSv (v := (mI s104 37 28)) hC fl_X12_225_12.s (hT _ tg_M_37) rfl dX12_judge_73 ?_
          refine g_icmp_ge (tgt := 90) hC dX12_judge_76 rfl (fun c => ?_) (fun c => ?_)
          · replace hw := hw.1 c
            refine mG.pick (lv' := [(0, .ref (xB X + 37)), (1, .int x1), (2, .int x2), (3, .int v101)]) [1, 2, 3, 0] rfl ?_
            exact t_X12_judge_90 hC hd hN hP hT ih hw
          · replace hw := hw.2 c
            refine g_aload_n hC dX12_judge_79 rfl ?_
            refine g_iload_n hC dX12_judge_80 rfl ?_
            refine g_iload_n hC dX12_judge_81 rfl ?_
            refine g_known (fun hS => ?_)
            refine mG.st (st1 := ([.int x2, .int v101] : List Value).reverse ++ .ref (xB X + 37) :: []) rfl ?_
            refine g_callV (As := [.int x2, .int v101]) (st := []) hC (hS.2 _ (hT _ tg_M_37)) (by decide) ycl_12_X12_mayLie yw_X12_mayLie yv_X12_mayLie tw_594 dX12_judge_82 (fun _ h => h) (fun _ h => h) (fun h => h) (c_X12_mayLie (d := 2) (Nat.le_refl _) hP hT hw) rfl (Nat.le_of_ble_eq_true rfl) (by omega) (by decide) (by decide) (kI fun v105 s107 hw => ?_)
            refine g_if_ne (tgt := 90) hC dX12_judge_85 rfl (fun c => ?_) (fun c => ?_)
            · replace hw := hw.1 c
              refine mG.pick (lv' := [(0, .ref (xB X + 37)), (1, .int x1), (2, .int x2), (3, .int v101)]) [1, 2, 3, 0] rfl ?_
              exact t_X12_judge_90 hC hd hN hP hT ih hw
            · replace hw := hw.2 c
              refine g_iload_n hC dX12_judge_88 rfl ?_
              exact g_iret hC rfl (by decide) (by decide) dX12_judge_89 (fun _ => ⟨_, rfl, hw⟩)
def w_X12_judge (σ : Mem) (x1 : Int32) (Q : Int32 → Mem → Prop) : Prop := w_X12_isSheet σ x1 (fun v101 s103 => (¬ v101 = 0 → (vp_in x1 4 ∧ ((0 ≤ (mI s103 64 (Int32.toNatClampNeg x1)) → (∃ m104 : Nat, w_X12_judge_29 Q m104 x1 0 (sI s103 37 28 0))) ∧ (¬ 0 ≤ (mI s103 64 (Int32.toNatClampNeg x1)) → (Q (-11) s103))))) ∧ (v101 = 0 → (Q (-2) s103)))
set_option maxRecDepth 4000 in
set_option maxHeartbeats 2000000 in
theorem t_X12_judge {X : Cx} {d : Nat} (hC : mOK X cX12_judge RX12 "judge" (some .int) d 0 0) (hd : 3 ≤ d) (hN : ∀ i, i < 4 → i < xN X) (hP : ∀ e ∈ psM, e ∈ xP X) (hT : ∀ e ∈ tsM, e ∈ xT X) {σ : Mem} {x1 : Int32} {Q : Int32 → Mem → Prop} (hw : w_X12_judge σ x1 Q) : mG X 0 [(0, .ref (xB X + 37)), (1, .int x1)] [] σ 0 0 (mQ X 0 0 (qI Q)) := by
  refine g_iload_n hC dX12_judge_0 rfl ?_
  refine mG.st (st1 := ([.int x1] : List Value).reverse ++ []) rfl ?_
  refine g_callS (As := [.int x1]) (st := []) hC yw_X12_isSheet ys_X12_isSheet tw_673 dX12_judge_1 (fun _ h => h) (fun _ h => h) (fun h => h) (c_X12_isSheet (d := 1) (Nat.le_refl _) hw) rfl (Nat.le_of_ble_eq_true rfl) (by omega) (by decide) (by decide) (kI fun v101 s103 hw => ?_)
  refine g_if_ne (tgt := 10) hC dX12_judge_4 rfl (fun c => ?_) (fun c => ?_)
  · replace hw := hw.1 c
    refine g_aload_n hC dX12_judge_10 rfl ?_
    refine g_getrS hC fl_X12_209_12.s (hT _ tg_M_37) (hP _ pt_M_37_56) dX12_judge_11 ?_
    refine g_iload_n hC dX12_judge_14 rfl ?_
    refine g_ialdSv (v := (mI s103 64 (Int32.toNatClampNeg x1))) hC (hT _ tg_M_64) rfl hw.1 rfl dX12_judge_15 ?_
    replace hw := hw.2
    refine g_if_ge (tgt := 22) hC dX12_judge_16 rfl (fun c => ?_) (fun c => ?_)
    · replace hw := hw.1 c
      refine g_aload_n hC dX12_judge_22 rfl ?_
      refine g_iconst (v := 0) hC dX12_judge_23 (by decide) ?_
      refine g_putIS hC (fw_X12_225_12 _) (hT _ tg_M_37) rfl rfl dX12_judge_24 ?_
      refine g_iconst (v := 0) hC dX12_judge_27 (by decide) ?_
      refine g_istore_n (lv' := [(2, .int 0), (0, .ref (xB X + 37)), (1, .int x1)]) hC dX12_judge_28 (hN 2 (by decide)) rfl ?_
      refine mG.pick (lv' := [(0, .ref (xB X + 37)), (1, .int x1), (2, .int 0)]) [1, 2, 0] rfl ?_
      obtain ⟨m104, hw⟩ := hw
      exact t_X12_judge_29 hC hd hN hP hT m104 _ _ _ hw
    · replace hw := hw.2 c
      refine g_bipush (v := (-11)) hC dX12_judge_19 (by decide) ?_
      exact g_iret hC rfl (by decide) (by decide) dX12_judge_21 (fun _ => ⟨_, rfl, hw⟩)
  · replace hw := hw.2 c
    refine g_bipush (v := (-2)) hC dX12_judge_7 (by decide) ?_
    exact g_iret hC rfl (by decide) (by decide) dX12_judge_9 (fun _ => ⟨_, rfl, hw⟩)
set_option maxRecDepth 4000 in
theorem c_X12_judge {Z : Fx} {ps ts : List (Nat × Nat × Nat)} {d : Nat} (hd : 3 ≤ d) (hP : ∀ e ∈ psM, e ∈ ps) (hT : ∀ e ∈ tsM, e ∈ ts) {σ : Mem} {x1 : Int32} {Q : Int32 → Mem → Prop} (hw : w_X12_judge σ x1 Q) : mM Z ps ts yX12_judge cX12_judge 4 (some .int) d 0 0 [.ref (Z.2.2 + 37), .int x1] σ (qI Q) := by
  refine mM.of (by decide) (Nat.le_of_ble_eq_true rfl) rfl (fun X hZ hp ht hn hC => ?_)
  subst hZ; subst hp; subst ht
  exact t_X12_judge hC hd (fun i h => by rw [hn]; exact h) hP hT hw
def w_X12_stranger_123 (Q : Int32 → Mem → Prop) (K42 : Int32 → Int32 → Int32 → Mem → Prop) (x1 : Int32) (x3 : Int32) (xy0 : Int32) (xy1 : Int32) (σ : Mem) : Prop := K42 x1 (xy1 ||| xy0) (x3 + 1) σ
set_option maxRecDepth 4000 in
set_option maxHeartbeats 2000000 in
theorem t_X12_stranger_123 {X : Cx} {d : Nat} (hC : mOK X cX12_stranger RX12 "stranger" (some .int) d 0 0) (hd : 5 ≤ d) (hN : ∀ i, i < 6 → i < xN X) (hP : ∀ e ∈ psM, e ∈ xP X) (hT : ∀ e ∈ tsM, e ∈ xT X) {Q : Int32 → Mem → Prop} {K42 : Int32 → Int32 → Int32 → Mem → Prop} (hK42 : ∀ (x1 : Int32) (x2 : Int32) (x3 : Int32) (s : Mem), K42 x1 x2 x3 s → mG X 42 [(0, .ref (xB X + 37)), (1, .int x1), (2, .int x2), (3, .int x3)] [] s 0 0 (mQ X 0 0 (qI Q))) {x1 : Int32} {x3 : Int32} {xy0 : Int32} {xy1 : Int32} {σ : Mem} (hw : w_X12_stranger_123 Q K42 x1 x3 xy0 xy1 σ) : mG X 123 [(0, .ref (xB X + 37)), (1, .int x1), (3, .int x3)] [.int xy0, .int xy1] σ 0 0 (mQ X 0 0 (qI Q)) := by
  refine g_ior hC dX12_stranger_123 ?_
  refine g_istore_n (lv' := [(2, .int (xy1 ||| xy0)), (0, .ref (xB X + 37)), (1, .int x1), (3, .int x3)]) hC dX12_stranger_124 (hN 2 (by decide)) rfl ?_
  refine g_iinc (v := x3 + 1) (lv' := [(3, .int (x3 + 1)), (2, .int (xy1 ||| xy0)), (0, .ref (xB X + 37)), (1, .int x1)]) hC dX12_stranger_125 rfl rfl (hN 3 (by decide)) rfl ?_
  refine g_goto (tgt := 42) hC dX12_stranger_128 rfl ?_
  refine mG.pick (lv' := [(0, .ref (xB X + 37)), (1, .int x1), (2, .int (xy1 ||| xy0)), (3, .int (x3 + 1))]) [2, 3, 1, 0] rfl ?_
  exact hK42 _ _ _ _ hw
def w_X12_stranger_102 (Q : Int32 → Mem → Prop) (K42 : Int32 → Int32 → Int32 → Mem → Prop) (K61 : Int32 → Int32 → Int32 → Int32 → Int32 → Mem → Prop) (x1 : Int32) (x2 : Int32) (x3 : Int32) (x5 : Int32) (xy0 : Int32) (σ : Mem) : Prop := K61 x1 x2 x3 xy0 (x5 + 1) σ
set_option maxRecDepth 4000 in
set_option maxHeartbeats 2000000 in
theorem t_X12_stranger_102 {X : Cx} {d : Nat} (hC : mOK X cX12_stranger RX12 "stranger" (some .int) d 0 0) (hd : 5 ≤ d) (hN : ∀ i, i < 6 → i < xN X) (hP : ∀ e ∈ psM, e ∈ xP X) (hT : ∀ e ∈ tsM, e ∈ xT X) {Q : Int32 → Mem → Prop} {K42 : Int32 → Int32 → Int32 → Mem → Prop} {K61 : Int32 → Int32 → Int32 → Int32 → Int32 → Mem → Prop} (hK42 : ∀ (x1 : Int32) (x2 : Int32) (x3 : Int32) (s : Mem), K42 x1 x2 x3 s → mG X 42 [(0, .ref (xB X + 37)), (1, .int x1), (2, .int x2), (3, .int x3)] [] s 0 0 (mQ X 0 0 (qI Q))) (hK61 : ∀ (x1 : Int32) (x2 : Int32) (x3 : Int32) (x4 : Int32) (x5 : Int32) (s : Mem), K61 x1 x2 x3 x4 x5 s → mG X 61 [(0, .ref (xB X + 37)), (1, .int x1), (2, .int x2), (3, .int x3), (4, .int x4), (5, .int x5)] [] s 0 0 (mQ X 0 0 (qI Q))) {x1 : Int32} {x2 : Int32} {x3 : Int32} {x5 : Int32} {xy0 : Int32} {σ : Mem} (hw : w_X12_stranger_102 Q K42 K61 x1 x2 x3 x5 xy0 σ) : mG X 102 [(0, .ref (xB X + 37)), (1, .int x1), (2, .int x2), (3, .int x3), (5, .int x5)] [.int xy0] σ 0 0 (mQ X 0 0 (qI Q)) := by
  refine g_istore (lv' := [(4, .int xy0), (0, .ref (xB X + 37)), (1, .int x1), (2, .int x2), (3, .int x3), (5, .int x5)]) hC dX12_stranger_102 (hN 4 (by decide)) rfl ?_
  refine g_iinc (v := x5 + 1) (lv' := [(5, .int (x5 + 1)), (4, .int xy0), (0, .ref (xB X + 37)), (1, .int x1), (2, .int x2), (3, .int x3)]) hC dX12_stranger_104 rfl rfl (hN 5 (by decide)) rfl ?_
  refine g_goto (tgt := 61) hC dX12_stranger_107 rfl ?_
  refine mG.pick (lv' := [(0, .ref (xB X + 37)), (1, .int x1), (2, .int x2), (3, .int x3), (4, .int xy0), (5, .int (x5 + 1))]) [2, 3, 4, 5, 1, 0] rfl ?_
  exact hK61 _ _ _ _ _ _ hw
def w_X12_stranger_101 (Q : Int32 → Mem → Prop) (K42 : Int32 → Int32 → Int32 → Mem → Prop) (K61 : Int32 → Int32 → Int32 → Int32 → Int32 → Mem → Prop) (x1 : Int32) (x2 : Int32) (x3 : Int32) (x5 : Int32) (σ : Mem) : Prop := w_X12_stranger_102 Q K42 K61 x1 x2 x3 x5 0 σ
set_option maxRecDepth 4000 in
set_option maxHeartbeats 2000000 in
theorem t_X12_stranger_101 {X : Cx} {d : Nat} (hC : mOK X cX12_stranger RX12 "stranger" (some .int) d 0 0) (hd : 5 ≤ d) (hN : ∀ i, i < 6 → i < xN X) (hP : ∀ e ∈ psM, e ∈ xP X) (hT : ∀ e ∈ tsM, e ∈ xT X) {Q : Int32 → Mem → Prop} {K42 : Int32 → Int32 → Int32 → Mem → Prop} {K61 : Int32 → Int32 → Int32 → Int32 → Int32 → Mem → Prop} (hK42 : ∀ (x1 : Int32) (x2 : Int32) (x3 : Int32) (s : Mem), K42 x1 x2 x3 s → mG X 42 [(0, .ref (xB X + 37)), (1, .int x1), (2, .int x2), (3, .int x3)] [] s 0 0 (mQ X 0 0 (qI Q))) (hK61 : ∀ (x1 : Int32) (x2 : Int32) (x3 : Int32) (x4 : Int32) (x5 : Int32) (s : Mem), K61 x1 x2 x3 x4 x5 s → mG X 61 [(0, .ref (xB X + 37)), (1, .int x1), (2, .int x2), (3, .int x3), (4, .int x4), (5, .int x5)] [] s 0 0 (mQ X 0 0 (qI Q))) {x1 : Int32} {x2 : Int32} {x3 : Int32} {x5 : Int32} {σ : Mem} (hw : w_X12_stranger_101 Q K42 K61 x1 x2 x3 x5 σ) : mG X 101 [(0, .ref (xB X + 37)), (1, .int x1), (2, .int x2), (3, .int x3), (5, .int x5)] [] σ 0 0 (mQ X 0 0 (qI Q)) := by
  refine g_iconst (v := 0) hC dX12_stranger_101 (by decide) ?_
  refine mG.pick (lv' := [(0, .ref (xB X + 37)), (1, .int x1), (2, .int x2), (3, .int x3), (5, .int x5)]) [0, 1, 2, 3, 4] rfl ?_
  exact t_X12_stranger_102 hC hd hN hP hT hK42 hK61 hw
def w_X12_stranger_61 (Q : Int32 → Mem → Prop) (K42 : Int32 → Int32 → Int32 → Mem → Prop) : Nat → Int32 → Int32 → Int32 → Int32 → Int32 → Mem → Prop
  | 0, _, _, _, _, _, _ => False
  | n + 1, x1, x2, x3, x4, x5, σ => ((mI σ 37 0) ≤ x5 → ((x4 = 0 → (w_X12_stranger_123 Q K42 x1 x3 0 x2 σ)) ∧ (¬ x4 = 0 → (w_X12_stranger_123 Q K42 x1 x3 ((1 : Int32) <<< (x3 &&& 31)) x2 σ)))) ∧ (¬ (mI σ 37 0) ≤ x5 → ((x4 = 0 → (w_X12_stranger_101 Q K42 (fun z0 z1 z2 z3 z4 z5 => w_X12_stranger_61 Q K42 n z0 z1 z2 z3 z4 z5) x1 x2 x3 x5 σ)) ∧ (¬ x4 = 0 → (vp_in ((40 * x1) + x5) 160 ∧ (vp_in x5 8 ∧ ((¬ (mI σ 66 (Int32.toNatClampNeg ((40 * x1) + x5))) = (mI σ 54 (Int32.toNatClampNeg x5)) → (w_X12_stranger_101 Q K42 (fun z0 z1 z2 z3 z4 z5 => w_X12_stranger_61 Q K42 n z0 z1 z2 z3 z4 z5) x1 x2 x3 x5 σ)) ∧ ((mI σ 66 (Int32.toNatClampNeg ((40 * x1) + x5))) = (mI σ 54 (Int32.toNatClampNeg x5)) → (w_X12_stranger_102 Q K42 (fun z0 z1 z2 z3 z4 z5 => w_X12_stranger_61 Q K42 n z0 z1 z2 z3 z4 z5) x1 x2 x3 x5 1 σ))))))))
set_option maxRecDepth 4000 in
set_option maxHeartbeats 2000000 in
theorem t_X12_stranger_61 {X : Cx} {d : Nat} (hC : mOK X cX12_stranger RX12 "stranger" (some .int) d 0 0) (hd : 5 ≤ d) (hN : ∀ i, i < 6 → i < xN X) (hP : ∀ e ∈ psM, e ∈ xP X) (hT : ∀ e ∈ tsM, e ∈ xT X) {Q : Int32 → Mem → Prop} {K42 : Int32 → Int32 → Int32 → Mem → Prop} (hK42 : ∀ (x1 : Int32) (x2 : Int32) (x3 : Int32) (s : Mem), K42 x1 x2 x3 s → mG X 42 [(0, .ref (xB X + 37)), (1, .int x1), (2, .int x2), (3, .int x3)] [] s 0 0 (mQ X 0 0 (qI Q))) : ∀ (n : Nat) (x1 : Int32) (x2 : Int32) (x3 : Int32) (x4 : Int32) (x5 : Int32) (σ : Mem), w_X12_stranger_61 Q K42 n x1 x2 x3 x4 x5 σ → mG X 61 [(0, .ref (xB X + 37)), (1, .int x1), (2, .int x2), (3, .int x3), (4, .int x4), (5, .int x5)] [] σ 0 0 (mQ X 0 0 (qI Q)) := by
  intro n
  induction n with
  | zero => intro x1 x2 x3 x4 x5 σ hw; exact False.elim hw
  | succ n ih =>
    intro x1 x2 x3 x4 x5 σ hw
    rw [w_X12_stranger_61] at hw
    refine g_iload hC dX12_stranger_61 rfl ?_
    refine g_aload_n hC dX12_stranger_63 rfl ?_
    refine g_getiSv (v := (mI σ 37 0)) hC fl_X12_1_12.s (hT _ tg_M_37) rfl dX12_stranger_64 ?_
    refine g_icmp_ge (tgt := 110) hC dX12_stranger_67 rfl (fun c => ?_) (fun c => ?_)
    · replace hw := hw.1 c
      refine g_iload_n hC dX12_stranger_110 rfl ?_
      refine g_iload hC dX12_stranger_111 rfl ?_
      refine g_if_eq (tgt := 122) hC dX12_stranger_113 rfl (fun c => ?_) (fun c => ?_)
      · replace hw := hw.1 c
        refine g_iconst (v := 0) hC dX12_stranger_122 (by decide) ?_
        refine mG.pick (lv' := [(0, .ref (xB X + 37)), (1, .int x1), (3, .int x3)]) [0, 1, 3] rfl ?_
        exact t_X12_stranger_123 hC hd hN hP hT hK42 hw
      · replace hw := hw.2 c
        refine g_iconst (v := 1) hC dX12_stranger_116 (by decide) ?_
        refine g_iload_n hC dX12_stranger_117 rfl ?_
        refine g_ishl hC dX12_stranger_118 ?_
        refine g_goto (tgt := 123) hC dX12_stranger_119 rfl ?_
        refine mG.pick (lv' := [(0, .ref (xB X + 37)), (1, .int x1), (3, .int x3)]) [0, 1, 3] rfl ?_
        exact t_X12_stranger_123 hC hd hN hP hT hK42 hw
    · replace hw := hw.2 c
      refine g_iload hC dX12_stranger_70 rfl ?_
      refine g_if_eq (tgt := 101) hC dX12_stranger_72 rfl (fun c => ?_) (fun c => ?_)
      · replace hw := hw.1 c
        refine mG.pick (lv' := [(0, .ref (xB X + 37)), (1, .int x1), (2, .int x2), (3, .int x3), (5, .int x5)]) [0, 1, 2, 3, 5] rfl ?_
        exact t_X12_stranger_101 hC hd hN hP hT hK42 ih hw
      · replace hw := hw.2 c
        refine g_aload_n hC dX12_stranger_75 rfl ?_
        refine g_getrS hC fl_X12_215_12.s (hT _ tg_M_37) (hP _ pt_M_37_58) dX12_stranger_76 ?_
        refine g_bipush (v := 40) hC dX12_stranger_79 (by decide) ?_
        refine g_iload_n hC dX12_stranger_81 rfl ?_
        refine g_imul hC dX12_stranger_82 ?_
        refine g_iload hC dX12_stranger_83 rfl ?_
        refine g_iadd hC dX12_stranger_85 ?_
        refine g_ialdSv (v := (mI σ 66 (Int32.toNatClampNeg ((40 * x1) + x5)))) hC (hT _ tg_M_66) rfl hw.1 rfl dX12_stranger_86 ?_
        replace hw := hw.2
        refine g_aload_n hC dX12_stranger_87 rfl ?_
        refine g_getrS hC fl_X12_179_12.s (hT _ tg_M_37) (hP _ pt_M_37_32) dX12_stranger_88 ?_
        refine g_iload hC dX12_stranger_91 rfl ?_
        refine g_ialdSv (v := (mI σ 54 (Int32.toNatClampNeg x5))) hC (hT _ tg_M_54) rfl hw.1 rfl dX12_stranger_93 ?_
        replace hw := hw.2
        refine g_icmp_ne (tgt := 101) hC dX12_stranger_94 rfl (fun c => ?_) (fun c => ?_)
        · replace hw := hw.1 c
          refine mG.pick (lv' := [(0, .ref (xB X + 37)), (1, .int x1), (2, .int x2), (3, .int x3), (5, .int x5)]) [0, 1, 2, 3, 5] rfl ?_
          exact t_X12_stranger_101 hC hd hN hP hT hK42 ih hw
        · replace hw := hw.2 c
          refine g_iconst (v := 1) hC dX12_stranger_97 (by decide) ?_
          refine g_goto (tgt := 102) hC dX12_stranger_98 rfl ?_
          refine mG.pick (lv' := [(0, .ref (xB X + 37)), (1, .int x1), (2, .int x2), (3, .int x3), (5, .int x5)]) [0, 1, 2, 3, 5] rfl ?_
          exact t_X12_stranger_102 hC hd hN hP hT hK42 ih hw
def w_X12_stranger_42 (Q : Int32 → Mem → Prop) : Nat → Int32 → Int32 → Int32 → Mem → Prop
  | 0, _, _, _, _ => False
  | n + 1, x1, x2, x3, σ => ((mI σ 37 3) ≤ x3 → (Q x2 σ)) ∧ (¬ (mI σ 37 3) ≤ x3 → (w_X12_layAll σ x3 (fun s103 => ∃ m104 : Nat, w_X12_stranger_61 Q (fun z0 z1 z2 z3 => w_X12_stranger_42 Q n z0 z1 z2 z3) m104 x1 x2 x3 1 0 s103)))
set_option maxRecDepth 4000 in
set_option maxHeartbeats 2000000 in
theorem t_X12_stranger_42 {X : Cx} {d : Nat} (hC : mOK X cX12_stranger RX12 "stranger" (some .int) d 0 0) (hd : 5 ≤ d) (hN : ∀ i, i < 6 → i < xN X) (hP : ∀ e ∈ psM, e ∈ xP X) (hT : ∀ e ∈ tsM, e ∈ xT X) {Q : Int32 → Mem → Prop} : ∀ (n : Nat) (x1 : Int32) (x2 : Int32) (x3 : Int32) (σ : Mem), w_X12_stranger_42 Q n x1 x2 x3 σ → mG X 42 [(0, .ref (xB X + 37)), (1, .int x1), (2, .int x2), (3, .int x3)] [] σ 0 0 (mQ X 0 0 (qI Q)) := by
  intro n
  induction n with
  | zero => intro x1 x2 x3 σ hw; exact False.elim hw
  | succ n ih =>
    intro x1 x2 x3 σ hw
    rw [w_X12_stranger_42] at hw
    refine g_iload_n hC dX12_stranger_42 rfl ?_
    refine g_aload_n hC dX12_stranger_43 rfl ?_
    refine g_getiSv (v := (mI σ 37 3)) hC fl_X12_11_12.s (hT _ tg_M_37) rfl dX12_stranger_44 ?_
    refine g_icmp_ge (tgt := 131) hC dX12_stranger_47 rfl (fun c => ?_) (fun c => ?_)
    · replace hw := hw.1 c
      refine g_iload_n hC dX12_stranger_131 rfl ?_
      exact g_iret hC rfl (by decide) (by decide) dX12_stranger_132 (fun _ => ⟨_, rfl, hw⟩)
    · replace hw := hw.2 c
      refine g_aload_n hC dX12_stranger_50 rfl ?_
      refine g_iload_n hC dX12_stranger_51 rfl ?_
      refine g_known (fun hS => ?_)
      refine mG.st (st1 := ([.int x3] : List Value).reverse ++ .ref (xB X + 37) :: []) rfl ?_
      refine g_callV (As := [.int x3]) (st := []) hC (hS.2 _ (hT _ tg_M_37)) (by decide) ycl_12_X12_layAll yw_X12_layAll yv_X12_layAll tw_614 dX12_stranger_52 (fun _ h => h) (fun _ h => h) (fun h => h) (c_X12_layAll (d := 4) (Nat.le_refl _) hP hT hw) rfl (Nat.le_of_ble_eq_true rfl) (by omega) (by decide) (by decide) (kV fun s103 hw => ?_)
      refine g_iconst (v := 1) hC dX12_stranger_55 (by decide) ?_
      refine g_istore (lv' := [(4, .int 1), (0, .ref (xB X + 37)), (1, .int x1), (2, .int x2), (3, .int x3)]) hC dX12_stranger_56 (hN 4 (by decide)) rfl ?_
      refine g_iconst (v := 0) hC dX12_stranger_58 (by decide) ?_
      refine g_istore (lv' := [(5, .int 0), (4, .int 1), (0, .ref (xB X + 37)), (1, .int x1), (2, .int x2), (3, .int x3)]) hC dX12_stranger_59 (hN 5 (by decide)) rfl ?_
      refine mG.pick (lv' := [(0, .ref (xB X + 37)), (1, .int x1), (2, .int x2), (3, .int x3), (4, .int 1), (5, .int 0)]) [2, 3, 4, 5, 1, 0] rfl ?_
      obtain ⟨m104, hw⟩ := hw
      exact t_X12_stranger_61 hC hd hN hP hT ih m104 _ _ _ _ _ _ hw
def w_X12_stranger (σ : Mem) (x1 : Int32) (Q : Int32 → Mem → Prop) : Prop := w_X12_isSheet σ x1 (fun v101 s103 => (¬ v101 = 0 → (vp_in x1 4 ∧ ((0 ≤ (mI s103 64 (Int32.toNatClampNeg x1)) → (vp_in x1 4 ∧ (((mI s103 65 (Int32.toNatClampNeg x1)) = (mI s103 37 0) → (∃ m104 : Nat, w_X12_stranger_42 Q m104 x1 0 0 s103)) ∧ (¬ (mI s103 65 (Int32.toNatClampNeg x1)) = (mI s103 37 0) → (Q (-2) s103))))) ∧ (¬ 0 ≤ (mI s103 64 (Int32.toNatClampNeg x1)) → (Q (-11) s103))))) ∧ (v101 = 0 → (Q (-2) s103)))
set_option maxRecDepth 4000 in
set_option maxHeartbeats 2000000 in
theorem t_X12_stranger {X : Cx} {d : Nat} (hC : mOK X cX12_stranger RX12 "stranger" (some .int) d 0 0) (hd : 5 ≤ d) (hN : ∀ i, i < 6 → i < xN X) (hP : ∀ e ∈ psM, e ∈ xP X) (hT : ∀ e ∈ tsM, e ∈ xT X) {σ : Mem} {x1 : Int32} {Q : Int32 → Mem → Prop} (hw : w_X12_stranger σ x1 Q) : mG X 0 [(0, .ref (xB X + 37)), (1, .int x1)] [] σ 0 0 (mQ X 0 0 (qI Q)) := by
  refine g_iload_n hC dX12_stranger_0 rfl ?_
  refine mG.st (st1 := ([.int x1] : List Value).reverse ++ []) rfl ?_
  refine g_callS (As := [.int x1]) (st := []) hC yw_X12_isSheet ys_X12_isSheet tw_673 dX12_stranger_1 (fun _ h => h) (fun _ h => h) (fun h => h) (c_X12_isSheet (d := 1) (Nat.le_refl _) hw) rfl (Nat.le_of_ble_eq_true rfl) (by omega) (by decide) (by decide) (kI fun v101 s103 hw => ?_)
  refine g_if_ne (tgt := 10) hC dX12_stranger_4 rfl (fun c => ?_) (fun c => ?_)
  · replace hw := hw.1 c
    refine g_aload_n hC dX12_stranger_10 rfl ?_
    refine g_getrS hC fl_X12_209_12.s (hT _ tg_M_37) (hP _ pt_M_37_56) dX12_stranger_11 ?_
    refine g_iload_n hC dX12_stranger_14 rfl ?_
    refine g_ialdSv (v := (mI s103 64 (Int32.toNatClampNeg x1))) hC (hT _ tg_M_64) rfl hw.1 rfl dX12_stranger_15 ?_
    replace hw := hw.2
    refine g_if_ge (tgt := 22) hC dX12_stranger_16 rfl (fun c => ?_) (fun c => ?_)
    · replace hw := hw.1 c
      refine g_aload_n hC dX12_stranger_22 rfl ?_
      refine g_getrS hC fl_X12_212_12.s (hT _ tg_M_37) (hP _ pt_M_37_57) dX12_stranger_23 ?_
      refine g_iload_n hC dX12_stranger_26 rfl ?_
      refine g_ialdSv (v := (mI s103 65 (Int32.toNatClampNeg x1))) hC (hT _ tg_M_65) rfl hw.1 rfl dX12_stranger_27 ?_
      replace hw := hw.2
      refine g_aload_n hC dX12_stranger_28 rfl ?_
      refine g_getiSv (v := (mI s103 37 0)) hC fl_X12_1_12.s (hT _ tg_M_37) rfl dX12_stranger_29 ?_
      refine g_icmp_eq (tgt := 38) hC dX12_stranger_32 rfl (fun c => ?_) (fun c => ?_)
      · replace hw := hw.1 c
        refine g_iconst (v := 0) hC dX12_stranger_38 (by decide) ?_
        refine g_istore_n (lv' := [(2, .int 0), (0, .ref (xB X + 37)), (1, .int x1)]) hC dX12_stranger_39 (hN 2 (by decide)) rfl ?_
        refine g_iconst (v := 0) hC dX12_stranger_40 (by decide) ?_
        refine g_istore_n (lv' := [(3, .int 0), (2, .int 0), (0, .ref (xB X + 37)), (1, .int x1)]) hC dX12_stranger_41 (hN 3 (by decide)) rfl ?_
        refine mG.pick (lv' := [(0, .ref (xB X + 37)), (1, .int x1), (2, .int 0), (3, .int 0)]) [2, 3, 1, 0] rfl ?_
        obtain ⟨m104, hw⟩ := hw
        exact t_X12_stranger_42 hC hd hN hP hT m104 _ _ _ _ hw
      · replace hw := hw.2 c
        refine g_bipush (v := (-2)) hC dX12_stranger_35 (by decide) ?_
        exact g_iret hC rfl (by decide) (by decide) dX12_stranger_37 (fun _ => ⟨_, rfl, hw⟩)
    · replace hw := hw.2 c
      refine g_bipush (v := (-11)) hC dX12_stranger_19 (by decide) ?_
      exact g_iret hC rfl (by decide) (by decide) dX12_stranger_21 (fun _ => ⟨_, rfl, hw⟩)
  · replace hw := hw.2 c
    refine g_bipush (v := (-2)) hC dX12_stranger_7 (by decide) ?_
    exact g_iret hC rfl (by decide) (by decide) dX12_stranger_9 (fun _ => ⟨_, rfl, hw⟩)
set_option maxRecDepth 4000 in
theorem c_X12_stranger {Z : Fx} {ps ts : List (Nat × Nat × Nat)} {d : Nat} (hd : 5 ≤ d) (hP : ∀ e ∈ psM, e ∈ ps) (hT : ∀ e ∈ tsM, e ∈ ts) {σ : Mem} {x1 : Int32} {Q : Int32 → Mem → Prop} (hw : w_X12_stranger σ x1 Q) : mM Z ps ts yX12_stranger cX12_stranger 6 (some .int) d 0 0 [.ref (Z.2.2 + 37), .int x1] σ (qI Q) := by
  refine mM.of (by decide) (Nat.le_of_ble_eq_true rfl) rfl (fun X hZ hp ht hn hC => ?_)
  subst hZ; subst hp; subst ht
  exact t_X12_stranger hC hd (fun i h => by rw [hn]; exact h) hP hT hw
def w_X12_move_60_51_2 (Q : Mem → Prop) : Nat → Int32 → Mem → Prop
  | 0, _, _ => False
  | n + 1, x2, σ => (8 ≤ x2 → (Q σ)) ∧ (¬ 8 ≤ x2 → (vp_in x2 8 ∧ (∀ v101 : Int32, v101 = (mI σ 60 (Int32.toNatClampNeg x2)) → (vp_in x2 8 ∧ (w_X12_move_60_51_2 Q n (x2 + 1) (sI σ 51 (Int32.toNatClampNeg x2) v101))))))
set_option maxRecDepth 4000 in
set_option maxHeartbeats 2000000 in
theorem t_X12_move_60_51_2 {X : Cx} {d : Nat} (hC : mOK X cX12_move RX12 "move" none d 0 0) (hd : 0 ≤ d) (hN : ∀ i, i < 3 → i < xN X) (hP : ∀ e ∈ psM, e ∈ xP X) (hT : ∀ e ∈ tsM, e ∈ xT X) {Q : Mem → Prop} : ∀ (n : Nat) (x2 : Int32) (σ : Mem), w_X12_move_60_51_2 Q n x2 σ → mG X 2 [(0, .ref (xB X + 60)), (1, .ref (xB X + 51)), (2, .int x2)] [] σ 0 0 (mQ X 0 0 (qV Q)) := by
  intro n
  induction n with
  | zero => intro x2 σ hw; exact False.elim hw
  | succ n ih =>
    intro x2 σ hw
    rw [w_X12_move_60_51_2] at hw
    refine g_iload_n hC dX12_move_2 rfl ?_
    refine g_aload_n hC dX12_move_3 rfl ?_
    refine g_alenS hC (hT _ tg_M_60) (by decide) (by decide) dX12_move_4 ?_
    refine mG.st (st1 := [.int 8, .int x2]) rfl ?_
    refine g_icmp_ge (tgt := 20) hC dX12_move_5 rfl (fun c => ?_) (fun c => ?_)
    · replace hw := hw.1 c
      exact g_vret hC (by decide) (by decide) dX12_move_20 (fun _ => ⟨rfl, hw⟩)
    · replace hw := hw.2 c
      refine g_aload_n hC dX12_move_8 rfl ?_
      refine g_iload_n hC dX12_move_9 rfl ?_
      refine g_aload_n hC dX12_move_10 rfl ?_
      refine g_iload_n hC dX12_move_11 rfl ?_
      refine g_ialdSv (v := (mI σ 60 (Int32.toNatClampNeg x2))) hC (hT _ tg_M_60) rfl hw.1 rfl dX12_move_12 ?_
      replace hw := hw.2
      refine g_topi (fun v101 ev101 => ?_)
      replace hw := hw v101 ev101
      have hin := hw.1
      replace hw := hw.2
      refine g_iastS (k := (Int32.toNatClampNeg x2)) hC (hT _ tg_M_51) rfl hin dX12_move_13 ?_
      refine g_iinc (v := x2 + 1) (lv' := [(2, .int (x2 + 1)), (0, .ref (xB X + 60)), (1, .ref (xB X + 51))]) hC dX12_move_14 rfl rfl (hN 2 (by decide)) rfl ?_
      refine g_goto (tgt := 2) hC dX12_move_17 rfl ?_
      refine mG.pick (lv' := [(0, .ref (xB X + 60)), (1, .ref (xB X + 51)), (2, .int (x2 + 1))]) [1, 2, 0] rfl ?_
      exact ih _ _ hw
def w_X12_move_60_51 (σ : Mem) (Q : Mem → Prop) : Prop := ∃ m101 : Nat, w_X12_move_60_51_2 Q m101 0 σ
set_option maxRecDepth 4000 in
set_option maxHeartbeats 2000000 in
theorem t_X12_move_60_51 {X : Cx} {d : Nat} (hC : mOK X cX12_move RX12 "move" none d 0 0) (hd : 0 ≤ d) (hN : ∀ i, i < 3 → i < xN X) (hP : ∀ e ∈ psM, e ∈ xP X) (hT : ∀ e ∈ tsM, e ∈ xT X) {σ : Mem} {Q : Mem → Prop} (hw : w_X12_move_60_51 σ Q) : mG X 0 [(0, .ref (xB X + 60)), (1, .ref (xB X + 51))] [] σ 0 0 (mQ X 0 0 (qV Q)) := by
  refine g_iconst (v := 0) hC dX12_move_0 (by decide) ?_
  refine g_istore_n (lv' := [(2, .int 0), (0, .ref (xB X + 60)), (1, .ref (xB X + 51))]) hC dX12_move_1 (hN 2 (by decide)) rfl ?_
  refine mG.pick (lv' := [(0, .ref (xB X + 60)), (1, .ref (xB X + 51)), (2, .int 0)]) [1, 2, 0] rfl ?_
  obtain ⟨m101, hw⟩ := hw
  exact t_X12_move_60_51_2 hC hd hN hP hT m101 _ _ hw
set_option maxRecDepth 4000 in
theorem c_X12_move_60_51 {Z : Fx} {ps ts : List (Nat × Nat × Nat)} {d : Nat} (hd : 0 ≤ d) (hP : ∀ e ∈ psM, e ∈ ps) (hT : ∀ e ∈ tsM, e ∈ ts) {σ : Mem} {Q : Mem → Prop} (hw : w_X12_move_60_51 σ Q) : mM Z ps ts yX12_move cX12_move 3 none d 0 0 [.ref (Z.2.2 + 60), .ref (Z.2.2 + 51)] σ (qV Q) := by
  refine mM.of (by decide) (Nat.le_of_ble_eq_true rfl) rfl (fun X hZ hp ht hn hC => ?_)
  subst hZ; subst hp; subst ht
  exact t_X12_move_60_51 hC hd (fun i h => by rw [hn]; exact h) hP hT hw
def w_X12_move_61_52_2 (Q : Mem → Prop) : Nat → Int32 → Mem → Prop
  | 0, _, _ => False
  | n + 1, x2, σ => (64 ≤ x2 → (Q σ)) ∧ (¬ 64 ≤ x2 → (vp_in x2 64 ∧ (∀ v101 : Int32, v101 = (mI σ 61 (Int32.toNatClampNeg x2)) → (vp_in x2 64 ∧ (w_X12_move_61_52_2 Q n (x2 + 1) (sI σ 52 (Int32.toNatClampNeg x2) v101))))))
set_option maxRecDepth 4000 in
set_option maxHeartbeats 2000000 in
theorem t_X12_move_61_52_2 {X : Cx} {d : Nat} (hC : mOK X cX12_move RX12 "move" none d 0 0) (hd : 0 ≤ d) (hN : ∀ i, i < 3 → i < xN X) (hP : ∀ e ∈ psM, e ∈ xP X) (hT : ∀ e ∈ tsM, e ∈ xT X) {Q : Mem → Prop} : ∀ (n : Nat) (x2 : Int32) (σ : Mem), w_X12_move_61_52_2 Q n x2 σ → mG X 2 [(0, .ref (xB X + 61)), (1, .ref (xB X + 52)), (2, .int x2)] [] σ 0 0 (mQ X 0 0 (qV Q)) := by
  intro n
  induction n with
  | zero => intro x2 σ hw; exact False.elim hw
  | succ n ih =>
    intro x2 σ hw
    rw [w_X12_move_61_52_2] at hw
    refine g_iload_n hC dX12_move_2 rfl ?_
    refine g_aload_n hC dX12_move_3 rfl ?_
    refine g_alenS hC (hT _ tg_M_61) (by decide) (by decide) dX12_move_4 ?_
    refine mG.st (st1 := [.int 64, .int x2]) rfl ?_
    refine g_icmp_ge (tgt := 20) hC dX12_move_5 rfl (fun c => ?_) (fun c => ?_)
    · replace hw := hw.1 c
      exact g_vret hC (by decide) (by decide) dX12_move_20 (fun _ => ⟨rfl, hw⟩)
    · replace hw := hw.2 c
      refine g_aload_n hC dX12_move_8 rfl ?_
      refine g_iload_n hC dX12_move_9 rfl ?_
      refine g_aload_n hC dX12_move_10 rfl ?_
      refine g_iload_n hC dX12_move_11 rfl ?_
      refine g_ialdSv (v := (mI σ 61 (Int32.toNatClampNeg x2))) hC (hT _ tg_M_61) rfl hw.1 rfl dX12_move_12 ?_
      replace hw := hw.2
      refine g_topi (fun v101 ev101 => ?_)
      replace hw := hw v101 ev101
      have hin := hw.1
      replace hw := hw.2
      refine g_iastS (k := (Int32.toNatClampNeg x2)) hC (hT _ tg_M_52) rfl hin dX12_move_13 ?_
      refine g_iinc (v := x2 + 1) (lv' := [(2, .int (x2 + 1)), (0, .ref (xB X + 61)), (1, .ref (xB X + 52))]) hC dX12_move_14 rfl rfl (hN 2 (by decide)) rfl ?_
      refine g_goto (tgt := 2) hC dX12_move_17 rfl ?_
      refine mG.pick (lv' := [(0, .ref (xB X + 61)), (1, .ref (xB X + 52)), (2, .int (x2 + 1))]) [1, 2, 0] rfl ?_
      exact ih _ _ hw
def w_X12_move_61_52 (σ : Mem) (Q : Mem → Prop) : Prop := ∃ m101 : Nat, w_X12_move_61_52_2 Q m101 0 σ
set_option maxRecDepth 4000 in
set_option maxHeartbeats 2000000 in
theorem t_X12_move_61_52 {X : Cx} {d : Nat} (hC : mOK X cX12_move RX12 "move" none d 0 0) (hd : 0 ≤ d) (hN : ∀ i, i < 3 → i < xN X) (hP : ∀ e ∈ psM, e ∈ xP X) (hT : ∀ e ∈ tsM, e ∈ xT X) {σ : Mem} {Q : Mem → Prop} (hw : w_X12_move_61_52 σ Q) : mG X 0 [(0, .ref (xB X + 61)), (1, .ref (xB X + 52))] [] σ 0 0 (mQ X 0 0 (qV Q)) := by
  refine g_iconst (v := 0) hC dX12_move_0 (by decide) ?_
  refine g_istore_n (lv' := [(2, .int 0), (0, .ref (xB X + 61)), (1, .ref (xB X + 52))]) hC dX12_move_1 (hN 2 (by decide)) rfl ?_
  refine mG.pick (lv' := [(0, .ref (xB X + 61)), (1, .ref (xB X + 52)), (2, .int 0)]) [1, 2, 0] rfl ?_
  obtain ⟨m101, hw⟩ := hw
  exact t_X12_move_61_52_2 hC hd hN hP hT m101 _ _ hw
set_option maxRecDepth 4000 in
theorem c_X12_move_61_52 {Z : Fx} {ps ts : List (Nat × Nat × Nat)} {d : Nat} (hd : 0 ≤ d) (hP : ∀ e ∈ psM, e ∈ ps) (hT : ∀ e ∈ tsM, e ∈ ts) {σ : Mem} {Q : Mem → Prop} (hw : w_X12_move_61_52 σ Q) : mM Z ps ts yX12_move cX12_move 3 none d 0 0 [.ref (Z.2.2 + 61), .ref (Z.2.2 + 52)] σ (qV Q) := by
  refine mM.of (by decide) (Nat.le_of_ble_eq_true rfl) rfl (fun X hZ hp ht hn hC => ?_)
  subst hZ; subst hp; subst ht
  exact t_X12_move_61_52 hC hd (fun i h => by rw [hn]; exact h) hP hT hw
def w_X12_move_51_60_2 (Q : Mem → Prop) : Nat → Int32 → Mem → Prop
  | 0, _, _ => False
  | n + 1, x2, σ => (8 ≤ x2 → (Q σ)) ∧ (¬ 8 ≤ x2 → (vp_in x2 8 ∧ (∀ v101 : Int32, v101 = (mI σ 51 (Int32.toNatClampNeg x2)) → (vp_in x2 8 ∧ (w_X12_move_51_60_2 Q n (x2 + 1) (sI σ 60 (Int32.toNatClampNeg x2) v101))))))
set_option maxRecDepth 4000 in
set_option maxHeartbeats 2000000 in
theorem t_X12_move_51_60_2 {X : Cx} {d : Nat} (hC : mOK X cX12_move RX12 "move" none d 0 0) (hd : 0 ≤ d) (hN : ∀ i, i < 3 → i < xN X) (hP : ∀ e ∈ psM, e ∈ xP X) (hT : ∀ e ∈ tsM, e ∈ xT X) {Q : Mem → Prop} : ∀ (n : Nat) (x2 : Int32) (σ : Mem), w_X12_move_51_60_2 Q n x2 σ → mG X 2 [(0, .ref (xB X + 51)), (1, .ref (xB X + 60)), (2, .int x2)] [] σ 0 0 (mQ X 0 0 (qV Q)) := by
  intro n
  induction n with
  | zero => intro x2 σ hw; exact False.elim hw
  | succ n ih =>
    intro x2 σ hw
    rw [w_X12_move_51_60_2] at hw
    refine g_iload_n hC dX12_move_2 rfl ?_
    refine g_aload_n hC dX12_move_3 rfl ?_
    refine g_alenS hC (hT _ tg_M_51) (by decide) (by decide) dX12_move_4 ?_
    refine mG.st (st1 := [.int 8, .int x2]) rfl ?_
    refine g_icmp_ge (tgt := 20) hC dX12_move_5 rfl (fun c => ?_) (fun c => ?_)
    · replace hw := hw.1 c
      exact g_vret hC (by decide) (by decide) dX12_move_20 (fun _ => ⟨rfl, hw⟩)
    · replace hw := hw.2 c
      refine g_aload_n hC dX12_move_8 rfl ?_
      refine g_iload_n hC dX12_move_9 rfl ?_
      refine g_aload_n hC dX12_move_10 rfl ?_
      refine g_iload_n hC dX12_move_11 rfl ?_
      refine g_ialdSv (v := (mI σ 51 (Int32.toNatClampNeg x2))) hC (hT _ tg_M_51) rfl hw.1 rfl dX12_move_12 ?_
      replace hw := hw.2
      refine g_topi (fun v101 ev101 => ?_)
      replace hw := hw v101 ev101
      have hin := hw.1
      replace hw := hw.2
      refine g_iastS (k := (Int32.toNatClampNeg x2)) hC (hT _ tg_M_60) rfl hin dX12_move_13 ?_
      refine g_iinc (v := x2 + 1) (lv' := [(2, .int (x2 + 1)), (0, .ref (xB X + 51)), (1, .ref (xB X + 60))]) hC dX12_move_14 rfl rfl (hN 2 (by decide)) rfl ?_
      refine g_goto (tgt := 2) hC dX12_move_17 rfl ?_
      refine mG.pick (lv' := [(0, .ref (xB X + 51)), (1, .ref (xB X + 60)), (2, .int (x2 + 1))]) [1, 2, 0] rfl ?_
      exact ih _ _ hw
def w_X12_move_51_60 (σ : Mem) (Q : Mem → Prop) : Prop := ∃ m101 : Nat, w_X12_move_51_60_2 Q m101 0 σ
set_option maxRecDepth 4000 in
set_option maxHeartbeats 2000000 in
theorem t_X12_move_51_60 {X : Cx} {d : Nat} (hC : mOK X cX12_move RX12 "move" none d 0 0) (hd : 0 ≤ d) (hN : ∀ i, i < 3 → i < xN X) (hP : ∀ e ∈ psM, e ∈ xP X) (hT : ∀ e ∈ tsM, e ∈ xT X) {σ : Mem} {Q : Mem → Prop} (hw : w_X12_move_51_60 σ Q) : mG X 0 [(0, .ref (xB X + 51)), (1, .ref (xB X + 60))] [] σ 0 0 (mQ X 0 0 (qV Q)) := by
  refine g_iconst (v := 0) hC dX12_move_0 (by decide) ?_
  refine g_istore_n (lv' := [(2, .int 0), (0, .ref (xB X + 51)), (1, .ref (xB X + 60))]) hC dX12_move_1 (hN 2 (by decide)) rfl ?_
  refine mG.pick (lv' := [(0, .ref (xB X + 51)), (1, .ref (xB X + 60)), (2, .int 0)]) [1, 2, 0] rfl ?_
  obtain ⟨m101, hw⟩ := hw
  exact t_X12_move_51_60_2 hC hd hN hP hT m101 _ _ hw
set_option maxRecDepth 4000 in
theorem c_X12_move_51_60 {Z : Fx} {ps ts : List (Nat × Nat × Nat)} {d : Nat} (hd : 0 ≤ d) (hP : ∀ e ∈ psM, e ∈ ps) (hT : ∀ e ∈ tsM, e ∈ ts) {σ : Mem} {Q : Mem → Prop} (hw : w_X12_move_51_60 σ Q) : mM Z ps ts yX12_move cX12_move 3 none d 0 0 [.ref (Z.2.2 + 51), .ref (Z.2.2 + 60)] σ (qV Q) := by
  refine mM.of (by decide) (Nat.le_of_ble_eq_true rfl) rfl (fun X hZ hp ht hn hC => ?_)
  subst hZ; subst hp; subst ht
  exact t_X12_move_51_60 hC hd (fun i h => by rw [hn]; exact h) hP hT hw
def w_X12_move_52_61_2 (Q : Mem → Prop) : Nat → Int32 → Mem → Prop
  | 0, _, _ => False
  | n + 1, x2, σ => (64 ≤ x2 → (Q σ)) ∧ (¬ 64 ≤ x2 → (vp_in x2 64 ∧ (∀ v101 : Int32, v101 = (mI σ 52 (Int32.toNatClampNeg x2)) → (vp_in x2 64 ∧ (w_X12_move_52_61_2 Q n (x2 + 1) (sI σ 61 (Int32.toNatClampNeg x2) v101))))))
set_option maxRecDepth 4000 in
set_option maxHeartbeats 2000000 in
theorem t_X12_move_52_61_2 {X : Cx} {d : Nat} (hC : mOK X cX12_move RX12 "move" none d 0 0) (hd : 0 ≤ d) (hN : ∀ i, i < 3 → i < xN X) (hP : ∀ e ∈ psM, e ∈ xP X) (hT : ∀ e ∈ tsM, e ∈ xT X) {Q : Mem → Prop} : ∀ (n : Nat) (x2 : Int32) (σ : Mem), w_X12_move_52_61_2 Q n x2 σ → mG X 2 [(0, .ref (xB X + 52)), (1, .ref (xB X + 61)), (2, .int x2)] [] σ 0 0 (mQ X 0 0 (qV Q)) := by
  intro n
  induction n with
  | zero => intro x2 σ hw; exact False.elim hw
  | succ n ih =>
    intro x2 σ hw
    rw [w_X12_move_52_61_2] at hw
    refine g_iload_n hC dX12_move_2 rfl ?_
    refine g_aload_n hC dX12_move_3 rfl ?_
    refine g_alenS hC (hT _ tg_M_52) (by decide) (by decide) dX12_move_4 ?_
    refine mG.st (st1 := [.int 64, .int x2]) rfl ?_
    refine g_icmp_ge (tgt := 20) hC dX12_move_5 rfl (fun c => ?_) (fun c => ?_)
    · replace hw := hw.1 c
      exact g_vret hC (by decide) (by decide) dX12_move_20 (fun _ => ⟨rfl, hw⟩)
    · replace hw := hw.2 c
      refine g_aload_n hC dX12_move_8 rfl ?_
      refine g_iload_n hC dX12_move_9 rfl ?_
      refine g_aload_n hC dX12_move_10 rfl ?_
      refine g_iload_n hC dX12_move_11 rfl ?_
      refine g_ialdSv (v := (mI σ 52 (Int32.toNatClampNeg x2))) hC (hT _ tg_M_52) rfl hw.1 rfl dX12_move_12 ?_
      replace hw := hw.2
      refine g_topi (fun v101 ev101 => ?_)
      replace hw := hw v101 ev101
      have hin := hw.1
      replace hw := hw.2
      refine g_iastS (k := (Int32.toNatClampNeg x2)) hC (hT _ tg_M_61) rfl hin dX12_move_13 ?_
      refine g_iinc (v := x2 + 1) (lv' := [(2, .int (x2 + 1)), (0, .ref (xB X + 52)), (1, .ref (xB X + 61))]) hC dX12_move_14 rfl rfl (hN 2 (by decide)) rfl ?_
      refine g_goto (tgt := 2) hC dX12_move_17 rfl ?_
      refine mG.pick (lv' := [(0, .ref (xB X + 52)), (1, .ref (xB X + 61)), (2, .int (x2 + 1))]) [1, 2, 0] rfl ?_
      exact ih _ _ hw
def w_X12_move_52_61 (σ : Mem) (Q : Mem → Prop) : Prop := ∃ m101 : Nat, w_X12_move_52_61_2 Q m101 0 σ
set_option maxRecDepth 4000 in
set_option maxHeartbeats 2000000 in
theorem t_X12_move_52_61 {X : Cx} {d : Nat} (hC : mOK X cX12_move RX12 "move" none d 0 0) (hd : 0 ≤ d) (hN : ∀ i, i < 3 → i < xN X) (hP : ∀ e ∈ psM, e ∈ xP X) (hT : ∀ e ∈ tsM, e ∈ xT X) {σ : Mem} {Q : Mem → Prop} (hw : w_X12_move_52_61 σ Q) : mG X 0 [(0, .ref (xB X + 52)), (1, .ref (xB X + 61))] [] σ 0 0 (mQ X 0 0 (qV Q)) := by
  refine g_iconst (v := 0) hC dX12_move_0 (by decide) ?_
  refine g_istore_n (lv' := [(2, .int 0), (0, .ref (xB X + 52)), (1, .ref (xB X + 61))]) hC dX12_move_1 (hN 2 (by decide)) rfl ?_
  refine mG.pick (lv' := [(0, .ref (xB X + 52)), (1, .ref (xB X + 61)), (2, .int 0)]) [1, 2, 0] rfl ?_
  obtain ⟨m101, hw⟩ := hw
  exact t_X12_move_52_61_2 hC hd hN hP hT m101 _ _ hw
set_option maxRecDepth 4000 in
theorem c_X12_move_52_61 {Z : Fx} {ps ts : List (Nat × Nat × Nat)} {d : Nat} (hd : 0 ≤ d) (hP : ∀ e ∈ psM, e ∈ ps) (hT : ∀ e ∈ tsM, e ∈ ts) {σ : Mem} {Q : Mem → Prop} (hw : w_X12_move_52_61 σ Q) : mM Z ps ts yX12_move cX12_move 3 none d 0 0 [.ref (Z.2.2 + 52), .ref (Z.2.2 + 61)] σ (qV Q) := by
  refine mM.of (by decide) (Nat.le_of_ble_eq_true rfl) rfl (fun X hZ hp ht hn hC => ?_)
  subst hZ; subst hp; subst ht
  exact t_X12_move_52_61 hC hd (fun i h => by rw [hn]; exact h) hP hT hw
def w_X12_lay (σ : Mem) (x1 : Int32) (Q : Int32 → Mem → Prop) : Prop := w_X12_isLayer σ x1 (fun v101 s103 => (¬ v101 = 0 → ((¬ (mI s103 37 45) = (mI s103 37 0) → (w_X12_move_60_51 (sI s103 37 28 (mI s103 37 46)) (fun s106 => w_X12_move_61_52 s106 (fun s109 => w_X12_choice s109 x1 (mI s109 37 45) (fun v110 s112 => w_X12_put s112 (mI s112 37 45) v110 (fun s115 => w_X12_move_51_60 (sI (sI s115 37 45 ((mI s115 37 45) + 1)) 37 46 (mI s115 37 28)) (fun s118 => w_X12_move_52_61 s118 (fun s121 => Q v110 s121)))))))) ∧ ((mI s103 37 45) = (mI s103 37 0) → (Q (-3) s103)))) ∧ (v101 = 0 → (Q (-2) s103)))
set_option maxRecDepth 4000 in
set_option maxHeartbeats 2000000 in
theorem t_X12_lay {X : Cx} {d : Nat} (hC : mOK X cX12_lay RX12 "lay" (some .int) d 0 0) (hd : 4 ≤ d) (hN : ∀ i, i < 3 → i < xN X) (hP : ∀ e ∈ psM, e ∈ xP X) (hT : ∀ e ∈ tsM, e ∈ xT X) {σ : Mem} {x1 : Int32} {Q : Int32 → Mem → Prop} (hw : w_X12_lay σ x1 Q) : mG X 0 [(0, .ref (xB X + 37)), (1, .int x1)] [] σ 0 0 (mQ X 0 0 (qI Q)) := by
  refine g_aload_n hC dX12_lay_0 rfl ?_
  refine g_iload_n hC dX12_lay_1 rfl ?_
  refine g_known (fun hS => ?_)
  refine mG.st (st1 := ([.int x1] : List Value).reverse ++ .ref (xB X + 37) :: []) rfl ?_
  refine g_callV (As := [.int x1]) (st := []) hC (hS.2 _ (hT _ tg_M_37)) (by decide) ycl_12_X12_isLayer yw_X12_isLayer yv_X12_isLayer tw_480 dX12_lay_2 (fun _ h => h) (fun _ h => h) (fun h => h) (c_X12_isLayer (d := 1) (Nat.le_refl _) hP hT hw) rfl (Nat.le_of_ble_eq_true rfl) (by omega) (by decide) (by decide) (kI fun v101 s103 hw => ?_)
  refine g_if_ne (tgt := 11) hC dX12_lay_5 rfl (fun c => ?_) (fun c => ?_)
  · replace hw := hw.1 c
    refine g_aload_n hC dX12_lay_11 rfl ?_
    refine g_getiSv (v := (mI s103 37 45)) hC fl_X12_320_12.s (hT _ tg_M_37) rfl dX12_lay_12 ?_
    refine g_aload_n hC dX12_lay_15 rfl ?_
    refine g_getiSv (v := (mI s103 37 0)) hC fl_X12_1_12.s (hT _ tg_M_37) rfl dX12_lay_16 ?_
    refine g_icmp_ne (tgt := 25) hC dX12_lay_19 rfl (fun c => ?_) (fun c => ?_)
    · replace hw := hw.1 c
      refine g_aload_n hC dX12_lay_25 rfl ?_
      refine g_aload_n hC dX12_lay_26 rfl ?_
      refine g_getiSv (v := (mI s103 37 46)) hC fl_X12_323_12.s (hT _ tg_M_37) rfl dX12_lay_27 ?_
      refine g_putIS hC (fw_X12_225_12 _) (hT _ tg_M_37) rfl rfl dX12_lay_30 ?_
      refine g_aload_n hC dX12_lay_33 rfl ?_
      refine g_getrS hC fl_X12_197_12.s (hT _ tg_M_37) (hP _ pt_M_37_47) dX12_lay_34 ?_
      refine g_aload_n hC dX12_lay_37 rfl ?_
      refine g_getrS hC fl_X12_170_12.s (hT _ tg_M_37) (hP _ pt_M_37_29) dX12_lay_38 ?_
      refine mG.st (st1 := ([.ref (xB X + 60), .ref (xB X + 51)] : List Value).reverse ++ []) rfl ?_
      refine g_callS (As := [.ref (xB X + 60), .ref (xB X + 51)]) (st := []) hC yw_X12_move ys_X12_move tw_679 dX12_lay_41 (fun _ h => h) (fun _ h => h) (fun h => h) (c_X12_move_60_51 (d := 0) (Nat.le_refl _) hP hT hw) rfl (Nat.le_of_ble_eq_true rfl) (by omega) (by decide) (by decide) (kV fun s106 hw => ?_)
      refine g_aload_n hC dX12_lay_44 rfl ?_
      refine g_getrS hC fl_X12_200_12.s (hT _ tg_M_37) (hP _ pt_M_37_48) dX12_lay_45 ?_
      refine g_aload_n hC dX12_lay_48 rfl ?_
      refine g_getrS hC fl_X12_173_12.s (hT _ tg_M_37) (hP _ pt_M_37_30) dX12_lay_49 ?_
      refine mG.st (st1 := ([.ref (xB X + 61), .ref (xB X + 52)] : List Value).reverse ++ []) rfl ?_
      refine g_callS (As := [.ref (xB X + 61), .ref (xB X + 52)]) (st := []) hC yw_X12_move ys_X12_move tw_679 dX12_lay_52 (fun _ h => h) (fun _ h => h) (fun h => h) (c_X12_move_61_52 (d := 0) (Nat.le_refl _) hP hT hw) rfl (Nat.le_of_ble_eq_true rfl) (by omega) (by decide) (by decide) (kV fun s109 hw => ?_)
      refine g_aload_n hC dX12_lay_55 rfl ?_
      refine g_iload_n hC dX12_lay_56 rfl ?_
      refine g_aload_n hC dX12_lay_57 rfl ?_
      refine g_getiSv (v := (mI s109 37 45)) hC fl_X12_320_12.s (hT _ tg_M_37) rfl dX12_lay_58 ?_
      refine g_known (fun hS => ?_)
      refine mG.st (st1 := ([.int x1, .int (mI s109 37 45)] : List Value).reverse ++ .ref (xB X + 37) :: []) rfl ?_
      refine g_callV (As := [.int x1, .int (mI s109 37 45)]) (st := []) hC (hS.2 _ (hT _ tg_M_37)) (by decide) ycl_12_X12_choice yw_X12_choice yv_X12_choice tw_603 dX12_lay_61 (fun _ h => h) (fun _ h => h) (fun h => h) (c_X12_choice (d := 3) (Nat.le_refl _) hP hT hw) rfl (Nat.le_of_ble_eq_true rfl) (by omega) (by decide) (by decide) (kI fun v110 s112 hw => ?_)
      refine g_istore_n (lv' := [(2, .int v110), (0, .ref (xB X + 37)), (1, .int x1)]) hC dX12_lay_64 (hN 2 (by decide)) rfl ?_
      refine g_aload_n hC dX12_lay_65 rfl ?_
      refine g_aload_n hC dX12_lay_66 rfl ?_
      refine g_getiSv (v := (mI s112 37 45)) hC fl_X12_320_12.s (hT _ tg_M_37) rfl dX12_lay_67 ?_
      refine g_iload_n hC dX12_lay_70 rfl ?_
      refine g_known (fun hS => ?_)
      refine mG.st (st1 := ([.int (mI s112 37 45), .int v110] : List Value).reverse ++ .ref (xB X + 37) :: []) rfl ?_
      refine g_callV (As := [.int (mI s112 37 45), .int v110]) (st := []) hC (hS.2 _ (hT _ tg_M_37)) (by decide) ycl_12_X12_put yw_X12_put yv_X12_put tw_610 dX12_lay_71 (fun _ h => h) (fun _ h => h) (fun h => h) (c_X12_put (d := 0) (Nat.le_refl _) hP hT hw) rfl (Nat.le_of_ble_eq_true rfl) (by omega) (by decide) (by decide) (kV fun s115 hw => ?_)
      refine g_aload_n hC dX12_lay_74 rfl ?_
      refine g_dup hC dX12_lay_75 rfl ?_
      refine g_getiSv (v := (mI s115 37 45)) hC fl_X12_320_12.s (hT _ tg_M_37) rfl dX12_lay_76 ?_
      refine g_iconst (v := 1) hC dX12_lay_79 (by decide) ?_
      refine g_iadd hC dX12_lay_80 ?_
      refine g_putIS hC (fw_X12_320_12 _) (hT _ tg_M_37) rfl rfl dX12_lay_81 ?_
      refine g_aload_n hC dX12_lay_84 rfl ?_
      refine g_aload_n hC dX12_lay_85 rfl ?_
      refine g_getiSv (v := (mI s115 37 28)) hC fl_X12_225_12.s (hT _ tg_M_37) (mI_sI_k _ _ (by decide)) dX12_lay_86 ?_
      refine g_putIS hC (fw_X12_323_12 _) (hT _ tg_M_37) rfl rfl dX12_lay_89 ?_
      refine g_aload_n hC dX12_lay_92 rfl ?_
      refine g_getrS hC fl_X12_170_12.s (hT _ tg_M_37) (hP _ pt_M_37_29) dX12_lay_93 ?_
      refine g_aload_n hC dX12_lay_96 rfl ?_
      refine g_getrS hC fl_X12_197_12.s (hT _ tg_M_37) (hP _ pt_M_37_47) dX12_lay_97 ?_
      refine mG.st (st1 := ([.ref (xB X + 51), .ref (xB X + 60)] : List Value).reverse ++ []) rfl ?_
      refine g_callS (As := [.ref (xB X + 51), .ref (xB X + 60)]) (st := []) hC yw_X12_move ys_X12_move tw_679 dX12_lay_100 (fun _ h => h) (fun _ h => h) (fun h => h) (c_X12_move_51_60 (d := 0) (Nat.le_refl _) hP hT hw) rfl (Nat.le_of_ble_eq_true rfl) (by omega) (by decide) (by decide) (kV fun s118 hw => ?_)
      refine g_aload_n hC dX12_lay_103 rfl ?_
      refine g_getrS hC fl_X12_173_12.s (hT _ tg_M_37) (hP _ pt_M_37_30) dX12_lay_104 ?_
      refine g_aload_n hC dX12_lay_107 rfl ?_
      refine g_getrS hC fl_X12_200_12.s (hT _ tg_M_37) (hP _ pt_M_37_48) dX12_lay_108 ?_
      refine mG.st (st1 := ([.ref (xB X + 52), .ref (xB X + 61)] : List Value).reverse ++ []) rfl ?_
      refine g_callS (As := [.ref (xB X + 52), .ref (xB X + 61)]) (st := []) hC yw_X12_move ys_X12_move tw_679 dX12_lay_111 (fun _ h => h) (fun _ h => h) (fun h => h) (c_X12_move_52_61 (d := 0) (Nat.le_refl _) hP hT hw) rfl (Nat.le_of_ble_eq_true rfl) (by omega) (by decide) (by decide) (kV fun s121 hw => ?_)
      refine g_iload_n hC dX12_lay_114 rfl ?_
      exact g_iret hC rfl (by decide) (by decide) dX12_lay_115 (fun _ => ⟨_, rfl, hw⟩)
    · replace hw := hw.2 c
      refine g_bipush (v := (-3)) hC dX12_lay_22 (by decide) ?_
      exact g_iret hC rfl (by decide) (by decide) dX12_lay_24 (fun _ => ⟨_, rfl, hw⟩)
  · replace hw := hw.2 c
    refine g_bipush (v := (-2)) hC dX12_lay_8 (by decide) ?_
    exact g_iret hC rfl (by decide) (by decide) dX12_lay_10 (fun _ => ⟨_, rfl, hw⟩)
set_option maxRecDepth 4000 in
theorem c_X12_lay {Z : Fx} {ps ts : List (Nat × Nat × Nat)} {d : Nat} (hd : 4 ≤ d) (hP : ∀ e ∈ psM, e ∈ ps) (hT : ∀ e ∈ tsM, e ∈ ts) {σ : Mem} {x1 : Int32} {Q : Int32 → Mem → Prop} (hw : w_X12_lay σ x1 Q) : mM Z ps ts yX12_lay cX12_lay 3 (some .int) d 0 0 [.ref (Z.2.2 + 37), .int x1] σ (qI Q) := by
  refine mM.of (by decide) (Nat.le_of_ble_eq_true rfl) rfl (fun X hZ hp ht hn hC => ?_)
  subst hZ; subst hp; subst ht
  exact t_X12_lay hC hd (fun i h => by rw [hn]; exact h) hP hT hw
def w_X12_take (σ : Mem) (x1 : Int32) (Q : Int32 → Mem → Prop) : Prop := w_X12_isIn σ x1 0 ((mI σ 37 46) - 1) (fun v101 s103 => (¬ v101 = 0 → (vp_in x1 8 ∧ ((¬ (mI s103 60 (Int32.toNatClampNeg x1)) = 0 → (vp_in x1 8 ∧ (∀ v104 : Int32, v104 = ((mI s103 60 (Int32.toNatClampNeg x1)) - 1) → (vp_in x1 8 ∧ (vp_in x1 8 ∧ (vp_in ((8 * x1) + v104) 64 ∧ (Q (mI s103 61 (Int32.toNatClampNeg ((8 * x1) + v104))) (sI s103 60 (Int32.toNatClampNeg x1) v104)))))))) ∧ ((mI s103 60 (Int32.toNatClampNeg x1)) = 0 → (Q (-3) s103))))) ∧ (v101 = 0 → (Q (-2) s103)))
set_option maxRecDepth 4000 in
set_option maxHeartbeats 2000000 in
theorem t_X12_take {X : Cx} {d : Nat} (hC : mOK X cX12_take RX12 "take" (some .int) d 0 0) (hd : 1 ≤ d) (hN : ∀ i, i < 2 → i < xN X) (hP : ∀ e ∈ psM, e ∈ xP X) (hT : ∀ e ∈ tsM, e ∈ xT X) {σ : Mem} {x1 : Int32} {Q : Int32 → Mem → Prop} (hw : w_X12_take σ x1 Q) : mG X 0 [(0, .ref (xB X + 37)), (1, .int x1)] [] σ 0 0 (mQ X 0 0 (qI Q)) := by
  refine g_iload_n hC dX12_take_0 rfl ?_
  refine g_iconst (v := 0) hC dX12_take_1 (by decide) ?_
  refine g_aload_n hC dX12_take_2 rfl ?_
  refine g_getiSv (v := (mI σ 37 46)) hC fl_X12_323_12.s (hT _ tg_M_37) rfl dX12_take_3 ?_
  refine g_iconst (v := 1) hC dX12_take_6 (by decide) ?_
  refine g_isub hC dX12_take_7 ?_
  refine mG.st (st1 := ([.int x1, .int 0, .int ((mI σ 37 46) - 1)] : List Value).reverse ++ []) rfl ?_
  refine g_callS (As := [.int x1, .int 0, .int ((mI σ 37 46) - 1)]) (st := []) hC yw_X12_isIn ys_X12_isIn tw_465 dX12_take_8 (fun _ h => h) (fun _ h => h) (fun h => h) (c_X12_isIn (d := 0) (Nat.le_refl _) hw) rfl (Nat.le_of_ble_eq_true rfl) (by omega) (by decide) (by decide) (kI fun v101 s103 hw => ?_)
  refine g_if_ne (tgt := 17) hC dX12_take_11 rfl (fun c => ?_) (fun c => ?_)
  · replace hw := hw.1 c
    refine g_aload_n hC dX12_take_17 rfl ?_
    refine g_getrS hC fl_X12_197_12.s (hT _ tg_M_37) (hP _ pt_M_37_47) dX12_take_18 ?_
    refine g_iload_n hC dX12_take_21 rfl ?_
    refine g_ialdSv (v := (mI s103 60 (Int32.toNatClampNeg x1))) hC (hT _ tg_M_60) rfl hw.1 rfl dX12_take_22 ?_
    replace hw := hw.2
    refine g_if_ne (tgt := 29) hC dX12_take_23 rfl (fun c => ?_) (fun c => ?_)
    · replace hw := hw.1 c
      refine g_aload_n hC dX12_take_29 rfl ?_
      refine g_getrS hC fl_X12_197_12.s (hT _ tg_M_37) (hP _ pt_M_37_47) dX12_take_30 ?_
      refine g_iload_n hC dX12_take_33 rfl ?_
      refine g_dup2 hC dX12_take_34 rfl rfl ?_
      refine g_ialdSv (v := (mI s103 60 (Int32.toNatClampNeg x1))) hC (hT _ tg_M_60) rfl hw.1 rfl dX12_take_35 ?_
      replace hw := hw.2
      refine g_iconst (v := 1) hC dX12_take_36 (by decide) ?_
      refine g_isub hC dX12_take_37 ?_
      refine g_topi (fun v104 ev104 => ?_)
      replace hw := hw v104 ev104
      have hin := hw.1
      replace hw := hw.2
      refine g_iastS (k := (Int32.toNatClampNeg x1)) hC (hT _ tg_M_60) rfl hin dX12_take_38 ?_
      refine g_aload_n hC dX12_take_39 rfl ?_
      refine g_getrS hC fl_X12_200_12.s (hT _ tg_M_37) (hP _ pt_M_37_48) dX12_take_40 ?_
      refine g_bipush (v := 8) hC dX12_take_43 (by decide) ?_
      refine g_iload_n hC dX12_take_45 rfl ?_
      refine g_imul hC dX12_take_46 ?_
      refine g_aload_n hC dX12_take_47 rfl ?_
      refine g_getrS hC fl_X12_197_12.s (hT _ tg_M_37) (hP _ pt_M_37_47) dX12_take_48 ?_
      refine g_iload_n hC dX12_take_51 rfl ?_
      refine g_ialdSv (v := v104) hC (hT _ tg_M_60) rfl hw.1 (mI_sI_s _ _ _ _) dX12_take_52 ?_
      replace hw := hw.2
      refine g_iadd hC dX12_take_53 ?_
      refine g_ialdSv (v := (mI s103 61 (Int32.toNatClampNeg ((8 * x1) + v104)))) hC (hT _ tg_M_61) rfl hw.1 (mI_sI_n _ _ (by decide)) dX12_take_54 ?_
      replace hw := hw.2
      exact g_iret hC rfl (by decide) (by decide) dX12_take_55 (fun _ => ⟨_, rfl, hw⟩)
    · replace hw := hw.2 c
      refine g_bipush (v := (-3)) hC dX12_take_26 (by decide) ?_
      exact g_iret hC rfl (by decide) (by decide) dX12_take_28 (fun _ => ⟨_, rfl, hw⟩)
  · replace hw := hw.2 c
    refine g_bipush (v := (-2)) hC dX12_take_14 (by decide) ?_
    exact g_iret hC rfl (by decide) (by decide) dX12_take_16 (fun _ => ⟨_, rfl, hw⟩)
set_option maxRecDepth 4000 in
theorem c_X12_take {Z : Fx} {ps ts : List (Nat × Nat × Nat)} {d : Nat} (hd : 1 ≤ d) (hP : ∀ e ∈ psM, e ∈ ps) (hT : ∀ e ∈ tsM, e ∈ ts) {σ : Mem} {x1 : Int32} {Q : Int32 → Mem → Prop} (hw : w_X12_take σ x1 Q) : mM Z ps ts yX12_take cX12_take 2 (some .int) d 0 0 [.ref (Z.2.2 + 37), .int x1] σ (qI Q) := by
  refine mM.of (by decide) (Nat.le_of_ble_eq_true rfl) rfl (fun X hZ hp ht hn hC => ?_)
  subst hZ; subst hp; subst ht
  exact t_X12_take hC hd (fun i h => by rw [hn]; exact h) hP hT hw
def w_X12_on (σ : Mem) (x1 : Int32) (x2 : Int32) (Q : Int32 → Mem → Prop) : Prop := w_X12_isIn σ x1 0 ((mI σ 37 46) - 1) (fun v101 s103 => (¬ v101 = 0 → (vp_in x1 8 ∧ (w_X12_isIn s103 x2 0 ((mI s103 60 (Int32.toNatClampNeg x1)) - 1) (fun v104 s106 => (v104 = 0 → (Q (-1) s106)) ∧ (¬ v104 = 0 → (vp_in ((8 * x1) + x2) 64 ∧ (Q (mI s106 61 (Int32.toNatClampNeg ((8 * x1) + x2))) s106))))))) ∧ (v101 = 0 → (Q (-2) s103)))
set_option maxRecDepth 4000 in
set_option maxHeartbeats 2000000 in
theorem t_X12_on {X : Cx} {d : Nat} (hC : mOK X cX12_on RX12 "on" (some .int) d 0 0) (hd : 1 ≤ d) (hN : ∀ i, i < 3 → i < xN X) (hP : ∀ e ∈ psM, e ∈ xP X) (hT : ∀ e ∈ tsM, e ∈ xT X) {σ : Mem} {x1 : Int32} {x2 : Int32} {Q : Int32 → Mem → Prop} (hw : w_X12_on σ x1 x2 Q) : mG X 0 [(0, .ref (xB X + 37)), (1, .int x1), (2, .int x2)] [] σ 0 0 (mQ X 0 0 (qI Q)) := by
  refine g_iload_n hC dX12_on_0 rfl ?_
  refine g_iconst (v := 0) hC dX12_on_1 (by decide) ?_
  refine g_aload_n hC dX12_on_2 rfl ?_
  refine g_getiSv (v := (mI σ 37 46)) hC fl_X12_323_12.s (hT _ tg_M_37) rfl dX12_on_3 ?_
  refine g_iconst (v := 1) hC dX12_on_6 (by decide) ?_
  refine g_isub hC dX12_on_7 ?_
  refine mG.st (st1 := ([.int x1, .int 0, .int ((mI σ 37 46) - 1)] : List Value).reverse ++ []) rfl ?_
  refine g_callS (As := [.int x1, .int 0, .int ((mI σ 37 46) - 1)]) (st := []) hC yw_X12_isIn ys_X12_isIn tw_465 dX12_on_8 (fun _ h => h) (fun _ h => h) (fun h => h) (c_X12_isIn (d := 0) (Nat.le_refl _) hw) rfl (Nat.le_of_ble_eq_true rfl) (by omega) (by decide) (by decide) (kI fun v101 s103 hw => ?_)
  refine g_if_ne (tgt := 17) hC dX12_on_11 rfl (fun c => ?_) (fun c => ?_)
  · replace hw := hw.1 c
    refine g_iload_n hC dX12_on_17 rfl ?_
    refine g_iconst (v := 0) hC dX12_on_18 (by decide) ?_
    refine g_aload_n hC dX12_on_19 rfl ?_
    refine g_getrS hC fl_X12_197_12.s (hT _ tg_M_37) (hP _ pt_M_37_47) dX12_on_20 ?_
    refine g_iload_n hC dX12_on_23 rfl ?_
    refine g_ialdSv (v := (mI s103 60 (Int32.toNatClampNeg x1))) hC (hT _ tg_M_60) rfl hw.1 rfl dX12_on_24 ?_
    replace hw := hw.2
    refine g_iconst (v := 1) hC dX12_on_25 (by decide) ?_
    refine g_isub hC dX12_on_26 ?_
    refine mG.st (st1 := ([.int x2, .int 0, .int ((mI s103 60 (Int32.toNatClampNeg x1)) - 1)] : List Value).reverse ++ []) rfl ?_
    refine g_callS (As := [.int x2, .int 0, .int ((mI s103 60 (Int32.toNatClampNeg x1)) - 1)]) (st := []) hC yw_X12_isIn ys_X12_isIn tw_465 dX12_on_27 (fun _ h => h) (fun _ h => h) (fun h => h) (c_X12_isIn (d := 0) (Nat.le_refl _) hw) rfl (Nat.le_of_ble_eq_true rfl) (by omega) (by decide) (by decide) (kI fun v104 s106 hw => ?_)
    refine g_if_eq (tgt := 47) hC dX12_on_30 rfl (fun c => ?_) (fun c => ?_)
    · replace hw := hw.1 c
      refine g_iconst (v := (-1)) hC dX12_on_47 (by decide) ?_
      exact g_iret hC rfl (by decide) (by decide) dX12_on_48 (fun _ => ⟨_, rfl, hw⟩)
    · replace hw := hw.2 c
      refine g_aload_n hC dX12_on_33 rfl ?_
      refine g_getrS hC fl_X12_200_12.s (hT _ tg_M_37) (hP _ pt_M_37_48) dX12_on_34 ?_
      refine g_bipush (v := 8) hC dX12_on_37 (by decide) ?_
      refine g_iload_n hC dX12_on_39 rfl ?_
      refine g_imul hC dX12_on_40 ?_
      refine g_iload_n hC dX12_on_41 rfl ?_
      refine g_iadd hC dX12_on_42 ?_
      refine g_ialdSv (v := (mI s106 61 (Int32.toNatClampNeg ((8 * x1) + x2)))) hC (hT _ tg_M_61) rfl hw.1 rfl dX12_on_43 ?_
      replace hw := hw.2
      refine g_goto (tgt := 48) hC dX12_on_44 rfl ?_
      exact g_iret hC rfl (by decide) (by decide) dX12_on_48 (fun _ => ⟨_, rfl, hw⟩)
  · replace hw := hw.2 c
    refine g_bipush (v := (-2)) hC dX12_on_14 (by decide) ?_
    exact g_iret hC rfl (by decide) (by decide) dX12_on_16 (fun _ => ⟨_, rfl, hw⟩)
set_option maxRecDepth 4000 in
theorem c_X12_on {Z : Fx} {ps ts : List (Nat × Nat × Nat)} {d : Nat} (hd : 1 ≤ d) (hP : ∀ e ∈ psM, e ∈ ps) (hT : ∀ e ∈ tsM, e ∈ ts) {σ : Mem} {x1 : Int32} {x2 : Int32} {Q : Int32 → Mem → Prop} (hw : w_X12_on σ x1 x2 Q) : mM Z ps ts yX12_on cX12_on 3 (some .int) d 0 0 [.ref (Z.2.2 + 37), .int x1, .int x2] σ (qI Q) := by
  refine mM.of (by decide) (Nat.le_of_ble_eq_true rfl) rfl (fun X hZ hp ht hn hC => ?_)
  subst hZ; subst hp; subst ht
  exact t_X12_on hC hd (fun i h => by rw [hn]; exact h) hP hT hw
def w_X12_move_60_62_2 (Q : Mem → Prop) : Nat → Int32 → Mem → Prop
  | 0, _, _ => False
  | n + 1, x2, σ => (8 ≤ x2 → (Q σ)) ∧ (¬ 8 ≤ x2 → (vp_in x2 8 ∧ (∀ v101 : Int32, v101 = (mI σ 60 (Int32.toNatClampNeg x2)) → (vp_in x2 8 ∧ (w_X12_move_60_62_2 Q n (x2 + 1) (sI σ 62 (Int32.toNatClampNeg x2) v101))))))
set_option maxRecDepth 4000 in
set_option maxHeartbeats 2000000 in
theorem t_X12_move_60_62_2 {X : Cx} {d : Nat} (hC : mOK X cX12_move RX12 "move" none d 0 0) (hd : 0 ≤ d) (hN : ∀ i, i < 3 → i < xN X) (hP : ∀ e ∈ psM, e ∈ xP X) (hT : ∀ e ∈ tsM, e ∈ xT X) {Q : Mem → Prop} : ∀ (n : Nat) (x2 : Int32) (σ : Mem), w_X12_move_60_62_2 Q n x2 σ → mG X 2 [(0, .ref (xB X + 60)), (1, .ref (xB X + 62)), (2, .int x2)] [] σ 0 0 (mQ X 0 0 (qV Q)) := by
  intro n
  induction n with
  | zero => intro x2 σ hw; exact False.elim hw
  | succ n ih =>
    intro x2 σ hw
    rw [w_X12_move_60_62_2] at hw
    refine g_iload_n hC dX12_move_2 rfl ?_
    refine g_aload_n hC dX12_move_3 rfl ?_
    refine g_alenS hC (hT _ tg_M_60) (by decide) (by decide) dX12_move_4 ?_
    refine mG.st (st1 := [.int 8, .int x2]) rfl ?_
    refine g_icmp_ge (tgt := 20) hC dX12_move_5 rfl (fun c => ?_) (fun c => ?_)
    · replace hw := hw.1 c
      exact g_vret hC (by decide) (by decide) dX12_move_20 (fun _ => ⟨rfl, hw⟩)
    · replace hw := hw.2 c
      refine g_aload_n hC dX12_move_8 rfl ?_
      refine g_iload_n hC dX12_move_9 rfl ?_
      refine g_aload_n hC dX12_move_10 rfl ?_
      refine g_iload_n hC dX12_move_11 rfl ?_
      refine g_ialdSv (v := (mI σ 60 (Int32.toNatClampNeg x2))) hC (hT _ tg_M_60) rfl hw.1 rfl dX12_move_12 ?_
      replace hw := hw.2
      refine g_topi (fun v101 ev101 => ?_)
      replace hw := hw v101 ev101
      have hin := hw.1
      replace hw := hw.2
      refine g_iastS (k := (Int32.toNatClampNeg x2)) hC (hT _ tg_M_62) rfl hin dX12_move_13 ?_
      refine g_iinc (v := x2 + 1) (lv' := [(2, .int (x2 + 1)), (0, .ref (xB X + 60)), (1, .ref (xB X + 62))]) hC dX12_move_14 rfl rfl (hN 2 (by decide)) rfl ?_
      refine g_goto (tgt := 2) hC dX12_move_17 rfl ?_
      refine mG.pick (lv' := [(0, .ref (xB X + 60)), (1, .ref (xB X + 62)), (2, .int (x2 + 1))]) [1, 2, 0] rfl ?_
      exact ih _ _ hw
def w_X12_move_60_62 (σ : Mem) (Q : Mem → Prop) : Prop := ∃ m101 : Nat, w_X12_move_60_62_2 Q m101 0 σ
set_option maxRecDepth 4000 in
set_option maxHeartbeats 2000000 in
theorem t_X12_move_60_62 {X : Cx} {d : Nat} (hC : mOK X cX12_move RX12 "move" none d 0 0) (hd : 0 ≤ d) (hN : ∀ i, i < 3 → i < xN X) (hP : ∀ e ∈ psM, e ∈ xP X) (hT : ∀ e ∈ tsM, e ∈ xT X) {σ : Mem} {Q : Mem → Prop} (hw : w_X12_move_60_62 σ Q) : mG X 0 [(0, .ref (xB X + 60)), (1, .ref (xB X + 62))] [] σ 0 0 (mQ X 0 0 (qV Q)) := by
  refine g_iconst (v := 0) hC dX12_move_0 (by decide) ?_
  refine g_istore_n (lv' := [(2, .int 0), (0, .ref (xB X + 60)), (1, .ref (xB X + 62))]) hC dX12_move_1 (hN 2 (by decide)) rfl ?_
  refine mG.pick (lv' := [(0, .ref (xB X + 60)), (1, .ref (xB X + 62)), (2, .int 0)]) [1, 2, 0] rfl ?_
  obtain ⟨m101, hw⟩ := hw
  exact t_X12_move_60_62_2 hC hd hN hP hT m101 _ _ hw
set_option maxRecDepth 4000 in
theorem c_X12_move_60_62 {Z : Fx} {ps ts : List (Nat × Nat × Nat)} {d : Nat} (hd : 0 ≤ d) (hP : ∀ e ∈ psM, e ∈ ps) (hT : ∀ e ∈ tsM, e ∈ ts) {σ : Mem} {Q : Mem → Prop} (hw : w_X12_move_60_62 σ Q) : mM Z ps ts yX12_move cX12_move 3 none d 0 0 [.ref (Z.2.2 + 60), .ref (Z.2.2 + 62)] σ (qV Q) := by
  refine mM.of (by decide) (Nat.le_of_ble_eq_true rfl) rfl (fun X hZ hp ht hn hC => ?_)
  subst hZ; subst hp; subst ht
  exact t_X12_move_60_62 hC hd (fun i h => by rw [hn]; exact h) hP hT hw
def w_X12_move_61_63_2 (Q : Mem → Prop) : Nat → Int32 → Mem → Prop
  | 0, _, _ => False
  | n + 1, x2, σ => (64 ≤ x2 → (Q σ)) ∧ (¬ 64 ≤ x2 → (vp_in x2 64 ∧ (∀ v101 : Int32, v101 = (mI σ 61 (Int32.toNatClampNeg x2)) → (vp_in x2 64 ∧ (w_X12_move_61_63_2 Q n (x2 + 1) (sI σ 63 (Int32.toNatClampNeg x2) v101))))))
set_option maxRecDepth 4000 in
set_option maxHeartbeats 2000000 in
theorem t_X12_move_61_63_2 {X : Cx} {d : Nat} (hC : mOK X cX12_move RX12 "move" none d 0 0) (hd : 0 ≤ d) (hN : ∀ i, i < 3 → i < xN X) (hP : ∀ e ∈ psM, e ∈ xP X) (hT : ∀ e ∈ tsM, e ∈ xT X) {Q : Mem → Prop} : ∀ (n : Nat) (x2 : Int32) (σ : Mem), w_X12_move_61_63_2 Q n x2 σ → mG X 2 [(0, .ref (xB X + 61)), (1, .ref (xB X + 63)), (2, .int x2)] [] σ 0 0 (mQ X 0 0 (qV Q)) := by
  intro n
  induction n with
  | zero => intro x2 σ hw; exact False.elim hw
  | succ n ih =>
    intro x2 σ hw
    rw [w_X12_move_61_63_2] at hw
    refine g_iload_n hC dX12_move_2 rfl ?_
    refine g_aload_n hC dX12_move_3 rfl ?_
    refine g_alenS hC (hT _ tg_M_61) (by decide) (by decide) dX12_move_4 ?_
    refine mG.st (st1 := [.int 64, .int x2]) rfl ?_
    refine g_icmp_ge (tgt := 20) hC dX12_move_5 rfl (fun c => ?_) (fun c => ?_)
    · replace hw := hw.1 c
      exact g_vret hC (by decide) (by decide) dX12_move_20 (fun _ => ⟨rfl, hw⟩)
    · replace hw := hw.2 c
      refine g_aload_n hC dX12_move_8 rfl ?_
      refine g_iload_n hC dX12_move_9 rfl ?_
      refine g_aload_n hC dX12_move_10 rfl ?_
      refine g_iload_n hC dX12_move_11 rfl ?_
      refine g_ialdSv (v := (mI σ 61 (Int32.toNatClampNeg x2))) hC (hT _ tg_M_61) rfl hw.1 rfl dX12_move_12 ?_
      replace hw := hw.2
      refine g_topi (fun v101 ev101 => ?_)
      replace hw := hw v101 ev101
      have hin := hw.1
      replace hw := hw.2
      refine g_iastS (k := (Int32.toNatClampNeg x2)) hC (hT _ tg_M_63) rfl hin dX12_move_13 ?_
      refine g_iinc (v := x2 + 1) (lv' := [(2, .int (x2 + 1)), (0, .ref (xB X + 61)), (1, .ref (xB X + 63))]) hC dX12_move_14 rfl rfl (hN 2 (by decide)) rfl ?_
      refine g_goto (tgt := 2) hC dX12_move_17 rfl ?_
      refine mG.pick (lv' := [(0, .ref (xB X + 61)), (1, .ref (xB X + 63)), (2, .int (x2 + 1))]) [1, 2, 0] rfl ?_
      exact ih _ _ hw
def w_X12_move_61_63 (σ : Mem) (Q : Mem → Prop) : Prop := ∃ m101 : Nat, w_X12_move_61_63_2 Q m101 0 σ
set_option maxRecDepth 4000 in
set_option maxHeartbeats 2000000 in
theorem t_X12_move_61_63 {X : Cx} {d : Nat} (hC : mOK X cX12_move RX12 "move" none d 0 0) (hd : 0 ≤ d) (hN : ∀ i, i < 3 → i < xN X) (hP : ∀ e ∈ psM, e ∈ xP X) (hT : ∀ e ∈ tsM, e ∈ xT X) {σ : Mem} {Q : Mem → Prop} (hw : w_X12_move_61_63 σ Q) : mG X 0 [(0, .ref (xB X + 61)), (1, .ref (xB X + 63))] [] σ 0 0 (mQ X 0 0 (qV Q)) := by
  refine g_iconst (v := 0) hC dX12_move_0 (by decide) ?_
  refine g_istore_n (lv' := [(2, .int 0), (0, .ref (xB X + 61)), (1, .ref (xB X + 63))]) hC dX12_move_1 (hN 2 (by decide)) rfl ?_
  refine mG.pick (lv' := [(0, .ref (xB X + 61)), (1, .ref (xB X + 63)), (2, .int 0)]) [1, 2, 0] rfl ?_
  obtain ⟨m101, hw⟩ := hw
  exact t_X12_move_61_63_2 hC hd hN hP hT m101 _ _ hw
set_option maxRecDepth 4000 in
theorem c_X12_move_61_63 {Z : Fx} {ps ts : List (Nat × Nat × Nat)} {d : Nat} (hd : 0 ≤ d) (hP : ∀ e ∈ psM, e ∈ ps) (hT : ∀ e ∈ tsM, e ∈ ts) {σ : Mem} {Q : Mem → Prop} (hw : w_X12_move_61_63 σ Q) : mM Z ps ts yX12_move cX12_move 3 none d 0 0 [.ref (Z.2.2 + 61), .ref (Z.2.2 + 63)] σ (qV Q) := by
  refine mM.of (by decide) (Nat.le_of_ble_eq_true rfl) rfl (fun X hZ hp ht hn hC => ?_)
  subst hZ; subst hp; subst ht
  exact t_X12_move_61_63 hC hd (fun i h => by rw [hn]; exact h) hP hT hw
def w_X12_image (σ : Mem) (Q : Int32 → Mem → Prop) : Prop := w_X12_move_60_62 (sI (sI (sI (sI (sI σ 37 49 1) 37 50 (mI σ 37 45)) 37 51 (mI σ 37 46)) 37 52 (mI σ 37 6)) 37 53 (mI σ 37 10)) (fun s103 => w_X12_move_61_63 s103 (fun s106 => Q (mI s106 37 45) s106))
set_option maxRecDepth 4000 in
set_option maxHeartbeats 2000000 in
theorem t_X12_image {X : Cx} {d : Nat} (hC : mOK X cX12_image RX12 "image" (some .int) d 0 0) (hd : 1 ≤ d) (hN : ∀ i, i < 1 → i < xN X) (hP : ∀ e ∈ psM, e ∈ xP X) (hT : ∀ e ∈ tsM, e ∈ xT X) {σ : Mem} {Q : Int32 → Mem → Prop} (hw : w_X12_image σ Q) : mG X 0 [(0, .ref (xB X + 37))] [] σ 0 0 (mQ X 0 0 (qI Q)) := by
  refine g_aload_n hC dX12_image_0 rfl ?_
  refine g_iconst (v := 1) hC dX12_image_1 (by decide) ?_
  refine g_putIS hC (fw_X12_330_12 _) (hT _ tg_M_37) rfl rfl dX12_image_2 ?_
  refine g_aload_n hC dX12_image_5 rfl ?_
  refine g_aload_n hC dX12_image_6 rfl ?_
  refine g_getiSv (v := (mI σ 37 45)) hC fl_X12_320_12.s (hT _ tg_M_37) (mI_sI_k _ _ (by decide)) dX12_image_7 ?_
  refine g_putIS hC (fw_X12_334_12 _) (hT _ tg_M_37) rfl rfl dX12_image_10 ?_
  refine g_aload_n hC dX12_image_13 rfl ?_
  refine g_aload_n hC dX12_image_14 rfl ?_
  refine g_getiSv (v := (mI σ 37 46)) hC fl_X12_323_12.s (hT _ tg_M_37) ((mI_sI_k _ _ (by decide)).trans (mI_sI_k _ _ (by decide))) dX12_image_15 ?_
  refine g_putIS hC (fw_X12_337_12 _) (hT _ tg_M_37) rfl rfl dX12_image_18 ?_
  refine g_aload_n hC dX12_image_21 rfl ?_
  refine g_aload_n hC dX12_image_22 rfl ?_
  refine g_getiSv (v := (mI σ 37 6)) hC fl_X12_31_12.s (hT _ tg_M_37) ((mI_sI_k _ _ (by decide)).trans ((mI_sI_k _ _ (by decide)).trans (mI_sI_k _ _ (by decide)))) dX12_image_23 ?_
  refine g_putIS hC (fw_X12_340_12 _) (hT _ tg_M_37) rfl rfl dX12_image_26 ?_
  refine g_aload_n hC dX12_image_29 rfl ?_
  refine g_aload_n hC dX12_image_30 rfl ?_
  refine g_getiSv (v := (mI σ 37 10)) hC fl_X12_156_12.s (hT _ tg_M_37) ((mI_sI_k _ _ (by decide)).trans ((mI_sI_k _ _ (by decide)).trans ((mI_sI_k _ _ (by decide)).trans (mI_sI_k _ _ (by decide))))) dX12_image_31 ?_
  refine g_putIS hC (fw_X12_343_12 _) (hT _ tg_M_37) rfl rfl dX12_image_34 ?_
  refine g_aload_n hC dX12_image_37 rfl ?_
  refine g_getrS hC fl_X12_197_12.s (hT _ tg_M_37) (hP _ pt_M_37_47) dX12_image_38 ?_
  refine g_aload_n hC dX12_image_41 rfl ?_
  refine g_getrS hC fl_X12_203_12.s (hT _ tg_M_37) (hP _ pt_M_37_54) dX12_image_42 ?_
  refine mG.st (st1 := ([.ref (xB X + 60), .ref (xB X + 62)] : List Value).reverse ++ []) rfl ?_
  refine g_callS (As := [.ref (xB X + 60), .ref (xB X + 62)]) (st := []) hC yw_X12_move ys_X12_move tw_679 dX12_image_45 (fun _ h => h) (fun _ h => h) (fun h => h) (c_X12_move_60_62 (d := 0) (Nat.le_refl _) hP hT hw) rfl (Nat.le_of_ble_eq_true rfl) (by omega) (by decide) (by decide) (kV fun s103 hw => ?_)
  refine g_aload_n hC dX12_image_48 rfl ?_
  refine g_getrS hC fl_X12_200_12.s (hT _ tg_M_37) (hP _ pt_M_37_48) dX12_image_49 ?_
  refine g_aload_n hC dX12_image_52 rfl ?_
  refine g_getrS hC fl_X12_206_12.s (hT _ tg_M_37) (hP _ pt_M_37_55) dX12_image_53 ?_
  refine mG.st (st1 := ([.ref (xB X + 61), .ref (xB X + 63)] : List Value).reverse ++ []) rfl ?_
  refine g_callS (As := [.ref (xB X + 61), .ref (xB X + 63)]) (st := []) hC yw_X12_move ys_X12_move tw_679 dX12_image_56 (fun _ h => h) (fun _ h => h) (fun h => h) (c_X12_move_61_63 (d := 0) (Nat.le_refl _) hP hT hw) rfl (Nat.le_of_ble_eq_true rfl) (by omega) (by decide) (by decide) (kV fun s106 hw => ?_)
  refine g_aload_n hC dX12_image_59 rfl ?_
  refine g_getiSv (v := (mI s106 37 45)) hC fl_X12_320_12.s (hT _ tg_M_37) rfl dX12_image_60 ?_
  exact g_iret hC rfl (by decide) (by decide) dX12_image_63 (fun _ => ⟨_, rfl, hw⟩)
set_option maxRecDepth 4000 in
theorem c_X12_image {Z : Fx} {ps ts : List (Nat × Nat × Nat)} {d : Nat} (hd : 1 ≤ d) (hP : ∀ e ∈ psM, e ∈ ps) (hT : ∀ e ∈ tsM, e ∈ ts) {σ : Mem} {Q : Int32 → Mem → Prop} (hw : w_X12_image σ Q) : mM Z ps ts yX12_image cX12_image 1 (some .int) d 0 0 [.ref (Z.2.2 + 37)] σ (qI Q) := by
  refine mM.of (by decide) (Nat.le_of_ble_eq_true rfl) rfl (fun X hZ hp ht hn hC => ?_)
  subst hZ; subst hp; subst ht
  exact t_X12_image hC hd (fun i h => by rw [hn]; exact h) hP hT hw
def w_X12_move_62_60_2 (Q : Mem → Prop) : Nat → Int32 → Mem → Prop
  | 0, _, _ => False
  | n + 1, x2, σ => (8 ≤ x2 → (Q σ)) ∧ (¬ 8 ≤ x2 → (vp_in x2 8 ∧ (∀ v101 : Int32, v101 = (mI σ 62 (Int32.toNatClampNeg x2)) → (vp_in x2 8 ∧ (w_X12_move_62_60_2 Q n (x2 + 1) (sI σ 60 (Int32.toNatClampNeg x2) v101))))))
set_option maxRecDepth 4000 in
set_option maxHeartbeats 2000000 in
theorem t_X12_move_62_60_2 {X : Cx} {d : Nat} (hC : mOK X cX12_move RX12 "move" none d 0 0) (hd : 0 ≤ d) (hN : ∀ i, i < 3 → i < xN X) (hP : ∀ e ∈ psM, e ∈ xP X) (hT : ∀ e ∈ tsM, e ∈ xT X) {Q : Mem → Prop} : ∀ (n : Nat) (x2 : Int32) (σ : Mem), w_X12_move_62_60_2 Q n x2 σ → mG X 2 [(0, .ref (xB X + 62)), (1, .ref (xB X + 60)), (2, .int x2)] [] σ 0 0 (mQ X 0 0 (qV Q)) := by
  intro n
  induction n with
  | zero => intro x2 σ hw; exact False.elim hw
  | succ n ih =>
    intro x2 σ hw
    rw [w_X12_move_62_60_2] at hw
    refine g_iload_n hC dX12_move_2 rfl ?_
    refine g_aload_n hC dX12_move_3 rfl ?_
    refine g_alenS hC (hT _ tg_M_62) (by decide) (by decide) dX12_move_4 ?_
    refine mG.st (st1 := [.int 8, .int x2]) rfl ?_
    refine g_icmp_ge (tgt := 20) hC dX12_move_5 rfl (fun c => ?_) (fun c => ?_)
    · replace hw := hw.1 c
      exact g_vret hC (by decide) (by decide) dX12_move_20 (fun _ => ⟨rfl, hw⟩)
    · replace hw := hw.2 c
      refine g_aload_n hC dX12_move_8 rfl ?_
      refine g_iload_n hC dX12_move_9 rfl ?_
      refine g_aload_n hC dX12_move_10 rfl ?_
      refine g_iload_n hC dX12_move_11 rfl ?_
      refine g_ialdSv (v := (mI σ 62 (Int32.toNatClampNeg x2))) hC (hT _ tg_M_62) rfl hw.1 rfl dX12_move_12 ?_
      replace hw := hw.2
      refine g_topi (fun v101 ev101 => ?_)
      replace hw := hw v101 ev101
      have hin := hw.1
      replace hw := hw.2
      refine g_iastS (k := (Int32.toNatClampNeg x2)) hC (hT _ tg_M_60) rfl hin dX12_move_13 ?_
      refine g_iinc (v := x2 + 1) (lv' := [(2, .int (x2 + 1)), (0, .ref (xB X + 62)), (1, .ref (xB X + 60))]) hC dX12_move_14 rfl rfl (hN 2 (by decide)) rfl ?_
      refine g_goto (tgt := 2) hC dX12_move_17 rfl ?_
      refine mG.pick (lv' := [(0, .ref (xB X + 62)), (1, .ref (xB X + 60)), (2, .int (x2 + 1))]) [1, 2, 0] rfl ?_
      exact ih _ _ hw
def w_X12_move_62_60 (σ : Mem) (Q : Mem → Prop) : Prop := ∃ m101 : Nat, w_X12_move_62_60_2 Q m101 0 σ
set_option maxRecDepth 4000 in
set_option maxHeartbeats 2000000 in
theorem t_X12_move_62_60 {X : Cx} {d : Nat} (hC : mOK X cX12_move RX12 "move" none d 0 0) (hd : 0 ≤ d) (hN : ∀ i, i < 3 → i < xN X) (hP : ∀ e ∈ psM, e ∈ xP X) (hT : ∀ e ∈ tsM, e ∈ xT X) {σ : Mem} {Q : Mem → Prop} (hw : w_X12_move_62_60 σ Q) : mG X 0 [(0, .ref (xB X + 62)), (1, .ref (xB X + 60))] [] σ 0 0 (mQ X 0 0 (qV Q)) := by
  refine g_iconst (v := 0) hC dX12_move_0 (by decide) ?_
  refine g_istore_n (lv' := [(2, .int 0), (0, .ref (xB X + 62)), (1, .ref (xB X + 60))]) hC dX12_move_1 (hN 2 (by decide)) rfl ?_
  refine mG.pick (lv' := [(0, .ref (xB X + 62)), (1, .ref (xB X + 60)), (2, .int 0)]) [1, 2, 0] rfl ?_
  obtain ⟨m101, hw⟩ := hw
  exact t_X12_move_62_60_2 hC hd hN hP hT m101 _ _ hw
set_option maxRecDepth 4000 in
theorem c_X12_move_62_60 {Z : Fx} {ps ts : List (Nat × Nat × Nat)} {d : Nat} (hd : 0 ≤ d) (hP : ∀ e ∈ psM, e ∈ ps) (hT : ∀ e ∈ tsM, e ∈ ts) {σ : Mem} {Q : Mem → Prop} (hw : w_X12_move_62_60 σ Q) : mM Z ps ts yX12_move cX12_move 3 none d 0 0 [.ref (Z.2.2 + 62), .ref (Z.2.2 + 60)] σ (qV Q) := by
  refine mM.of (by decide) (Nat.le_of_ble_eq_true rfl) rfl (fun X hZ hp ht hn hC => ?_)
  subst hZ; subst hp; subst ht
  exact t_X12_move_62_60 hC hd (fun i h => by rw [hn]; exact h) hP hT hw
def w_X12_move_63_61_2 (Q : Mem → Prop) : Nat → Int32 → Mem → Prop
  | 0, _, _ => False
  | n + 1, x2, σ => (64 ≤ x2 → (Q σ)) ∧ (¬ 64 ≤ x2 → (vp_in x2 64 ∧ (∀ v101 : Int32, v101 = (mI σ 63 (Int32.toNatClampNeg x2)) → (vp_in x2 64 ∧ (w_X12_move_63_61_2 Q n (x2 + 1) (sI σ 61 (Int32.toNatClampNeg x2) v101))))))
set_option maxRecDepth 4000 in
set_option maxHeartbeats 2000000 in
theorem t_X12_move_63_61_2 {X : Cx} {d : Nat} (hC : mOK X cX12_move RX12 "move" none d 0 0) (hd : 0 ≤ d) (hN : ∀ i, i < 3 → i < xN X) (hP : ∀ e ∈ psM, e ∈ xP X) (hT : ∀ e ∈ tsM, e ∈ xT X) {Q : Mem → Prop} : ∀ (n : Nat) (x2 : Int32) (σ : Mem), w_X12_move_63_61_2 Q n x2 σ → mG X 2 [(0, .ref (xB X + 63)), (1, .ref (xB X + 61)), (2, .int x2)] [] σ 0 0 (mQ X 0 0 (qV Q)) := by
  intro n
  induction n with
  | zero => intro x2 σ hw; exact False.elim hw
  | succ n ih =>
    intro x2 σ hw
    rw [w_X12_move_63_61_2] at hw
    refine g_iload_n hC dX12_move_2 rfl ?_
    refine g_aload_n hC dX12_move_3 rfl ?_
    refine g_alenS hC (hT _ tg_M_63) (by decide) (by decide) dX12_move_4 ?_
    refine mG.st (st1 := [.int 64, .int x2]) rfl ?_
    refine g_icmp_ge (tgt := 20) hC dX12_move_5 rfl (fun c => ?_) (fun c => ?_)
    · replace hw := hw.1 c
      exact g_vret hC (by decide) (by decide) dX12_move_20 (fun _ => ⟨rfl, hw⟩)
    · replace hw := hw.2 c
      refine g_aload_n hC dX12_move_8 rfl ?_
      refine g_iload_n hC dX12_move_9 rfl ?_
      refine g_aload_n hC dX12_move_10 rfl ?_
      refine g_iload_n hC dX12_move_11 rfl ?_
      refine g_ialdSv (v := (mI σ 63 (Int32.toNatClampNeg x2))) hC (hT _ tg_M_63) rfl hw.1 rfl dX12_move_12 ?_
      replace hw := hw.2
      refine g_topi (fun v101 ev101 => ?_)
      replace hw := hw v101 ev101
      have hin := hw.1
      replace hw := hw.2
      refine g_iastS (k := (Int32.toNatClampNeg x2)) hC (hT _ tg_M_61) rfl hin dX12_move_13 ?_
      refine g_iinc (v := x2 + 1) (lv' := [(2, .int (x2 + 1)), (0, .ref (xB X + 63)), (1, .ref (xB X + 61))]) hC dX12_move_14 rfl rfl (hN 2 (by decide)) rfl ?_
      refine g_goto (tgt := 2) hC dX12_move_17 rfl ?_
      refine mG.pick (lv' := [(0, .ref (xB X + 63)), (1, .ref (xB X + 61)), (2, .int (x2 + 1))]) [1, 2, 0] rfl ?_
      exact ih _ _ hw
def w_X12_move_63_61 (σ : Mem) (Q : Mem → Prop) : Prop := ∃ m101 : Nat, w_X12_move_63_61_2 Q m101 0 σ
set_option maxRecDepth 4000 in
set_option maxHeartbeats 2000000 in
theorem t_X12_move_63_61 {X : Cx} {d : Nat} (hC : mOK X cX12_move RX12 "move" none d 0 0) (hd : 0 ≤ d) (hN : ∀ i, i < 3 → i < xN X) (hP : ∀ e ∈ psM, e ∈ xP X) (hT : ∀ e ∈ tsM, e ∈ xT X) {σ : Mem} {Q : Mem → Prop} (hw : w_X12_move_63_61 σ Q) : mG X 0 [(0, .ref (xB X + 63)), (1, .ref (xB X + 61))] [] σ 0 0 (mQ X 0 0 (qV Q)) := by
  refine g_iconst (v := 0) hC dX12_move_0 (by decide) ?_
  refine g_istore_n (lv' := [(2, .int 0), (0, .ref (xB X + 63)), (1, .ref (xB X + 61))]) hC dX12_move_1 (hN 2 (by decide)) rfl ?_
  refine mG.pick (lv' := [(0, .ref (xB X + 63)), (1, .ref (xB X + 61)), (2, .int 0)]) [1, 2, 0] rfl ?_
  obtain ⟨m101, hw⟩ := hw
  exact t_X12_move_63_61_2 hC hd hN hP hT m101 _ _ hw
set_option maxRecDepth 4000 in
theorem c_X12_move_63_61 {Z : Fx} {ps ts : List (Nat × Nat × Nat)} {d : Nat} (hd : 0 ≤ d) (hP : ∀ e ∈ psM, e ∈ ps) (hT : ∀ e ∈ tsM, e ∈ ts) {σ : Mem} {Q : Mem → Prop} (hw : w_X12_move_63_61 σ Q) : mM Z ps ts yX12_move cX12_move 3 none d 0 0 [.ref (Z.2.2 + 63), .ref (Z.2.2 + 61)] σ (qV Q) := by
  refine mM.of (by decide) (Nat.le_of_ble_eq_true rfl) rfl (fun X hZ hp ht hn hC => ?_)
  subst hZ; subst hp; subst ht
  exact t_X12_move_63_61 hC hd (fun i h => by rw [hn]; exact h) hP hT hw
def w_X12_back (σ : Mem) (Q : Int32 → Mem → Prop) : Prop := (¬ (mI σ 37 49) = 0 → (w_X12_move_62_60 (sI (sI (sI (sI σ 37 45 (mI σ 37 50)) 37 46 (mI σ 37 51)) 37 6 (mI σ 37 52)) 37 10 (mI σ 37 53)) (fun s103 => w_X12_move_63_61 s103 (fun s106 => Q (mI s106 37 45) s106)))) ∧ ((mI σ 37 49) = 0 → (Q (-3) σ))
set_option maxRecDepth 4000 in
set_option maxHeartbeats 2000000 in
theorem t_X12_back {X : Cx} {d : Nat} (hC : mOK X cX12_back RX12 "back" (some .int) d 0 0) (hd : 1 ≤ d) (hN : ∀ i, i < 1 → i < xN X) (hP : ∀ e ∈ psM, e ∈ xP X) (hT : ∀ e ∈ tsM, e ∈ xT X) {σ : Mem} {Q : Int32 → Mem → Prop} (hw : w_X12_back σ Q) : mG X 0 [(0, .ref (xB X + 37))] [] σ 0 0 (mQ X 0 0 (qI Q)) := by
  refine g_aload_n hC dX12_back_0 rfl ?_
  refine g_getiSv (v := (mI σ 37 49)) hC fl_X12_330_12.s (hT _ tg_M_37) rfl dX12_back_1 ?_
  refine g_if_ne (tgt := 10) hC dX12_back_4 rfl (fun c => ?_) (fun c => ?_)
  · replace hw := hw.1 c
    refine g_aload_n hC dX12_back_10 rfl ?_
    refine g_aload_n hC dX12_back_11 rfl ?_
    refine g_getiSv (v := (mI σ 37 50)) hC fl_X12_334_12.s (hT _ tg_M_37) rfl dX12_back_12 ?_
    refine g_putIS hC (fw_X12_320_12 _) (hT _ tg_M_37) rfl rfl dX12_back_15 ?_
    refine g_aload_n hC dX12_back_18 rfl ?_
    refine g_aload_n hC dX12_back_19 rfl ?_
    refine g_getiSv (v := (mI σ 37 51)) hC fl_X12_337_12.s (hT _ tg_M_37) (mI_sI_k _ _ (by decide)) dX12_back_20 ?_
    refine g_putIS hC (fw_X12_323_12 _) (hT _ tg_M_37) rfl rfl dX12_back_23 ?_
    refine g_aload_n hC dX12_back_26 rfl ?_
    refine g_aload_n hC dX12_back_27 rfl ?_
    refine g_getiSv (v := (mI σ 37 52)) hC fl_X12_340_12.s (hT _ tg_M_37) ((mI_sI_k _ _ (by decide)).trans (mI_sI_k _ _ (by decide))) dX12_back_28 ?_
    refine g_putIS hC (fw_X12_31_12 _) (hT _ tg_M_37) rfl rfl dX12_back_31 ?_
    refine g_aload_n hC dX12_back_34 rfl ?_
    refine g_aload_n hC dX12_back_35 rfl ?_
    refine g_getiSv (v := (mI σ 37 53)) hC fl_X12_343_12.s (hT _ tg_M_37) ((mI_sI_k _ _ (by decide)).trans ((mI_sI_k _ _ (by decide)).trans (mI_sI_k _ _ (by decide)))) dX12_back_36 ?_
    refine g_putIS hC (fw_X12_156_12 _) (hT _ tg_M_37) rfl rfl dX12_back_39 ?_
    refine g_aload_n hC dX12_back_42 rfl ?_
    refine g_getrS hC fl_X12_203_12.s (hT _ tg_M_37) (hP _ pt_M_37_54) dX12_back_43 ?_
    refine g_aload_n hC dX12_back_46 rfl ?_
    refine g_getrS hC fl_X12_197_12.s (hT _ tg_M_37) (hP _ pt_M_37_47) dX12_back_47 ?_
    refine mG.st (st1 := ([.ref (xB X + 62), .ref (xB X + 60)] : List Value).reverse ++ []) rfl ?_
    refine g_callS (As := [.ref (xB X + 62), .ref (xB X + 60)]) (st := []) hC yw_X12_move ys_X12_move tw_679 dX12_back_50 (fun _ h => h) (fun _ h => h) (fun h => h) (c_X12_move_62_60 (d := 0) (Nat.le_refl _) hP hT hw) rfl (Nat.le_of_ble_eq_true rfl) (by omega) (by decide) (by decide) (kV fun s103 hw => ?_)
    refine g_aload_n hC dX12_back_53 rfl ?_
    refine g_getrS hC fl_X12_206_12.s (hT _ tg_M_37) (hP _ pt_M_37_55) dX12_back_54 ?_
    refine g_aload_n hC dX12_back_57 rfl ?_
    refine g_getrS hC fl_X12_200_12.s (hT _ tg_M_37) (hP _ pt_M_37_48) dX12_back_58 ?_
    refine mG.st (st1 := ([.ref (xB X + 63), .ref (xB X + 61)] : List Value).reverse ++ []) rfl ?_
    refine g_callS (As := [.ref (xB X + 63), .ref (xB X + 61)]) (st := []) hC yw_X12_move ys_X12_move tw_679 dX12_back_61 (fun _ h => h) (fun _ h => h) (fun h => h) (c_X12_move_63_61 (d := 0) (Nat.le_refl _) hP hT hw) rfl (Nat.le_of_ble_eq_true rfl) (by omega) (by decide) (by decide) (kV fun s106 hw => ?_)
    refine g_aload_n hC dX12_back_64 rfl ?_
    refine g_getiSv (v := (mI s106 37 45)) hC fl_X12_320_12.s (hT _ tg_M_37) rfl dX12_back_65 ?_
    exact g_iret hC rfl (by decide) (by decide) dX12_back_68 (fun _ => ⟨_, rfl, hw⟩)
  · replace hw := hw.2 c
    refine g_bipush (v := (-3)) hC dX12_back_7 (by decide) ?_
    exact g_iret hC rfl (by decide) (by decide) dX12_back_9 (fun _ => ⟨_, rfl, hw⟩)
set_option maxRecDepth 4000 in
theorem c_X12_back {Z : Fx} {ps ts : List (Nat × Nat × Nat)} {d : Nat} (hd : 1 ≤ d) (hP : ∀ e ∈ psM, e ∈ ps) (hT : ∀ e ∈ tsM, e ∈ ts) {σ : Mem} {Q : Int32 → Mem → Prop} (hw : w_X12_back σ Q) : mM Z ps ts yX12_back cX12_back 1 (some .int) d 0 0 [.ref (Z.2.2 + 37)] σ (qI Q) := by
  refine mM.of (by decide) (Nat.le_of_ble_eq_true rfl) rfl (fun X hZ hp ht hn hC => ?_)
  subst hZ; subst hp; subst ht
  exact t_X12_back hC hd (fun i h => by rw [hn]; exact h) hP hT hw
def w_X12_count (σ : Mem) (x1 : Int32) (Q : Int32 → Mem → Prop) : Prop := (x1 = 0 → (Q (mI σ 37 0) σ)) ∧ (x1 = 1 → (Q (mI σ 37 3) σ)) ∧ (x1 = 2 → (Q (mI σ 37 45) σ)) ∧ (x1 = 3 → (Q (mI σ 37 46) σ)) ∧ (x1 = 4 → (Q (mI σ 37 6) σ)) ∧ (x1 = 5 → (Q (mI σ 37 9) σ)) ∧ (x1 = 6 → (Q (mI σ 37 8) σ)) ∧ (x1 = 7 → (Q (mI σ 37 10) σ)) ∧ (¬ x1 = 0 → ¬ x1 = 1 → ¬ x1 = 2 → ¬ x1 = 3 → ¬ x1 = 4 → ¬ x1 = 5 → ¬ x1 = 6 → ¬ x1 = 7 → (Q (-2) σ))
set_option maxRecDepth 4000 in
set_option maxHeartbeats 2000000 in
theorem t_X12_count {X : Cx} {d : Nat} (hC : mOK X cX12_count RX12 "count" (some .int) d 0 0) (hd : 0 ≤ d) (hN : ∀ i, i < 2 → i < xN X) (hP : ∀ e ∈ psM, e ∈ xP X) (hT : ∀ e ∈ tsM, e ∈ xT X) {σ : Mem} {x1 : Int32} {Q : Int32 → Mem → Prop} (hw : w_X12_count σ x1 Q) : mG X 0 [(0, .ref (xB X + 37)), (1, .int x1)] [] σ 0 0 (mQ X 0 0 (qI Q)) := by
  refine g_iload_n hC dX12_count_0 rfl ?_
  by_cases c0 : x1 = 0
  · replace hw := hw.1 c0
    refine g_tableIn (tgt := 48) hC dX12_count_1 0 c0 (by decide) (by decide) rfl rfl ?_
    refine g_aload_n hC dX12_count_48 rfl ?_
    refine g_getiSv (v := (mI σ 37 0)) hC fl_X12_1_12.s (hT _ tg_M_37) rfl dX12_count_49 ?_
    exact g_iret hC rfl (by decide) (by decide) dX12_count_52 (fun _ => ⟨_, rfl, hw⟩)
  by_cases c1 : x1 = 1
  · replace hw := hw.2.1 c1
    refine g_tableIn (tgt := 53) hC dX12_count_1 1 c1 (by decide) (by decide) rfl rfl ?_
    refine g_aload_n hC dX12_count_53 rfl ?_
    refine g_getiSv (v := (mI σ 37 3)) hC fl_X12_11_12.s (hT _ tg_M_37) rfl dX12_count_54 ?_
    exact g_iret hC rfl (by decide) (by decide) dX12_count_57 (fun _ => ⟨_, rfl, hw⟩)
  by_cases c2 : x1 = 2
  · replace hw := hw.2.2.1 c2
    refine g_tableIn (tgt := 58) hC dX12_count_1 2 c2 (by decide) (by decide) rfl rfl ?_
    refine g_aload_n hC dX12_count_58 rfl ?_
    refine g_getiSv (v := (mI σ 37 45)) hC fl_X12_320_12.s (hT _ tg_M_37) rfl dX12_count_59 ?_
    exact g_iret hC rfl (by decide) (by decide) dX12_count_62 (fun _ => ⟨_, rfl, hw⟩)
  by_cases c3 : x1 = 3
  · replace hw := hw.2.2.2.1 c3
    refine g_tableIn (tgt := 63) hC dX12_count_1 3 c3 (by decide) (by decide) rfl rfl ?_
    refine g_aload_n hC dX12_count_63 rfl ?_
    refine g_getiSv (v := (mI σ 37 46)) hC fl_X12_323_12.s (hT _ tg_M_37) rfl dX12_count_64 ?_
    exact g_iret hC rfl (by decide) (by decide) dX12_count_67 (fun _ => ⟨_, rfl, hw⟩)
  by_cases c4 : x1 = 4
  · replace hw := hw.2.2.2.2.1 c4
    refine g_tableIn (tgt := 68) hC dX12_count_1 4 c4 (by decide) (by decide) rfl rfl ?_
    refine g_aload_n hC dX12_count_68 rfl ?_
    refine g_getiSv (v := (mI σ 37 6)) hC fl_X12_31_12.s (hT _ tg_M_37) rfl dX12_count_69 ?_
    exact g_iret hC rfl (by decide) (by decide) dX12_count_72 (fun _ => ⟨_, rfl, hw⟩)
  by_cases c5 : x1 = 5
  · replace hw := hw.2.2.2.2.2.1 c5
    refine g_tableIn (tgt := 73) hC dX12_count_1 5 c5 (by decide) (by decide) rfl rfl ?_
    refine g_aload_n hC dX12_count_73 rfl ?_
    refine g_getiSv (v := (mI σ 37 9)) hC fl_X12_150_12.s (hT _ tg_M_37) rfl dX12_count_74 ?_
    exact g_iret hC rfl (by decide) (by decide) dX12_count_77 (fun _ => ⟨_, rfl, hw⟩)
  by_cases c6 : x1 = 6
  · replace hw := hw.2.2.2.2.2.2.1 c6
    refine g_tableIn (tgt := 78) hC dX12_count_1 6 c6 (by decide) (by decide) rfl rfl ?_
    refine g_aload_n hC dX12_count_78 rfl ?_
    refine g_getiSv (v := (mI σ 37 8)) hC fl_X12_48_12.s (hT _ tg_M_37) rfl dX12_count_79 ?_
    exact g_iret hC rfl (by decide) (by decide) dX12_count_82 (fun _ => ⟨_, rfl, hw⟩)
  by_cases c7 : x1 = 7
  · replace hw := hw.2.2.2.2.2.2.2.1 c7
    refine g_tableIn (tgt := 83) hC dX12_count_1 7 c7 (by decide) (by decide) rfl rfl ?_
    refine g_aload_n hC dX12_count_83 rfl ?_
    refine g_getiSv (v := (mI σ 37 10)) hC fl_X12_156_12.s (hT _ tg_M_37) rfl dX12_count_84 ?_
    exact g_iret hC rfl (by decide) (by decide) dX12_count_87 (fun _ => ⟨_, rfl, hw⟩)
  replace hw := hw.2.2.2.2.2.2.2.2 c0 c1 c2 c3 c4 c5 c6 c7
  refine g_tableOut (tgt := 88) hC dX12_count_1 (sw_out 0 7 x1 (by decide) [0, 1, 2, 3, 4, 5, 6, 7] (by decide) (List.forall_mem_cons.mpr ⟨c0, (List.forall_mem_cons.mpr ⟨c1, (List.forall_mem_cons.mpr ⟨c2, (List.forall_mem_cons.mpr ⟨c3, (List.forall_mem_cons.mpr ⟨c4, (List.forall_mem_cons.mpr ⟨c5, (List.forall_mem_cons.mpr ⟨c6, (List.forall_mem_cons.mpr ⟨c7, (fun k h => absurd h List.not_mem_nil)⟩)⟩)⟩)⟩)⟩)⟩)⟩)⟩)) rfl ?_
  refine g_bipush (v := (-2)) hC dX12_count_88 (by decide) ?_
  exact g_iret hC rfl (by decide) (by decide) dX12_count_90 (fun _ => ⟨_, rfl, hw⟩)
set_option maxRecDepth 4000 in
theorem c_X12_count {Z : Fx} {ps ts : List (Nat × Nat × Nat)} {d : Nat} (hd : 0 ≤ d) (hP : ∀ e ∈ psM, e ∈ ps) (hT : ∀ e ∈ tsM, e ∈ ts) {σ : Mem} {x1 : Int32} {Q : Int32 → Mem → Prop} (hw : w_X12_count σ x1 Q) : mM Z ps ts yX12_count cX12_count 2 (some .int) d 0 0 [.ref (Z.2.2 + 37), .int x1] σ (qI Q) := by
  refine mM.of (by decide) (Nat.le_of_ble_eq_true rfl) rfl (fun X hZ hp ht hn hC => ?_)
  subst hZ; subst hp; subst ht
  exact t_X12_count hC hd (fun i h => by rw [hn]; exact h) hP hT hw
def w_X12_sheet_65 (Q : Int32 → Mem → Prop) : Nat → Int32 → Int32 → Mem → Prop
  | 0, _, _, _ => False
  | n + 1, x1, x4, σ => (40 ≤ x4 → (Q 1 σ)) ∧ (¬ 40 ≤ x4 → (vp_in ((40 * x1) + x4) 160 ∧ (w_X12_sheet_65 Q n x1 (x4 + 1) (sI σ 66 (Int32.toNatClampNeg ((40 * x1) + x4)) 0))))
set_option maxRecDepth 4000 in
set_option maxHeartbeats 2000000 in
theorem t_X12_sheet_65 {X : Cx} {d : Nat} (hC : mOK X cX12_sheet RX12 "sheet" (some .int) d 0 0) (hd : 2 ≤ d) (hN : ∀ i, i < 5 → i < xN X) (hP : ∀ e ∈ psM, e ∈ xP X) (hT : ∀ e ∈ tsM, e ∈ xT X) {Q : Int32 → Mem → Prop} : ∀ (n : Nat) (x1 : Int32) (x4 : Int32) (σ : Mem), w_X12_sheet_65 Q n x1 x4 σ → mG X 65 [(0, .ref (xB X + 37)), (1, .int x1), (4, .int x4)] [] σ 0 0 (mQ X 0 0 (qI Q)) := by
  intro n
  induction n with
  | zero => intro x1 x4 σ hw; exact False.elim hw
  | succ n ih =>
    intro x1 x4 σ hw
    rw [w_X12_sheet_65] at hw
    refine g_iload hC dX12_sheet_65 rfl ?_
    refine g_bipush (v := 40) hC dX12_sheet_67 (by decide) ?_
    refine g_icmp_ge (tgt := 91) hC dX12_sheet_69 rfl (fun c => ?_) (fun c => ?_)
    · replace hw := hw.1 c
      refine g_iconst (v := 1) hC dX12_sheet_91 (by decide) ?_
      exact g_iret hC rfl (by decide) (by decide) dX12_sheet_92 (fun _ => ⟨_, rfl, hw⟩)
    · replace hw := hw.2 c
      refine g_aload_n hC dX12_sheet_72 rfl ?_
      refine g_getrS hC fl_X12_215_12.s (hT _ tg_M_37) (hP _ pt_M_37_58) dX12_sheet_73 ?_
      refine g_bipush (v := 40) hC dX12_sheet_76 (by decide) ?_
      refine g_iload_n hC dX12_sheet_78 rfl ?_
      refine g_imul hC dX12_sheet_79 ?_
      refine g_iload hC dX12_sheet_80 rfl ?_
      refine g_iadd hC dX12_sheet_82 ?_
      refine g_iconst (v := 0) hC dX12_sheet_83 (by decide) ?_
      have hin := hw.1
      replace hw := hw.2
      refine g_iastS (k := (Int32.toNatClampNeg ((40 * x1) + x4))) hC (hT _ tg_M_66) rfl hin dX12_sheet_84 ?_
      refine g_iinc (v := x4 + 1) (lv' := [(4, .int (x4 + 1)), (0, .ref (xB X + 37)), (1, .int x1)]) hC dX12_sheet_85 rfl rfl (hN 4 (by decide)) rfl ?_
      refine g_goto (tgt := 65) hC dX12_sheet_88 rfl ?_
      refine mG.pick (lv' := [(0, .ref (xB X + 37)), (1, .int x1), (4, .int (x4 + 1))]) [1, 2, 0] rfl ?_
      exact ih _ _ _ hw
def w_X12_sheet_61 (Q : Int32 → Mem → Prop) (x1 : Int32) (xy0 : Int32) (xy1 : Int32) (σ : Mem) : Prop := vp_in xy1 4 ∧ (∃ m101 : Nat, w_X12_sheet_65 Q m101 x1 0 (sI σ 65 (Int32.toNatClampNeg xy1) xy0))
set_option maxRecDepth 4000 in
set_option maxHeartbeats 2000000 in
theorem t_X12_sheet_61 {X : Cx} {d : Nat} (hC : mOK X cX12_sheet RX12 "sheet" (some .int) d 0 0) (hd : 2 ≤ d) (hN : ∀ i, i < 5 → i < xN X) (hP : ∀ e ∈ psM, e ∈ xP X) (hT : ∀ e ∈ tsM, e ∈ xT X) {Q : Int32 → Mem → Prop} {x1 : Int32} {xy0 : Int32} {xy1 : Int32} {σ : Mem} (hw : w_X12_sheet_61 Q x1 xy0 xy1 σ) : mG X 61 [(0, .ref (xB X + 37)), (1, .int x1)] [.int xy0, .int xy1, .ref (xB X + 65)] σ 0 0 (mQ X 0 0 (qI Q)) := by
  have hin := hw.1
  replace hw := hw.2
  refine g_iastS (k := (Int32.toNatClampNeg xy1)) hC (hT _ tg_M_65) rfl hin dX12_sheet_61 ?_
  refine g_iconst (v := 0) hC dX12_sheet_62 (by decide) ?_
  refine g_istore (lv' := [(4, .int 0), (0, .ref (xB X + 37)), (1, .int x1)]) hC dX12_sheet_63 (hN 4 (by decide)) rfl ?_
  refine mG.pick (lv' := [(0, .ref (xB X + 37)), (1, .int x1), (4, .int 0)]) [1, 2, 0] rfl ?_
  obtain ⟨m101, hw⟩ := hw
  exact t_X12_sheet_65 hC hd hN hP hT m101 _ _ _ hw
def w_X12_sheet_40 (Q : Int32 → Mem → Prop) (x1 : Int32) (x2 : Int32) (x3 : Int32) (σ : Mem) : Prop := vp_in x1 4 ∧ ((0 ≤ x2 → (w_X12_sheet_61 Q x1 x3 x1 (sI σ 64 (Int32.toNatClampNeg x1) x2))) ∧ (¬ 0 ≤ x2 → (w_X12_sheet_61 Q x1 0 x1 (sI σ 64 (Int32.toNatClampNeg x1) x2))))
set_option maxRecDepth 4000 in
set_option maxHeartbeats 2000000 in
theorem t_X12_sheet_40 {X : Cx} {d : Nat} (hC : mOK X cX12_sheet RX12 "sheet" (some .int) d 0 0) (hd : 2 ≤ d) (hN : ∀ i, i < 5 → i < xN X) (hP : ∀ e ∈ psM, e ∈ xP X) (hT : ∀ e ∈ tsM, e ∈ xT X) {Q : Int32 → Mem → Prop} {x1 : Int32} {x2 : Int32} {x3 : Int32} {σ : Mem} (hw : w_X12_sheet_40 Q x1 x2 x3 σ) : mG X 40 [(0, .ref (xB X + 37)), (1, .int x1), (2, .int x2), (3, .int x3)] [] σ 0 0 (mQ X 0 0 (qI Q)) := by
  refine g_aload_n hC dX12_sheet_40 rfl ?_
  refine g_getrS hC fl_X12_209_12.s (hT _ tg_M_37) (hP _ pt_M_37_56) dX12_sheet_41 ?_
  refine g_iload_n hC dX12_sheet_44 rfl ?_
  refine g_iload_n hC dX12_sheet_45 rfl ?_
  have hin := hw.1
  replace hw := hw.2
  refine g_iastS (k := (Int32.toNatClampNeg x1)) hC (hT _ tg_M_64) rfl hin dX12_sheet_46 ?_
  refine g_aload_n hC dX12_sheet_47 rfl ?_
  refine g_getrS hC fl_X12_212_12.s (hT _ tg_M_37) (hP _ pt_M_37_57) dX12_sheet_48 ?_
  refine g_iload_n hC dX12_sheet_51 rfl ?_
  refine g_iload_n hC dX12_sheet_52 rfl ?_
  refine g_if_ge (tgt := 60) hC dX12_sheet_53 rfl (fun c => ?_) (fun c => ?_)
  · replace hw := hw.1 c
    refine g_iload_n hC dX12_sheet_60 rfl ?_
    refine mG.pick (lv' := [(0, .ref (xB X + 37)), (1, .int x1)]) [0, 1] rfl ?_
    exact t_X12_sheet_61 hC hd hN hP hT hw
  · replace hw := hw.2 c
    refine g_iconst (v := 0) hC dX12_sheet_56 (by decide) ?_
    refine g_goto (tgt := 61) hC dX12_sheet_57 rfl ?_
    refine mG.pick (lv' := [(0, .ref (xB X + 37)), (1, .int x1)]) [0, 1] rfl ?_
    exact t_X12_sheet_61 hC hd hN hP hT hw
def w_X12_sheet_29 (Q : Int32 → Mem → Prop) (x1 : Int32) (x2 : Int32) (x3 : Int32) (σ : Mem) : Prop := (x2 < 0 → (w_X12_sheet_40 Q x1 x2 x3 σ)) ∧ (¬ x2 < 0 → ((0 ≤ x3 → (w_X12_sheet_40 Q x1 x2 x3 σ)) ∧ (¬ 0 ≤ x3 → (Q (-14) σ))))
set_option maxRecDepth 4000 in
set_option maxHeartbeats 2000000 in
theorem t_X12_sheet_29 {X : Cx} {d : Nat} (hC : mOK X cX12_sheet RX12 "sheet" (some .int) d 0 0) (hd : 2 ≤ d) (hN : ∀ i, i < 5 → i < xN X) (hP : ∀ e ∈ psM, e ∈ xP X) (hT : ∀ e ∈ tsM, e ∈ xT X) {Q : Int32 → Mem → Prop} {x1 : Int32} {x2 : Int32} {x3 : Int32} {σ : Mem} (hw : w_X12_sheet_29 Q x1 x2 x3 σ) : mG X 29 [(0, .ref (xB X + 37)), (1, .int x1), (2, .int x2), (3, .int x3)] [] σ 0 0 (mQ X 0 0 (qI Q)) := by
  refine g_iload_n hC dX12_sheet_29 rfl ?_
  refine g_if_lt (tgt := 40) hC dX12_sheet_30 rfl (fun c => ?_) (fun c => ?_)
  · replace hw := hw.1 c
    refine mG.pick (lv' := [(0, .ref (xB X + 37)), (1, .int x1), (2, .int x2), (3, .int x3)]) [0, 1, 2, 3] rfl ?_
    exact t_X12_sheet_40 hC hd hN hP hT hw
  · replace hw := hw.2 c
    refine g_iload_n hC dX12_sheet_33 rfl ?_
    refine g_if_ge (tgt := 40) hC dX12_sheet_34 rfl (fun c => ?_) (fun c => ?_)
    · replace hw := hw.1 c
      refine mG.pick (lv' := [(0, .ref (xB X + 37)), (1, .int x1), (2, .int x2), (3, .int x3)]) [0, 1, 2, 3] rfl ?_
      exact t_X12_sheet_40 hC hd hN hP hT hw
    · replace hw := hw.2 c
      refine g_bipush (v := (-14)) hC dX12_sheet_37 (by decide) ?_
      exact g_iret hC rfl (by decide) (by decide) dX12_sheet_39 (fun _ => ⟨_, rfl, hw⟩)
def w_X12_sheet (σ : Mem) (x1 : Int32) (x2 : Int32) (x3 : Int32) (Q : Int32 → Mem → Prop) : Prop := w_X12_isSheet σ x1 (fun v101 s103 => (v101 = 0 → (Q (-2) s103)) ∧ (¬ v101 = 0 → (w_X12_isIn s103 x2 (-1) 2 (fun v104 s106 => (v104 = 0 → (Q (-2) s106)) ∧ (¬ v104 = 0 → ((x2 < 0 → (w_X12_sheet_29 Q x1 x2 x3 s106)) ∧ (¬ x2 < 0 → ((x3 ≤ 40 → (w_X12_sheet_29 Q x1 x2 x3 s106)) ∧ (¬ x3 ≤ 40 → (Q (-2) s106))))))))))
set_option maxRecDepth 4000 in
set_option maxHeartbeats 2000000 in
theorem t_X12_sheet {X : Cx} {d : Nat} (hC : mOK X cX12_sheet RX12 "sheet" (some .int) d 0 0) (hd : 2 ≤ d) (hN : ∀ i, i < 5 → i < xN X) (hP : ∀ e ∈ psM, e ∈ xP X) (hT : ∀ e ∈ tsM, e ∈ xT X) {σ : Mem} {x1 : Int32} {x2 : Int32} {x3 : Int32} {Q : Int32 → Mem → Prop} (hw : w_X12_sheet σ x1 x2 x3 Q) : mG X 0 [(0, .ref (xB X + 37)), (1, .int x1), (2, .int x2), (3, .int x3)] [] σ 0 0 (mQ X 0 0 (qI Q)) := by
  refine g_iload_n hC dX12_sheet_0 rfl ?_
  refine mG.st (st1 := ([.int x1] : List Value).reverse ++ []) rfl ?_
  refine g_callS (As := [.int x1]) (st := []) hC yw_X12_isSheet ys_X12_isSheet tw_673 dX12_sheet_1 (fun _ h => h) (fun _ h => h) (fun h => h) (c_X12_isSheet (d := 1) (Nat.le_refl _) hw) rfl (Nat.le_of_ble_eq_true rfl) (by omega) (by decide) (by decide) (kI fun v101 s103 hw => ?_)
  refine g_if_eq (tgt := 26) hC dX12_sheet_4 rfl (fun c => ?_) (fun c => ?_)
  · replace hw := hw.1 c
    refine g_bipush (v := (-2)) hC dX12_sheet_26 (by decide) ?_
    exact g_iret hC rfl (by decide) (by decide) dX12_sheet_28 (fun _ => ⟨_, rfl, hw⟩)
  · replace hw := hw.2 c
    refine g_iload_n hC dX12_sheet_7 rfl ?_
    refine g_iconst (v := (-1)) hC dX12_sheet_8 (by decide) ?_
    refine g_iconst (v := 2) hC dX12_sheet_9 (by decide) ?_
    refine mG.st (st1 := ([.int x2, .int (-1), .int 2] : List Value).reverse ++ []) rfl ?_
    refine g_callS (As := [.int x2, .int (-1), .int 2]) (st := []) hC yw_X12_isIn ys_X12_isIn tw_465 dX12_sheet_10 (fun _ h => h) (fun _ h => h) (fun h => h) (c_X12_isIn (d := 0) (Nat.le_refl _) hw) rfl (Nat.le_of_ble_eq_true rfl) (by omega) (by decide) (by decide) (kI fun v104 s106 hw => ?_)
    refine g_if_eq (tgt := 26) hC dX12_sheet_13 rfl (fun c => ?_) (fun c => ?_)
    · replace hw := hw.1 c
      refine g_bipush (v := (-2)) hC dX12_sheet_26 (by decide) ?_
      exact g_iret hC rfl (by decide) (by decide) dX12_sheet_28 (fun _ => ⟨_, rfl, hw⟩)
    · replace hw := hw.2 c
      refine g_iload_n hC dX12_sheet_16 rfl ?_
      refine g_if_lt (tgt := 29) hC dX12_sheet_17 rfl (fun c => ?_) (fun c => ?_)
      · replace hw := hw.1 c
        refine mG.pick (lv' := [(0, .ref (xB X + 37)), (1, .int x1), (2, .int x2), (3, .int x3)]) [0, 1, 2, 3] rfl ?_
        exact t_X12_sheet_29 hC hd hN hP hT hw
      · replace hw := hw.2 c
        refine g_iload_n hC dX12_sheet_20 rfl ?_
        refine g_bipush (v := 40) hC dX12_sheet_21 (by decide) ?_
        refine g_icmp_le (tgt := 29) hC dX12_sheet_23 rfl (fun c => ?_) (fun c => ?_)
        · replace hw := hw.1 c
          refine mG.pick (lv' := [(0, .ref (xB X + 37)), (1, .int x1), (2, .int x2), (3, .int x3)]) [0, 1, 2, 3] rfl ?_
          exact t_X12_sheet_29 hC hd hN hP hT hw
        · replace hw := hw.2 c
          refine g_bipush (v := (-2)) hC dX12_sheet_26 (by decide) ?_
          exact g_iret hC rfl (by decide) (by decide) dX12_sheet_28 (fun _ => ⟨_, rfl, hw⟩)
set_option maxRecDepth 4000 in
theorem c_X12_sheet {Z : Fx} {ps ts : List (Nat × Nat × Nat)} {d : Nat} (hd : 2 ≤ d) (hP : ∀ e ∈ psM, e ∈ ps) (hT : ∀ e ∈ tsM, e ∈ ts) {σ : Mem} {x1 : Int32} {x2 : Int32} {x3 : Int32} {Q : Int32 → Mem → Prop} (hw : w_X12_sheet σ x1 x2 x3 Q) : mM Z ps ts yX12_sheet cX12_sheet 5 (some .int) d 0 0 [.ref (Z.2.2 + 37), .int x1, .int x2, .int x3] σ (qI Q) := by
  refine mM.of (by decide) (Nat.le_of_ble_eq_true rfl) rfl (fun X hZ hp ht hn hC => ?_)
  subst hZ; subst hp; subst ht
  exact t_X12_sheet hC hd (fun i h => by rw [hn]; exact h) hP hT hw
def w_X12_cell (σ : Mem) (x1 : Int32) (x2 : Int32) (x3 : Int32) (Q : Int32 → Mem → Prop) : Prop := w_X12_isSheet σ x1 (fun v101 s103 => (¬ v101 = 0 → (vp_in x1 4 ∧ ((0 ≤ (mI s103 64 (Int32.toNatClampNeg x1)) → (vp_in x1 4 ∧ (w_X12_isIn s103 x2 0 ((mI s103 65 (Int32.toNatClampNeg x1)) - 1) (fun v104 s106 => (¬ v104 = 0 → (vp_in x1 4 ∧ ((¬ (mI s106 64 (Int32.toNatClampNeg x1)) = 0 → (vp_in x1 4 ∧ ((¬ (mI s106 64 (Int32.toNatClampNeg x1)) = 1 → (vp_in ((40 * x1) + x2) 160 ∧ (Q 1 (sI s106 66 (Int32.toNatClampNeg ((40 * x1) + x2)) x3)))) ∧ ((mI s106 64 (Int32.toNatClampNeg x1)) = 1 → (vp_in ((40 * x1) + x2) 160 ∧ (Q 1 (sI s106 66 (Int32.toNatClampNeg ((40 * x1) + x2)) ((Int32.toInt16 x3).toInt32)))))))) ∧ ((mI s106 64 (Int32.toNatClampNeg x1)) = 0 → (vp_in ((40 * x1) + x2) 160 ∧ (Q 1 (sI s106 66 (Int32.toNatClampNeg ((40 * x1) + x2)) ((Int32.toInt8 x3).toInt32)))))))) ∧ (v104 = 0 → (Q (-12) s106)))))) ∧ (¬ 0 ≤ (mI s103 64 (Int32.toNatClampNeg x1)) → (Q (-11) s103))))) ∧ (v101 = 0 → (Q (-2) s103)))
set_option maxRecDepth 4000 in
set_option maxHeartbeats 2000000 in
theorem t_X12_cell {X : Cx} {d : Nat} (hC : mOK X cX12_cell RX12 "cell" (some .int) d 0 0) (hd : 2 ≤ d) (hN : ∀ i, i < 4 → i < xN X) (hP : ∀ e ∈ psM, e ∈ xP X) (hT : ∀ e ∈ tsM, e ∈ xT X) {σ : Mem} {x1 : Int32} {x2 : Int32} {x3 : Int32} {Q : Int32 → Mem → Prop} (hw : w_X12_cell σ x1 x2 x3 Q) : mG X 0 [(0, .ref (xB X + 37)), (1, .int x1), (2, .int x2), (3, .int x3)] [] σ 0 0 (mQ X 0 0 (qI Q)) := by
  refine g_iload_n hC dX12_cell_0 rfl ?_
  refine mG.st (st1 := ([.int x1] : List Value).reverse ++ []) rfl ?_
  refine g_callS (As := [.int x1]) (st := []) hC yw_X12_isSheet ys_X12_isSheet tw_673 dX12_cell_1 (fun _ h => h) (fun _ h => h) (fun h => h) (c_X12_isSheet (d := 1) (Nat.le_refl _) hw) rfl (Nat.le_of_ble_eq_true rfl) (by omega) (by decide) (by decide) (kI fun v101 s103 hw => ?_)
  refine g_if_ne (tgt := 10) hC dX12_cell_4 rfl (fun c => ?_) (fun c => ?_)
  · replace hw := hw.1 c
    refine g_aload_n hC dX12_cell_10 rfl ?_
    refine g_getrS hC fl_X12_209_12.s (hT _ tg_M_37) (hP _ pt_M_37_56) dX12_cell_11 ?_
    refine g_iload_n hC dX12_cell_14 rfl ?_
    refine g_ialdSv (v := (mI s103 64 (Int32.toNatClampNeg x1))) hC (hT _ tg_M_64) rfl hw.1 rfl dX12_cell_15 ?_
    replace hw := hw.2
    refine g_if_ge (tgt := 22) hC dX12_cell_16 rfl (fun c => ?_) (fun c => ?_)
    · replace hw := hw.1 c
      refine g_iload_n hC dX12_cell_22 rfl ?_
      refine g_iconst (v := 0) hC dX12_cell_23 (by decide) ?_
      refine g_aload_n hC dX12_cell_24 rfl ?_
      refine g_getrS hC fl_X12_212_12.s (hT _ tg_M_37) (hP _ pt_M_37_57) dX12_cell_25 ?_
      refine g_iload_n hC dX12_cell_28 rfl ?_
      refine g_ialdSv (v := (mI s103 65 (Int32.toNatClampNeg x1))) hC (hT _ tg_M_65) rfl hw.1 rfl dX12_cell_29 ?_
      replace hw := hw.2
      refine g_iconst (v := 1) hC dX12_cell_30 (by decide) ?_
      refine g_isub hC dX12_cell_31 ?_
      refine mG.st (st1 := ([.int x2, .int 0, .int ((mI s103 65 (Int32.toNatClampNeg x1)) - 1)] : List Value).reverse ++ []) rfl ?_
      refine g_callS (As := [.int x2, .int 0, .int ((mI s103 65 (Int32.toNatClampNeg x1)) - 1)]) (st := []) hC yw_X12_isIn ys_X12_isIn tw_465 dX12_cell_32 (fun _ h => h) (fun _ h => h) (fun h => h) (c_X12_isIn (d := 0) (Nat.le_refl _) hw) rfl (Nat.le_of_ble_eq_true rfl) (by omega) (by decide) (by decide) (kI fun v104 s106 hw => ?_)
      refine g_if_ne (tgt := 41) hC dX12_cell_35 rfl (fun c => ?_) (fun c => ?_)
      · replace hw := hw.1 c
        refine g_aload_n hC dX12_cell_41 rfl ?_
        refine g_getrS hC fl_X12_215_12.s (hT _ tg_M_37) (hP _ pt_M_37_58) dX12_cell_42 ?_
        refine g_bipush (v := 40) hC dX12_cell_45 (by decide) ?_
        refine g_iload_n hC dX12_cell_47 rfl ?_
        refine g_imul hC dX12_cell_48 ?_
        refine g_iload_n hC dX12_cell_49 rfl ?_
        refine g_iadd hC dX12_cell_50 ?_
        refine g_aload_n hC dX12_cell_51 rfl ?_
        refine g_getrS hC fl_X12_209_12.s (hT _ tg_M_37) (hP _ pt_M_37_56) dX12_cell_52 ?_
        refine g_iload_n hC dX12_cell_55 rfl ?_
        refine g_ialdSv (v := (mI s106 64 (Int32.toNatClampNeg x1))) hC (hT _ tg_M_64) rfl hw.1 rfl dX12_cell_56 ?_
        replace hw := hw.2
        refine g_if_ne (tgt := 65) hC dX12_cell_57 rfl (fun c => ?_) (fun c => ?_)
        · replace hw := hw.1 c
          refine g_aload_n hC dX12_cell_65 rfl ?_
          refine g_getrS hC fl_X12_209_12.s (hT _ tg_M_37) (hP _ pt_M_37_56) dX12_cell_66 ?_
          refine g_iload_n hC dX12_cell_69 rfl ?_
          refine g_ialdSv (v := (mI s106 64 (Int32.toNatClampNeg x1))) hC (hT _ tg_M_64) rfl hw.1 rfl dX12_cell_70 ?_
          replace hw := hw.2
          refine g_iconst (v := 1) hC dX12_cell_71 (by decide) ?_
          refine g_icmp_ne (tgt := 80) hC dX12_cell_72 rfl (fun c => ?_) (fun c => ?_)
          · replace hw := hw.1 c
            refine g_iload_n hC dX12_cell_80 rfl ?_
            have hin := hw.1
            replace hw := hw.2
            refine g_iastS (k := (Int32.toNatClampNeg ((40 * x1) + x2))) hC (hT _ tg_M_66) rfl hin dX12_cell_81 ?_
            refine g_iconst (v := 1) hC dX12_cell_82 (by decide) ?_
            exact g_iret hC rfl (by decide) (by decide) dX12_cell_83 (fun _ => ⟨_, rfl, hw⟩)
          · replace hw := hw.2 c
            refine g_iload_n hC dX12_cell_75 rfl ?_
            refine g_i2s hC dX12_cell_76 ?_
            refine g_goto (tgt := 81) hC dX12_cell_77 rfl ?_
            have hin := hw.1
            replace hw := hw.2
            refine g_iastS (k := (Int32.toNatClampNeg ((40 * x1) + x2))) hC (hT _ tg_M_66) rfl hin dX12_cell_81 ?_
            refine g_iconst (v := 1) hC dX12_cell_82 (by decide) ?_
            exact g_iret hC rfl (by decide) (by decide) dX12_cell_83 (fun _ => ⟨_, rfl, hw⟩)
        · replace hw := hw.2 c
          refine g_iload_n hC dX12_cell_60 rfl ?_
          refine g_i2b hC dX12_cell_61 ?_
          refine g_goto (tgt := 81) hC dX12_cell_62 rfl ?_
          have hin := hw.1
          replace hw := hw.2
          refine g_iastS (k := (Int32.toNatClampNeg ((40 * x1) + x2))) hC (hT _ tg_M_66) rfl hin dX12_cell_81 ?_
          refine g_iconst (v := 1) hC dX12_cell_82 (by decide) ?_
          exact g_iret hC rfl (by decide) (by decide) dX12_cell_83 (fun _ => ⟨_, rfl, hw⟩)
      · replace hw := hw.2 c
        refine g_bipush (v := (-12)) hC dX12_cell_38 (by decide) ?_
        exact g_iret hC rfl (by decide) (by decide) dX12_cell_40 (fun _ => ⟨_, rfl, hw⟩)
    · replace hw := hw.2 c
      refine g_bipush (v := (-11)) hC dX12_cell_19 (by decide) ?_
      exact g_iret hC rfl (by decide) (by decide) dX12_cell_21 (fun _ => ⟨_, rfl, hw⟩)
  · replace hw := hw.2 c
    refine g_bipush (v := (-2)) hC dX12_cell_7 (by decide) ?_
    exact g_iret hC rfl (by decide) (by decide) dX12_cell_9 (fun _ => ⟨_, rfl, hw⟩)
set_option maxRecDepth 4000 in
theorem c_X12_cell {Z : Fx} {ps ts : List (Nat × Nat × Nat)} {d : Nat} (hd : 2 ≤ d) (hP : ∀ e ∈ psM, e ∈ ps) (hT : ∀ e ∈ tsM, e ∈ ts) {σ : Mem} {x1 : Int32} {x2 : Int32} {x3 : Int32} {Q : Int32 → Mem → Prop} (hw : w_X12_cell σ x1 x2 x3 Q) : mM Z ps ts yX12_cell cX12_cell 4 (some .int) d 0 0 [.ref (Z.2.2 + 37), .int x1, .int x2, .int x3] σ (qI Q) := by
  refine mM.of (by decide) (Nat.le_of_ble_eq_true rfl) rfl (fun X hZ hp ht hn hC => ?_)
  subst hZ; subst hp; subst ht
  exact t_X12_cell hC hd (fun i h => by rw [hn]; exact h) hP hT hw
def w_X12_copy_140 (Q : Int32 → Mem → Prop) : Nat → Int32 → Int32 → Int32 → Int32 → Mem → Prop
  | 0, _, _, _, _, _ => False
  | n + 1, x3, x4, x5, x6, σ => (x5 ≤ x6 → (Q x5 σ)) ∧ (¬ x5 ≤ x6 → (vp_in x6 40 ∧ (∀ v101 : Int32, v101 = (mI σ 67 (Int32.toNatClampNeg x6)) → (vp_in (((40 * x3) + x4) + x6) 160 ∧ (w_X12_copy_140 Q n x3 x4 x5 (x6 + 1) (sI σ 66 (Int32.toNatClampNeg (((40 * x3) + x4) + x6)) v101))))))
set_option maxRecDepth 4000 in
set_option maxHeartbeats 2000000 in
theorem t_X12_copy_140 {X : Cx} {d : Nat} (hC : mOK X cX12_copy RX12 "copy" (some .int) d 0 0) (hd : 2 ≤ d) (hN : ∀ i, i < 7 → i < xN X) (hP : ∀ e ∈ psM, e ∈ xP X) (hT : ∀ e ∈ tsM, e ∈ xT X) {Q : Int32 → Mem → Prop} : ∀ (n : Nat) (x3 : Int32) (x4 : Int32) (x5 : Int32) (x6 : Int32) (σ : Mem), w_X12_copy_140 Q n x3 x4 x5 x6 σ → mG X 140 [(0, .ref (xB X + 37)), (3, .int x3), (4, .int x4), (5, .int x5), (6, .int x6)] [] σ 0 0 (mQ X 0 0 (qI Q)) := by
  intro n
  induction n with
  | zero => intro x3 x4 x5 x6 σ hw; exact False.elim hw
  | succ n ih =>
    intro x3 x4 x5 x6 σ hw
    rw [w_X12_copy_140] at hw
    refine g_iload hC dX12_copy_140 rfl ?_
    refine g_iload hC dX12_copy_142 rfl ?_
    refine g_icmp_ge (tgt := 175) hC dX12_copy_144 rfl (fun c => ?_) (fun c => ?_)
    · replace hw := hw.1 c
      refine g_iload hC dX12_copy_175 rfl ?_
      exact g_iret hC rfl (by decide) (by decide) dX12_copy_177 (fun _ => ⟨_, rfl, hw⟩)
    · replace hw := hw.2 c
      refine g_aload_n hC dX12_copy_147 rfl ?_
      refine g_getrS hC fl_X12_215_12.s (hT _ tg_M_37) (hP _ pt_M_37_58) dX12_copy_148 ?_
      refine g_bipush (v := 40) hC dX12_copy_151 (by decide) ?_
      refine g_iload_n hC dX12_copy_153 rfl ?_
      refine g_imul hC dX12_copy_154 ?_
      refine g_iload hC dX12_copy_155 rfl ?_
      refine g_iadd hC dX12_copy_157 ?_
      refine g_iload hC dX12_copy_158 rfl ?_
      refine g_iadd hC dX12_copy_160 ?_
      refine g_aload_n hC dX12_copy_161 rfl ?_
      refine g_getrS hC fl_X12_218_12.s (hT _ tg_M_37) (hP _ pt_M_37_59) dX12_copy_162 ?_
      refine g_iload hC dX12_copy_165 rfl ?_
      refine g_ialdSv (v := (mI σ 67 (Int32.toNatClampNeg x6))) hC (hT _ tg_M_67) rfl hw.1 rfl dX12_copy_167 ?_
      replace hw := hw.2
      refine g_topi (fun v101 ev101 => ?_)
      replace hw := hw v101 ev101
      have hin := hw.1
      replace hw := hw.2
      refine g_iastS (k := (Int32.toNatClampNeg (((40 * x3) + x4) + x6))) hC (hT _ tg_M_66) rfl hin dX12_copy_168 ?_
      refine g_iinc (v := x6 + 1) (lv' := [(6, .int (x6 + 1)), (0, .ref (xB X + 37)), (3, .int x3), (4, .int x4), (5, .int x5)]) hC dX12_copy_169 rfl rfl (hN 6 (by decide)) rfl ?_
      refine g_goto (tgt := 140) hC dX12_copy_172 rfl ?_
      refine mG.pick (lv' := [(0, .ref (xB X + 37)), (3, .int x3), (4, .int x4), (5, .int x5), (6, .int (x6 + 1))]) [1, 2, 3, 4, 0] rfl ?_
      exact ih _ _ _ _ _ hw
def w_X12_copy_103 (Q : Int32 → Mem → Prop) : Nat → Int32 → Int32 → Int32 → Int32 → Int32 → Int32 → Mem → Prop
  | 0, _, _, _, _, _, _, _ => False
  | n + 1, x1, x2, x3, x4, x5, x6, σ => (x5 ≤ x6 → (∃ m101 : Nat, w_X12_copy_140 Q m101 x3 x4 x5 0 σ)) ∧ (¬ x5 ≤ x6 → (vp_in (((40 * x1) + x2) + x6) 160 ∧ (∀ v102 : Int32, v102 = (mI σ 66 (Int32.toNatClampNeg (((40 * x1) + x2) + x6))) → (vp_in x6 40 ∧ (w_X12_copy_103 Q n x1 x2 x3 x4 x5 (x6 + 1) (sI σ 67 (Int32.toNatClampNeg x6) v102))))))
set_option maxRecDepth 4000 in
set_option maxHeartbeats 2000000 in
theorem t_X12_copy_103 {X : Cx} {d : Nat} (hC : mOK X cX12_copy RX12 "copy" (some .int) d 0 0) (hd : 2 ≤ d) (hN : ∀ i, i < 7 → i < xN X) (hP : ∀ e ∈ psM, e ∈ xP X) (hT : ∀ e ∈ tsM, e ∈ xT X) {Q : Int32 → Mem → Prop} : ∀ (n : Nat) (x1 : Int32) (x2 : Int32) (x3 : Int32) (x4 : Int32) (x5 : Int32) (x6 : Int32) (σ : Mem), w_X12_copy_103 Q n x1 x2 x3 x4 x5 x6 σ → mG X 103 [(0, .ref (xB X + 37)), (1, .int x1), (2, .int x2), (3, .int x3), (4, .int x4), (5, .int x5), (6, .int x6)] [] σ 0 0 (mQ X 0 0 (qI Q)) := by
  intro n
  induction n with
  | zero => intro x1 x2 x3 x4 x5 x6 σ hw; exact False.elim hw
  | succ n ih =>
    intro x1 x2 x3 x4 x5 x6 σ hw
    rw [w_X12_copy_103] at hw
    refine g_iload hC dX12_copy_103 rfl ?_
    refine g_iload hC dX12_copy_105 rfl ?_
    refine g_icmp_ge (tgt := 137) hC dX12_copy_107 rfl (fun c => ?_) (fun c => ?_)
    · replace hw := hw.1 c
      refine g_iconst (v := 0) hC dX12_copy_137 (by decide) ?_
      refine g_istore (lv' := [(6, .int 0), (0, .ref (xB X + 37)), (1, .int x1), (2, .int x2), (3, .int x3), (4, .int x4), (5, .int x5)]) hC dX12_copy_138 (hN 6 (by decide)) rfl ?_
      refine mG.pick (lv' := [(0, .ref (xB X + 37)), (3, .int x3), (4, .int x4), (5, .int x5), (6, .int 0)]) [1, 4, 5, 6, 0] rfl ?_
      obtain ⟨m101, hw⟩ := hw
      exact t_X12_copy_140 hC hd hN hP hT m101 _ _ _ _ _ hw
    · replace hw := hw.2 c
      refine g_aload_n hC dX12_copy_110 rfl ?_
      refine g_getrS hC fl_X12_218_12.s (hT _ tg_M_37) (hP _ pt_M_37_59) dX12_copy_111 ?_
      refine g_iload hC dX12_copy_114 rfl ?_
      refine g_aload_n hC dX12_copy_116 rfl ?_
      refine g_getrS hC fl_X12_215_12.s (hT _ tg_M_37) (hP _ pt_M_37_58) dX12_copy_117 ?_
      refine g_bipush (v := 40) hC dX12_copy_120 (by decide) ?_
      refine g_iload_n hC dX12_copy_122 rfl ?_
      refine g_imul hC dX12_copy_123 ?_
      refine g_iload_n hC dX12_copy_124 rfl ?_
      refine g_iadd hC dX12_copy_125 ?_
      refine g_iload hC dX12_copy_126 rfl ?_
      refine g_iadd hC dX12_copy_128 ?_
      refine g_ialdSv (v := (mI σ 66 (Int32.toNatClampNeg (((40 * x1) + x2) + x6)))) hC (hT _ tg_M_66) rfl hw.1 rfl dX12_copy_129 ?_
      replace hw := hw.2
      refine g_topi (fun v102 ev102 => ?_)
      replace hw := hw v102 ev102
      have hin := hw.1
      replace hw := hw.2
      refine g_iastS (k := (Int32.toNatClampNeg x6)) hC (hT _ tg_M_67) rfl hin dX12_copy_130 ?_
      refine g_iinc (v := x6 + 1) (lv' := [(6, .int (x6 + 1)), (0, .ref (xB X + 37)), (1, .int x1), (2, .int x2), (3, .int x3), (4, .int x4), (5, .int x5)]) hC dX12_copy_131 rfl rfl (hN 6 (by decide)) rfl ?_
      refine g_goto (tgt := 103) hC dX12_copy_134 rfl ?_
      refine mG.pick (lv' := [(0, .ref (xB X + 37)), (1, .int x1), (2, .int x2), (3, .int x3), (4, .int x4), (5, .int x5), (6, .int (x6 + 1))]) [1, 2, 3, 4, 5, 6, 0] rfl ?_
      exact ih _ _ _ _ _ _ _ hw
def w_X12_copy (σ : Mem) (x1 : Int32) (x2 : Int32) (x3 : Int32) (x4 : Int32) (x5 : Int32) (Q : Int32 → Mem → Prop) : Prop := w_X12_isSheet σ x1 (fun v101 s103 => (v101 = 0 → (Q (-2) s103)) ∧ (¬ v101 = 0 → (w_X12_isSheet s103 x3 (fun v104 s106 => (¬ v104 = 0 → (vp_in x1 4 ∧ (((mI s106 64 (Int32.toNatClampNeg x1)) < 0 → (Q (-11) s106)) ∧ (¬ (mI s106 64 (Int32.toNatClampNeg x1)) < 0 → (vp_in x3 4 ∧ ((0 ≤ (mI s106 64 (Int32.toNatClampNeg x3)) → (vp_in x1 4 ∧ (vp_in x3 4 ∧ (((mI s106 64 (Int32.toNatClampNeg x1)) = (mI s106 64 (Int32.toNatClampNeg x3)) → ((x5 < 0 → (Q (-12) s106)) ∧ (¬ x5 < 0 → ((x2 < 0 → (Q (-12) s106)) ∧ (¬ x2 < 0 → ((x4 < 0 → (Q (-12) s106)) ∧ (¬ x4 < 0 → (vp_in x1 4 ∧ ((((mI s106 65 (Int32.toNatClampNeg x1)) - x2) < x5 → (Q (-12) s106)) ∧ (¬ ((mI s106 65 (Int32.toNatClampNeg x1)) - x2) < x5 → (vp_in x3 4 ∧ ((x5 ≤ ((mI s106 65 (Int32.toNatClampNeg x3)) - x4) → (∃ m107 : Nat, w_X12_copy_103 Q m107 x1 x2 x3 x4 x5 0 s106)) ∧ (¬ x5 ≤ ((mI s106 65 (Int32.toNatClampNeg x3)) - x4) → (Q (-12) s106)))))))))))))) ∧ (¬ (mI s106 64 (Int32.toNatClampNeg x1)) = (mI s106 64 (Int32.toNatClampNeg x3)) → (Q (-13) s106)))))) ∧ (¬ 0 ≤ (mI s106 64 (Int32.toNatClampNeg x3)) → (Q (-11) s106)))))))) ∧ (v104 = 0 → (Q (-2) s106))))))
set_option maxRecDepth 4000 in
set_option maxHeartbeats 2000000 in
theorem t_X12_copy {X : Cx} {d : Nat} (hC : mOK X cX12_copy RX12 "copy" (some .int) d 0 0) (hd : 2 ≤ d) (hN : ∀ i, i < 7 → i < xN X) (hP : ∀ e ∈ psM, e ∈ xP X) (hT : ∀ e ∈ tsM, e ∈ xT X) {σ : Mem} {x1 : Int32} {x2 : Int32} {x3 : Int32} {x4 : Int32} {x5 : Int32} {Q : Int32 → Mem → Prop} (hw : w_X12_copy σ x1 x2 x3 x4 x5 Q) : mG X 0 [(0, .ref (xB X + 37)), (1, .int x1), (2, .int x2), (3, .int x3), (4, .int x4), (5, .int x5)] [] σ 0 0 (mQ X 0 0 (qI Q)) := by
  refine g_iload_n hC dX12_copy_0 rfl ?_
  refine mG.st (st1 := ([.int x1] : List Value).reverse ++ []) rfl ?_
  refine g_callS (As := [.int x1]) (st := []) hC yw_X12_isSheet ys_X12_isSheet tw_673 dX12_copy_1 (fun _ h => h) (fun _ h => h) (fun h => h) (c_X12_isSheet (d := 1) (Nat.le_refl _) hw) rfl (Nat.le_of_ble_eq_true rfl) (by omega) (by decide) (by decide) (kI fun v101 s103 hw => ?_)
  refine g_if_eq (tgt := 14) hC dX12_copy_4 rfl (fun c => ?_) (fun c => ?_)
  · replace hw := hw.1 c
    refine g_bipush (v := (-2)) hC dX12_copy_14 (by decide) ?_
    exact g_iret hC rfl (by decide) (by decide) dX12_copy_16 (fun _ => ⟨_, rfl, hw⟩)
  · replace hw := hw.2 c
    refine g_iload_n hC dX12_copy_7 rfl ?_
    refine mG.st (st1 := ([.int x3] : List Value).reverse ++ []) rfl ?_
    refine g_callS (As := [.int x3]) (st := []) hC yw_X12_isSheet ys_X12_isSheet tw_673 dX12_copy_8 (fun _ h => h) (fun _ h => h) (fun h => h) (c_X12_isSheet (d := 1) (Nat.le_refl _) hw) rfl (Nat.le_of_ble_eq_true rfl) (by omega) (by decide) (by decide) (kI fun v104 s106 hw => ?_)
    refine g_if_ne (tgt := 17) hC dX12_copy_11 rfl (fun c => ?_) (fun c => ?_)
    · replace hw := hw.1 c
      refine g_aload_n hC dX12_copy_17 rfl ?_
      refine g_getrS hC fl_X12_209_12.s (hT _ tg_M_37) (hP _ pt_M_37_56) dX12_copy_18 ?_
      refine g_iload_n hC dX12_copy_21 rfl ?_
      refine g_ialdSv (v := (mI s106 64 (Int32.toNatClampNeg x1))) hC (hT _ tg_M_64) rfl hw.1 rfl dX12_copy_22 ?_
      replace hw := hw.2
      refine g_if_lt (tgt := 35) hC dX12_copy_23 rfl (fun c => ?_) (fun c => ?_)
      · replace hw := hw.1 c
        refine g_bipush (v := (-11)) hC dX12_copy_35 (by decide) ?_
        exact g_iret hC rfl (by decide) (by decide) dX12_copy_37 (fun _ => ⟨_, rfl, hw⟩)
      · replace hw := hw.2 c
        refine g_aload_n hC dX12_copy_26 rfl ?_
        refine g_getrS hC fl_X12_209_12.s (hT _ tg_M_37) (hP _ pt_M_37_56) dX12_copy_27 ?_
        refine g_iload_n hC dX12_copy_30 rfl ?_
        refine g_ialdSv (v := (mI s106 64 (Int32.toNatClampNeg x3))) hC (hT _ tg_M_64) rfl hw.1 rfl dX12_copy_31 ?_
        replace hw := hw.2
        refine g_if_ge (tgt := 38) hC dX12_copy_32 rfl (fun c => ?_) (fun c => ?_)
        · replace hw := hw.1 c
          refine g_aload_n hC dX12_copy_38 rfl ?_
          refine g_getrS hC fl_X12_209_12.s (hT _ tg_M_37) (hP _ pt_M_37_56) dX12_copy_39 ?_
          refine g_iload_n hC dX12_copy_42 rfl ?_
          refine g_ialdSv (v := (mI s106 64 (Int32.toNatClampNeg x1))) hC (hT _ tg_M_64) rfl hw.1 rfl dX12_copy_43 ?_
          replace hw := hw.2
          refine g_aload_n hC dX12_copy_44 rfl ?_
          refine g_getrS hC fl_X12_209_12.s (hT _ tg_M_37) (hP _ pt_M_37_56) dX12_copy_45 ?_
          refine g_iload_n hC dX12_copy_48 rfl ?_
          refine g_ialdSv (v := (mI s106 64 (Int32.toNatClampNeg x3))) hC (hT _ tg_M_64) rfl hw.1 rfl dX12_copy_49 ?_
          replace hw := hw.2
          refine g_icmp_eq (tgt := 56) hC dX12_copy_50 rfl (fun c => ?_) (fun c => ?_)
          · replace hw := hw.1 c
            refine g_iload hC dX12_copy_56 rfl ?_
            refine g_if_lt (tgt := 97) hC dX12_copy_58 rfl (fun c => ?_) (fun c => ?_)
            · replace hw := hw.1 c
              refine g_bipush (v := (-12)) hC dX12_copy_97 (by decide) ?_
              exact g_iret hC rfl (by decide) (by decide) dX12_copy_99 (fun _ => ⟨_, rfl, hw⟩)
            · replace hw := hw.2 c
              refine g_iload_n hC dX12_copy_61 rfl ?_
              refine g_if_lt (tgt := 97) hC dX12_copy_62 rfl (fun c => ?_) (fun c => ?_)
              · replace hw := hw.1 c
                refine g_bipush (v := (-12)) hC dX12_copy_97 (by decide) ?_
                exact g_iret hC rfl (by decide) (by decide) dX12_copy_99 (fun _ => ⟨_, rfl, hw⟩)
              · replace hw := hw.2 c
                refine g_iload hC dX12_copy_65 rfl ?_
                refine g_if_lt (tgt := 97) hC dX12_copy_67 rfl (fun c => ?_) (fun c => ?_)
                · replace hw := hw.1 c
                  refine g_bipush (v := (-12)) hC dX12_copy_97 (by decide) ?_
                  exact g_iret hC rfl (by decide) (by decide) dX12_copy_99 (fun _ => ⟨_, rfl, hw⟩)
                · replace hw := hw.2 c
                  refine g_iload hC dX12_copy_70 rfl ?_
                  refine g_aload_n hC dX12_copy_72 rfl ?_
                  refine g_getrS hC fl_X12_212_12.s (hT _ tg_M_37) (hP _ pt_M_37_57) dX12_copy_73 ?_
                  refine g_iload_n hC dX12_copy_76 rfl ?_
                  refine g_ialdSv (v := (mI s106 65 (Int32.toNatClampNeg x1))) hC (hT _ tg_M_65) rfl hw.1 rfl dX12_copy_77 ?_
                  replace hw := hw.2
                  refine g_iload_n hC dX12_copy_78 rfl ?_
                  refine g_isub hC dX12_copy_79 ?_
                  refine g_icmp_gt (tgt := 97) hC dX12_copy_80 rfl (fun c => ?_) (fun c => ?_)
                  · replace hw := hw.1 c
                    refine g_bipush (v := (-12)) hC dX12_copy_97 (by decide) ?_
                    exact g_iret hC rfl (by decide) (by decide) dX12_copy_99 (fun _ => ⟨_, rfl, hw⟩)
                  · replace hw := hw.2 c
                    refine g_iload hC dX12_copy_83 rfl ?_
                    refine g_aload_n hC dX12_copy_85 rfl ?_
                    refine g_getrS hC fl_X12_212_12.s (hT _ tg_M_37) (hP _ pt_M_37_57) dX12_copy_86 ?_
                    refine g_iload_n hC dX12_copy_89 rfl ?_
                    refine g_ialdSv (v := (mI s106 65 (Int32.toNatClampNeg x3))) hC (hT _ tg_M_65) rfl hw.1 rfl dX12_copy_90 ?_
                    replace hw := hw.2
                    refine g_iload hC dX12_copy_91 rfl ?_
                    refine g_isub hC dX12_copy_93 ?_
                    refine g_icmp_le (tgt := 100) hC dX12_copy_94 rfl (fun c => ?_) (fun c => ?_)
                    · replace hw := hw.1 c
                      refine g_iconst (v := 0) hC dX12_copy_100 (by decide) ?_
                      refine g_istore (lv' := [(6, .int 0), (0, .ref (xB X + 37)), (1, .int x1), (2, .int x2), (3, .int x3), (4, .int x4), (5, .int x5)]) hC dX12_copy_101 (hN 6 (by decide)) rfl ?_
                      refine mG.pick (lv' := [(0, .ref (xB X + 37)), (1, .int x1), (2, .int x2), (3, .int x3), (4, .int x4), (5, .int x5), (6, .int 0)]) [1, 2, 3, 4, 5, 6, 0] rfl ?_
                      obtain ⟨m107, hw⟩ := hw
                      exact t_X12_copy_103 hC hd hN hP hT m107 _ _ _ _ _ _ _ hw
                    · replace hw := hw.2 c
                      refine g_bipush (v := (-12)) hC dX12_copy_97 (by decide) ?_
                      exact g_iret hC rfl (by decide) (by decide) dX12_copy_99 (fun _ => ⟨_, rfl, hw⟩)
          · replace hw := hw.2 c
            refine g_bipush (v := (-13)) hC dX12_copy_53 (by decide) ?_
            exact g_iret hC rfl (by decide) (by decide) dX12_copy_55 (fun _ => ⟨_, rfl, hw⟩)
        · replace hw := hw.2 c
          refine g_bipush (v := (-11)) hC dX12_copy_35 (by decide) ?_
          exact g_iret hC rfl (by decide) (by decide) dX12_copy_37 (fun _ => ⟨_, rfl, hw⟩)
    · replace hw := hw.2 c
      refine g_bipush (v := (-2)) hC dX12_copy_14 (by decide) ?_
      exact g_iret hC rfl (by decide) (by decide) dX12_copy_16 (fun _ => ⟨_, rfl, hw⟩)
set_option maxRecDepth 4000 in
theorem c_X12_copy {Z : Fx} {ps ts : List (Nat × Nat × Nat)} {d : Nat} (hd : 2 ≤ d) (hP : ∀ e ∈ psM, e ∈ ps) (hT : ∀ e ∈ tsM, e ∈ ts) {σ : Mem} {x1 : Int32} {x2 : Int32} {x3 : Int32} {x4 : Int32} {x5 : Int32} {Q : Int32 → Mem → Prop} (hw : w_X12_copy σ x1 x2 x3 x4 x5 Q) : mM Z ps ts yX12_copy cX12_copy 7 (some .int) d 0 0 [.ref (Z.2.2 + 37), .int x1, .int x2, .int x3, .int x4, .int x5] σ (qI Q) := by
  refine mM.of (by decide) (Nat.le_of_ble_eq_true rfl) rfl (fun X hZ hp ht hn hC => ?_)
  subst hZ; subst hp; subst ht
  exact t_X12_copy hC hd (fun i h => by rw [hn]; exact h) hP hT hw
def w_X12_plates_154 (Q : Int32 → Mem → Prop) (K70 : Int32 → Int32 → Int32 → Int32 → Int32 → Mem → Prop) (x1 : Int32) (x3 : Int32) (x4 : Int32) (x6 : Int32) (xy0 : Int32) (xy1 : Int32) (σ : Mem) : Prop := K70 x1 x3 x4 (xy1 + xy0) (x6 + 1) σ
set_option maxRecDepth 4000 in
set_option maxHeartbeats 2000000 in
theorem t_X12_plates_154 {X : Cx} {d : Nat} (hC : mOK X cX12_plates RX12 "plates" (some .int) d 0 0) (hd : 2 ≤ d) (hN : ∀ i, i < 10 → i < xN X) (hP : ∀ e ∈ psM, e ∈ xP X) (hT : ∀ e ∈ tsM, e ∈ xT X) {Q : Int32 → Mem → Prop} {K70 : Int32 → Int32 → Int32 → Int32 → Int32 → Mem → Prop} (hK70 : ∀ (x1 : Int32) (x3 : Int32) (x4 : Int32) (x5 : Int32) (x6 : Int32) (s : Mem), K70 x1 x3 x4 x5 x6 s → mG X 70 [(0, .ref (xB X + 37)), (1, .int x1), (3, .int x3), (4, .int x4), (5, .int x5), (6, .int x6)] [] s 0 0 (mQ X 0 0 (qI Q))) {x1 : Int32} {x3 : Int32} {x4 : Int32} {x6 : Int32} {xy0 : Int32} {xy1 : Int32} {σ : Mem} (hw : w_X12_plates_154 Q K70 x1 x3 x4 x6 xy0 xy1 σ) : mG X 154 [(0, .ref (xB X + 37)), (1, .int x1), (3, .int x3), (4, .int x4), (6, .int x6)] [.int xy0, .int xy1] σ 0 0 (mQ X 0 0 (qI Q)) := by
  refine g_iadd hC dX12_plates_154 ?_
  refine g_istore (lv' := [(5, .int (xy1 + xy0)), (0, .ref (xB X + 37)), (1, .int x1), (3, .int x3), (4, .int x4), (6, .int x6)]) hC dX12_plates_155 (hN 5 (by decide)) rfl ?_
  refine g_iinc (v := x6 + 1) (lv' := [(6, .int (x6 + 1)), (5, .int (xy1 + xy0)), (0, .ref (xB X + 37)), (1, .int x1), (3, .int x3), (4, .int x4)]) hC dX12_plates_157 rfl rfl (hN 6 (by decide)) rfl ?_
  refine g_goto (tgt := 70) hC dX12_plates_160 rfl ?_
  refine mG.pick (lv' := [(0, .ref (xB X + 37)), (1, .int x1), (3, .int x3), (4, .int x4), (5, .int (xy1 + xy0)), (6, .int (x6 + 1))]) [2, 3, 4, 5, 1, 0] rfl ?_
  exact hK70 _ _ _ _ _ _ hw
def w_X12_plates_70 (Q : Int32 → Mem → Prop) : Nat → Int32 → Int32 → Int32 → Int32 → Int32 → Mem → Prop
  | 0, _, _, _, _, _, _ => False
  | n + 1, x1, x3, x4, x5, x6, σ => (x4 ≤ x6 → (Q x5 σ)) ∧ (¬ x4 ≤ x6 → (∀ v101 : Int64, v101 = ((Int32.toInt64 x3) + (2 * (Int32.toInt64 x6))) → (((lg_cmp v101 0) < 0 → (Q (-12) σ)) ∧ (¬ (lg_cmp v101 0) < 0 → (vp_in x1 4 ∧ (((lg_cmp (v101 + 1) (Int32.toInt64 (mI σ 65 (Int32.toNatClampNeg x1)))) < 0 → (∀ v102 : Int32, v102 = ((40 * x1) + (Int64.toInt32 v101)) → (vp_in v102 160 ∧ (vp_in (v102 + 1) 160 ∧ (w_X12_plate σ (mI σ 66 (Int32.toNatClampNeg v102)) (mI σ 66 (Int32.toNatClampNeg (v102 + 1))) (fun v103 s105 => (v103 < 0 → (w_X12_plates_154 Q (fun z0 z1 z2 z3 z4 z5 => w_X12_plates_70 Q n z0 z1 z2 z3 z4 z5) x1 x3 x4 x6 0 x5 s105)) ∧ (¬ v103 < 0 → (w_X12_plates_154 Q (fun z0 z1 z2 z3 z4 z5 => w_X12_plates_70 Q n z0 z1 z2 z3 z4 z5) x1 x3 x4 x6 1 x5 s105)))))))) ∧ (¬ (lg_cmp (v101 + 1) (Int32.toInt64 (mI σ 65 (Int32.toNatClampNeg x1)))) < 0 → (Q (-12) σ))))))))
set_option maxRecDepth 4000 in
set_option maxHeartbeats 2000000 in
theorem t_X12_plates_70 {X : Cx} {d : Nat} (hC : mOK X cX12_plates RX12 "plates" (some .int) d 0 0) (hd : 2 ≤ d) (hN : ∀ i, i < 10 → i < xN X) (hP : ∀ e ∈ psM, e ∈ xP X) (hT : ∀ e ∈ tsM, e ∈ xT X) {Q : Int32 → Mem → Prop} : ∀ (n : Nat) (x1 : Int32) (x3 : Int32) (x4 : Int32) (x5 : Int32) (x6 : Int32) (σ : Mem), w_X12_plates_70 Q n x1 x3 x4 x5 x6 σ → mG X 70 [(0, .ref (xB X + 37)), (1, .int x1), (3, .int x3), (4, .int x4), (5, .int x5), (6, .int x6)] [] σ 0 0 (mQ X 0 0 (qI Q)) := by
  intro n
  induction n with
  | zero => intro x1 x3 x4 x5 x6 σ hw; exact False.elim hw
  | succ n ih =>
    intro x1 x3 x4 x5 x6 σ hw
    rw [w_X12_plates_70] at hw
    refine g_iload hC dX12_plates_70 rfl ?_
    refine g_iload hC dX12_plates_72 rfl ?_
    refine g_icmp_ge (tgt := 163) hC dX12_plates_74 rfl (fun c => ?_) (fun c => ?_)
    · replace hw := hw.1 c
      refine g_iload hC dX12_plates_163 rfl ?_
      exact g_iret hC rfl (by decide) (by decide) dX12_plates_165 (fun _ => ⟨_, rfl, hw⟩)
    · replace hw := hw.2 c
      refine g_iload_n hC dX12_plates_77 rfl ?_
      refine g_i2l hC dX12_plates_78 ?_
      refine g_ldc2 hC tw_694 dX12_plates_79 ?_
      refine g_iload hC dX12_plates_82 rfl ?_
      refine g_i2l hC dX12_plates_84 ?_
      refine g_lmul hC dX12_plates_85 ?_
      refine g_ladd hC dX12_plates_86 ?_
      refine g_topj (fun v101 ev101 => ?_)
      replace hw := hw v101 ev101
      refine g_lstore (lv' := [(7, .long v101), (0, .ref (xB X + 37)), (1, .int x1), (3, .int x3), (4, .int x4), (5, .int x5), (6, .int x6)]) hC dX12_plates_87 (hN 8 (by decide)) rfl ?_
      refine g_lload hC dX12_plates_89 rfl ?_
      refine g_lconst (v := 0) hC dX12_plates_91 (by decide) ?_
      refine g_lcmp hC dX12_plates_92 ?_
      refine g_if_lt (tgt := 111) hC dX12_plates_93 rfl (fun c => ?_) (fun c => ?_)
      · replace hw := hw.1 c
        refine g_bipush (v := (-12)) hC dX12_plates_111 (by decide) ?_
        exact g_iret hC rfl (by decide) (by decide) dX12_plates_113 (fun _ => ⟨_, rfl, hw⟩)
      · replace hw := hw.2 c
        refine g_lload hC dX12_plates_96 rfl ?_
        refine g_lconst (v := 1) hC dX12_plates_98 (by decide) ?_
        refine g_ladd hC dX12_plates_99 ?_
        refine g_aload_n hC dX12_plates_100 rfl ?_
        refine g_getrS hC fl_X12_212_12.s (hT _ tg_M_37) (hP _ pt_M_37_57) dX12_plates_101 ?_
        refine g_iload_n hC dX12_plates_104 rfl ?_
        refine g_ialdSv (v := (mI σ 65 (Int32.toNatClampNeg x1))) hC (hT _ tg_M_65) rfl hw.1 rfl dX12_plates_105 ?_
        replace hw := hw.2
        refine g_i2l hC dX12_plates_106 ?_
        refine g_lcmp hC dX12_plates_107 ?_
        refine g_if_lt (tgt := 114) hC dX12_plates_108 rfl (fun c => ?_) (fun c => ?_)
        · replace hw := hw.1 c
          refine g_bipush (v := 40) hC dX12_plates_114 (by decide) ?_
          refine g_iload_n hC dX12_plates_116 rfl ?_
          refine g_imul hC dX12_plates_117 ?_
          refine g_lload hC dX12_plates_118 rfl ?_
          refine g_l2i hC dX12_plates_120 ?_
          refine g_iadd hC dX12_plates_121 ?_
          refine g_topi (fun v102 ev102 => ?_)
          replace hw := hw v102 ev102
          refine g_istore (lv' := [(9, .int v102), (7, .long v101), (0, .ref (xB X + 37)), (1, .int x1), (3, .int x3), (4, .int x4), (5, .int x5), (6, .int x6)]) hC dX12_plates_122 (hN 9 (by decide)) rfl ?_
          refine g_iload hC dX12_plates_124 rfl ?_
          refine g_aload_n hC dX12_plates_126 rfl ?_
          refine g_aload_n hC dX12_plates_127 rfl ?_
          refine g_getrS hC fl_X12_215_12.s (hT _ tg_M_37) (hP _ pt_M_37_58) dX12_plates_128 ?_
          refine g_iload hC dX12_plates_131 rfl ?_
          refine g_ialdSv (v := (mI σ 66 (Int32.toNatClampNeg v102))) hC (hT _ tg_M_66) rfl hw.1 rfl dX12_plates_133 ?_
          replace hw := hw.2
          refine g_aload_n hC dX12_plates_134 rfl ?_
          refine g_getrS hC fl_X12_215_12.s (hT _ tg_M_37) (hP _ pt_M_37_58) dX12_plates_135 ?_
          refine g_iload hC dX12_plates_138 rfl ?_
          refine g_iconst (v := 1) hC dX12_plates_140 (by decide) ?_
          refine g_iadd hC dX12_plates_141 ?_
          refine g_ialdSv (v := (mI σ 66 (Int32.toNatClampNeg (v102 + 1)))) hC (hT _ tg_M_66) rfl hw.1 rfl dX12_plates_142 ?_
          replace hw := hw.2
          refine g_known (fun hS => ?_)
          refine mG.st (st1 := ([.int (mI σ 66 (Int32.toNatClampNeg v102)), .int (mI σ 66 (Int32.toNatClampNeg (v102 + 1)))] : List Value).reverse ++ .ref (xB X + 37) :: [.int x5]) rfl ?_
          refine g_callV (As := [.int (mI σ 66 (Int32.toNatClampNeg v102)), .int (mI σ 66 (Int32.toNatClampNeg (v102 + 1)))]) (st := [.int x5]) hC (hS.2 _ (hT _ tg_M_37)) (by decide) ycl_12_X12_plate yw_X12_plate yv_X12_plate tw_695 dX12_plates_143 (fun _ h => h) (fun _ h => h) (fun h => h) (c_X12_plate (d := 1) (Nat.le_refl _) hP hT hw) rfl (Nat.le_of_ble_eq_true rfl) (by omega) (by decide) (by decide) (kI fun v103 s105 hw => ?_)
          refine g_if_lt (tgt := 153) hC dX12_plates_146 rfl (fun c => ?_) (fun c => ?_)
          · replace hw := hw.1 c
            refine g_iconst (v := 0) hC dX12_plates_153 (by decide) ?_
            refine mG.pick (lv' := [(0, .ref (xB X + 37)), (1, .int x1), (3, .int x3), (4, .int x4), (6, .int x6)]) [2, 3, 4, 5, 7] rfl ?_
            exact t_X12_plates_154 hC hd hN hP hT ih hw
          · replace hw := hw.2 c
            refine g_iconst (v := 1) hC dX12_plates_149 (by decide) ?_
            refine g_goto (tgt := 154) hC dX12_plates_150 rfl ?_
            refine mG.pick (lv' := [(0, .ref (xB X + 37)), (1, .int x1), (3, .int x3), (4, .int x4), (6, .int x6)]) [2, 3, 4, 5, 7] rfl ?_
            exact t_X12_plates_154 hC hd hN hP hT ih hw
        · replace hw := hw.2 c
          refine g_bipush (v := (-12)) hC dX12_plates_111 (by decide) ?_
          exact g_iret hC rfl (by decide) (by decide) dX12_plates_113 (fun _ => ⟨_, rfl, hw⟩)
def w_X12_plates_52 (Q : Int32 → Mem → Prop) (x1 : Int32) (x3 : Int32) (x4 : Int32) (σ : Mem) : Prop := vp_in x1 4 ∧ ((0 ≤ (mI σ 64 (Int32.toNatClampNeg x1)) → (∃ m101 : Nat, w_X12_plates_70 Q m101 x1 x3 x4 0 0 σ)) ∧ (¬ 0 ≤ (mI σ 64 (Int32.toNatClampNeg x1)) → (Q (-11) σ)))
set_option maxRecDepth 4000 in
set_option maxHeartbeats 2000000 in
theorem t_X12_plates_52 {X : Cx} {d : Nat} (hC : mOK X cX12_plates RX12 "plates" (some .int) d 0 0) (hd : 2 ≤ d) (hN : ∀ i, i < 10 → i < xN X) (hP : ∀ e ∈ psM, e ∈ xP X) (hT : ∀ e ∈ tsM, e ∈ xT X) {Q : Int32 → Mem → Prop} {x1 : Int32} {x3 : Int32} {x4 : Int32} {σ : Mem} (hw : w_X12_plates_52 Q x1 x3 x4 σ) : mG X 52 [(0, .ref (xB X + 37)), (1, .int x1), (3, .int x3), (4, .int x4)] [] σ 0 0 (mQ X 0 0 (qI Q)) := by
  refine g_aload_n hC dX12_plates_52 rfl ?_
  refine g_getrS hC fl_X12_209_12.s (hT _ tg_M_37) (hP _ pt_M_37_56) dX12_plates_53 ?_
  refine g_iload_n hC dX12_plates_56 rfl ?_
  refine g_ialdSv (v := (mI σ 64 (Int32.toNatClampNeg x1))) hC (hT _ tg_M_64) rfl hw.1 rfl dX12_plates_57 ?_
  replace hw := hw.2
  refine g_if_ge (tgt := 64) hC dX12_plates_58 rfl (fun c => ?_) (fun c => ?_)
  · replace hw := hw.1 c
    refine g_iconst (v := 0) hC dX12_plates_64 (by decide) ?_
    refine g_istore (lv' := [(5, .int 0), (0, .ref (xB X + 37)), (1, .int x1), (3, .int x3), (4, .int x4)]) hC dX12_plates_65 (hN 5 (by decide)) rfl ?_
    refine g_iconst (v := 0) hC dX12_plates_67 (by decide) ?_
    refine g_istore (lv' := [(6, .int 0), (5, .int 0), (0, .ref (xB X + 37)), (1, .int x1), (3, .int x3), (4, .int x4)]) hC dX12_plates_68 (hN 6 (by decide)) rfl ?_
    refine mG.pick (lv' := [(0, .ref (xB X + 37)), (1, .int x1), (3, .int x3), (4, .int x4), (5, .int 0), (6, .int 0)]) [2, 3, 4, 5, 1, 0] rfl ?_
    obtain ⟨m101, hw⟩ := hw
    exact t_X12_plates_70 hC hd hN hP hT m101 _ _ _ _ _ _ hw
  · replace hw := hw.2 c
    refine g_bipush (v := (-11)) hC dX12_plates_61 (by decide) ?_
    exact g_iret hC rfl (by decide) (by decide) dX12_plates_63 (fun _ => ⟨_, rfl, hw⟩)
def w_X12_plates (σ : Mem) (x1 : Int32) (x2 : Int32) (x3 : Int32) (x4 : Int32) (Q : Int32 → Mem → Prop) : Prop := w_X12_isSheet σ x1 (fun v101 s103 => (v101 = 0 → (Q (-2) s103)) ∧ (¬ v101 = 0 → (w_X12_isIn s103 x2 0 2 (fun v104 s106 => (v104 = 0 → (Q (-2) s106)) ∧ (¬ v104 = 0 → (w_X12_isIn s106 x4 0 8 (fun v107 s109 => (¬ v107 = 0 → (vp_in x1 4 ∧ (((mI s109 64 (Int32.toNatClampNeg x1)) < 0 → (w_X12_plates_52 Q x1 x3 x4 s109)) ∧ (¬ (mI s109 64 (Int32.toNatClampNeg x1)) < 0 → (vp_in x1 4 ∧ (((mI s109 64 (Int32.toNatClampNeg x1)) = x2 → (w_X12_plates_52 Q x1 x3 x4 s109)) ∧ (¬ (mI s109 64 (Int32.toNatClampNeg x1)) = x2 → (Q (-13) s109)))))))) ∧ (v107 = 0 → (Q (-2) s109)))))))))
set_option maxRecDepth 4000 in
set_option maxHeartbeats 2000000 in
theorem t_X12_plates {X : Cx} {d : Nat} (hC : mOK X cX12_plates RX12 "plates" (some .int) d 0 0) (hd : 2 ≤ d) (hN : ∀ i, i < 10 → i < xN X) (hP : ∀ e ∈ psM, e ∈ xP X) (hT : ∀ e ∈ tsM, e ∈ xT X) {σ : Mem} {x1 : Int32} {x2 : Int32} {x3 : Int32} {x4 : Int32} {Q : Int32 → Mem → Prop} (hw : w_X12_plates σ x1 x2 x3 x4 Q) : mG X 0 [(0, .ref (xB X + 37)), (1, .int x1), (2, .int x2), (3, .int x3), (4, .int x4)] [] σ 0 0 (mQ X 0 0 (qI Q)) := by
  refine g_iload_n hC dX12_plates_0 rfl ?_
  refine mG.st (st1 := ([.int x1] : List Value).reverse ++ []) rfl ?_
  refine g_callS (As := [.int x1]) (st := []) hC yw_X12_isSheet ys_X12_isSheet tw_673 dX12_plates_1 (fun _ h => h) (fun _ h => h) (fun h => h) (c_X12_isSheet (d := 1) (Nat.le_refl _) hw) rfl (Nat.le_of_ble_eq_true rfl) (by omega) (by decide) (by decide) (kI fun v101 s103 hw => ?_)
  refine g_if_eq (tgt := 27) hC dX12_plates_4 rfl (fun c => ?_) (fun c => ?_)
  · replace hw := hw.1 c
    refine g_bipush (v := (-2)) hC dX12_plates_27 (by decide) ?_
    exact g_iret hC rfl (by decide) (by decide) dX12_plates_29 (fun _ => ⟨_, rfl, hw⟩)
  · replace hw := hw.2 c
    refine g_iload_n hC dX12_plates_7 rfl ?_
    refine g_iconst (v := 0) hC dX12_plates_8 (by decide) ?_
    refine g_iconst (v := 2) hC dX12_plates_9 (by decide) ?_
    refine mG.st (st1 := ([.int x2, .int 0, .int 2] : List Value).reverse ++ []) rfl ?_
    refine g_callS (As := [.int x2, .int 0, .int 2]) (st := []) hC yw_X12_isIn ys_X12_isIn tw_465 dX12_plates_10 (fun _ h => h) (fun _ h => h) (fun h => h) (c_X12_isIn (d := 0) (Nat.le_refl _) hw) rfl (Nat.le_of_ble_eq_true rfl) (by omega) (by decide) (by decide) (kI fun v104 s106 hw => ?_)
    refine g_if_eq (tgt := 27) hC dX12_plates_13 rfl (fun c => ?_) (fun c => ?_)
    · replace hw := hw.1 c
      refine g_bipush (v := (-2)) hC dX12_plates_27 (by decide) ?_
      exact g_iret hC rfl (by decide) (by decide) dX12_plates_29 (fun _ => ⟨_, rfl, hw⟩)
    · replace hw := hw.2 c
      refine g_iload hC dX12_plates_16 rfl ?_
      refine g_iconst (v := 0) hC dX12_plates_18 (by decide) ?_
      refine g_bipush (v := 8) hC dX12_plates_19 (by decide) ?_
      refine mG.st (st1 := ([.int x4, .int 0, .int 8] : List Value).reverse ++ []) rfl ?_
      refine g_callS (As := [.int x4, .int 0, .int 8]) (st := []) hC yw_X12_isIn ys_X12_isIn tw_465 dX12_plates_21 (fun _ h => h) (fun _ h => h) (fun h => h) (c_X12_isIn (d := 0) (Nat.le_refl _) hw) rfl (Nat.le_of_ble_eq_true rfl) (by omega) (by decide) (by decide) (kI fun v107 s109 hw => ?_)
      refine g_if_ne (tgt := 30) hC dX12_plates_24 rfl (fun c => ?_) (fun c => ?_)
      · replace hw := hw.1 c
        refine g_aload_n hC dX12_plates_30 rfl ?_
        refine g_getrS hC fl_X12_209_12.s (hT _ tg_M_37) (hP _ pt_M_37_56) dX12_plates_31 ?_
        refine g_iload_n hC dX12_plates_34 rfl ?_
        refine g_ialdSv (v := (mI s109 64 (Int32.toNatClampNeg x1))) hC (hT _ tg_M_64) rfl hw.1 rfl dX12_plates_35 ?_
        replace hw := hw.2
        refine g_if_lt (tgt := 52) hC dX12_plates_36 rfl (fun c => ?_) (fun c => ?_)
        · replace hw := hw.1 c
          refine mG.pick (lv' := [(0, .ref (xB X + 37)), (1, .int x1), (3, .int x3), (4, .int x4)]) [0, 1, 3, 4] rfl ?_
          exact t_X12_plates_52 hC hd hN hP hT hw
        · replace hw := hw.2 c
          refine g_aload_n hC dX12_plates_39 rfl ?_
          refine g_getrS hC fl_X12_209_12.s (hT _ tg_M_37) (hP _ pt_M_37_56) dX12_plates_40 ?_
          refine g_iload_n hC dX12_plates_43 rfl ?_
          refine g_ialdSv (v := (mI s109 64 (Int32.toNatClampNeg x1))) hC (hT _ tg_M_64) rfl hw.1 rfl dX12_plates_44 ?_
          replace hw := hw.2
          refine g_iload_n hC dX12_plates_45 rfl ?_
          refine g_icmp_eq (tgt := 52) hC dX12_plates_46 rfl (fun c => ?_) (fun c => ?_)
          · replace hw := hw.1 c
            refine mG.pick (lv' := [(0, .ref (xB X + 37)), (1, .int x1), (3, .int x3), (4, .int x4)]) [0, 1, 3, 4] rfl ?_
            exact t_X12_plates_52 hC hd hN hP hT hw
          · replace hw := hw.2 c
            refine g_bipush (v := (-13)) hC dX12_plates_49 (by decide) ?_
            exact g_iret hC rfl (by decide) (by decide) dX12_plates_51 (fun _ => ⟨_, rfl, hw⟩)
      · replace hw := hw.2 c
        refine g_bipush (v := (-2)) hC dX12_plates_27 (by decide) ?_
        exact g_iret hC rfl (by decide) (by decide) dX12_plates_29 (fun _ => ⟨_, rfl, hw⟩)
set_option maxRecDepth 4000 in
theorem c_X12_plates {Z : Fx} {ps ts : List (Nat × Nat × Nat)} {d : Nat} (hd : 2 ≤ d) (hP : ∀ e ∈ psM, e ∈ ps) (hT : ∀ e ∈ tsM, e ∈ ts) {σ : Mem} {x1 : Int32} {x2 : Int32} {x3 : Int32} {x4 : Int32} {Q : Int32 → Mem → Prop} (hw : w_X12_plates σ x1 x2 x3 x4 Q) : mM Z ps ts yX12_plates cX12_plates 10 (some .int) d 0 0 [.ref (Z.2.2 + 37), .int x1, .int x2, .int x3, .int x4] σ (qI Q) := by
  refine mM.of (by decide) (Nat.le_of_ble_eq_true rfl) rfl (fun X hZ hp ht hn hC => ?_)
  subst hZ; subst hp; subst ht
  exact t_X12_plates hC hd (fun i h => by rw [hn]; exact h) hP hT hw
def w_X12_taken_69 (Q : Int32 → Mem → Prop) (x1 : Int32) (xy0 : Int32) (σ : Mem) : Prop := (xy0 = 0 → (Q (-13) σ)) ∧ (¬ xy0 = 0 → (vp_in x1 5 ∧ (Q (mI σ 41 (Int32.toNatClampNeg x1)) σ)))
set_option maxRecDepth 4000 in
set_option maxHeartbeats 2000000 in
theorem t_X12_taken_69 {X : Cx} {d : Nat} (hC : mOK X cX12_taken RX12 "taken" (some .int) d 0 0) (hd : 2 ≤ d) (hN : ∀ i, i < 5 → i < xN X) (hP : ∀ e ∈ psM, e ∈ xP X) (hT : ∀ e ∈ tsM, e ∈ xT X) {Q : Int32 → Mem → Prop} {x1 : Int32} {xy0 : Int32} {σ : Mem} (hw : w_X12_taken_69 Q x1 xy0 σ) : mG X 69 [(0, .ref (xB X + 37)), (1, .int x1)] [.int xy0] σ 0 0 (mQ X 0 0 (qI Q)) := by
  refine g_istore (lv' := [(4, .int xy0), (0, .ref (xB X + 37)), (1, .int x1)]) hC dX12_taken_69 (hN 4 (by decide)) rfl ?_
  refine g_iload hC dX12_taken_71 rfl ?_
  refine g_if_eq (tgt := 85) hC dX12_taken_73 rfl (fun c => ?_) (fun c => ?_)
  · replace hw := hw.1 c
    refine g_bipush (v := (-13)) hC dX12_taken_85 (by decide) ?_
    exact g_iret hC rfl (by decide) (by decide) dX12_taken_87 (fun _ => ⟨_, rfl, hw⟩)
  · replace hw := hw.2 c
    refine g_aload_n hC dX12_taken_76 rfl ?_
    refine g_getrS hC fl_X12_24_12.s (hT _ tg_M_37) (hP _ pt_M_37_5) dX12_taken_77 ?_
    refine g_iload_n hC dX12_taken_80 rfl ?_
    refine g_ialdSv (v := (mI σ 41 (Int32.toNatClampNeg x1))) hC (hT _ tg_M_41) rfl hw.1 rfl dX12_taken_81 ?_
    replace hw := hw.2
    refine g_goto (tgt := 87) hC dX12_taken_82 rfl ?_
    exact g_iret hC rfl (by decide) (by decide) dX12_taken_87 (fun _ => ⟨_, rfl, hw⟩)
def w_X12_taken_64 (Q : Int32 → Mem → Prop) (x1 : Int32) (σ : Mem) : Prop := w_X12_taken_69 Q x1 1 σ
set_option maxRecDepth 4000 in
set_option maxHeartbeats 2000000 in
theorem t_X12_taken_64 {X : Cx} {d : Nat} (hC : mOK X cX12_taken RX12 "taken" (some .int) d 0 0) (hd : 2 ≤ d) (hN : ∀ i, i < 5 → i < xN X) (hP : ∀ e ∈ psM, e ∈ xP X) (hT : ∀ e ∈ tsM, e ∈ xT X) {Q : Int32 → Mem → Prop} {x1 : Int32} {σ : Mem} (hw : w_X12_taken_64 Q x1 σ) : mG X 64 [(0, .ref (xB X + 37)), (1, .int x1)] [] σ 0 0 (mQ X 0 0 (qI Q)) := by
  refine g_iconst (v := 1) hC dX12_taken_64 (by decide) ?_
  refine g_goto (tgt := 69) hC dX12_taken_65 rfl ?_
  refine mG.pick (lv' := [(0, .ref (xB X + 37)), (1, .int x1)]) [0, 1] rfl ?_
  exact t_X12_taken_69 hC hd hN hP hT hw
def w_X12_taken_68 (Q : Int32 → Mem → Prop) (x1 : Int32) (σ : Mem) : Prop := w_X12_taken_69 Q x1 0 σ
set_option maxRecDepth 4000 in
set_option maxHeartbeats 2000000 in
theorem t_X12_taken_68 {X : Cx} {d : Nat} (hC : mOK X cX12_taken RX12 "taken" (some .int) d 0 0) (hd : 2 ≤ d) (hN : ∀ i, i < 5 → i < xN X) (hP : ∀ e ∈ psM, e ∈ xP X) (hT : ∀ e ∈ tsM, e ∈ xT X) {Q : Int32 → Mem → Prop} {x1 : Int32} {σ : Mem} (hw : w_X12_taken_68 Q x1 σ) : mG X 68 [(0, .ref (xB X + 37)), (1, .int x1)] [] σ 0 0 (mQ X 0 0 (qI Q)) := by
  refine g_iconst (v := 0) hC dX12_taken_68 (by decide) ?_
  refine mG.pick (lv' := [(0, .ref (xB X + 37)), (1, .int x1)]) [0, 1] rfl ?_
  exact t_X12_taken_69 hC hd hN hP hT hw
def w_X12_taken_54 (Q : Int32 → Mem → Prop) (x1 : Int32) (x2 : Int32) (x3 : Int32) (σ : Mem) : Prop := (¬ x2 = 2 → (w_X12_taken_68 Q x1 σ)) ∧ (x2 = 2 → ((¬ x3 = 4 → (w_X12_taken_68 Q x1 σ)) ∧ (x3 = 4 → (w_X12_taken_64 Q x1 σ))))
set_option maxRecDepth 4000 in
set_option maxHeartbeats 2000000 in
theorem t_X12_taken_54 {X : Cx} {d : Nat} (hC : mOK X cX12_taken RX12 "taken" (some .int) d 0 0) (hd : 2 ≤ d) (hN : ∀ i, i < 5 → i < xN X) (hP : ∀ e ∈ psM, e ∈ xP X) (hT : ∀ e ∈ tsM, e ∈ xT X) {Q : Int32 → Mem → Prop} {x1 : Int32} {x2 : Int32} {x3 : Int32} {σ : Mem} (hw : w_X12_taken_54 Q x1 x2 x3 σ) : mG X 54 [(0, .ref (xB X + 37)), (1, .int x1), (2, .int x2), (3, .int x3)] [] σ 0 0 (mQ X 0 0 (qI Q)) := by
  refine g_iload_n hC dX12_taken_54 rfl ?_
  refine g_iconst (v := 2) hC dX12_taken_55 (by decide) ?_
  refine g_icmp_ne (tgt := 68) hC dX12_taken_56 rfl (fun c => ?_) (fun c => ?_)
  · replace hw := hw.1 c
    refine mG.pick (lv' := [(0, .ref (xB X + 37)), (1, .int x1)]) [0, 1] rfl ?_
    exact t_X12_taken_68 hC hd hN hP hT hw
  · replace hw := hw.2 c
    refine g_iload_n hC dX12_taken_59 rfl ?_
    refine g_iconst (v := 4) hC dX12_taken_60 (by decide) ?_
    refine g_icmp_ne (tgt := 68) hC dX12_taken_61 rfl (fun c => ?_) (fun c => ?_)
    · replace hw := hw.1 c
      refine mG.pick (lv' := [(0, .ref (xB X + 37)), (1, .int x1)]) [0, 1] rfl ?_
      exact t_X12_taken_68 hC hd hN hP hT hw
    · replace hw := hw.2 c
      refine mG.pick (lv' := [(0, .ref (xB X + 37)), (1, .int x1)]) [0, 1] rfl ?_
      exact t_X12_taken_64 hC hd hN hP hT hw
def w_X12_taken (σ : Mem) (x1 : Int32) (x2 : Int32) (Q : Int32 → Mem → Prop) : Prop := w_X12_isIn σ x2 0 5 (fun v101 s103 => (¬ v101 = 0 → (w_X12_isLayer s103 x1 (fun v104 s106 => (¬ v104 = 0 → (vp_in x1 5 ∧ (∀ v107 : Int32, v107 = (mI s106 40 (Int32.toNatClampNeg x1)) → ((x2 = 0 → (w_X12_taken_64 Q x1 s106)) ∧ (¬ x2 = 0 → ((v107 = x2 → (w_X12_taken_64 Q x1 s106)) ∧ (¬ v107 = x2 → ((¬ x2 = 1 → (w_X12_taken_54 Q x1 x2 v107 s106)) ∧ (x2 = 1 → ((v107 = 3 → (w_X12_taken_64 Q x1 s106)) ∧ (¬ v107 = 3 → ((v107 = 5 → (w_X12_taken_64 Q x1 s106)) ∧ (¬ v107 = 5 → (w_X12_taken_54 Q x1 x2 v107 s106)))))))))))))) ∧ (v104 = 0 → (Q (-11) s106))))) ∧ (v101 = 0 → (Q (-2) s103)))
set_option maxRecDepth 4000 in
set_option maxHeartbeats 2000000 in
theorem t_X12_taken {X : Cx} {d : Nat} (hC : mOK X cX12_taken RX12 "taken" (some .int) d 0 0) (hd : 2 ≤ d) (hN : ∀ i, i < 5 → i < xN X) (hP : ∀ e ∈ psM, e ∈ xP X) (hT : ∀ e ∈ tsM, e ∈ xT X) {σ : Mem} {x1 : Int32} {x2 : Int32} {Q : Int32 → Mem → Prop} (hw : w_X12_taken σ x1 x2 Q) : mG X 0 [(0, .ref (xB X + 37)), (1, .int x1), (2, .int x2)] [] σ 0 0 (mQ X 0 0 (qI Q)) := by
  refine g_iload_n hC dX12_taken_0 rfl ?_
  refine g_iconst (v := 0) hC dX12_taken_1 (by decide) ?_
  refine g_iconst (v := 5) hC dX12_taken_2 (by decide) ?_
  refine mG.st (st1 := ([.int x2, .int 0, .int 5] : List Value).reverse ++ []) rfl ?_
  refine g_callS (As := [.int x2, .int 0, .int 5]) (st := []) hC yw_X12_isIn ys_X12_isIn tw_465 dX12_taken_3 (fun _ h => h) (fun _ h => h) (fun h => h) (c_X12_isIn (d := 0) (Nat.le_refl _) hw) rfl (Nat.le_of_ble_eq_true rfl) (by omega) (by decide) (by decide) (kI fun v101 s103 hw => ?_)
  refine g_if_ne (tgt := 12) hC dX12_taken_6 rfl (fun c => ?_) (fun c => ?_)
  · replace hw := hw.1 c
    refine g_aload_n hC dX12_taken_12 rfl ?_
    refine g_iload_n hC dX12_taken_13 rfl ?_
    refine g_known (fun hS => ?_)
    refine mG.st (st1 := ([.int x1] : List Value).reverse ++ .ref (xB X + 37) :: []) rfl ?_
    refine g_callV (As := [.int x1]) (st := []) hC (hS.2 _ (hT _ tg_M_37)) (by decide) ycl_12_X12_isLayer yw_X12_isLayer yv_X12_isLayer tw_480 dX12_taken_14 (fun _ h => h) (fun _ h => h) (fun h => h) (c_X12_isLayer (d := 1) (Nat.le_refl _) hP hT hw) rfl (Nat.le_of_ble_eq_true rfl) (by omega) (by decide) (by decide) (kI fun v104 s106 hw => ?_)
    refine g_if_ne (tgt := 23) hC dX12_taken_17 rfl (fun c => ?_) (fun c => ?_)
    · replace hw := hw.1 c
      refine g_aload_n hC dX12_taken_23 rfl ?_
      refine g_getrS hC fl_X12_21_12.s (hT _ tg_M_37) (hP _ pt_M_37_4) dX12_taken_24 ?_
      refine g_iload_n hC dX12_taken_27 rfl ?_
      refine g_ialdSv (v := (mI s106 40 (Int32.toNatClampNeg x1))) hC (hT _ tg_M_40) rfl hw.1 rfl dX12_taken_28 ?_
      replace hw := hw.2
      refine g_topi (fun v107 ev107 => ?_)
      replace hw := hw v107 ev107
      refine g_istore_n (lv' := [(3, .int v107), (0, .ref (xB X + 37)), (1, .int x1), (2, .int x2)]) hC dX12_taken_29 (hN 3 (by decide)) rfl ?_
      refine g_iload_n hC dX12_taken_30 rfl ?_
      refine g_if_eq (tgt := 64) hC dX12_taken_31 rfl (fun c => ?_) (fun c => ?_)
      · replace hw := hw.1 c
        refine mG.pick (lv' := [(0, .ref (xB X + 37)), (1, .int x1)]) [1, 2] rfl ?_
        exact t_X12_taken_64 hC hd hN hP hT hw
      · replace hw := hw.2 c
        refine g_iload_n hC dX12_taken_34 rfl ?_
        refine g_iload_n hC dX12_taken_35 rfl ?_
        refine g_icmp_eq (tgt := 64) hC dX12_taken_36 rfl (fun c => ?_) (fun c => ?_)
        · replace hw := hw.1 c
          refine mG.pick (lv' := [(0, .ref (xB X + 37)), (1, .int x1)]) [1, 2] rfl ?_
          exact t_X12_taken_64 hC hd hN hP hT hw
        · replace hw := hw.2 c
          refine g_iload_n hC dX12_taken_39 rfl ?_
          refine g_iconst (v := 1) hC dX12_taken_40 (by decide) ?_
          refine g_icmp_ne (tgt := 54) hC dX12_taken_41 rfl (fun c => ?_) (fun c => ?_)
          · replace hw := hw.1 c
            refine mG.pick (lv' := [(0, .ref (xB X + 37)), (1, .int x1), (2, .int x2), (3, .int v107)]) [1, 2, 3, 0] rfl ?_
            exact t_X12_taken_54 hC hd hN hP hT hw
          · replace hw := hw.2 c
            refine g_iload_n hC dX12_taken_44 rfl ?_
            refine g_iconst (v := 3) hC dX12_taken_45 (by decide) ?_
            refine g_icmp_eq (tgt := 64) hC dX12_taken_46 rfl (fun c => ?_) (fun c => ?_)
            · replace hw := hw.1 c
              refine mG.pick (lv' := [(0, .ref (xB X + 37)), (1, .int x1)]) [1, 2] rfl ?_
              exact t_X12_taken_64 hC hd hN hP hT hw
            · replace hw := hw.2 c
              refine g_iload_n hC dX12_taken_49 rfl ?_
              refine g_iconst (v := 5) hC dX12_taken_50 (by decide) ?_
              refine g_icmp_eq (tgt := 64) hC dX12_taken_51 rfl (fun c => ?_) (fun c => ?_)
              · replace hw := hw.1 c
                refine mG.pick (lv' := [(0, .ref (xB X + 37)), (1, .int x1)]) [1, 2] rfl ?_
                exact t_X12_taken_64 hC hd hN hP hT hw
              · replace hw := hw.2 c
                refine mG.pick (lv' := [(0, .ref (xB X + 37)), (1, .int x1), (2, .int x2), (3, .int v107)]) [1, 2, 3, 0] rfl ?_
                exact t_X12_taken_54 hC hd hN hP hT hw
    · replace hw := hw.2 c
      refine g_bipush (v := (-11)) hC dX12_taken_20 (by decide) ?_
      exact g_iret hC rfl (by decide) (by decide) dX12_taken_22 (fun _ => ⟨_, rfl, hw⟩)
  · replace hw := hw.2 c
    refine g_bipush (v := (-2)) hC dX12_taken_9 (by decide) ?_
    exact g_iret hC rfl (by decide) (by decide) dX12_taken_11 (fun _ => ⟨_, rfl, hw⟩)
set_option maxRecDepth 4000 in
theorem c_X12_taken {Z : Fx} {ps ts : List (Nat × Nat × Nat)} {d : Nat} (hd : 2 ≤ d) (hP : ∀ e ∈ psM, e ∈ ps) (hT : ∀ e ∈ tsM, e ∈ ts) {σ : Mem} {x1 : Int32} {x2 : Int32} {Q : Int32 → Mem → Prop} (hw : w_X12_taken σ x1 x2 Q) : mM Z ps ts yX12_taken cX12_taken 5 (some .int) d 0 0 [.ref (Z.2.2 + 37), .int x1, .int x2] σ (qI Q) := by
  refine mM.of (by decide) (Nat.le_of_ble_eq_true rfl) rfl (fun X hZ hp ht hn hC => ?_)
  subst hZ; subst hp; subst ht
  exact t_X12_taken hC hd (fun i h => by rw [hn]; exact h) hP hT hw
