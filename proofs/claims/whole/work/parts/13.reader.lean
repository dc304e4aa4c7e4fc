def w_X5_append (σ : Mem) (x1 : Int32) (Q : Int32 → Mem → Prop) : Prop := ((mI σ 5 1) < 160 → (vp_in (mI σ 5 1) 160 ∧ (Q 1 (sI (sI σ 6 (Int32.toNatClampNeg (mI σ 5 1)) x1) 5 1 ((mI σ 5 1) + 1))))) ∧ (¬ (mI σ 5 1) < 160 → (Q 0 σ))
set_option maxRecDepth 4000 in
set_option maxHeartbeats 2000000 in
theorem t_X5_append {X : Cx} {d : Nat} (hC : mOK X cX5_append RX5 "append" (some .boolean) d 0 0) (hd : 0 ≤ d) (hN : ∀ i, i < 2 → i < xN X) (hP : ∀ e ∈ psR, e ∈ xP X) (hT : ∀ e ∈ tsR, e ∈ xT X) {σ : Mem} {x1 : Int32} {Q : Int32 → Mem → Prop} (hw : w_X5_append σ x1 Q) : mG X 0 [(0, .ref (xB X + 5)), (1, .int x1)] [] σ 0 0 (mQ X 0 0 (qI Q)) := by
  refine g_aload_n hC dX5_append_0 rfl ?_
  refine g_getiSv (v := (mI σ 5 1)) hC fl_X5_18_5.s (hT _ tg_R_5) rfl dX5_append_1 ?_
  refine g_sipush (v := 160) hC dX5_append_4 (by decide) ?_
  refine g_icmp_lt (tgt := 12) hC dX5_append_7 rfl (fun c => ?_) (fun c => ?_)
  · replace hw := hw.1 c
    refine g_aload_n hC dX5_append_12 rfl ?_
    refine g_getrS hC fl_X5_9_5.s (hT _ tg_R_5) (hP _ pt_R_5_0) dX5_append_13 ?_
    refine g_aload_n hC dX5_append_16 rfl ?_
    refine g_getiSv (v := (mI σ 5 1)) hC fl_X5_18_5.s (hT _ tg_R_5) rfl dX5_append_17 ?_
    refine g_iload_n hC dX5_append_20 rfl ?_
    have hin := hw.1
    replace hw := hw.2
    refine g_iastS (k := (Int32.toNatClampNeg (mI σ 5 1))) hC (hT _ tg_R_6) rfl hin dX5_append_21 ?_
    refine g_aload_n hC dX5_append_22 rfl ?_
    refine g_dup hC dX5_append_23 rfl ?_
    refine g_getiSv (v := (mI σ 5 1)) hC fl_X5_18_5.s (hT _ tg_R_5) (mI_sI_n _ _ (by decide)) dX5_append_24 ?_
    refine g_iconst (v := 1) hC dX5_append_27 (by decide) ?_
    refine g_iadd hC dX5_append_28 ?_
    refine g_putIS hC (fw_X5_18_5 _) (hT _ tg_R_5) rfl rfl dX5_append_29 ?_
    refine g_iconst (v := 1) hC dX5_append_32 (by decide) ?_
    exact g_iret hC bz1 (by decide) (by decide) dX5_append_33 (fun _ => ⟨_, rfl, hw⟩)
  · replace hw := hw.2 c
    refine g_iconst (v := 0) hC dX5_append_10 (by decide) ?_
    exact g_iret hC bz0 (by decide) (by decide) dX5_append_11 (fun _ => ⟨_, rfl, hw⟩)
set_option maxRecDepth 4000 in
theorem c_X5_append {Z : Fx} {ps ts : List (Nat × Nat × Nat)} {d : Nat} (hd : 0 ≤ d) (hP : ∀ e ∈ psR, e ∈ ps) (hT : ∀ e ∈ tsR, e ∈ ts) {σ : Mem} {x1 : Int32} {Q : Int32 → Mem → Prop} (hw : w_X5_append σ x1 Q) : mM Z ps ts yX5_append cX5_append 2 (some .boolean) d 0 0 [.ref (Z.2.2 + 5), .int x1] σ (qI Q) := by
  refine mM.of (by decide) (Nat.le_of_ble_eq_true rfl) rfl (fun X hZ hp ht hn hC => ?_)
  subst hZ; subst hp; subst ht
  exact t_X5_append hC hd (fun i h => by rw [hn]; exact h) hP hT hw
def w_X5_isLetter (σ : Mem) (x0 : Int32) (Q : Int32 → Mem → Prop) : Prop := (x0 < 97 → (Q 0 σ)) ∧ (¬ x0 < 97 → ((122 < x0 → (Q 0 σ)) ∧ (¬ 122 < x0 → (Q 1 σ))))
set_option maxRecDepth 4000 in
set_option maxHeartbeats 2000000 in
theorem t_X5_isLetter {X : Cx} {d : Nat} (hC : mOK X cX5_isLetter RX5 "isLetter" (some .boolean) d 0 0) (hd : 0 ≤ d) (hN : ∀ i, i < 1 → i < xN X) {σ : Mem} {x0 : Int32} {Q : Int32 → Mem → Prop} (hw : w_X5_isLetter σ x0 Q) : mG X 0 [(0, .int x0)] [] σ 0 0 (mQ X 0 0 (qI Q)) := by
  refine g_iload_n hC dX5_isLetter_0 rfl ?_
  refine g_bipush (v := 97) hC dX5_isLetter_1 (by decide) ?_
  refine g_icmp_lt (tgt := 16) hC dX5_isLetter_3 rfl (fun c => ?_) (fun c => ?_)
  · replace hw := hw.1 c
    refine g_iconst (v := 0) hC dX5_isLetter_16 (by decide) ?_
    exact g_iret hC bz0 (by decide) (by decide) dX5_isLetter_17 (fun _ => ⟨_, rfl, hw⟩)
  · replace hw := hw.2 c
    refine g_iload_n hC dX5_isLetter_6 rfl ?_
    refine g_bipush (v := 122) hC dX5_isLetter_7 (by decide) ?_
    refine g_icmp_gt (tgt := 16) hC dX5_isLetter_9 rfl (fun c => ?_) (fun c => ?_)
    · replace hw := hw.1 c
      refine g_iconst (v := 0) hC dX5_isLetter_16 (by decide) ?_
      exact g_iret hC bz0 (by decide) (by decide) dX5_isLetter_17 (fun _ => ⟨_, rfl, hw⟩)
    · replace hw := hw.2 c
      refine g_iconst (v := 1) hC dX5_isLetter_12 (by decide) ?_
      refine g_goto (tgt := 17) hC dX5_isLetter_13 rfl ?_
      exact g_iret hC bz1 (by decide) (by decide) dX5_isLetter_17 (fun _ => ⟨_, rfl, hw⟩)
set_option maxRecDepth 4000 in
theorem c_X5_isLetter {Z : Fx} {ps ts : List (Nat × Nat × Nat)} {d : Nat} (hd : 0 ≤ d) {σ : Mem} {x0 : Int32} {Q : Int32 → Mem → Prop} (hw : w_X5_isLetter σ x0 Q) : mM Z ps ts yX5_isLetter cX5_isLetter 1 (some .boolean) d 0 0 [.int x0] σ (qI Q) := by
  refine mM.of (by decide) (Nat.le_of_ble_eq_true rfl) rfl (fun X hZ hp ht hn hC => ?_)
  subst hZ; subst hp; subst ht
  exact t_X5_isLetter hC hd (fun i h => by rw [hn]; exact h) hw
def w_X5_isDigit (σ : Mem) (x0 : Int32) (Q : Int32 → Mem → Prop) : Prop := (x0 < 48 → (Q 0 σ)) ∧ (¬ x0 < 48 → ((57 < x0 → (Q 0 σ)) ∧ (¬ 57 < x0 → (Q 1 σ))))
set_option maxRecDepth 4000 in
set_option maxHeartbeats 2000000 in
theorem t_X5_isDigit {X : Cx} {d : Nat} (hC : mOK X cX5_isDigit RX5 "isDigit" (some .boolean) d 0 0) (hd : 0 ≤ d) (hN : ∀ i, i < 1 → i < xN X) {σ : Mem} {x0 : Int32} {Q : Int32 → Mem → Prop} (hw : w_X5_isDigit σ x0 Q) : mG X 0 [(0, .int x0)] [] σ 0 0 (mQ X 0 0 (qI Q)) := by
  refine g_iload_n hC dX5_isDigit_0 rfl ?_
  refine g_bipush (v := 48) hC dX5_isDigit_1 (by decide) ?_
  refine g_icmp_lt (tgt := 16) hC dX5_isDigit_3 rfl (fun c => ?_) (fun c => ?_)
  · replace hw := hw.1 c
    refine g_iconst (v := 0) hC dX5_isDigit_16 (by decide) ?_
    exact g_iret hC bz0 (by decide) (by decide) dX5_isDigit_17 (fun _ => ⟨_, rfl, hw⟩)
  · replace hw := hw.2 c
    refine g_iload_n hC dX5_isDigit_6 rfl ?_
    refine g_bipush (v := 57) hC dX5_isDigit_7 (by decide) ?_
    refine g_icmp_gt (tgt := 16) hC dX5_isDigit_9 rfl (fun c => ?_) (fun c => ?_)
    · replace hw := hw.1 c
      refine g_iconst (v := 0) hC dX5_isDigit_16 (by decide) ?_
      exact g_iret hC bz0 (by decide) (by decide) dX5_isDigit_17 (fun _ => ⟨_, rfl, hw⟩)
    · replace hw := hw.2 c
      refine g_iconst (v := 1) hC dX5_isDigit_12 (by decide) ?_
      refine g_goto (tgt := 17) hC dX5_isDigit_13 rfl ?_
      exact g_iret hC bz1 (by decide) (by decide) dX5_isDigit_17 (fun _ => ⟨_, rfl, hw⟩)
set_option maxRecDepth 4000 in
theorem c_X5_isDigit {Z : Fx} {ps ts : List (Nat × Nat × Nat)} {d : Nat} (hd : 0 ≤ d) {σ : Mem} {x0 : Int32} {Q : Int32 → Mem → Prop} (hw : w_X5_isDigit σ x0 Q) : mM Z ps ts yX5_isDigit cX5_isDigit 1 (some .boolean) d 0 0 [.int x0] σ (qI Q) := by
  refine mM.of (by decide) (Nat.le_of_ble_eq_true rfl) rfl (fun X hZ hp ht hn hC => ?_)
  subst hZ; subst hp; subst ht
  exact t_X5_isDigit hC hd (fun i h => by rw [hn]; exact h) hw
def w_X5_isSign (σ : Mem) (x0 : Int32) (Q : Int32 → Mem → Prop) : Prop := (x0 = 40 → (Q 1 σ)) ∧ (¬ x0 = 40 → ((x0 = 41 → (Q 1 σ)) ∧ (¬ x0 = 41 → ((x0 = 59 → (Q 1 σ)) ∧ (¬ x0 = 59 → ((x0 = 43 → (Q 1 σ)) ∧ (¬ x0 = 43 → ((x0 = 45 → (Q 1 σ)) ∧ (¬ x0 = 45 → ((x0 = 42 → (Q 1 σ)) ∧ (¬ x0 = 42 → ((x0 = 60 → (Q 1 σ)) ∧ (¬ x0 = 60 → ((¬ x0 = 61 → (Q 0 σ)) ∧ (x0 = 61 → (Q 1 σ))))))))))))))))
set_option maxRecDepth 4000 in
set_option maxHeartbeats 2000000 in
theorem t_X5_isSign {X : Cx} {d : Nat} (hC : mOK X cX5_isSign RX5 "isSign" (some .boolean) d 0 0) (hd : 0 ≤ d) (hN : ∀ i, i < 1 → i < xN X) {σ : Mem} {x0 : Int32} {Q : Int32 → Mem → Prop} (hw : w_X5_isSign σ x0 Q) : mG X 0 [(0, .int x0)] [] σ 0 0 (mQ X 0 0 (qI Q)) := by
  refine g_iload_n hC dX5_isSign_0 rfl ?_
  refine g_bipush (v := 40) hC dX5_isSign_1 (by decide) ?_
  refine g_icmp_eq (tgt := 48) hC dX5_isSign_3 rfl (fun c => ?_) (fun c => ?_)
  · replace hw := hw.1 c
    refine g_iconst (v := 1) hC dX5_isSign_48 (by decide) ?_
    refine g_goto (tgt := 53) hC dX5_isSign_49 rfl ?_
    exact g_iret hC bz1 (by decide) (by decide) dX5_isSign_53 (fun _ => ⟨_, rfl, hw⟩)
  · replace hw := hw.2 c
    refine g_iload_n hC dX5_isSign_6 rfl ?_
    refine g_bipush (v := 41) hC dX5_isSign_7 (by decide) ?_
    refine g_icmp_eq (tgt := 48) hC dX5_isSign_9 rfl (fun c => ?_) (fun c => ?_)
    · replace hw := hw.1 c
      refine g_iconst (v := 1) hC dX5_isSign_48 (by decide) ?_
      refine g_goto (tgt := 53) hC dX5_isSign_49 rfl ?_
      exact g_iret hC bz1 (by decide) (by decide) dX5_isSign_53 (fun _ => ⟨_, rfl, hw⟩)
    · replace hw := hw.2 c
      refine g_iload_n hC dX5_isSign_12 rfl ?_
      refine g_bipush (v := 59) hC dX5_isSign_13 (by decide) ?_
      refine g_icmp_eq (tgt := 48) hC dX5_isSign_15 rfl (fun c => ?_) (fun c => ?_)
      · replace hw := hw.1 c
        refine g_iconst (v := 1) hC dX5_isSign_48 (by decide) ?_
        refine g_goto (tgt := 53) hC dX5_isSign_49 rfl ?_
        exact g_iret hC bz1 (by decide) (by decide) dX5_isSign_53 (fun _ => ⟨_, rfl, hw⟩)
      · replace hw := hw.2 c
        refine g_iload_n hC dX5_isSign_18 rfl ?_
        refine g_bipush (v := 43) hC dX5_isSign_19 (by decide) ?_
        refine g_icmp_eq (tgt := 48) hC dX5_isSign_21 rfl (fun c => ?_) (fun c => ?_)
        · replace hw := hw.1 c
          refine g_iconst (v := 1) hC dX5_isSign_48 (by decide) ?_
          refine g_goto (tgt := 53) hC dX5_isSign_49 rfl ?_
          exact g_iret hC bz1 (by decide) (by decide) dX5_isSign_53 (fun _ => ⟨_, rfl, hw⟩)
        · replace hw := hw.2 c
          refine g_iload_n hC dX5_isSign_24 rfl ?_
          refine g_bipush (v := 45) hC dX5_isSign_25 (by decide) ?_
          refine g_icmp_eq (tgt := 48) hC dX5_isSign_27 rfl (fun c => ?_) (fun c => ?_)
          · replace hw := hw.1 c
            refine g_iconst (v := 1) hC dX5_isSign_48 (by decide) ?_
            refine g_goto (tgt := 53) hC dX5_isSign_49 rfl ?_
            exact g_iret hC bz1 (by decide) (by decide) dX5_isSign_53 (fun _ => ⟨_, rfl, hw⟩)
          · replace hw := hw.2 c
            refine g_iload_n hC dX5_isSign_30 rfl ?_
            refine g_bipush (v := 42) hC dX5_isSign_31 (by decide) ?_
            refine g_icmp_eq (tgt := 48) hC dX5_isSign_33 rfl (fun c => ?_) (fun c => ?_)
            · replace hw := hw.1 c
              refine g_iconst (v := 1) hC dX5_isSign_48 (by decide) ?_
              refine g_goto (tgt := 53) hC dX5_isSign_49 rfl ?_
              exact g_iret hC bz1 (by decide) (by decide) dX5_isSign_53 (fun _ => ⟨_, rfl, hw⟩)
            · replace hw := hw.2 c
              refine g_iload_n hC dX5_isSign_36 rfl ?_
              refine g_bipush (v := 60) hC dX5_isSign_37 (by decide) ?_
              refine g_icmp_eq (tgt := 48) hC dX5_isSign_39 rfl (fun c => ?_) (fun c => ?_)
              · replace hw := hw.1 c
                refine g_iconst (v := 1) hC dX5_isSign_48 (by decide) ?_
                refine g_goto (tgt := 53) hC dX5_isSign_49 rfl ?_
                exact g_iret hC bz1 (by decide) (by decide) dX5_isSign_53 (fun _ => ⟨_, rfl, hw⟩)
              · replace hw := hw.2 c
                refine g_iload_n hC dX5_isSign_42 rfl ?_
                refine g_bipush (v := 61) hC dX5_isSign_43 (by decide) ?_
                refine g_icmp_ne (tgt := 52) hC dX5_isSign_45 rfl (fun c => ?_) (fun c => ?_)
                · replace hw := hw.1 c
                  refine g_iconst (v := 0) hC dX5_isSign_52 (by decide) ?_
                  exact g_iret hC bz0 (by decide) (by decide) dX5_isSign_53 (fun _ => ⟨_, rfl, hw⟩)
                · replace hw := hw.2 c
                  refine g_iconst (v := 1) hC dX5_isSign_48 (by decide) ?_
                  refine g_goto (tgt := 53) hC dX5_isSign_49 rfl ?_
                  exact g_iret hC bz1 (by decide) (by decide) dX5_isSign_53 (fun _ => ⟨_, rfl, hw⟩)
set_option maxRecDepth 4000 in
theorem c_X5_isSign {Z : Fx} {ps ts : List (Nat × Nat × Nat)} {d : Nat} (hd : 0 ≤ d) {σ : Mem} {x0 : Int32} {Q : Int32 → Mem → Prop} (hw : w_X5_isSign σ x0 Q) : mM Z ps ts yX5_isSign cX5_isSign 1 (some .boolean) d 0 0 [.int x0] σ (qI Q) := by
  refine mM.of (by decide) (Nat.le_of_ble_eq_true rfl) rfl (fun X hZ hp ht hn hC => ?_)
  subst hZ; subst hp; subst ht
  exact t_X5_isSign hC hd (fun i h => by rw [hn]; exact h) hw
def w_X5_scanNumber_81 (Q : Mem → Prop) (σ : Mem) : Prop := (((mI σ 5 5) - (mI σ 5 4)) ≤ 4 → (Q (sI σ 5 3 2))) ∧ (¬ ((mI σ 5 5) - (mI σ 5 4)) ≤ 4 → (Q (sI σ 5 3 1)))
set_option maxRecDepth 4000 in
set_option maxHeartbeats 2000000 in
theorem t_X5_scanNumber_81 {X : Cx} {d : Nat} (hC : mOK X cX5_scanNumber RX5 "scanNumber" none d 0 0) (hd : 1 ≤ d) (hN : ∀ i, i < 1 → i < xN X) (hP : ∀ e ∈ psR, e ∈ xP X) (hT : ∀ e ∈ tsR, e ∈ xT X) {Q : Mem → Prop} {σ : Mem} (hw : w_X5_scanNumber_81 Q σ) : mG X 81 [(0, .ref (xB X + 5))] [] σ 0 0 (mQ X 0 0 (qV Q)) := by
  refine g_aload_n hC dX5_scanNumber_81 rfl ?_
  refine g_aload_n hC dX5_scanNumber_82 rfl ?_
  refine g_getiSv (v := (mI σ 5 5)) hC fl_X5_25_5.s (hT _ tg_R_5) rfl dX5_scanNumber_83 ?_
  refine g_aload_n hC dX5_scanNumber_86 rfl ?_
  refine g_getiSv (v := (mI σ 5 4)) hC fl_X5_86_5.s (hT _ tg_R_5) rfl dX5_scanNumber_87 ?_
  refine g_isub hC dX5_scanNumber_90 ?_
  refine g_iconst (v := 4) hC dX5_scanNumber_91 (by decide) ?_
  refine g_icmp_le (tgt := 99) hC dX5_scanNumber_92 rfl (fun c => ?_) (fun c => ?_)
  · replace hw := hw.1 c
    refine g_iconst (v := 2) hC dX5_scanNumber_99 (by decide) ?_
    refine g_putIS hC (fw_X5_58_5 _) (hT _ tg_R_5) rfl rfl dX5_scanNumber_100 ?_
    exact g_vret hC (by decide) (by decide) dX5_scanNumber_103 (fun _ => ⟨rfl, hw⟩)
  · replace hw := hw.2 c
    refine g_iconst (v := 1) hC dX5_scanNumber_95 (by decide) ?_
    refine g_goto (tgt := 100) hC dX5_scanNumber_96 rfl ?_
    refine g_putIS hC (fw_X5_58_5 _) (hT _ tg_R_5) rfl rfl dX5_scanNumber_100 ?_
    exact g_vret hC (by decide) (by decide) dX5_scanNumber_103 (fun _ => ⟨rfl, hw⟩)
def w_X5_scanNumber_68 (Q : Mem → Prop) (K5 : Mem → Prop) (σ : Mem) : Prop := K5 (sI σ 5 5 ((mI σ 5 5) + 1))
set_option maxRecDepth 4000 in
set_option maxHeartbeats 2000000 in
theorem t_X5_scanNumber_68 {X : Cx} {d : Nat} (hC : mOK X cX5_scanNumber RX5 "scanNumber" none d 0 0) (hd : 1 ≤ d) (hN : ∀ i, i < 1 → i < xN X) (hP : ∀ e ∈ psR, e ∈ xP X) (hT : ∀ e ∈ tsR, e ∈ xT X) {Q : Mem → Prop} {K5 : Mem → Prop} (hK5 : ∀ (s : Mem), K5 s → mG X 5 [(0, .ref (xB X + 5))] [] s 0 0 (mQ X 0 0 (qV Q))) {σ : Mem} (hw : w_X5_scanNumber_68 Q K5 σ) : mG X 68 [(0, .ref (xB X + 5))] [] σ 0 0 (mQ X 0 0 (qV Q)) := by
  refine g_aload_n hC dX5_scanNumber_68 rfl ?_
  refine g_dup hC dX5_scanNumber_69 rfl ?_
  refine g_getiSv (v := (mI σ 5 5)) hC fl_X5_25_5.s (hT _ tg_R_5) rfl dX5_scanNumber_70 ?_
  refine g_iconst (v := 1) hC dX5_scanNumber_73 (by decide) ?_
  refine g_iadd hC dX5_scanNumber_74 ?_
  refine g_putIS hC (fw_X5_25_5 _) (hT _ tg_R_5) rfl rfl dX5_scanNumber_75 ?_
  refine g_goto (tgt := 5) hC dX5_scanNumber_78 rfl ?_
  refine mG.pick (lv' := [(0, .ref (xB X + 5))]) [0] rfl ?_
  exact hK5 _ hw
def w_X5_scanNumber_5 (Q : Mem → Prop) : Nat → Mem → Prop
  | 0, _ => False
  | n + 1, σ => ((mI σ 5 1) ≤ (mI σ 5 5) → (w_X5_scanNumber_81 Q σ)) ∧ (¬ (mI σ 5 1) ≤ (mI σ 5 5) → (vp_in (mI σ 5 5) 160 ∧ (w_X5_isDigit σ (mI σ 6 (Int32.toNatClampNeg (mI σ 5 5))) (fun v101 s103 => (v101 = 0 → (w_X5_scanNumber_81 Q s103)) ∧ (¬ v101 = 0 → ((4 ≤ ((mI s103 5 5) - (mI s103 5 4)) → (w_X5_scanNumber_68 Q (fun z0 => w_X5_scanNumber_5 Q n z0) s103)) ∧ (¬ 4 ≤ ((mI s103 5 5) - (mI s103 5 4)) → (vp_in (mI s103 5 5) 160 ∧ (∀ v104 : Int32, v104 = (((mI s103 5 6) * 10) + ((mI s103 6 (Int32.toNatClampNeg (mI s103 5 5))) - 48)) → (w_X5_scanNumber_68 Q (fun z0 => w_X5_scanNumber_5 Q n z0) (sI s103 5 6 v104)))))))))))
set_option maxRecDepth 4000 in
set_option maxHeartbeats 2000000 in
theorem t_X5_scanNumber_5 {X : Cx} {d : Nat} (hC : mOK X cX5_scanNumber RX5 "scanNumber" none d 0 0) (hd : 1 ≤ d) (hN : ∀ i, i < 1 → i < xN X) (hP : ∀ e ∈ psR, e ∈ xP X) (hT : ∀ e ∈ tsR, e ∈ xT X) {Q : Mem → Prop} : ∀ (n : Nat) (σ : Mem), w_X5_scanNumber_5 Q n σ → mG X 5 [(0, .ref (xB X + 5))] [] σ 0 0 (mQ X 0 0 (qV Q)) := by
  intro n
  induction n with
  | zero => intro σ hw; exact False.elim hw
  | succ n ih =>
    intro σ hw
    rw [w_X5_scanNumber_5] at hw
    refine g_aload_n hC dX5_scanNumber_5 rfl ?_
    refine g_getiSv (v := (mI σ 5 5)) hC fl_X5_25_5.s (hT _ tg_R_5) rfl dX5_scanNumber_6 ?_
    refine g_aload_n hC dX5_scanNumber_9 rfl ?_
    refine g_getiSv (v := (mI σ 5 1)) hC fl_X5_18_5.s (hT _ tg_R_5) rfl dX5_scanNumber_10 ?_
    refine g_icmp_ge (tgt := 81) hC dX5_scanNumber_13 rfl (fun c => ?_) (fun c => ?_)
    · replace hw := hw.1 c
      refine mG.pick (lv' := [(0, .ref (xB X + 5))]) [0] rfl ?_
      exact t_X5_scanNumber_81 hC hd hN hP hT hw
    · replace hw := hw.2 c
      refine g_aload_n hC dX5_scanNumber_16 rfl ?_
      refine g_getrS hC fl_X5_9_5.s (hT _ tg_R_5) (hP _ pt_R_5_0) dX5_scanNumber_17 ?_
      refine g_aload_n hC dX5_scanNumber_20 rfl ?_
      refine g_getiSv (v := (mI σ 5 5)) hC fl_X5_25_5.s (hT _ tg_R_5) rfl dX5_scanNumber_21 ?_
      refine g_ialdSv (v := (mI σ 6 (Int32.toNatClampNeg (mI σ 5 5)))) hC (hT _ tg_R_6) rfl hw.1 rfl dX5_scanNumber_24 ?_
      replace hw := hw.2
      refine mG.st (st1 := ([.int (mI σ 6 (Int32.toNatClampNeg (mI σ 5 5)))] : List Value).reverse ++ []) rfl ?_
      refine g_callS (As := [.int (mI σ 6 (Int32.toNatClampNeg (mI σ 5 5)))]) (st := []) hC yw_X5_isDigit ys_X5_isDigit tw_146 dX5_scanNumber_25 (fun _ h => h) (fun _ h => h) (fun h => h) (c_X5_isDigit (d := 0) (Nat.le_refl _) hw) rfl (Nat.le_of_ble_eq_true rfl) (by omega) (by decide) (by decide) (kI fun v101 s103 hw => ?_)
      refine g_if_eq (tgt := 81) hC dX5_scanNumber_28 rfl (fun c => ?_) (fun c => ?_)
      · replace hw := hw.1 c
        refine mG.pick (lv' := [(0, .ref (xB X + 5))]) [0] rfl ?_
        exact t_X5_scanNumber_81 hC hd hN hP hT hw
      · replace hw := hw.2 c
        refine g_aload_n hC dX5_scanNumber_31 rfl ?_
        refine g_getiSv (v := (mI s103 5 5)) hC fl_X5_25_5.s (hT _ tg_R_5) rfl dX5_scanNumber_32 ?_
        refine g_aload_n hC dX5_scanNumber_35 rfl ?_
        refine g_getiSv (v := (mI s103 5 4)) hC fl_X5_86_5.s (hT _ tg_R_5) rfl dX5_scanNumber_36 ?_
        refine g_isub hC dX5_scanNumber_39 ?_
        refine g_iconst (v := 4) hC dX5_scanNumber_40 (by decide) ?_
        refine g_icmp_ge (tgt := 68) hC dX5_scanNumber_41 rfl (fun c => ?_) (fun c => ?_)
        · replace hw := hw.1 c
          refine mG.pick (lv' := [(0, .ref (xB X + 5))]) [0] rfl ?_
          exact t_X5_scanNumber_68 hC hd hN hP hT ih hw
        · replace hw := hw.2 c
          refine g_aload_n hC dX5_scanNumber_44 rfl ?_
          refine g_aload_n hC dX5_scanNumber_45 rfl ?_
          refine g_getiSv (v := (mI s103 5 6)) hC fl_X5_80_5.s (hT _ tg_R_5) rfl dX5_scanNumber_46 ?_
          refine g_bipush (v := 10) hC dX5_scanNumber_49 (by decide) ?_
          refine g_imul hC dX5_scanNumber_51 ?_
          refine g_aload_n hC dX5_scanNumber_52 rfl ?_
          refine g_getrS hC fl_X5_9_5.s (hT _ tg_R_5) (hP _ pt_R_5_0) dX5_scanNumber_53 ?_
          refine g_aload_n hC dX5_scanNumber_56 rfl ?_
          refine g_getiSv (v := (mI s103 5 5)) hC fl_X5_25_5.s (hT _ tg_R_5) rfl dX5_scanNumber_57 ?_
          refine g_ialdSv (v := (mI s103 6 (Int32.toNatClampNeg (mI s103 5 5)))) hC (hT _ tg_R_6) rfl hw.1 rfl dX5_scanNumber_60 ?_
          replace hw := hw.2
          refine g_bipush (v := 48) hC dX5_scanNumber_61 (by decide) ?_
          refine g_isub hC dX5_scanNumber_63 ?_
          refine g_iadd hC dX5_scanNumber_64 ?_
          refine g_topi (fun v104 ev104 => ?_)
          replace hw := hw v104 ev104
          refine g_putIS hC (fw_X5_80_5 _) (hT _ tg_R_5) rfl rfl dX5_scanNumber_65 ?_
          refine mG.pick (lv' := [(0, .ref (xB X + 5))]) [0] rfl ?_
          exact t_X5_scanNumber_68 hC hd hN hP hT ih hw
def w_X5_scanNumber (σ : Mem) (Q : Mem → Prop) : Prop := ∃ m101 : Nat, w_X5_scanNumber_5 Q m101 (sI σ 5 6 0)
set_option maxRecDepth 4000 in
set_option maxHeartbeats 2000000 in
theorem t_X5_scanNumber {X : Cx} {d : Nat} (hC : mOK X cX5_scanNumber RX5 "scanNumber" none d 0 0) (hd : 1 ≤ d) (hN : ∀ i, i < 1 → i < xN X) (hP : ∀ e ∈ psR, e ∈ xP X) (hT : ∀ e ∈ tsR, e ∈ xT X) {σ : Mem} {Q : Mem → Prop} (hw : w_X5_scanNumber σ Q) : mG X 0 [(0, .ref (xB X + 5))] [] σ 0 0 (mQ X 0 0 (qV Q)) := by
  refine g_aload_n hC dX5_scanNumber_0 rfl ?_
  refine g_iconst (v := 0) hC dX5_scanNumber_1 (by decide) ?_
  refine g_putIS hC (fw_X5_80_5 _) (hT _ tg_R_5) rfl rfl dX5_scanNumber_2 ?_
  refine mG.pick (lv' := [(0, .ref (xB X + 5))]) [0] rfl ?_
  obtain ⟨m101, hw⟩ := hw
  exact t_X5_scanNumber_5 hC hd hN hP hT m101 _ hw
set_option maxRecDepth 4000 in
theorem c_X5_scanNumber {Z : Fx} {ps ts : List (Nat × Nat × Nat)} {d : Nat} (hd : 1 ≤ d) (hP : ∀ e ∈ psR, e ∈ ps) (hT : ∀ e ∈ tsR, e ∈ ts) {σ : Mem} {Q : Mem → Prop} (hw : w_X5_scanNumber σ Q) : mM Z ps ts yX5_scanNumber cX5_scanNumber 1 none d 0 0 [.ref (Z.2.2 + 5)] σ (qV Q) := by
  refine mM.of (by decide) (Nat.le_of_ble_eq_true rfl) rfl (fun X hZ hp ht hn hC => ?_)
  subst hZ; subst hp; subst ht
  exact t_X5_scanNumber hC hd (fun i h => by rw [hn]; exact h) hP hT hw
def w_X5_spells_20 (Q : Int32 → Mem → Prop) : Nat → Nat → Int32 → Mem → Prop
  | 0, _, _, _ => False
  | n + 1, k1, x2, σ => k1 < 13 ∧ (((nI (lenX.getD k1 0)) ≤ x2 → (Q 1 σ)) ∧ (¬ (nI (lenX.getD k1 0)) ≤ x2 → (((mI σ 5 1) ≤ ((mI σ 5 4) + x2) → (Q 1 σ)) ∧ (¬ (mI σ 5 1) ≤ ((mI σ 5 4) + x2) → (vp_in ((mI σ 5 4) + x2) 160 ∧ ((k1 < 13 ∧ vp_in x2 (lenX.getD k1 0)) ∧ (((mI σ 6 (Int32.toNatClampNeg ((mI σ 5 4) + x2))) = ((bytX.getD k1 []).getD (Int32.toNatClampNeg x2) 0 &&& 255) → (w_X5_spells_20 Q n k1 (x2 + 1) σ)) ∧ (¬ (mI σ 6 (Int32.toNatClampNeg ((mI σ 5 4) + x2))) = ((bytX.getD k1 []).getD (Int32.toNatClampNeg x2) 0 &&& 255) → (Q 0 σ)))))))))
set_option maxRecDepth 4000 in
set_option maxHeartbeats 2000000 in
theorem t_X5_spells_20 {X : Cx} {d : Nat} (hC : mOK X cX5_spells RX5 "spells" (some .boolean) d 0 0) (hd : 6 ≤ d) (hN : ∀ i, i < 3 → i < xN X) (hP : ∀ e ∈ psR, e ∈ xP X) (hT : ∀ e ∈ tsR, e ∈ xT X) {Q : Int32 → Mem → Prop} : ∀ (n : Nat) (k1 : Nat) (x2 : Int32) (σ : Mem), w_X5_spells_20 Q n k1 x2 σ → mG X 20 [(0, .ref (xB X + 5)), (1, .ref (X.2.2.2.1.2.2.1 k1)), (2, .int x2)] [] σ 0 0 (mQ X 0 0 (qI Q)) := by
  intro n
  induction n with
  | zero => intro k1 x2 σ hw; exact False.elim hw
  | succ n ih =>
    intro k1 x2 σ hw
    rw [w_X5_spells_20] at hw
    refine g_iload_n hC dX5_spells_20 rfl ?_
    refine g_aload_n hC dX5_spells_21 rfl ?_
    refine g_strlen hC hw.1 tw_163 (Nat.le_of_ble_eq_true rfl) (by omega) (by decide) (by decide) dX5_spells_22 ?_
    replace hw := hw.2
    refine g_icmp_ge (tgt := 68) hC dX5_spells_25 rfl (fun c => ?_) (fun c => ?_)
    · replace hw := hw.1 c
      refine g_iconst (v := 1) hC dX5_spells_68 (by decide) ?_
      exact g_iret hC bz1 (by decide) (by decide) dX5_spells_69 (fun _ => ⟨_, rfl, hw⟩)
    · replace hw := hw.2 c
      refine g_aload_n hC dX5_spells_28 rfl ?_
      refine g_getiSv (v := (mI σ 5 4)) hC fl_X5_86_5.s (hT _ tg_R_5) rfl dX5_spells_29 ?_
      refine g_iload_n hC dX5_spells_32 rfl ?_
      refine g_iadd hC dX5_spells_33 ?_
      refine g_aload_n hC dX5_spells_34 rfl ?_
      refine g_getiSv (v := (mI σ 5 1)) hC fl_X5_18_5.s (hT _ tg_R_5) rfl dX5_spells_35 ?_
      refine g_icmp_ge (tgt := 68) hC dX5_spells_38 rfl (fun c => ?_) (fun c => ?_)
      · replace hw := hw.1 c
        refine g_iconst (v := 1) hC dX5_spells_68 (by decide) ?_
        exact g_iret hC bz1 (by decide) (by decide) dX5_spells_69 (fun _ => ⟨_, rfl, hw⟩)
      · replace hw := hw.2 c
        refine g_aload_n hC dX5_spells_41 rfl ?_
        refine g_getrS hC fl_X5_9_5.s (hT _ tg_R_5) (hP _ pt_R_5_0) dX5_spells_42 ?_
        refine g_aload_n hC dX5_spells_45 rfl ?_
        refine g_getiSv (v := (mI σ 5 4)) hC fl_X5_86_5.s (hT _ tg_R_5) rfl dX5_spells_46 ?_
        refine g_iload_n hC dX5_spells_49 rfl ?_
        refine g_iadd hC dX5_spells_50 ?_
        refine g_ialdSv (v := (mI σ 6 (Int32.toNatClampNeg ((mI σ 5 4) + x2)))) hC (hT _ tg_R_6) rfl hw.1 rfl dX5_spells_51 ?_
        replace hw := hw.2
        refine g_aload_n hC dX5_spells_52 rfl ?_
        refine g_iload_n hC dX5_spells_53 rfl ?_
        refine g_charAt hC hw.1.1 hw.1.2 tw_164 (Nat.le_of_ble_eq_true rfl) (by omega) (by decide) (by decide) dX5_spells_54 ?_
        replace hw := hw.2
        refine g_icmp_eq (tgt := 62) hC dX5_spells_57 rfl (fun c => ?_) (fun c => ?_)
        · replace hw := hw.1 c
          refine g_iinc (v := x2 + 1) (lv' := [(2, .int (x2 + 1)), (0, .ref (xB X + 5)), (1, .ref (X.2.2.2.1.2.2.1 k1))]) hC dX5_spells_62 rfl rfl (hN 2 (by decide)) rfl ?_
          refine g_goto (tgt := 20) hC dX5_spells_65 rfl ?_
          refine mG.pick (lv' := [(0, .ref (xB X + 5)), (1, .ref (X.2.2.2.1.2.2.1 k1)), (2, .int (x2 + 1))]) [1, 2, 0] rfl ?_
          exact ih _ _ _ hw
        · replace hw := hw.2 c
          refine g_iconst (v := 0) hC dX5_spells_60 (by decide) ?_
          exact g_iret hC bz0 (by decide) (by decide) dX5_spells_61 (fun _ => ⟨_, rfl, hw⟩)
def w_X5_spells (σ : Mem) (k1 : Nat) (Q : Int32 → Mem → Prop) : Prop := k1 < 13 ∧ ((((mI σ 5 5) - (mI σ 5 4)) = (nI (lenX.getD k1 0)) → (∃ m101 : Nat, w_X5_spells_20 Q m101 k1 0 σ)) ∧ (¬ ((mI σ 5 5) - (mI σ 5 4)) = (nI (lenX.getD k1 0)) → (Q 0 σ)))
set_option maxRecDepth 4000 in
set_option maxHeartbeats 2000000 in
theorem t_X5_spells {X : Cx} {d : Nat} (hC : mOK X cX5_spells RX5 "spells" (some .boolean) d 0 0) (hd : 6 ≤ d) (hN : ∀ i, i < 3 → i < xN X) (hP : ∀ e ∈ psR, e ∈ xP X) (hT : ∀ e ∈ tsR, e ∈ xT X) {σ : Mem} {k1 : Nat} {Q : Int32 → Mem → Prop} (hw : w_X5_spells σ k1 Q) : mG X 0 [(0, .ref (xB X + 5)), (1, .ref (X.2.2.2.1.2.2.1 k1))] [] σ 0 0 (mQ X 0 0 (qI Q)) := by
  refine g_aload_n hC dX5_spells_0 rfl ?_
  refine g_getiSv (v := (mI σ 5 5)) hC fl_X5_25_5.s (hT _ tg_R_5) rfl dX5_spells_1 ?_
  refine g_aload_n hC dX5_spells_4 rfl ?_
  refine g_getiSv (v := (mI σ 5 4)) hC fl_X5_86_5.s (hT _ tg_R_5) rfl dX5_spells_5 ?_
  refine g_isub hC dX5_spells_8 ?_
  refine g_aload_n hC dX5_spells_9 rfl ?_
  refine g_strlen hC hw.1 tw_163 (Nat.le_of_ble_eq_true rfl) (by omega) (by decide) (by decide) dX5_spells_10 ?_
  replace hw := hw.2
  refine g_icmp_eq (tgt := 18) hC dX5_spells_13 rfl (fun c => ?_) (fun c => ?_)
  · replace hw := hw.1 c
    refine g_iconst (v := 0) hC dX5_spells_18 (by decide) ?_
    refine g_istore_n (lv' := [(2, .int 0), (0, .ref (xB X + 5)), (1, .ref (X.2.2.2.1.2.2.1 k1))]) hC dX5_spells_19 (hN 2 (by decide)) rfl ?_
    refine mG.pick (lv' := [(0, .ref (xB X + 5)), (1, .ref (X.2.2.2.1.2.2.1 k1)), (2, .int 0)]) [1, 2, 0] rfl ?_
    obtain ⟨m101, hw⟩ := hw
    exact t_X5_spells_20 hC hd hN hP hT m101 _ _ _ hw
  · replace hw := hw.2 c
    refine g_iconst (v := 0) hC dX5_spells_16 (by decide) ?_
    exact g_iret hC bz0 (by decide) (by decide) dX5_spells_17 (fun _ => ⟨_, rfl, hw⟩)
set_option maxRecDepth 4000 in
theorem c_X5_spells {Z : Fx} {ps ts : List (Nat × Nat × Nat)} {d : Nat} (hd : 6 ≤ d) (hP : ∀ e ∈ psR, e ∈ ps) (hT : ∀ e ∈ tsR, e ∈ ts) {σ : Mem} {k1 : Nat} {Q : Int32 → Mem → Prop} (hw : w_X5_spells σ k1 Q) : mM Z ps ts yX5_spells cX5_spells 3 (some .boolean) d 0 0 [.ref (Z.2.2 + 5), .ref (Z.2.1.2.2.1 k1)] σ (qI Q) := by
  refine mM.of (by decide) (Nat.le_of_ble_eq_true rfl) rfl (fun X hZ hp ht hn hC => ?_)
  subst hZ; subst hp; subst ht
  exact t_X5_spells hC hd (fun i h => by rw [hn]; exact h) hP hT hw
def w_X5_scanWord_39 (Q : Mem → Prop) (σ : Mem) : Prop := w_X5_spells σ 1 (fun v101 s103 => (v101 = 0 → (w_X5_spells s103 2 (fun v104 s106 => (v104 = 0 → (w_X5_spells s106 3 (fun v107 s109 => (v107 = 0 → (w_X5_spells s109 4 (fun v110 s112 => (v110 = 0 → (w_X5_spells s112 5 (fun v113 s115 => (v113 = 0 → (w_X5_spells s115 6 (fun v116 s118 => (v116 = 0 → (w_X5_spells s118 7 (fun v119 s121 => (v119 = 0 → (w_X5_spells s121 8 (fun v122 s124 => (v122 = 0 → (w_X5_spells s124 9 (fun v125 s127 => (v125 = 0 → (w_X5_spells s127 10 (fun v128 s130 => (v128 = 0 → (w_X5_spells s130 11 (fun v131 s133 => (v131 = 0 → (w_X5_spells s133 12 (fun v134 s136 => (v134 = 0 → (Q (sI s136 5 3 1))) ∧ (¬ v134 = 0 → (Q (sI s136 5 3 (-6))))))) ∧ (¬ v131 = 0 → (Q (sI s133 5 3 (-5))))))) ∧ (¬ v128 = 0 → (Q (sI s130 5 3 (-4))))))) ∧ (¬ v125 = 0 → (Q (sI s127 5 3 (-3))))))) ∧ (¬ v122 = 0 → (Q (sI s124 5 3 (-2))))))) ∧ (¬ v119 = 0 → (Q (sI s121 5 3 (-1))))))) ∧ (¬ v116 = 0 → (Q (sI s118 5 3 8)))))) ∧ (¬ v113 = 0 → (Q (sI s115 5 3 7)))))) ∧ (¬ v110 = 0 → (Q (sI s112 5 3 6)))))) ∧ (¬ v107 = 0 → (Q (sI s109 5 3 5)))))) ∧ (¬ v104 = 0 → (Q (sI s106 5 3 4)))))) ∧ (¬ v101 = 0 → (Q (sI s103 5 3 3))))
set_option maxRecDepth 4000 in
set_option maxHeartbeats 2000000 in
theorem t_X5_scanWord_39 {X : Cx} {d : Nat} (hC : mOK X cX5_scanWord RX5 "scanWord" none d 0 0) (hd : 7 ≤ d) (hN : ∀ i, i < 1 → i < xN X) (hP : ∀ e ∈ psR, e ∈ xP X) (hT : ∀ e ∈ tsR, e ∈ xT X) {Q : Mem → Prop} {σ : Mem} (hw : w_X5_scanWord_39 Q σ) : mG X 39 [(0, .ref (xB X + 5))] [] σ 0 0 (mQ X 0 0 (qV Q)) := by
  refine g_aload_n hC dX5_scanWord_39 rfl ?_
  refine g_ldcS hC 1 rfl dX5_scanWord_40 ?_
  refine g_known (fun hS => ?_)
  refine mG.st (st1 := ([.ref (X.2.2.2.1.2.2.1 1)] : List Value).reverse ++ .ref (xB X + 5) :: []) rfl ?_
  refine g_callV (As := [.ref (X.2.2.2.1.2.2.1 1)]) (st := []) hC (hS.2 _ (hT _ tg_R_5)) (by decide) ycl_5_X5_spells yw_X5_spells yv_X5_spells tw_162 dX5_scanWord_42 (fun _ h => h) (fun _ h => h) (fun h => h) (c_X5_spells (d := 6) (Nat.le_refl _) hP hT hw) rfl (Nat.le_of_ble_eq_true rfl) (by omega) (by decide) (by decide) (kI fun v101 s103 hw => ?_)
  refine g_if_eq (tgt := 56) hC dX5_scanWord_45 rfl (fun c => ?_) (fun c => ?_)
  · replace hw := hw.1 c
    refine g_aload_n hC dX5_scanWord_56 rfl ?_
    refine g_ldcS hC 2 rfl dX5_scanWord_57 ?_
    refine g_known (fun hS => ?_)
    refine mG.st (st1 := ([.ref (X.2.2.2.1.2.2.1 2)] : List Value).reverse ++ .ref (xB X + 5) :: []) rfl ?_
    refine g_callV (As := [.ref (X.2.2.2.1.2.2.1 2)]) (st := []) hC (hS.2 _ (hT _ tg_R_5)) (by decide) ycl_5_X5_spells yw_X5_spells yv_X5_spells tw_162 dX5_scanWord_59 (fun _ h => h) (fun _ h => h) (fun h => h) (c_X5_spells (d := 6) (Nat.le_refl _) hP hT hw) rfl (Nat.le_of_ble_eq_true rfl) (by omega) (by decide) (by decide) (kI fun v104 s106 hw => ?_)
    refine g_if_eq (tgt := 73) hC dX5_scanWord_62 rfl (fun c => ?_) (fun c => ?_)
    · replace hw := hw.1 c
      refine g_aload_n hC dX5_scanWord_73 rfl ?_
      refine g_ldcS hC 3 rfl dX5_scanWord_74 ?_
      refine g_known (fun hS => ?_)
      refine mG.st (st1 := ([.ref (X.2.2.2.1.2.2.1 3)] : List Value).reverse ++ .ref (xB X + 5) :: []) rfl ?_
      refine g_callV (As := [.ref (X.2.2.2.1.2.2.1 3)]) (st := []) hC (hS.2 _ (hT _ tg_R_5)) (by decide) ycl_5_X5_spells yw_X5_spells yv_X5_spells tw_162 dX5_scanWord_76 (fun _ h => h) (fun _ h => h) (fun h => h) (c_X5_spells (d := 6) (Nat.le_refl _) hP hT hw) rfl (Nat.le_of_ble_eq_true rfl) (by omega) (by decide) (by decide) (kI fun v107 s109 hw => ?_)
      refine g_if_eq (tgt := 90) hC dX5_scanWord_79 rfl (fun c => ?_) (fun c => ?_)
      · replace hw := hw.1 c
        refine g_aload_n hC dX5_scanWord_90 rfl ?_
        refine g_ldcS hC 4 rfl dX5_scanWord_91 ?_
        refine g_known (fun hS => ?_)
        refine mG.st (st1 := ([.ref (X.2.2.2.1.2.2.1 4)] : List Value).reverse ++ .ref (xB X + 5) :: []) rfl ?_
        refine g_callV (As := [.ref (X.2.2.2.1.2.2.1 4)]) (st := []) hC (hS.2 _ (hT _ tg_R_5)) (by decide) ycl_5_X5_spells yw_X5_spells yv_X5_spells tw_162 dX5_scanWord_93 (fun _ h => h) (fun _ h => h) (fun h => h) (c_X5_spells (d := 6) (Nat.le_refl _) hP hT hw) rfl (Nat.le_of_ble_eq_true rfl) (by omega) (by decide) (by decide) (kI fun v110 s112 hw => ?_)
        refine g_if_eq (tgt := 108) hC dX5_scanWord_96 rfl (fun c => ?_) (fun c => ?_)
        · replace hw := hw.1 c
          refine g_aload_n hC dX5_scanWord_108 rfl ?_
          refine g_ldcS hC 5 rfl dX5_scanWord_109 ?_
          refine g_known (fun hS => ?_)
          refine mG.st (st1 := ([.ref (X.2.2.2.1.2.2.1 5)] : List Value).reverse ++ .ref (xB X + 5) :: []) rfl ?_
          refine g_callV (As := [.ref (X.2.2.2.1.2.2.1 5)]) (st := []) hC (hS.2 _ (hT _ tg_R_5)) (by decide) ycl_5_X5_spells yw_X5_spells yv_X5_spells tw_162 dX5_scanWord_111 (fun _ h => h) (fun _ h => h) (fun h => h) (c_X5_spells (d := 6) (Nat.le_refl _) hP hT hw) rfl (Nat.le_of_ble_eq_true rfl) (by omega) (by decide) (by decide) (kI fun v113 s115 hw => ?_)
          refine g_if_eq (tgt := 126) hC dX5_scanWord_114 rfl (fun c => ?_) (fun c => ?_)
          · replace hw := hw.1 c
            refine g_aload_n hC dX5_scanWord_126 rfl ?_
            refine g_ldcS hC 6 rfl dX5_scanWord_127 ?_
            refine g_known (fun hS => ?_)
            refine mG.st (st1 := ([.ref (X.2.2.2.1.2.2.1 6)] : List Value).reverse ++ .ref (xB X + 5) :: []) rfl ?_
            refine g_callV (As := [.ref (X.2.2.2.1.2.2.1 6)]) (st := []) hC (hS.2 _ (hT _ tg_R_5)) (by decide) ycl_5_X5_spells yw_X5_spells yv_X5_spells tw_162 dX5_scanWord_129 (fun _ h => h) (fun _ h => h) (fun h => h) (c_X5_spells (d := 6) (Nat.le_refl _) hP hT hw) rfl (Nat.le_of_ble_eq_true rfl) (by omega) (by decide) (by decide) (kI fun v116 s118 hw => ?_)
            refine g_if_eq (tgt := 144) hC dX5_scanWord_132 rfl (fun c => ?_) (fun c => ?_)
            · replace hw := hw.1 c
              refine g_aload_n hC dX5_scanWord_144 rfl ?_
              refine g_ldcS hC 7 rfl dX5_scanWord_145 ?_
              refine g_known (fun hS => ?_)
              refine mG.st (st1 := ([.ref (X.2.2.2.1.2.2.1 7)] : List Value).reverse ++ .ref (xB X + 5) :: []) rfl ?_
              refine g_callV (As := [.ref (X.2.2.2.1.2.2.1 7)]) (st := []) hC (hS.2 _ (hT _ tg_R_5)) (by decide) ycl_5_X5_spells yw_X5_spells yv_X5_spells tw_162 dX5_scanWord_147 (fun _ h => h) (fun _ h => h) (fun h => h) (c_X5_spells (d := 6) (Nat.le_refl _) hP hT hw) rfl (Nat.le_of_ble_eq_true rfl) (by omega) (by decide) (by decide) (kI fun v119 s121 hw => ?_)
              refine g_if_eq (tgt := 161) hC dX5_scanWord_150 rfl (fun c => ?_) (fun c => ?_)
              · replace hw := hw.1 c
                refine g_aload_n hC dX5_scanWord_161 rfl ?_
                refine g_ldcS hC 8 rfl dX5_scanWord_162 ?_
                refine g_known (fun hS => ?_)
                refine mG.st (st1 := ([.ref (X.2.2.2.1.2.2.1 8)] : List Value).reverse ++ .ref (xB X + 5) :: []) rfl ?_
                refine g_callV (As := [.ref (X.2.2.2.1.2.2.1 8)]) (st := []) hC (hS.2 _ (hT _ tg_R_5)) (by decide) ycl_5_X5_spells yw_X5_spells yv_X5_spells tw_162 dX5_scanWord_164 (fun _ h => h) (fun _ h => h) (fun h => h) (c_X5_spells (d := 6) (Nat.le_refl _) hP hT hw) rfl (Nat.le_of_ble_eq_true rfl) (by omega) (by decide) (by decide) (kI fun v122 s124 hw => ?_)
                refine g_if_eq (tgt := 179) hC dX5_scanWord_167 rfl (fun c => ?_) (fun c => ?_)
                · replace hw := hw.1 c
                  refine g_aload_n hC dX5_scanWord_179 rfl ?_
                  refine g_ldcS hC 9 rfl dX5_scanWord_180 ?_
                  refine g_known (fun hS => ?_)
                  refine mG.st (st1 := ([.ref (X.2.2.2.1.2.2.1 9)] : List Value).reverse ++ .ref (xB X + 5) :: []) rfl ?_
                  refine g_callV (As := [.ref (X.2.2.2.1.2.2.1 9)]) (st := []) hC (hS.2 _ (hT _ tg_R_5)) (by decide) ycl_5_X5_spells yw_X5_spells yv_X5_spells tw_162 dX5_scanWord_182 (fun _ h => h) (fun _ h => h) (fun h => h) (c_X5_spells (d := 6) (Nat.le_refl _) hP hT hw) rfl (Nat.le_of_ble_eq_true rfl) (by omega) (by decide) (by decide) (kI fun v125 s127 hw => ?_)
                  refine g_if_eq (tgt := 197) hC dX5_scanWord_185 rfl (fun c => ?_) (fun c => ?_)
                  · replace hw := hw.1 c
                    refine g_aload_n hC dX5_scanWord_197 rfl ?_
                    refine g_ldcS hC 10 rfl dX5_scanWord_198 ?_
                    refine g_known (fun hS => ?_)
                    refine mG.st (st1 := ([.ref (X.2.2.2.1.2.2.1 10)] : List Value).reverse ++ .ref (xB X + 5) :: []) rfl ?_
                    refine g_callV (As := [.ref (X.2.2.2.1.2.2.1 10)]) (st := []) hC (hS.2 _ (hT _ tg_R_5)) (by decide) ycl_5_X5_spells yw_X5_spells yv_X5_spells tw_162 dX5_scanWord_200 (fun _ h => h) (fun _ h => h) (fun h => h) (c_X5_spells (d := 6) (Nat.le_refl _) hP hT hw) rfl (Nat.le_of_ble_eq_true rfl) (by omega) (by decide) (by decide) (kI fun v128 s130 hw => ?_)
                    refine g_if_eq (tgt := 215) hC dX5_scanWord_203 rfl (fun c => ?_) (fun c => ?_)
                    · replace hw := hw.1 c
                      refine g_aload_n hC dX5_scanWord_215 rfl ?_
                      refine g_ldcS hC 11 rfl dX5_scanWord_216 ?_
                      refine g_known (fun hS => ?_)
                      refine mG.st (st1 := ([.ref (X.2.2.2.1.2.2.1 11)] : List Value).reverse ++ .ref (xB X + 5) :: []) rfl ?_
                      refine g_callV (As := [.ref (X.2.2.2.1.2.2.1 11)]) (st := []) hC (hS.2 _ (hT _ tg_R_5)) (by decide) ycl_5_X5_spells yw_X5_spells yv_X5_spells tw_162 dX5_scanWord_218 (fun _ h => h) (fun _ h => h) (fun h => h) (c_X5_spells (d := 6) (Nat.le_refl _) hP hT hw) rfl (Nat.le_of_ble_eq_true rfl) (by omega) (by decide) (by decide) (kI fun v131 s133 hw => ?_)
                      refine g_if_eq (tgt := 233) hC dX5_scanWord_221 rfl (fun c => ?_) (fun c => ?_)
                      · replace hw := hw.1 c
                        refine g_aload_n hC dX5_scanWord_233 rfl ?_
                        refine g_ldcS hC 12 rfl dX5_scanWord_234 ?_
                        refine g_known (fun hS => ?_)
                        refine mG.st (st1 := ([.ref (X.2.2.2.1.2.2.1 12)] : List Value).reverse ++ .ref (xB X + 5) :: []) rfl ?_
                        refine g_callV (As := [.ref (X.2.2.2.1.2.2.1 12)]) (st := []) hC (hS.2 _ (hT _ tg_R_5)) (by decide) ycl_5_X5_spells yw_X5_spells yv_X5_spells tw_162 dX5_scanWord_236 (fun _ h => h) (fun _ h => h) (fun h => h) (c_X5_spells (d := 6) (Nat.le_refl _) hP hT hw) rfl (Nat.le_of_ble_eq_true rfl) (by omega) (by decide) (by decide) (kI fun v134 s136 hw => ?_)
                        refine g_if_eq (tgt := 251) hC dX5_scanWord_239 rfl (fun c => ?_) (fun c => ?_)
                        · replace hw := hw.1 c
                          refine g_aload_n hC dX5_scanWord_251 rfl ?_
                          refine g_iconst (v := 1) hC dX5_scanWord_252 (by decide) ?_
                          refine g_putIS hC (fw_X5_58_5 _) (hT _ tg_R_5) rfl rfl dX5_scanWord_253 ?_
                          exact g_vret hC (by decide) (by decide) dX5_scanWord_256 (fun _ => ⟨rfl, hw⟩)
                        · replace hw := hw.2 c
                          refine g_aload_n hC dX5_scanWord_242 rfl ?_
                          refine g_bipush (v := (-6)) hC dX5_scanWord_243 (by decide) ?_
                          refine g_putIS hC (fw_X5_58_5 _) (hT _ tg_R_5) rfl rfl dX5_scanWord_245 ?_
                          refine g_goto (tgt := 256) hC dX5_scanWord_248 rfl ?_
                          exact g_vret hC (by decide) (by decide) dX5_scanWord_256 (fun _ => ⟨rfl, hw⟩)
                      · replace hw := hw.2 c
                        refine g_aload_n hC dX5_scanWord_224 rfl ?_
                        refine g_bipush (v := (-5)) hC dX5_scanWord_225 (by decide) ?_
                        refine g_putIS hC (fw_X5_58_5 _) (hT _ tg_R_5) rfl rfl dX5_scanWord_227 ?_
                        refine g_goto (tgt := 256) hC dX5_scanWord_230 rfl ?_
                        exact g_vret hC (by decide) (by decide) dX5_scanWord_256 (fun _ => ⟨rfl, hw⟩)
                    · replace hw := hw.2 c
                      refine g_aload_n hC dX5_scanWord_206 rfl ?_
                      refine g_bipush (v := (-4)) hC dX5_scanWord_207 (by decide) ?_
                      refine g_putIS hC (fw_X5_58_5 _) (hT _ tg_R_5) rfl rfl dX5_scanWord_209 ?_
                      refine g_goto (tgt := 256) hC dX5_scanWord_212 rfl ?_
                      exact g_vret hC (by decide) (by decide) dX5_scanWord_256 (fun _ => ⟨rfl, hw⟩)
                  · replace hw := hw.2 c
                    refine g_aload_n hC dX5_scanWord_188 rfl ?_
                    refine g_bipush (v := (-3)) hC dX5_scanWord_189 (by decide) ?_
                    refine g_putIS hC (fw_X5_58_5 _) (hT _ tg_R_5) rfl rfl dX5_scanWord_191 ?_
                    refine g_goto (tgt := 256) hC dX5_scanWord_194 rfl ?_
                    exact g_vret hC (by decide) (by decide) dX5_scanWord_256 (fun _ => ⟨rfl, hw⟩)
                · replace hw := hw.2 c
                  refine g_aload_n hC dX5_scanWord_170 rfl ?_
                  refine g_bipush (v := (-2)) hC dX5_scanWord_171 (by decide) ?_
                  refine g_putIS hC (fw_X5_58_5 _) (hT _ tg_R_5) rfl rfl dX5_scanWord_173 ?_
                  refine g_goto (tgt := 256) hC dX5_scanWord_176 rfl ?_
                  exact g_vret hC (by decide) (by decide) dX5_scanWord_256 (fun _ => ⟨rfl, hw⟩)
              · replace hw := hw.2 c
                refine g_aload_n hC dX5_scanWord_153 rfl ?_
                refine g_iconst (v := (-1)) hC dX5_scanWord_154 (by decide) ?_
                refine g_putIS hC (fw_X5_58_5 _) (hT _ tg_R_5) rfl rfl dX5_scanWord_155 ?_
                refine g_goto (tgt := 256) hC dX5_scanWord_158 rfl ?_
                exact g_vret hC (by decide) (by decide) dX5_scanWord_256 (fun _ => ⟨rfl, hw⟩)
            · replace hw := hw.2 c
              refine g_aload_n hC dX5_scanWord_135 rfl ?_
              refine g_bipush (v := 8) hC dX5_scanWord_136 (by decide) ?_
              refine g_putIS hC (fw_X5_58_5 _) (hT _ tg_R_5) rfl rfl dX5_scanWord_138 ?_
              refine g_goto (tgt := 256) hC dX5_scanWord_141 rfl ?_
              exact g_vret hC (by decide) (by decide) dX5_scanWord_256 (fun _ => ⟨rfl, hw⟩)
          · replace hw := hw.2 c
            refine g_aload_n hC dX5_scanWord_117 rfl ?_
            refine g_bipush (v := 7) hC dX5_scanWord_118 (by decide) ?_
            refine g_putIS hC (fw_X5_58_5 _) (hT _ tg_R_5) rfl rfl dX5_scanWord_120 ?_
            refine g_goto (tgt := 256) hC dX5_scanWord_123 rfl ?_
            exact g_vret hC (by decide) (by decide) dX5_scanWord_256 (fun _ => ⟨rfl, hw⟩)
        · replace hw := hw.2 c
          refine g_aload_n hC dX5_scanWord_99 rfl ?_
          refine g_bipush (v := 6) hC dX5_scanWord_100 (by decide) ?_
          refine g_putIS hC (fw_X5_58_5 _) (hT _ tg_R_5) rfl rfl dX5_scanWord_102 ?_
          refine g_goto (tgt := 256) hC dX5_scanWord_105 rfl ?_
          exact g_vret hC (by decide) (by decide) dX5_scanWord_256 (fun _ => ⟨rfl, hw⟩)
      · replace hw := hw.2 c
        refine g_aload_n hC dX5_scanWord_82 rfl ?_
        refine g_iconst (v := 5) hC dX5_scanWord_83 (by decide) ?_
        refine g_putIS hC (fw_X5_58_5 _) (hT _ tg_R_5) rfl rfl dX5_scanWord_84 ?_
        refine g_goto (tgt := 256) hC dX5_scanWord_87 rfl ?_
        exact g_vret hC (by decide) (by decide) dX5_scanWord_256 (fun _ => ⟨rfl, hw⟩)
    · replace hw := hw.2 c
      refine g_aload_n hC dX5_scanWord_65 rfl ?_
      refine g_iconst (v := 4) hC dX5_scanWord_66 (by decide) ?_
      refine g_putIS hC (fw_X5_58_5 _) (hT _ tg_R_5) rfl rfl dX5_scanWord_67 ?_
      refine g_goto (tgt := 256) hC dX5_scanWord_70 rfl ?_
      exact g_vret hC (by decide) (by decide) dX5_scanWord_256 (fun _ => ⟨rfl, hw⟩)
  · replace hw := hw.2 c
    refine g_aload_n hC dX5_scanWord_48 rfl ?_
    refine g_iconst (v := 3) hC dX5_scanWord_49 (by decide) ?_
    refine g_putIS hC (fw_X5_58_5 _) (hT _ tg_R_5) rfl rfl dX5_scanWord_50 ?_
    refine g_goto (tgt := 256) hC dX5_scanWord_53 rfl ?_
    exact g_vret hC (by decide) (by decide) dX5_scanWord_256 (fun _ => ⟨rfl, hw⟩)
def w_X5_scanWord_0 (Q : Mem → Prop) : Nat → Mem → Prop
  | 0, _ => False
  | n + 1, σ => ((mI σ 5 1) ≤ (mI σ 5 5) → (w_X5_scanWord_39 Q σ)) ∧ (¬ (mI σ 5 1) ≤ (mI σ 5 5) → (vp_in (mI σ 5 5) 160 ∧ (w_X5_isLetter σ (mI σ 6 (Int32.toNatClampNeg (mI σ 5 5))) (fun v101 s103 => (v101 = 0 → (w_X5_scanWord_39 Q s103)) ∧ (¬ v101 = 0 → (w_X5_scanWord_0 Q n (sI s103 5 5 ((mI s103 5 5) + 1))))))))
set_option maxRecDepth 4000 in
set_option maxHeartbeats 2000000 in
theorem t_X5_scanWord_0 {X : Cx} {d : Nat} (hC : mOK X cX5_scanWord RX5 "scanWord" none d 0 0) (hd : 7 ≤ d) (hN : ∀ i, i < 1 → i < xN X) (hP : ∀ e ∈ psR, e ∈ xP X) (hT : ∀ e ∈ tsR, e ∈ xT X) {Q : Mem → Prop} : ∀ (n : Nat) (σ : Mem), w_X5_scanWord_0 Q n σ → mG X 0 [(0, .ref (xB X + 5))] [] σ 0 0 (mQ X 0 0 (qV Q)) := by
  intro n
  induction n with
  | zero => intro σ hw; exact False.elim hw
  | succ n ih =>
    intro σ hw
    rw [w_X5_scanWord_0] at hw
    refine g_aload_n hC dX5_scanWord_0 rfl ?_
    refine g_getiSv (v := (mI σ 5 5)) hC fl_X5_25_5.s (hT _ tg_R_5) rfl dX5_scanWord_1 ?_
    refine g_aload_n hC dX5_scanWord_4 rfl ?_
    refine g_getiSv (v := (mI σ 5 1)) hC fl_X5_18_5.s (hT _ tg_R_5) rfl dX5_scanWord_5 ?_
    refine g_icmp_ge (tgt := 39) hC dX5_scanWord_8 rfl (fun c => ?_) (fun c => ?_)
    · replace hw := hw.1 c
      refine mG.pick (lv' := [(0, .ref (xB X + 5))]) [0] rfl ?_
      exact t_X5_scanWord_39 hC hd hN hP hT hw
    · replace hw := hw.2 c
      refine g_aload_n hC dX5_scanWord_11 rfl ?_
      refine g_getrS hC fl_X5_9_5.s (hT _ tg_R_5) (hP _ pt_R_5_0) dX5_scanWord_12 ?_
      refine g_aload_n hC dX5_scanWord_15 rfl ?_
      refine g_getiSv (v := (mI σ 5 5)) hC fl_X5_25_5.s (hT _ tg_R_5) rfl dX5_scanWord_16 ?_
      refine g_ialdSv (v := (mI σ 6 (Int32.toNatClampNeg (mI σ 5 5)))) hC (hT _ tg_R_6) rfl hw.1 rfl dX5_scanWord_19 ?_
      replace hw := hw.2
      refine mG.st (st1 := ([.int (mI σ 6 (Int32.toNatClampNeg (mI σ 5 5)))] : List Value).reverse ++ []) rfl ?_
      refine g_callS (As := [.int (mI σ 6 (Int32.toNatClampNeg (mI σ 5 5)))]) (st := []) hC yw_X5_isLetter ys_X5_isLetter tw_145 dX5_scanWord_20 (fun _ h => h) (fun _ h => h) (fun h => h) (c_X5_isLetter (d := 0) (Nat.le_refl _) hw) rfl (Nat.le_of_ble_eq_true rfl) (by omega) (by decide) (by decide) (kI fun v101 s103 hw => ?_)
      refine g_if_eq (tgt := 39) hC dX5_scanWord_23 rfl (fun c => ?_) (fun c => ?_)
      · replace hw := hw.1 c
        refine mG.pick (lv' := [(0, .ref (xB X + 5))]) [0] rfl ?_
        exact t_X5_scanWord_39 hC hd hN hP hT hw
      · replace hw := hw.2 c
        refine g_aload_n hC dX5_scanWord_26 rfl ?_
        refine g_dup hC dX5_scanWord_27 rfl ?_
        refine g_getiSv (v := (mI s103 5 5)) hC fl_X5_25_5.s (hT _ tg_R_5) rfl dX5_scanWord_28 ?_
        refine g_iconst (v := 1) hC dX5_scanWord_31 (by decide) ?_
        refine g_iadd hC dX5_scanWord_32 ?_
        refine g_putIS hC (fw_X5_25_5 _) (hT _ tg_R_5) rfl rfl dX5_scanWord_33 ?_
        refine g_goto (tgt := 0) hC dX5_scanWord_36 rfl ?_
        refine mG.pick (lv' := [(0, .ref (xB X + 5))]) [0] rfl ?_
        exact ih _ hw
def w_X5_scanWord (σ : Mem) (Q : Mem → Prop) : Prop := ∃ n : Nat, w_X5_scanWord_0 Q n σ
theorem t_X5_scanWord {X : Cx} {d : Nat} (hC : mOK X cX5_scanWord RX5 "scanWord" none d 0 0) (hd : 7 ≤ d) (hN : ∀ i, i < 1 → i < xN X) (hP : ∀ e ∈ psR, e ∈ xP X) (hT : ∀ e ∈ tsR, e ∈ xT X) {σ : Mem} {Q : Mem → Prop} (hw : w_X5_scanWord σ Q) : mG X 0 [(0, .ref (xB X + 5))] [] σ 0 0 (mQ X 0 0 (qV Q)) := by
  obtain ⟨n, hw⟩ := hw
  refine mG.pick (lv' := [(0, .ref (xB X + 5))]) [0] rfl ?_
  exact t_X5_scanWord_0 hC hd hN hP hT n _ hw
set_option maxRecDepth 4000 in
theorem c_X5_scanWord {Z : Fx} {ps ts : List (Nat × Nat × Nat)} {d : Nat} (hd : 7 ≤ d) (hP : ∀ e ∈ psR, e ∈ ps) (hT : ∀ e ∈ tsR, e ∈ ts) {σ : Mem} {Q : Mem → Prop} (hw : w_X5_scanWord σ Q) : mM Z ps ts yX5_scanWord cX5_scanWord 1 none d 0 0 [.ref (Z.2.2 + 5)] σ (qV Q) := by
  refine mM.of (by decide) (Nat.le_of_ble_eq_true rfl) rfl (fun X hZ hp ht hn hC => ?_)
  subst hZ; subst hp; subst ht
  exact t_X5_scanWord hC hd (fun i h => by rw [hn]; exact h) hP hT hw
def w_X5_advance_61 (Q : Mem → Prop) (σ : Mem) : Prop := ((mI σ 5 5) < (mI σ 5 1) → (vp_in (mI σ 5 5) 160 ∧ (w_X5_isLetter (sI σ 5 4 (mI σ 5 5)) (mI σ 6 (Int32.toNatClampNeg (mI σ 5 5))) (fun v101 s103 => (v101 = 0 → (vp_in (mI s103 5 4) 160 ∧ (w_X5_isDigit s103 (mI s103 6 (Int32.toNatClampNeg (mI s103 5 4))) (fun v104 s106 => (v104 = 0 → (vp_in (mI s106 5 4) 160 ∧ (w_X5_isSign (sI s106 5 5 ((mI s106 5 5) + 1)) (mI s106 6 (Int32.toNatClampNeg (mI s106 5 4))) (fun v107 s109 => (v107 = 0 → (Q (sI s109 5 3 1))) ∧ (¬ v107 = 0 → (vp_in (mI s109 5 4) 160 ∧ (∀ v110 : Int32, v110 = (mI s109 6 (Int32.toNatClampNeg (mI s109 5 4))) → (Q (sI s109 5 3 v110))))))))) ∧ (¬ v104 = 0 → (w_X5_scanNumber s106 (fun s113 => Q s113))))))) ∧ (¬ v101 = 0 → (w_X5_scanWord s103 (fun s116 => Q s116))))))) ∧ (¬ (mI σ 5 5) < (mI σ 5 1) → (Q (sI (sI σ 5 4 (mI σ 5 5)) 5 3 0)))
set_option maxRecDepth 4000 in
set_option maxHeartbeats 2000000 in
theorem t_X5_advance_61 {X : Cx} {d : Nat} (hC : mOK X cX5_advance RX5 "advance" none d 0 0) (hd : 8 ≤ d) (hN : ∀ i, i < 1 → i < xN X) (hP : ∀ e ∈ psR, e ∈ xP X) (hT : ∀ e ∈ tsR, e ∈ xT X) {Q : Mem → Prop} {σ : Mem} (hw : w_X5_advance_61 Q σ) : mG X 61 [(0, .ref (xB X + 5))] [] σ 0 0 (mQ X 0 0 (qV Q)) := by
  refine g_aload_n hC dX5_advance_61 rfl ?_
  refine g_aload_n hC dX5_advance_62 rfl ?_
  refine g_getiSv (v := (mI σ 5 5)) hC fl_X5_25_5.s (hT _ tg_R_5) rfl dX5_advance_63 ?_
  refine g_putIS hC (fw_X5_86_5 _) (hT _ tg_R_5) rfl rfl dX5_advance_66 ?_
  refine g_aload_n hC dX5_advance_69 rfl ?_
  refine g_getiSv (v := (mI σ 5 5)) hC fl_X5_86_5.s (hT _ tg_R_5) (mI_sI_s _ _ _ _) dX5_advance_70 ?_
  refine g_aload_n hC dX5_advance_73 rfl ?_
  refine g_getiSv (v := (mI σ 5 1)) hC fl_X5_18_5.s (hT _ tg_R_5) (mI_sI_k _ _ (by decide)) dX5_advance_74 ?_
  refine g_icmp_lt (tgt := 88) hC dX5_advance_77 rfl (fun c => ?_) (fun c => ?_)
  · replace hw := hw.1 c
    refine g_aload_n hC dX5_advance_88 rfl ?_
    refine g_getrS hC fl_X5_9_5.s (hT _ tg_R_5) (hP _ pt_R_5_0) dX5_advance_89 ?_
    refine g_aload_n hC dX5_advance_92 rfl ?_
    refine g_getiSv (v := (mI σ 5 5)) hC fl_X5_86_5.s (hT _ tg_R_5) (mI_sI_s _ _ _ _) dX5_advance_93 ?_
    refine g_ialdSv (v := (mI σ 6 (Int32.toNatClampNeg (mI σ 5 5)))) hC (hT _ tg_R_6) rfl hw.1 (mI_sI_n _ _ (by decide)) dX5_advance_96 ?_
    replace hw := hw.2
    refine mG.st (st1 := ([.int (mI σ 6 (Int32.toNatClampNeg (mI σ 5 5)))] : List Value).reverse ++ []) rfl ?_
    refine g_callS (As := [.int (mI σ 6 (Int32.toNatClampNeg (mI σ 5 5)))]) (st := []) hC yw_X5_isLetter ys_X5_isLetter tw_145 dX5_advance_97 (fun _ h => h) (fun _ h => h) (fun h => h) (c_X5_isLetter (d := 0) (Nat.le_refl _) hw) rfl (Nat.le_of_ble_eq_true rfl) (by omega) (by decide) (by decide) (kI fun v101 s103 hw => ?_)
    refine g_if_eq (tgt := 110) hC dX5_advance_100 rfl (fun c => ?_) (fun c => ?_)
    · replace hw := hw.1 c
      refine g_aload_n hC dX5_advance_110 rfl ?_
      refine g_getrS hC fl_X5_9_5.s (hT _ tg_R_5) (hP _ pt_R_5_0) dX5_advance_111 ?_
      refine g_aload_n hC dX5_advance_114 rfl ?_
      refine g_getiSv (v := (mI s103 5 4)) hC fl_X5_86_5.s (hT _ tg_R_5) rfl dX5_advance_115 ?_
      refine g_ialdSv (v := (mI s103 6 (Int32.toNatClampNeg (mI s103 5 4)))) hC (hT _ tg_R_6) rfl hw.1 rfl dX5_advance_118 ?_
      replace hw := hw.2
      refine mG.st (st1 := ([.int (mI s103 6 (Int32.toNatClampNeg (mI s103 5 4)))] : List Value).reverse ++ []) rfl ?_
      refine g_callS (As := [.int (mI s103 6 (Int32.toNatClampNeg (mI s103 5 4)))]) (st := []) hC yw_X5_isDigit ys_X5_isDigit tw_146 dX5_advance_119 (fun _ h => h) (fun _ h => h) (fun h => h) (c_X5_isDigit (d := 0) (Nat.le_refl _) hw) rfl (Nat.le_of_ble_eq_true rfl) (by omega) (by decide) (by decide) (kI fun v104 s106 hw => ?_)
      refine g_if_eq (tgt := 132) hC dX5_advance_122 rfl (fun c => ?_) (fun c => ?_)
      · replace hw := hw.1 c
        refine g_aload_n hC dX5_advance_132 rfl ?_
        refine g_dup hC dX5_advance_133 rfl ?_
        refine g_getiSv (v := (mI s106 5 5)) hC fl_X5_25_5.s (hT _ tg_R_5) rfl dX5_advance_134 ?_
        refine g_iconst (v := 1) hC dX5_advance_137 (by decide) ?_
        refine g_iadd hC dX5_advance_138 ?_
        refine g_putIS hC (fw_X5_25_5 _) (hT _ tg_R_5) rfl rfl dX5_advance_139 ?_
        refine g_aload_n hC dX5_advance_142 rfl ?_
        refine g_aload_n hC dX5_advance_143 rfl ?_
        refine g_getrS hC fl_X5_9_5.s (hT _ tg_R_5) (hP _ pt_R_5_0) dX5_advance_144 ?_
        refine g_aload_n hC dX5_advance_147 rfl ?_
        refine g_getiSv (v := (mI s106 5 4)) hC fl_X5_86_5.s (hT _ tg_R_5) (mI_sI_k _ _ (by decide)) dX5_advance_148 ?_
        refine g_ialdSv (v := (mI s106 6 (Int32.toNatClampNeg (mI s106 5 4)))) hC (hT _ tg_R_6) rfl hw.1 (mI_sI_n _ _ (by decide)) dX5_advance_151 ?_
        replace hw := hw.2
        refine mG.st (st1 := ([.int (mI s106 6 (Int32.toNatClampNeg (mI s106 5 4)))] : List Value).reverse ++ [.ref (xB X + 5)]) rfl ?_
        refine g_callS (As := [.int (mI s106 6 (Int32.toNatClampNeg (mI s106 5 4)))]) (st := [.ref (xB X + 5)]) hC yw_X5_isSign ys_X5_isSign tw_147 dX5_advance_152 (fun _ h => h) (fun _ h => h) (fun h => h) (c_X5_isSign (d := 0) (Nat.le_refl _) hw) rfl (Nat.le_of_ble_eq_true rfl) (by omega) (by decide) (by decide) (kI fun v107 s109 hw => ?_)
        refine g_if_eq (tgt := 170) hC dX5_advance_155 rfl (fun c => ?_) (fun c => ?_)
        · replace hw := hw.1 c
          refine g_iconst (v := 1) hC dX5_advance_170 (by decide) ?_
          refine g_putIS hC (fw_X5_58_5 _) (hT _ tg_R_5) rfl rfl dX5_advance_171 ?_
          exact g_vret hC (by decide) (by decide) dX5_advance_174 (fun _ => ⟨rfl, hw⟩)
        · replace hw := hw.2 c
          refine g_aload_n hC dX5_advance_158 rfl ?_
          refine g_getrS hC fl_X5_9_5.s (hT _ tg_R_5) (hP _ pt_R_5_0) dX5_advance_159 ?_
          refine g_aload_n hC dX5_advance_162 rfl ?_
          refine g_getiSv (v := (mI s109 5 4)) hC fl_X5_86_5.s (hT _ tg_R_5) rfl dX5_advance_163 ?_
          refine g_ialdSv (v := (mI s109 6 (Int32.toNatClampNeg (mI s109 5 4)))) hC (hT _ tg_R_6) rfl hw.1 rfl dX5_advance_166 ?_
          replace hw := hw.2
          refine g_goto (tgt := 171) hC dX5_advance_167 rfl ?_
          refine g_topi (fun v110 ev110 => ?_)
          replace hw := hw v110 ev110
          refine g_putIS hC (fw_X5_58_5 _) (hT _ tg_R_5) rfl rfl dX5_advance_171 ?_
          exact g_vret hC (by decide) (by decide) dX5_advance_174 (fun _ => ⟨rfl, hw⟩)
      · replace hw := hw.2 c
        refine g_aload_n hC dX5_advance_125 rfl ?_
        refine g_known (fun hS => ?_)
        refine mG.st (st1 := ([] : List Value).reverse ++ .ref (xB X + 5) :: []) rfl ?_
        refine g_callV (As := []) (st := []) hC (hS.2 _ (hT _ tg_R_5)) (by decide) ycl_5_X5_scanNumber yw_X5_scanNumber yv_X5_scanNumber tw_152 dX5_advance_126 (fun _ h => h) (fun _ h => h) (fun h => h) (c_X5_scanNumber (d := 1) (Nat.le_refl _) hP hT hw) rfl (Nat.le_of_ble_eq_true rfl) (by omega) (by decide) (by decide) (kV fun s113 hw => ?_)
        refine g_goto (tgt := 174) hC dX5_advance_129 rfl ?_
        exact g_vret hC (by decide) (by decide) dX5_advance_174 (fun _ => ⟨rfl, hw⟩)
    · replace hw := hw.2 c
      refine g_aload_n hC dX5_advance_103 rfl ?_
      refine g_known (fun hS => ?_)
      refine mG.st (st1 := ([] : List Value).reverse ++ .ref (xB X + 5) :: []) rfl ?_
      refine g_callV (As := []) (st := []) hC (hS.2 _ (hT _ tg_R_5)) (by decide) ycl_5_X5_scanWord yw_X5_scanWord yv_X5_scanWord tw_159 dX5_advance_104 (fun _ h => h) (fun _ h => h) (fun h => h) (c_X5_scanWord (d := 7) (Nat.le_refl _) hP hT hw) rfl (Nat.le_of_ble_eq_true rfl) (by omega) (by decide) (by decide) (kV fun s116 hw => ?_)
      refine g_goto (tgt := 174) hC dX5_advance_107 rfl ?_
      exact g_vret hC (by decide) (by decide) dX5_advance_174 (fun _ => ⟨rfl, hw⟩)
  · replace hw := hw.2 c
    refine g_aload_n hC dX5_advance_80 rfl ?_
    refine g_iconst (v := 0) hC dX5_advance_81 (by decide) ?_
    refine g_putIS hC (fw_X5_58_5 _) (hT _ tg_R_5) rfl rfl dX5_advance_82 ?_
    refine g_goto (tgt := 174) hC dX5_advance_85 rfl ?_
    exact g_vret hC (by decide) (by decide) dX5_advance_174 (fun _ => ⟨rfl, hw⟩)
def w_X5_advance_48 (Q : Mem → Prop) (K9 : Mem → Prop) (σ : Mem) : Prop := K9 (sI σ 5 5 ((mI σ 5 5) + 1))
set_option maxRecDepth 4000 in
set_option maxHeartbeats 2000000 in
theorem t_X5_advance_48 {X : Cx} {d : Nat} (hC : mOK X cX5_advance RX5 "advance" none d 0 0) (hd : 8 ≤ d) (hN : ∀ i, i < 1 → i < xN X) (hP : ∀ e ∈ psR, e ∈ xP X) (hT : ∀ e ∈ tsR, e ∈ xT X) {Q : Mem → Prop} {K9 : Mem → Prop} (hK9 : ∀ (s : Mem), K9 s → mG X 9 [(0, .ref (xB X + 5))] [] s 0 0 (mQ X 0 0 (qV Q))) {σ : Mem} (hw : w_X5_advance_48 Q K9 σ) : mG X 48 [(0, .ref (xB X + 5))] [] σ 0 0 (mQ X 0 0 (qV Q)) := by
  refine g_aload_n hC dX5_advance_48 rfl ?_
  refine g_dup hC dX5_advance_49 rfl ?_
  refine g_getiSv (v := (mI σ 5 5)) hC fl_X5_25_5.s (hT _ tg_R_5) rfl dX5_advance_50 ?_
  refine g_iconst (v := 1) hC dX5_advance_53 (by decide) ?_
  refine g_iadd hC dX5_advance_54 ?_
  refine g_putIS hC (fw_X5_25_5 _) (hT _ tg_R_5) rfl rfl dX5_advance_55 ?_
  refine g_goto (tgt := 9) hC dX5_advance_58 rfl ?_
  refine mG.pick (lv' := [(0, .ref (xB X + 5))]) [0] rfl ?_
  exact hK9 _ hw
def w_X5_advance_9 (Q : Mem → Prop) : Nat → Mem → Prop
  | 0, _ => False
  | n + 1, σ => ((mI σ 5 1) ≤ (mI σ 5 5) → (w_X5_advance_61 Q σ)) ∧ (¬ (mI σ 5 1) ≤ (mI σ 5 5) → (vp_in (mI σ 5 5) 160 ∧ (((mI σ 6 (Int32.toNatClampNeg (mI σ 5 5))) = 32 → (w_X5_advance_48 Q (fun z0 => w_X5_advance_9 Q n z0) σ)) ∧ (¬ (mI σ 6 (Int32.toNatClampNeg (mI σ 5 5))) = 32 → (vp_in (mI σ 5 5) 160 ∧ ((¬ (mI σ 6 (Int32.toNatClampNeg (mI σ 5 5))) = 10 → (w_X5_advance_61 Q σ)) ∧ ((mI σ 6 (Int32.toNatClampNeg (mI σ 5 5))) = 10 → (w_X5_advance_48 Q (fun z0 => w_X5_advance_9 Q n z0) σ))))))))
set_option maxRecDepth 4000 in
set_option maxHeartbeats 2000000 in
theorem t_X5_advance_9 {X : Cx} {d : Nat} (hC : mOK X cX5_advance RX5 "advance" none d 0 0) (hd : 8 ≤ d) (hN : ∀ i, i < 1 → i < xN X) (hP : ∀ e ∈ psR, e ∈ xP X) (hT : ∀ e ∈ tsR, e ∈ xT X) {Q : Mem → Prop} : ∀ (n : Nat) (σ : Mem), w_X5_advance_9 Q n σ → mG X 9 [(0, .ref (xB X + 5))] [] σ 0 0 (mQ X 0 0 (qV Q)) := by
  intro n
  induction n with
  | zero => intro σ hw; exact False.elim hw
  | succ n ih =>
    intro σ hw
    rw [w_X5_advance_9] at hw
    refine g_aload_n hC dX5_advance_9 rfl ?_
    refine g_getiSv (v := (mI σ 5 5)) hC fl_X5_25_5.s (hT _ tg_R_5) rfl dX5_advance_10 ?_
    refine g_aload_n hC dX5_advance_13 rfl ?_
    refine g_getiSv (v := (mI σ 5 1)) hC fl_X5_18_5.s (hT _ tg_R_5) rfl dX5_advance_14 ?_
    refine g_icmp_ge (tgt := 61) hC dX5_advance_17 rfl (fun c => ?_) (fun c => ?_)
    · replace hw := hw.1 c
      refine mG.pick (lv' := [(0, .ref (xB X + 5))]) [0] rfl ?_
      exact t_X5_advance_61 hC hd hN hP hT hw
    · replace hw := hw.2 c
      refine g_aload_n hC dX5_advance_20 rfl ?_
      refine g_getrS hC fl_X5_9_5.s (hT _ tg_R_5) (hP _ pt_R_5_0) dX5_advance_21 ?_
      refine g_aload_n hC dX5_advance_24 rfl ?_
      refine g_getiSv (v := (mI σ 5 5)) hC fl_X5_25_5.s (hT _ tg_R_5) rfl dX5_advance_25 ?_
      refine g_ialdSv (v := (mI σ 6 (Int32.toNatClampNeg (mI σ 5 5)))) hC (hT _ tg_R_6) rfl hw.1 rfl dX5_advance_28 ?_
      replace hw := hw.2
      refine g_bipush (v := 32) hC dX5_advance_29 (by decide) ?_
      refine g_icmp_eq (tgt := 48) hC dX5_advance_31 rfl (fun c => ?_) (fun c => ?_)
      · replace hw := hw.1 c
        refine mG.pick (lv' := [(0, .ref (xB X + 5))]) [0] rfl ?_
        exact t_X5_advance_48 hC hd hN hP hT ih hw
      · replace hw := hw.2 c
        refine g_aload_n hC dX5_advance_34 rfl ?_
        refine g_getrS hC fl_X5_9_5.s (hT _ tg_R_5) (hP _ pt_R_5_0) dX5_advance_35 ?_
        refine g_aload_n hC dX5_advance_38 rfl ?_
        refine g_getiSv (v := (mI σ 5 5)) hC fl_X5_25_5.s (hT _ tg_R_5) rfl dX5_advance_39 ?_
        refine g_ialdSv (v := (mI σ 6 (Int32.toNatClampNeg (mI σ 5 5)))) hC (hT _ tg_R_6) rfl hw.1 rfl dX5_advance_42 ?_
        replace hw := hw.2
        refine g_bipush (v := 10) hC dX5_advance_43 (by decide) ?_
        refine g_icmp_ne (tgt := 61) hC dX5_advance_45 rfl (fun c => ?_) (fun c => ?_)
        · replace hw := hw.1 c
          refine mG.pick (lv' := [(0, .ref (xB X + 5))]) [0] rfl ?_
          exact t_X5_advance_61 hC hd hN hP hT hw
        · replace hw := hw.2 c
          refine mG.pick (lv' := [(0, .ref (xB X + 5))]) [0] rfl ?_
          exact t_X5_advance_48 hC hd hN hP hT ih hw
def w_X5_advance (σ : Mem) (Q : Mem → Prop) : Prop := ((mI σ 5 2) = (-1) → (∃ m101 : Nat, w_X5_advance_9 Q m101 σ)) ∧ (¬ (mI σ 5 2) = (-1) → (Q σ))
set_option maxRecDepth 4000 in
set_option maxHeartbeats 2000000 in
theorem t_X5_advance {X : Cx} {d : Nat} (hC : mOK X cX5_advance RX5 "advance" none d 0 0) (hd : 8 ≤ d) (hN : ∀ i, i < 1 → i < xN X) (hP : ∀ e ∈ psR, e ∈ xP X) (hT : ∀ e ∈ tsR, e ∈ xT X) {σ : Mem} {Q : Mem → Prop} (hw : w_X5_advance σ Q) : mG X 0 [(0, .ref (xB X + 5))] [] σ 0 0 (mQ X 0 0 (qV Q)) := by
  refine g_aload_n hC dX5_advance_0 rfl ?_
  refine g_getiSv (v := (mI σ 5 2)) hC fl_X5_22_5.s (hT _ tg_R_5) rfl dX5_advance_1 ?_
  refine g_iconst (v := (-1)) hC dX5_advance_4 (by decide) ?_
  refine g_icmp_eq (tgt := 9) hC dX5_advance_5 rfl (fun c => ?_) (fun c => ?_)
  · replace hw := hw.1 c
    refine mG.pick (lv' := [(0, .ref (xB X + 5))]) [0] rfl ?_
    obtain ⟨m101, hw⟩ := hw
    exact t_X5_advance_9 hC hd hN hP hT m101 _ hw
  · replace hw := hw.2 c
    exact g_vret hC (by decide) (by decide) dX5_advance_8 (fun _ => ⟨rfl, hw⟩)
set_option maxRecDepth 4000 in
theorem c_X5_advance {Z : Fx} {ps ts : List (Nat × Nat × Nat)} {d : Nat} (hd : 8 ≤ d) (hP : ∀ e ∈ psR, e ∈ ps) (hT : ∀ e ∈ tsR, e ∈ ts) {σ : Mem} {Q : Mem → Prop} (hw : w_X5_advance σ Q) : mM Z ps ts yX5_advance cX5_advance 1 none d 0 0 [.ref (Z.2.2 + 5)] σ (qV Q) := by
  refine mM.of (by decide) (Nat.le_of_ble_eq_true rfl) rfl (fun X hZ hp ht hn hC => ?_)
  subst hZ; subst hp; subst ht
  exact t_X5_advance hC hd (fun i h => by rw [hn]; exact h) hP hT hw
def w_X5_fail (σ : Mem) (Q : Mem → Prop) : Prop := (¬ (mI σ 5 2) = (-1) → (Q (sI σ 5 3 1))) ∧ ((mI σ 5 2) = (-1) → (Q (sI (sI σ 5 2 (mI σ 5 4)) 5 3 1)))
set_option maxRecDepth 4000 in
set_option maxHeartbeats 2000000 in
theorem t_X5_fail {X : Cx} {d : Nat} (hC : mOK X cX5_fail RX5 "fail" none d 0 0) (hd : 0 ≤ d) (hN : ∀ i, i < 1 → i < xN X) (hP : ∀ e ∈ psR, e ∈ xP X) (hT : ∀ e ∈ tsR, e ∈ xT X) {σ : Mem} {Q : Mem → Prop} (hw : w_X5_fail σ Q) : mG X 0 [(0, .ref (xB X + 5))] [] σ 0 0 (mQ X 0 0 (qV Q)) := by
  refine g_aload_n hC dX5_fail_0 rfl ?_
  refine g_getiSv (v := (mI σ 5 2)) hC fl_X5_22_5.s (hT _ tg_R_5) rfl dX5_fail_1 ?_
  refine g_iconst (v := (-1)) hC dX5_fail_4 (by decide) ?_
  refine g_icmp_ne (tgt := 16) hC dX5_fail_5 rfl (fun c => ?_) (fun c => ?_)
  · replace hw := hw.1 c
    refine g_aload_n hC dX5_fail_16 rfl ?_
    refine g_iconst (v := 1) hC dX5_fail_17 (by decide) ?_
    refine g_putIS hC (fw_X5_58_5 _) (hT _ tg_R_5) rfl rfl dX5_fail_18 ?_
    exact g_vret hC (by decide) (by decide) dX5_fail_21 (fun _ => ⟨rfl, hw⟩)
  · replace hw := hw.2 c
    refine g_aload_n hC dX5_fail_8 rfl ?_
    refine g_aload_n hC dX5_fail_9 rfl ?_
    refine g_getiSv (v := (mI σ 5 4)) hC fl_X5_86_5.s (hT _ tg_R_5) rfl dX5_fail_10 ?_
    refine g_putIS hC (fw_X5_22_5 _) (hT _ tg_R_5) rfl rfl dX5_fail_13 ?_
    refine g_aload_n hC dX5_fail_16 rfl ?_
    refine g_iconst (v := 1) hC dX5_fail_17 (by decide) ?_
    refine g_putIS hC (fw_X5_58_5 _) (hT _ tg_R_5) rfl rfl dX5_fail_18 ?_
    exact g_vret hC (by decide) (by decide) dX5_fail_21 (fun _ => ⟨rfl, hw⟩)
set_option maxRecDepth 4000 in
theorem c_X5_fail {Z : Fx} {ps ts : List (Nat × Nat × Nat)} {d : Nat} (hd : 0 ≤ d) (hP : ∀ e ∈ psR, e ∈ ps) (hT : ∀ e ∈ tsR, e ∈ ts) {σ : Mem} {Q : Mem → Prop} (hw : w_X5_fail σ Q) : mM Z ps ts yX5_fail cX5_fail 1 none d 0 0 [.ref (Z.2.2 + 5)] σ (qV Q) := by
  refine mM.of (by decide) (Nat.le_of_ble_eq_true rfl) rfl (fun X hZ hp ht hn hC => ?_)
  subst hZ; subst hp; subst ht
  exact t_X5_fail hC hd (fun i h => by rw [hn]; exact h) hP hT hw
def w_X5_pass (σ : Mem) (x1 : Int32) (Q : Mem → Prop) : Prop := (¬ (mI σ 5 3) = x1 → (w_X5_fail σ (fun s103 => Q s103))) ∧ ((mI σ 5 3) = x1 → (w_X5_advance σ (fun s106 => Q s106)))
set_option maxRecDepth 4000 in
set_option maxHeartbeats 2000000 in
theorem t_X5_pass {X : Cx} {d : Nat} (hC : mOK X cX5_pass RX5 "pass" none d 0 0) (hd : 9 ≤ d) (hN : ∀ i, i < 2 → i < xN X) (hP : ∀ e ∈ psR, e ∈ xP X) (hT : ∀ e ∈ tsR, e ∈ xT X) {σ : Mem} {x1 : Int32} {Q : Mem → Prop} (hw : w_X5_pass σ x1 Q) : mG X 0 [(0, .ref (xB X + 5)), (1, .int x1)] [] σ 0 0 (mQ X 0 0 (qV Q)) := by
  refine g_aload_n hC dX5_pass_0 rfl ?_
  refine g_getiSv (v := (mI σ 5 3)) hC fl_X5_58_5.s (hT _ tg_R_5) rfl dX5_pass_1 ?_
  refine g_iload_n hC dX5_pass_4 rfl ?_
  refine g_icmp_ne (tgt := 15) hC dX5_pass_5 rfl (fun c => ?_) (fun c => ?_)
  · replace hw := hw.1 c
    refine g_aload_n hC dX5_pass_15 rfl ?_
    refine g_known (fun hS => ?_)
    refine mG.st (st1 := ([] : List Value).reverse ++ .ref (xB X + 5) :: []) rfl ?_
    refine g_callV (As := []) (st := []) hC (hS.2 _ (hT _ tg_R_5)) (by decide) ycl_5_X5_fail yw_X5_fail yv_X5_fail tw_173 dX5_pass_16 (fun _ h => h) (fun _ h => h) (fun h => h) (c_X5_fail (d := 0) (Nat.le_refl _) hP hT hw) rfl (Nat.le_of_ble_eq_true rfl) (by omega) (by decide) (by decide) (kV fun s103 hw => ?_)
    exact g_vret hC (by decide) (by decide) dX5_pass_19 (fun _ => ⟨rfl, hw⟩)
  · replace hw := hw.2 c
    refine g_aload_n hC dX5_pass_8 rfl ?_
    refine g_known (fun hS => ?_)
    refine mG.st (st1 := ([] : List Value).reverse ++ .ref (xB X + 5) :: []) rfl ?_
    refine g_callV (As := []) (st := []) hC (hS.2 _ (hT _ tg_R_5)) (by decide) ycl_5_X5_advance yw_X5_advance yv_X5_advance tw_142 dX5_pass_9 (fun _ h => h) (fun _ h => h) (fun h => h) (c_X5_advance (d := 8) (Nat.le_refl _) hP hT hw) rfl (Nat.le_of_ble_eq_true rfl) (by omega) (by decide) (by decide) (kV fun s106 hw => ?_)
    refine g_goto (tgt := 19) hC dX5_pass_12 rfl ?_
    exact g_vret hC (by decide) (by decide) dX5_pass_19 (fun _ => ⟨rfl, hw⟩)
set_option maxRecDepth 4000 in
theorem c_X5_pass {Z : Fx} {ps ts : List (Nat × Nat × Nat)} {d : Nat} (hd : 9 ≤ d) (hP : ∀ e ∈ psR, e ∈ ps) (hT : ∀ e ∈ tsR, e ∈ ts) {σ : Mem} {x1 : Int32} {Q : Mem → Prop} (hw : w_X5_pass σ x1 Q) : mM Z ps ts yX5_pass cX5_pass 2 none d 0 0 [.ref (Z.2.2 + 5), .int x1] σ (qV Q) := by
  refine mM.of (by decide) (Nat.le_of_ble_eq_true rfl) rfl (fun X hZ hp ht hn hC => ?_)
  subst hZ; subst hp; subst ht
  exact t_X5_pass hC hd (fun i h => by rw [hn]; exact h) hP hT hw
def w_X5_opens (σ : Mem) (x1 : Int32) (Q : Int32 → Mem → Prop) : Prop := (x1 < 5 → (w_X5_advance σ (fun s103 => Q 1 s103))) ∧ (¬ x1 < 5 → (w_X5_fail σ (fun s106 => Q 0 s106)))
set_option maxRecDepth 4000 in
set_option maxHeartbeats 2000000 in
theorem t_X5_opens {X : Cx} {d : Nat} (hC : mOK X cX5_opens RX5 "opens" (some .boolean) d 0 0) (hd : 9 ≤ d) (hN : ∀ i, i < 2 → i < xN X) (hP : ∀ e ∈ psR, e ∈ xP X) (hT : ∀ e ∈ tsR, e ∈ xT X) {σ : Mem} {x1 : Int32} {Q : Int32 → Mem → Prop} (hw : w_X5_opens σ x1 Q) : mG X 0 [(0, .ref (xB X + 5)), (1, .int x1)] [] σ 0 0 (mQ X 0 0 (qI Q)) := by
  refine g_iload_n hC dX5_opens_0 rfl ?_
  refine g_iconst (v := 5) hC dX5_opens_1 (by decide) ?_
  refine g_icmp_lt (tgt := 11) hC dX5_opens_2 rfl (fun c => ?_) (fun c => ?_)
  · replace hw := hw.1 c
    refine g_aload_n hC dX5_opens_11 rfl ?_
    refine g_known (fun hS => ?_)
    refine mG.st (st1 := ([] : List Value).reverse ++ .ref (xB X + 5) :: []) rfl ?_
    refine g_callV (As := []) (st := []) hC (hS.2 _ (hT _ tg_R_5)) (by decide) ycl_5_X5_advance yw_X5_advance yv_X5_advance tw_142 dX5_opens_12 (fun _ h => h) (fun _ h => h) (fun h => h) (c_X5_advance (d := 8) (Nat.le_refl _) hP hT hw) rfl (Nat.le_of_ble_eq_true rfl) (by omega) (by decide) (by decide) (kV fun s103 hw => ?_)
    refine g_iconst (v := 1) hC dX5_opens_15 (by decide) ?_
    exact g_iret hC bz1 (by decide) (by decide) dX5_opens_16 (fun _ => ⟨_, rfl, hw⟩)
  · replace hw := hw.2 c
    refine g_aload_n hC dX5_opens_5 rfl ?_
    refine g_known (fun hS => ?_)
    refine mG.st (st1 := ([] : List Value).reverse ++ .ref (xB X + 5) :: []) rfl ?_
    refine g_callV (As := []) (st := []) hC (hS.2 _ (hT _ tg_R_5)) (by decide) ycl_5_X5_fail yw_X5_fail yv_X5_fail tw_173 dX5_opens_6 (fun _ h => h) (fun _ h => h) (fun h => h) (c_X5_fail (d := 0) (Nat.le_refl _) hP hT hw) rfl (Nat.le_of_ble_eq_true rfl) (by omega) (by decide) (by decide) (kV fun s106 hw => ?_)
    refine g_iconst (v := 0) hC dX5_opens_9 (by decide) ?_
    exact g_iret hC bz0 (by decide) (by decide) dX5_opens_10 (fun _ => ⟨_, rfl, hw⟩)
set_option maxRecDepth 4000 in
theorem c_X5_opens {Z : Fx} {ps ts : List (Nat × Nat × Nat)} {d : Nat} (hd : 9 ≤ d) (hP : ∀ e ∈ psR, e ∈ ps) (hT : ∀ e ∈ tsR, e ∈ ts) {σ : Mem} {x1 : Int32} {Q : Int32 → Mem → Prop} (hw : w_X5_opens σ x1 Q) : mM Z ps ts yX5_opens cX5_opens 2 (some .boolean) d 0 0 [.ref (Z.2.2 + 5), .int x1] σ (qI Q) := by
  refine mM.of (by decide) (Nat.le_of_ble_eq_true rfl) rfl (fun X hZ hp ht hn hC => ?_)
  subst hZ; subst hp; subst ht
  exact t_X5_opens hC hd (fun i h => by rw [hn]; exact h) hP hT hw
def w_X5_add (σ : Mem) (x1 : Int32) (Q : Mem → Prop) : Prop := (160 ≤ (mI σ 5 8) → (Q σ)) ∧ (¬ 160 ≤ (mI σ 5 8) → (vp_in (mI σ 5 8) 160 ∧ (Q (sI (sI σ 7 (Int32.toNatClampNeg (mI σ 5 8)) x1) 5 8 ((mI σ 5 8) + 1)))))
set_option maxRecDepth 4000 in
set_option maxHeartbeats 2000000 in
theorem t_X5_add {X : Cx} {d : Nat} (hC : mOK X cX5_add RX5 "add" none d 0 0) (hd : 0 ≤ d) (hN : ∀ i, i < 2 → i < xN X) (hP : ∀ e ∈ psR, e ∈ xP X) (hT : ∀ e ∈ tsR, e ∈ xT X) {σ : Mem} {x1 : Int32} {Q : Mem → Prop} (hw : w_X5_add σ x1 Q) : mG X 0 [(0, .ref (xB X + 5)), (1, .int x1)] [] σ 0 0 (mQ X 0 0 (qV Q)) := by
  refine g_aload_n hC dX5_add_0 rfl ?_
  refine g_getiSv (v := (mI σ 5 8)) hC fl_X5_28_5.s (hT _ tg_R_5) rfl dX5_add_1 ?_
  refine g_sipush (v := 160) hC dX5_add_4 (by decide) ?_
  refine g_icmp_ge (tgt := 30) hC dX5_add_7 rfl (fun c => ?_) (fun c => ?_)
  · replace hw := hw.1 c
    exact g_vret hC (by decide) (by decide) dX5_add_30 (fun _ => ⟨rfl, hw⟩)
  · replace hw := hw.2 c
    refine g_aload_n hC dX5_add_10 rfl ?_
    refine g_getrS hC fl_X5_15_5.s (hT _ tg_R_5) (hP _ pt_R_5_7) dX5_add_11 ?_
    refine g_aload_n hC dX5_add_14 rfl ?_
    refine g_getiSv (v := (mI σ 5 8)) hC fl_X5_28_5.s (hT _ tg_R_5) rfl dX5_add_15 ?_
    refine g_iload_n hC dX5_add_18 rfl ?_
    have hin := hw.1
    replace hw := hw.2
    refine g_iastS (k := (Int32.toNatClampNeg (mI σ 5 8))) hC (hT _ tg_R_7) rfl hin dX5_add_19 ?_
    refine g_aload_n hC dX5_add_20 rfl ?_
    refine g_dup hC dX5_add_21 rfl ?_
    refine g_getiSv (v := (mI σ 5 8)) hC fl_X5_28_5.s (hT _ tg_R_5) (mI_sI_n _ _ (by decide)) dX5_add_22 ?_
    refine g_iconst (v := 1) hC dX5_add_25 (by decide) ?_
    refine g_iadd hC dX5_add_26 ?_
    refine g_putIS hC (fw_X5_28_5 _) (hT _ tg_R_5) rfl rfl dX5_add_27 ?_
    exact g_vret hC (by decide) (by decide) dX5_add_30 (fun _ => ⟨rfl, hw⟩)
set_option maxRecDepth 4000 in
theorem c_X5_add {Z : Fx} {ps ts : List (Nat × Nat × Nat)} {d : Nat} (hd : 0 ≤ d) (hP : ∀ e ∈ psR, e ∈ ps) (hT : ∀ e ∈ tsR, e ∈ ts) {σ : Mem} {x1 : Int32} {Q : Mem → Prop} (hw : w_X5_add σ x1 Q) : mM Z ps ts yX5_add cX5_add 2 none d 0 0 [.ref (Z.2.2 + 5), .int x1] σ (qV Q) := by
  refine mM.of (by decide) (Nat.le_of_ble_eq_true rfl) rfl (fun X hZ hp ht hn hC => ?_)
  subst hZ; subst hp; subst ht
  exact t_X5_add hC hd (fun i h => by rw [hn]; exact h) hP hT hw
def w_X5_readOne_35 (rE : Mem → Int32 → (Mem → Prop) → Prop) (rN : Mem → Int32 → (Mem → Prop) → Prop) (rO : Mem → Int32 → (Mem → Prop) → Prop) (Q : Mem → Prop) (xy0 : Int32) (σ : Mem) : Prop := w_X5_add σ xy0 (fun s103 => w_X5_advance s103 (fun s106 => Q s106))
set_option maxRecDepth 4000 in
set_option maxHeartbeats 2000000 in
theorem t_X5_readOne_35 {X : Cx} {d : Nat} {dr : Nat} (hC : mOK X cX5_readOne RX5 "readOne" none d 0 0) (hd : dr + 10 ≤ d) (hN : ∀ i, i < 2 → i < xN X) (hP : ∀ e ∈ psR, e ∈ xP X) (hT : ∀ e ∈ tsR, e ∈ xT X) {rE : Mem → Int32 → (Mem → Prop) → Prop} (hrE : ∀ (s : Mem) (z0 : Int32) (q : Mem → Prop), rE s z0 q → mM (xZ X) (xP X) (xT X) yX5_readE cX5_readE 3 none dr 0 0 [.ref ((xB X) + 5), .int z0] s (qV q)) {rN : Mem → Int32 → (Mem → Prop) → Prop} (hrN : ∀ (s : Mem) (z0 : Int32) (q : Mem → Prop), rN s z0 q → mM (xZ X) (xP X) (xT X) yX5_readNot cX5_readNot 3 none dr 0 0 [.ref ((xB X) + 5), .int z0] s (qV q)) {rO : Mem → Int32 → (Mem → Prop) → Prop} (hrO : ∀ (s : Mem) (z0 : Int32) (q : Mem → Prop), rO s z0 q → mM (xZ X) (xP X) (xT X) yX5_readOne cX5_readOne 2 none dr 0 0 [.ref ((xB X) + 5), .int z0] s (qV q)) {Q : Mem → Prop} {xy0 : Int32} {σ : Mem} (hw : w_X5_readOne_35 rE rN rO Q xy0 σ) : mG X 35 [(0, .ref (xB X + 5))] [.int xy0, .ref (xB X + 5)] σ 0 0 (mQ X 0 0 (qV Q)) := by
  refine g_known (fun hS => ?_)
  refine mG.st (st1 := ([.int xy0] : List Value).reverse ++ .ref (xB X + 5) :: []) rfl ?_
  refine g_callV (As := [.int xy0]) (st := []) hC (hS.2 _ (hT _ tg_R_5)) (by decide) ycl_5_X5_add yw_X5_add yv_X5_add tw_196 dX5_readOne_35 (fun _ h => h) (fun _ h => h) (fun h => h) (c_X5_add (d := 0) (Nat.le_refl _) hP hT hw) rfl (Nat.le_of_ble_eq_true rfl) (by omega) (by decide) (by decide) (kV fun s103 hw => ?_)
  refine g_aload_n hC dX5_readOne_38 rfl ?_
  refine g_known (fun hS => ?_)
  refine mG.st (st1 := ([] : List Value).reverse ++ .ref (xB X + 5) :: []) rfl ?_
  refine g_callV (As := []) (st := []) hC (hS.2 _ (hT _ tg_R_5)) (by decide) ycl_5_X5_advance yw_X5_advance yv_X5_advance tw_142 dX5_readOne_39 (fun _ h => h) (fun _ h => h) (fun h => h) (c_X5_advance (d := 8) (Nat.le_refl _) hP hT hw) rfl (Nat.le_of_ble_eq_true rfl) (by omega) (by decide) (by decide) (kV fun s106 hw => ?_)
  refine g_goto (tgt := 115) hC dX5_readOne_42 rfl ?_
  exact g_vret hC (by decide) (by decide) dX5_readOne_115 (fun _ => ⟨rfl, hw⟩)
def w_X5_readOne_15 (rE : Mem → Int32 → (Mem → Prop) → Prop) (rN : Mem → Int32 → (Mem → Prop) → Prop) (rO : Mem → Int32 → (Mem → Prop) → Prop) (Q : Mem → Prop) (σ : Mem) : Prop := (¬ (mI σ 5 3) = 2 → (w_X5_readOne_35 rE rN rO Q (mI σ 5 3) σ)) ∧ ((mI σ 5 3) = 2 → (w_X5_readOne_35 rE rN rO Q (mI σ 5 6) σ))
set_option maxRecDepth 4000 in
set_option maxHeartbeats 2000000 in
theorem t_X5_readOne_15 {X : Cx} {d : Nat} {dr : Nat} (hC : mOK X cX5_readOne RX5 "readOne" none d 0 0) (hd : dr + 10 ≤ d) (hN : ∀ i, i < 2 → i < xN X) (hP : ∀ e ∈ psR, e ∈ xP X) (hT : ∀ e ∈ tsR, e ∈ xT X) {rE : Mem → Int32 → (Mem → Prop) → Prop} (hrE : ∀ (s : Mem) (z0 : Int32) (q : Mem → Prop), rE s z0 q → mM (xZ X) (xP X) (xT X) yX5_readE cX5_readE 3 none dr 0 0 [.ref ((xB X) + 5), .int z0] s (qV q)) {rN : Mem → Int32 → (Mem → Prop) → Prop} (hrN : ∀ (s : Mem) (z0 : Int32) (q : Mem → Prop), rN s z0 q → mM (xZ X) (xP X) (xT X) yX5_readNot cX5_readNot 3 none dr 0 0 [.ref ((xB X) + 5), .int z0] s (qV q)) {rO : Mem → Int32 → (Mem → Prop) → Prop} (hrO : ∀ (s : Mem) (z0 : Int32) (q : Mem → Prop), rO s z0 q → mM (xZ X) (xP X) (xT X) yX5_readOne cX5_readOne 2 none dr 0 0 [.ref ((xB X) + 5), .int z0] s (qV q)) {Q : Mem → Prop} {σ : Mem} (hw : w_X5_readOne_15 rE rN rO Q σ) : mG X 15 [(0, .ref (xB X + 5))] [] σ 0 0 (mQ X 0 0 (qV Q)) := by
  refine g_aload_n hC dX5_readOne_15 rfl ?_
  refine g_aload_n hC dX5_readOne_16 rfl ?_
  refine g_getiSv (v := (mI σ 5 3)) hC fl_X5_58_5.s (hT _ tg_R_5) rfl dX5_readOne_17 ?_
  refine g_iconst (v := 2) hC dX5_readOne_20 (by decide) ?_
  refine g_icmp_ne (tgt := 31) hC dX5_readOne_21 rfl (fun c => ?_) (fun c => ?_)
  · replace hw := hw.1 c
    refine g_aload_n hC dX5_readOne_31 rfl ?_
    refine g_getiSv (v := (mI σ 5 3)) hC fl_X5_58_5.s (hT _ tg_R_5) rfl dX5_readOne_32 ?_
    refine mG.pick (lv' := [(0, .ref (xB X + 5))]) [0] rfl ?_
    exact t_X5_readOne_35 hC hd hN hP hT hrE hrN hrO hw
  · replace hw := hw.2 c
    refine g_aload_n hC dX5_readOne_24 rfl ?_
    refine g_getiSv (v := (mI σ 5 6)) hC fl_X5_80_5.s (hT _ tg_R_5) rfl dX5_readOne_25 ?_
    refine g_goto (tgt := 35) hC dX5_readOne_28 rfl ?_
    refine mG.pick (lv' := [(0, .ref (xB X + 5))]) [0] rfl ?_
    exact t_X5_readOne_35 hC hd hN hP hT hrE hrN hrO hw
def w_X5_readOne (rE : Mem → Int32 → (Mem → Prop) → Prop) (rN : Mem → Int32 → (Mem → Prop) → Prop) (rO : Mem → Int32 → (Mem → Prop) → Prop) (σ : Mem) (x1 : Int32) (Q : Mem → Prop) : Prop := ((mI σ 5 3) = 2 → (w_X5_readOne_15 rE rN rO Q σ)) ∧ (¬ (mI σ 5 3) = 2 → ((0 ≤ (mI σ 5 3) → ((¬ (mI σ 5 3) = 45 → ((¬ (mI σ 5 3) = 40 → (w_X5_fail σ (fun s103 => Q s103))) ∧ ((mI σ 5 3) = 40 → (w_X5_opens σ x1 (fun v104 s106 => (v104 = 0 → (Q s106)) ∧ (¬ v104 = 0 → (rE s106 (x1 + 1) (fun s109 => w_X5_pass s109 41 (fun s112 => Q s112))))))))) ∧ ((mI σ 5 3) = 45 → (w_X5_opens σ x1 (fun v113 s115 => (v113 = 0 → (Q s115)) ∧ (¬ v113 = 0 → (rO s115 (x1 + 1) (fun s118 => w_X5_add s118 (-22) (fun s121 => Q s121))))))))) ∧ (¬ 0 ≤ (mI σ 5 3) → (w_X5_readOne_15 rE rN rO Q σ))))
set_option maxRecDepth 4000 in
set_option maxHeartbeats 2000000 in
theorem t_X5_readOne {X : Cx} {d : Nat} {dr : Nat} (hC : mOK X cX5_readOne RX5 "readOne" none d 0 0) (hd : dr + 10 ≤ d) (hN : ∀ i, i < 2 → i < xN X) (hP : ∀ e ∈ psR, e ∈ xP X) (hT : ∀ e ∈ tsR, e ∈ xT X) {rE : Mem → Int32 → (Mem → Prop) → Prop} (hrE : ∀ (s : Mem) (z0 : Int32) (q : Mem → Prop), rE s z0 q → mM (xZ X) (xP X) (xT X) yX5_readE cX5_readE 3 none dr 0 0 [.ref ((xB X) + 5), .int z0] s (qV q)) {rN : Mem → Int32 → (Mem → Prop) → Prop} (hrN : ∀ (s : Mem) (z0 : Int32) (q : Mem → Prop), rN s z0 q → mM (xZ X) (xP X) (xT X) yX5_readNot cX5_readNot 3 none dr 0 0 [.ref ((xB X) + 5), .int z0] s (qV q)) {rO : Mem → Int32 → (Mem → Prop) → Prop} (hrO : ∀ (s : Mem) (z0 : Int32) (q : Mem → Prop), rO s z0 q → mM (xZ X) (xP X) (xT X) yX5_readOne cX5_readOne 2 none dr 0 0 [.ref ((xB X) + 5), .int z0] s (qV q)) {σ : Mem} {x1 : Int32} {Q : Mem → Prop} (hw : w_X5_readOne rE rN rO σ x1 Q) : mG X 0 [(0, .ref (xB X + 5)), (1, .int x1)] [] σ 0 0 (mQ X 0 0 (qV Q)) := by
  refine g_aload_n hC dX5_readOne_0 rfl ?_
  refine g_getiSv (v := (mI σ 5 3)) hC fl_X5_58_5.s (hT _ tg_R_5) rfl dX5_readOne_1 ?_
  refine g_iconst (v := 2) hC dX5_readOne_4 (by decide) ?_
  refine g_icmp_eq (tgt := 15) hC dX5_readOne_5 rfl (fun c => ?_) (fun c => ?_)
  · replace hw := hw.1 c
    refine mG.pick (lv' := [(0, .ref (xB X + 5))]) [0] rfl ?_
    exact t_X5_readOne_15 hC hd hN hP hT hrE hrN hrO hw
  · replace hw := hw.2 c
    refine g_aload_n hC dX5_readOne_8 rfl ?_
    refine g_getiSv (v := (mI σ 5 3)) hC fl_X5_58_5.s (hT _ tg_R_5) rfl dX5_readOne_9 ?_
    refine g_if_ge (tgt := 45) hC dX5_readOne_12 rfl (fun c => ?_) (fun c => ?_)
    · replace hw := hw.1 c
      refine g_aload_n hC dX5_readOne_45 rfl ?_
      refine g_getiSv (v := (mI σ 5 3)) hC fl_X5_58_5.s (hT _ tg_R_5) rfl dX5_readOne_46 ?_
      refine g_bipush (v := 45) hC dX5_readOne_49 (by decide) ?_
      refine g_icmp_ne (tgt := 78) hC dX5_readOne_51 rfl (fun c => ?_) (fun c => ?_)
      · replace hw := hw.1 c
        refine g_aload_n hC dX5_readOne_78 rfl ?_
        refine g_getiSv (v := (mI σ 5 3)) hC fl_X5_58_5.s (hT _ tg_R_5) rfl dX5_readOne_79 ?_
        refine g_bipush (v := 40) hC dX5_readOne_82 (by decide) ?_
        refine g_icmp_ne (tgt := 111) hC dX5_readOne_84 rfl (fun c => ?_) (fun c => ?_)
        · replace hw := hw.1 c
          refine g_aload_n hC dX5_readOne_111 rfl ?_
          refine g_known (fun hS => ?_)
          refine mG.st (st1 := ([] : List Value).reverse ++ .ref (xB X + 5) :: []) rfl ?_
          refine g_callV (As := []) (st := []) hC (hS.2 _ (hT _ tg_R_5)) (by decide) ycl_5_X5_fail yw_X5_fail yv_X5_fail tw_173 dX5_readOne_112 (fun _ h => h) (fun _ h => h) (fun h => h) (c_X5_fail (d := 0) (Nat.le_refl _) hP hT hw) rfl (Nat.le_of_ble_eq_true rfl) (by omega) (by decide) (by decide) (kV fun s103 hw => ?_)
          exact g_vret hC (by decide) (by decide) dX5_readOne_115 (fun _ => ⟨rfl, hw⟩)
        · replace hw := hw.2 c
          refine g_aload_n hC dX5_readOne_87 rfl ?_
          refine g_iload_n hC dX5_readOne_88 rfl ?_
          refine g_known (fun hS => ?_)
          refine mG.st (st1 := ([.int x1] : List Value).reverse ++ .ref (xB X + 5) :: []) rfl ?_
          refine g_callV (As := [.int x1]) (st := []) hC (hS.2 _ (hT _ tg_R_5)) (by decide) ycl_5_X5_opens yw_X5_opens yv_X5_opens tw_186 dX5_readOne_89 (fun _ h => h) (fun _ h => h) (fun h => h) (c_X5_opens (d := 9) (Nat.le_refl _) hP hT hw) rfl (Nat.le_of_ble_eq_true rfl) (by omega) (by decide) (by decide) (kI fun v104 s106 hw => ?_)
          refine g_if_eq (tgt := 115) hC dX5_readOne_92 rfl (fun c => ?_) (fun c => ?_)
          · replace hw := hw.1 c
            exact g_vret hC (by decide) (by decide) dX5_readOne_115 (fun _ => ⟨rfl, hw⟩)
          · replace hw := hw.2 c
            refine g_aload_n hC dX5_readOne_95 rfl ?_
            refine g_iload_n hC dX5_readOne_96 rfl ?_
            refine g_iconst (v := 1) hC dX5_readOne_97 (by decide) ?_
            refine g_iadd hC dX5_readOne_98 ?_
            refine g_known (fun hS => ?_)
            refine mG.st (st1 := ([.int (x1 + 1)] : List Value).reverse ++ .ref (xB X + 5) :: []) rfl ?_
            refine g_callV (As := [.int (x1 + 1)]) (st := []) hC (hS.2 _ (hT _ tg_R_5)) (by decide) ycl_5_X5_readE yw_X5_readE yv_X5_readE tw_180 dX5_readOne_99 (fun _ h => h) (fun _ h => h) (fun h => h) (hrE _ _ _ hw) rfl (Nat.le_of_ble_eq_true rfl) (by omega) (by decide) (by decide) (kV fun s109 hw => ?_)
            refine g_aload_n hC dX5_readOne_102 rfl ?_
            refine g_bipush (v := 41) hC dX5_readOne_103 (by decide) ?_
            refine g_known (fun hS => ?_)
            refine mG.st (st1 := ([.int 41] : List Value).reverse ++ .ref (xB X + 5) :: []) rfl ?_
            refine g_callV (As := [.int 41]) (st := []) hC (hS.2 _ (hT _ tg_R_5)) (by decide) ycl_5_X5_pass yw_X5_pass yv_X5_pass tw_172 dX5_readOne_105 (fun _ h => h) (fun _ h => h) (fun h => h) (c_X5_pass (d := 9) (Nat.le_refl _) hP hT hw) rfl (Nat.le_of_ble_eq_true rfl) (by omega) (by decide) (by decide) (kV fun s112 hw => ?_)
            refine g_goto (tgt := 115) hC dX5_readOne_108 rfl ?_
            exact g_vret hC (by decide) (by decide) dX5_readOne_115 (fun _ => ⟨rfl, hw⟩)
      · replace hw := hw.2 c
        refine g_aload_n hC dX5_readOne_54 rfl ?_
        refine g_iload_n hC dX5_readOne_55 rfl ?_
        refine g_known (fun hS => ?_)
        refine mG.st (st1 := ([.int x1] : List Value).reverse ++ .ref (xB X + 5) :: []) rfl ?_
        refine g_callV (As := [.int x1]) (st := []) hC (hS.2 _ (hT _ tg_R_5)) (by decide) ycl_5_X5_opens yw_X5_opens yv_X5_opens tw_186 dX5_readOne_56 (fun _ h => h) (fun _ h => h) (fun h => h) (c_X5_opens (d := 9) (Nat.le_refl _) hP hT hw) rfl (Nat.le_of_ble_eq_true rfl) (by omega) (by decide) (by decide) (kI fun v113 s115 hw => ?_)
        refine g_if_eq (tgt := 115) hC dX5_readOne_59 rfl (fun c => ?_) (fun c => ?_)
        · replace hw := hw.1 c
          exact g_vret hC (by decide) (by decide) dX5_readOne_115 (fun _ => ⟨rfl, hw⟩)
        · replace hw := hw.2 c
          refine g_aload_n hC dX5_readOne_62 rfl ?_
          refine g_iload_n hC dX5_readOne_63 rfl ?_
          refine g_iconst (v := 1) hC dX5_readOne_64 (by decide) ?_
          refine g_iadd hC dX5_readOne_65 ?_
          refine g_known (fun hS => ?_)
          refine mG.st (st1 := ([.int (x1 + 1)] : List Value).reverse ++ .ref (xB X + 5) :: []) rfl ?_
          refine g_callV (As := [.int (x1 + 1)]) (st := []) hC (hS.2 _ (hT _ tg_R_5)) (by decide) ycl_5_X5_readOne yw_X5_readOne yv_X5_readOne tw_185 dX5_readOne_66 (fun _ h => h) (fun _ h => h) (fun h => h) (hrO _ _ _ hw) rfl (Nat.le_of_ble_eq_true rfl) (by omega) (by decide) (by decide) (kV fun s118 hw => ?_)
          refine g_aload_n hC dX5_readOne_69 rfl ?_
          refine g_bipush (v := (-22)) hC dX5_readOne_70 (by decide) ?_
          refine g_known (fun hS => ?_)
          refine mG.st (st1 := ([.int (-22)] : List Value).reverse ++ .ref (xB X + 5) :: []) rfl ?_
          refine g_callV (As := [.int (-22)]) (st := []) hC (hS.2 _ (hT _ tg_R_5)) (by decide) ycl_5_X5_add yw_X5_add yv_X5_add tw_196 dX5_readOne_72 (fun _ h => h) (fun _ h => h) (fun h => h) (c_X5_add (d := 0) (Nat.le_refl _) hP hT hw) rfl (Nat.le_of_ble_eq_true rfl) (by omega) (by decide) (by decide) (kV fun s121 hw => ?_)
          refine g_goto (tgt := 115) hC dX5_readOne_75 rfl ?_
          exact g_vret hC (by decide) (by decide) dX5_readOne_115 (fun _ => ⟨rfl, hw⟩)
    · replace hw := hw.2 c
      refine mG.pick (lv' := [(0, .ref (xB X + 5))]) [0] rfl ?_
      exact t_X5_readOne_15 hC hd hN hP hT hrE hrN hrO hw
set_option maxRecDepth 4000 in
theorem c_X5_readOne {Z : Fx} {ps ts : List (Nat × Nat × Nat)} {d dr : Nat} (hd : dr + 10 ≤ d) {rE : Mem → Int32 → (Mem → Prop) → Prop} (hrE : ∀ (s : Mem) (z0 : Int32) (q : Mem → Prop), rE s z0 q → mM Z ps ts yX5_readE cX5_readE 3 none dr 0 0 [.ref (Z.2.2 + 5), .int z0] s (qV q)) {rN : Mem → Int32 → (Mem → Prop) → Prop} (hrN : ∀ (s : Mem) (z0 : Int32) (q : Mem → Prop), rN s z0 q → mM Z ps ts yX5_readNot cX5_readNot 3 none dr 0 0 [.ref (Z.2.2 + 5), .int z0] s (qV q)) {rO : Mem → Int32 → (Mem → Prop) → Prop} (hrO : ∀ (s : Mem) (z0 : Int32) (q : Mem → Prop), rO s z0 q → mM Z ps ts yX5_readOne cX5_readOne 2 none dr 0 0 [.ref (Z.2.2 + 5), .int z0] s (qV q)) (hP : ∀ e ∈ psR, e ∈ ps) (hT : ∀ e ∈ tsR, e ∈ ts) {σ : Mem} {x1 : Int32} {Q : Mem → Prop} (hw : w_X5_readOne rE rN rO σ x1 Q) : mM Z ps ts yX5_readOne cX5_readOne 2 none d 0 0 [.ref (Z.2.2 + 5), .int x1] σ (qV Q) := by
  refine mM.of (by decide) (Nat.le_of_ble_eq_true rfl) rfl (fun X hZ hp ht hn hC => ?_)
  subst hZ; subst hp; subst ht
  exact t_X5_readOne hC hd (fun i h => by rw [hn]; exact h) hP hT hrE hrN hrO hw
def w_X5_readTerm_7 (rE : Mem → Int32 → (Mem → Prop) → Prop) (rN : Mem → Int32 → (Mem → Prop) → Prop) (rO : Mem → Int32 → (Mem → Prop) → Prop) (Q : Mem → Prop) : Nat → Int32 → Int32 → Mem → Prop
  | 0, _, _, _ => False
  | n + 1, x1, x2, σ => (160 ≤ x2 → (Q σ)) ∧ (¬ 160 ≤ x2 → ((¬ (mI σ 5 3) = 42 → (Q σ)) ∧ ((mI σ 5 3) = 42 → (w_X5_advance σ (fun s103 => w_X5_readOne rE rN rO s103 x1 (fun s106 => w_X5_add s106 (-17) (fun s109 => w_X5_readTerm_7 rE rN rO Q n x1 (x2 + 1) s109)))))))
set_option maxRecDepth 4000 in
set_option maxHeartbeats 2000000 in
theorem t_X5_readTerm_7 {X : Cx} {d : Nat} {dr : Nat} (hC : mOK X cX5_readTerm RX5 "readTerm" none d 0 0) (hd : dr + 11 ≤ d) (hN : ∀ i, i < 3 → i < xN X) (hP : ∀ e ∈ psR, e ∈ xP X) (hT : ∀ e ∈ tsR, e ∈ xT X) {rE : Mem → Int32 → (Mem → Prop) → Prop} (hrE : ∀ (s : Mem) (z0 : Int32) (q : Mem → Prop), rE s z0 q → mM (xZ X) (xP X) (xT X) yX5_readE cX5_readE 3 none dr 0 0 [.ref ((xB X) + 5), .int z0] s (qV q)) {rN : Mem → Int32 → (Mem → Prop) → Prop} (hrN : ∀ (s : Mem) (z0 : Int32) (q : Mem → Prop), rN s z0 q → mM (xZ X) (xP X) (xT X) yX5_readNot cX5_readNot 3 none dr 0 0 [.ref ((xB X) + 5), .int z0] s (qV q)) {rO : Mem → Int32 → (Mem → Prop) → Prop} (hrO : ∀ (s : Mem) (z0 : Int32) (q : Mem → Prop), rO s z0 q → mM (xZ X) (xP X) (xT X) yX5_readOne cX5_readOne 2 none dr 0 0 [.ref ((xB X) + 5), .int z0] s (qV q)) {Q : Mem → Prop} : ∀ (n : Nat) (x1 : Int32) (x2 : Int32) (σ : Mem), w_X5_readTerm_7 rE rN rO Q n x1 x2 σ → mG X 7 [(0, .ref (xB X + 5)), (1, .int x1), (2, .int x2)] [] σ 0 0 (mQ X 0 0 (qV Q)) := by
  intro n
  induction n with
  | zero => intro x1 x2 σ hw; exact False.elim hw
  | succ n ih =>
    intro x1 x2 σ hw
    rw [w_X5_readTerm_7] at hw
    refine g_iload_n hC dX5_readTerm_7 rfl ?_
    refine g_sipush (v := 160) hC dX5_readTerm_8 (by decide) ?_
    refine g_icmp_ge (tgt := 44) hC dX5_readTerm_11 rfl (fun c => ?_) (fun c => ?_)
    · replace hw := hw.1 c
      exact g_vret hC (by decide) (by decide) dX5_readTerm_44 (fun _ => ⟨rfl, hw⟩)
    · replace hw := hw.2 c
      refine g_aload_n hC dX5_readTerm_14 rfl ?_
      refine g_getiSv (v := (mI σ 5 3)) hC fl_X5_58_5.s (hT _ tg_R_5) rfl dX5_readTerm_15 ?_
      refine g_bipush (v := 42) hC dX5_readTerm_18 (by decide) ?_
      refine g_icmp_ne (tgt := 44) hC dX5_readTerm_20 rfl (fun c => ?_) (fun c => ?_)
      · replace hw := hw.1 c
        exact g_vret hC (by decide) (by decide) dX5_readTerm_44 (fun _ => ⟨rfl, hw⟩)
      · replace hw := hw.2 c
        refine g_aload_n hC dX5_readTerm_23 rfl ?_
        refine g_known (fun hS => ?_)
        refine mG.st (st1 := ([] : List Value).reverse ++ .ref (xB X + 5) :: []) rfl ?_
        refine g_callV (As := []) (st := []) hC (hS.2 _ (hT _ tg_R_5)) (by decide) ycl_5_X5_advance yw_X5_advance yv_X5_advance tw_142 dX5_readTerm_24 (fun _ h => h) (fun _ h => h) (fun h => h) (c_X5_advance (d := 8) (Nat.le_refl _) hP hT hw) rfl (Nat.le_of_ble_eq_true rfl) (by omega) (by decide) (by decide) (kV fun s103 hw => ?_)
        refine g_aload_n hC dX5_readTerm_27 rfl ?_
        refine g_iload_n hC dX5_readTerm_28 rfl ?_
        refine g_known (fun hS => ?_)
        refine mG.st (st1 := ([.int x1] : List Value).reverse ++ .ref (xB X + 5) :: []) rfl ?_
        refine g_callV (As := [.int x1]) (st := []) hC (hS.2 _ (hT _ tg_R_5)) (by decide) ycl_5_X5_readOne yw_X5_readOne yv_X5_readOne tw_185 dX5_readTerm_29 (fun _ h => h) (fun _ h => h) (fun h => h) (c_X5_readOne (d := dr + 10) (Nat.le_refl _) hrE hrN hrO hP hT hw) rfl (Nat.le_of_ble_eq_true rfl) (by omega) (by decide) (by decide) (kV fun s106 hw => ?_)
        refine g_aload_n hC dX5_readTerm_32 rfl ?_
        refine g_bipush (v := (-17)) hC dX5_readTerm_33 (by decide) ?_
        refine g_known (fun hS => ?_)
        refine mG.st (st1 := ([.int (-17)] : List Value).reverse ++ .ref (xB X + 5) :: []) rfl ?_
        refine g_callV (As := [.int (-17)]) (st := []) hC (hS.2 _ (hT _ tg_R_5)) (by decide) ycl_5_X5_add yw_X5_add yv_X5_add tw_196 dX5_readTerm_35 (fun _ h => h) (fun _ h => h) (fun h => h) (c_X5_add (d := 0) (Nat.le_refl _) hP hT hw) rfl (Nat.le_of_ble_eq_true rfl) (by omega) (by decide) (by decide) (kV fun s109 hw => ?_)
        refine g_iinc (v := x2 + 1) (lv' := [(2, .int (x2 + 1)), (0, .ref (xB X + 5)), (1, .int x1)]) hC dX5_readTerm_38 rfl rfl (hN 2 (by decide)) rfl ?_
        refine g_goto (tgt := 7) hC dX5_readTerm_41 rfl ?_
        refine mG.pick (lv' := [(0, .ref (xB X + 5)), (1, .int x1), (2, .int (x2 + 1))]) [1, 2, 0] rfl ?_
        exact ih _ _ _ hw
def w_X5_readTerm (rE : Mem → Int32 → (Mem → Prop) → Prop) (rN : Mem → Int32 → (Mem → Prop) → Prop) (rO : Mem → Int32 → (Mem → Prop) → Prop) (σ : Mem) (x1 : Int32) (Q : Mem → Prop) : Prop := w_X5_readOne rE rN rO σ x1 (fun s103 => ∃ m104 : Nat, w_X5_readTerm_7 rE rN rO Q m104 x1 0 s103)
set_option maxRecDepth 4000 in
set_option maxHeartbeats 2000000 in
theorem t_X5_readTerm {X : Cx} {d : Nat} {dr : Nat} (hC : mOK X cX5_readTerm RX5 "readTerm" none d 0 0) (hd : dr + 11 ≤ d) (hN : ∀ i, i < 3 → i < xN X) (hP : ∀ e ∈ psR, e ∈ xP X) (hT : ∀ e ∈ tsR, e ∈ xT X) {rE : Mem → Int32 → (Mem → Prop) → Prop} (hrE : ∀ (s : Mem) (z0 : Int32) (q : Mem → Prop), rE s z0 q → mM (xZ X) (xP X) (xT X) yX5_readE cX5_readE 3 none dr 0 0 [.ref ((xB X) + 5), .int z0] s (qV q)) {rN : Mem → Int32 → (Mem → Prop) → Prop} (hrN : ∀ (s : Mem) (z0 : Int32) (q : Mem → Prop), rN s z0 q → mM (xZ X) (xP X) (xT X) yX5_readNot cX5_readNot 3 none dr 0 0 [.ref ((xB X) + 5), .int z0] s (qV q)) {rO : Mem → Int32 → (Mem → Prop) → Prop} (hrO : ∀ (s : Mem) (z0 : Int32) (q : Mem → Prop), rO s z0 q → mM (xZ X) (xP X) (xT X) yX5_readOne cX5_readOne 2 none dr 0 0 [.ref ((xB X) + 5), .int z0] s (qV q)) {σ : Mem} {x1 : Int32} {Q : Mem → Prop} (hw : w_X5_readTerm rE rN rO σ x1 Q) : mG X 0 [(0, .ref (xB X + 5)), (1, .int x1)] [] σ 0 0 (mQ X 0 0 (qV Q)) := by
  refine g_aload_n hC dX5_readTerm_0 rfl ?_
  refine g_iload_n hC dX5_readTerm_1 rfl ?_
  refine g_known (fun hS => ?_)
  refine mG.st (st1 := ([.int x1] : List Value).reverse ++ .ref (xB X + 5) :: []) rfl ?_
  refine g_callV (As := [.int x1]) (st := []) hC (hS.2 _ (hT _ tg_R_5)) (by decide) ycl_5_X5_readOne yw_X5_readOne yv_X5_readOne tw_185 dX5_readTerm_2 (fun _ h => h) (fun _ h => h) (fun h => h) (c_X5_readOne (d := dr + 10) (Nat.le_refl _) hrE hrN hrO hP hT hw) rfl (Nat.le_of_ble_eq_true rfl) (by omega) (by decide) (by decide) (kV fun s103 hw => ?_)
  refine g_iconst (v := 0) hC dX5_readTerm_5 (by decide) ?_
  refine g_istore_n (lv' := [(2, .int 0), (0, .ref (xB X + 5)), (1, .int x1)]) hC dX5_readTerm_6 (hN 2 (by decide)) rfl ?_
  refine mG.pick (lv' := [(0, .ref (xB X + 5)), (1, .int x1), (2, .int 0)]) [1, 2, 0] rfl ?_
  obtain ⟨m104, hw⟩ := hw
  exact t_X5_readTerm_7 hC hd hN hP hT hrE hrN hrO m104 _ _ _ hw
set_option maxRecDepth 4000 in
theorem c_X5_readTerm {Z : Fx} {ps ts : List (Nat × Nat × Nat)} {d dr : Nat} (hd : dr + 11 ≤ d) {rE : Mem → Int32 → (Mem → Prop) → Prop} (hrE : ∀ (s : Mem) (z0 : Int32) (q : Mem → Prop), rE s z0 q → mM Z ps ts yX5_readE cX5_readE 3 none dr 0 0 [.ref (Z.2.2 + 5), .int z0] s (qV q)) {rN : Mem → Int32 → (Mem → Prop) → Prop} (hrN : ∀ (s : Mem) (z0 : Int32) (q : Mem → Prop), rN s z0 q → mM Z ps ts yX5_readNot cX5_readNot 3 none dr 0 0 [.ref (Z.2.2 + 5), .int z0] s (qV q)) {rO : Mem → Int32 → (Mem → Prop) → Prop} (hrO : ∀ (s : Mem) (z0 : Int32) (q : Mem → Prop), rO s z0 q → mM Z ps ts yX5_readOne cX5_readOne 2 none dr 0 0 [.ref (Z.2.2 + 5), .int z0] s (qV q)) (hP : ∀ e ∈ psR, e ∈ ps) (hT : ∀ e ∈ tsR, e ∈ ts) {σ : Mem} {x1 : Int32} {Q : Mem → Prop} (hw : w_X5_readTerm rE rN rO σ x1 Q) : mM Z ps ts yX5_readTerm cX5_readTerm 3 none d 0 0 [.ref (Z.2.2 + 5), .int x1] σ (qV Q) := by
  refine mM.of (by decide) (Nat.le_of_ble_eq_true rfl) rfl (fun X hZ hp ht hn hC => ?_)
  subst hZ; subst hp; subst ht
  exact t_X5_readTerm hC hd (fun i h => by rw [hn]; exact h) hP hT hrE hrN hrO hw
def w_X5_readSum_48 (rE : Mem → Int32 → (Mem → Prop) → Prop) (rN : Mem → Int32 → (Mem → Prop) → Prop) (rO : Mem → Int32 → (Mem → Prop) → Prop) (Q : Mem → Prop) (K7 : Int32 → Int32 → Mem → Prop) (x1 : Int32) (x2 : Int32) (xy0 : Int32) (σ : Mem) : Prop := w_X5_advance σ (fun s103 => w_X5_readTerm rE rN rO s103 x1 (fun s106 => w_X5_add s106 xy0 (fun s109 => K7 x1 (x2 + 1) s109)))
set_option maxRecDepth 4000 in
set_option maxHeartbeats 2000000 in
theorem t_X5_readSum_48 {X : Cx} {d : Nat} {dr : Nat} (hC : mOK X cX5_readSum RX5 "readSum" none d 0 0) (hd : dr + 12 ≤ d) (hN : ∀ i, i < 4 → i < xN X) (hP : ∀ e ∈ psR, e ∈ xP X) (hT : ∀ e ∈ tsR, e ∈ xT X) {rE : Mem → Int32 → (Mem → Prop) → Prop} (hrE : ∀ (s : Mem) (z0 : Int32) (q : Mem → Prop), rE s z0 q → mM (xZ X) (xP X) (xT X) yX5_readE cX5_readE 3 none dr 0 0 [.ref ((xB X) + 5), .int z0] s (qV q)) {rN : Mem → Int32 → (Mem → Prop) → Prop} (hrN : ∀ (s : Mem) (z0 : Int32) (q : Mem → Prop), rN s z0 q → mM (xZ X) (xP X) (xT X) yX5_readNot cX5_readNot 3 none dr 0 0 [.ref ((xB X) + 5), .int z0] s (qV q)) {rO : Mem → Int32 → (Mem → Prop) → Prop} (hrO : ∀ (s : Mem) (z0 : Int32) (q : Mem → Prop), rO s z0 q → mM (xZ X) (xP X) (xT X) yX5_readOne cX5_readOne 2 none dr 0 0 [.ref ((xB X) + 5), .int z0] s (qV q)) {Q : Mem → Prop} {K7 : Int32 → Int32 → Mem → Prop} (hK7 : ∀ (x1 : Int32) (x2 : Int32) (s : Mem), K7 x1 x2 s → mG X 7 [(0, .ref (xB X + 5)), (1, .int x1), (2, .int x2)] [] s 0 0 (mQ X 0 0 (qV Q))) {x1 : Int32} {x2 : Int32} {xy0 : Int32} {σ : Mem} (hw : w_X5_readSum_48 rE rN rO Q K7 x1 x2 xy0 σ) : mG X 48 [(0, .ref (xB X + 5)), (1, .int x1), (2, .int x2)] [.int xy0] σ 0 0 (mQ X 0 0 (qV Q)) := by
  refine g_istore_n (lv' := [(3, .int xy0), (0, .ref (xB X + 5)), (1, .int x1), (2, .int x2)]) hC dX5_readSum_48 (hN 3 (by decide)) rfl ?_
  refine g_aload_n hC dX5_readSum_49 rfl ?_
  refine g_known (fun hS => ?_)
  refine mG.st (st1 := ([] : List Value).reverse ++ .ref (xB X + 5) :: []) rfl ?_
  refine g_callV (As := []) (st := []) hC (hS.2 _ (hT _ tg_R_5)) (by decide) ycl_5_X5_advance yw_X5_advance yv_X5_advance tw_142 dX5_readSum_50 (fun _ h => h) (fun _ h => h) (fun h => h) (c_X5_advance (d := 8) (Nat.le_refl _) hP hT hw) rfl (Nat.le_of_ble_eq_true rfl) (by omega) (by decide) (by decide) (kV fun s103 hw => ?_)
  refine g_aload_n hC dX5_readSum_53 rfl ?_
  refine g_iload_n hC dX5_readSum_54 rfl ?_
  refine g_known (fun hS => ?_)
  refine mG.st (st1 := ([.int x1] : List Value).reverse ++ .ref (xB X + 5) :: []) rfl ?_
  refine g_callV (As := [.int x1]) (st := []) hC (hS.2 _ (hT _ tg_R_5)) (by decide) ycl_5_X5_readTerm yw_X5_readTerm yv_X5_readTerm tw_184 dX5_readSum_55 (fun _ h => h) (fun _ h => h) (fun h => h) (c_X5_readTerm (d := dr + 11) (Nat.le_refl _) hrE hrN hrO hP hT hw) rfl (Nat.le_of_ble_eq_true rfl) (by omega) (by decide) (by decide) (kV fun s106 hw => ?_)
  refine g_aload_n hC dX5_readSum_58 rfl ?_
  refine g_iload_n hC dX5_readSum_59 rfl ?_
  refine g_known (fun hS => ?_)
  refine mG.st (st1 := ([.int xy0] : List Value).reverse ++ .ref (xB X + 5) :: []) rfl ?_
  refine g_callV (As := [.int xy0]) (st := []) hC (hS.2 _ (hT _ tg_R_5)) (by decide) ycl_5_X5_add yw_X5_add yv_X5_add tw_196 dX5_readSum_60 (fun _ h => h) (fun _ h => h) (fun h => h) (c_X5_add (d := 0) (Nat.le_refl _) hP hT hw) rfl (Nat.le_of_ble_eq_true rfl) (by omega) (by decide) (by decide) (kV fun s109 hw => ?_)
  refine g_iinc (v := x2 + 1) (lv' := [(2, .int (x2 + 1)), (3, .int xy0), (0, .ref (xB X + 5)), (1, .int x1)]) hC dX5_readSum_63 rfl rfl (hN 2 (by decide)) rfl ?_
  refine g_goto (tgt := 7) hC dX5_readSum_66 rfl ?_
  refine mG.pick (lv' := [(0, .ref (xB X + 5)), (1, .int x1), (2, .int (x2 + 1))]) [2, 3, 0] rfl ?_
  exact hK7 _ _ _ hw
def w_X5_readSum_32 (rE : Mem → Int32 → (Mem → Prop) → Prop) (rN : Mem → Int32 → (Mem → Prop) → Prop) (rO : Mem → Int32 → (Mem → Prop) → Prop) (Q : Mem → Prop) (K7 : Int32 → Int32 → Mem → Prop) (x1 : Int32) (x2 : Int32) (σ : Mem) : Prop := (¬ (mI σ 5 3) = 43 → (w_X5_readSum_48 rE rN rO Q K7 x1 x2 (-16) σ)) ∧ ((mI σ 5 3) = 43 → (w_X5_readSum_48 rE rN rO Q K7 x1 x2 (-15) σ))
set_option maxRecDepth 4000 in
set_option maxHeartbeats 2000000 in
theorem t_X5_readSum_32 {X : Cx} {d : Nat} {dr : Nat} (hC : mOK X cX5_readSum RX5 "readSum" none d 0 0) (hd : dr + 12 ≤ d) (hN : ∀ i, i < 4 → i < xN X) (hP : ∀ e ∈ psR, e ∈ xP X) (hT : ∀ e ∈ tsR, e ∈ xT X) {rE : Mem → Int32 → (Mem → Prop) → Prop} (hrE : ∀ (s : Mem) (z0 : Int32) (q : Mem → Prop), rE s z0 q → mM (xZ X) (xP X) (xT X) yX5_readE cX5_readE 3 none dr 0 0 [.ref ((xB X) + 5), .int z0] s (qV q)) {rN : Mem → Int32 → (Mem → Prop) → Prop} (hrN : ∀ (s : Mem) (z0 : Int32) (q : Mem → Prop), rN s z0 q → mM (xZ X) (xP X) (xT X) yX5_readNot cX5_readNot 3 none dr 0 0 [.ref ((xB X) + 5), .int z0] s (qV q)) {rO : Mem → Int32 → (Mem → Prop) → Prop} (hrO : ∀ (s : Mem) (z0 : Int32) (q : Mem → Prop), rO s z0 q → mM (xZ X) (xP X) (xT X) yX5_readOne cX5_readOne 2 none dr 0 0 [.ref ((xB X) + 5), .int z0] s (qV q)) {Q : Mem → Prop} {K7 : Int32 → Int32 → Mem → Prop} (hK7 : ∀ (x1 : Int32) (x2 : Int32) (s : Mem), K7 x1 x2 s → mG X 7 [(0, .ref (xB X + 5)), (1, .int x1), (2, .int x2)] [] s 0 0 (mQ X 0 0 (qV Q))) {x1 : Int32} {x2 : Int32} {σ : Mem} (hw : w_X5_readSum_32 rE rN rO Q K7 x1 x2 σ) : mG X 32 [(0, .ref (xB X + 5)), (1, .int x1), (2, .int x2)] [] σ 0 0 (mQ X 0 0 (qV Q)) := by
  refine g_aload_n hC dX5_readSum_32 rfl ?_
  refine g_getiSv (v := (mI σ 5 3)) hC fl_X5_58_5.s (hT _ tg_R_5) rfl dX5_readSum_33 ?_
  refine g_bipush (v := 43) hC dX5_readSum_36 (by decide) ?_
  refine g_icmp_ne (tgt := 46) hC dX5_readSum_38 rfl (fun c => ?_) (fun c => ?_)
  · replace hw := hw.1 c
    refine g_bipush (v := (-16)) hC dX5_readSum_46 (by decide) ?_
    refine mG.pick (lv' := [(0, .ref (xB X + 5)), (1, .int x1), (2, .int x2)]) [0, 1, 2] rfl ?_
    exact t_X5_readSum_48 hC hd hN hP hT hrE hrN hrO hK7 hw
  · replace hw := hw.2 c
    refine g_bipush (v := (-15)) hC dX5_readSum_41 (by decide) ?_
    refine g_goto (tgt := 48) hC dX5_readSum_43 rfl ?_
    refine mG.pick (lv' := [(0, .ref (xB X + 5)), (1, .int x1), (2, .int x2)]) [0, 1, 2] rfl ?_
    exact t_X5_readSum_48 hC hd hN hP hT hrE hrN hrO hK7 hw
def w_X5_readSum_7 (rE : Mem → Int32 → (Mem → Prop) → Prop) (rN : Mem → Int32 → (Mem → Prop) → Prop) (rO : Mem → Int32 → (Mem → Prop) → Prop) (Q : Mem → Prop) : Nat → Int32 → Int32 → Mem → Prop
  | 0, _, _, _ => False
  | n + 1, x1, x2, σ => (160 ≤ x2 → (Q σ)) ∧ (¬ 160 ≤ x2 → (((mI σ 5 3) = 43 → (w_X5_readSum_32 rE rN rO Q (fun z0 z1 z2 => w_X5_readSum_7 rE rN rO Q n z0 z1 z2) x1 x2 σ)) ∧ (¬ (mI σ 5 3) = 43 → ((¬ (mI σ 5 3) = 45 → (Q σ)) ∧ ((mI σ 5 3) = 45 → (w_X5_readSum_32 rE rN rO Q (fun z0 z1 z2 => w_X5_readSum_7 rE rN rO Q n z0 z1 z2) x1 x2 σ))))))
set_option maxRecDepth 4000 in
set_option maxHeartbeats 2000000 in
theorem t_X5_readSum_7 {X : Cx} {d : Nat} {dr : Nat} (hC : mOK X cX5_readSum RX5 "readSum" none d 0 0) (hd : dr + 12 ≤ d) (hN : ∀ i, i < 4 → i < xN X) (hP : ∀ e ∈ psR, e ∈ xP X) (hT : ∀ e ∈ tsR, e ∈ xT X) {rE : Mem → Int32 → (Mem → Prop) → Prop} (hrE : ∀ (s : Mem) (z0 : Int32) (q : Mem → Prop), rE s z0 q → mM (xZ X) (xP X) (xT X) yX5_readE cX5_readE 3 none dr 0 0 [.ref ((xB X) + 5), .int z0] s (qV q)) {rN : Mem → Int32 → (Mem → Prop) → Prop} (hrN : ∀ (s : Mem) (z0 : Int32) (q : Mem → Prop), rN s z0 q → mM (xZ X) (xP X) (xT X) yX5_readNot cX5_readNot 3 none dr 0 0 [.ref ((xB X) + 5), .int z0] s (qV q)) {rO : Mem → Int32 → (Mem → Prop) → Prop} (hrO : ∀ (s : Mem) (z0 : Int32) (q : Mem → Prop), rO s z0 q → mM (xZ X) (xP X) (xT X) yX5_readOne cX5_readOne 2 none dr 0 0 [.ref ((xB X) + 5), .int z0] s (qV q)) {Q : Mem → Prop} : ∀ (n : Nat) (x1 : Int32) (x2 : Int32) (σ : Mem), w_X5_readSum_7 rE rN rO Q n x1 x2 σ → mG X 7 [(0, .ref (xB X + 5)), (1, .int x1), (2, .int x2)] [] σ 0 0 (mQ X 0 0 (qV Q)) := by
  intro n
  induction n with
  | zero => intro x1 x2 σ hw; exact False.elim hw
  | succ n ih =>
    intro x1 x2 σ hw
    rw [w_X5_readSum_7] at hw
    refine g_iload_n hC dX5_readSum_7 rfl ?_
    refine g_sipush (v := 160) hC dX5_readSum_8 (by decide) ?_
    refine g_icmp_ge (tgt := 69) hC dX5_readSum_11 rfl (fun c => ?_) (fun c => ?_)
    · replace hw := hw.1 c
      exact g_vret hC (by decide) (by decide) dX5_readSum_69 (fun _ => ⟨rfl, hw⟩)
    · replace hw := hw.2 c
      refine g_aload_n hC dX5_readSum_14 rfl ?_
      refine g_getiSv (v := (mI σ 5 3)) hC fl_X5_58_5.s (hT _ tg_R_5) rfl dX5_readSum_15 ?_
      refine g_bipush (v := 43) hC dX5_readSum_18 (by decide) ?_
      refine g_icmp_eq (tgt := 32) hC dX5_readSum_20 rfl (fun c => ?_) (fun c => ?_)
      · replace hw := hw.1 c
        refine mG.pick (lv' := [(0, .ref (xB X + 5)), (1, .int x1), (2, .int x2)]) [0, 1, 2] rfl ?_
        exact t_X5_readSum_32 hC hd hN hP hT hrE hrN hrO ih hw
      · replace hw := hw.2 c
        refine g_aload_n hC dX5_readSum_23 rfl ?_
        refine g_getiSv (v := (mI σ 5 3)) hC fl_X5_58_5.s (hT _ tg_R_5) rfl dX5_readSum_24 ?_
        refine g_bipush (v := 45) hC dX5_readSum_27 (by decide) ?_
        refine g_icmp_ne (tgt := 69) hC dX5_readSum_29 rfl (fun c => ?_) (fun c => ?_)
        · replace hw := hw.1 c
          exact g_vret hC (by decide) (by decide) dX5_readSum_69 (fun _ => ⟨rfl, hw⟩)
        · replace hw := hw.2 c
          refine mG.pick (lv' := [(0, .ref (xB X + 5)), (1, .int x1), (2, .int x2)]) [0, 1, 2] rfl ?_
          exact t_X5_readSum_32 hC hd hN hP hT hrE hrN hrO ih hw
def w_X5_readSum (rE : Mem → Int32 → (Mem → Prop) → Prop) (rN : Mem → Int32 → (Mem → Prop) → Prop) (rO : Mem → Int32 → (Mem → Prop) → Prop) (σ : Mem) (x1 : Int32) (Q : Mem → Prop) : Prop := w_X5_readTerm rE rN rO σ x1 (fun s103 => ∃ m104 : Nat, w_X5_readSum_7 rE rN rO Q m104 x1 0 s103)
set_option maxRecDepth 4000 in
set_option maxHeartbeats 2000000 in
theorem t_X5_readSum {X : Cx} {d : Nat} {dr : Nat} (hC : mOK X cX5_readSum RX5 "readSum" none d 0 0) (hd : dr + 12 ≤ d) (hN : ∀ i, i < 4 → i < xN X) (hP : ∀ e ∈ psR, e ∈ xP X) (hT : ∀ e ∈ tsR, e ∈ xT X) {rE : Mem → Int32 → (Mem → Prop) → Prop} (hrE : ∀ (s : Mem) (z0 : Int32) (q : Mem → Prop), rE s z0 q → mM (xZ X) (xP X) (xT X) yX5_readE cX5_readE 3 none dr 0 0 [.ref ((xB X) + 5), .int z0] s (qV q)) {rN : Mem → Int32 → (Mem → Prop) → Prop} (hrN : ∀ (s : Mem) (z0 : Int32) (q : Mem → Prop), rN s z0 q → mM (xZ X) (xP X) (xT X) yX5_readNot cX5_readNot 3 none dr 0 0 [.ref ((xB X) + 5), .int z0] s (qV q)) {rO : Mem → Int32 → (Mem → Prop) → Prop} (hrO : ∀ (s : Mem) (z0 : Int32) (q : Mem → Prop), rO s z0 q → mM (xZ X) (xP X) (xT X) yX5_readOne cX5_readOne 2 none dr 0 0 [.ref ((xB X) + 5), .int z0] s (qV q)) {σ : Mem} {x1 : Int32} {Q : Mem → Prop} (hw : w_X5_readSum rE rN rO σ x1 Q) : mG X 0 [(0, .ref (xB X + 5)), (1, .int x1)] [] σ 0 0 (mQ X 0 0 (qV Q)) := by
  refine g_aload_n hC dX5_readSum_0 rfl ?_
  refine g_iload_n hC dX5_readSum_1 rfl ?_
  refine g_known (fun hS => ?_)
  refine mG.st (st1 := ([.int x1] : List Value).reverse ++ .ref (xB X + 5) :: []) rfl ?_
  refine g_callV (As := [.int x1]) (st := []) hC (hS.2 _ (hT _ tg_R_5)) (by decide) ycl_5_X5_readTerm yw_X5_readTerm yv_X5_readTerm tw_184 dX5_readSum_2 (fun _ h => h) (fun _ h => h) (fun h => h) (c_X5_readTerm (d := dr + 11) (Nat.le_refl _) hrE hrN hrO hP hT hw) rfl (Nat.le_of_ble_eq_true rfl) (by omega) (by decide) (by decide) (kV fun s103 hw => ?_)
  refine g_iconst (v := 0) hC dX5_readSum_5 (by decide) ?_
  refine g_istore_n (lv' := [(2, .int 0), (0, .ref (xB X + 5)), (1, .int x1)]) hC dX5_readSum_6 (hN 2 (by decide)) rfl ?_
  refine mG.pick (lv' := [(0, .ref (xB X + 5)), (1, .int x1), (2, .int 0)]) [1, 2, 0] rfl ?_
  obtain ⟨m104, hw⟩ := hw
  exact t_X5_readSum_7 hC hd hN hP hT hrE hrN hrO m104 _ _ _ hw
set_option maxRecDepth 4000 in
theorem c_X5_readSum {Z : Fx} {ps ts : List (Nat × Nat × Nat)} {d dr : Nat} (hd : dr + 12 ≤ d) {rE : Mem → Int32 → (Mem → Prop) → Prop} (hrE : ∀ (s : Mem) (z0 : Int32) (q : Mem → Prop), rE s z0 q → mM Z ps ts yX5_readE cX5_readE 3 none dr 0 0 [.ref (Z.2.2 + 5), .int z0] s (qV q)) {rN : Mem → Int32 → (Mem → Prop) → Prop} (hrN : ∀ (s : Mem) (z0 : Int32) (q : Mem → Prop), rN s z0 q → mM Z ps ts yX5_readNot cX5_readNot 3 none dr 0 0 [.ref (Z.2.2 + 5), .int z0] s (qV q)) {rO : Mem → Int32 → (Mem → Prop) → Prop} (hrO : ∀ (s : Mem) (z0 : Int32) (q : Mem → Prop), rO s z0 q → mM Z ps ts yX5_readOne cX5_readOne 2 none dr 0 0 [.ref (Z.2.2 + 5), .int z0] s (qV q)) (hP : ∀ e ∈ psR, e ∈ ps) (hT : ∀ e ∈ tsR, e ∈ ts) {σ : Mem} {x1 : Int32} {Q : Mem → Prop} (hw : w_X5_readSum rE rN rO σ x1 Q) : mM Z ps ts yX5_readSum cX5_readSum 4 none d 0 0 [.ref (Z.2.2 + 5), .int x1] σ (qV Q) := by
  refine mM.of (by decide) (Nat.le_of_ble_eq_true rfl) rfl (fun X hZ hp ht hn hC => ?_)
  subst hZ; subst hp; subst ht
  exact t_X5_readSum hC hd (fun i h => by rw [hn]; exact h) hP hT hrE hrN hrO hw
def w_X5_readNot_70 (rE : Mem → Int32 → (Mem → Prop) → Prop) (rN : Mem → Int32 → (Mem → Prop) → Prop) (rO : Mem → Int32 → (Mem → Prop) → Prop) (Q : Mem → Prop) (x1 : Int32) (xy0 : Int32) (σ : Mem) : Prop := w_X5_advance σ (fun s103 => w_X5_readSum rE rN rO s103 x1 (fun s106 => w_X5_add s106 xy0 (fun s109 => Q s109)))
set_option maxRecDepth 4000 in
set_option maxHeartbeats 2000000 in
theorem t_X5_readNot_70 {X : Cx} {d : Nat} {dr : Nat} (hC : mOK X cX5_readNot RX5 "readNot" none d 0 0) (hd : dr + 13 ≤ d) (hN : ∀ i, i < 3 → i < xN X) (hP : ∀ e ∈ psR, e ∈ xP X) (hT : ∀ e ∈ tsR, e ∈ xT X) {rE : Mem → Int32 → (Mem → Prop) → Prop} (hrE : ∀ (s : Mem) (z0 : Int32) (q : Mem → Prop), rE s z0 q → mM (xZ X) (xP X) (xT X) yX5_readE cX5_readE 3 none dr 0 0 [.ref ((xB X) + 5), .int z0] s (qV q)) {rN : Mem → Int32 → (Mem → Prop) → Prop} (hrN : ∀ (s : Mem) (z0 : Int32) (q : Mem → Prop), rN s z0 q → mM (xZ X) (xP X) (xT X) yX5_readNot cX5_readNot 3 none dr 0 0 [.ref ((xB X) + 5), .int z0] s (qV q)) {rO : Mem → Int32 → (Mem → Prop) → Prop} (hrO : ∀ (s : Mem) (z0 : Int32) (q : Mem → Prop), rO s z0 q → mM (xZ X) (xP X) (xT X) yX5_readOne cX5_readOne 2 none dr 0 0 [.ref ((xB X) + 5), .int z0] s (qV q)) {Q : Mem → Prop} {x1 : Int32} {xy0 : Int32} {σ : Mem} (hw : w_X5_readNot_70 rE rN rO Q x1 xy0 σ) : mG X 70 [(0, .ref (xB X + 5)), (1, .int x1)] [.int xy0] σ 0 0 (mQ X 0 0 (qV Q)) := by
  refine g_istore_n (lv' := [(2, .int xy0), (0, .ref (xB X + 5)), (1, .int x1)]) hC dX5_readNot_70 (hN 2 (by decide)) rfl ?_
  refine g_aload_n hC dX5_readNot_71 rfl ?_
  refine g_known (fun hS => ?_)
  refine mG.st (st1 := ([] : List Value).reverse ++ .ref (xB X + 5) :: []) rfl ?_
  refine g_callV (As := []) (st := []) hC (hS.2 _ (hT _ tg_R_5)) (by decide) ycl_5_X5_advance yw_X5_advance yv_X5_advance tw_142 dX5_readNot_72 (fun _ h => h) (fun _ h => h) (fun h => h) (c_X5_advance (d := 8) (Nat.le_refl _) hP hT hw) rfl (Nat.le_of_ble_eq_true rfl) (by omega) (by decide) (by decide) (kV fun s103 hw => ?_)
  refine g_aload_n hC dX5_readNot_75 rfl ?_
  refine g_iload_n hC dX5_readNot_76 rfl ?_
  refine g_known (fun hS => ?_)
  refine mG.st (st1 := ([.int x1] : List Value).reverse ++ .ref (xB X + 5) :: []) rfl ?_
  refine g_callV (As := [.int x1]) (st := []) hC (hS.2 _ (hT _ tg_R_5)) (by decide) ycl_5_X5_readSum yw_X5_readSum yv_X5_readSum tw_183 dX5_readNot_77 (fun _ h => h) (fun _ h => h) (fun h => h) (c_X5_readSum (d := dr + 12) (Nat.le_refl _) hrE hrN hrO hP hT hw) rfl (Nat.le_of_ble_eq_true rfl) (by omega) (by decide) (by decide) (kV fun s106 hw => ?_)
  refine g_aload_n hC dX5_readNot_80 rfl ?_
  refine g_iload_n hC dX5_readNot_81 rfl ?_
  refine g_known (fun hS => ?_)
  refine mG.st (st1 := ([.int xy0] : List Value).reverse ++ .ref (xB X + 5) :: []) rfl ?_
  refine g_callV (As := [.int xy0]) (st := []) hC (hS.2 _ (hT _ tg_R_5)) (by decide) ycl_5_X5_add yw_X5_add yv_X5_add tw_196 dX5_readNot_82 (fun _ h => h) (fun _ h => h) (fun h => h) (c_X5_add (d := 0) (Nat.le_refl _) hP hT hw) rfl (Nat.le_of_ble_eq_true rfl) (by omega) (by decide) (by decide) (kV fun s109 hw => ?_)
  exact g_vret hC (by decide) (by decide) dX5_readNot_85 (fun _ => ⟨rfl, hw⟩)
def w_X5_readNot_54 (rE : Mem → Int32 → (Mem → Prop) → Prop) (rN : Mem → Int32 → (Mem → Prop) → Prop) (rO : Mem → Int32 → (Mem → Prop) → Prop) (Q : Mem → Prop) (x1 : Int32) (σ : Mem) : Prop := (¬ (mI σ 5 3) = 60 → (w_X5_readNot_70 rE rN rO Q x1 (-14) σ)) ∧ ((mI σ 5 3) = 60 → (w_X5_readNot_70 rE rN rO Q x1 (-13) σ))
set_option maxRecDepth 4000 in
set_option maxHeartbeats 2000000 in
theorem t_X5_readNot_54 {X : Cx} {d : Nat} {dr : Nat} (hC : mOK X cX5_readNot RX5 "readNot" none d 0 0) (hd : dr + 13 ≤ d) (hN : ∀ i, i < 3 → i < xN X) (hP : ∀ e ∈ psR, e ∈ xP X) (hT : ∀ e ∈ tsR, e ∈ xT X) {rE : Mem → Int32 → (Mem → Prop) → Prop} (hrE : ∀ (s : Mem) (z0 : Int32) (q : Mem → Prop), rE s z0 q → mM (xZ X) (xP X) (xT X) yX5_readE cX5_readE 3 none dr 0 0 [.ref ((xB X) + 5), .int z0] s (qV q)) {rN : Mem → Int32 → (Mem → Prop) → Prop} (hrN : ∀ (s : Mem) (z0 : Int32) (q : Mem → Prop), rN s z0 q → mM (xZ X) (xP X) (xT X) yX5_readNot cX5_readNot 3 none dr 0 0 [.ref ((xB X) + 5), .int z0] s (qV q)) {rO : Mem → Int32 → (Mem → Prop) → Prop} (hrO : ∀ (s : Mem) (z0 : Int32) (q : Mem → Prop), rO s z0 q → mM (xZ X) (xP X) (xT X) yX5_readOne cX5_readOne 2 none dr 0 0 [.ref ((xB X) + 5), .int z0] s (qV q)) {Q : Mem → Prop} {x1 : Int32} {σ : Mem} (hw : w_X5_readNot_54 rE rN rO Q x1 σ) : mG X 54 [(0, .ref (xB X + 5)), (1, .int x1)] [] σ 0 0 (mQ X 0 0 (qV Q)) := by
  refine g_aload_n hC dX5_readNot_54 rfl ?_
  refine g_getiSv (v := (mI σ 5 3)) hC fl_X5_58_5.s (hT _ tg_R_5) rfl dX5_readNot_55 ?_
  refine g_bipush (v := 60) hC dX5_readNot_58 (by decide) ?_
  refine g_icmp_ne (tgt := 68) hC dX5_readNot_60 rfl (fun c => ?_) (fun c => ?_)
  · replace hw := hw.1 c
    refine g_bipush (v := (-14)) hC dX5_readNot_68 (by decide) ?_
    refine mG.pick (lv' := [(0, .ref (xB X + 5)), (1, .int x1)]) [0, 1] rfl ?_
    exact t_X5_readNot_70 hC hd hN hP hT hrE hrN hrO hw
  · replace hw := hw.2 c
    refine g_bipush (v := (-13)) hC dX5_readNot_63 (by decide) ?_
    refine g_goto (tgt := 70) hC dX5_readNot_65 rfl ?_
    refine mG.pick (lv' := [(0, .ref (xB X + 5)), (1, .int x1)]) [0, 1] rfl ?_
    exact t_X5_readNot_70 hC hd hN hP hT hrE hrN hrO hw
def w_X5_readNot (rE : Mem → Int32 → (Mem → Prop) → Prop) (rN : Mem → Int32 → (Mem → Prop) → Prop) (rO : Mem → Int32 → (Mem → Prop) → Prop) (σ : Mem) (x1 : Int32) (Q : Mem → Prop) : Prop := (¬ (mI σ 5 3) = 8 → (w_X5_readSum rE rN rO σ x1 (fun s103 => ((mI s103 5 3) = 60 → (w_X5_readNot_54 rE rN rO Q x1 s103)) ∧ (¬ (mI s103 5 3) = 60 → ((¬ (mI s103 5 3) = 61 → (Q s103)) ∧ ((mI s103 5 3) = 61 → (w_X5_readNot_54 rE rN rO Q x1 s103))))))) ∧ ((mI σ 5 3) = 8 → (w_X5_opens σ x1 (fun v104 s106 => (v104 = 0 → (Q s106)) ∧ (¬ v104 = 0 → (rN s106 (x1 + 1) (fun s109 => w_X5_add s109 (-21) (fun s112 => Q s112)))))))
set_option maxRecDepth 4000 in
set_option maxHeartbeats 2000000 in
theorem t_X5_readNot {X : Cx} {d : Nat} {dr : Nat} (hC : mOK X cX5_readNot RX5 "readNot" none d 0 0) (hd : dr + 13 ≤ d) (hN : ∀ i, i < 3 → i < xN X) (hP : ∀ e ∈ psR, e ∈ xP X) (hT : ∀ e ∈ tsR, e ∈ xT X) {rE : Mem → Int32 → (Mem → Prop) → Prop} (hrE : ∀ (s : Mem) (z0 : Int32) (q : Mem → Prop), rE s z0 q → mM (xZ X) (xP X) (xT X) yX5_readE cX5_readE 3 none dr 0 0 [.ref ((xB X) + 5), .int z0] s (qV q)) {rN : Mem → Int32 → (Mem → Prop) → Prop} (hrN : ∀ (s : Mem) (z0 : Int32) (q : Mem → Prop), rN s z0 q → mM (xZ X) (xP X) (xT X) yX5_readNot cX5_readNot 3 none dr 0 0 [.ref ((xB X) + 5), .int z0] s (qV q)) {rO : Mem → Int32 → (Mem → Prop) → Prop} (hrO : ∀ (s : Mem) (z0 : Int32) (q : Mem → Prop), rO s z0 q → mM (xZ X) (xP X) (xT X) yX5_readOne cX5_readOne 2 none dr 0 0 [.ref ((xB X) + 5), .int z0] s (qV q)) {σ : Mem} {x1 : Int32} {Q : Mem → Prop} (hw : w_X5_readNot rE rN rO σ x1 Q) : mG X 0 [(0, .ref (xB X + 5)), (1, .int x1)] [] σ 0 0 (mQ X 0 0 (qV Q)) := by
  refine g_aload_n hC dX5_readNot_0 rfl ?_
  refine g_getiSv (v := (mI σ 5 3)) hC fl_X5_58_5.s (hT _ tg_R_5) rfl dX5_readNot_1 ?_
  refine g_bipush (v := 8) hC dX5_readNot_4 (by decide) ?_
  refine g_icmp_ne (tgt := 31) hC dX5_readNot_6 rfl (fun c => ?_) (fun c => ?_)
  · replace hw := hw.1 c
    refine g_aload_n hC dX5_readNot_31 rfl ?_
    refine g_iload_n hC dX5_readNot_32 rfl ?_
    refine g_known (fun hS => ?_)
    refine mG.st (st1 := ([.int x1] : List Value).reverse ++ .ref (xB X + 5) :: []) rfl ?_
    refine g_callV (As := [.int x1]) (st := []) hC (hS.2 _ (hT _ tg_R_5)) (by decide) ycl_5_X5_readSum yw_X5_readSum yv_X5_readSum tw_183 dX5_readNot_33 (fun _ h => h) (fun _ h => h) (fun h => h) (c_X5_readSum (d := dr + 12) (Nat.le_refl _) hrE hrN hrO hP hT hw) rfl (Nat.le_of_ble_eq_true rfl) (by omega) (by decide) (by decide) (kV fun s103 hw => ?_)
    refine g_aload_n hC dX5_readNot_36 rfl ?_
    refine g_getiSv (v := (mI s103 5 3)) hC fl_X5_58_5.s (hT _ tg_R_5) rfl dX5_readNot_37 ?_
    refine g_bipush (v := 60) hC dX5_readNot_40 (by decide) ?_
    refine g_icmp_eq (tgt := 54) hC dX5_readNot_42 rfl (fun c => ?_) (fun c => ?_)
    · replace hw := hw.1 c
      refine mG.pick (lv' := [(0, .ref (xB X + 5)), (1, .int x1)]) [0, 1] rfl ?_
      exact t_X5_readNot_54 hC hd hN hP hT hrE hrN hrO hw
    · replace hw := hw.2 c
      refine g_aload_n hC dX5_readNot_45 rfl ?_
      refine g_getiSv (v := (mI s103 5 3)) hC fl_X5_58_5.s (hT _ tg_R_5) rfl dX5_readNot_46 ?_
      refine g_bipush (v := 61) hC dX5_readNot_49 (by decide) ?_
      refine g_icmp_ne (tgt := 85) hC dX5_readNot_51 rfl (fun c => ?_) (fun c => ?_)
      · replace hw := hw.1 c
        exact g_vret hC (by decide) (by decide) dX5_readNot_85 (fun _ => ⟨rfl, hw⟩)
      · replace hw := hw.2 c
        refine mG.pick (lv' := [(0, .ref (xB X + 5)), (1, .int x1)]) [0, 1] rfl ?_
        exact t_X5_readNot_54 hC hd hN hP hT hrE hrN hrO hw
  · replace hw := hw.2 c
    refine g_aload_n hC dX5_readNot_9 rfl ?_
    refine g_iload_n hC dX5_readNot_10 rfl ?_
    refine g_known (fun hS => ?_)
    refine mG.st (st1 := ([.int x1] : List Value).reverse ++ .ref (xB X + 5) :: []) rfl ?_
    refine g_callV (As := [.int x1]) (st := []) hC (hS.2 _ (hT _ tg_R_5)) (by decide) ycl_5_X5_opens yw_X5_opens yv_X5_opens tw_186 dX5_readNot_11 (fun _ h => h) (fun _ h => h) (fun h => h) (c_X5_opens (d := 9) (Nat.le_refl _) hP hT hw) rfl (Nat.le_of_ble_eq_true rfl) (by omega) (by decide) (by decide) (kI fun v104 s106 hw => ?_)
    refine g_if_eq (tgt := 30) hC dX5_readNot_14 rfl (fun c => ?_) (fun c => ?_)
    · replace hw := hw.1 c
      exact g_vret hC (by decide) (by decide) dX5_readNot_30 (fun _ => ⟨rfl, hw⟩)
    · replace hw := hw.2 c
      refine g_aload_n hC dX5_readNot_17 rfl ?_
      refine g_iload_n hC dX5_readNot_18 rfl ?_
      refine g_iconst (v := 1) hC dX5_readNot_19 (by decide) ?_
      refine g_iadd hC dX5_readNot_20 ?_
      refine g_known (fun hS => ?_)
      refine mG.st (st1 := ([.int (x1 + 1)] : List Value).reverse ++ .ref (xB X + 5) :: []) rfl ?_
      refine g_callV (As := [.int (x1 + 1)]) (st := []) hC (hS.2 _ (hT _ tg_R_5)) (by decide) ycl_5_X5_readNot yw_X5_readNot yv_X5_readNot tw_182 dX5_readNot_21 (fun _ h => h) (fun _ h => h) (fun h => h) (hrN _ _ _ hw) rfl (Nat.le_of_ble_eq_true rfl) (by omega) (by decide) (by decide) (kV fun s109 hw => ?_)
      refine g_aload_n hC dX5_readNot_24 rfl ?_
      refine g_bipush (v := (-21)) hC dX5_readNot_25 (by decide) ?_
      refine g_known (fun hS => ?_)
      refine mG.st (st1 := ([.int (-21)] : List Value).reverse ++ .ref (xB X + 5) :: []) rfl ?_
      refine g_callV (As := [.int (-21)]) (st := []) hC (hS.2 _ (hT _ tg_R_5)) (by decide) ycl_5_X5_add yw_X5_add yv_X5_add tw_196 dX5_readNot_27 (fun _ h => h) (fun _ h => h) (fun h => h) (c_X5_add (d := 0) (Nat.le_refl _) hP hT hw) rfl (Nat.le_of_ble_eq_true rfl) (by omega) (by decide) (by decide) (kV fun s112 hw => ?_)
      exact g_vret hC (by decide) (by decide) dX5_readNot_30 (fun _ => ⟨rfl, hw⟩)
set_option maxRecDepth 4000 in
theorem c_X5_readNot {Z : Fx} {ps ts : List (Nat × Nat × Nat)} {d dr : Nat} (hd : dr + 13 ≤ d) {rE : Mem → Int32 → (Mem → Prop) → Prop} (hrE : ∀ (s : Mem) (z0 : Int32) (q : Mem → Prop), rE s z0 q → mM Z ps ts yX5_readE cX5_readE 3 none dr 0 0 [.ref (Z.2.2 + 5), .int z0] s (qV q)) {rN : Mem → Int32 → (Mem → Prop) → Prop} (hrN : ∀ (s : Mem) (z0 : Int32) (q : Mem → Prop), rN s z0 q → mM Z ps ts yX5_readNot cX5_readNot 3 none dr 0 0 [.ref (Z.2.2 + 5), .int z0] s (qV q)) {rO : Mem → Int32 → (Mem → Prop) → Prop} (hrO : ∀ (s : Mem) (z0 : Int32) (q : Mem → Prop), rO s z0 q → mM Z ps ts yX5_readOne cX5_readOne 2 none dr 0 0 [.ref (Z.2.2 + 5), .int z0] s (qV q)) (hP : ∀ e ∈ psR, e ∈ ps) (hT : ∀ e ∈ tsR, e ∈ ts) {σ : Mem} {x1 : Int32} {Q : Mem → Prop} (hw : w_X5_readNot rE rN rO σ x1 Q) : mM Z ps ts yX5_readNot cX5_readNot 3 none d 0 0 [.ref (Z.2.2 + 5), .int x1] σ (qV Q) := by
  refine mM.of (by decide) (Nat.le_of_ble_eq_true rfl) rfl (fun X hZ hp ht hn hC => ?_)
  subst hZ; subst hp; subst ht
  exact t_X5_readNot hC hd (fun i h => by rw [hn]; exact h) hP hT hrE hrN hrO hw
def w_X5_readAnd_7 (rE : Mem → Int32 → (Mem → Prop) → Prop) (rN : Mem → Int32 → (Mem → Prop) → Prop) (rO : Mem → Int32 → (Mem → Prop) → Prop) (Q : Mem → Prop) : Nat → Int32 → Int32 → Mem → Prop
  | 0, _, _, _ => False
  | n + 1, x1, x2, σ => (160 ≤ x2 → (Q σ)) ∧ (¬ 160 ≤ x2 → ((¬ (mI σ 5 3) = 7 → (Q σ)) ∧ ((mI σ 5 3) = 7 → (w_X5_advance σ (fun s103 => w_X5_readNot rE rN rO s103 x1 (fun s106 => w_X5_add s106 (-12) (fun s109 => w_X5_readAnd_7 rE rN rO Q n x1 (x2 + 1) s109)))))))
set_option maxRecDepth 4000 in
set_option maxHeartbeats 2000000 in
theorem t_X5_readAnd_7 {X : Cx} {d : Nat} {dr : Nat} (hC : mOK X cX5_readAnd RX5 "readAnd" none d 0 0) (hd : dr + 14 ≤ d) (hN : ∀ i, i < 3 → i < xN X) (hP : ∀ e ∈ psR, e ∈ xP X) (hT : ∀ e ∈ tsR, e ∈ xT X) {rE : Mem → Int32 → (Mem → Prop) → Prop} (hrE : ∀ (s : Mem) (z0 : Int32) (q : Mem → Prop), rE s z0 q → mM (xZ X) (xP X) (xT X) yX5_readE cX5_readE 3 none dr 0 0 [.ref ((xB X) + 5), .int z0] s (qV q)) {rN : Mem → Int32 → (Mem → Prop) → Prop} (hrN : ∀ (s : Mem) (z0 : Int32) (q : Mem → Prop), rN s z0 q → mM (xZ X) (xP X) (xT X) yX5_readNot cX5_readNot 3 none dr 0 0 [.ref ((xB X) + 5), .int z0] s (qV q)) {rO : Mem → Int32 → (Mem → Prop) → Prop} (hrO : ∀ (s : Mem) (z0 : Int32) (q : Mem → Prop), rO s z0 q → mM (xZ X) (xP X) (xT X) yX5_readOne cX5_readOne 2 none dr 0 0 [.ref ((xB X) + 5), .int z0] s (qV q)) {Q : Mem → Prop} : ∀ (n : Nat) (x1 : Int32) (x2 : Int32) (σ : Mem), w_X5_readAnd_7 rE rN rO Q n x1 x2 σ → mG X 7 [(0, .ref (xB X + 5)), (1, .int x1), (2, .int x2)] [] σ 0 0 (mQ X 0 0 (qV Q)) := by
  intro n
  induction n with
  | zero => intro x1 x2 σ hw; exact False.elim hw
  | succ n ih =>
    intro x1 x2 σ hw
    rw [w_X5_readAnd_7] at hw
    refine g_iload_n hC dX5_readAnd_7 rfl ?_
    refine g_sipush (v := 160) hC dX5_readAnd_8 (by decide) ?_
    refine g_icmp_ge (tgt := 44) hC dX5_readAnd_11 rfl (fun c => ?_) (fun c => ?_)
    · replace hw := hw.1 c
      exact g_vret hC (by decide) (by decide) dX5_readAnd_44 (fun _ => ⟨rfl, hw⟩)
    · replace hw := hw.2 c
      refine g_aload_n hC dX5_readAnd_14 rfl ?_
      refine g_getiSv (v := (mI σ 5 3)) hC fl_X5_58_5.s (hT _ tg_R_5) rfl dX5_readAnd_15 ?_
      refine g_bipush (v := 7) hC dX5_readAnd_18 (by decide) ?_
      refine g_icmp_ne (tgt := 44) hC dX5_readAnd_20 rfl (fun c => ?_) (fun c => ?_)
      · replace hw := hw.1 c
        exact g_vret hC (by decide) (by decide) dX5_readAnd_44 (fun _ => ⟨rfl, hw⟩)
      · replace hw := hw.2 c
        refine g_aload_n hC dX5_readAnd_23 rfl ?_
        refine g_known (fun hS => ?_)
        refine mG.st (st1 := ([] : List Value).reverse ++ .ref (xB X + 5) :: []) rfl ?_
        refine g_callV (As := []) (st := []) hC (hS.2 _ (hT _ tg_R_5)) (by decide) ycl_5_X5_advance yw_X5_advance yv_X5_advance tw_142 dX5_readAnd_24 (fun _ h => h) (fun _ h => h) (fun h => h) (c_X5_advance (d := 8) (Nat.le_refl _) hP hT hw) rfl (Nat.le_of_ble_eq_true rfl) (by omega) (by decide) (by decide) (kV fun s103 hw => ?_)
        refine g_aload_n hC dX5_readAnd_27 rfl ?_
        refine g_iload_n hC dX5_readAnd_28 rfl ?_
        refine g_known (fun hS => ?_)
        refine mG.st (st1 := ([.int x1] : List Value).reverse ++ .ref (xB X + 5) :: []) rfl ?_
        refine g_callV (As := [.int x1]) (st := []) hC (hS.2 _ (hT _ tg_R_5)) (by decide) ycl_5_X5_readNot yw_X5_readNot yv_X5_readNot tw_182 dX5_readAnd_29 (fun _ h => h) (fun _ h => h) (fun h => h) (c_X5_readNot (d := dr + 13) (Nat.le_refl _) hrE hrN hrO hP hT hw) rfl (Nat.le_of_ble_eq_true rfl) (by omega) (by decide) (by decide) (kV fun s106 hw => ?_)
        refine g_aload_n hC dX5_readAnd_32 rfl ?_
        refine g_bipush (v := (-12)) hC dX5_readAnd_33 (by decide) ?_
        refine g_known (fun hS => ?_)
        refine mG.st (st1 := ([.int (-12)] : List Value).reverse ++ .ref (xB X + 5) :: []) rfl ?_
        refine g_callV (As := [.int (-12)]) (st := []) hC (hS.2 _ (hT _ tg_R_5)) (by decide) ycl_5_X5_add yw_X5_add yv_X5_add tw_196 dX5_readAnd_35 (fun _ h => h) (fun _ h => h) (fun h => h) (c_X5_add (d := 0) (Nat.le_refl _) hP hT hw) rfl (Nat.le_of_ble_eq_true rfl) (by omega) (by decide) (by decide) (kV fun s109 hw => ?_)
        refine g_iinc (v := x2 + 1) (lv' := [(2, .int (x2 + 1)), (0, .ref (xB X + 5)), (1, .int x1)]) hC dX5_readAnd_38 rfl rfl (hN 2 (by decide)) rfl ?_
        refine g_goto (tgt := 7) hC dX5_readAnd_41 rfl ?_
        refine mG.pick (lv' := [(0, .ref (xB X + 5)), (1, .int x1), (2, .int (x2 + 1))]) [1, 2, 0] rfl ?_
        exact ih _ _ _ hw
def w_X5_readAnd (rE : Mem → Int32 → (Mem → Prop) → Prop) (rN : Mem → Int32 → (Mem → Prop) → Prop) (rO : Mem → Int32 → (Mem → Prop) → Prop) (σ : Mem) (x1 : Int32) (Q : Mem → Prop) : Prop := w_X5_readNot rE rN rO σ x1 (fun s103 => ∃ m104 : Nat, w_X5_readAnd_7 rE rN rO Q m104 x1 0 s103)
set_option maxRecDepth 4000 in
set_option maxHeartbeats 2000000 in
theorem t_X5_readAnd {X : Cx} {d : Nat} {dr : Nat} (hC : mOK X cX5_readAnd RX5 "readAnd" none d 0 0) (hd : dr + 14 ≤ d) (hN : ∀ i, i < 3 → i < xN X) (hP : ∀ e ∈ psR, e ∈ xP X) (hT : ∀ e ∈ tsR, e ∈ xT X) {rE : Mem → Int32 → (Mem → Prop) → Prop} (hrE : ∀ (s : Mem) (z0 : Int32) (q : Mem → Prop), rE s z0 q → mM (xZ X) (xP X) (xT X) yX5_readE cX5_readE 3 none dr 0 0 [.ref ((xB X) + 5), .int z0] s (qV q)) {rN : Mem → Int32 → (Mem → Prop) → Prop} (hrN : ∀ (s : Mem) (z0 : Int32) (q : Mem → Prop), rN s z0 q → mM (xZ X) (xP X) (xT X) yX5_readNot cX5_readNot 3 none dr 0 0 [.ref ((xB X) + 5), .int z0] s (qV q)) {rO : Mem → Int32 → (Mem → Prop) → Prop} (hrO : ∀ (s : Mem) (z0 : Int32) (q : Mem → Prop), rO s z0 q → mM (xZ X) (xP X) (xT X) yX5_readOne cX5_readOne 2 none dr 0 0 [.ref ((xB X) + 5), .int z0] s (qV q)) {σ : Mem} {x1 : Int32} {Q : Mem → Prop} (hw : w_X5_readAnd rE rN rO σ x1 Q) : mG X 0 [(0, .ref (xB X + 5)), (1, .int x1)] [] σ 0 0 (mQ X 0 0 (qV Q)) := by
  refine g_aload_n hC dX5_readAnd_0 rfl ?_
  refine g_iload_n hC dX5_readAnd_1 rfl ?_
  refine g_known (fun hS => ?_)
  refine mG.st (st1 := ([.int x1] : List Value).reverse ++ .ref (xB X + 5) :: []) rfl ?_
  refine g_callV (As := [.int x1]) (st := []) hC (hS.2 _ (hT _ tg_R_5)) (by decide) ycl_5_X5_readNot yw_X5_readNot yv_X5_readNot tw_182 dX5_readAnd_2 (fun _ h => h) (fun _ h => h) (fun h => h) (c_X5_readNot (d := dr + 13) (Nat.le_refl _) hrE hrN hrO hP hT hw) rfl (Nat.le_of_ble_eq_true rfl) (by omega) (by decide) (by decide) (kV fun s103 hw => ?_)
  refine g_iconst (v := 0) hC dX5_readAnd_5 (by decide) ?_
  refine g_istore_n (lv' := [(2, .int 0), (0, .ref (xB X + 5)), (1, .int x1)]) hC dX5_readAnd_6 (hN 2 (by decide)) rfl ?_
  refine mG.pick (lv' := [(0, .ref (xB X + 5)), (1, .int x1), (2, .int 0)]) [1, 2, 0] rfl ?_
  obtain ⟨m104, hw⟩ := hw
  exact t_X5_readAnd_7 hC hd hN hP hT hrE hrN hrO m104 _ _ _ hw
set_option maxRecDepth 4000 in
theorem c_X5_readAnd {Z : Fx} {ps ts : List (Nat × Nat × Nat)} {d dr : Nat} (hd : dr + 14 ≤ d) {rE : Mem → Int32 → (Mem → Prop) → Prop} (hrE : ∀ (s : Mem) (z0 : Int32) (q : Mem → Prop), rE s z0 q → mM Z ps ts yX5_readE cX5_readE 3 none dr 0 0 [.ref (Z.2.2 + 5), .int z0] s (qV q)) {rN : Mem → Int32 → (Mem → Prop) → Prop} (hrN : ∀ (s : Mem) (z0 : Int32) (q : Mem → Prop), rN s z0 q → mM Z ps ts yX5_readNot cX5_readNot 3 none dr 0 0 [.ref (Z.2.2 + 5), .int z0] s (qV q)) {rO : Mem → Int32 → (Mem → Prop) → Prop} (hrO : ∀ (s : Mem) (z0 : Int32) (q : Mem → Prop), rO s z0 q → mM Z ps ts yX5_readOne cX5_readOne 2 none dr 0 0 [.ref (Z.2.2 + 5), .int z0] s (qV q)) (hP : ∀ e ∈ psR, e ∈ ps) (hT : ∀ e ∈ tsR, e ∈ ts) {σ : Mem} {x1 : Int32} {Q : Mem → Prop} (hw : w_X5_readAnd rE rN rO σ x1 Q) : mM Z ps ts yX5_readAnd cX5_readAnd 3 none d 0 0 [.ref (Z.2.2 + 5), .int x1] σ (qV Q) := by
  refine mM.of (by decide) (Nat.le_of_ble_eq_true rfl) rfl (fun X hZ hp ht hn hC => ?_)
  subst hZ; subst hp; subst ht
  exact t_X5_readAnd hC hd (fun i h => by rw [hn]; exact h) hP hT hrE hrN hrO hw
def w_X5_readE_7 (rE : Mem → Int32 → (Mem → Prop) → Prop) (rN : Mem → Int32 → (Mem → Prop) → Prop) (rO : Mem → Int32 → (Mem → Prop) → Prop) (Q : Mem → Prop) : Nat → Int32 → Int32 → Mem → Prop
  | 0, _, _, _ => False
  | n + 1, x1, x2, σ => (160 ≤ x2 → (Q σ)) ∧ (¬ 160 ≤ x2 → ((¬ (mI σ 5 3) = 6 → (Q σ)) ∧ ((mI σ 5 3) = 6 → (w_X5_advance σ (fun s103 => w_X5_readAnd rE rN rO s103 x1 (fun s106 => w_X5_add s106 (-11) (fun s109 => w_X5_readE_7 rE rN rO Q n x1 (x2 + 1) s109)))))))
set_option maxRecDepth 4000 in
set_option maxHeartbeats 2000000 in
theorem t_X5_readE_7 {X : Cx} {d : Nat} {dr : Nat} (hC : mOK X cX5_readE RX5 "readE" none d 0 0) (hd : dr + 15 ≤ d) (hN : ∀ i, i < 3 → i < xN X) (hP : ∀ e ∈ psR, e ∈ xP X) (hT : ∀ e ∈ tsR, e ∈ xT X) {rE : Mem → Int32 → (Mem → Prop) → Prop} (hrE : ∀ (s : Mem) (z0 : Int32) (q : Mem → Prop), rE s z0 q → mM (xZ X) (xP X) (xT X) yX5_readE cX5_readE 3 none dr 0 0 [.ref ((xB X) + 5), .int z0] s (qV q)) {rN : Mem → Int32 → (Mem → Prop) → Prop} (hrN : ∀ (s : Mem) (z0 : Int32) (q : Mem → Prop), rN s z0 q → mM (xZ X) (xP X) (xT X) yX5_readNot cX5_readNot 3 none dr 0 0 [.ref ((xB X) + 5), .int z0] s (qV q)) {rO : Mem → Int32 → (Mem → Prop) → Prop} (hrO : ∀ (s : Mem) (z0 : Int32) (q : Mem → Prop), rO s z0 q → mM (xZ X) (xP X) (xT X) yX5_readOne cX5_readOne 2 none dr 0 0 [.ref ((xB X) + 5), .int z0] s (qV q)) {Q : Mem → Prop} : ∀ (n : Nat) (x1 : Int32) (x2 : Int32) (σ : Mem), w_X5_readE_7 rE rN rO Q n x1 x2 σ → mG X 7 [(0, .ref (xB X + 5)), (1, .int x1), (2, .int x2)] [] σ 0 0 (mQ X 0 0 (qV Q)) := by
  intro n
  induction n with
  | zero => intro x1 x2 σ hw; exact False.elim hw
  | succ n ih =>
    intro x1 x2 σ hw
    rw [w_X5_readE_7] at hw
    refine g_iload_n hC dX5_readE_7 rfl ?_
    refine g_sipush (v := 160) hC dX5_readE_8 (by decide) ?_
    refine g_icmp_ge (tgt := 44) hC dX5_readE_11 rfl (fun c => ?_) (fun c => ?_)
    · replace hw := hw.1 c
      exact g_vret hC (by decide) (by decide) dX5_readE_44 (fun _ => ⟨rfl, hw⟩)
    · replace hw := hw.2 c
      refine g_aload_n hC dX5_readE_14 rfl ?_
      refine g_getiSv (v := (mI σ 5 3)) hC fl_X5_58_5.s (hT _ tg_R_5) rfl dX5_readE_15 ?_
      refine g_bipush (v := 6) hC dX5_readE_18 (by decide) ?_
      refine g_icmp_ne (tgt := 44) hC dX5_readE_20 rfl (fun c => ?_) (fun c => ?_)
      · replace hw := hw.1 c
        exact g_vret hC (by decide) (by decide) dX5_readE_44 (fun _ => ⟨rfl, hw⟩)
      · replace hw := hw.2 c
        refine g_aload_n hC dX5_readE_23 rfl ?_
        refine g_known (fun hS => ?_)
        refine mG.st (st1 := ([] : List Value).reverse ++ .ref (xB X + 5) :: []) rfl ?_
        refine g_callV (As := []) (st := []) hC (hS.2 _ (hT _ tg_R_5)) (by decide) ycl_5_X5_advance yw_X5_advance yv_X5_advance tw_142 dX5_readE_24 (fun _ h => h) (fun _ h => h) (fun h => h) (c_X5_advance (d := 8) (Nat.le_refl _) hP hT hw) rfl (Nat.le_of_ble_eq_true rfl) (by omega) (by decide) (by decide) (kV fun s103 hw => ?_)
        refine g_aload_n hC dX5_readE_27 rfl ?_
        refine g_iload_n hC dX5_readE_28 rfl ?_
        refine g_known (fun hS => ?_)
        refine mG.st (st1 := ([.int x1] : List Value).reverse ++ .ref (xB X + 5) :: []) rfl ?_
        refine g_callV (As := [.int x1]) (st := []) hC (hS.2 _ (hT _ tg_R_5)) (by decide) ycl_5_X5_readAnd yw_X5_readAnd yv_X5_readAnd tw_181 dX5_readE_29 (fun _ h => h) (fun _ h => h) (fun h => h) (c_X5_readAnd (d := dr + 14) (Nat.le_refl _) hrE hrN hrO hP hT hw) rfl (Nat.le_of_ble_eq_true rfl) (by omega) (by decide) (by decide) (kV fun s106 hw => ?_)
        refine g_aload_n hC dX5_readE_32 rfl ?_
        refine g_bipush (v := (-11)) hC dX5_readE_33 (by decide) ?_
        refine g_known (fun hS => ?_)
        refine mG.st (st1 := ([.int (-11)] : List Value).reverse ++ .ref (xB X + 5) :: []) rfl ?_
        refine g_callV (As := [.int (-11)]) (st := []) hC (hS.2 _ (hT _ tg_R_5)) (by decide) ycl_5_X5_add yw_X5_add yv_X5_add tw_196 dX5_readE_35 (fun _ h => h) (fun _ h => h) (fun h => h) (c_X5_add (d := 0) (Nat.le_refl _) hP hT hw) rfl (Nat.le_of_ble_eq_true rfl) (by omega) (by decide) (by decide) (kV fun s109 hw => ?_)
        refine g_iinc (v := x2 + 1) (lv' := [(2, .int (x2 + 1)), (0, .ref (xB X + 5)), (1, .int x1)]) hC dX5_readE_38 rfl rfl (hN 2 (by decide)) rfl ?_
        refine g_goto (tgt := 7) hC dX5_readE_41 rfl ?_
        refine mG.pick (lv' := [(0, .ref (xB X + 5)), (1, .int x1), (2, .int (x2 + 1))]) [1, 2, 0] rfl ?_
        exact ih _ _ _ hw
def w_X5_readE (rE : Mem → Int32 → (Mem → Prop) → Prop) (rN : Mem → Int32 → (Mem → Prop) → Prop) (rO : Mem → Int32 → (Mem → Prop) → Prop) (σ : Mem) (x1 : Int32) (Q : Mem → Prop) : Prop := w_X5_readAnd rE rN rO σ x1 (fun s103 => ∃ m104 : Nat, w_X5_readE_7 rE rN rO Q m104 x1 0 s103)
set_option maxRecDepth 4000 in
set_option maxHeartbeats 2000000 in
theorem t_X5_readE {X : Cx} {d : Nat} {dr : Nat} (hC : mOK X cX5_readE RX5 "readE" none d 0 0) (hd : dr + 15 ≤ d) (hN : ∀ i, i < 3 → i < xN X) (hP : ∀ e ∈ psR, e ∈ xP X) (hT : ∀ e ∈ tsR, e ∈ xT X) {rE : Mem → Int32 → (Mem → Prop) → Prop} (hrE : ∀ (s : Mem) (z0 : Int32) (q : Mem → Prop), rE s z0 q → mM (xZ X) (xP X) (xT X) yX5_readE cX5_readE 3 none dr 0 0 [.ref ((xB X) + 5), .int z0] s (qV q)) {rN : Mem → Int32 → (Mem → Prop) → Prop} (hrN : ∀ (s : Mem) (z0 : Int32) (q : Mem → Prop), rN s z0 q → mM (xZ X) (xP X) (xT X) yX5_readNot cX5_readNot 3 none dr 0 0 [.ref ((xB X) + 5), .int z0] s (qV q)) {rO : Mem → Int32 → (Mem → Prop) → Prop} (hrO : ∀ (s : Mem) (z0 : Int32) (q : Mem → Prop), rO s z0 q → mM (xZ X) (xP X) (xT X) yX5_readOne cX5_readOne 2 none dr 0 0 [.ref ((xB X) + 5), .int z0] s (qV q)) {σ : Mem} {x1 : Int32} {Q : Mem → Prop} (hw : w_X5_readE rE rN rO σ x1 Q) : mG X 0 [(0, .ref (xB X + 5)), (1, .int x1)] [] σ 0 0 (mQ X 0 0 (qV Q)) := by
  refine g_aload_n hC dX5_readE_0 rfl ?_
  refine g_iload_n hC dX5_readE_1 rfl ?_
  refine g_known (fun hS => ?_)
  refine mG.st (st1 := ([.int x1] : List Value).reverse ++ .ref (xB X + 5) :: []) rfl ?_
  refine g_callV (As := [.int x1]) (st := []) hC (hS.2 _ (hT _ tg_R_5)) (by decide) ycl_5_X5_readAnd yw_X5_readAnd yv_X5_readAnd tw_181 dX5_readE_2 (fun _ h => h) (fun _ h => h) (fun h => h) (c_X5_readAnd (d := dr + 14) (Nat.le_refl _) hrE hrN hrO hP hT hw) rfl (Nat.le_of_ble_eq_true rfl) (by omega) (by decide) (by decide) (kV fun s103 hw => ?_)
  refine g_iconst (v := 0) hC dX5_readE_5 (by decide) ?_
  refine g_istore_n (lv' := [(2, .int 0), (0, .ref (xB X + 5)), (1, .int x1)]) hC dX5_readE_6 (hN 2 (by decide)) rfl ?_
  refine mG.pick (lv' := [(0, .ref (xB X + 5)), (1, .int x1), (2, .int 0)]) [1, 2, 0] rfl ?_
  obtain ⟨m104, hw⟩ := hw
  exact t_X5_readE_7 hC hd hN hP hT hrE hrN hrO m104 _ _ _ hw
set_option maxRecDepth 4000 in
theorem c_X5_readE {Z : Fx} {ps ts : List (Nat × Nat × Nat)} {d dr : Nat} (hd : dr + 15 ≤ d) {rE : Mem → Int32 → (Mem → Prop) → Prop} (hrE : ∀ (s : Mem) (z0 : Int32) (q : Mem → Prop), rE s z0 q → mM Z ps ts yX5_readE cX5_readE 3 none dr 0 0 [.ref (Z.2.2 + 5), .int z0] s (qV q)) {rN : Mem → Int32 → (Mem → Prop) → Prop} (hrN : ∀ (s : Mem) (z0 : Int32) (q : Mem → Prop), rN s z0 q → mM Z ps ts yX5_readNot cX5_readNot 3 none dr 0 0 [.ref (Z.2.2 + 5), .int z0] s (qV q)) {rO : Mem → Int32 → (Mem → Prop) → Prop} (hrO : ∀ (s : Mem) (z0 : Int32) (q : Mem → Prop), rO s z0 q → mM Z ps ts yX5_readOne cX5_readOne 2 none dr 0 0 [.ref (Z.2.2 + 5), .int z0] s (qV q)) (hP : ∀ e ∈ psR, e ∈ ps) (hT : ∀ e ∈ tsR, e ∈ ts) {σ : Mem} {x1 : Int32} {Q : Mem → Prop} (hw : w_X5_readE rE rN rO σ x1 Q) : mM Z ps ts yX5_readE cX5_readE 3 none d 0 0 [.ref (Z.2.2 + 5), .int x1] σ (qV Q) := by
  refine mM.of (by decide) (Nat.le_of_ble_eq_true rfl) rfl (fun X hZ hp ht hn hC => ?_)
  subst hZ; subst hp; subst ht
  exact t_X5_readE hC hd (fun i h => by rw [hn]; exact h) hP hT hrE hrN hrO hw
def f_read : Nat → Nat → Mem → Int32 → (Mem → Prop) → Prop
  | 0, _, _, _, _ => False
  | n + 1, 0, σ, x1, Q => w_X5_readE (f_read n 0) (f_read n 1) (f_read n 2) σ x1 Q
  | n + 1, 1, σ, x1, Q => w_X5_readNot (f_read n 0) (f_read n 1) (f_read n 2) σ x1 Q
  | n + 1, _ + 2, σ, x1, Q => w_X5_readOne (f_read n 0) (f_read n 1) (f_read n 2) σ x1 Q
abbrev f_X5_readE (n : Nat) (σ : Mem) (x1 : Int32) (Q : Mem → Prop) : Prop := f_read n 0 σ x1 Q
theorem cf_read {Z : Fx} {ps ts : List (Nat × Nat × Nat)} (hP : ∀ e ∈ psR, e ∈ ps) (hT : ∀ e ∈ tsR, e ∈ ts) (n : Nat) : (∀ (σ : Mem) (x1 : Int32) (Q : Mem → Prop), f_read n 0 σ x1 Q → mM Z ps ts yX5_readE cX5_readE 3 none (15 * (n + 1)) 0 0 [.ref (Z.2.2 + 5), .int x1] σ (qV Q)) ∧ (∀ (σ : Mem) (x1 : Int32) (Q : Mem → Prop), f_read n 1 σ x1 Q → mM Z ps ts yX5_readNot cX5_readNot 3 none (15 * (n + 1)) 0 0 [.ref (Z.2.2 + 5), .int x1] σ (qV Q)) ∧ (∀ (σ : Mem) (x1 : Int32) (Q : Mem → Prop), f_read n 2 σ x1 Q → mM Z ps ts yX5_readOne cX5_readOne 2 none (15 * (n + 1)) 0 0 [.ref (Z.2.2 + 5), .int x1] σ (qV Q)) := by
  induction n with
  | zero => exact ⟨fun _ _ _ hw => False.elim hw, fun _ _ _ hw => False.elim hw, fun _ _ _ hw => False.elim hw⟩
  | succ n ih =>
    refine ⟨fun σ x1 Q hw => ?_, fun σ x1 Q hw => ?_, fun σ x1 Q hw => ?_⟩
    · rw [f_read] at hw
      exact c_X5_readE (dr := 15 * (n + 1)) (by omega) ih.1 ih.2.1 ih.2.2 hP hT hw
    · rw [f_read] at hw
      exact c_X5_readNot (dr := 15 * (n + 1)) (by omega) ih.1 ih.2.1 ih.2.2 hP hT hw
    · rw [f_read] at hw
      exact c_X5_readOne (dr := 15 * (n + 1)) (by omega) ih.1 ih.2.1 ih.2.2 hP hT hw
theorem cf_X5_readE {Z : Fx} {ps ts : List (Nat × Nat × Nat)} (n : Nat) (hP : ∀ e ∈ psR, e ∈ ps) (hT : ∀ e ∈ tsR, e ∈ ts) {σ : Mem} {x1 : Int32} {Q : Mem → Prop} (hw : f_X5_readE n σ x1 Q) : mM Z ps ts yX5_readE cX5_readE 3 none (15 * (n + 1)) 0 0 [.ref (Z.2.2 + 5), .int x1] σ (qV Q) := (cf_read hP hT n).1 σ x1 Q hw

def w_X5_readPart (σ : Mem) (x1 : Int32) (Q : Mem → Prop) : Prop := w_X5_pass σ x1 (fun s103 => ∃ m110 : Nat, m110 ≤ 12 ∧ f_X5_readE m110 s103 0 (fun s106 => w_X5_pass s106 59 (fun s109 => Q s109)))
set_option maxRecDepth 4000 in
set_option maxHeartbeats 2000000 in
theorem t_X5_readPart {X : Cx} {d : Nat} (hC : mOK X cX5_readPart RX5 "readPart" none d 0 0) (hd : 196 ≤ d) (hN : ∀ i, i < 2 → i < xN X) (hP : ∀ e ∈ psR, e ∈ xP X) (hT : ∀ e ∈ tsR, e ∈ xT X) {σ : Mem} {x1 : Int32} {Q : Mem → Prop} (hw : w_X5_readPart σ x1 Q) : mG X 0 [(0, .ref (xB X + 5)), (1, .int x1)] [] σ 0 0 (mQ X 0 0 (qV Q)) := by
  refine g_aload_n hC dX5_readPart_0 rfl ?_
  refine g_iload_n hC dX5_readPart_1 rfl ?_
  refine g_known (fun hS => ?_)
  refine mG.st (st1 := ([.int x1] : List Value).reverse ++ .ref (xB X + 5) :: []) rfl ?_
  refine g_callV (As := [.int x1]) (st := []) hC (hS.2 _ (hT _ tg_R_5)) (by decide) ycl_5_X5_pass yw_X5_pass yv_X5_pass tw_172 dX5_readPart_2 (fun _ h => h) (fun _ h => h) (fun h => h) (c_X5_pass (d := 9) (Nat.le_refl _) hP hT hw) rfl (Nat.le_of_ble_eq_true rfl) (by omega) (by decide) (by decide) (kV fun s103 hw => ?_)
  refine g_aload_n hC dX5_readPart_5 rfl ?_
  refine g_iconst (v := 0) hC dX5_readPart_6 (by decide) ?_
  refine g_known (fun hS => ?_)
  obtain ⟨m110, hn, hw⟩ := hw
  refine mG.st (st1 := ([.int 0] : List Value).reverse ++ .ref (xB X + 5) :: []) rfl ?_
  refine g_callV (As := [.int 0]) (st := []) hC (hS.2 _ (hT _ tg_R_5)) (by decide) ycl_5_X5_readE yw_X5_readE yv_X5_readE tw_180 dX5_readPart_7 (fun _ h => h) (fun _ h => h) (fun h => h) (cf_X5_readE m110 hP hT hw) rfl (Nat.le_of_ble_eq_true rfl) (by omega) (by decide) (by decide) (kV fun s106 hw => ?_)
  refine g_aload_n hC dX5_readPart_10 rfl ?_
  refine g_bipush (v := 59) hC dX5_readPart_11 (by decide) ?_
  refine g_known (fun hS => ?_)
  refine mG.st (st1 := ([.int 59] : List Value).reverse ++ .ref (xB X + 5) :: []) rfl ?_
  refine g_callV (As := [.int 59]) (st := []) hC (hS.2 _ (hT _ tg_R_5)) (by decide) ycl_5_X5_pass yw_X5_pass yv_X5_pass tw_172 dX5_readPart_13 (fun _ h => h) (fun _ h => h) (fun h => h) (c_X5_pass (d := 9) (Nat.le_refl _) hP hT hw) rfl (Nat.le_of_ble_eq_true rfl) (by omega) (by decide) (by decide) (kV fun s109 hw => ?_)
  exact g_vret hC (by decide) (by decide) dX5_readPart_16 (fun _ => ⟨rfl, hw⟩)
set_option maxRecDepth 4000 in
theorem c_X5_readPart {Z : Fx} {ps ts : List (Nat × Nat × Nat)} {d : Nat} (hd : 196 ≤ d) (hP : ∀ e ∈ psR, e ∈ ps) (hT : ∀ e ∈ tsR, e ∈ ts) {σ : Mem} {x1 : Int32} {Q : Mem → Prop} (hw : w_X5_readPart σ x1 Q) : mM Z ps ts yX5_readPart cX5_readPart 2 none d 0 0 [.ref (Z.2.2 + 5), .int x1] σ (qV Q) := by
  refine mM.of (by decide) (Nat.le_of_ble_eq_true rfl) rfl (fun X hZ hp ht hn hC => ?_)
  subst hZ; subst hp; subst ht
  exact t_X5_readPart hC hd (fun i h => by rw [hn]; exact h) hP hT hw
def w_X5_read (σ : Mem) (Q : Option Nat → Mem → Prop) : Prop := w_X5_advance (sI (sI (sI σ 5 2 (-1)) 5 5 0) 5 8 0) (fun s103 => w_X5_readPart s103 3 (fun s106 => w_X5_readPart s106 4 (fun s109 => w_X5_readPart s109 5 (fun s112 => w_X5_pass s112 0 (fun s115 => ((mI s115 5 2) = (-1) → (w_J7_copyOf_59c91_7 (mN s115 (6, 0)) (mI (mN s115 (6, 0)) 5 8) (fun o117 s118 => ∃ r119 : Nat, o117 = some r119 ∧ (w_X6_init s118 (mL s115) r119 (mI s106 5 8) (mI s109 5 8) (fun s122 => Q (some (mL s115)) s122))))) ∧ (¬ (mI s115 5 2) = (-1) → (Q none s115)))))))
set_option maxRecDepth 4000 in
set_option maxHeartbeats 2000000 in
theorem t_X5_read {X : Cx} {d : Nat} (hC : mOK X cX5_read RX5 "read" (some (.object "GreaterPlates$Rule")) d 4 211) (hd : 197 ≤ d) (hN : ∀ i, i < 3 → i < xN X) (hP : ∀ e ∈ psR, e ∈ xP X) (hT : ∀ e ∈ tsR, e ∈ xT X) {σ : Mem} {Q : Option Nat → Mem → Prop} (hw : w_X5_read σ Q) : mG X 0 [(0, .ref (xB X + 5))] [] σ 0 0 (mQ X 4 211 ((qA (xB X)) Q)) := by
  refine g_aload_n hC dX5_read_0 rfl ?_
  refine g_iconst (v := (-1)) hC dX5_read_1 (by decide) ?_
  refine g_putIS hC (fw_X5_22_5 _) (hT _ tg_R_5) rfl rfl dX5_read_2 ?_
  refine g_aload_n hC dX5_read_5 rfl ?_
  refine g_iconst (v := 0) hC dX5_read_6 (by decide) ?_
  refine g_putIS hC (fw_X5_25_5 _) (hT _ tg_R_5) rfl rfl dX5_read_7 ?_
  refine g_aload_n hC dX5_read_10 rfl ?_
  refine g_iconst (v := 0) hC dX5_read_11 (by decide) ?_
  refine g_putIS hC (fw_X5_28_5 _) (hT _ tg_R_5) rfl rfl dX5_read_12 ?_
  refine g_aload_n hC dX5_read_15 rfl ?_
  refine g_known (fun hS => ?_)
  refine mG.st (st1 := ([] : List Value).reverse ++ .ref (xB X + 5) :: []) rfl ?_
  refine g_callV (As := []) (st := []) hC (hS.2 _ (hT _ tg_R_5)) (by decide) ycl_5_X5_advance yw_X5_advance yv_X5_advance tw_142 dX5_read_16 (fun _ h => h) (fun _ h => h) (fun h => h) (c_X5_advance (d := 8) (Nat.le_refl _) hP hT hw) rfl (Nat.le_of_ble_eq_true rfl) (by omega) (by decide) (by decide) (kV fun s103 hw => ?_)
  refine g_aload_n hC dX5_read_19 rfl ?_
  refine g_iconst (v := 3) hC dX5_read_20 (by decide) ?_
  refine g_known (fun hS => ?_)
  refine mG.st (st1 := ([.int 3] : List Value).reverse ++ .ref (xB X + 5) :: []) rfl ?_
  refine g_callV (As := [.int 3]) (st := []) hC (hS.2 _ (hT _ tg_R_5)) (by decide) ycl_5_X5_readPart yw_X5_readPart yv_X5_readPart tw_171 dX5_read_21 (fun _ h => h) (fun _ h => h) (fun h => h) (c_X5_readPart (d := 196) (Nat.le_refl _) hP hT hw) rfl (Nat.le_of_ble_eq_true rfl) (by omega) (by decide) (by decide) (kV fun s106 hw => ?_)
  refine g_aload_n hC dX5_read_24 rfl ?_
  refine g_getiSv (v := (mI s106 5 8)) hC fl_X5_28_5.s (hT _ tg_R_5) rfl dX5_read_25 ?_
  refine g_istore_n (lv' := [(1, .int (mI s106 5 8)), (0, .ref (xB X + 5))]) hC dX5_read_28 (hN 1 (by decide)) rfl ?_
  refine g_aload_n hC dX5_read_29 rfl ?_
  refine g_iconst (v := 4) hC dX5_read_30 (by decide) ?_
  refine g_known (fun hS => ?_)
  refine mG.st (st1 := ([.int 4] : List Value).reverse ++ .ref (xB X + 5) :: []) rfl ?_
  refine g_callV (As := [.int 4]) (st := []) hC (hS.2 _ (hT _ tg_R_5)) (by decide) ycl_5_X5_readPart yw_X5_readPart yv_X5_readPart tw_171 dX5_read_31 (fun _ h => h) (fun _ h => h) (fun h => h) (c_X5_readPart (d := 196) (Nat.le_refl _) hP hT hw) rfl (Nat.le_of_ble_eq_true rfl) (by omega) (by decide) (by decide) (kV fun s109 hw => ?_)
  refine g_aload_n hC dX5_read_34 rfl ?_
  refine g_getiSv (v := (mI s109 5 8)) hC fl_X5_28_5.s (hT _ tg_R_5) rfl dX5_read_35 ?_
  refine g_istore_n (lv' := [(2, .int (mI s109 5 8)), (1, .int (mI s106 5 8)), (0, .ref (xB X + 5))]) hC dX5_read_38 (hN 2 (by decide)) rfl ?_
  refine g_aload_n hC dX5_read_39 rfl ?_
  refine g_iconst (v := 5) hC dX5_read_40 (by decide) ?_
  refine g_known (fun hS => ?_)
  refine mG.st (st1 := ([.int 5] : List Value).reverse ++ .ref (xB X + 5) :: []) rfl ?_
  refine g_callV (As := [.int 5]) (st := []) hC (hS.2 _ (hT _ tg_R_5)) (by decide) ycl_5_X5_readPart yw_X5_readPart yv_X5_readPart tw_171 dX5_read_41 (fun _ h => h) (fun _ h => h) (fun h => h) (c_X5_readPart (d := 196) (Nat.le_refl _) hP hT hw) rfl (Nat.le_of_ble_eq_true rfl) (by omega) (by decide) (by decide) (kV fun s112 hw => ?_)
  refine g_aload_n hC dX5_read_44 rfl ?_
  refine g_iconst (v := 0) hC dX5_read_45 (by decide) ?_
  refine g_known (fun hS => ?_)
  refine mG.st (st1 := ([.int 0] : List Value).reverse ++ .ref (xB X + 5) :: []) rfl ?_
  refine g_callV (As := [.int 0]) (st := []) hC (hS.2 _ (hT _ tg_R_5)) (by decide) ycl_5_X5_pass yw_X5_pass yv_X5_pass tw_172 dX5_read_46 (fun _ h => h) (fun _ h => h) (fun h => h) (c_X5_pass (d := 9) (Nat.le_refl _) hP hT hw) rfl (Nat.le_of_ble_eq_true rfl) (by omega) (by decide) (by decide) (kV fun s115 hw => ?_)
  refine g_aload_n hC dX5_read_49 rfl ?_
  refine g_getiSv (v := (mI s115 5 2)) hC fl_X5_22_5.s (hT _ tg_R_5) rfl dX5_read_50 ?_
  refine g_iconst (v := (-1)) hC dX5_read_53 (by decide) ?_
  refine g_icmp_eq (tgt := 59) hC dX5_read_54 rfl (fun c => ?_) (fun c => ?_)
  · replace hw := hw.1 c
    refine g_known (fun hS => ?_)
    have hfz : ∀ e ∈ xP X, e.1 ≠ (mL s115) := fun e he => Nat.ne_of_lt (hS.1 e he).2
    refine g_new hC no_X5_41 (by decide) (by decide) dX5_read_59 ?_
    refine g_dup hC dX5_read_62 rfl ?_
    refine g_aload_n hC dX5_read_63 rfl ?_
    refine g_getrS hC fl_X5_15_5.s (hT _ tg_R_5) (hP _ pt_R_5_7) dX5_read_64 ?_
    refine g_aload_n hC dX5_read_67 rfl ?_
    refine g_getiSv (v := (mI (mN s115 (6, 0)) 5 8)) hC fl_X5_28_5.s (hT _ tg_R_5) rfl dX5_read_68 ?_
    refine mG.st (st1 := ([.ref (xB X + 7), .int (mI (mN s115 (6, 0)) 5 8)] : List Value).reverse ++ [.ref (xB X + (mL s115)), .ref (xB X + (mL s115))]) rfl ?_
    refine g_callS (As := [.ref (xB X + 7), .int (mI (mN s115 (6, 0)) 5 8)]) (st := [.ref (xB X + (mL s115)), .ref (xB X + (mL s115))]) hC yw_J7_copyOf_59c91 ys_J7_copyOf_59c91 tw_217 dX5_read_71 (fun _ h => h) (fun _ h => h) (fun h => h) (c_J7_copyOf_59c91_7 (d := 1) (Nat.le_refl _) hP hT hw) rfl (Nat.le_of_ble_eq_true rfl) (by omega) (by decide) (by decide) (kA fun o117 s118 hw => ?_)
    refine g_iload_n hC dX5_read_74 rfl ?_
    refine g_iload_n hC dX5_read_75 rfl ?_
    obtain ⟨r119, ho, hw⟩ := hw
    subst ho
    refine mG.st (st1 := ([.ref (xB X + r119), .int (mI s106 5 8), .int (mI s109 5 8)] : List Value).reverse ++ .ref (xB X + (mL s115)) :: [.ref (xB X + (mL s115))]) rfl ?_
    refine g_callI (As := [.ref (xB X + r119), .int (mI s106 5 8), .int (mI s109 5 8)]) (st := [.ref (xB X + (mL s115))]) hC yw_X6_init yi_X6_init tw_224 dX5_read_76 (fun _ h => h) (fun _ h => h) (fun h => h) (c_X6_init (d := 1) (Nat.le_refl _) hfz hw) rfl (Nat.le_of_ble_eq_true rfl) (by omega) (by decide) (by decide) (kV fun s122 hw => ?_)
    exact g_aretR hC (Or.inl ⟨_, rfl⟩) (by decide) (by decide) dX5_read_79 (fun _ => ⟨some (mL s115), rfl, hw⟩)
  · replace hw := hw.2 c
    refine g_null hC dX5_read_57 ?_
    exact g_aretN hC (Or.inl ⟨_, rfl⟩) (by decide) (by decide) dX5_read_58 (fun _ => ⟨none, rfl, hw⟩)
set_option maxRecDepth 4000 in
theorem c_X5_read {Z : Fx} {ps ts : List (Nat × Nat × Nat)} {d : Nat} (hd : 197 ≤ d) (hP : ∀ e ∈ psR, e ∈ ps) (hT : ∀ e ∈ tsR, e ∈ ts) {σ : Mem} {Q : Option Nat → Mem → Prop} (hw : w_X5_read σ Q) : mM Z ps ts yX5_read cX5_read 3 (some (.object "GreaterPlates$Rule")) d 4 211 [.ref (Z.2.2 + 5)] σ ((qA Z.2.2) Q) := by
  refine mM.of (by decide) (Nat.le_of_ble_eq_true rfl) rfl (fun X hZ hp ht hn hC => ?_)
  subst hZ; subst hp; subst ht
  exact t_X5_read hC hd (fun i h => by rw [hn]; exact h) hP hT hw
