def w_X0_rank (σ : Mem) (a0 : Nat) (x1 : Int32) (x2 : Int32) (x3 : Int32) (x4 : Int32) (Q : Int32 → Mem → Prop) : Prop := Q x1 σ
set_option maxRecDepth 4000 in
set_option maxHeartbeats 2000000 in
theorem t_X0_rank {X : Cx} {d : Nat} (hC : mOK X cX0_rank RX0 "rank" (some .int) d 0 0) (hd : 0 ≤ d) (hN : ∀ i, i < 5 → i < xN X) {σ : Mem} {a0 : Nat} {x1 : Int32} {x2 : Int32} {x3 : Int32} {x4 : Int32} {Q : Int32 → Mem → Prop} (hw : w_X0_rank σ a0 x1 x2 x3 x4 Q) : mG X 0 [(0, .ref (xB X + a0)), (1, .int x1), (2, .int x2), (3, .int x3), (4, .int x4)] [] σ 0 0 (mQ X 0 0 (qI Q)) := by
  refine g_iload_n hC dX0_rank_0 rfl ?_
  exact g_iret hC rfl (by decide) (by decide) dX0_rank_1 (fun _ => ⟨_, rfl, hw⟩)
set_option maxRecDepth 4000 in
theorem c_X0_rank {Z : Fx} {ps ts : List (Nat × Nat × Nat)} {d : Nat} (hd : 0 ≤ d) {σ : Mem} {a0 : Nat} {x1 : Int32} {x2 : Int32} {x3 : Int32} {x4 : Int32} {Q : Int32 → Mem → Prop} (hw : w_X0_rank σ a0 x1 x2 x3 x4 Q) : mM Z ps ts yX0_rank cX0_rank 5 (some .int) d 0 0 [.ref (Z.2.2 + a0), .int x1, .int x2, .int x3, .int x4] σ (qI Q) := by
  refine mM.of (by decide) (Nat.le_of_ble_eq_true rfl) rfl (fun X hZ hp ht hn hC => ?_)
  subst hZ; subst hp; subst ht
  exact t_X0_rank hC hd (fun i h => by rw [hn]; exact h) hw
def w_X4_rank (σ : Mem) (a0 : Nat) (x1 : Int32) (x2 : Int32) (x3 : Int32) (x4 : Int32) (Q : Int32 → Mem → Prop) : Prop := ∃ ci101 : Nat, lyK ci101 ∧ mT σ a0 = some (ci101, 0) ∧ (Q ((if 0 ≤ (x2 - x3) then (x2 - x3) else 0 - (x2 - x3)) + (mI σ a0 1)) σ)
set_option maxRecDepth 4000 in
set_option maxHeartbeats 2000000 in
theorem t_X4_rank {X : Cx} {d : Nat} (hC : mOK X cX4_rank RX4 "rank" (some .int) d 0 0) (hd : 1 ≤ d) (hN : ∀ i, i < 5 → i < xN X) {σ : Mem} {a0 : Nat} {x1 : Int32} {x2 : Int32} {x3 : Int32} {x4 : Int32} {Q : Int32 → Mem → Prop} (hw : w_X4_rank σ a0 x1 x2 x3 x4 Q) : mG X 0 [(0, .ref (xB X + a0)), (1, .int x1), (2, .int x2), (3, .int x3), (4, .int x4)] [] σ 0 0 (mQ X 0 0 (qI Q)) := by
  refine g_iload_n hC dX4_rank_0 rfl ?_
  refine g_iload_n hC dX4_rank_1 rfl ?_
  refine g_isub hC dX4_rank_2 ?_
  refine g_mabs hC tw_1 tw_4 tw_5 tw_6 (Nat.le_of_ble_eq_true rfl) (by omega) (by decide) (by decide) dX4_rank_3 ?_
  refine g_aload_n hC dX4_rank_6 rfl ?_
  obtain ⟨ci101, hly, htg, hw⟩ := hw
  refine g_getiv (v := (mI σ a0 1)) hC (fly_X4_13 hly) htg rfl dX4_rank_7 ?_
  refine g_iadd hC dX4_rank_10 ?_
  exact g_iret hC rfl (by decide) (by decide) dX4_rank_11 (fun _ => ⟨_, rfl, hw⟩)
set_option maxRecDepth 4000 in
theorem c_X4_rank {Z : Fx} {ps ts : List (Nat × Nat × Nat)} {d : Nat} (hd : 1 ≤ d) {σ : Mem} {a0 : Nat} {x1 : Int32} {x2 : Int32} {x3 : Int32} {x4 : Int32} {Q : Int32 → Mem → Prop} (hw : w_X4_rank σ a0 x1 x2 x3 x4 Q) : mM Z ps ts yX4_rank cX4_rank 5 (some .int) d 0 0 [.ref (Z.2.2 + a0), .int x1, .int x2, .int x3, .int x4] σ (qI Q) := by
  refine mM.of (by decide) (Nat.le_of_ble_eq_true rfl) rfl (fun X hZ hp ht hn hC => ?_)
  subst hZ; subst hp; subst ht
  exact t_X4_rank hC hd (fun i h => by rw [hn]; exact h) hw
def w_X2_rank (σ : Mem) (a0 : Nat) (x1 : Int32) (x2 : Int32) (x3 : Int32) (x4 : Int32) (Q : Int32 → Mem → Prop) : Prop := ∃ ci104 : Nat, lyK ci104 ∧ mT σ a0 = some (ci104, 0) ∧ (w_X4_rank σ a0 x1 x2 x3 x4 (fun v101 s103 => Q (v101 + (10 * x4)) s103))
set_option maxRecDepth 4000 in
set_option maxHeartbeats 2000000 in
theorem t_X2_rank {X : Cx} {d : Nat} (hC : mOK X cX2_rank RX2 "rank" (some .int) d 0 0) (hd : 2 ≤ d) (hN : ∀ i, i < 5 → i < xN X) {σ : Mem} {a0 : Nat} {x1 : Int32} {x2 : Int32} {x3 : Int32} {x4 : Int32} {Q : Int32 → Mem → Prop} (hw : w_X2_rank σ a0 x1 x2 x3 x4 Q) : mG X 0 [(0, .ref (xB X + a0)), (1, .int x1), (2, .int x2), (3, .int x3), (4, .int x4)] [] σ 0 0 (mQ X 0 0 (qI Q)) := by
  refine g_aload_n hC dX2_rank_0 rfl ?_
  refine g_iload_n hC dX2_rank_1 rfl ?_
  refine g_iload_n hC dX2_rank_2 rfl ?_
  refine g_iload_n hC dX2_rank_3 rfl ?_
  refine g_iload hC dX2_rank_4 rfl ?_
  refine mG.st (st1 := ([.int x1, .int x2, .int x3, .int x4] : List Value).reverse ++ .ref (xB X + a0) :: []) rfl ?_
  obtain ⟨ci104, hly, hw0, hw⟩ := hw
  refine g_callP (As := [.int x1, .int x2, .int x3, .int x4]) (st := []) hC hw0 (aly hly).2 yw_X4_rank yp_X2_X4_rank tw_0 dX2_rank_6 (fun _ h => h) (fun _ h => h) (fun h => h) (c_X4_rank (d := 1) (Nat.le_refl _) hw) rfl (Nat.le_of_ble_eq_true rfl) (by omega) (by decide) (by decide) (kI fun v101 s103 hw => ?_)
  refine g_bipush (v := 10) hC dX2_rank_9 (by decide) ?_
  refine g_iload hC dX2_rank_11 rfl ?_
  refine g_imul hC dX2_rank_13 ?_
  refine g_iadd hC dX2_rank_14 ?_
  exact g_iret hC rfl (by decide) (by decide) dX2_rank_15 (fun _ => ⟨_, rfl, hw⟩)
set_option maxRecDepth 4000 in
theorem c_X2_rank {Z : Fx} {ps ts : List (Nat × Nat × Nat)} {d : Nat} (hd : 2 ≤ d) {σ : Mem} {a0 : Nat} {x1 : Int32} {x2 : Int32} {x3 : Int32} {x4 : Int32} {Q : Int32 → Mem → Prop} (hw : w_X2_rank σ a0 x1 x2 x3 x4 Q) : mM Z ps ts yX2_rank cX2_rank 5 (some .int) d 0 0 [.ref (Z.2.2 + a0), .int x1, .int x2, .int x3, .int x4] σ (qI Q) := by
  refine mM.of (by decide) (Nat.le_of_ble_eq_true rfl) rfl (fun X hZ hp ht hn hC => ?_)
  subst hZ; subst hp; subst ht
  exact t_X2_rank hC hd (fun i h => by rw [hn]; exact h) hw
def w_X3_rank (σ : Mem) (a0 : Nat) (x1 : Int32) (x2 : Int32) (x3 : Int32) (x4 : Int32) (Q : Int32 → Mem → Prop) : Prop := Q x2 σ
set_option maxRecDepth 4000 in
set_option maxHeartbeats 2000000 in
theorem t_X3_rank {X : Cx} {d : Nat} (hC : mOK X cX3_rank RX3 "rank" (some .int) d 0 0) (hd : 0 ≤ d) (hN : ∀ i, i < 5 → i < xN X) {σ : Mem} {a0 : Nat} {x1 : Int32} {x2 : Int32} {x3 : Int32} {x4 : Int32} {Q : Int32 → Mem → Prop} (hw : w_X3_rank σ a0 x1 x2 x3 x4 Q) : mG X 0 [(0, .ref (xB X + a0)), (1, .int x1), (2, .int x2), (3, .int x3), (4, .int x4)] [] σ 0 0 (mQ X 0 0 (qI Q)) := by
  refine g_iload_n hC dX3_rank_0 rfl ?_
  exact g_iret hC rfl (by decide) (by decide) dX3_rank_1 (fun _ => ⟨_, rfl, hw⟩)
set_option maxRecDepth 4000 in
theorem c_X3_rank {Z : Fx} {ps ts : List (Nat × Nat × Nat)} {d : Nat} (hd : 0 ≤ d) {σ : Mem} {a0 : Nat} {x1 : Int32} {x2 : Int32} {x3 : Int32} {x4 : Int32} {Q : Int32 → Mem → Prop} (hw : w_X3_rank σ a0 x1 x2 x3 x4 Q) : mM Z ps ts yX3_rank cX3_rank 5 (some .int) d 0 0 [.ref (Z.2.2 + a0), .int x1, .int x2, .int x3, .int x4] σ (qI Q) := by
  refine mM.of (by decide) (Nat.le_of_ble_eq_true rfl) rfl (fun X hZ hp ht hn hC => ?_)
  subst hZ; subst hp; subst ht
  exact t_X3_rank hC hd (fun i h => by rw [hn]; exact h) hw
def w_X3_likes (σ : Mem) (a0 : Nat) (x1 : Int32) (x2 : Int32) (Q : Int32 → Mem → Prop) : Prop := Q 0 σ
set_option maxRecDepth 4000 in
set_option maxHeartbeats 2000000 in
theorem t_X3_likes {X : Cx} {d : Nat} (hC : mOK X cX3_likes RX3 "likes" (some .boolean) d 0 0) (hd : 0 ≤ d) (hN : ∀ i, i < 3 → i < xN X) {σ : Mem} {a0 : Nat} {x1 : Int32} {x2 : Int32} {Q : Int32 → Mem → Prop} (hw : w_X3_likes σ a0 x1 x2 Q) : mG X 0 [(0, .ref (xB X + a0)), (1, .int x1), (2, .int x2)] [] σ 0 0 (mQ X 0 0 (qI Q)) := by
  refine g_iconst (v := 0) hC dX3_likes_0 (by decide) ?_
  exact g_iret hC bz0 (by decide) (by decide) dX3_likes_1 (fun _ => ⟨_, rfl, hw⟩)
set_option maxRecDepth 4000 in
theorem c_X3_likes {Z : Fx} {ps ts : List (Nat × Nat × Nat)} {d : Nat} (hd : 0 ≤ d) {σ : Mem} {a0 : Nat} {x1 : Int32} {x2 : Int32} {Q : Int32 → Mem → Prop} (hw : w_X3_likes σ a0 x1 x2 Q) : mM Z ps ts yX3_likes cX3_likes 3 (some .boolean) d 0 0 [.ref (Z.2.2 + a0), .int x1, .int x2] σ (qI Q) := by
  refine mM.of (by decide) (Nat.le_of_ble_eq_true rfl) rfl (fun X hZ hp ht hn hC => ?_)
  subst hZ; subst hp; subst ht
  exact t_X3_likes hC hd (fun i h => by rw [hn]; exact h) hw
def w_X4_likes (σ : Mem) (a0 : Nat) (x1 : Int32) (x2 : Int32) (Q : Int32 → Mem → Prop) : Prop := (x1 ≤ 50 → (Q 0 σ)) ∧ (¬ x1 ≤ 50 → (Q 1 σ))
set_option maxRecDepth 4000 in
set_option maxHeartbeats 2000000 in
theorem t_X4_likes {X : Cx} {d : Nat} (hC : mOK X cX4_likes RX4 "likes" (some .boolean) d 0 0) (hd : 0 ≤ d) (hN : ∀ i, i < 3 → i < xN X) {σ : Mem} {a0 : Nat} {x1 : Int32} {x2 : Int32} {Q : Int32 → Mem → Prop} (hw : w_X4_likes σ a0 x1 x2 Q) : mG X 0 [(0, .ref (xB X + a0)), (1, .int x1), (2, .int x2)] [] σ 0 0 (mQ X 0 0 (qI Q)) := by
  refine g_iload_n hC dX4_likes_0 rfl ?_
  refine g_bipush (v := 50) hC dX4_likes_1 (by decide) ?_
  refine g_icmp_le (tgt := 10) hC dX4_likes_3 rfl (fun c => ?_) (fun c => ?_)
  · replace hw := hw.1 c
    refine g_iconst (v := 0) hC dX4_likes_10 (by decide) ?_
    exact g_iret hC bz0 (by decide) (by decide) dX4_likes_11 (fun _ => ⟨_, rfl, hw⟩)
  · replace hw := hw.2 c
    refine g_iconst (v := 1) hC dX4_likes_6 (by decide) ?_
    refine g_goto (tgt := 11) hC dX4_likes_7 rfl ?_
    exact g_iret hC bz1 (by decide) (by decide) dX4_likes_11 (fun _ => ⟨_, rfl, hw⟩)
set_option maxRecDepth 4000 in
theorem c_X4_likes {Z : Fx} {ps ts : List (Nat × Nat × Nat)} {d : Nat} (hd : 0 ≤ d) {σ : Mem} {a0 : Nat} {x1 : Int32} {x2 : Int32} {Q : Int32 → Mem → Prop} (hw : w_X4_likes σ a0 x1 x2 Q) : mM Z ps ts yX4_likes cX4_likes 3 (some .boolean) d 0 0 [.ref (Z.2.2 + a0), .int x1, .int x2] σ (qI Q) := by
  refine mM.of (by decide) (Nat.le_of_ble_eq_true rfl) rfl (fun X hZ hp ht hn hC => ?_)
  subst hZ; subst hp; subst ht
  exact t_X4_likes hC hd (fun i h => by rw [hn]; exact h) hw
def w_X8_rank (σ : Mem) (a0 : Nat) (x1 : Int32) (x2 : Int32) (x3 : Int32) (x4 : Int32) (Q : Int32 → Mem → Prop) : Prop := ∃ ci104 : Nat, lyK ci104 ∧ mT σ a0 = some (ci104, 0) ∧ (w_X4_rank σ a0 x1 x2 x3 x4 (fun v101 s103 => Q (100 - v101) s103))
set_option maxRecDepth 4000 in
set_option maxHeartbeats 2000000 in
theorem t_X8_rank {X : Cx} {d : Nat} (hC : mOK X cX8_rank RX8 "rank" (some .int) d 0 0) (hd : 2 ≤ d) (hN : ∀ i, i < 5 → i < xN X) {σ : Mem} {a0 : Nat} {x1 : Int32} {x2 : Int32} {x3 : Int32} {x4 : Int32} {Q : Int32 → Mem → Prop} (hw : w_X8_rank σ a0 x1 x2 x3 x4 Q) : mG X 0 [(0, .ref (xB X + a0)), (1, .int x1), (2, .int x2), (3, .int x3), (4, .int x4)] [] σ 0 0 (mQ X 0 0 (qI Q)) := by
  refine g_bipush (v := 100) hC dX8_rank_0 (by decide) ?_
  refine g_aload_n hC dX8_rank_2 rfl ?_
  refine g_iload_n hC dX8_rank_3 rfl ?_
  refine g_iload_n hC dX8_rank_4 rfl ?_
  refine g_iload_n hC dX8_rank_5 rfl ?_
  refine g_iload hC dX8_rank_6 rfl ?_
  refine mG.st (st1 := ([.int x1, .int x2, .int x3, .int x4] : List Value).reverse ++ .ref (xB X + a0) :: [.int 100]) rfl ?_
  obtain ⟨ci104, hly, hw0, hw⟩ := hw
  refine g_callP (As := [.int x1, .int x2, .int x3, .int x4]) (st := [.int 100]) hC hw0 (aly hly).2 yw_X4_rank yp_X8_X4_rank tw_12 dX8_rank_8 (fun _ h => h) (fun _ h => h) (fun h => h) (c_X4_rank (d := 1) (Nat.le_refl _) hw) rfl (Nat.le_of_ble_eq_true rfl) (by omega) (by decide) (by decide) (kI fun v101 s103 hw => ?_)
  refine g_isub hC dX8_rank_11 ?_
  exact g_iret hC rfl (by decide) (by decide) dX8_rank_12 (fun _ => ⟨_, rfl, hw⟩)
set_option maxRecDepth 4000 in
theorem c_X8_rank {Z : Fx} {ps ts : List (Nat × Nat × Nat)} {d : Nat} (hd : 2 ≤ d) {σ : Mem} {a0 : Nat} {x1 : Int32} {x2 : Int32} {x3 : Int32} {x4 : Int32} {Q : Int32 → Mem → Prop} (hw : w_X8_rank σ a0 x1 x2 x3 x4 Q) : mM Z ps ts yX8_rank cX8_rank 5 (some .int) d 0 0 [.ref (Z.2.2 + a0), .int x1, .int x2, .int x3, .int x4] σ (qI Q) := by
  refine mM.of (by decide) (Nat.le_of_ble_eq_true rfl) rfl (fun X hZ hp ht hn hC => ?_)
  subst hZ; subst hp; subst ht
  exact t_X8_rank hC hd (fun i h => by rw [hn]; exact h) hw
def w_X8_likes (σ : Mem) (a0 : Nat) (x1 : Int32) (x2 : Int32) (Q : Int32 → Mem → Prop) : Prop := ∃ ci104 : Nat, lyK ci104 ∧ mT σ a0 = some (ci104, 0) ∧ (w_X4_likes σ a0 x1 x2 (fun v101 s103 => (¬ v101 = 0 → (Q 1 s103)) ∧ (v101 = 0 → ((¬ x2 = 1 → (Q 0 s103)) ∧ (x2 = 1 → (Q 1 s103))))))
set_option maxRecDepth 4000 in
set_option maxHeartbeats 2000000 in
theorem t_X8_likes {X : Cx} {d : Nat} (hC : mOK X cX8_likes RX8 "likes" (some .boolean) d 0 0) (hd : 1 ≤ d) (hN : ∀ i, i < 3 → i < xN X) {σ : Mem} {a0 : Nat} {x1 : Int32} {x2 : Int32} {Q : Int32 → Mem → Prop} (hw : w_X8_likes σ a0 x1 x2 Q) : mG X 0 [(0, .ref (xB X + a0)), (1, .int x1), (2, .int x2)] [] σ 0 0 (mQ X 0 0 (qI Q)) := by
  refine g_aload_n hC dX8_likes_0 rfl ?_
  refine g_iload_n hC dX8_likes_1 rfl ?_
  refine g_iload_n hC dX8_likes_2 rfl ?_
  refine mG.st (st1 := ([.int x1, .int x2] : List Value).reverse ++ .ref (xB X + a0) :: []) rfl ?_
  obtain ⟨ci104, hly, hw0, hw⟩ := hw
  refine g_callP (As := [.int x1, .int x2]) (st := []) hC hw0 (aly hly).2 yw_X4_likes yp_X8_X4_likes tw_14 dX8_likes_3 (fun _ h => h) (fun _ h => h) (fun h => h) (c_X4_likes (d := 0) (Nat.le_refl _) hw) rfl (Nat.le_of_ble_eq_true rfl) (by omega) (by decide) (by decide) (kI fun v101 s103 hw => ?_)
  refine g_if_ne (tgt := 14) hC dX8_likes_6 rfl (fun c => ?_) (fun c => ?_)
  · replace hw := hw.1 c
    refine g_iconst (v := 1) hC dX8_likes_14 (by decide) ?_
    refine g_goto (tgt := 19) hC dX8_likes_15 rfl ?_
    exact g_iret hC bz1 (by decide) (by decide) dX8_likes_19 (fun _ => ⟨_, rfl, hw⟩)
  · replace hw := hw.2 c
    refine g_iload_n hC dX8_likes_9 rfl ?_
    refine g_iconst (v := 1) hC dX8_likes_10 (by decide) ?_
    refine g_icmp_ne (tgt := 18) hC dX8_likes_11 rfl (fun c => ?_) (fun c => ?_)
    · replace hw := hw.1 c
      refine g_iconst (v := 0) hC dX8_likes_18 (by decide) ?_
      exact g_iret hC bz0 (by decide) (by decide) dX8_likes_19 (fun _ => ⟨_, rfl, hw⟩)
    · replace hw := hw.2 c
      refine g_iconst (v := 1) hC dX8_likes_14 (by decide) ?_
      refine g_goto (tgt := 19) hC dX8_likes_15 rfl ?_
      exact g_iret hC bz1 (by decide) (by decide) dX8_likes_19 (fun _ => ⟨_, rfl, hw⟩)
set_option maxRecDepth 4000 in
theorem c_X8_likes {Z : Fx} {ps ts : List (Nat × Nat × Nat)} {d : Nat} (hd : 1 ≤ d) {σ : Mem} {a0 : Nat} {x1 : Int32} {x2 : Int32} {Q : Int32 → Mem → Prop} (hw : w_X8_likes σ a0 x1 x2 Q) : mM Z ps ts yX8_likes cX8_likes 3 (some .boolean) d 0 0 [.ref (Z.2.2 + a0), .int x1, .int x2] σ (qI Q) := by
  refine mM.of (by decide) (Nat.le_of_ble_eq_true rfl) rfl (fun X hZ hp ht hn hC => ?_)
  subst hZ; subst hp; subst ht
  exact t_X8_likes hC hd (fun i h => by rw [hn]; exact h) hw
def w_X10_rank (σ : Mem) (a0 : Nat) (x1 : Int32) (x2 : Int32) (x3 : Int32) (x4 : Int32) (Q : Int32 → Mem → Prop) : Prop := ∃ ci105 : Nat, lyK ci105 ∧ mT σ a0 = some (ci105, 0) ∧ (w_X0_rank σ a0 x1 x2 x3 x4 (fun v101 s103 => ∃ ci104 : Nat, lyK ci104 ∧ mT s103 a0 = some (ci104, 0) ∧ (Q ((v101 + (mI s103 a0 1)) - (v101 + (mI s103 a0 1)) / 4 * 4) s103)))
set_option maxRecDepth 4000 in
set_option maxHeartbeats 2000000 in
theorem t_X10_rank {X : Cx} {d : Nat} (hC : mOK X cX10_rank RX10 "rank" (some .int) d 0 0) (hd : 1 ≤ d) (hN : ∀ i, i < 5 → i < xN X) {σ : Mem} {a0 : Nat} {x1 : Int32} {x2 : Int32} {x3 : Int32} {x4 : Int32} {Q : Int32 → Mem → Prop} (hw : w_X10_rank σ a0 x1 x2 x3 x4 Q) : mG X 0 [(0, .ref (xB X + a0)), (1, .int x1), (2, .int x2), (3, .int x3), (4, .int x4)] [] σ 0 0 (mQ X 0 0 (qI Q)) := by
  refine g_aload_n hC dX10_rank_0 rfl ?_
  refine g_iload_n hC dX10_rank_1 rfl ?_
  refine g_iload_n hC dX10_rank_2 rfl ?_
  refine g_iload_n hC dX10_rank_3 rfl ?_
  refine g_iload hC dX10_rank_4 rfl ?_
  refine mG.st (st1 := ([.int x1, .int x2, .int x3, .int x4] : List Value).reverse ++ .ref (xB X + a0) :: []) rfl ?_
  obtain ⟨ci105, hly, hw0, hw⟩ := hw
  refine g_callP (As := [.int x1, .int x2, .int x3, .int x4]) (st := []) hC hw0 (aly hly).2 yw_X0_rank yp_X10_X0_rank tw_18 dX10_rank_6 (fun _ h => h) (fun _ h => h) (fun h => h) (c_X0_rank (d := 0) (Nat.le_refl _) hw) rfl (Nat.le_of_ble_eq_true rfl) (by omega) (by decide) (by decide) (kI fun v101 s103 hw => ?_)
  refine g_aload_n hC dX10_rank_9 rfl ?_
  obtain ⟨ci104, hly, htg, hw⟩ := hw
  refine g_getiv (v := (mI s103 a0 1)) hC (fly_X10_11 hly) htg rfl dX10_rank_10 ?_
  refine g_iadd hC dX10_rank_13 ?_
  refine g_iconst (v := 4) hC dX10_rank_14 (by decide) ?_
  refine g_irem hC dX10_rank_15 (by decide) ?_
  exact g_iret hC rfl (by decide) (by decide) dX10_rank_16 (fun _ => ⟨_, rfl, hw⟩)
set_option maxRecDepth 4000 in
theorem c_X10_rank {Z : Fx} {ps ts : List (Nat × Nat × Nat)} {d : Nat} (hd : 1 ≤ d) {σ : Mem} {a0 : Nat} {x1 : Int32} {x2 : Int32} {x3 : Int32} {x4 : Int32} {Q : Int32 → Mem → Prop} (hw : w_X10_rank σ a0 x1 x2 x3 x4 Q) : mM Z ps ts yX10_rank cX10_rank 5 (some .int) d 0 0 [.ref (Z.2.2 + a0), .int x1, .int x2, .int x3, .int x4] σ (qI Q) := by
  refine mM.of (by decide) (Nat.le_of_ble_eq_true rfl) rfl (fun X hZ hp ht hn hC => ?_)
  subst hZ; subst hp; subst ht
  exact t_X10_rank hC hd (fun i h => by rw [hn]; exact h) hw
def w_X10_likes (σ : Mem) (a0 : Nat) (x1 : Int32) (x2 : Int32) (Q : Int32 → Mem → Prop) : Prop := ∃ ci101 : Nat, lyK ci101 ∧ mT σ a0 = some (ci101, 0) ∧ ((((mI σ a0 1) - (mI σ a0 1) / 3 * 3) ≤ x2 → (Q 0 σ)) ∧ (¬ ((mI σ a0 1) - (mI σ a0 1) / 3 * 3) ≤ x2 → (Q 1 σ)))
set_option maxRecDepth 4000 in
set_option maxHeartbeats 2000000 in
theorem t_X10_likes {X : Cx} {d : Nat} (hC : mOK X cX10_likes RX10 "likes" (some .boolean) d 0 0) (hd : 0 ≤ d) (hN : ∀ i, i < 3 → i < xN X) {σ : Mem} {a0 : Nat} {x1 : Int32} {x2 : Int32} {Q : Int32 → Mem → Prop} (hw : w_X10_likes σ a0 x1 x2 Q) : mG X 0 [(0, .ref (xB X + a0)), (1, .int x1), (2, .int x2)] [] σ 0 0 (mQ X 0 0 (qI Q)) := by
  refine g_iload_n hC dX10_likes_0 rfl ?_
  refine g_aload_n hC dX10_likes_1 rfl ?_
  obtain ⟨ci101, hly, htg, hw⟩ := hw
  refine g_getiv (v := (mI σ a0 1)) hC (fly_X10_11 hly) htg rfl dX10_likes_2 ?_
  refine g_iconst (v := 3) hC dX10_likes_5 (by decide) ?_
  refine g_irem hC dX10_likes_6 (by decide) ?_
  refine g_icmp_ge (tgt := 14) hC dX10_likes_7 rfl (fun c => ?_) (fun c => ?_)
  · replace hw := hw.1 c
    refine g_iconst (v := 0) hC dX10_likes_14 (by decide) ?_
    exact g_iret hC bz0 (by decide) (by decide) dX10_likes_15 (fun _ => ⟨_, rfl, hw⟩)
  · replace hw := hw.2 c
    refine g_iconst (v := 1) hC dX10_likes_10 (by decide) ?_
    refine g_goto (tgt := 15) hC dX10_likes_11 rfl ?_
    exact g_iret hC bz1 (by decide) (by decide) dX10_likes_15 (fun _ => ⟨_, rfl, hw⟩)
set_option maxRecDepth 4000 in
theorem c_X10_likes {Z : Fx} {ps ts : List (Nat × Nat × Nat)} {d : Nat} (hd : 0 ≤ d) {σ : Mem} {a0 : Nat} {x1 : Int32} {x2 : Int32} {Q : Int32 → Mem → Prop} (hw : w_X10_likes σ a0 x1 x2 Q) : mM Z ps ts yX10_likes cX10_likes 3 (some .boolean) d 0 0 [.ref (Z.2.2 + a0), .int x1, .int x2] σ (qI Q) := by
  refine mM.of (by decide) (Nat.le_of_ble_eq_true rfl) rfl (fun X hZ hp ht hn hC => ?_)
  subst hZ; subst hp; subst ht
  exact t_X10_likes hC hd (fun i h => by rw [hn]; exact h) hw
def w_X3_init (σ : Mem) (a0 : Nat) (x1 : Int32) (x2 : Int32) (Q : Mem → Prop) : Prop := (∃ ci102 : Nat, lyK ci102 ∧ mT σ a0 = some (ci102, 0) ∧ ((∃ ci101 : Nat, lyK ci101 ∧ mT σ a0 = some (ci101, 0) ∧ (Q (sI (sI σ a0 0 x1) a0 1 x2)))))
set_option maxRecDepth 4000 in
set_option maxHeartbeats 2000000 in
theorem t_X3_init {X : Cx} {d : Nat} {a0 : Nat} (hC : mOK X cX3_init RX3 "<init>" none d 0 0) (hd : 1 ≤ d) (hN : ∀ i, i < 3 → i < xN X) (hz : ∀ e ∈ xP X, e.1 ≠ a0) {σ : Mem} {x1 : Int32} {x2 : Int32} {Q : Mem → Prop} (hw : w_X3_init σ a0 x1 x2 Q) : mG X 0 [(0, .ref (xB X + a0)), (1, .int x1), (2, .int x2)] [] σ 0 0 (mQ X 0 0 (qV Q)) := by
  refine g_aload_n hC dX3_init_0 rfl ?_
  refine g_objInit hC tw_36 tw_39 tw_40 (Nat.le_of_ble_eq_true rfl) (by omega) dX3_init_1 ?_
  refine g_aload_n hC dX3_init_4 rfl ?_
  refine g_iload_n hC dX3_init_5 rfl ?_
  obtain ⟨ci102, hly, htg, hw⟩ := hw
  refine g_putI hC (fwly_X3_7 hly).1 htg (by rw [(fwly_X3_7 hly).2.1]; rfl) (by rw [(fwly_X3_7 hly).2.2]; rfl) dX3_init_6 ?_
  refine g_aload_n hC dX3_init_9 rfl ?_
  refine g_iload_n hC dX3_init_10 rfl ?_
  obtain ⟨ci101, hly, htg, hw⟩ := hw
  refine g_putI hC (fwly_X3_13 hly).1 htg (by rw [(fwly_X3_13 hly).2.1]; rfl) (by rw [(fwly_X3_13 hly).2.2]; rfl) dX3_init_11 ?_
  exact g_vret hC (by decide) (by decide) dX3_init_14 (fun _ => ⟨rfl, hw⟩)
set_option maxRecDepth 4000 in
theorem c_X3_init {Z : Fx} {ps ts : List (Nat × Nat × Nat)} {d : Nat} (hd : 1 ≤ d) {a0 : Nat} (hz : ∀ e ∈ ps, e.1 ≠ a0) {σ : Mem} {x1 : Int32} {x2 : Int32} {Q : Mem → Prop} (hw : w_X3_init σ a0 x1 x2 Q) : mM Z ps ts yX3_init cX3_init 3 none d 0 0 [.ref (Z.2.2 + a0), .int x1, .int x2] σ (qV Q) := by
  refine mM.of (by decide) (Nat.le_of_ble_eq_true rfl) rfl (fun X hZ hp ht hn hC => ?_)
  subst hZ; subst hp; subst ht
  exact t_X3_init hC hd (fun i h => by rw [hn]; exact h) hz hw
def w_X4_init (σ : Mem) (a0 : Nat) (x1 : Int32) (x2 : Int32) (Q : Mem → Prop) : Prop := w_X3_init σ a0 x1 x2 (fun s103 => Q s103)
set_option maxRecDepth 4000 in
set_option maxHeartbeats 2000000 in
theorem t_X4_init {X : Cx} {d : Nat} {a0 : Nat} (hC : mOK X cX4_init RX4 "<init>" none d 0 0) (hd : 2 ≤ d) (hN : ∀ i, i < 3 → i < xN X) (hz : ∀ e ∈ xP X, e.1 ≠ a0) {σ : Mem} {x1 : Int32} {x2 : Int32} {Q : Mem → Prop} (hw : w_X4_init σ a0 x1 x2 Q) : mG X 0 [(0, .ref (xB X + a0)), (1, .int x1), (2, .int x2)] [] σ 0 0 (mQ X 0 0 (qV Q)) := by
  refine g_aload_n hC dX4_init_0 rfl ?_
  refine g_iload_n hC dX4_init_1 rfl ?_
  refine g_iload_n hC dX4_init_2 rfl ?_
  refine mG.st (st1 := ([.int x1, .int x2] : List Value).reverse ++ .ref (xB X + a0) :: []) rfl ?_
  refine g_callI (As := [.int x1, .int x2]) (st := []) hC yw_X3_init yi_X3_init tw_35 dX4_init_3 (fun _ h => h) (fun _ h => h) (fun h => h) (c_X3_init (d := 1) (Nat.le_refl _) hz hw) rfl (Nat.le_of_ble_eq_true rfl) (by omega) (by decide) (by decide) (kV fun s103 hw => ?_)
  exact g_vret hC (by decide) (by decide) dX4_init_6 (fun _ => ⟨rfl, hw⟩)
set_option maxRecDepth 4000 in
theorem c_X4_init {Z : Fx} {ps ts : List (Nat × Nat × Nat)} {d : Nat} (hd : 2 ≤ d) {a0 : Nat} (hz : ∀ e ∈ ps, e.1 ≠ a0) {σ : Mem} {x1 : Int32} {x2 : Int32} {Q : Mem → Prop} (hw : w_X4_init σ a0 x1 x2 Q) : mM Z ps ts yX4_init cX4_init 3 none d 0 0 [.ref (Z.2.2 + a0), .int x1, .int x2] σ (qV Q) := by
  refine mM.of (by decide) (Nat.le_of_ble_eq_true rfl) rfl (fun X hZ hp ht hn hC => ?_)
  subst hZ; subst hp; subst ht
  exact t_X4_init hC hd (fun i h => by rw [hn]; exact h) hz hw
def w_X0_init (σ : Mem) (a0 : Nat) (x1 : Int32) (x2 : Int32) (Q : Mem → Prop) : Prop := w_X3_init σ a0 x1 x2 (fun s103 => Q s103)
set_option maxRecDepth 4000 in
set_option maxHeartbeats 2000000 in
theorem t_X0_init {X : Cx} {d : Nat} {a0 : Nat} (hC : mOK X cX0_init RX0 "<init>" none d 0 0) (hd : 2 ≤ d) (hN : ∀ i, i < 3 → i < xN X) (hz : ∀ e ∈ xP X, e.1 ≠ a0) {σ : Mem} {x1 : Int32} {x2 : Int32} {Q : Mem → Prop} (hw : w_X0_init σ a0 x1 x2 Q) : mG X 0 [(0, .ref (xB X + a0)), (1, .int x1), (2, .int x2)] [] σ 0 0 (mQ X 0 0 (qV Q)) := by
  refine g_aload_n hC dX0_init_0 rfl ?_
  refine g_iload_n hC dX0_init_1 rfl ?_
  refine g_iload_n hC dX0_init_2 rfl ?_
  refine mG.st (st1 := ([.int x1, .int x2] : List Value).reverse ++ .ref (xB X + a0) :: []) rfl ?_
  refine g_callI (As := [.int x1, .int x2]) (st := []) hC yw_X3_init yi_X3_init tw_49 dX0_init_3 (fun _ h => h) (fun _ h => h) (fun h => h) (c_X3_init (d := 1) (Nat.le_refl _) hz hw) rfl (Nat.le_of_ble_eq_true rfl) (by omega) (by decide) (by decide) (kV fun s103 hw => ?_)
  exact g_vret hC (by decide) (by decide) dX0_init_6 (fun _ => ⟨rfl, hw⟩)
set_option maxRecDepth 4000 in
theorem c_X0_init {Z : Fx} {ps ts : List (Nat × Nat × Nat)} {d : Nat} (hd : 2 ≤ d) {a0 : Nat} (hz : ∀ e ∈ ps, e.1 ≠ a0) {σ : Mem} {x1 : Int32} {x2 : Int32} {Q : Mem → Prop} (hw : w_X0_init σ a0 x1 x2 Q) : mM Z ps ts yX0_init cX0_init 3 none d 0 0 [.ref (Z.2.2 + a0), .int x1, .int x2] σ (qV Q) := by
  refine mM.of (by decide) (Nat.le_of_ble_eq_true rfl) rfl (fun X hZ hp ht hn hC => ?_)
  subst hZ; subst hp; subst ht
  exact t_X0_init hC hd (fun i h => by rw [hn]; exact h) hz hw
def w_X2_init (σ : Mem) (a0 : Nat) (x1 : Int32) (x2 : Int32) (Q : Mem → Prop) : Prop := w_X4_init σ a0 x1 x2 (fun s103 => Q s103)
set_option maxRecDepth 4000 in
set_option maxHeartbeats 2000000 in
theorem t_X2_init {X : Cx} {d : Nat} {a0 : Nat} (hC : mOK X cX2_init RX2 "<init>" none d 0 0) (hd : 3 ≤ d) (hN : ∀ i, i < 3 → i < xN X) (hz : ∀ e ∈ xP X, e.1 ≠ a0) {σ : Mem} {x1 : Int32} {x2 : Int32} {Q : Mem → Prop} (hw : w_X2_init σ a0 x1 x2 Q) : mG X 0 [(0, .ref (xB X + a0)), (1, .int x1), (2, .int x2)] [] σ 0 0 (mQ X 0 0 (qV Q)) := by
  refine g_aload_n hC dX2_init_0 rfl ?_
  refine g_iload_n hC dX2_init_1 rfl ?_
  refine g_iload_n hC dX2_init_2 rfl ?_
  refine mG.st (st1 := ([.int x1, .int x2] : List Value).reverse ++ .ref (xB X + a0) :: []) rfl ?_
  refine g_callI (As := [.int x1, .int x2]) (st := []) hC yw_X4_init yi_X4_init tw_55 dX2_init_3 (fun _ h => h) (fun _ h => h) (fun h => h) (c_X4_init (d := 2) (Nat.le_refl _) hz hw) rfl (Nat.le_of_ble_eq_true rfl) (by omega) (by decide) (by decide) (kV fun s103 hw => ?_)
  exact g_vret hC (by decide) (by decide) dX2_init_6 (fun _ => ⟨rfl, hw⟩)
set_option maxRecDepth 4000 in
theorem c_X2_init {Z : Fx} {ps ts : List (Nat × Nat × Nat)} {d : Nat} (hd : 3 ≤ d) {a0 : Nat} (hz : ∀ e ∈ ps, e.1 ≠ a0) {σ : Mem} {x1 : Int32} {x2 : Int32} {Q : Mem → Prop} (hw : w_X2_init σ a0 x1 x2 Q) : mM Z ps ts yX2_init cX2_init 3 none d 0 0 [.ref (Z.2.2 + a0), .int x1, .int x2] σ (qV Q) := by
  refine mM.of (by decide) (Nat.le_of_ble_eq_true rfl) rfl (fun X hZ hp ht hn hC => ?_)
  subst hZ; subst hp; subst ht
  exact t_X2_init hC hd (fun i h => by rw [hn]; exact h) hz hw
def w_X10_init (σ : Mem) (a0 : Nat) (x1 : Int32) (x2 : Int32) (Q : Mem → Prop) : Prop := w_X0_init σ a0 x1 x2 (fun s103 => Q s103)
set_option maxRecDepth 4000 in
set_option maxHeartbeats 2000000 in
theorem t_X10_init {X : Cx} {d : Nat} {a0 : Nat} (hC : mOK X cX10_init RX10 "<init>" none d 0 0) (hd : 3 ≤ d) (hN : ∀ i, i < 3 → i < xN X) (hz : ∀ e ∈ xP X, e.1 ≠ a0) {σ : Mem} {x1 : Int32} {x2 : Int32} {Q : Mem → Prop} (hw : w_X10_init σ a0 x1 x2 Q) : mG X 0 [(0, .ref (xB X + a0)), (1, .int x1), (2, .int x2)] [] σ 0 0 (mQ X 0 0 (qV Q)) := by
  refine g_aload_n hC dX10_init_0 rfl ?_
  refine g_iload_n hC dX10_init_1 rfl ?_
  refine g_iload_n hC dX10_init_2 rfl ?_
  refine mG.st (st1 := ([.int x1, .int x2] : List Value).reverse ++ .ref (xB X + a0) :: []) rfl ?_
  refine g_callI (As := [.int x1, .int x2]) (st := []) hC yw_X0_init yi_X0_init tw_62 dX10_init_3 (fun _ h => h) (fun _ h => h) (fun h => h) (c_X0_init (d := 2) (Nat.le_refl _) hz hw) rfl (Nat.le_of_ble_eq_true rfl) (by omega) (by decide) (by decide) (kV fun s103 hw => ?_)
  exact g_vret hC (by decide) (by decide) dX10_init_6 (fun _ => ⟨rfl, hw⟩)
set_option maxRecDepth 4000 in
theorem c_X10_init {Z : Fx} {ps ts : List (Nat × Nat × Nat)} {d : Nat} (hd : 3 ≤ d) {a0 : Nat} (hz : ∀ e ∈ ps, e.1 ≠ a0) {σ : Mem} {x1 : Int32} {x2 : Int32} {Q : Mem → Prop} (hw : w_X10_init σ a0 x1 x2 Q) : mM Z ps ts yX10_init cX10_init 3 none d 0 0 [.ref (Z.2.2 + a0), .int x1, .int x2] σ (qV Q) := by
  refine mM.of (by decide) (Nat.le_of_ble_eq_true rfl) rfl (fun X hZ hp ht hn hC => ?_)
  subst hZ; subst hp; subst ht
  exact t_X10_init hC hd (fun i h => by rw [hn]; exact h) hz hw
def w_X8_init (σ : Mem) (a0 : Nat) (x1 : Int32) (x2 : Int32) (Q : Mem → Prop) : Prop := w_X4_init σ a0 x1 x2 (fun s103 => Q s103)
set_option maxRecDepth 4000 in
set_option maxHeartbeats 2000000 in
theorem t_X8_init {X : Cx} {d : Nat} {a0 : Nat} (hC : mOK X cX8_init RX8 "<init>" none d 0 0) (hd : 3 ≤ d) (hN : ∀ i, i < 3 → i < xN X) (hz : ∀ e ∈ xP X, e.1 ≠ a0) {σ : Mem} {x1 : Int32} {x2 : Int32} {Q : Mem → Prop} (hw : w_X8_init σ a0 x1 x2 Q) : mG X 0 [(0, .ref (xB X + a0)), (1, .int x1), (2, .int x2)] [] σ 0 0 (mQ X 0 0 (qV Q)) := by
  refine g_aload_n hC dX8_init_0 rfl ?_
  refine g_iload_n hC dX8_init_1 rfl ?_
  refine g_iload_n hC dX8_init_2 rfl ?_
  refine mG.st (st1 := ([.int x1, .int x2] : List Value).reverse ++ .ref (xB X + a0) :: []) rfl ?_
  refine g_callI (As := [.int x1, .int x2]) (st := []) hC yw_X4_init yi_X4_init tw_69 dX8_init_3 (fun _ h => h) (fun _ h => h) (fun h => h) (c_X4_init (d := 2) (Nat.le_refl _) hz hw) rfl (Nat.le_of_ble_eq_true rfl) (by omega) (by decide) (by decide) (kV fun s103 hw => ?_)
  exact g_vret hC (by decide) (by decide) dX8_init_6 (fun _ => ⟨rfl, hw⟩)
set_option maxRecDepth 4000 in
theorem c_X8_init {Z : Fx} {ps ts : List (Nat × Nat × Nat)} {d : Nat} (hd : 3 ≤ d) {a0 : Nat} (hz : ∀ e ∈ ps, e.1 ≠ a0) {σ : Mem} {x1 : Int32} {x2 : Int32} {Q : Mem → Prop} (hw : w_X8_init σ a0 x1 x2 Q) : mM Z ps ts yX8_init cX8_init 3 none d 0 0 [.ref (Z.2.2 + a0), .int x1, .int x2] σ (qV Q) := by
  refine mM.of (by decide) (Nat.le_of_ble_eq_true rfl) rfl (fun X hZ hp ht hn hC => ?_)
  subst hZ; subst hp; subst ht
  exact t_X8_init hC hd (fun i h => by rw [hn]; exact h) hz hw
def w_X6_about (σ : Mem) (a0 : Nat) (x1 : Int32) (x2 : Int32) (x3 : Int32) (x4 : Int32) (x5 : Int32) (x6 : Int32) (Q : Mem → Prop) : Prop := mT σ a0 = some (6, 0) ∧ ∃ r101 : Nat, (mP σ a0 3) = some r101 ∧ (∃ n102 : Nat, mT σ r101 = some (14, n102) ∧ vp_in 0 n102 ∧ (mT σ a0 = some (6, 0) ∧ ∃ r103 : Nat, (mP σ a0 3) = some r103 ∧ (∃ n104 : Nat, mT σ r103 = some (14, n104) ∧ vp_in 1 n104 ∧ (mT σ a0 = some (6, 0) ∧ ∃ r105 : Nat, (mP σ a0 3) = some r105 ∧ (∃ n106 : Nat, mT σ r105 = some (14, n106) ∧ vp_in 2 n106 ∧ (mT σ a0 = some (6, 0) ∧ ∃ r107 : Nat, (mP σ a0 3) = some r107 ∧ (∃ n108 : Nat, mT σ r107 = some (14, n108) ∧ vp_in 3 n108 ∧ (mT σ a0 = some (6, 0) ∧ ∃ r109 : Nat, (mP σ a0 3) = some r109 ∧ (∃ n110 : Nat, mT σ r109 = some (14, n110) ∧ vp_in 4 n110 ∧ (mT σ a0 = some (6, 0) ∧ ∃ r111 : Nat, (mP σ a0 3) = some r111 ∧ (∃ n112 : Nat, mT σ r111 = some (14, n112) ∧ vp_in 5 n112 ∧ (Q (sI (sI (sI (sI (sI (sI σ r101 0 x1) r103 1 x2) r105 2 x3) r107 3 x4) r109 4 x5) r111 5 x6)))))))))))))
set_option maxRecDepth 4000 in
set_option maxHeartbeats 2000000 in
theorem t_X6_about {X : Cx} {d : Nat} (hC : mOK X cX6_about RX6 "about" none d 0 0) (hd : 0 ≤ d) (hN : ∀ i, i < 7 → i < xN X) {σ : Mem} {a0 : Nat} {x1 : Int32} {x2 : Int32} {x3 : Int32} {x4 : Int32} {x5 : Int32} {x6 : Int32} {Q : Mem → Prop} (hw : w_X6_about σ a0 x1 x2 x3 x4 x5 x6 Q) : mG X 0 [(0, .ref (xB X + a0)), (1, .int x1), (2, .int x2), (3, .int x3), (4, .int x4), (5, .int x5), (6, .int x6)] [] σ 0 0 (mQ X 0 0 (qV Q)) := by
  refine g_aload_n hC dX6_about_0 rfl ?_
  obtain ⟨htg, r101, hpt, hw⟩ := hw
  refine g_getr hC fl_X6_9_6.s htg hpt dX6_about_1 ?_
  refine g_iconst (v := 0) hC dX6_about_4 (by decide) ?_
  refine g_iload_n hC dX6_about_5 rfl ?_
  obtain ⟨n102, htg, hw⟩ := hw
  have hin := hw.1
  replace hw := hw.2
  refine g_iastK (k := 0) hC htg (by decide) hin dX6_about_6 ?_
  refine g_aload_n hC dX6_about_7 rfl ?_
  obtain ⟨htg, r103, hpt, hw⟩ := hw
  refine g_getr hC fl_X6_9_6.s htg hpt dX6_about_8 ?_
  refine g_iconst (v := 1) hC dX6_about_11 (by decide) ?_
  refine g_iload_n hC dX6_about_12 rfl ?_
  obtain ⟨n104, htg, hw⟩ := hw
  have hin := hw.1
  replace hw := hw.2
  refine g_iastK (k := 1) hC htg (by decide) hin dX6_about_13 ?_
  refine g_aload_n hC dX6_about_14 rfl ?_
  obtain ⟨htg, r105, hpt, hw⟩ := hw
  refine g_getr hC fl_X6_9_6.s htg hpt dX6_about_15 ?_
  refine g_iconst (v := 2) hC dX6_about_18 (by decide) ?_
  refine g_iload_n hC dX6_about_19 rfl ?_
  obtain ⟨n106, htg, hw⟩ := hw
  have hin := hw.1
  replace hw := hw.2
  refine g_iastK (k := 2) hC htg (by decide) hin dX6_about_20 ?_
  refine g_aload_n hC dX6_about_21 rfl ?_
  obtain ⟨htg, r107, hpt, hw⟩ := hw
  refine g_getr hC fl_X6_9_6.s htg hpt dX6_about_22 ?_
  refine g_iconst (v := 3) hC dX6_about_25 (by decide) ?_
  refine g_iload hC dX6_about_26 rfl ?_
  obtain ⟨n108, htg, hw⟩ := hw
  have hin := hw.1
  replace hw := hw.2
  refine g_iastK (k := 3) hC htg (by decide) hin dX6_about_28 ?_
  refine g_aload_n hC dX6_about_29 rfl ?_
  obtain ⟨htg, r109, hpt, hw⟩ := hw
  refine g_getr hC fl_X6_9_6.s htg hpt dX6_about_30 ?_
  refine g_iconst (v := 4) hC dX6_about_33 (by decide) ?_
  refine g_iload hC dX6_about_34 rfl ?_
  obtain ⟨n110, htg, hw⟩ := hw
  have hin := hw.1
  replace hw := hw.2
  refine g_iastK (k := 4) hC htg (by decide) hin dX6_about_36 ?_
  refine g_aload_n hC dX6_about_37 rfl ?_
  obtain ⟨htg, r111, hpt, hw⟩ := hw
  refine g_getr hC fl_X6_9_6.s htg hpt dX6_about_38 ?_
  refine g_iconst (v := 5) hC dX6_about_41 (by decide) ?_
  refine g_iload hC dX6_about_42 rfl ?_
  obtain ⟨n112, htg, hw⟩ := hw
  have hin := hw.1
  replace hw := hw.2
  refine g_iastK (k := 5) hC htg (by decide) hin dX6_about_44 ?_
  exact g_vret hC (by decide) (by decide) dX6_about_45 (fun _ => ⟨rfl, hw⟩)
set_option maxRecDepth 4000 in
theorem c_X6_about {Z : Fx} {ps ts : List (Nat × Nat × Nat)} {d : Nat} (hd : 0 ≤ d) {σ : Mem} {a0 : Nat} {x1 : Int32} {x2 : Int32} {x3 : Int32} {x4 : Int32} {x5 : Int32} {x6 : Int32} {Q : Mem → Prop} (hw : w_X6_about σ a0 x1 x2 x3 x4 x5 x6 Q) : mM Z ps ts yX6_about cX6_about 7 none d 0 0 [.ref (Z.2.2 + a0), .int x1, .int x2, .int x3, .int x4, .int x5, .int x6] σ (qV Q) := by
  refine mM.of (by decide) (Nat.le_of_ble_eq_true rfl) rfl (fun X hZ hp ht hn hC => ?_)
  subst hZ; subst hp; subst ht
  exact t_X6_about hC hd (fun i h => by rw [hn]; exact h) hw
def w_X6_joined (σ : Mem) (x0 : Int32) (x1 : Int32) (x2 : Int32) (Q : Int32 → Mem → Prop) : Prop := (x0 = (-17) → (Q (x1 * x2) σ)) ∧ (x0 = (-16) → (Q (x1 - x2) σ)) ∧ (x0 = (-15) → (Q (x1 + x2) σ)) ∧ (x0 = (-14) → ((¬ x1 = x2 → (Q 0 σ)) ∧ (x1 = x2 → (Q 1 σ)))) ∧ (x0 = (-13) → ((x2 ≤ x1 → (Q 0 σ)) ∧ (¬ x2 ≤ x1 → (Q 1 σ)))) ∧ (x0 = (-12) → ((x1 = 0 → (Q 0 σ)) ∧ (¬ x1 = 0 → ((x2 = 0 → (Q 0 σ)) ∧ (¬ x2 = 0 → (Q 1 σ)))))) ∧ (x0 = (-11) → ((¬ x1 = 0 → (Q 1 σ)) ∧ (x1 = 0 → ((x2 = 0 → (Q 0 σ)) ∧ (¬ x2 = 0 → (Q 1 σ)))))) ∧ (¬ x0 = (-17) → ¬ x0 = (-16) → ¬ x0 = (-15) → ¬ x0 = (-14) → ¬ x0 = (-13) → ¬ x0 = (-12) → ¬ x0 = (-11) → (Q 0 σ))
set_option maxRecDepth 4000 in
set_option maxHeartbeats 2000000 in
theorem t_X6_joined {X : Cx} {d : Nat} (hC : mOK X cX6_joined RX6 "joined" (some .int) d 0 0) (hd : 0 ≤ d) (hN : ∀ i, i < 3 → i < xN X) {σ : Mem} {x0 : Int32} {x1 : Int32} {x2 : Int32} {Q : Int32 → Mem → Prop} (hw : w_X6_joined σ x0 x1 x2 Q) : mG X 0 [(0, .int x0), (1, .int x1), (2, .int x2)] [] σ 0 0 (mQ X 0 0 (qI Q)) := by
  refine g_iload_n hC dX6_joined_0 rfl ?_
  by_cases c0 : x0 = (-17)
  · replace hw := hw.1 c0
    refine g_tableIn (tgt := 102) hC dX6_joined_1 (-17) c0 (by decide) (by decide) rfl rfl ?_
    refine g_iload_n hC dX6_joined_102 rfl ?_
    refine g_iload_n hC dX6_joined_103 rfl ?_
    refine g_imul hC dX6_joined_104 ?_
    exact g_iret hC rfl (by decide) (by decide) dX6_joined_105 (fun _ => ⟨_, rfl, hw⟩)
  by_cases c1 : x0 = (-16)
  · replace hw := hw.2.1 c1
    refine g_tableIn (tgt := 98) hC dX6_joined_1 (-16) c1 (by decide) (by decide) rfl rfl ?_
    refine g_iload_n hC dX6_joined_98 rfl ?_
    refine g_iload_n hC dX6_joined_99 rfl ?_
    refine g_isub hC dX6_joined_100 ?_
    exact g_iret hC rfl (by decide) (by decide) dX6_joined_101 (fun _ => ⟨_, rfl, hw⟩)
  by_cases c2 : x0 = (-15)
  · replace hw := hw.2.2.1 c2
    refine g_tableIn (tgt := 94) hC dX6_joined_1 (-15) c2 (by decide) (by decide) rfl rfl ?_
    refine g_iload_n hC dX6_joined_94 rfl ?_
    refine g_iload_n hC dX6_joined_95 rfl ?_
    refine g_iadd hC dX6_joined_96 ?_
    exact g_iret hC rfl (by decide) (by decide) dX6_joined_97 (fun _ => ⟨_, rfl, hw⟩)
  by_cases c3 : x0 = (-14)
  · replace hw := hw.2.2.2.1 c3
    refine g_tableIn (tgt := 83) hC dX6_joined_1 (-14) c3 (by decide) (by decide) rfl rfl ?_
    refine g_iload_n hC dX6_joined_83 rfl ?_
    refine g_iload_n hC dX6_joined_84 rfl ?_
    refine g_icmp_ne (tgt := 92) hC dX6_joined_85 rfl (fun c => ?_) (fun c => ?_)
    · replace hw := hw.1 c
      refine g_iconst (v := 0) hC dX6_joined_92 (by decide) ?_
      exact g_iret hC rfl (by decide) (by decide) dX6_joined_93 (fun _ => ⟨_, rfl, hw⟩)
    · replace hw := hw.2 c
      refine g_iconst (v := 1) hC dX6_joined_88 (by decide) ?_
      refine g_goto (tgt := 93) hC dX6_joined_89 rfl ?_
      exact g_iret hC rfl (by decide) (by decide) dX6_joined_93 (fun _ => ⟨_, rfl, hw⟩)
  by_cases c4 : x0 = (-13)
  · replace hw := hw.2.2.2.2.1 c4
    refine g_tableIn (tgt := 72) hC dX6_joined_1 (-13) c4 (by decide) (by decide) rfl rfl ?_
    refine g_iload_n hC dX6_joined_72 rfl ?_
    refine g_iload_n hC dX6_joined_73 rfl ?_
    refine g_icmp_ge (tgt := 81) hC dX6_joined_74 rfl (fun c => ?_) (fun c => ?_)
    · replace hw := hw.1 c
      refine g_iconst (v := 0) hC dX6_joined_81 (by decide) ?_
      exact g_iret hC rfl (by decide) (by decide) dX6_joined_82 (fun _ => ⟨_, rfl, hw⟩)
    · replace hw := hw.2 c
      refine g_iconst (v := 1) hC dX6_joined_77 (by decide) ?_
      refine g_goto (tgt := 82) hC dX6_joined_78 rfl ?_
      exact g_iret hC rfl (by decide) (by decide) dX6_joined_82 (fun _ => ⟨_, rfl, hw⟩)
  by_cases c5 : x0 = (-12)
  · replace hw := hw.2.2.2.2.2.1 c5
    refine g_tableIn (tgt := 58) hC dX6_joined_1 (-12) c5 (by decide) (by decide) rfl rfl ?_
    refine g_iload_n hC dX6_joined_58 rfl ?_
    refine g_if_eq (tgt := 70) hC dX6_joined_59 rfl (fun c => ?_) (fun c => ?_)
    · replace hw := hw.1 c
      refine g_iconst (v := 0) hC dX6_joined_70 (by decide) ?_
      exact g_iret hC rfl (by decide) (by decide) dX6_joined_71 (fun _ => ⟨_, rfl, hw⟩)
    · replace hw := hw.2 c
      refine g_iload_n hC dX6_joined_62 rfl ?_
      refine g_if_eq (tgt := 70) hC dX6_joined_63 rfl (fun c => ?_) (fun c => ?_)
      · replace hw := hw.1 c
        refine g_iconst (v := 0) hC dX6_joined_70 (by decide) ?_
        exact g_iret hC rfl (by decide) (by decide) dX6_joined_71 (fun _ => ⟨_, rfl, hw⟩)
      · replace hw := hw.2 c
        refine g_iconst (v := 1) hC dX6_joined_66 (by decide) ?_
        refine g_goto (tgt := 71) hC dX6_joined_67 rfl ?_
        exact g_iret hC rfl (by decide) (by decide) dX6_joined_71 (fun _ => ⟨_, rfl, hw⟩)
  by_cases c6 : x0 = (-11)
  · replace hw := hw.2.2.2.2.2.2.1 c6
    refine g_tableIn (tgt := 44) hC dX6_joined_1 (-11) c6 (by decide) (by decide) rfl rfl ?_
    refine g_iload_n hC dX6_joined_44 rfl ?_
    refine g_if_ne (tgt := 52) hC dX6_joined_45 rfl (fun c => ?_) (fun c => ?_)
    · replace hw := hw.1 c
      refine g_iconst (v := 1) hC dX6_joined_52 (by decide) ?_
      refine g_goto (tgt := 57) hC dX6_joined_53 rfl ?_
      exact g_iret hC rfl (by decide) (by decide) dX6_joined_57 (fun _ => ⟨_, rfl, hw⟩)
    · replace hw := hw.2 c
      refine g_iload_n hC dX6_joined_48 rfl ?_
      refine g_if_eq (tgt := 56) hC dX6_joined_49 rfl (fun c => ?_) (fun c => ?_)
      · replace hw := hw.1 c
        refine g_iconst (v := 0) hC dX6_joined_56 (by decide) ?_
        exact g_iret hC rfl (by decide) (by decide) dX6_joined_57 (fun _ => ⟨_, rfl, hw⟩)
      · replace hw := hw.2 c
        refine g_iconst (v := 1) hC dX6_joined_52 (by decide) ?_
        refine g_goto (tgt := 57) hC dX6_joined_53 rfl ?_
        exact g_iret hC rfl (by decide) (by decide) dX6_joined_57 (fun _ => ⟨_, rfl, hw⟩)
  replace hw := hw.2.2.2.2.2.2.2 c0 c1 c2 c3 c4 c5 c6
  refine g_tableOut (tgt := 106) hC dX6_joined_1 (sw_out (-17) (-11) x0 (by decide) [(-17), (-16), (-15), (-14), (-13), (-12), (-11)] (by decide) (List.forall_mem_cons.mpr ⟨c0, (List.forall_mem_cons.mpr ⟨c1, (List.forall_mem_cons.mpr ⟨c2, (List.forall_mem_cons.mpr ⟨c3, (List.forall_mem_cons.mpr ⟨c4, (List.forall_mem_cons.mpr ⟨c5, (List.forall_mem_cons.mpr ⟨c6, (fun k h => absurd h List.not_mem_nil)⟩)⟩)⟩)⟩)⟩)⟩)⟩)) rfl ?_
  refine g_iconst (v := 0) hC dX6_joined_106 (by decide) ?_
  exact g_iret hC rfl (by decide) (by decide) dX6_joined_107 (fun _ => ⟨_, rfl, hw⟩)
set_option maxRecDepth 4000 in
theorem c_X6_joined {Z : Fx} {ps ts : List (Nat × Nat × Nat)} {d : Nat} (hd : 0 ≤ d) {σ : Mem} {x0 : Int32} {x1 : Int32} {x2 : Int32} {Q : Int32 → Mem → Prop} (hw : w_X6_joined σ x0 x1 x2 Q) : mM Z ps ts yX6_joined cX6_joined 3 (some .int) d 0 0 [.int x0, .int x1, .int x2] σ (qI Q) := by
  refine mM.of (by decide) (Nat.le_of_ble_eq_true rfl) rfl (fun X hZ hp ht hn hC => ?_)
  subst hZ; subst hp; subst ht
  exact t_X6_joined hC hd (fun i h => by rw [hn]; exact h) hw
def w_X6_value_239 (Q : Int32 → Mem → Prop) (K64 : Nat → Int32 → Int32 → Int32 → Mem → Prop) (a0 : Nat) (x3 : Int32) (x4 : Int32) (x5 : Int32) (σ : Mem) : Prop := K64 a0 x3 x4 (x5 + 1) σ
set_option maxRecDepth 4000 in
set_option maxHeartbeats 2000000 in
theorem t_X6_value_239 {X : Cx} {d : Nat} (hC : mOK X cX6_value RX6 "value" (some .int) d 0 0) (hd : 1 ≤ d) (hN : ∀ i, i < 8 → i < xN X) {Q : Int32 → Mem → Prop} {K64 : Nat → Int32 → Int32 → Int32 → Mem → Prop} (hK64 : ∀ (a0 : Nat) (x3 : Int32) (x4 : Int32) (x5 : Int32) (s : Mem), K64 a0 x3 x4 x5 s → mG X 64 [(0, .ref (xB X + a0)), (3, .int x3), (4, .int x4), (5, .int x5)] [] s 0 0 (mQ X 0 0 (qI Q))) {a0 : Nat} {x3 : Int32} {x4 : Int32} {x5 : Int32} {σ : Mem} (hw : w_X6_value_239 Q K64 a0 x3 x4 x5 σ) : mG X 239 [(0, .ref (xB X + a0)), (3, .int x3), (4, .int x4), (5, .int x5)] [] σ 0 0 (mQ X 0 0 (qI Q)) := by
  refine g_iinc (v := x5 + 1) (lv' := [(5, .int (x5 + 1)), (0, .ref (xB X + a0)), (3, .int x3), (4, .int x4)]) hC dX6_value_239 rfl rfl (hN 5 (by decide)) rfl ?_
  refine g_goto (tgt := 64) hC dX6_value_242 rfl ?_
  refine mG.pick (lv' := [(0, .ref (xB X + a0)), (3, .int x3), (4, .int x4), (5, .int (x5 + 1))]) [1, 2, 3, 0] rfl ?_
  exact hK64 _ _ _ _ _ hw
def w_X6_value_194 (Q : Int32 → Mem → Prop) (K64 : Nat → Int32 → Int32 → Int32 → Mem → Prop) (a0 : Nat) (x3 : Int32) (x4 : Int32) (x5 : Int32) (xy0 : Int32) (xy1 : Int32) (ay2 : Nat) (σ : Mem) : Prop := ∃ n101 : Nat, mT σ ay2 = some (14, n101) ∧ vp_in xy1 n101 ∧ (w_X6_value_239 Q K64 a0 x3 x4 x5 (sI σ ay2 (Int32.toNatClampNeg xy1) xy0))
set_option maxRecDepth 4000 in
set_option maxHeartbeats 2000000 in
theorem t_X6_value_194 {X : Cx} {d : Nat} (hC : mOK X cX6_value RX6 "value" (some .int) d 0 0) (hd : 1 ≤ d) (hN : ∀ i, i < 8 → i < xN X) {Q : Int32 → Mem → Prop} {K64 : Nat → Int32 → Int32 → Int32 → Mem → Prop} (hK64 : ∀ (a0 : Nat) (x3 : Int32) (x4 : Int32) (x5 : Int32) (s : Mem), K64 a0 x3 x4 x5 s → mG X 64 [(0, .ref (xB X + a0)), (3, .int x3), (4, .int x4), (5, .int x5)] [] s 0 0 (mQ X 0 0 (qI Q))) {a0 : Nat} {x3 : Int32} {x4 : Int32} {x5 : Int32} {xy0 : Int32} {xy1 : Int32} {ay2 : Nat} {σ : Mem} (hw : w_X6_value_194 Q K64 a0 x3 x4 x5 xy0 xy1 ay2 σ) : mG X 194 [(0, .ref (xB X + a0)), (3, .int x3), (4, .int x4), (5, .int x5)] [.int xy0, .int xy1, .ref (xB X + ay2)] σ 0 0 (mQ X 0 0 (qI Q)) := by
  obtain ⟨n101, htg, hw⟩ := hw
  have hin := hw.1
  replace hw := hw.2
  refine g_iastK (k := (Int32.toNatClampNeg xy1)) hC htg rfl hin dX6_value_194 ?_
  refine g_goto (tgt := 239) hC dX6_value_195 rfl ?_
  refine mG.pick (lv' := [(0, .ref (xB X + a0)), (3, .int x3), (4, .int x4), (5, .int x5)]) [0, 1, 2, 3] rfl ?_
  exact t_X6_value_239 hC hd hN hK64 hw
def w_X6_value_130 (Q : Int32 → Mem → Prop) (K64 : Nat → Int32 → Int32 → Int32 → Mem → Prop) (a0 : Nat) (x3 : Int32) (x4 : Int32) (x5 : Int32) (xy0 : Int32) (xy1 : Int32) (ay2 : Nat) (σ : Mem) : Prop := ∃ n101 : Nat, mT σ ay2 = some (14, n101) ∧ vp_in xy1 n101 ∧ (w_X6_value_239 Q K64 a0 x3 (x4 + 1) x5 (sI σ ay2 (Int32.toNatClampNeg xy1) xy0))
set_option maxRecDepth 4000 in
set_option maxHeartbeats 2000000 in
theorem t_X6_value_130 {X : Cx} {d : Nat} (hC : mOK X cX6_value RX6 "value" (some .int) d 0 0) (hd : 1 ≤ d) (hN : ∀ i, i < 8 → i < xN X) {Q : Int32 → Mem → Prop} {K64 : Nat → Int32 → Int32 → Int32 → Mem → Prop} (hK64 : ∀ (a0 : Nat) (x3 : Int32) (x4 : Int32) (x5 : Int32) (s : Mem), K64 a0 x3 x4 x5 s → mG X 64 [(0, .ref (xB X + a0)), (3, .int x3), (4, .int x4), (5, .int x5)] [] s 0 0 (mQ X 0 0 (qI Q))) {a0 : Nat} {x3 : Int32} {x4 : Int32} {x5 : Int32} {xy0 : Int32} {xy1 : Int32} {ay2 : Nat} {σ : Mem} (hw : w_X6_value_130 Q K64 a0 x3 x4 x5 xy0 xy1 ay2 σ) : mG X 130 [(0, .ref (xB X + a0)), (3, .int x3), (4, .int x4), (5, .int x5)] [.int xy0, .int xy1, .ref (xB X + ay2)] σ 0 0 (mQ X 0 0 (qI Q)) := by
  obtain ⟨n101, htg, hw⟩ := hw
  have hin := hw.1
  replace hw := hw.2
  refine g_iastK (k := (Int32.toNatClampNeg xy1)) hC htg rfl hin dX6_value_130 ?_
  refine g_iinc (v := x4 + 1) (lv' := [(4, .int (x4 + 1)), (0, .ref (xB X + a0)), (3, .int x3), (5, .int x5)]) hC dX6_value_131 rfl rfl (hN 4 (by decide)) rfl ?_
  refine g_goto (tgt := 239) hC dX6_value_134 rfl ?_
  refine mG.pick (lv' := [(0, .ref (xB X + a0)), (3, .int x3), (4, .int (x4 + 1)), (5, .int x5)]) [1, 2, 0, 3] rfl ?_
  exact t_X6_value_239 hC hd hN hK64 hw
def w_X6_value_64 (Q : Int32 → Mem → Prop) : Nat → Nat → Int32 → Int32 → Int32 → Mem → Prop
  | 0, _, _, _, _, _ => False
  | n + 1, a0, x3, x4, x5, σ => (x3 ≤ x5 → (mT σ a0 = some (6, 0) ∧ ∃ r101 : Nat, (mP σ a0 4) = some r101 ∧ (∃ n102 : Nat, mT σ r101 = some (14, n102) ∧ vp_in 0 n102 ∧ (Q (mI σ r101 0) σ)))) ∧ (¬ x3 ≤ x5 → (mT σ a0 = some (6, 0) ∧ ∃ r103 : Nat, (mP σ a0 0) = some r103 ∧ (∃ n104 : Nat, mT σ r103 = some (14, n104) ∧ (((nI n104) ≤ x5 → (mT σ a0 = some (6, 0) ∧ ∃ r105 : Nat, (mP σ a0 4) = some r105 ∧ (∃ n106 : Nat, mT σ r105 = some (14, n106) ∧ vp_in 0 n106 ∧ (Q (mI σ r105 0) σ)))) ∧ (¬ (nI n104) ≤ x5 → (mT σ a0 = some (6, 0) ∧ ∃ r107 : Nat, (mP σ a0 0) = some r107 ∧ (∃ n108 : Nat, mT σ r107 = some (14, n108) ∧ vp_in x5 n108 ∧ (∀ v109 : Int32, v109 = (mI σ r107 (Int32.toNatClampNeg x5)) → ((v109 < (-6) → (((-21) < v109 → ((2 ≤ x4 → (mT σ a0 = some (6, 0) ∧ ∃ r110 : Nat, (mP σ a0 4) = some r110 ∧ (mT σ a0 = some (6, 0) ∧ ∃ r111 : Nat, (mP σ a0 4) = some r111 ∧ (∃ n112 : Nat, mT σ r111 = some (14, n112) ∧ vp_in (x4 + (-1) - 1) n112 ∧ (mT σ a0 = some (6, 0) ∧ ∃ r113 : Nat, (mP σ a0 4) = some r113 ∧ (∃ n114 : Nat, mT σ r113 = some (14, n114) ∧ vp_in (x4 + (-1)) n114 ∧ (w_X6_joined σ v109 (mI σ r111 (Int32.toNatClampNeg (x4 + (-1) - 1))) (mI σ r113 (Int32.toNatClampNeg (x4 + (-1)))) (fun v115 s117 => ∃ n118 : Nat, mT s117 r110 = some (14, n118) ∧ vp_in (x4 + (-1) - 1) n118 ∧ (w_X6_value_239 Q (fun z0 z1 z2 z3 z4 => w_X6_value_64 Q n z0 z1 z2 z3 z4) a0 x3 (x4 + (-1)) x5 (sI s117 r110 (Int32.toNatClampNeg (x4 + (-1) - 1)) v115)))))))))) ∧ (¬ 2 ≤ x4 → (Q 0 σ)))) ∧ (¬ (-21) < v109 → ((1 ≤ x4 → (mT σ a0 = some (6, 0) ∧ ∃ r119 : Nat, (mP σ a0 4) = some r119 ∧ (∃ n120 : Nat, mT σ r119 = some (14, n120) ∧ vp_in (x4 - 1) n120 ∧ (∀ v121 : Int32, v121 = (mI σ r119 (Int32.toNatClampNeg (x4 - 1))) → (mT σ a0 = some (6, 0) ∧ ∃ r122 : Nat, (mP σ a0 4) = some r122 ∧ ((¬ v109 = (-22) → ((¬ v121 = 0 → (w_X6_value_194 Q (fun z0 z1 z2 z3 z4 => w_X6_value_64 Q n z0 z1 z2 z3 z4) a0 x3 x4 x5 0 (x4 - 1) r122 σ)) ∧ (v121 = 0 → (w_X6_value_194 Q (fun z0 z1 z2 z3 z4 => w_X6_value_64 Q n z0 z1 z2 z3 z4) a0 x3 x4 x5 1 (x4 - 1) r122 σ)))) ∧ (v109 = (-22) → (w_X6_value_194 Q (fun z0 z1 z2 z3 z4 => w_X6_value_64 Q n z0 z1 z2 z3 z4) a0 x3 x4 x5 (0 - v121) (x4 - 1) r122 σ)))))))) ∧ (¬ 1 ≤ x4 → (Q 0 σ)))))) ∧ (¬ v109 < (-6) → ((x4 < 40 → (mT σ a0 = some (6, 0) ∧ ∃ r123 : Nat, (mP σ a0 4) = some r123 ∧ ((v109 < 0 → (mT σ a0 = some (6, 0) ∧ ∃ r124 : Nat, (mP σ a0 3) = some r124 ∧ (∃ n125 : Nat, mT σ r124 = some (14, n125) ∧ vp_in ((-1) - v109) n125 ∧ (w_X6_value_130 Q (fun z0 z1 z2 z3 z4 => w_X6_value_64 Q n z0 z1 z2 z3 z4) a0 x3 x4 x5 (mI σ r124 (Int32.toNatClampNeg ((-1) - v109))) x4 r123 σ)))) ∧ (¬ v109 < 0 → (w_X6_value_130 Q (fun z0 z1 z2 z3 z4 => w_X6_value_64 Q n z0 z1 z2 z3 z4) a0 x3 x4 x5 v109 x4 r123 σ))))) ∧ (¬ x4 < 40 → (Q 0 σ)))))))))))))
set_option maxRecDepth 4000 in
set_option maxHeartbeats 2000000 in
theorem t_X6_value_64 {X : Cx} {d : Nat} (hC : mOK X cX6_value RX6 "value" (some .int) d 0 0) (hd : 1 ≤ d) (hN : ∀ i, i < 8 → i < xN X) {Q : Int32 → Mem → Prop} : ∀ (n : Nat) (a0 : Nat) (x3 : Int32) (x4 : Int32) (x5 : Int32) (σ : Mem), w_X6_value_64 Q n a0 x3 x4 x5 σ → mG X 64 [(0, .ref (xB X + a0)), (3, .int x3), (4, .int x4), (5, .int x5)] [] σ 0 0 (mQ X 0 0 (qI Q)) := by
  intro n
  induction n with
  | zero => intro a0 x3 x4 x5 σ hw; exact False.elim hw
  | succ n ih =>
    intro a0 x3 x4 x5 σ hw
    rw [w_X6_value_64] at hw
    refine g_iload hC dX6_value_64 rfl ?_
    refine g_iload_n hC dX6_value_66 rfl ?_
    refine g_icmp_ge (tgt := 245) hC dX6_value_67 rfl (fun c => ?_) (fun c => ?_)
    · replace hw := hw.1 c
      refine g_aload_n hC dX6_value_245 rfl ?_
      obtain ⟨htg, r101, hpt, hw⟩ := hw
      refine g_getr hC fl_X6_15_6.s htg hpt dX6_value_246 ?_
      refine g_iconst (v := 0) hC dX6_value_249 (by decide) ?_
      obtain ⟨n102, htg, hin, hw⟩ := hw
      refine g_ialdKv (v := (mI σ r101 0)) hC htg (by decide) hin rfl dX6_value_250 ?_
      exact g_iret hC rfl (by decide) (by decide) dX6_value_251 (fun _ => ⟨_, rfl, hw⟩)
    · replace hw := hw.2 c
      refine g_iload hC dX6_value_70 rfl ?_
      refine g_aload_n hC dX6_value_72 rfl ?_
      obtain ⟨htg, r103, hpt, hw⟩ := hw
      refine g_getr hC fl_X6_18_6.s htg hpt dX6_value_73 ?_
      obtain ⟨n104, htg, hw⟩ := hw
      refine g_alen hC htg (by decide) (by decide) dX6_value_76 ?_
      refine g_icmp_ge (tgt := 245) hC dX6_value_77 rfl (fun c => ?_) (fun c => ?_)
      · replace hw := hw.1 c
        refine g_aload_n hC dX6_value_245 rfl ?_
        obtain ⟨htg, r105, hpt, hw⟩ := hw
        refine g_getr hC fl_X6_15_6.s htg hpt dX6_value_246 ?_
        refine g_iconst (v := 0) hC dX6_value_249 (by decide) ?_
        obtain ⟨n106, htg, hin, hw⟩ := hw
        refine g_ialdKv (v := (mI σ r105 0)) hC htg (by decide) hin rfl dX6_value_250 ?_
        exact g_iret hC rfl (by decide) (by decide) dX6_value_251 (fun _ => ⟨_, rfl, hw⟩)
      · replace hw := hw.2 c
        refine g_aload_n hC dX6_value_80 rfl ?_
        obtain ⟨htg, r107, hpt, hw⟩ := hw
        refine g_getr hC fl_X6_18_6.s htg hpt dX6_value_81 ?_
        refine g_iload hC dX6_value_84 rfl ?_
        obtain ⟨n108, htg, hin, hw⟩ := hw
        refine g_ialdKv (v := (mI σ r107 (Int32.toNatClampNeg x5))) hC htg rfl hin rfl dX6_value_86 ?_
        refine g_topi (fun v109 ev109 => ?_)
        replace hw := hw v109 ev109
        refine g_istore (lv' := [(6, .int v109), (0, .ref (xB X + a0)), (3, .int x3), (4, .int x4), (5, .int x5)]) hC dX6_value_87 (hN 6 (by decide)) rfl ?_
        refine g_iload hC dX6_value_89 rfl ?_
        refine g_bipush (v := (-6)) hC dX6_value_91 (by decide) ?_
        refine g_icmp_lt (tgt := 137) hC dX6_value_93 rfl (fun c => ?_) (fun c => ?_)
        · replace hw := hw.1 c
          refine g_iload hC dX6_value_137 rfl ?_
          refine g_bipush (v := (-21)) hC dX6_value_139 (by decide) ?_
          refine g_icmp_gt (tgt := 198) hC dX6_value_141 rfl (fun c => ?_) (fun c => ?_)
          · replace hw := hw.1 c
            refine g_iload hC dX6_value_198 rfl ?_
            refine g_iconst (v := 2) hC dX6_value_200 (by decide) ?_
            refine g_icmp_ge (tgt := 206) hC dX6_value_201 rfl (fun c => ?_) (fun c => ?_)
            · replace hw := hw.1 c
              refine g_iinc (v := x4 + (-1)) (lv' := [(4, .int (x4 + (-1))), (6, .int v109), (0, .ref (xB X + a0)), (3, .int x3), (5, .int x5)]) hC dX6_value_206 rfl rfl (hN 4 (by decide)) rfl ?_
              refine g_aload_n hC dX6_value_209 rfl ?_
              obtain ⟨htg, r110, hpt, hw⟩ := hw
              refine g_getr hC fl_X6_15_6.s htg hpt dX6_value_210 ?_
              refine g_iload hC dX6_value_213 rfl ?_
              refine g_iconst (v := 1) hC dX6_value_215 (by decide) ?_
              refine g_isub hC dX6_value_216 ?_
              refine g_iload hC dX6_value_217 rfl ?_
              refine g_aload_n hC dX6_value_219 rfl ?_
              obtain ⟨htg, r111, hpt, hw⟩ := hw
              refine g_getr hC fl_X6_15_6.s htg hpt dX6_value_220 ?_
              refine g_iload hC dX6_value_223 rfl ?_
              refine g_iconst (v := 1) hC dX6_value_225 (by decide) ?_
              refine g_isub hC dX6_value_226 ?_
              obtain ⟨n112, htg, hin, hw⟩ := hw
              refine g_ialdKv (v := (mI σ r111 (Int32.toNatClampNeg (x4 + (-1) - 1)))) hC htg rfl hin rfl dX6_value_227 ?_
              refine g_aload_n hC dX6_value_228 rfl ?_
              obtain ⟨htg, r113, hpt, hw⟩ := hw
              refine g_getr hC fl_X6_15_6.s htg hpt dX6_value_229 ?_
              refine g_iload hC dX6_value_232 rfl ?_
              obtain ⟨n114, htg, hin, hw⟩ := hw
              refine g_ialdKv (v := (mI σ r113 (Int32.toNatClampNeg (x4 + (-1))))) hC htg rfl hin rfl dX6_value_234 ?_
              refine mG.st (st1 := ([.int v109, .int (mI σ r111 (Int32.toNatClampNeg (x4 + (-1) - 1))), .int (mI σ r113 (Int32.toNatClampNeg (x4 + (-1))))] : List Value).reverse ++ [.int (x4 + (-1) - 1), .ref (xB X + r110)]) rfl ?_
              refine g_callS (As := [.int v109, .int (mI σ r111 (Int32.toNatClampNeg (x4 + (-1) - 1))), .int (mI σ r113 (Int32.toNatClampNeg (x4 + (-1))))]) (st := [.int (x4 + (-1) - 1), .ref (xB X + r110)]) hC yw_X6_joined ys_X6_joined tw_106 dX6_value_235 (fun _ h => h) (fun _ h => h) (fun h => h) (c_X6_joined (d := 0) (Nat.le_refl _) hw) rfl (Nat.le_of_ble_eq_true rfl) (by omega) (by decide) (by decide) (kI fun v115 s117 hw => ?_)
              obtain ⟨n118, htg, hw⟩ := hw
              have hin := hw.1
              replace hw := hw.2
              refine g_iastK (k := (Int32.toNatClampNeg (x4 + (-1) - 1))) hC htg rfl hin dX6_value_238 ?_
              refine mG.pick (lv' := [(0, .ref (xB X + a0)), (3, .int x3), (4, .int (x4 + (-1))), (5, .int x5)]) [2, 3, 0, 4] rfl ?_
              exact t_X6_value_239 hC hd hN ih hw
            · replace hw := hw.2 c
              refine g_iconst (v := 0) hC dX6_value_204 (by decide) ?_
              exact g_iret hC rfl (by decide) (by decide) dX6_value_205 (fun _ => ⟨_, rfl, hw⟩)
          · replace hw := hw.2 c
            refine g_iload hC dX6_value_144 rfl ?_
            refine g_iconst (v := 1) hC dX6_value_146 (by decide) ?_
            refine g_icmp_ge (tgt := 152) hC dX6_value_147 rfl (fun c => ?_) (fun c => ?_)
            · replace hw := hw.1 c
              refine g_aload_n hC dX6_value_152 rfl ?_
              obtain ⟨htg, r119, hpt, hw⟩ := hw
              refine g_getr hC fl_X6_15_6.s htg hpt dX6_value_153 ?_
              refine g_iload hC dX6_value_156 rfl ?_
              refine g_iconst (v := 1) hC dX6_value_158 (by decide) ?_
              refine g_isub hC dX6_value_159 ?_
              obtain ⟨n120, htg, hin, hw⟩ := hw
              refine g_ialdKv (v := (mI σ r119 (Int32.toNatClampNeg (x4 - 1)))) hC htg rfl hin rfl dX6_value_160 ?_
              refine g_topi (fun v121 ev121 => ?_)
              replace hw := hw v121 ev121
              refine g_istore (lv' := [(7, .int v121), (6, .int v109), (0, .ref (xB X + a0)), (3, .int x3), (4, .int x4), (5, .int x5)]) hC dX6_value_161 (hN 7 (by decide)) rfl ?_
              refine g_aload_n hC dX6_value_163 rfl ?_
              obtain ⟨htg, r122, hpt, hw⟩ := hw
              refine g_getr hC fl_X6_15_6.s htg hpt dX6_value_164 ?_
              refine g_iload hC dX6_value_167 rfl ?_
              refine g_iconst (v := 1) hC dX6_value_169 (by decide) ?_
              refine g_isub hC dX6_value_170 ?_
              refine g_iload hC dX6_value_171 rfl ?_
              refine g_bipush (v := (-22)) hC dX6_value_173 (by decide) ?_
              refine g_icmp_ne (tgt := 184) hC dX6_value_175 rfl (fun c => ?_) (fun c => ?_)
              · replace hw := hw.1 c
                refine g_iload hC dX6_value_184 rfl ?_
                refine g_if_ne (tgt := 193) hC dX6_value_186 rfl (fun c => ?_) (fun c => ?_)
                · replace hw := hw.1 c
                  refine g_iconst (v := 0) hC dX6_value_193 (by decide) ?_
                  refine mG.pick (lv' := [(0, .ref (xB X + a0)), (3, .int x3), (4, .int x4), (5, .int x5)]) [2, 3, 4, 5] rfl ?_
                  exact t_X6_value_194 hC hd hN ih hw
                · replace hw := hw.2 c
                  refine g_iconst (v := 1) hC dX6_value_189 (by decide) ?_
                  refine g_goto (tgt := 194) hC dX6_value_190 rfl ?_
                  refine mG.pick (lv' := [(0, .ref (xB X + a0)), (3, .int x3), (4, .int x4), (5, .int x5)]) [2, 3, 4, 5] rfl ?_
                  exact t_X6_value_194 hC hd hN ih hw
              · replace hw := hw.2 c
                refine g_iload hC dX6_value_178 rfl ?_
                refine g_ineg hC dX6_value_180 ?_
                refine g_goto (tgt := 194) hC dX6_value_181 rfl ?_
                refine mG.pick (lv' := [(0, .ref (xB X + a0)), (3, .int x3), (4, .int x4), (5, .int x5)]) [2, 3, 4, 5] rfl ?_
                exact t_X6_value_194 hC hd hN ih hw
            · replace hw := hw.2 c
              refine g_iconst (v := 0) hC dX6_value_150 (by decide) ?_
              exact g_iret hC rfl (by decide) (by decide) dX6_value_151 (fun _ => ⟨_, rfl, hw⟩)
        · replace hw := hw.2 c
          refine g_iload hC dX6_value_96 rfl ?_
          refine g_bipush (v := 40) hC dX6_value_98 (by decide) ?_
          refine g_icmp_lt (tgt := 105) hC dX6_value_100 rfl (fun c => ?_) (fun c => ?_)
          · replace hw := hw.1 c
            refine g_aload_n hC dX6_value_105 rfl ?_
            obtain ⟨htg, r123, hpt, hw⟩ := hw
            refine g_getr hC fl_X6_15_6.s htg hpt dX6_value_106 ?_
            refine g_iload hC dX6_value_109 rfl ?_
            refine g_iload hC dX6_value_111 rfl ?_
            refine g_if_lt (tgt := 121) hC dX6_value_113 rfl (fun c => ?_) (fun c => ?_)
            · replace hw := hw.1 c
              refine g_aload_n hC dX6_value_121 rfl ?_
              obtain ⟨htg, r124, hpt, hw⟩ := hw
              refine g_getr hC fl_X6_9_6.s htg hpt dX6_value_122 ?_
              refine g_iconst (v := (-1)) hC dX6_value_125 (by decide) ?_
              refine g_iload hC dX6_value_126 rfl ?_
              refine g_isub hC dX6_value_128 ?_
              obtain ⟨n125, htg, hin, hw⟩ := hw
              refine g_ialdKv (v := (mI σ r124 (Int32.toNatClampNeg ((-1) - v109)))) hC htg rfl hin rfl dX6_value_129 ?_
              refine mG.pick (lv' := [(0, .ref (xB X + a0)), (3, .int x3), (4, .int x4), (5, .int x5)]) [1, 2, 3, 4] rfl ?_
              exact t_X6_value_130 hC hd hN ih hw
            · replace hw := hw.2 c
              refine g_iload hC dX6_value_116 rfl ?_
              refine g_goto (tgt := 130) hC dX6_value_118 rfl ?_
              refine mG.pick (lv' := [(0, .ref (xB X + a0)), (3, .int x3), (4, .int x4), (5, .int x5)]) [1, 2, 3, 4] rfl ?_
              exact t_X6_value_130 hC hd hN ih hw
          · replace hw := hw.2 c
            refine g_iconst (v := 0) hC dX6_value_103 (by decide) ?_
            exact g_iret hC rfl (by decide) (by decide) dX6_value_104 (fun _ => ⟨_, rfl, hw⟩)
def w_X6_value_53 (Q : Int32 → Mem → Prop) (a0 : Nat) (x2 : Int32) (xy0 : Int32) (σ : Mem) : Prop := ∃ m101 : Nat, w_X6_value_64 Q m101 a0 xy0 0 (if 0 < x2 then x2 else 0) σ
set_option maxRecDepth 4000 in
set_option maxHeartbeats 2000000 in
theorem t_X6_value_53 {X : Cx} {d : Nat} (hC : mOK X cX6_value RX6 "value" (some .int) d 0 0) (hd : 1 ≤ d) (hN : ∀ i, i < 8 → i < xN X) {Q : Int32 → Mem → Prop} {a0 : Nat} {x2 : Int32} {xy0 : Int32} {σ : Mem} (hw : w_X6_value_53 Q a0 x2 xy0 σ) : mG X 53 [(0, .ref (xB X + a0)), (2, .int x2)] [.int xy0] σ 0 0 (mQ X 0 0 (qI Q)) := by
  refine g_istore_n (lv' := [(3, .int xy0), (0, .ref (xB X + a0)), (2, .int x2)]) hC dX6_value_53 (hN 3 (by decide)) rfl ?_
  refine g_iconst (v := 0) hC dX6_value_54 (by decide) ?_
  refine g_istore (lv' := [(4, .int 0), (3, .int xy0), (0, .ref (xB X + a0)), (2, .int x2)]) hC dX6_value_55 (hN 4 (by decide)) rfl ?_
  refine g_iconst (v := 0) hC dX6_value_57 (by decide) ?_
  refine g_iload_n hC dX6_value_58 rfl ?_
  refine g_mmax hC tw_102 tw_103 tw_5 tw_104 (Nat.le_of_ble_eq_true rfl) (by omega) (by decide) (by decide) dX6_value_59 ?_
  refine g_istore (lv' := [(5, .int (if 0 < x2 then x2 else 0)), (4, .int 0), (3, .int xy0), (0, .ref (xB X + a0)), (2, .int x2)]) hC dX6_value_62 (hN 5 (by decide)) rfl ?_
  refine mG.pick (lv' := [(0, .ref (xB X + a0)), (3, .int xy0), (4, .int 0), (5, .int (if 0 < x2 then x2 else 0))]) [3, 2, 1, 0] rfl ?_
  obtain ⟨m101, hw⟩ := hw
  exact t_X6_value_64 hC hd hN m101 _ _ _ _ _ hw
def w_X6_value_24 (Q : Int32 → Mem → Prop) (a0 : Nat) (x1 : Int32) (xy0 : Int32) (σ : Mem) : Prop := (¬ x1 = 0 → ((¬ x1 = 1 → (mT σ a0 = some (6, 0) ∧ ∃ r101 : Nat, (mP σ a0 0) = some r101 ∧ (∃ n102 : Nat, mT σ r101 = some (14, n102) ∧ (w_X6_value_53 Q a0 xy0 (nI n102) σ)))) ∧ (x1 = 1 → (mT σ a0 = some (6, 0) ∧ (w_X6_value_53 Q a0 xy0 (mI σ a0 2) σ))))) ∧ (x1 = 0 → (mT σ a0 = some (6, 0) ∧ (w_X6_value_53 Q a0 xy0 (mI σ a0 1) σ)))
set_option maxRecDepth 4000 in
set_option maxHeartbeats 2000000 in
theorem t_X6_value_24 {X : Cx} {d : Nat} (hC : mOK X cX6_value RX6 "value" (some .int) d 0 0) (hd : 1 ≤ d) (hN : ∀ i, i < 8 → i < xN X) {Q : Int32 → Mem → Prop} {a0 : Nat} {x1 : Int32} {xy0 : Int32} {σ : Mem} (hw : w_X6_value_24 Q a0 x1 xy0 σ) : mG X 24 [(0, .ref (xB X + a0)), (1, .int x1)] [.int xy0] σ 0 0 (mQ X 0 0 (qI Q)) := by
  refine g_istore_n (lv' := [(2, .int xy0), (0, .ref (xB X + a0)), (1, .int x1)]) hC dX6_value_24 (hN 2 (by decide)) rfl ?_
  refine g_iload_n hC dX6_value_25 rfl ?_
  refine g_if_ne (tgt := 36) hC dX6_value_26 rfl (fun c => ?_) (fun c => ?_)
  · replace hw := hw.1 c
    refine g_iload_n hC dX6_value_36 rfl ?_
    refine g_iconst (v := 1) hC dX6_value_37 (by decide) ?_
    refine g_icmp_ne (tgt := 48) hC dX6_value_38 rfl (fun c => ?_) (fun c => ?_)
    · replace hw := hw.1 c
      refine g_aload_n hC dX6_value_48 rfl ?_
      obtain ⟨htg, r101, hpt, hw⟩ := hw
      refine g_getr hC fl_X6_18_6.s htg hpt dX6_value_49 ?_
      obtain ⟨n102, htg, hw⟩ := hw
      refine g_alen hC htg (by decide) (by decide) dX6_value_52 ?_
      refine mG.pick (lv' := [(0, .ref (xB X + a0)), (2, .int xy0)]) [1, 0] rfl ?_
      exact t_X6_value_53 hC hd hN hw
    · replace hw := hw.2 c
      refine g_aload_n hC dX6_value_41 rfl ?_
      refine g_getiv (v := (mI σ a0 2)) hC fl_X6_25_6.s hw.1 rfl dX6_value_42 ?_
      replace hw := hw.2
      refine g_goto (tgt := 53) hC dX6_value_45 rfl ?_
      refine mG.pick (lv' := [(0, .ref (xB X + a0)), (2, .int xy0)]) [1, 0] rfl ?_
      exact t_X6_value_53 hC hd hN hw
  · replace hw := hw.2 c
    refine g_aload_n hC dX6_value_29 rfl ?_
    refine g_getiv (v := (mI σ a0 1)) hC fl_X6_21_6.s hw.1 rfl dX6_value_30 ?_
    replace hw := hw.2
    refine g_goto (tgt := 53) hC dX6_value_33 rfl ?_
    refine mG.pick (lv' := [(0, .ref (xB X + a0)), (2, .int xy0)]) [1, 0] rfl ?_
    exact t_X6_value_53 hC hd hN hw
def w_X6_value (σ : Mem) (a0 : Nat) (x1 : Int32) (Q : Int32 → Mem → Prop) : Prop := (¬ x1 = 0 → ((¬ x1 = 1 → (mT σ a0 = some (6, 0) ∧ (w_X6_value_24 Q a0 x1 (mI σ a0 2) σ))) ∧ (x1 = 1 → (mT σ a0 = some (6, 0) ∧ (w_X6_value_24 Q a0 x1 (mI σ a0 1) σ))))) ∧ (x1 = 0 → (w_X6_value_24 Q a0 x1 0 σ))
set_option maxRecDepth 4000 in
set_option maxHeartbeats 2000000 in
theorem t_X6_value {X : Cx} {d : Nat} (hC : mOK X cX6_value RX6 "value" (some .int) d 0 0) (hd : 1 ≤ d) (hN : ∀ i, i < 8 → i < xN X) {σ : Mem} {a0 : Nat} {x1 : Int32} {Q : Int32 → Mem → Prop} (hw : w_X6_value σ a0 x1 Q) : mG X 0 [(0, .ref (xB X + a0)), (1, .int x1)] [] σ 0 0 (mQ X 0 0 (qI Q)) := by
  refine g_iload_n hC dX6_value_0 rfl ?_
  refine g_if_ne (tgt := 8) hC dX6_value_1 rfl (fun c => ?_) (fun c => ?_)
  · replace hw := hw.1 c
    refine g_iload_n hC dX6_value_8 rfl ?_
    refine g_iconst (v := 1) hC dX6_value_9 (by decide) ?_
    refine g_icmp_ne (tgt := 20) hC dX6_value_10 rfl (fun c => ?_) (fun c => ?_)
    · replace hw := hw.1 c
      refine g_aload_n hC dX6_value_20 rfl ?_
      refine g_getiv (v := (mI σ a0 2)) hC fl_X6_25_6.s hw.1 rfl dX6_value_21 ?_
      replace hw := hw.2
      refine mG.pick (lv' := [(0, .ref (xB X + a0)), (1, .int x1)]) [0, 1] rfl ?_
      exact t_X6_value_24 hC hd hN hw
    · replace hw := hw.2 c
      refine g_aload_n hC dX6_value_13 rfl ?_
      refine g_getiv (v := (mI σ a0 1)) hC fl_X6_21_6.s hw.1 rfl dX6_value_14 ?_
      replace hw := hw.2
      refine g_goto (tgt := 24) hC dX6_value_17 rfl ?_
      refine mG.pick (lv' := [(0, .ref (xB X + a0)), (1, .int x1)]) [0, 1] rfl ?_
      exact t_X6_value_24 hC hd hN hw
  · replace hw := hw.2 c
    refine g_iconst (v := 0) hC dX6_value_4 (by decide) ?_
    refine g_goto (tgt := 24) hC dX6_value_5 rfl ?_
    refine mG.pick (lv' := [(0, .ref (xB X + a0)), (1, .int x1)]) [0, 1] rfl ?_
    exact t_X6_value_24 hC hd hN hw
set_option maxRecDepth 4000 in
theorem c_X6_value {Z : Fx} {ps ts : List (Nat × Nat × Nat)} {d : Nat} (hd : 1 ≤ d) {σ : Mem} {a0 : Nat} {x1 : Int32} {Q : Int32 → Mem → Prop} (hw : w_X6_value σ a0 x1 Q) : mM Z ps ts yX6_value cX6_value 8 (some .int) d 0 0 [.ref (Z.2.2 + a0), .int x1] σ (qI Q) := by
  refine mM.of (by decide) (Nat.le_of_ble_eq_true rfl) rfl (fun X hZ hp ht hn hC => ?_)
  subst hZ; subst hp; subst ht
  exact t_X6_value hC hd (fun i h => by rw [hn]; exact h) hw
def w_J7_copyOf_59c91_7 (σ : Mem) (x1 : Int32) (Q : Option Nat → Mem → Prop) : Prop := (¬ x1 = 160 → ((¬ x1 < 0 ∧ (Int32.toNatClampNeg x1) ≤ 160) ∧ (∃ n101 : Nat, mT (mN σ (14, (Int32.toNatClampNeg x1))) (mL σ) = some (14, n101) ∧ ((¬ (0 : Int32) < 0 ∧ ¬ (0 : Int32) < 0 ∧ ¬ (if x1 < 160 then x1 else 160) < 0 ∧ Int32.toNatClampNeg 0 + Int32.toNatClampNeg (if x1 < 160 then x1 else 160) ≤ 160 ∧ Int32.toNatClampNeg 0 + Int32.toNatClampNeg (if x1 < 160 then x1 else 160) ≤ n101) ∧ (Q (some (mL σ)) (sR (mN σ (14, (Int32.toNatClampNeg x1))) (mL σ) (va_cpy ((mN σ (14, (Int32.toNatClampNeg x1))).1 7) ((mN σ (14, (Int32.toNatClampNeg x1))).1 (mL σ)) (Int32.toNatClampNeg 0) (Int32.toNatClampNeg 0) (Int32.toNatClampNeg (if x1 < 160 then x1 else 160))))))))) ∧ (x1 = 160 → (False))
set_option maxRecDepth 4000 in
set_option maxHeartbeats 2000000 in
theorem t_J7_copyOf_59c91_7 {X : Cx} {d : Nat} (hC : mOK X cJ7_copyOf_59c91 RJ7 "copyOf" (some (.array .int)) d 1 160) (hd : 1 ≤ d) (hN : ∀ i, i < 3 → i < xN X) (hP : ∀ e ∈ psR, e ∈ xP X) (hT : ∀ e ∈ tsR, e ∈ xT X) {σ : Mem} {x1 : Int32} {Q : Option Nat → Mem → Prop} (hw : w_J7_copyOf_59c91_7 σ x1 Q) : mG X 0 [(0, .ref (xB X + 7)), (1, .int x1)] [] σ 0 0 (mQ X 1 160 ((qA (xB X)) Q)) := by
  refine g_iload_n hC dJ7_copyOf_59c91_0 rfl ?_
  refine g_aload_n hC dJ7_copyOf_59c91_1 rfl ?_
  refine g_alenS hC (hT _ tg_R_7) (by decide) (by decide) dJ7_copyOf_59c91_2 ?_
  refine mG.st (st1 := [.int 160, .int x1]) rfl ?_
  refine g_icmp_ne (tgt := 14) hC dJ7_copyOf_59c91_3 rfl (fun c => ?_) (fun c => ?_)
  · replace hw := hw.1 c
    refine g_iload_n hC dJ7_copyOf_59c91_14 rfl ?_
    obtain ⟨⟨hn0, hn1⟩, hw⟩ := hw
    refine g_newa (N := (Int32.toNatClampNeg x1)) hC na_14 hn0 rfl (by omega) (by decide) (by omega) dJ7_copyOf_59c91_15 ?_
    refine mG.widen (Nat.le_refl _) (show 0 + (Int32.toNatClampNeg x1) ≤ 160 by omega) ?_
    refine g_astore_n (lv' := [(2, .ref (xB X + (mL σ))), (0, .ref (xB X + 7)), (1, .int x1)]) hC dJ7_copyOf_59c91_17 (hN 2 (by decide)) rfl ?_
    refine g_aload_n hC dJ7_copyOf_59c91_18 rfl ?_
    refine g_iconst (v := 0) hC dJ7_copyOf_59c91_19 (by decide) ?_
    refine g_aload_n hC dJ7_copyOf_59c91_20 rfl ?_
    refine g_iconst (v := 0) hC dJ7_copyOf_59c91_21 (by decide) ?_
    refine g_aload_n hC dJ7_copyOf_59c91_22 rfl ?_
    refine g_alenS hC (hT _ tg_R_7) (by decide) (by decide) dJ7_copyOf_59c91_23 ?_
    refine mG.st (st1 := [.int 160, .int 0, .ref (xB X + (mL σ)), .int 0, .ref (xB X + 7)]) rfl ?_
    refine g_iload_n hC dJ7_copyOf_59c91_24 rfl ?_
    refine g_mmin hC tw_218 tw_119 tw_5 tw_120 (Nat.le_of_ble_eq_true rfl) (by omega) (by decide) (by decide) dJ7_copyOf_59c91_25 ?_
    obtain ⟨n101, htg1, hw⟩ := hw
    obtain ⟨⟨q1, q2, q3, q4, q5⟩, hw⟩ := hw
    refine g_known (fun hS => ?_)
    refine g_copy hC (hS.2 _ (hT _ tg_R_7)) htg1 tw_219 tw_220 tw_221 tw_222 q1 q2 q3 q4 q5 (by omega) (Nat.le_of_ble_eq_true rfl) dJ7_copyOf_59c91_28 ?_
    refine g_aload_n hC dJ7_copyOf_59c91_31 rfl ?_
    exact g_aretR hC (Or.inr ⟨_, rfl⟩) (by decide) (by decide) dJ7_copyOf_59c91_32 (fun _ => ⟨some (mL σ), rfl, hw⟩)
  · replace hw := hw.2 c
    refine g_aload_n hC dJ7_copyOf_59c91_6 rfl ?_
    exact False.elim hw
set_option maxRecDepth 4000 in
theorem c_J7_copyOf_59c91_7 {Z : Fx} {ps ts : List (Nat × Nat × Nat)} {d : Nat} (hd : 1 ≤ d) (hP : ∀ e ∈ psR, e ∈ ps) (hT : ∀ e ∈ tsR, e ∈ ts) {σ : Mem} {x1 : Int32} {Q : Option Nat → Mem → Prop} (hw : w_J7_copyOf_59c91_7 σ x1 Q) : mM Z ps ts yJ7_copyOf_59c91 cJ7_copyOf_59c91 3 (some (.array .int)) d 1 160 [.ref (Z.2.2 + 7), .int x1] σ ((qA Z.2.2) Q) := by
  refine mM.of (by decide) (Nat.le_of_ble_eq_true rfl) rfl (fun X hZ hp ht hn hC => ?_)
  subst hZ; subst hp; subst ht
  exact t_J7_copyOf_59c91_7 hC hd (fun i h => by rw [hn]; exact h) hP hT hw
def w_X6_init (σ : Mem) (a0 : Nat) (a1 : Nat) (x2 : Int32) (x3 : Int32) (Q : Mem → Prop) : Prop := mT (mN σ (14, 6)) a0 = some (6, 0) ∧ (mT (mN (sP (mN σ (14, 6)) a0 3 (some (mL σ))) (14, 40)) a0 = some (6, 0) ∧ (mT (mN (sP (mN σ (14, 6)) a0 3 (some (mL σ))) (14, 40)) a0 = some (6, 0) ∧ ((mT (mN (sP (mN σ (14, 6)) a0 3 (some (mL σ))) (14, 40)) a0 = some (6, 0) ∧ ((mT (mN (sP (mN σ (14, 6)) a0 3 (some (mL σ))) (14, 40)) a0 = some (6, 0) ∧ (Q (sI (sI (sP (sP (mN (sP (mN σ (14, 6)) a0 3 (some (mL σ))) (14, 40)) a0 4 (some (mL (sP (mN σ (14, 6)) a0 3 (some (mL σ)))))) a0 0 (some a1)) a0 1 x2) a0 2 x3))))))))
set_option maxRecDepth 4000 in
set_option maxHeartbeats 2000000 in
theorem t_X6_init {X : Cx} {d : Nat} {a0 : Nat} (hC : mOK X cX6_init RX6 "<init>" none d 2 46) (hd : 1 ≤ d) (hN : ∀ i, i < 4 → i < xN X) (hz : ∀ e ∈ xP X, e.1 ≠ a0) {σ : Mem} {a1 : Nat} {x2 : Int32} {x3 : Int32} {Q : Mem → Prop} (hw : w_X6_init σ a0 a1 x2 x3 Q) : mG X 0 [(0, .ref (xB X + a0)), (1, .ref (xB X + a1)), (2, .int x2), (3, .int x3)] [] σ 0 0 (mQ X 2 46 (qV Q)) := by
  refine g_aload_n hC dX6_init_0 rfl ?_
  refine g_objInit hC tw_225 tw_39 tw_40 (Nat.le_of_ble_eq_true rfl) (by omega) dX6_init_1 ?_
  refine g_aload_n hC dX6_init_4 rfl ?_
  refine g_bipush (v := 6) hC dX6_init_5 (by decide) ?_
  refine g_newa (N := 6) hC na_14 (by decide) (by decide) (by decide) (by decide) (by decide) dX6_init_7 ?_
  refine mG.st (st1 := [va_rf (Option.map (fun r => xB X + r) (some (mL σ))), .ref (xB X + a0)]) rfl ?_
  refine g_putR hC fw_X6_9_6i hw.1 (fun v => by cases v <;> rfl) (fun v => by cases v <;> rfl) (fun e he h => hz e he h.1) dX6_init_9 ?_
  replace hw := hw.2
  refine g_aload_n hC dX6_init_12 rfl ?_
  refine g_bipush (v := 40) hC dX6_init_13 (by decide) ?_
  refine g_newa (N := 40) hC na_14 (by decide) (by decide) (by decide) (by decide) (by decide) dX6_init_15 ?_
  refine mG.st (st1 := [va_rf (Option.map (fun r => xB X + r) (some (mL (sP (mN σ (14, 6)) a0 3 (some (mL σ)))))), .ref (xB X + a0)]) rfl ?_
  refine g_putR hC fw_X6_15_6i hw.1 (fun v => by cases v <;> rfl) (fun v => by cases v <;> rfl) (fun e he h => hz e he h.1) dX6_init_17 ?_
  replace hw := hw.2
  refine g_aload_n hC dX6_init_20 rfl ?_
  refine g_aload_n hC dX6_init_21 rfl ?_
  refine mG.st (st1 := [va_rf (Option.map (fun r => xB X + r) (some a1)), .ref (xB X + a0)]) rfl ?_
  refine g_putR hC fw_X6_18_6i hw.1 (fun v => by cases v <;> rfl) (fun v => by cases v <;> rfl) (fun e he h => hz e he h.1) dX6_init_22 ?_
  replace hw := hw.2
  refine g_aload_n hC dX6_init_25 rfl ?_
  refine g_iload_n hC dX6_init_26 rfl ?_
  refine g_putI hC fw_X6_21_6i hw.1 rfl rfl dX6_init_27 ?_
  replace hw := hw.2
  refine g_aload_n hC dX6_init_30 rfl ?_
  refine g_iload_n hC dX6_init_31 rfl ?_
  refine g_putI hC fw_X6_25_6i hw.1 rfl rfl dX6_init_32 ?_
  replace hw := hw.2
  exact g_vret hC (by decide) (by decide) dX6_init_35 (fun _ => ⟨rfl, hw⟩)
set_option maxRecDepth 4000 in
theorem c_X6_init {Z : Fx} {ps ts : List (Nat × Nat × Nat)} {d : Nat} (hd : 1 ≤ d) {a0 : Nat} (hz : ∀ e ∈ ps, e.1 ≠ a0) {σ : Mem} {a1 : Nat} {x2 : Int32} {x3 : Int32} {Q : Mem → Prop} (hw : w_X6_init σ a0 a1 x2 x3 Q) : mM Z ps ts yX6_init cX6_init 4 none d 2 46 [.ref (Z.2.2 + a0), .ref (Z.2.2 + a1), .int x2, .int x3] σ (qV Q) := by
  refine mM.of (by decide) (Nat.le_of_ble_eq_true rfl) rfl (fun X hZ hp ht hn hC => ?_)
  subst hZ; subst hp; subst ht
  exact t_X6_init hC hd (fun i h => by rw [hn]; exact h) hz hw
def w_X1_clear_15 (σ : Mem) (Q : Mem → Prop) : Prop := Q (sI σ 15 2 0)
set_option maxRecDepth 4000 in
set_option maxHeartbeats 2000000 in
theorem t_X1_clear_15 {X : Cx} {d : Nat} (hC : mOK X cX1_clear RX1 "clear" none d 0 0) (hd : 0 ≤ d) (hN : ∀ i, i < 1 → i < xN X) (hP : ∀ e ∈ psG, e ∈ xP X) (hT : ∀ e ∈ tsG, e ∈ xT X) (hF : ∀ e ∈ xP X, e ∈ psA) {σ : Mem} {Q : Mem → Prop} (hw : w_X1_clear_15 σ Q) : mG X 0 [(0, .ref (xB X + 15))] [] σ 0 0 (mQ X 0 0 (qV Q)) := by
  refine g_aload_n hC dX1_clear_0 rfl ?_
  refine g_iconst (v := 0) hC dX1_clear_1 (by decide) ?_
  refine g_putIS hC (fw_X1_24_1 _) (hT _ tg_G_15) rfl rfl dX1_clear_2 ?_
  exact g_vret hC (by decide) (by decide) dX1_clear_5 (fun _ => ⟨rfl, hw⟩)
set_option maxRecDepth 4000 in
theorem c_X1_clear_15 {Z : Fx} {ps ts : List (Nat × Nat × Nat)} {d : Nat} (hd : 0 ≤ d) (hP : ∀ e ∈ psG, e ∈ ps) (hT : ∀ e ∈ tsG, e ∈ ts) (hF : ∀ e ∈ ps, e ∈ psA) {σ : Mem} {Q : Mem → Prop} (hw : w_X1_clear_15 σ Q) : mM Z ps ts yX1_clear cX1_clear 1 none d 0 0 [.ref (Z.2.2 + 15)] σ (qV Q) := by
  refine mM.of (by decide) (Nat.le_of_ble_eq_true rfl) rfl (fun X hZ hp ht hn hC => ?_)
  subst hZ; subst hp; subst ht
  exact t_X1_clear_15 hC hd (fun i h => by rw [hn]; exact h) hP hT hF hw
def w_X1_has_15 (σ : Mem) (x1 : Int32) (Q : Int32 → Mem → Prop) : Prop := (x1 < 0 → (Q 0 σ)) ∧ (¬ x1 < 0 → (((mI σ 15 2) ≤ x1 → (Q 0 σ)) ∧ (¬ (mI σ 15 2) ≤ x1 → (Q 1 σ))))
set_option maxRecDepth 4000 in
set_option maxHeartbeats 2000000 in
theorem t_X1_has_15 {X : Cx} {d : Nat} (hC : mOK X cX1_has RX1 "has" (some .boolean) d 0 0) (hd : 0 ≤ d) (hN : ∀ i, i < 2 → i < xN X) (hP : ∀ e ∈ psG, e ∈ xP X) (hT : ∀ e ∈ tsG, e ∈ xT X) (hF : ∀ e ∈ xP X, e ∈ psA) {σ : Mem} {x1 : Int32} {Q : Int32 → Mem → Prop} (hw : w_X1_has_15 σ x1 Q) : mG X 0 [(0, .ref (xB X + 15)), (1, .int x1)] [] σ 0 0 (mQ X 0 0 (qI Q)) := by
  refine g_iload_n hC dX1_has_0 rfl ?_
  refine g_if_lt (tgt := 16) hC dX1_has_1 rfl (fun c => ?_) (fun c => ?_)
  · replace hw := hw.1 c
    refine g_iconst (v := 0) hC dX1_has_16 (by decide) ?_
    exact g_iret hC bz0 (by decide) (by decide) dX1_has_17 (fun _ => ⟨_, rfl, hw⟩)
  · replace hw := hw.2 c
    refine g_iload_n hC dX1_has_4 rfl ?_
    refine g_aload_n hC dX1_has_5 rfl ?_
    refine g_getiSv (v := (mI σ 15 2)) hC fl_X1_24_1.s (hT _ tg_G_15) rfl dX1_has_6 ?_
    refine g_icmp_ge (tgt := 16) hC dX1_has_9 rfl (fun c => ?_) (fun c => ?_)
    · replace hw := hw.1 c
      refine g_iconst (v := 0) hC dX1_has_16 (by decide) ?_
      exact g_iret hC bz0 (by decide) (by decide) dX1_has_17 (fun _ => ⟨_, rfl, hw⟩)
    · replace hw := hw.2 c
      refine g_iconst (v := 1) hC dX1_has_12 (by decide) ?_
      refine g_goto (tgt := 17) hC dX1_has_13 rfl ?_
      exact g_iret hC bz1 (by decide) (by decide) dX1_has_17 (fun _ => ⟨_, rfl, hw⟩)
set_option maxRecDepth 4000 in
theorem c_X1_has_15 {Z : Fx} {ps ts : List (Nat × Nat × Nat)} {d : Nat} (hd : 0 ≤ d) (hP : ∀ e ∈ psG, e ∈ ps) (hT : ∀ e ∈ tsG, e ∈ ts) (hF : ∀ e ∈ ps, e ∈ psA) {σ : Mem} {x1 : Int32} {Q : Int32 → Mem → Prop} (hw : w_X1_has_15 σ x1 Q) : mM Z ps ts yX1_has cX1_has 2 (some .boolean) d 0 0 [.ref (Z.2.2 + 15), .int x1] σ (qI Q) := by
  refine mM.of (by decide) (Nat.le_of_ble_eq_true rfl) rfl (fun X hZ hp ht hn hC => ?_)
  subst hZ; subst hp; subst ht
  exact t_X1_has_15 hC hd (fun i h => by rw [hn]; exact h) hP hT hF hw
def w_X1_heightOf_15 (σ : Mem) (x1 : Int32) (Q : Int32 → Mem → Prop) : Prop := (x1 < 0 → (Q 0 σ)) ∧ (¬ x1 < 0 → (((mI σ 15 2) ≤ x1 → (Q 0 σ)) ∧ (¬ (mI σ 15 2) ≤ x1 → (vp_in x1 8 ∧ (Q (mI σ 17 (Int32.toNatClampNeg x1)) σ)))))
set_option maxRecDepth 4000 in
set_option maxHeartbeats 2000000 in
theorem t_X1_heightOf_15 {X : Cx} {d : Nat} (hC : mOK X cX1_heightOf RX1 "heightOf" (some .int) d 0 0) (hd : 0 ≤ d) (hN : ∀ i, i < 2 → i < xN X) (hP : ∀ e ∈ psG, e ∈ xP X) (hT : ∀ e ∈ tsG, e ∈ xT X) (hF : ∀ e ∈ xP X, e ∈ psA) {σ : Mem} {x1 : Int32} {Q : Int32 → Mem → Prop} (hw : w_X1_heightOf_15 σ x1 Q) : mG X 0 [(0, .ref (xB X + 15)), (1, .int x1)] [] σ 0 0 (mQ X 0 0 (qI Q)) := by
  refine g_iload_n hC dX1_heightOf_0 rfl ?_
  refine g_if_lt (tgt := 21) hC dX1_heightOf_1 rfl (fun c => ?_) (fun c => ?_)
  · replace hw := hw.1 c
    refine g_iconst (v := 0) hC dX1_heightOf_21 (by decide) ?_
    exact g_iret hC rfl (by decide) (by decide) dX1_heightOf_22 (fun _ => ⟨_, rfl, hw⟩)
  · replace hw := hw.2 c
    refine g_iload_n hC dX1_heightOf_4 rfl ?_
    refine g_aload_n hC dX1_heightOf_5 rfl ?_
    refine g_getiSv (v := (mI σ 15 2)) hC fl_X1_24_1.s (hT _ tg_G_15) rfl dX1_heightOf_6 ?_
    refine g_icmp_ge (tgt := 21) hC dX1_heightOf_9 rfl (fun c => ?_) (fun c => ?_)
    · replace hw := hw.1 c
      refine g_iconst (v := 0) hC dX1_heightOf_21 (by decide) ?_
      exact g_iret hC rfl (by decide) (by decide) dX1_heightOf_22 (fun _ => ⟨_, rfl, hw⟩)
    · replace hw := hw.2 c
      refine g_aload_n hC dX1_heightOf_12 rfl ?_
      refine g_getrS hC fl_X1_15_1.s (hT _ tg_G_15) (hP _ pt_G_15_1) dX1_heightOf_13 ?_
      refine g_iload_n hC dX1_heightOf_16 rfl ?_
      refine g_ialdSv (v := (mI σ 17 (Int32.toNatClampNeg x1))) hC (hT _ tg_G_17) rfl hw.1 rfl dX1_heightOf_17 ?_
      replace hw := hw.2
      refine g_goto (tgt := 22) hC dX1_heightOf_18 rfl ?_
      exact g_iret hC rfl (by decide) (by decide) dX1_heightOf_22 (fun _ => ⟨_, rfl, hw⟩)
set_option maxRecDepth 4000 in
theorem c_X1_heightOf_15 {Z : Fx} {ps ts : List (Nat × Nat × Nat)} {d : Nat} (hd : 0 ≤ d) (hP : ∀ e ∈ psG, e ∈ ps) (hT : ∀ e ∈ tsG, e ∈ ts) (hF : ∀ e ∈ ps, e ∈ psA) {σ : Mem} {x1 : Int32} {Q : Int32 → Mem → Prop} (hw : w_X1_heightOf_15 σ x1 Q) : mM Z ps ts yX1_heightOf cX1_heightOf 2 (some .int) d 0 0 [.ref (Z.2.2 + 15), .int x1] σ (qI Q) := by
  refine mM.of (by decide) (Nat.le_of_ble_eq_true rfl) rfl (fun X hZ hp ht hn hC => ?_)
  subst hZ; subst hp; subst ht
  exact t_X1_heightOf_15 hC hd (fun i h => by rw [hn]; exact h) hP hT hF hw
def w_X1_topOf_15 (σ : Mem) (x1 : Int32) (Q : Int32 → Mem → Prop) : Prop := w_X1_heightOf_15 σ x1 (fun v101 s103 => (v101 ≤ 0 → (Q (-1) s103)) ∧ (¬ v101 ≤ 0 → (vp_in (((x1 * 8) + v101) - 1) 64 ∧ (Q (mI s103 16 (Int32.toNatClampNeg (((x1 * 8) + v101) - 1))) s103))))
set_option maxRecDepth 4000 in
set_option maxHeartbeats 2000000 in
theorem t_X1_topOf_15 {X : Cx} {d : Nat} (hC : mOK X cX1_topOf RX1 "topOf" (some .int) d 0 0) (hd : 1 ≤ d) (hN : ∀ i, i < 3 → i < xN X) (hP : ∀ e ∈ psG, e ∈ xP X) (hT : ∀ e ∈ tsG, e ∈ xT X) (hF : ∀ e ∈ xP X, e ∈ psA) {σ : Mem} {x1 : Int32} {Q : Int32 → Mem → Prop} (hw : w_X1_topOf_15 σ x1 Q) : mG X 0 [(0, .ref (xB X + 15)), (1, .int x1)] [] σ 0 0 (mQ X 0 0 (qI Q)) := by
  refine g_aload_n hC dX1_topOf_0 rfl ?_
  refine g_iload_n hC dX1_topOf_1 rfl ?_
  refine g_known (fun hS => ?_)
  refine mG.st (st1 := ([.int x1] : List Value).reverse ++ .ref (xB X + 15) :: []) rfl ?_
  refine g_callV (As := [.int x1]) (st := []) hC (hS.2 _ (hT _ tg_G_15)) (by decide) ycl_1_X1_heightOf yw_X1_heightOf yv_X1_heightOf tw_258 dX1_topOf_2 (fun _ h => h) (fun _ h => h) (fun h => h) (c_X1_heightOf_15 (d := 0) (Nat.le_refl _) hP hT hF hw) rfl (Nat.le_of_ble_eq_true rfl) (by omega) (by decide) (by decide) (kI fun v101 s103 hw => ?_)
  refine g_istore_n (lv' := [(2, .int v101), (0, .ref (xB X + 15)), (1, .int x1)]) hC dX1_topOf_5 (hN 2 (by decide)) rfl ?_
  refine g_iload_n hC dX1_topOf_6 rfl ?_
  refine g_if_le (tgt := 26) hC dX1_topOf_7 rfl (fun c => ?_) (fun c => ?_)
  · replace hw := hw.1 c
    refine g_iconst (v := (-1)) hC dX1_topOf_26 (by decide) ?_
    exact g_iret hC rfl (by decide) (by decide) dX1_topOf_27 (fun _ => ⟨_, rfl, hw⟩)
  · replace hw := hw.2 c
    refine g_aload_n hC dX1_topOf_10 rfl ?_
    refine g_getrS hC fl_X1_9_1.s (hT _ tg_G_15) (hP _ pt_G_15_0) dX1_topOf_11 ?_
    refine g_iload_n hC dX1_topOf_14 rfl ?_
    refine g_bipush (v := 8) hC dX1_topOf_15 (by decide) ?_
    refine g_imul hC dX1_topOf_17 ?_
    refine g_iload_n hC dX1_topOf_18 rfl ?_
    refine g_iadd hC dX1_topOf_19 ?_
    refine g_iconst (v := 1) hC dX1_topOf_20 (by decide) ?_
    refine g_isub hC dX1_topOf_21 ?_
    refine g_ialdSv (v := (mI s103 16 (Int32.toNatClampNeg (((x1 * 8) + v101) - 1)))) hC (hT _ tg_G_16) rfl hw.1 rfl dX1_topOf_22 ?_
    replace hw := hw.2
    refine g_goto (tgt := 27) hC dX1_topOf_23 rfl ?_
    exact g_iret hC rfl (by decide) (by decide) dX1_topOf_27 (fun _ => ⟨_, rfl, hw⟩)
set_option maxRecDepth 4000 in
theorem c_X1_topOf_15 {Z : Fx} {ps ts : List (Nat × Nat × Nat)} {d : Nat} (hd : 1 ≤ d) (hP : ∀ e ∈ psG, e ∈ ps) (hT : ∀ e ∈ tsG, e ∈ ts) (hF : ∀ e ∈ ps, e ∈ psA) {σ : Mem} {x1 : Int32} {Q : Int32 → Mem → Prop} (hw : w_X1_topOf_15 σ x1 Q) : mM Z ps ts yX1_topOf cX1_topOf 3 (some .int) d 0 0 [.ref (Z.2.2 + 15), .int x1] σ (qI Q) := by
  refine mM.of (by decide) (Nat.le_of_ble_eq_true rfl) rfl (fun X hZ hp ht hn hC => ?_)
  subst hZ; subst hp; subst ht
  exact t_X1_topOf_15 hC hd (fun i h => by rw [hn]; exact h) hP hT hF hw
def w_X1_put_15_48 (Q : Mem → Prop) (x1 : Int32) (x2 : Int32) (σ : Mem) : Prop := w_X1_has_15 σ x1 (fun v101 s103 => (v101 = 0 → (Q s103)) ∧ (¬ v101 = 0 → (vp_in x1 8 ∧ (((mI s103 17 (Int32.toNatClampNeg x1)) < 8 → (vp_in x2 8 ∧ (w_X1_topOf_15 (sI s103 18 (Int32.toNatClampNeg x2) x1) x1 (fun v104 s106 => vp_in x2 8 ∧ (vp_in x1 8 ∧ (vp_in ((x1 * 8) + (mI s106 17 (Int32.toNatClampNeg x1))) 64 ∧ (vp_in x1 8 ∧ (∀ v107 : Int32, v107 = ((mI s106 17 (Int32.toNatClampNeg x1)) + 1) → (vp_in x1 8 ∧ (Q (sI (sI (sI s106 19 (Int32.toNatClampNeg x2) v104) 16 (Int32.toNatClampNeg ((x1 * 8) + (mI s106 17 (Int32.toNatClampNeg x1)))) x2) 17 (Int32.toNatClampNeg x1) v107))))))))))) ∧ (¬ (mI s103 17 (Int32.toNatClampNeg x1)) < 8 → (Q s103))))))
set_option maxRecDepth 4000 in
set_option maxHeartbeats 2000000 in
theorem t_X1_put_15_48 {X : Cx} {d : Nat} (hC : mOK X cX1_put RX1 "put" none d 0 0) (hd : 2 ≤ d) (hN : ∀ i, i < 3 → i < xN X) (hP : ∀ e ∈ psG, e ∈ xP X) (hT : ∀ e ∈ tsG, e ∈ xT X) (hF : ∀ e ∈ xP X, e ∈ psA) {Q : Mem → Prop} {x1 : Int32} {x2 : Int32} {σ : Mem} (hw : w_X1_put_15_48 Q x1 x2 σ) : mG X 48 [(0, .ref (xB X + 15)), (1, .int x1), (2, .int x2)] [] σ 0 0 (mQ X 0 0 (qV Q)) := by
  refine g_aload_n hC dX1_put_48 rfl ?_
  refine g_iload_n hC dX1_put_49 rfl ?_
  refine g_known (fun hS => ?_)
  refine mG.st (st1 := ([.int x1] : List Value).reverse ++ .ref (xB X + 15) :: []) rfl ?_
  refine g_callV (As := [.int x1]) (st := []) hC (hS.2 _ (hT _ tg_G_15)) (by decide) ycl_1_X1_has yw_X1_has yv_X1_has tw_279 dX1_put_50 (fun _ h => h) (fun _ h => h) (fun h => h) (c_X1_has_15 (d := 0) (Nat.le_refl _) hP hT hF hw) rfl (Nat.le_of_ble_eq_true rfl) (by omega) (by decide) (by decide) (kI fun v101 s103 hw => ?_)
  refine g_if_eq (tgt := 67) hC dX1_put_53 rfl (fun c => ?_) (fun c => ?_)
  · replace hw := hw.1 c
    exact g_vret hC (by decide) (by decide) dX1_put_67 (fun _ => ⟨rfl, hw⟩)
  · replace hw := hw.2 c
    refine g_aload_n hC dX1_put_56 rfl ?_
    refine g_getrS hC fl_X1_15_1.s (hT _ tg_G_15) (hP _ pt_G_15_1) dX1_put_57 ?_
    refine g_iload_n hC dX1_put_60 rfl ?_
    refine g_ialdSv (v := (mI s103 17 (Int32.toNatClampNeg x1))) hC (hT _ tg_G_17) rfl hw.1 rfl dX1_put_61 ?_
    replace hw := hw.2
    refine g_bipush (v := 8) hC dX1_put_62 (by decide) ?_
    refine g_icmp_lt (tgt := 68) hC dX1_put_64 rfl (fun c => ?_) (fun c => ?_)
    · replace hw := hw.1 c
      refine g_aload_n hC dX1_put_68 rfl ?_
      refine g_getrS hC fl_X1_18_1.s (hT _ tg_G_15) (hP _ pt_G_15_3) dX1_put_69 ?_
      refine g_iload_n hC dX1_put_72 rfl ?_
      refine g_iload_n hC dX1_put_73 rfl ?_
      have hin := hw.1
      replace hw := hw.2
      refine g_iastS (k := (Int32.toNatClampNeg x2)) hC (hT _ tg_G_18) rfl hin dX1_put_74 ?_
      refine g_aload_n hC dX1_put_75 rfl ?_
      refine g_getrS hC fl_X1_21_1.s (hT _ tg_G_15) (hP _ pt_G_15_4) dX1_put_76 ?_
      refine g_iload_n hC dX1_put_79 rfl ?_
      refine g_aload_n hC dX1_put_80 rfl ?_
      refine g_iload_n hC dX1_put_81 rfl ?_
      refine g_known (fun hS => ?_)
      refine mG.st (st1 := ([.int x1] : List Value).reverse ++ .ref (xB X + 15) :: [.int x2, .ref (xB X + 19)]) rfl ?_
      refine g_callV (As := [.int x1]) (st := [.int x2, .ref (xB X + 19)]) hC (hS.2 _ (hT _ tg_G_15)) (by decide) ycl_1_X1_topOf yw_X1_topOf yv_X1_topOf tw_280 dX1_put_82 (fun _ h => h) (fun _ h => h) (fun h => h) (c_X1_topOf_15 (d := 1) (Nat.le_refl _) hP hT hF hw) rfl (Nat.le_of_ble_eq_true rfl) (by omega) (by decide) (by decide) (kI fun v104 s106 hw => ?_)
      have hin := hw.1
      replace hw := hw.2
      refine g_iastS (k := (Int32.toNatClampNeg x2)) hC (hT _ tg_G_19) rfl hin dX1_put_85 ?_
      refine g_aload_n hC dX1_put_86 rfl ?_
      refine g_getrS hC fl_X1_9_1.s (hT _ tg_G_15) (hP _ pt_G_15_0) dX1_put_87 ?_
      refine g_iload_n hC dX1_put_90 rfl ?_
      refine g_bipush (v := 8) hC dX1_put_91 (by decide) ?_
      refine g_imul hC dX1_put_93 ?_
      refine g_aload_n hC dX1_put_94 rfl ?_
      refine g_getrS hC fl_X1_15_1.s (hT _ tg_G_15) (hP _ pt_G_15_1) dX1_put_95 ?_
      refine g_iload_n hC dX1_put_98 rfl ?_
      refine g_ialdSv (v := (mI s106 17 (Int32.toNatClampNeg x1))) hC (hT _ tg_G_17) rfl hw.1 (mI_sI_n _ _ (by decide)) dX1_put_99 ?_
      replace hw := hw.2
      refine g_iadd hC dX1_put_100 ?_
      refine g_iload_n hC dX1_put_101 rfl ?_
      have hin := hw.1
      replace hw := hw.2
      refine g_iastS (k := (Int32.toNatClampNeg ((x1 * 8) + (mI s106 17 (Int32.toNatClampNeg x1))))) hC (hT _ tg_G_16) rfl hin dX1_put_102 ?_
      refine g_aload_n hC dX1_put_103 rfl ?_
      refine g_getrS hC fl_X1_15_1.s (hT _ tg_G_15) (hP _ pt_G_15_1) dX1_put_104 ?_
      refine g_iload_n hC dX1_put_107 rfl ?_
      refine g_dup2 hC dX1_put_108 rfl rfl ?_
      refine g_ialdSv (v := (mI s106 17 (Int32.toNatClampNeg x1))) hC (hT _ tg_G_17) rfl hw.1 ((mI_sI_n _ _ (by decide)).trans (mI_sI_n _ _ (by decide))) dX1_put_109 ?_
      replace hw := hw.2
      refine g_iconst (v := 1) hC dX1_put_110 (by decide) ?_
      refine g_iadd hC dX1_put_111 ?_
      refine g_topi (fun v107 ev107 => ?_)
      replace hw := hw v107 ev107
      have hin := hw.1
      replace hw := hw.2
      refine g_iastS (k := (Int32.toNatClampNeg x1)) hC (hT _ tg_G_17) rfl hin dX1_put_112 ?_
      exact g_vret hC (by decide) (by decide) dX1_put_113 (fun _ => ⟨rfl, hw⟩)
    · replace hw := hw.2 c
      exact g_vret hC (by decide) (by decide) dX1_put_67 (fun _ => ⟨rfl, hw⟩)
def w_X1_put_15 (σ : Mem) (x1 : Int32) (x2 : Int32) (Q : Mem → Prop) : Prop := (x2 < 0 → (Q σ)) ∧ (¬ x2 < 0 → ((x2 < 8 → ((¬ x1 = (mI σ 15 2) → (w_X1_put_15_48 Q x1 x2 σ)) ∧ (x1 = (mI σ 15 2) → ((8 ≤ (mI σ 15 2) → (w_X1_put_15_48 Q x1 x2 σ)) ∧ (¬ 8 ≤ (mI σ 15 2) → (vp_in (mI σ 15 2) 8 ∧ (w_X1_put_15_48 Q x1 x2 (sI (sI σ 17 (Int32.toNatClampNeg (mI σ 15 2)) 0) 15 2 ((mI σ 15 2) + 1))))))))) ∧ (¬ x2 < 8 → (Q σ))))
set_option maxRecDepth 4000 in
set_option maxHeartbeats 2000000 in
theorem t_X1_put_15 {X : Cx} {d : Nat} (hC : mOK X cX1_put RX1 "put" none d 0 0) (hd : 2 ≤ d) (hN : ∀ i, i < 3 → i < xN X) (hP : ∀ e ∈ psG, e ∈ xP X) (hT : ∀ e ∈ tsG, e ∈ xT X) (hF : ∀ e ∈ xP X, e ∈ psA) {σ : Mem} {x1 : Int32} {x2 : Int32} {Q : Mem → Prop} (hw : w_X1_put_15 σ x1 x2 Q) : mG X 0 [(0, .ref (xB X + 15)), (1, .int x1), (2, .int x2)] [] σ 0 0 (mQ X 0 0 (qV Q)) := by
  refine g_iload_n hC dX1_put_0 rfl ?_
  refine g_if_lt (tgt := 10) hC dX1_put_1 rfl (fun c => ?_) (fun c => ?_)
  · replace hw := hw.1 c
    exact g_vret hC (by decide) (by decide) dX1_put_10 (fun _ => ⟨rfl, hw⟩)
  · replace hw := hw.2 c
    refine g_iload_n hC dX1_put_4 rfl ?_
    refine g_bipush (v := 8) hC dX1_put_5 (by decide) ?_
    refine g_icmp_lt (tgt := 11) hC dX1_put_7 rfl (fun c => ?_) (fun c => ?_)
    · replace hw := hw.1 c
      refine g_iload_n hC dX1_put_11 rfl ?_
      refine g_aload_n hC dX1_put_12 rfl ?_
      refine g_getiSv (v := (mI σ 15 2)) hC fl_X1_24_1.s (hT _ tg_G_15) rfl dX1_put_13 ?_
      refine g_icmp_ne (tgt := 48) hC dX1_put_16 rfl (fun c => ?_) (fun c => ?_)
      · replace hw := hw.1 c
        refine mG.pick (lv' := [(0, .ref (xB X + 15)), (1, .int x1), (2, .int x2)]) [0, 1, 2] rfl ?_
        exact t_X1_put_15_48 hC hd hN hP hT hF hw
      · replace hw := hw.2 c
        refine g_aload_n hC dX1_put_19 rfl ?_
        refine g_getiSv (v := (mI σ 15 2)) hC fl_X1_24_1.s (hT _ tg_G_15) rfl dX1_put_20 ?_
        refine g_bipush (v := 8) hC dX1_put_23 (by decide) ?_
        refine g_icmp_ge (tgt := 48) hC dX1_put_25 rfl (fun c => ?_) (fun c => ?_)
        · replace hw := hw.1 c
          refine mG.pick (lv' := [(0, .ref (xB X + 15)), (1, .int x1), (2, .int x2)]) [0, 1, 2] rfl ?_
          exact t_X1_put_15_48 hC hd hN hP hT hF hw
        · replace hw := hw.2 c
          refine g_aload_n hC dX1_put_28 rfl ?_
          refine g_getrS hC fl_X1_15_1.s (hT _ tg_G_15) (hP _ pt_G_15_1) dX1_put_29 ?_
          refine g_aload_n hC dX1_put_32 rfl ?_
          refine g_getiSv (v := (mI σ 15 2)) hC fl_X1_24_1.s (hT _ tg_G_15) rfl dX1_put_33 ?_
          refine g_iconst (v := 0) hC dX1_put_36 (by decide) ?_
          have hin := hw.1
          replace hw := hw.2
          refine g_iastS (k := (Int32.toNatClampNeg (mI σ 15 2))) hC (hT _ tg_G_17) rfl hin dX1_put_37 ?_
          refine g_aload_n hC dX1_put_38 rfl ?_
          refine g_dup hC dX1_put_39 rfl ?_
          refine g_getiSv (v := (mI σ 15 2)) hC fl_X1_24_1.s (hT _ tg_G_15) (mI_sI_n _ _ (by decide)) dX1_put_40 ?_
          refine g_iconst (v := 1) hC dX1_put_43 (by decide) ?_
          refine g_iadd hC dX1_put_44 ?_
          refine g_putIS hC (fw_X1_24_1 _) (hT _ tg_G_15) rfl rfl dX1_put_45 ?_
          refine mG.pick (lv' := [(0, .ref (xB X + 15)), (1, .int x1), (2, .int x2)]) [0, 1, 2] rfl ?_
          exact t_X1_put_15_48 hC hd hN hP hT hF hw
    · replace hw := hw.2 c
      exact g_vret hC (by decide) (by decide) dX1_put_10 (fun _ => ⟨rfl, hw⟩)
set_option maxRecDepth 4000 in
theorem c_X1_put_15 {Z : Fx} {ps ts : List (Nat × Nat × Nat)} {d : Nat} (hd : 2 ≤ d) (hP : ∀ e ∈ psG, e ∈ ps) (hT : ∀ e ∈ tsG, e ∈ ts) (hF : ∀ e ∈ ps, e ∈ psA) {σ : Mem} {x1 : Int32} {x2 : Int32} {Q : Mem → Prop} (hw : w_X1_put_15 σ x1 x2 Q) : mM Z ps ts yX1_put cX1_put 3 none d 0 0 [.ref (Z.2.2 + 15), .int x1, .int x2] σ (qV Q) := by
  refine mM.of (by decide) (Nat.le_of_ble_eq_true rfl) rfl (fun X hZ hp ht hn hC => ?_)
  subst hZ; subst hp; subst ht
  exact t_X1_put_15 hC hd (fun i h => by rw [hn]; exact h) hP hT hF hw
def w_X1_drop_15 (σ : Mem) (x1 : Int32) (Q : Int32 → Mem → Prop) : Prop := w_X1_topOf_15 σ x1 (fun v101 s103 => (v101 = (-1) → (Q v101 s103)) ∧ (¬ v101 = (-1) → (vp_in x1 8 ∧ (∀ v104 : Int32, v104 = ((mI s103 17 (Int32.toNatClampNeg x1)) - 1) → (vp_in x1 8 ∧ (Q v101 (sI s103 17 (Int32.toNatClampNeg x1) v104)))))))
set_option maxRecDepth 4000 in
set_option maxHeartbeats 2000000 in
theorem t_X1_drop_15 {X : Cx} {d : Nat} (hC : mOK X cX1_drop RX1 "drop" (some .int) d 0 0) (hd : 2 ≤ d) (hN : ∀ i, i < 3 → i < xN X) (hP : ∀ e ∈ psG, e ∈ xP X) (hT : ∀ e ∈ tsG, e ∈ xT X) (hF : ∀ e ∈ xP X, e ∈ psA) {σ : Mem} {x1 : Int32} {Q : Int32 → Mem → Prop} (hw : w_X1_drop_15 σ x1 Q) : mG X 0 [(0, .ref (xB X + 15)), (1, .int x1)] [] σ 0 0 (mQ X 0 0 (qI Q)) := by
  refine g_aload_n hC dX1_drop_0 rfl ?_
  refine g_iload_n hC dX1_drop_1 rfl ?_
  refine g_known (fun hS => ?_)
  refine mG.st (st1 := ([.int x1] : List Value).reverse ++ .ref (xB X + 15) :: []) rfl ?_
  refine g_callV (As := [.int x1]) (st := []) hC (hS.2 _ (hT _ tg_G_15)) (by decide) ycl_1_X1_topOf yw_X1_topOf yv_X1_topOf tw_280 dX1_drop_2 (fun _ h => h) (fun _ h => h) (fun h => h) (c_X1_topOf_15 (d := 1) (Nat.le_refl _) hP hT hF hw) rfl (Nat.le_of_ble_eq_true rfl) (by omega) (by decide) (by decide) (kI fun v101 s103 hw => ?_)
  refine g_istore_n (lv' := [(2, .int v101), (0, .ref (xB X + 15)), (1, .int x1)]) hC dX1_drop_5 (hN 2 (by decide)) rfl ?_
  refine g_iload_n hC dX1_drop_6 rfl ?_
  refine g_iconst (v := (-1)) hC dX1_drop_7 (by decide) ?_
  refine g_icmp_eq (tgt := 21) hC dX1_drop_8 rfl (fun c => ?_) (fun c => ?_)
  · replace hw := hw.1 c
    refine g_iload_n hC dX1_drop_21 rfl ?_
    exact g_iret hC rfl (by decide) (by decide) dX1_drop_22 (fun _ => ⟨_, rfl, hw⟩)
  · replace hw := hw.2 c
    refine g_aload_n hC dX1_drop_11 rfl ?_
    refine g_getrS hC fl_X1_15_1.s (hT _ tg_G_15) (hP _ pt_G_15_1) dX1_drop_12 ?_
    refine g_iload_n hC dX1_drop_15 rfl ?_
    refine g_dup2 hC dX1_drop_16 rfl rfl ?_
    refine g_ialdSv (v := (mI s103 17 (Int32.toNatClampNeg x1))) hC (hT _ tg_G_17) rfl hw.1 rfl dX1_drop_17 ?_
    replace hw := hw.2
    refine g_iconst (v := 1) hC dX1_drop_18 (by decide) ?_
    refine g_isub hC dX1_drop_19 ?_
    refine g_topi (fun v104 ev104 => ?_)
    replace hw := hw v104 ev104
    have hin := hw.1
    replace hw := hw.2
    refine g_iastS (k := (Int32.toNatClampNeg x1)) hC (hT _ tg_G_17) rfl hin dX1_drop_20 ?_
    refine g_iload_n hC dX1_drop_21 rfl ?_
    exact g_iret hC rfl (by decide) (by decide) dX1_drop_22 (fun _ => ⟨_, rfl, hw⟩)
set_option maxRecDepth 4000 in
theorem c_X1_drop_15 {Z : Fx} {ps ts : List (Nat × Nat × Nat)} {d : Nat} (hd : 2 ≤ d) (hP : ∀ e ∈ psG, e ∈ ps) (hT : ∀ e ∈ tsG, e ∈ ts) (hF : ∀ e ∈ ps, e ∈ psA) {σ : Mem} {x1 : Int32} {Q : Int32 → Mem → Prop} (hw : w_X1_drop_15 σ x1 Q) : mM Z ps ts yX1_drop cX1_drop 3 (some .int) d 0 0 [.ref (Z.2.2 + 15), .int x1] σ (qI Q) := by
  refine mM.of (by decide) (Nat.le_of_ble_eq_true rfl) rfl (fun X hZ hp ht hn hC => ?_)
  subst hZ; subst hp; subst ht
  exact t_X1_drop_15 hC hd (fun i h => by rw [hn]; exact h) hP hT hF hw
def w_X1_undo_15 (σ : Mem) (x1 : Int32) (Q : Mem → Prop) : Prop := w_X1_drop_15 σ x1 (fun v101 s103 => w_X1_has_15 s103 x1 (fun v104 s106 => (v104 = 0 → (Q s106)) ∧ (¬ v104 = 0 → (vp_in x1 8 ∧ ((¬ (mI s106 17 (Int32.toNatClampNeg x1)) = 0 → (Q s106)) ∧ ((mI s106 17 (Int32.toNatClampNeg x1)) = 0 → (Q (sI s106 15 2 x1))))))))
set_option maxRecDepth 4000 in
set_option maxHeartbeats 2000000 in
theorem t_X1_undo_15 {X : Cx} {d : Nat} (hC : mOK X cX1_undo RX1 "undo" none d 0 0) (hd : 3 ≤ d) (hN : ∀ i, i < 2 → i < xN X) (hP : ∀ e ∈ psG, e ∈ xP X) (hT : ∀ e ∈ tsG, e ∈ xT X) (hF : ∀ e ∈ xP X, e ∈ psA) {σ : Mem} {x1 : Int32} {Q : Mem → Prop} (hw : w_X1_undo_15 σ x1 Q) : mG X 0 [(0, .ref (xB X + 15)), (1, .int x1)] [] σ 0 0 (mQ X 0 0 (qV Q)) := by
  refine g_aload_n hC dX1_undo_0 rfl ?_
  refine g_iload_n hC dX1_undo_1 rfl ?_
  refine g_known (fun hS => ?_)
  refine mG.st (st1 := ([.int x1] : List Value).reverse ++ .ref (xB X + 15) :: []) rfl ?_
  refine g_callV (As := [.int x1]) (st := []) hC (hS.2 _ (hT _ tg_G_15)) (by decide) ycl_1_X1_drop yw_X1_drop yv_X1_drop tw_303 dX1_undo_2 (fun _ h => h) (fun _ h => h) (fun h => h) (c_X1_drop_15 (d := 2) (Nat.le_refl _) hP hT hF hw) rfl (Nat.le_of_ble_eq_true rfl) (by omega) (by decide) (by decide) (kI fun v101 s103 hw => ?_)
  refine g_pop hC dX1_undo_5 rfl ?_
  refine g_aload_n hC dX1_undo_6 rfl ?_
  refine g_iload_n hC dX1_undo_7 rfl ?_
  refine g_known (fun hS => ?_)
  refine mG.st (st1 := ([.int x1] : List Value).reverse ++ .ref (xB X + 15) :: []) rfl ?_
  refine g_callV (As := [.int x1]) (st := []) hC (hS.2 _ (hT _ tg_G_15)) (by decide) ycl_1_X1_has yw_X1_has yv_X1_has tw_279 dX1_undo_8 (fun _ h => h) (fun _ h => h) (fun h => h) (c_X1_has_15 (d := 0) (Nat.le_refl _) hP hT hF hw) rfl (Nat.le_of_ble_eq_true rfl) (by omega) (by decide) (by decide) (kI fun v104 s106 hw => ?_)
  refine g_if_eq (tgt := 28) hC dX1_undo_11 rfl (fun c => ?_) (fun c => ?_)
  · replace hw := hw.1 c
    exact g_vret hC (by decide) (by decide) dX1_undo_28 (fun _ => ⟨rfl, hw⟩)
  · replace hw := hw.2 c
    refine g_aload_n hC dX1_undo_14 rfl ?_
    refine g_getrS hC fl_X1_15_1.s (hT _ tg_G_15) (hP _ pt_G_15_1) dX1_undo_15 ?_
    refine g_iload_n hC dX1_undo_18 rfl ?_
    refine g_ialdSv (v := (mI s106 17 (Int32.toNatClampNeg x1))) hC (hT _ tg_G_17) rfl hw.1 rfl dX1_undo_19 ?_
    replace hw := hw.2
    refine g_if_ne (tgt := 28) hC dX1_undo_20 rfl (fun c => ?_) (fun c => ?_)
    · replace hw := hw.1 c
      exact g_vret hC (by decide) (by decide) dX1_undo_28 (fun _ => ⟨rfl, hw⟩)
    · replace hw := hw.2 c
      refine g_aload_n hC dX1_undo_23 rfl ?_
      refine g_iload_n hC dX1_undo_24 rfl ?_
      refine g_putIS hC (fw_X1_24_1 _) (hT _ tg_G_15) rfl rfl dX1_undo_25 ?_
      exact g_vret hC (by decide) (by decide) dX1_undo_28 (fun _ => ⟨rfl, hw⟩)
set_option maxRecDepth 4000 in
theorem c_X1_undo_15 {Z : Fx} {ps ts : List (Nat × Nat × Nat)} {d : Nat} (hd : 3 ≤ d) (hP : ∀ e ∈ psG, e ∈ ps) (hT : ∀ e ∈ tsG, e ∈ ts) (hF : ∀ e ∈ ps, e ∈ psA) {σ : Mem} {x1 : Int32} {Q : Mem → Prop} (hw : w_X1_undo_15 σ x1 Q) : mM Z ps ts yX1_undo cX1_undo 2 none d 0 0 [.ref (Z.2.2 + 15), .int x1] σ (qV Q) := by
  refine mM.of (by decide) (Nat.le_of_ble_eq_true rfl) rfl (fun X hZ hp ht hn hC => ?_)
  subst hZ; subst hp; subst ht
  exact t_X1_undo_15 hC hd (fun i h => by rw [hn]; exact h) hP hT hF hw
def w_J6_bitCount_0f7a4 (σ : Mem) (x0 : Int32) (Q : Int32 → Mem → Prop) : Prop := ∀ v101 : Int32, v101 = (x0 - ((Int32.toUInt32 x0 >>> (Int32.toUInt32 1 &&& Int32.toUInt32 31)).toInt32 &&& 1431655765)) → (∀ v102 : Int32, v102 = ((v101 &&& 858993459) + ((Int32.toUInt32 v101 >>> (Int32.toUInt32 2 &&& Int32.toUInt32 31)).toInt32 &&& 858993459)) → (∀ v103 : Int32, v103 = ((v102 + (Int32.toUInt32 v102 >>> (Int32.toUInt32 4 &&& Int32.toUInt32 31)).toInt32) &&& 252645135) → (∀ v104 : Int32, v104 = (v103 + (Int32.toUInt32 v103 >>> (Int32.toUInt32 8 &&& Int32.toUInt32 31)).toInt32) → (∀ v105 : Int32, v105 = (v104 + (Int32.toUInt32 v104 >>> (Int32.toUInt32 16 &&& Int32.toUInt32 31)).toInt32) → (Q (v105 &&& 63) σ)))))
set_option maxRecDepth 4000 in
set_option maxHeartbeats 2000000 in
theorem t_J6_bitCount_0f7a4 {X : Cx} {d : Nat} (hC : mOK X cJ6_bitCount_0f7a4 RJ6 "bitCount" (some .int) d 0 0) (hd : 0 ≤ d) (hN : ∀ i, i < 1 → i < xN X) {σ : Mem} {x0 : Int32} {Q : Int32 → Mem → Prop} (hw : w_J6_bitCount_0f7a4 σ x0 Q) : mG X 0 [(0, .int x0)] [] σ 0 0 (mQ X 0 0 (qI Q)) := by
  refine g_iload_n hC dJ6_bitCount_0f7a4_0 rfl ?_
  refine g_iload_n hC dJ6_bitCount_0f7a4_1 rfl ?_
  refine g_iconst (v := 1) hC dJ6_bitCount_0f7a4_2 (by decide) ?_
  refine g_iushr hC dJ6_bitCount_0f7a4_3 ?_
  refine g_ldcw hC tw_333 dJ6_bitCount_0f7a4_4 ?_
  refine g_iand hC dJ6_bitCount_0f7a4_7 ?_
  refine g_isub hC dJ6_bitCount_0f7a4_8 ?_
  refine g_topi (fun v101 ev101 => ?_)
  replace hw := hw v101 ev101
  refine g_istore_n (lv' := [(0, .int v101)]) hC dJ6_bitCount_0f7a4_9 (hN 0 (by decide)) rfl ?_
  refine g_iload_n hC dJ6_bitCount_0f7a4_10 rfl ?_
  refine g_ldcw hC tw_334 dJ6_bitCount_0f7a4_11 ?_
  refine g_iand hC dJ6_bitCount_0f7a4_14 ?_
  refine g_iload_n hC dJ6_bitCount_0f7a4_15 rfl ?_
  refine g_iconst (v := 2) hC dJ6_bitCount_0f7a4_16 (by decide) ?_
  refine g_iushr hC dJ6_bitCount_0f7a4_17 ?_
  refine g_ldcw hC tw_334 dJ6_bitCount_0f7a4_18 ?_
  refine g_iand hC dJ6_bitCount_0f7a4_21 ?_
  refine g_iadd hC dJ6_bitCount_0f7a4_22 ?_
  refine g_topi (fun v102 ev102 => ?_)
  replace hw := hw v102 ev102
  refine g_istore_n (lv' := [(0, .int v102)]) hC dJ6_bitCount_0f7a4_23 (hN 0 (by decide)) rfl ?_
  refine g_iload_n hC dJ6_bitCount_0f7a4_24 rfl ?_
  refine g_iload_n hC dJ6_bitCount_0f7a4_25 rfl ?_
  refine g_iconst (v := 4) hC dJ6_bitCount_0f7a4_26 (by decide) ?_
  refine g_iushr hC dJ6_bitCount_0f7a4_27 ?_
  refine g_iadd hC dJ6_bitCount_0f7a4_28 ?_
  refine g_ldcw hC tw_335 dJ6_bitCount_0f7a4_29 ?_
  refine g_iand hC dJ6_bitCount_0f7a4_32 ?_
  refine g_topi (fun v103 ev103 => ?_)
  replace hw := hw v103 ev103
  refine g_istore_n (lv' := [(0, .int v103)]) hC dJ6_bitCount_0f7a4_33 (hN 0 (by decide)) rfl ?_
  refine g_iload_n hC dJ6_bitCount_0f7a4_34 rfl ?_
  refine g_iload_n hC dJ6_bitCount_0f7a4_35 rfl ?_
  refine g_bipush (v := 8) hC dJ6_bitCount_0f7a4_36 (by decide) ?_
  refine g_iushr hC dJ6_bitCount_0f7a4_38 ?_
  refine g_iadd hC dJ6_bitCount_0f7a4_39 ?_
  refine g_topi (fun v104 ev104 => ?_)
  replace hw := hw v104 ev104
  refine g_istore_n (lv' := [(0, .int v104)]) hC dJ6_bitCount_0f7a4_40 (hN 0 (by decide)) rfl ?_
  refine g_iload_n hC dJ6_bitCount_0f7a4_41 rfl ?_
  refine g_iload_n hC dJ6_bitCount_0f7a4_42 rfl ?_
  refine g_bipush (v := 16) hC dJ6_bitCount_0f7a4_43 (by decide) ?_
  refine g_iushr hC dJ6_bitCount_0f7a4_45 ?_
  refine g_iadd hC dJ6_bitCount_0f7a4_46 ?_
  refine g_topi (fun v105 ev105 => ?_)
  replace hw := hw v105 ev105
  refine g_istore_n (lv' := [(0, .int v105)]) hC dJ6_bitCount_0f7a4_47 (hN 0 (by decide)) rfl ?_
  refine g_iload_n hC dJ6_bitCount_0f7a4_48 rfl ?_
  refine g_bipush (v := 63) hC dJ6_bitCount_0f7a4_49 (by decide) ?_
  refine g_iand hC dJ6_bitCount_0f7a4_51 ?_
  exact g_iret hC rfl (by decide) (by decide) dJ6_bitCount_0f7a4_52 (fun _ => ⟨_, rfl, hw⟩)
set_option maxRecDepth 4000 in
theorem c_J6_bitCount_0f7a4 {Z : Fx} {ps ts : List (Nat × Nat × Nat)} {d : Nat} (hd : 0 ≤ d) {σ : Mem} {x0 : Int32} {Q : Int32 → Mem → Prop} (hw : w_J6_bitCount_0f7a4 σ x0 Q) : mM Z ps ts yJ6_bitCount_0f7a4 cJ6_bitCount_0f7a4 1 (some .int) d 0 0 [.int x0] σ (qI Q) := by
  refine mM.of (by decide) (Nat.le_of_ble_eq_true rfl) rfl (fun X hZ hp ht hn hC => ?_)
  subst hZ; subst hp; subst ht
  exact t_J6_bitCount_0f7a4 hC hd (fun i h => by rw [hn]; exact h) hw
def w_J7_fill_53178_22_5 (Q : Mem → Prop) : Nat → Int32 → Int32 → Int32 → Mem → Prop
  | 0, _, _, _, _ => False
  | n + 1, x1, x2, x3, σ => (x3 ≤ x2 → (Q σ)) ∧ (¬ x3 ≤ x2 → (vp_in x2 9 ∧ (w_J7_fill_53178_22_5 Q n x1 (x2 + 1) x3 (sI σ 22 (Int32.toNatClampNeg x2) x1))))
set_option maxRecDepth 4000 in
set_option maxHeartbeats 2000000 in
theorem t_J7_fill_53178_22_5 {X : Cx} {d : Nat} (hC : mOK X cJ7_fill_53178 RJ7 "fill" none d 0 0) (hd : 0 ≤ d) (hN : ∀ i, i < 4 → i < xN X) (hP : ∀ e ∈ psG, e ∈ xP X) (hT : ∀ e ∈ tsG, e ∈ xT X) (hF : ∀ e ∈ xP X, e ∈ psA) {Q : Mem → Prop} : ∀ (n : Nat) (x1 : Int32) (x2 : Int32) (x3 : Int32) (σ : Mem), w_J7_fill_53178_22_5 Q n x1 x2 x3 σ → mG X 5 [(0, .ref (xB X + 22)), (1, .int x1), (2, .int x2), (3, .int x3)] [] σ 0 0 (mQ X 0 0 (qV Q)) := by
  intro n
  induction n with
  | zero => intro x1 x2 x3 σ hw; exact False.elim hw
  | succ n ih =>
    intro x1 x2 x3 σ hw
    rw [w_J7_fill_53178_22_5] at hw
    refine g_iload_n hC dJ7_fill_53178_5 rfl ?_
    refine g_iload_n hC dJ7_fill_53178_6 rfl ?_
    refine g_icmp_ge (tgt := 20) hC dJ7_fill_53178_7 rfl (fun c => ?_) (fun c => ?_)
    · replace hw := hw.1 c
      exact g_vret hC (by decide) (by decide) dJ7_fill_53178_20 (fun _ => ⟨rfl, hw⟩)
    · replace hw := hw.2 c
      refine g_aload_n hC dJ7_fill_53178_10 rfl ?_
      refine g_iload_n hC dJ7_fill_53178_11 rfl ?_
      refine g_iload_n hC dJ7_fill_53178_12 rfl ?_
      have hin := hw.1
      replace hw := hw.2
      refine g_iastS (k := (Int32.toNatClampNeg x2)) hC (hT _ tg_G_22) rfl hin dJ7_fill_53178_13 ?_
      refine g_iinc (v := x2 + 1) (lv' := [(2, .int (x2 + 1)), (0, .ref (xB X + 22)), (1, .int x1), (3, .int x3)]) hC dJ7_fill_53178_14 rfl rfl (hN 2 (by decide)) rfl ?_
      refine g_goto (tgt := 5) hC dJ7_fill_53178_17 rfl ?_
      refine mG.pick (lv' := [(0, .ref (xB X + 22)), (1, .int x1), (2, .int (x2 + 1)), (3, .int x3)]) [1, 2, 0, 3] rfl ?_
      exact ih _ _ _ _ hw
def w_J7_fill_53178_22 (σ : Mem) (x1 : Int32) (Q : Mem → Prop) : Prop := ∃ m101 : Nat, w_J7_fill_53178_22_5 Q m101 x1 0 9 σ
set_option maxRecDepth 4000 in
set_option maxHeartbeats 2000000 in
theorem t_J7_fill_53178_22 {X : Cx} {d : Nat} (hC : mOK X cJ7_fill_53178 RJ7 "fill" none d 0 0) (hd : 0 ≤ d) (hN : ∀ i, i < 4 → i < xN X) (hP : ∀ e ∈ psG, e ∈ xP X) (hT : ∀ e ∈ tsG, e ∈ xT X) (hF : ∀ e ∈ xP X, e ∈ psA) {σ : Mem} {x1 : Int32} {Q : Mem → Prop} (hw : w_J7_fill_53178_22 σ x1 Q) : mG X 0 [(0, .ref (xB X + 22)), (1, .int x1)] [] σ 0 0 (mQ X 0 0 (qV Q)) := by
  refine g_iconst (v := 0) hC dJ7_fill_53178_0 (by decide) ?_
  refine g_istore_n (lv' := [(2, .int 0), (0, .ref (xB X + 22)), (1, .int x1)]) hC dJ7_fill_53178_1 (hN 2 (by decide)) rfl ?_
  refine g_aload_n hC dJ7_fill_53178_2 rfl ?_
  refine g_alenS hC (hT _ tg_G_22) (by decide) (by decide) dJ7_fill_53178_3 ?_
  refine mG.st (st1 := [.int 9]) rfl ?_
  refine g_istore_n (lv' := [(3, .int 9), (2, .int 0), (0, .ref (xB X + 22)), (1, .int x1)]) hC dJ7_fill_53178_4 (hN 3 (by decide)) rfl ?_
  refine mG.pick (lv' := [(0, .ref (xB X + 22)), (1, .int x1), (2, .int 0), (3, .int 9)]) [2, 3, 1, 0] rfl ?_
  obtain ⟨m101, hw⟩ := hw
  exact t_J7_fill_53178_22_5 hC hd hN hP hT hF m101 _ _ _ _ hw
set_option maxRecDepth 4000 in
theorem c_J7_fill_53178_22 {Z : Fx} {ps ts : List (Nat × Nat × Nat)} {d : Nat} (hd : 0 ≤ d) (hP : ∀ e ∈ psG, e ∈ ps) (hT : ∀ e ∈ tsG, e ∈ ts) (hF : ∀ e ∈ ps, e ∈ psA) {σ : Mem} {x1 : Int32} {Q : Mem → Prop} (hw : w_J7_fill_53178_22 σ x1 Q) : mM Z ps ts yJ7_fill_53178 cJ7_fill_53178 4 none d 0 0 [.ref (Z.2.2 + 22), .int x1] σ (qV Q) := by
  refine mM.of (by decide) (Nat.le_of_ble_eq_true rfl) rfl (fun X hZ hp ht hn hC => ?_)
  subst hZ; subst hp; subst ht
  exact t_J7_fill_53178_22 hC hd (fun i h => by rw [hn]; exact h) hP hT hF hw
def w_X7_isMissing (σ : Mem) (a0 : Nat) (Q : Int32 → Mem → Prop) : Prop := mT σ a0 = some (7, 0) ∧ ((¬ (mI σ a0 1) = (-1) → (Q 0 σ)) ∧ ((mI σ a0 1) = (-1) → (Q 1 σ)))
set_option maxRecDepth 4000 in
set_option maxHeartbeats 2000000 in
theorem t_X7_isMissing {X : Cx} {d : Nat} (hC : mOK X cX7_isMissing RX7 "isMissing" (some .boolean) d 0 0) (hd : 0 ≤ d) (hN : ∀ i, i < 1 → i < xN X) {σ : Mem} {a0 : Nat} {Q : Int32 → Mem → Prop} (hw : w_X7_isMissing σ a0 Q) : mG X 0 [(0, .ref (xB X + a0))] [] σ 0 0 (mQ X 0 0 (qI Q)) := by
  refine g_aload_n hC dX7_isMissing_0 rfl ?_
  refine g_getiv (v := (mI σ a0 1)) hC fl_X7_15_7.s hw.1 rfl dX7_isMissing_1 ?_
  replace hw := hw.2
  refine g_iconst (v := (-1)) hC dX7_isMissing_4 (by decide) ?_
  refine g_icmp_ne (tgt := 12) hC dX7_isMissing_5 rfl (fun c => ?_) (fun c => ?_)
  · replace hw := hw.1 c
    refine g_iconst (v := 0) hC dX7_isMissing_12 (by decide) ?_
    exact g_iret hC bz0 (by decide) (by decide) dX7_isMissing_13 (fun _ => ⟨_, rfl, hw⟩)
  · replace hw := hw.2 c
    refine g_iconst (v := 1) hC dX7_isMissing_8 (by decide) ?_
    refine g_goto (tgt := 13) hC dX7_isMissing_9 rfl ?_
    exact g_iret hC bz1 (by decide) (by decide) dX7_isMissing_13 (fun _ => ⟨_, rfl, hw⟩)
set_option maxRecDepth 4000 in
theorem c_X7_isMissing {Z : Fx} {ps ts : List (Nat × Nat × Nat)} {d : Nat} (hd : 0 ≤ d) {σ : Mem} {a0 : Nat} {Q : Int32 → Mem → Prop} (hw : w_X7_isMissing σ a0 Q) : mM Z ps ts yX7_isMissing cX7_isMissing 1 (some .boolean) d 0 0 [.ref (Z.2.2 + a0)] σ (qI Q) := by
  refine mM.of (by decide) (Nat.le_of_ble_eq_true rfl) rfl (fun X hZ hp ht hn hC => ?_)
  subst hZ; subst hp; subst ht
  exact t_X7_isMissing hC hd (fun i h => by rw [hn]; exact h) hw
def w_X1_has_9 (σ : Mem) (x1 : Int32) (Q : Int32 → Mem → Prop) : Prop := (x1 < 0 → (Q 0 σ)) ∧ (¬ x1 < 0 → (((mI σ 9 2) ≤ x1 → (Q 0 σ)) ∧ (¬ (mI σ 9 2) ≤ x1 → (Q 1 σ))))
set_option maxRecDepth 4000 in
set_option maxHeartbeats 2000000 in
theorem t_X1_has_9 {X : Cx} {d : Nat} (hC : mOK X cX1_has RX1 "has" (some .boolean) d 0 0) (hd : 0 ≤ d) (hN : ∀ i, i < 2 → i < xN X) (hP : ∀ e ∈ psG, e ∈ xP X) (hT : ∀ e ∈ tsG, e ∈ xT X) (hF : ∀ e ∈ xP X, e ∈ psA) {σ : Mem} {x1 : Int32} {Q : Int32 → Mem → Prop} (hw : w_X1_has_9 σ x1 Q) : mG X 0 [(0, .ref (xB X + 9)), (1, .int x1)] [] σ 0 0 (mQ X 0 0 (qI Q)) := by
  refine g_iload_n hC dX1_has_0 rfl ?_
  refine g_if_lt (tgt := 16) hC dX1_has_1 rfl (fun c => ?_) (fun c => ?_)
  · replace hw := hw.1 c
    refine g_iconst (v := 0) hC dX1_has_16 (by decide) ?_
    exact g_iret hC bz0 (by decide) (by decide) dX1_has_17 (fun _ => ⟨_, rfl, hw⟩)
  · replace hw := hw.2 c
    refine g_iload_n hC dX1_has_4 rfl ?_
    refine g_aload_n hC dX1_has_5 rfl ?_
    refine g_getiSv (v := (mI σ 9 2)) hC fl_X1_24_1.s (hT _ tg_G_9) rfl dX1_has_6 ?_
    refine g_icmp_ge (tgt := 16) hC dX1_has_9 rfl (fun c => ?_) (fun c => ?_)
    · replace hw := hw.1 c
      refine g_iconst (v := 0) hC dX1_has_16 (by decide) ?_
      exact g_iret hC bz0 (by decide) (by decide) dX1_has_17 (fun _ => ⟨_, rfl, hw⟩)
    · replace hw := hw.2 c
      refine g_iconst (v := 1) hC dX1_has_12 (by decide) ?_
      refine g_goto (tgt := 17) hC dX1_has_13 rfl ?_
      exact g_iret hC bz1 (by decide) (by decide) dX1_has_17 (fun _ => ⟨_, rfl, hw⟩)
set_option maxRecDepth 4000 in
theorem c_X1_has_9 {Z : Fx} {ps ts : List (Nat × Nat × Nat)} {d : Nat} (hd : 0 ≤ d) (hP : ∀ e ∈ psG, e ∈ ps) (hT : ∀ e ∈ tsG, e ∈ ts) (hF : ∀ e ∈ ps, e ∈ psA) {σ : Mem} {x1 : Int32} {Q : Int32 → Mem → Prop} (hw : w_X1_has_9 σ x1 Q) : mM Z ps ts yX1_has cX1_has 2 (some .boolean) d 0 0 [.ref (Z.2.2 + 9), .int x1] σ (qI Q) := by
  refine mM.of (by decide) (Nat.le_of_ble_eq_true rfl) rfl (fun X hZ hp ht hn hC => ?_)
  subst hZ; subst hp; subst ht
  exact t_X1_has_9 hC hd (fun i h => by rw [hn]; exact h) hP hT hF hw
def w_X1_heightOf_9 (σ : Mem) (x1 : Int32) (Q : Int32 → Mem → Prop) : Prop := (x1 < 0 → (Q 0 σ)) ∧ (¬ x1 < 0 → (((mI σ 9 2) ≤ x1 → (Q 0 σ)) ∧ (¬ (mI σ 9 2) ≤ x1 → (vp_in x1 8 ∧ (Q (mI σ 11 (Int32.toNatClampNeg x1)) σ)))))
set_option maxRecDepth 4000 in
set_option maxHeartbeats 2000000 in
theorem t_X1_heightOf_9 {X : Cx} {d : Nat} (hC : mOK X cX1_heightOf RX1 "heightOf" (some .int) d 0 0) (hd : 0 ≤ d) (hN : ∀ i, i < 2 → i < xN X) (hP : ∀ e ∈ psG, e ∈ xP X) (hT : ∀ e ∈ tsG, e ∈ xT X) (hF : ∀ e ∈ xP X, e ∈ psA) {σ : Mem} {x1 : Int32} {Q : Int32 → Mem → Prop} (hw : w_X1_heightOf_9 σ x1 Q) : mG X 0 [(0, .ref (xB X + 9)), (1, .int x1)] [] σ 0 0 (mQ X 0 0 (qI Q)) := by
  refine g_iload_n hC dX1_heightOf_0 rfl ?_
  refine g_if_lt (tgt := 21) hC dX1_heightOf_1 rfl (fun c => ?_) (fun c => ?_)
  · replace hw := hw.1 c
    refine g_iconst (v := 0) hC dX1_heightOf_21 (by decide) ?_
    exact g_iret hC rfl (by decide) (by decide) dX1_heightOf_22 (fun _ => ⟨_, rfl, hw⟩)
  · replace hw := hw.2 c
    refine g_iload_n hC dX1_heightOf_4 rfl ?_
    refine g_aload_n hC dX1_heightOf_5 rfl ?_
    refine g_getiSv (v := (mI σ 9 2)) hC fl_X1_24_1.s (hT _ tg_G_9) rfl dX1_heightOf_6 ?_
    refine g_icmp_ge (tgt := 21) hC dX1_heightOf_9 rfl (fun c => ?_) (fun c => ?_)
    · replace hw := hw.1 c
      refine g_iconst (v := 0) hC dX1_heightOf_21 (by decide) ?_
      exact g_iret hC rfl (by decide) (by decide) dX1_heightOf_22 (fun _ => ⟨_, rfl, hw⟩)
    · replace hw := hw.2 c
      refine g_aload_n hC dX1_heightOf_12 rfl ?_
      refine g_getrS hC fl_X1_15_1.s (hT _ tg_G_9) (hP _ pt_G_9_1) dX1_heightOf_13 ?_
      refine g_iload_n hC dX1_heightOf_16 rfl ?_
      refine g_ialdSv (v := (mI σ 11 (Int32.toNatClampNeg x1))) hC (hT _ tg_G_11) rfl hw.1 rfl dX1_heightOf_17 ?_
      replace hw := hw.2
      refine g_goto (tgt := 22) hC dX1_heightOf_18 rfl ?_
      exact g_iret hC rfl (by decide) (by decide) dX1_heightOf_22 (fun _ => ⟨_, rfl, hw⟩)
set_option maxRecDepth 4000 in
theorem c_X1_heightOf_9 {Z : Fx} {ps ts : List (Nat × Nat × Nat)} {d : Nat} (hd : 0 ≤ d) (hP : ∀ e ∈ psG, e ∈ ps) (hT : ∀ e ∈ tsG, e ∈ ts) (hF : ∀ e ∈ ps, e ∈ psA) {σ : Mem} {x1 : Int32} {Q : Int32 → Mem → Prop} (hw : w_X1_heightOf_9 σ x1 Q) : mM Z ps ts yX1_heightOf cX1_heightOf 2 (some .int) d 0 0 [.ref (Z.2.2 + 9), .int x1] σ (qI Q) := by
  refine mM.of (by decide) (Nat.le_of_ble_eq_true rfl) rfl (fun X hZ hp ht hn hC => ?_)
  subst hZ; subst hp; subst ht
  exact t_X1_heightOf_9 hC hd (fun i h => by rw [hn]; exact h) hP hT hF hw
def w_X1_topOf_9 (σ : Mem) (x1 : Int32) (Q : Int32 → Mem → Prop) : Prop := w_X1_heightOf_9 σ x1 (fun v101 s103 => (v101 ≤ 0 → (Q (-1) s103)) ∧ (¬ v101 ≤ 0 → (vp_in (((x1 * 8) + v101) - 1) 64 ∧ (Q (mI s103 10 (Int32.toNatClampNeg (((x1 * 8) + v101) - 1))) s103))))
set_option maxRecDepth 4000 in
set_option maxHeartbeats 2000000 in
theorem t_X1_topOf_9 {X : Cx} {d : Nat} (hC : mOK X cX1_topOf RX1 "topOf" (some .int) d 0 0) (hd : 1 ≤ d) (hN : ∀ i, i < 3 → i < xN X) (hP : ∀ e ∈ psG, e ∈ xP X) (hT : ∀ e ∈ tsG, e ∈ xT X) (hF : ∀ e ∈ xP X, e ∈ psA) {σ : Mem} {x1 : Int32} {Q : Int32 → Mem → Prop} (hw : w_X1_topOf_9 σ x1 Q) : mG X 0 [(0, .ref (xB X + 9)), (1, .int x1)] [] σ 0 0 (mQ X 0 0 (qI Q)) := by
  refine g_aload_n hC dX1_topOf_0 rfl ?_
  refine g_iload_n hC dX1_topOf_1 rfl ?_
  refine g_known (fun hS => ?_)
  refine mG.st (st1 := ([.int x1] : List Value).reverse ++ .ref (xB X + 9) :: []) rfl ?_
  refine g_callV (As := [.int x1]) (st := []) hC (hS.2 _ (hT _ tg_G_9)) (by decide) ycl_1_X1_heightOf yw_X1_heightOf yv_X1_heightOf tw_258 dX1_topOf_2 (fun _ h => h) (fun _ h => h) (fun h => h) (c_X1_heightOf_9 (d := 0) (Nat.le_refl _) hP hT hF hw) rfl (Nat.le_of_ble_eq_true rfl) (by omega) (by decide) (by decide) (kI fun v101 s103 hw => ?_)
  refine g_istore_n (lv' := [(2, .int v101), (0, .ref (xB X + 9)), (1, .int x1)]) hC dX1_topOf_5 (hN 2 (by decide)) rfl ?_
  refine g_iload_n hC dX1_topOf_6 rfl ?_
  refine g_if_le (tgt := 26) hC dX1_topOf_7 rfl (fun c => ?_) (fun c => ?_)
  · replace hw := hw.1 c
    refine g_iconst (v := (-1)) hC dX1_topOf_26 (by decide) ?_
    exact g_iret hC rfl (by decide) (by decide) dX1_topOf_27 (fun _ => ⟨_, rfl, hw⟩)
  · replace hw := hw.2 c
    refine g_aload_n hC dX1_topOf_10 rfl ?_
    refine g_getrS hC fl_X1_9_1.s (hT _ tg_G_9) (hP _ pt_G_9_0) dX1_topOf_11 ?_
    refine g_iload_n hC dX1_topOf_14 rfl ?_
    refine g_bipush (v := 8) hC dX1_topOf_15 (by decide) ?_
    refine g_imul hC dX1_topOf_17 ?_
    refine g_iload_n hC dX1_topOf_18 rfl ?_
    refine g_iadd hC dX1_topOf_19 ?_
    refine g_iconst (v := 1) hC dX1_topOf_20 (by decide) ?_
    refine g_isub hC dX1_topOf_21 ?_
    refine g_ialdSv (v := (mI s103 10 (Int32.toNatClampNeg (((x1 * 8) + v101) - 1)))) hC (hT _ tg_G_10) rfl hw.1 rfl dX1_topOf_22 ?_
    replace hw := hw.2
    refine g_goto (tgt := 27) hC dX1_topOf_23 rfl ?_
    exact g_iret hC rfl (by decide) (by decide) dX1_topOf_27 (fun _ => ⟨_, rfl, hw⟩)
set_option maxRecDepth 4000 in
theorem c_X1_topOf_9 {Z : Fx} {ps ts : List (Nat × Nat × Nat)} {d : Nat} (hd : 1 ≤ d) (hP : ∀ e ∈ psG, e ∈ ps) (hT : ∀ e ∈ tsG, e ∈ ts) (hF : ∀ e ∈ ps, e ∈ psA) {σ : Mem} {x1 : Int32} {Q : Int32 → Mem → Prop} (hw : w_X1_topOf_9 σ x1 Q) : mM Z ps ts yX1_topOf cX1_topOf 3 (some .int) d 0 0 [.ref (Z.2.2 + 9), .int x1] σ (qI Q) := by
  refine mM.of (by decide) (Nat.le_of_ble_eq_true rfl) rfl (fun X hZ hp ht hn hC => ?_)
  subst hZ; subst hp; subst ht
  exact t_X1_topOf_9 hC hd (fun i h => by rw [hn]; exact h) hP hT hF hw
def w_X1_put_9_48 (Q : Mem → Prop) (x1 : Int32) (x2 : Int32) (σ : Mem) : Prop := w_X1_has_9 σ x1 (fun v101 s103 => (v101 = 0 → (Q s103)) ∧ (¬ v101 = 0 → (vp_in x1 8 ∧ (((mI s103 11 (Int32.toNatClampNeg x1)) < 8 → (vp_in x2 8 ∧ (w_X1_topOf_9 (sI s103 12 (Int32.toNatClampNeg x2) x1) x1 (fun v104 s106 => vp_in x2 8 ∧ (vp_in x1 8 ∧ (vp_in ((x1 * 8) + (mI s106 11 (Int32.toNatClampNeg x1))) 64 ∧ (vp_in x1 8 ∧ (∀ v107 : Int32, v107 = ((mI s106 11 (Int32.toNatClampNeg x1)) + 1) → (vp_in x1 8 ∧ (Q (sI (sI (sI s106 13 (Int32.toNatClampNeg x2) v104) 10 (Int32.toNatClampNeg ((x1 * 8) + (mI s106 11 (Int32.toNatClampNeg x1)))) x2) 11 (Int32.toNatClampNeg x1) v107))))))))))) ∧ (¬ (mI s103 11 (Int32.toNatClampNeg x1)) < 8 → (Q s103))))))
set_option maxRecDepth 4000 in
set_option maxHeartbeats 2000000 in
theorem t_X1_put_9_48 {X : Cx} {d : Nat} (hC : mOK X cX1_put RX1 "put" none d 0 0) (hd : 2 ≤ d) (hN : ∀ i, i < 3 → i < xN X) (hP : ∀ e ∈ psG, e ∈ xP X) (hT : ∀ e ∈ tsG, e ∈ xT X) (hF : ∀ e ∈ xP X, e ∈ psA) {Q : Mem → Prop} {x1 : Int32} {x2 : Int32} {σ : Mem} (hw : w_X1_put_9_48 Q x1 x2 σ) : mG X 48 [(0, .ref (xB X + 9)), (1, .int x1), (2, .int x2)] [] σ 0 0 (mQ X 0 0 (qV Q)) := by
  refine g_aload_n hC dX1_put_48 rfl ?_
  refine g_iload_n hC dX1_put_49 rfl ?_
  refine g_known (fun hS => ?_)
  refine mG.st (st1 := ([.int x1] : List Value).reverse ++ .ref (xB X + 9) :: []) rfl ?_
  refine g_callV (As := [.int x1]) (st := []) hC (hS.2 _ (hT _ tg_G_9)) (by decide) ycl_1_X1_has yw_X1_has yv_X1_has tw_279 dX1_put_50 (fun _ h => h) (fun _ h => h) (fun h => h) (c_X1_has_9 (d := 0) (Nat.le_refl _) hP hT hF hw) rfl (Nat.le_of_ble_eq_true rfl) (by omega) (by decide) (by decide) (kI fun v101 s103 hw => ?_)
  refine g_if_eq (tgt := 67) hC dX1_put_53 rfl (fun c => ?_) (fun c => ?_)
  · replace hw := hw.1 c
    exact g_vret hC (by decide) (by decide) dX1_put_67 (fun _ => ⟨rfl, hw⟩)
  · replace hw := hw.2 c
    refine g_aload_n hC dX1_put_56 rfl ?_
    refine g_getrS hC fl_X1_15_1.s (hT _ tg_G_9) (hP _ pt_G_9_1) dX1_put_57 ?_
    refine g_iload_n hC dX1_put_60 rfl ?_
    refine g_ialdSv (v := (mI s103 11 (Int32.toNatClampNeg x1))) hC (hT _ tg_G_11) rfl hw.1 rfl dX1_put_61 ?_
    replace hw := hw.2
    refine g_bipush (v := 8) hC dX1_put_62 (by decide) ?_
    refine g_icmp_lt (tgt := 68) hC dX1_put_64 rfl (fun c => ?_) (fun c => ?_)
    · replace hw := hw.1 c
      refine g_aload_n hC dX1_put_68 rfl ?_
      refine g_getrS hC fl_X1_18_1.s (hT _ tg_G_9) (hP _ pt_G_9_3) dX1_put_69 ?_
      refine g_iload_n hC dX1_put_72 rfl ?_
      refine g_iload_n hC dX1_put_73 rfl ?_
      have hin := hw.1
      replace hw := hw.2
      refine g_iastS (k := (Int32.toNatClampNeg x2)) hC (hT _ tg_G_12) rfl hin dX1_put_74 ?_
      refine g_aload_n hC dX1_put_75 rfl ?_
      refine g_getrS hC fl_X1_21_1.s (hT _ tg_G_9) (hP _ pt_G_9_4) dX1_put_76 ?_
      refine g_iload_n hC dX1_put_79 rfl ?_
      refine g_aload_n hC dX1_put_80 rfl ?_
      refine g_iload_n hC dX1_put_81 rfl ?_
      refine g_known (fun hS => ?_)
      refine mG.st (st1 := ([.int x1] : List Value).reverse ++ .ref (xB X + 9) :: [.int x2, .ref (xB X + 13)]) rfl ?_
      refine g_callV (As := [.int x1]) (st := [.int x2, .ref (xB X + 13)]) hC (hS.2 _ (hT _ tg_G_9)) (by decide) ycl_1_X1_topOf yw_X1_topOf yv_X1_topOf tw_280 dX1_put_82 (fun _ h => h) (fun _ h => h) (fun h => h) (c_X1_topOf_9 (d := 1) (Nat.le_refl _) hP hT hF hw) rfl (Nat.le_of_ble_eq_true rfl) (by omega) (by decide) (by decide) (kI fun v104 s106 hw => ?_)
      have hin := hw.1
      replace hw := hw.2
      refine g_iastS (k := (Int32.toNatClampNeg x2)) hC (hT _ tg_G_13) rfl hin dX1_put_85 ?_
      refine g_aload_n hC dX1_put_86 rfl ?_
      refine g_getrS hC fl_X1_9_1.s (hT _ tg_G_9) (hP _ pt_G_9_0) dX1_put_87 ?_
      refine g_iload_n hC dX1_put_90 rfl ?_
      refine g_bipush (v := 8) hC dX1_put_91 (by decide) ?_
      refine g_imul hC dX1_put_93 ?_
      refine g_aload_n hC dX1_put_94 rfl ?_
      refine g_getrS hC fl_X1_15_1.s (hT _ tg_G_9) (hP _ pt_G_9_1) dX1_put_95 ?_
      refine g_iload_n hC dX1_put_98 rfl ?_
      refine g_ialdSv (v := (mI s106 11 (Int32.toNatClampNeg x1))) hC (hT _ tg_G_11) rfl hw.1 (mI_sI_n _ _ (by decide)) dX1_put_99 ?_
      replace hw := hw.2
      refine g_iadd hC dX1_put_100 ?_
      refine g_iload_n hC dX1_put_101 rfl ?_
      have hin := hw.1
      replace hw := hw.2
      refine g_iastS (k := (Int32.toNatClampNeg ((x1 * 8) + (mI s106 11 (Int32.toNatClampNeg x1))))) hC (hT _ tg_G_10) rfl hin dX1_put_102 ?_
      refine g_aload_n hC dX1_put_103 rfl ?_
      refine g_getrS hC fl_X1_15_1.s (hT _ tg_G_9) (hP _ pt_G_9_1) dX1_put_104 ?_
      refine g_iload_n hC dX1_put_107 rfl ?_
      refine g_dup2 hC dX1_put_108 rfl rfl ?_
      refine g_ialdSv (v := (mI s106 11 (Int32.toNatClampNeg x1))) hC (hT _ tg_G_11) rfl hw.1 ((mI_sI_n _ _ (by decide)).trans (mI_sI_n _ _ (by decide))) dX1_put_109 ?_
      replace hw := hw.2
      refine g_iconst (v := 1) hC dX1_put_110 (by decide) ?_
      refine g_iadd hC dX1_put_111 ?_
      refine g_topi (fun v107 ev107 => ?_)
      replace hw := hw v107 ev107
      have hin := hw.1
      replace hw := hw.2
      refine g_iastS (k := (Int32.toNatClampNeg x1)) hC (hT _ tg_G_11) rfl hin dX1_put_112 ?_
      exact g_vret hC (by decide) (by decide) dX1_put_113 (fun _ => ⟨rfl, hw⟩)
    · replace hw := hw.2 c
      exact g_vret hC (by decide) (by decide) dX1_put_67 (fun _ => ⟨rfl, hw⟩)
def w_X1_put_9 (σ : Mem) (x1 : Int32) (x2 : Int32) (Q : Mem → Prop) : Prop := (x2 < 0 → (Q σ)) ∧ (¬ x2 < 0 → ((x2 < 8 → ((¬ x1 = (mI σ 9 2) → (w_X1_put_9_48 Q x1 x2 σ)) ∧ (x1 = (mI σ 9 2) → ((8 ≤ (mI σ 9 2) → (w_X1_put_9_48 Q x1 x2 σ)) ∧ (¬ 8 ≤ (mI σ 9 2) → (vp_in (mI σ 9 2) 8 ∧ (w_X1_put_9_48 Q x1 x2 (sI (sI σ 11 (Int32.toNatClampNeg (mI σ 9 2)) 0) 9 2 ((mI σ 9 2) + 1))))))))) ∧ (¬ x2 < 8 → (Q σ))))
set_option maxRecDepth 4000 in
set_option maxHeartbeats 2000000 in
theorem t_X1_put_9 {X : Cx} {d : Nat} (hC : mOK X cX1_put RX1 "put" none d 0 0) (hd : 2 ≤ d) (hN : ∀ i, i < 3 → i < xN X) (hP : ∀ e ∈ psG, e ∈ xP X) (hT : ∀ e ∈ tsG, e ∈ xT X) (hF : ∀ e ∈ xP X, e ∈ psA) {σ : Mem} {x1 : Int32} {x2 : Int32} {Q : Mem → Prop} (hw : w_X1_put_9 σ x1 x2 Q) : mG X 0 [(0, .ref (xB X + 9)), (1, .int x1), (2, .int x2)] [] σ 0 0 (mQ X 0 0 (qV Q)) := by
  refine g_iload_n hC dX1_put_0 rfl ?_
  refine g_if_lt (tgt := 10) hC dX1_put_1 rfl (fun c => ?_) (fun c => ?_)
  · replace hw := hw.1 c
    exact g_vret hC (by decide) (by decide) dX1_put_10 (fun _ => ⟨rfl, hw⟩)
  · replace hw := hw.2 c
    refine g_iload_n hC dX1_put_4 rfl ?_
    refine g_bipush (v := 8) hC dX1_put_5 (by decide) ?_
    refine g_icmp_lt (tgt := 11) hC dX1_put_7 rfl (fun c => ?_) (fun c => ?_)
    · replace hw := hw.1 c
      refine g_iload_n hC dX1_put_11 rfl ?_
      refine g_aload_n hC dX1_put_12 rfl ?_
      refine g_getiSv (v := (mI σ 9 2)) hC fl_X1_24_1.s (hT _ tg_G_9) rfl dX1_put_13 ?_
      refine g_icmp_ne (tgt := 48) hC dX1_put_16 rfl (fun c => ?_) (fun c => ?_)
      · replace hw := hw.1 c
        refine mG.pick (lv' := [(0, .ref (xB X + 9)), (1, .int x1), (2, .int x2)]) [0, 1, 2] rfl ?_
        exact t_X1_put_9_48 hC hd hN hP hT hF hw
      · replace hw := hw.2 c
        refine g_aload_n hC dX1_put_19 rfl ?_
        refine g_getiSv (v := (mI σ 9 2)) hC fl_X1_24_1.s (hT _ tg_G_9) rfl dX1_put_20 ?_
        refine g_bipush (v := 8) hC dX1_put_23 (by decide) ?_
        refine g_icmp_ge (tgt := 48) hC dX1_put_25 rfl (fun c => ?_) (fun c => ?_)
        · replace hw := hw.1 c
          refine mG.pick (lv' := [(0, .ref (xB X + 9)), (1, .int x1), (2, .int x2)]) [0, 1, 2] rfl ?_
          exact t_X1_put_9_48 hC hd hN hP hT hF hw
        · replace hw := hw.2 c
          refine g_aload_n hC dX1_put_28 rfl ?_
          refine g_getrS hC fl_X1_15_1.s (hT _ tg_G_9) (hP _ pt_G_9_1) dX1_put_29 ?_
          refine g_aload_n hC dX1_put_32 rfl ?_
          refine g_getiSv (v := (mI σ 9 2)) hC fl_X1_24_1.s (hT _ tg_G_9) rfl dX1_put_33 ?_
          refine g_iconst (v := 0) hC dX1_put_36 (by decide) ?_
          have hin := hw.1
          replace hw := hw.2
          refine g_iastS (k := (Int32.toNatClampNeg (mI σ 9 2))) hC (hT _ tg_G_11) rfl hin dX1_put_37 ?_
          refine g_aload_n hC dX1_put_38 rfl ?_
          refine g_dup hC dX1_put_39 rfl ?_
          refine g_getiSv (v := (mI σ 9 2)) hC fl_X1_24_1.s (hT _ tg_G_9) (mI_sI_n _ _ (by decide)) dX1_put_40 ?_
          refine g_iconst (v := 1) hC dX1_put_43 (by decide) ?_
          refine g_iadd hC dX1_put_44 ?_
          refine g_putIS hC (fw_X1_24_1 _) (hT _ tg_G_9) rfl rfl dX1_put_45 ?_
          refine mG.pick (lv' := [(0, .ref (xB X + 9)), (1, .int x1), (2, .int x2)]) [0, 1, 2] rfl ?_
          exact t_X1_put_9_48 hC hd hN hP hT hF hw
    · replace hw := hw.2 c
      exact g_vret hC (by decide) (by decide) dX1_put_10 (fun _ => ⟨rfl, hw⟩)
set_option maxRecDepth 4000 in
theorem c_X1_put_9 {Z : Fx} {ps ts : List (Nat × Nat × Nat)} {d : Nat} (hd : 2 ≤ d) (hP : ∀ e ∈ psG, e ∈ ps) (hT : ∀ e ∈ tsG, e ∈ ts) (hF : ∀ e ∈ ps, e ∈ psA) {σ : Mem} {x1 : Int32} {x2 : Int32} {Q : Mem → Prop} (hw : w_X1_put_9 σ x1 x2 Q) : mM Z ps ts yX1_put cX1_put 3 none d 0 0 [.ref (Z.2.2 + 9), .int x1, .int x2] σ (qV Q) := by
  refine mM.of (by decide) (Nat.le_of_ble_eq_true rfl) rfl (fun X hZ hp ht hn hC => ?_)
  subst hZ; subst hp; subst ht
  exact t_X1_put_9 hC hd (fun i h => by rw [hn]; exact h) hP hT hF hw
def w_X1_drop_9 (σ : Mem) (x1 : Int32) (Q : Int32 → Mem → Prop) : Prop := w_X1_topOf_9 σ x1 (fun v101 s103 => (v101 = (-1) → (Q v101 s103)) ∧ (¬ v101 = (-1) → (vp_in x1 8 ∧ (∀ v104 : Int32, v104 = ((mI s103 11 (Int32.toNatClampNeg x1)) - 1) → (vp_in x1 8 ∧ (Q v101 (sI s103 11 (Int32.toNatClampNeg x1) v104)))))))
set_option maxRecDepth 4000 in
set_option maxHeartbeats 2000000 in
theorem t_X1_drop_9 {X : Cx} {d : Nat} (hC : mOK X cX1_drop RX1 "drop" (some .int) d 0 0) (hd : 2 ≤ d) (hN : ∀ i, i < 3 → i < xN X) (hP : ∀ e ∈ psG, e ∈ xP X) (hT : ∀ e ∈ tsG, e ∈ xT X) (hF : ∀ e ∈ xP X, e ∈ psA) {σ : Mem} {x1 : Int32} {Q : Int32 → Mem → Prop} (hw : w_X1_drop_9 σ x1 Q) : mG X 0 [(0, .ref (xB X + 9)), (1, .int x1)] [] σ 0 0 (mQ X 0 0 (qI Q)) := by
  refine g_aload_n hC dX1_drop_0 rfl ?_
  refine g_iload_n hC dX1_drop_1 rfl ?_
  refine g_known (fun hS => ?_)
  refine mG.st (st1 := ([.int x1] : List Value).reverse ++ .ref (xB X + 9) :: []) rfl ?_
  refine g_callV (As := [.int x1]) (st := []) hC (hS.2 _ (hT _ tg_G_9)) (by decide) ycl_1_X1_topOf yw_X1_topOf yv_X1_topOf tw_280 dX1_drop_2 (fun _ h => h) (fun _ h => h) (fun h => h) (c_X1_topOf_9 (d := 1) (Nat.le_refl _) hP hT hF hw) rfl (Nat.le_of_ble_eq_true rfl) (by omega) (by decide) (by decide) (kI fun v101 s103 hw => ?_)
  refine g_istore_n (lv' := [(2, .int v101), (0, .ref (xB X + 9)), (1, .int x1)]) hC dX1_drop_5 (hN 2 (by decide)) rfl ?_
  refine g_iload_n hC dX1_drop_6 rfl ?_
  refine g_iconst (v := (-1)) hC dX1_drop_7 (by decide) ?_
  refine g_icmp_eq (tgt := 21) hC dX1_drop_8 rfl (fun c => ?_) (fun c => ?_)
  · replace hw := hw.1 c
    refine g_iload_n hC dX1_drop_21 rfl ?_
    exact g_iret hC rfl (by decide) (by decide) dX1_drop_22 (fun _ => ⟨_, rfl, hw⟩)
  · replace hw := hw.2 c
    refine g_aload_n hC dX1_drop_11 rfl ?_
    refine g_getrS hC fl_X1_15_1.s (hT _ tg_G_9) (hP _ pt_G_9_1) dX1_drop_12 ?_
    refine g_iload_n hC dX1_drop_15 rfl ?_
    refine g_dup2 hC dX1_drop_16 rfl rfl ?_
    refine g_ialdSv (v := (mI s103 11 (Int32.toNatClampNeg x1))) hC (hT _ tg_G_11) rfl hw.1 rfl dX1_drop_17 ?_
    replace hw := hw.2
    refine g_iconst (v := 1) hC dX1_drop_18 (by decide) ?_
    refine g_isub hC dX1_drop_19 ?_
    refine g_topi (fun v104 ev104 => ?_)
    replace hw := hw v104 ev104
    have hin := hw.1
    replace hw := hw.2
    refine g_iastS (k := (Int32.toNatClampNeg x1)) hC (hT _ tg_G_11) rfl hin dX1_drop_20 ?_
    refine g_iload_n hC dX1_drop_21 rfl ?_
    exact g_iret hC rfl (by decide) (by decide) dX1_drop_22 (fun _ => ⟨_, rfl, hw⟩)
set_option maxRecDepth 4000 in
theorem c_X1_drop_9 {Z : Fx} {ps ts : List (Nat × Nat × Nat)} {d : Nat} (hd : 2 ≤ d) (hP : ∀ e ∈ psG, e ∈ ps) (hT : ∀ e ∈ tsG, e ∈ ts) (hF : ∀ e ∈ ps, e ∈ psA) {σ : Mem} {x1 : Int32} {Q : Int32 → Mem → Prop} (hw : w_X1_drop_9 σ x1 Q) : mM Z ps ts yX1_drop cX1_drop 3 (some .int) d 0 0 [.ref (Z.2.2 + 9), .int x1] σ (qI Q) := by
  refine mM.of (by decide) (Nat.le_of_ble_eq_true rfl) rfl (fun X hZ hp ht hn hC => ?_)
  subst hZ; subst hp; subst ht
  exact t_X1_drop_9 hC hd (fun i h => by rw [hn]; exact h) hP hT hF hw
def w_X1_at_9 (σ : Mem) (x1 : Int32) (x2 : Int32) (Q : Int32 → Mem → Prop) : Prop := (x2 < 0 → (Q (-1) σ)) ∧ (¬ x2 < 0 → (w_X1_heightOf_9 σ x1 (fun v101 s103 => (x2 < v101 → (vp_in ((x1 * 8) + x2) 64 ∧ (Q (mI s103 10 (Int32.toNatClampNeg ((x1 * 8) + x2))) s103))) ∧ (¬ x2 < v101 → (Q (-1) s103)))))
set_option maxRecDepth 4000 in
set_option maxHeartbeats 2000000 in
theorem t_X1_at_9 {X : Cx} {d : Nat} (hC : mOK X cX1_at RX1 "at" (some .int) d 0 0) (hd : 1 ≤ d) (hN : ∀ i, i < 3 → i < xN X) (hP : ∀ e ∈ psG, e ∈ xP X) (hT : ∀ e ∈ tsG, e ∈ xT X) (hF : ∀ e ∈ xP X, e ∈ psA) {σ : Mem} {x1 : Int32} {x2 : Int32} {Q : Int32 → Mem → Prop} (hw : w_X1_at_9 σ x1 x2 Q) : mG X 0 [(0, .ref (xB X + 9)), (1, .int x1), (2, .int x2)] [] σ 0 0 (mQ X 0 0 (qI Q)) := by
  refine g_iload_n hC dX1_at_0 rfl ?_
  refine g_if_lt (tgt := 13) hC dX1_at_1 rfl (fun c => ?_) (fun c => ?_)
  · replace hw := hw.1 c
    refine g_iconst (v := (-1)) hC dX1_at_13 (by decide) ?_
    exact g_iret hC rfl (by decide) (by decide) dX1_at_14 (fun _ => ⟨_, rfl, hw⟩)
  · replace hw := hw.2 c
    refine g_iload_n hC dX1_at_4 rfl ?_
    refine g_aload_n hC dX1_at_5 rfl ?_
    refine g_iload_n hC dX1_at_6 rfl ?_
    refine g_known (fun hS => ?_)
    refine mG.st (st1 := ([.int x1] : List Value).reverse ++ .ref (xB X + 9) :: [.int x2]) rfl ?_
    refine g_callV (As := [.int x1]) (st := [.int x2]) hC (hS.2 _ (hT _ tg_G_9)) (by decide) ycl_1_X1_heightOf yw_X1_heightOf yv_X1_heightOf tw_258 dX1_at_7 (fun _ h => h) (fun _ h => h) (fun h => h) (c_X1_heightOf_9 (d := 0) (Nat.le_refl _) hP hT hF hw) rfl (Nat.le_of_ble_eq_true rfl) (by omega) (by decide) (by decide) (kI fun v101 s103 hw => ?_)
    refine g_icmp_lt (tgt := 15) hC dX1_at_10 rfl (fun c => ?_) (fun c => ?_)
    · replace hw := hw.1 c
      refine g_aload_n hC dX1_at_15 rfl ?_
      refine g_getrS hC fl_X1_9_1.s (hT _ tg_G_9) (hP _ pt_G_9_0) dX1_at_16 ?_
      refine g_iload_n hC dX1_at_19 rfl ?_
      refine g_bipush (v := 8) hC dX1_at_20 (by decide) ?_
      refine g_imul hC dX1_at_22 ?_
      refine g_iload_n hC dX1_at_23 rfl ?_
      refine g_iadd hC dX1_at_24 ?_
      refine g_ialdSv (v := (mI s103 10 (Int32.toNatClampNeg ((x1 * 8) + x2)))) hC (hT _ tg_G_10) rfl hw.1 rfl dX1_at_25 ?_
      replace hw := hw.2
      exact g_iret hC rfl (by decide) (by decide) dX1_at_26 (fun _ => ⟨_, rfl, hw⟩)
    · replace hw := hw.2 c
      refine g_iconst (v := (-1)) hC dX1_at_13 (by decide) ?_
      exact g_iret hC rfl (by decide) (by decide) dX1_at_14 (fun _ => ⟨_, rfl, hw⟩)
set_option maxRecDepth 4000 in
theorem c_X1_at_9 {Z : Fx} {ps ts : List (Nat × Nat × Nat)} {d : Nat} (hd : 1 ≤ d) (hP : ∀ e ∈ psG, e ∈ ps) (hT : ∀ e ∈ tsG, e ∈ ts) (hF : ∀ e ∈ ps, e ∈ psA) {σ : Mem} {x1 : Int32} {x2 : Int32} {Q : Int32 → Mem → Prop} (hw : w_X1_at_9 σ x1 x2 Q) : mM Z ps ts yX1_at cX1_at 3 (some .int) d 0 0 [.ref (Z.2.2 + 9), .int x1, .int x2] σ (qI Q) := by
  refine mM.of (by decide) (Nat.le_of_ble_eq_true rfl) rfl (fun X hZ hp ht hn hC => ?_)
  subst hZ; subst hp; subst ht
  exact t_X1_at_9 hC hd (fun i h => by rw [hn]; exact h) hP hT hF hw
def w_X1_init (σ : Mem) (a0 : Nat) (Q : Mem → Prop) : Prop := mT (mN σ (14, 64)) a0 = some (1, 0) ∧ (mT (mN (sP (mN σ (14, 64)) a0 0 (some (mL σ))) (14, 8)) a0 = some (1, 0) ∧ (mT (mN (sP (mN (sP (mN σ (14, 64)) a0 0 (some (mL σ))) (14, 8)) a0 1 (some (mL (sP (mN σ (14, 64)) a0 0 (some (mL σ)))))) (14, 8)) a0 = some (1, 0) ∧ (mT (mN (sP (mN (sP (mN (sP (mN σ (14, 64)) a0 0 (some (mL σ))) (14, 8)) a0 1 (some (mL (sP (mN σ (14, 64)) a0 0 (some (mL σ)))))) (14, 8)) a0 3 (some (mL (sP (mN (sP (mN σ (14, 64)) a0 0 (some (mL σ))) (14, 8)) a0 1 (some (mL (sP (mN σ (14, 64)) a0 0 (some (mL σ))))))))) (14, 8)) a0 = some (1, 0) ∧ (Q (sP (mN (sP (mN (sP (mN (sP (mN σ (14, 64)) a0 0 (some (mL σ))) (14, 8)) a0 1 (some (mL (sP (mN σ (14, 64)) a0 0 (some (mL σ)))))) (14, 8)) a0 3 (some (mL (sP (mN (sP (mN σ (14, 64)) a0 0 (some (mL σ))) (14, 8)) a0 1 (some (mL (sP (mN σ (14, 64)) a0 0 (some (mL σ))))))))) (14, 8)) a0 4 (some (mL (sP (mN (sP (mN (sP (mN σ (14, 64)) a0 0 (some (mL σ))) (14, 8)) a0 1 (some (mL (sP (mN σ (14, 64)) a0 0 (some (mL σ)))))) (14, 8)) a0 3 (some (mL (sP (mN (sP (mN σ (14, 64)) a0 0 (some (mL σ))) (14, 8)) a0 1 (some (mL (sP (mN σ (14, 64)) a0 0 (some (mL σ))))))))))))))))
set_option maxRecDepth 4000 in
set_option maxHeartbeats 2000000 in
theorem t_X1_init {X : Cx} {d : Nat} {a0 : Nat} (hC : mOK X cX1_init RX1 "<init>" none d 4 88) (hd : 1 ≤ d) (hN : ∀ i, i < 1 → i < xN X) (hz : ∀ e ∈ xP X, e.1 ≠ a0) {σ : Mem} {Q : Mem → Prop} (hw : w_X1_init σ a0 Q) : mG X 0 [(0, .ref (xB X + a0))] [] σ 0 0 (mQ X 4 88 (qV Q)) := by
  refine g_aload_n hC dX1_init_0 rfl ?_
  refine g_objInit hC tw_411 tw_39 tw_40 (Nat.le_of_ble_eq_true rfl) (by omega) dX1_init_1 ?_
  refine g_aload_n hC dX1_init_4 rfl ?_
  refine g_bipush (v := 64) hC dX1_init_5 (by decide) ?_
  refine g_newa (N := 64) hC na_14 (by decide) (by decide) (by decide) (by decide) (by decide) dX1_init_7 ?_
  refine mG.st (st1 := [va_rf (Option.map (fun r => xB X + r) (some (mL σ))), .ref (xB X + a0)]) rfl ?_
  refine g_putR hC fw_X1_9_1i hw.1 (fun v => by cases v <;> rfl) (fun v => by cases v <;> rfl) (fun e he h => hz e he h.1) dX1_init_9 ?_
  replace hw := hw.2
  refine g_aload_n hC dX1_init_12 rfl ?_
  refine g_bipush (v := 8) hC dX1_init_13 (by decide) ?_
  refine g_newa (N := 8) hC na_14 (by decide) (by decide) (by decide) (by decide) (by decide) dX1_init_15 ?_
  refine mG.st (st1 := [va_rf (Option.map (fun r => xB X + r) (some (mL (sP (mN σ (14, 64)) a0 0 (some (mL σ)))))), .ref (xB X + a0)]) rfl ?_
  refine g_putR hC fw_X1_15_1i hw.1 (fun v => by cases v <;> rfl) (fun v => by cases v <;> rfl) (fun e he h => hz e he h.1) dX1_init_17 ?_
  replace hw := hw.2
  refine g_aload_n hC dX1_init_20 rfl ?_
  refine g_bipush (v := 8) hC dX1_init_21 (by decide) ?_
  refine g_newa (N := 8) hC na_14 (by decide) (by decide) (by decide) (by decide) (by decide) dX1_init_23 ?_
  refine mG.st (st1 := [va_rf (Option.map (fun r => xB X + r) (some (mL (sP (mN (sP (mN σ (14, 64)) a0 0 (some (mL σ))) (14, 8)) a0 1 (some (mL (sP (mN σ (14, 64)) a0 0 (some (mL σ))))))))), .ref (xB X + a0)]) rfl ?_
  refine g_putR hC fw_X1_18_1i hw.1 (fun v => by cases v <;> rfl) (fun v => by cases v <;> rfl) (fun e he h => hz e he h.1) dX1_init_25 ?_
  replace hw := hw.2
  refine g_aload_n hC dX1_init_28 rfl ?_
  refine g_bipush (v := 8) hC dX1_init_29 (by decide) ?_
  refine g_newa (N := 8) hC na_14 (by decide) (by decide) (by decide) (by decide) (by decide) dX1_init_31 ?_
  refine mG.st (st1 := [va_rf (Option.map (fun r => xB X + r) (some (mL (sP (mN (sP (mN (sP (mN σ (14, 64)) a0 0 (some (mL σ))) (14, 8)) a0 1 (some (mL (sP (mN σ (14, 64)) a0 0 (some (mL σ)))))) (14, 8)) a0 3 (some (mL (sP (mN (sP (mN σ (14, 64)) a0 0 (some (mL σ))) (14, 8)) a0 1 (some (mL (sP (mN σ (14, 64)) a0 0 (some (mL σ)))))))))))), .ref (xB X + a0)]) rfl ?_
  refine g_putR hC fw_X1_21_1i hw.1 (fun v => by cases v <;> rfl) (fun v => by cases v <;> rfl) (fun e he h => hz e he h.1) dX1_init_33 ?_
  replace hw := hw.2
  exact g_vret hC (by decide) (by decide) dX1_init_36 (fun _ => ⟨rfl, hw⟩)
set_option maxRecDepth 4000 in
theorem c_X1_init {Z : Fx} {ps ts : List (Nat × Nat × Nat)} {d : Nat} (hd : 1 ≤ d) {a0 : Nat} (hz : ∀ e ∈ ps, e.1 ≠ a0) {σ : Mem} {Q : Mem → Prop} (hw : w_X1_init σ a0 Q) : mM Z ps ts yX1_init cX1_init 1 none d 4 88 [.ref (Z.2.2 + a0)] σ (qV Q) := by
  refine mM.of (by decide) (Nat.le_of_ble_eq_true rfl) rfl (fun X hZ hp ht hn hC => ?_)
  subst hZ; subst hp; subst ht
  exact t_X1_init hC hd (fun i h => by rw [hn]; exact h) hz hw
def w_X9_init (σ : Mem) (a0 : Nat) (Q : Mem → Prop) : Prop := w_X1_init (mN σ (1, 0)) (mL σ) (fun s103 => mT s103 a0 = some (9, 0) ∧ ((mT s103 a0 = some (9, 0) ∧ (Q (sI (sP s103 a0 0 (some (mL σ))) a0 2 9)))))
set_option maxRecDepth 4000 in
set_option maxHeartbeats 2000000 in
theorem t_X9_init {X : Cx} {d : Nat} {a0 : Nat} (hC : mOK X cX9_init RX9 "<init>" none d 5 93) (hd : 2 ≤ d) (hN : ∀ i, i < 1 → i < xN X) (hz : ∀ e ∈ xP X, e.1 ≠ a0) {σ : Mem} {Q : Mem → Prop} (hw : w_X9_init σ a0 Q) : mG X 0 [(0, .ref (xB X + a0))] [] σ 0 0 (mQ X 5 93 (qV Q)) := by
  refine g_aload_n hC dX9_init_0 rfl ?_
  refine g_objInit hC tw_409 tw_39 tw_40 (Nat.le_of_ble_eq_true rfl) (by omega) dX9_init_1 ?_
  refine g_aload_n hC dX9_init_4 rfl ?_
  refine g_known (fun hS => ?_)
  have hfz : ∀ e ∈ xP X, e.1 ≠ (mL σ) := fun e he => Nat.ne_of_lt (hS.1 e he).2
  refine g_new hC no_X9_9 (by decide) (by decide) dX9_init_5 ?_
  refine g_dup hC dX9_init_8 rfl ?_
  refine mG.st (st1 := ([] : List Value).reverse ++ .ref (xB X + (mL σ)) :: [.ref (xB X + (mL σ)), .ref (xB X + a0)]) rfl ?_
  refine g_callI (As := []) (st := [.ref (xB X + (mL σ)), .ref (xB X + a0)]) hC yw_X1_init yi_X1_init tw_410 dX9_init_9 (fun _ h => h) (fun _ h => h) (fun h => h) (c_X1_init (d := 1) (Nat.le_refl _) hfz hw) rfl (Nat.le_of_ble_eq_true rfl) (by omega) (by decide) (by decide) (kV fun s103 hw => ?_)
  refine mG.st (st1 := [va_rf (Option.map (fun r => xB X + r) (some (mL σ))), .ref (xB X + a0)]) rfl ?_
  refine g_putR hC fw_X9_12_9i hw.1 (fun v => by cases v <;> rfl) (fun v => by cases v <;> rfl) (fun e he h => hz e he h.1) dX9_init_12 ?_
  replace hw := hw.2
  refine g_aload_n hC dX9_init_15 rfl ?_
  refine g_bipush (v := 9) hC dX9_init_16 (by decide) ?_
  refine g_putI hC fw_X9_18_9i hw.1 rfl rfl dX9_init_18 ?_
  replace hw := hw.2
  exact g_vret hC (by decide) (by decide) dX9_init_21 (fun _ => ⟨rfl, hw⟩)
set_option maxRecDepth 4000 in
theorem c_X9_init {Z : Fx} {ps ts : List (Nat × Nat × Nat)} {d : Nat} (hd : 2 ≤ d) {a0 : Nat} (hz : ∀ e ∈ ps, e.1 ≠ a0) {σ : Mem} {Q : Mem → Prop} (hw : w_X9_init σ a0 Q) : mM Z ps ts yX9_init cX9_init 1 none d 5 93 [.ref (Z.2.2 + a0)] σ (qV Q) := by
  refine mM.of (by decide) (Nat.le_of_ble_eq_true rfl) rfl (fun X hZ hp ht hn hC => ?_)
  subst hZ; subst hp; subst ht
  exact t_X9_init hC hd (fun i h => by rw [hn]; exact h) hz hw
def w_X1_become_d_9 (σ : Mem) (a0 : Nat) (Q : Mem → Prop) : Prop := mT σ a0 = some (1, 0) ∧ ∃ r101 : Nat, (mP σ a0 0) = some r101 ∧ (mT σ a0 = some (1, 0) ∧ ∃ r102 : Nat, (mP σ a0 0) = some r102 ∧ (∃ n103 : Nat, mT σ r102 = some (14, n103) ∧ (∃ n117 : Nat, mT σ r101 = some (14, n117) ∧ ((¬ (0 : Int32) < 0 ∧ ¬ (0 : Int32) < 0 ∧ ¬ (nI n103) < 0 ∧ Int32.toNatClampNeg 0 + Int32.toNatClampNeg (nI n103) ≤ 64 ∧ Int32.toNatClampNeg 0 + Int32.toNatClampNeg (nI n103) ≤ n117) ∧ (mT σ a0 = some (1, 0) ∧ ∃ r104 : Nat, (mP σ a0 1) = some r104 ∧ (mT σ a0 = some (1, 0) ∧ ∃ r105 : Nat, (mP σ a0 1) = some r105 ∧ (∃ n106 : Nat, mT σ r105 = some (14, n106) ∧ (∃ n116 : Nat, mT σ r104 = some (14, n116) ∧ ((¬ (0 : Int32) < 0 ∧ ¬ (0 : Int32) < 0 ∧ ¬ (nI n106) < 0 ∧ Int32.toNatClampNeg 0 + Int32.toNatClampNeg (nI n106) ≤ 8 ∧ Int32.toNatClampNeg 0 + Int32.toNatClampNeg (nI n106) ≤ n116) ∧ (mT σ a0 = some (1, 0) ∧ ∃ r107 : Nat, (mP σ a0 3) = some r107 ∧ (mT σ a0 = some (1, 0) ∧ ∃ r108 : Nat, (mP σ a0 3) = some r108 ∧ (∃ n109 : Nat, mT σ r108 = some (14, n109) ∧ (∃ n115 : Nat, mT σ r107 = some (14, n115) ∧ ((¬ (0 : Int32) < 0 ∧ ¬ (0 : Int32) < 0 ∧ ¬ (nI n109) < 0 ∧ Int32.toNatClampNeg 0 + Int32.toNatClampNeg (nI n109) ≤ 8 ∧ Int32.toNatClampNeg 0 + Int32.toNatClampNeg (nI n109) ≤ n115) ∧ (mT σ a0 = some (1, 0) ∧ ∃ r110 : Nat, (mP σ a0 4) = some r110 ∧ (mT σ a0 = some (1, 0) ∧ ∃ r111 : Nat, (mP σ a0 4) = some r111 ∧ (∃ n112 : Nat, mT σ r111 = some (14, n112) ∧ (∃ n114 : Nat, mT σ r110 = some (14, n114) ∧ ((¬ (0 : Int32) < 0 ∧ ¬ (0 : Int32) < 0 ∧ ¬ (nI n112) < 0 ∧ Int32.toNatClampNeg 0 + Int32.toNatClampNeg (nI n112) ≤ 8 ∧ Int32.toNatClampNeg 0 + Int32.toNatClampNeg (nI n112) ≤ n114) ∧ (∀ v113 : Int32, v113 = (mI (sR (sR (sR (sR σ r101 (va_cpy (σ.1 10) (σ.1 r101) (Int32.toNatClampNeg 0) (Int32.toNatClampNeg 0) (Int32.toNatClampNeg (nI n103)))) r104 (va_cpy ((sR σ r101 (va_cpy (σ.1 10) (σ.1 r101) (Int32.toNatClampNeg 0) (Int32.toNatClampNeg 0) (Int32.toNatClampNeg (nI n103)))).1 11) ((sR σ r101 (va_cpy (σ.1 10) (σ.1 r101) (Int32.toNatClampNeg 0) (Int32.toNatClampNeg 0) (Int32.toNatClampNeg (nI n103)))).1 r104) (Int32.toNatClampNeg 0) (Int32.toNatClampNeg 0) (Int32.toNatClampNeg (nI n106)))) r107 (va_cpy ((sR (sR σ r101 (va_cpy (σ.1 10) (σ.1 r101) (Int32.toNatClampNeg 0) (Int32.toNatClampNeg 0) (Int32.toNatClampNeg (nI n103)))) r104 (va_cpy ((sR σ r101 (va_cpy (σ.1 10) (σ.1 r101) (Int32.toNatClampNeg 0) (Int32.toNatClampNeg 0) (Int32.toNatClampNeg (nI n103)))).1 11) ((sR σ r101 (va_cpy (σ.1 10) (σ.1 r101) (Int32.toNatClampNeg 0) (Int32.toNatClampNeg 0) (Int32.toNatClampNeg (nI n103)))).1 r104) (Int32.toNatClampNeg 0) (Int32.toNatClampNeg 0) (Int32.toNatClampNeg (nI n106)))).1 12) ((sR (sR σ r101 (va_cpy (σ.1 10) (σ.1 r101) (Int32.toNatClampNeg 0) (Int32.toNatClampNeg 0) (Int32.toNatClampNeg (nI n103)))) r104 (va_cpy ((sR σ r101 (va_cpy (σ.1 10) (σ.1 r101) (Int32.toNatClampNeg 0) (Int32.toNatClampNeg 0) (Int32.toNatClampNeg (nI n103)))).1 11) ((sR σ r101 (va_cpy (σ.1 10) (σ.1 r101) (Int32.toNatClampNeg 0) (Int32.toNatClampNeg 0) (Int32.toNatClampNeg (nI n103)))).1 r104) (Int32.toNatClampNeg 0) (Int32.toNatClampNeg 0) (Int32.toNatClampNeg (nI n106)))).1 r107) (Int32.toNatClampNeg 0) (Int32.toNatClampNeg 0) (Int32.toNatClampNeg (nI n109)))) r110 (va_cpy ((sR (sR (sR σ r101 (va_cpy (σ.1 10) (σ.1 r101) (Int32.toNatClampNeg 0) (Int32.toNatClampNeg 0) (Int32.toNatClampNeg (nI n103)))) r104 (va_cpy ((sR σ r101 (va_cpy (σ.1 10) (σ.1 r101) (Int32.toNatClampNeg 0) (Int32.toNatClampNeg 0) (Int32.toNatClampNeg (nI n103)))).1 11) ((sR σ r101 (va_cpy (σ.1 10) (σ.1 r101) (Int32.toNatClampNeg 0) (Int32.toNatClampNeg 0) (Int32.toNatClampNeg (nI n103)))).1 r104) (Int32.toNatClampNeg 0) (Int32.toNatClampNeg 0) (Int32.toNatClampNeg (nI n106)))) r107 (va_cpy ((sR (sR σ r101 (va_cpy (σ.1 10) (σ.1 r101) (Int32.toNatClampNeg 0) (Int32.toNatClampNeg 0) (Int32.toNatClampNeg (nI n103)))) r104 (va_cpy ((sR σ r101 (va_cpy (σ.1 10) (σ.1 r101) (Int32.toNatClampNeg 0) (Int32.toNatClampNeg 0) (Int32.toNatClampNeg (nI n103)))).1 11) ((sR σ r101 (va_cpy (σ.1 10) (σ.1 r101) (Int32.toNatClampNeg 0) (Int32.toNatClampNeg 0) (Int32.toNatClampNeg (nI n103)))).1 r104) (Int32.toNatClampNeg 0) (Int32.toNatClampNeg 0) (Int32.toNatClampNeg (nI n106)))).1 12) ((sR (sR σ r101 (va_cpy (σ.1 10) (σ.1 r101) (Int32.toNatClampNeg 0) (Int32.toNatClampNeg 0) (Int32.toNatClampNeg (nI n103)))) r104 (va_cpy ((sR σ r101 (va_cpy (σ.1 10) (σ.1 r101) (Int32.toNatClampNeg 0) (Int32.toNatClampNeg 0) (Int32.toNatClampNeg (nI n103)))).1 11) ((sR σ r101 (va_cpy (σ.1 10) (σ.1 r101) (Int32.toNatClampNeg 0) (Int32.toNatClampNeg 0) (Int32.toNatClampNeg (nI n103)))).1 r104) (Int32.toNatClampNeg 0) (Int32.toNatClampNeg 0) (Int32.toNatClampNeg (nI n106)))).1 r107) (Int32.toNatClampNeg 0) (Int32.toNatClampNeg 0) (Int32.toNatClampNeg (nI n109)))).1 13) ((sR (sR (sR σ r101 (va_cpy (σ.1 10) (σ.1 r101) (Int32.toNatClampNeg 0) (Int32.toNatClampNeg 0) (Int32.toNatClampNeg (nI n103)))) r104 (va_cpy ((sR σ r101 (va_cpy (σ.1 10) (σ.1 r101) (Int32.toNatClampNeg 0) (Int32.toNatClampNeg 0) (Int32.toNatClampNeg (nI n103)))).1 11) ((sR σ r101 (va_cpy (σ.1 10) (σ.1 r101) (Int32.toNatClampNeg 0) (Int32.toNatClampNeg 0) (Int32.toNatClampNeg (nI n103)))).1 r104) (Int32.toNatClampNeg 0) (Int32.toNatClampNeg 0) (Int32.toNatClampNeg (nI n106)))) r107 (va_cpy ((sR (sR σ r101 (va_cpy (σ.1 10) (σ.1 r101) (Int32.toNatClampNeg 0) (Int32.toNatClampNeg 0) (Int32.toNatClampNeg (nI n103)))) r104 (va_cpy ((sR σ r101 (va_cpy (σ.1 10) (σ.1 r101) (Int32.toNatClampNeg 0) (Int32.toNatClampNeg 0) (Int32.toNatClampNeg (nI n103)))).1 11) ((sR σ r101 (va_cpy (σ.1 10) (σ.1 r101) (Int32.toNatClampNeg 0) (Int32.toNatClampNeg 0) (Int32.toNatClampNeg (nI n103)))).1 r104) (Int32.toNatClampNeg 0) (Int32.toNatClampNeg 0) (Int32.toNatClampNeg (nI n106)))).1 12) ((sR (sR σ r101 (va_cpy (σ.1 10) (σ.1 r101) (Int32.toNatClampNeg 0) (Int32.toNatClampNeg 0) (Int32.toNatClampNeg (nI n103)))) r104 (va_cpy ((sR σ r101 (va_cpy (σ.1 10) (σ.1 r101) (Int32.toNatClampNeg 0) (Int32.toNatClampNeg 0) (Int32.toNatClampNeg (nI n103)))).1 11) ((sR σ r101 (va_cpy (σ.1 10) (σ.1 r101) (Int32.toNatClampNeg 0) (Int32.toNatClampNeg 0) (Int32.toNatClampNeg (nI n103)))).1 r104) (Int32.toNatClampNeg 0) (Int32.toNatClampNeg 0) (Int32.toNatClampNeg (nI n106)))).1 r107) (Int32.toNatClampNeg 0) (Int32.toNatClampNeg 0) (Int32.toNatClampNeg (nI n109)))).1 r110) (Int32.toNatClampNeg 0) (Int32.toNatClampNeg 0) (Int32.toNatClampNeg (nI n112)))) 9 2) → (mT σ a0 = some (1, 0) ∧ (Q (sI (sR (sR (sR (sR σ r101 (va_cpy (σ.1 10) (σ.1 r101) (Int32.toNatClampNeg 0) (Int32.toNatClampNeg 0) (Int32.toNatClampNeg (nI n103)))) r104 (va_cpy ((sR σ r101 (va_cpy (σ.1 10) (σ.1 r101) (Int32.toNatClampNeg 0) (Int32.toNatClampNeg 0) (Int32.toNatClampNeg (nI n103)))).1 11) ((sR σ r101 (va_cpy (σ.1 10) (σ.1 r101) (Int32.toNatClampNeg 0) (Int32.toNatClampNeg 0) (Int32.toNatClampNeg (nI n103)))).1 r104) (Int32.toNatClampNeg 0) (Int32.toNatClampNeg 0) (Int32.toNatClampNeg (nI n106)))) r107 (va_cpy ((sR (sR σ r101 (va_cpy (σ.1 10) (σ.1 r101) (Int32.toNatClampNeg 0) (Int32.toNatClampNeg 0) (Int32.toNatClampNeg (nI n103)))) r104 (va_cpy ((sR σ r101 (va_cpy (σ.1 10) (σ.1 r101) (Int32.toNatClampNeg 0) (Int32.toNatClampNeg 0) (Int32.toNatClampNeg (nI n103)))).1 11) ((sR σ r101 (va_cpy (σ.1 10) (σ.1 r101) (Int32.toNatClampNeg 0) (Int32.toNatClampNeg 0) (Int32.toNatClampNeg (nI n103)))).1 r104) (Int32.toNatClampNeg 0) (Int32.toNatClampNeg 0) (Int32.toNatClampNeg (nI n106)))).1 12) ((sR (sR σ r101 (va_cpy (σ.1 10) (σ.1 r101) (Int32.toNatClampNeg 0) (Int32.toNatClampNeg 0) (Int32.toNatClampNeg (nI n103)))) r104 (va_cpy ((sR σ r101 (va_cpy (σ.1 10) (σ.1 r101) (Int32.toNatClampNeg 0) (Int32.toNatClampNeg 0) (Int32.toNatClampNeg (nI n103)))).1 11) ((sR σ r101 (va_cpy (σ.1 10) (σ.1 r101) (Int32.toNatClampNeg 0) (Int32.toNatClampNeg 0) (Int32.toNatClampNeg (nI n103)))).1 r104) (Int32.toNatClampNeg 0) (Int32.toNatClampNeg 0) (Int32.toNatClampNeg (nI n106)))).1 r107) (Int32.toNatClampNeg 0) (Int32.toNatClampNeg 0) (Int32.toNatClampNeg (nI n109)))) r110 (va_cpy ((sR (sR (sR σ r101 (va_cpy (σ.1 10) (σ.1 r101) (Int32.toNatClampNeg 0) (Int32.toNatClampNeg 0) (Int32.toNatClampNeg (nI n103)))) r104 (va_cpy ((sR σ r101 (va_cpy (σ.1 10) (σ.1 r101) (Int32.toNatClampNeg 0) (Int32.toNatClampNeg 0) (Int32.toNatClampNeg (nI n103)))).1 11) ((sR σ r101 (va_cpy (σ.1 10) (σ.1 r101) (Int32.toNatClampNeg 0) (Int32.toNatClampNeg 0) (Int32.toNatClampNeg (nI n103)))).1 r104) (Int32.toNatClampNeg 0) (Int32.toNatClampNeg 0) (Int32.toNatClampNeg (nI n106)))) r107 (va_cpy ((sR (sR σ r101 (va_cpy (σ.1 10) (σ.1 r101) (Int32.toNatClampNeg 0) (Int32.toNatClampNeg 0) (Int32.toNatClampNeg (nI n103)))) r104 (va_cpy ((sR σ r101 (va_cpy (σ.1 10) (σ.1 r101) (Int32.toNatClampNeg 0) (Int32.toNatClampNeg 0) (Int32.toNatClampNeg (nI n103)))).1 11) ((sR σ r101 (va_cpy (σ.1 10) (σ.1 r101) (Int32.toNatClampNeg 0) (Int32.toNatClampNeg 0) (Int32.toNatClampNeg (nI n103)))).1 r104) (Int32.toNatClampNeg 0) (Int32.toNatClampNeg 0) (Int32.toNatClampNeg (nI n106)))).1 12) ((sR (sR σ r101 (va_cpy (σ.1 10) (σ.1 r101) (Int32.toNatClampNeg 0) (Int32.toNatClampNeg 0) (Int32.toNatClampNeg (nI n103)))) r104 (va_cpy ((sR σ r101 (va_cpy (σ.1 10) (σ.1 r101) (Int32.toNatClampNeg 0) (Int32.toNatClampNeg 0) (Int32.toNatClampNeg (nI n103)))).1 11) ((sR σ r101 (va_cpy (σ.1 10) (σ.1 r101) (Int32.toNatClampNeg 0) (Int32.toNatClampNeg 0) (Int32.toNatClampNeg (nI n103)))).1 r104) (Int32.toNatClampNeg 0) (Int32.toNatClampNeg 0) (Int32.toNatClampNeg (nI n106)))).1 r107) (Int32.toNatClampNeg 0) (Int32.toNatClampNeg 0) (Int32.toNatClampNeg (nI n109)))).1 13) ((sR (sR (sR σ r101 (va_cpy (σ.1 10) (σ.1 r101) (Int32.toNatClampNeg 0) (Int32.toNatClampNeg 0) (Int32.toNatClampNeg (nI n103)))) r104 (va_cpy ((sR σ r101 (va_cpy (σ.1 10) (σ.1 r101) (Int32.toNatClampNeg 0) (Int32.toNatClampNeg 0) (Int32.toNatClampNeg (nI n103)))).1 11) ((sR σ r101 (va_cpy (σ.1 10) (σ.1 r101) (Int32.toNatClampNeg 0) (Int32.toNatClampNeg 0) (Int32.toNatClampNeg (nI n103)))).1 r104) (Int32.toNatClampNeg 0) (Int32.toNatClampNeg 0) (Int32.toNatClampNeg (nI n106)))) r107 (va_cpy ((sR (sR σ r101 (va_cpy (σ.1 10) (σ.1 r101) (Int32.toNatClampNeg 0) (Int32.toNatClampNeg 0) (Int32.toNatClampNeg (nI n103)))) r104 (va_cpy ((sR σ r101 (va_cpy (σ.1 10) (σ.1 r101) (Int32.toNatClampNeg 0) (Int32.toNatClampNeg 0) (Int32.toNatClampNeg (nI n103)))).1 11) ((sR σ r101 (va_cpy (σ.1 10) (σ.1 r101) (Int32.toNatClampNeg 0) (Int32.toNatClampNeg 0) (Int32.toNatClampNeg (nI n103)))).1 r104) (Int32.toNatClampNeg 0) (Int32.toNatClampNeg 0) (Int32.toNatClampNeg (nI n106)))).1 12) ((sR (sR σ r101 (va_cpy (σ.1 10) (σ.1 r101) (Int32.toNatClampNeg 0) (Int32.toNatClampNeg 0) (Int32.toNatClampNeg (nI n103)))) r104 (va_cpy ((sR σ r101 (va_cpy (σ.1 10) (σ.1 r101) (Int32.toNatClampNeg 0) (Int32.toNatClampNeg 0) (Int32.toNatClampNeg (nI n103)))).1 11) ((sR σ r101 (va_cpy (σ.1 10) (σ.1 r101) (Int32.toNatClampNeg 0) (Int32.toNatClampNeg 0) (Int32.toNatClampNeg (nI n103)))).1 r104) (Int32.toNatClampNeg 0) (Int32.toNatClampNeg 0) (Int32.toNatClampNeg (nI n106)))).1 r107) (Int32.toNatClampNeg 0) (Int32.toNatClampNeg 0) (Int32.toNatClampNeg (nI n109)))).1 r110) (Int32.toNatClampNeg 0) (Int32.toNatClampNeg 0) (Int32.toNatClampNeg (nI n112)))) a0 2 v113)))))))))))))))))))))))
set_option maxRecDepth 4000 in
set_option maxHeartbeats 2000000 in
theorem t_X1_become_d_9 {X : Cx} {d : Nat} (hC : mOK X cX1_become RX1 "become" none d 0 0) (hd : 1 ≤ d) (hN : ∀ i, i < 2 → i < xN X) (hP : ∀ e ∈ psG, e ∈ xP X) (hT : ∀ e ∈ tsG, e ∈ xT X) (hF : ∀ e ∈ xP X, e ∈ psA) {σ : Mem} {a0 : Nat} {Q : Mem → Prop} (hw : w_X1_become_d_9 σ a0 Q) : mG X 0 [(0, .ref (xB X + a0)), (1, .ref (xB X + 9))] [] σ 0 0 (mQ X 0 0 (qV Q)) := by
  refine g_aload_n hC dX1_become_0 rfl ?_
  refine g_getrS hC fl_X1_9_1.s (hT _ tg_G_9) (hP _ pt_G_9_0) dX1_become_1 ?_
  refine g_iconst (v := 0) hC dX1_become_4 (by decide) ?_
  refine g_aload_n hC dX1_become_5 rfl ?_
  obtain ⟨htg, r101, hpt, hw⟩ := hw
  refine g_getr hC fl_X1_9_1.s htg hpt dX1_become_6 ?_
  refine g_iconst (v := 0) hC dX1_become_9 (by decide) ?_
  refine g_aload_n hC dX1_become_10 rfl ?_
  obtain ⟨htg, r102, hpt, hw⟩ := hw
  refine g_getr hC fl_X1_9_1.s htg hpt dX1_become_11 ?_
  obtain ⟨n103, htg, hw⟩ := hw
  refine g_alen hC htg (by decide) (by decide) dX1_become_14 ?_
  obtain ⟨n117, htg1, hw⟩ := hw
  obtain ⟨⟨q1, q2, q3, q4, q5⟩, hw⟩ := hw
  refine g_known (fun hS => ?_)
  refine g_copy hC (hS.2 _ (hT _ tg_G_10)) htg1 tw_426 tw_220 tw_221 tw_222 q1 q2 q3 q4 q5 (by omega) (Nat.le_of_ble_eq_true rfl) dX1_become_15 ?_
  refine g_aload_n hC dX1_become_18 rfl ?_
  refine g_getrS hC fl_X1_15_1.s (hT _ tg_G_9) (hP _ pt_G_9_1) dX1_become_19 ?_
  refine g_iconst (v := 0) hC dX1_become_22 (by decide) ?_
  refine g_aload_n hC dX1_become_23 rfl ?_
  obtain ⟨htg, r104, hpt, hw⟩ := hw
  refine g_getr hC fl_X1_15_1.s htg hpt dX1_become_24 ?_
  refine g_iconst (v := 0) hC dX1_become_27 (by decide) ?_
  refine g_aload_n hC dX1_become_28 rfl ?_
  obtain ⟨htg, r105, hpt, hw⟩ := hw
  refine g_getr hC fl_X1_15_1.s htg hpt dX1_become_29 ?_
  obtain ⟨n106, htg, hw⟩ := hw
  refine g_alen hC htg (by decide) (by decide) dX1_become_32 ?_
  obtain ⟨n116, htg1, hw⟩ := hw
  obtain ⟨⟨q1, q2, q3, q4, q5⟩, hw⟩ := hw
  refine g_known (fun hS => ?_)
  refine g_copy hC (hS.2 _ (hT _ tg_G_11)) htg1 tw_426 tw_220 tw_221 tw_222 q1 q2 q3 q4 q5 (by omega) (Nat.le_of_ble_eq_true rfl) dX1_become_33 ?_
  refine g_aload_n hC dX1_become_36 rfl ?_
  refine g_getrS hC fl_X1_18_1.s (hT _ tg_G_9) (hP _ pt_G_9_3) dX1_become_37 ?_
  refine g_iconst (v := 0) hC dX1_become_40 (by decide) ?_
  refine g_aload_n hC dX1_become_41 rfl ?_
  obtain ⟨htg, r107, hpt, hw⟩ := hw
  refine g_getr hC fl_X1_18_1.s htg hpt dX1_become_42 ?_
  refine g_iconst (v := 0) hC dX1_become_45 (by decide) ?_
  refine g_aload_n hC dX1_become_46 rfl ?_
  obtain ⟨htg, r108, hpt, hw⟩ := hw
  refine g_getr hC fl_X1_18_1.s htg hpt dX1_become_47 ?_
  obtain ⟨n109, htg, hw⟩ := hw
  refine g_alen hC htg (by decide) (by decide) dX1_become_50 ?_
  obtain ⟨n115, htg1, hw⟩ := hw
  obtain ⟨⟨q1, q2, q3, q4, q5⟩, hw⟩ := hw
  refine g_known (fun hS => ?_)
  refine g_copy hC (hS.2 _ (hT _ tg_G_12)) htg1 tw_426 tw_220 tw_221 tw_222 q1 q2 q3 q4 q5 (by omega) (Nat.le_of_ble_eq_true rfl) dX1_become_51 ?_
  refine g_aload_n hC dX1_become_54 rfl ?_
  refine g_getrS hC fl_X1_21_1.s (hT _ tg_G_9) (hP _ pt_G_9_4) dX1_become_55 ?_
  refine g_iconst (v := 0) hC dX1_become_58 (by decide) ?_
  refine g_aload_n hC dX1_become_59 rfl ?_
  obtain ⟨htg, r110, hpt, hw⟩ := hw
  refine g_getr hC fl_X1_21_1.s htg hpt dX1_become_60 ?_
  refine g_iconst (v := 0) hC dX1_become_63 (by decide) ?_
  refine g_aload_n hC dX1_become_64 rfl ?_
  obtain ⟨htg, r111, hpt, hw⟩ := hw
  refine g_getr hC fl_X1_21_1.s htg hpt dX1_become_65 ?_
  obtain ⟨n112, htg, hw⟩ := hw
  refine g_alen hC htg (by decide) (by decide) dX1_become_68 ?_
  obtain ⟨n114, htg1, hw⟩ := hw
  obtain ⟨⟨q1, q2, q3, q4, q5⟩, hw⟩ := hw
  refine g_known (fun hS => ?_)
  refine g_copy hC (hS.2 _ (hT _ tg_G_13)) htg1 tw_426 tw_220 tw_221 tw_222 q1 q2 q3 q4 q5 (by omega) (Nat.le_of_ble_eq_true rfl) dX1_become_69 ?_
  refine g_aload_n hC dX1_become_72 rfl ?_
  refine g_aload_n hC dX1_become_73 rfl ?_
  refine g_getiSv (v := (mI (sR (sR (sR (sR σ r101 (va_cpy (σ.1 10) (σ.1 r101) (Int32.toNatClampNeg 0) (Int32.toNatClampNeg 0) (Int32.toNatClampNeg (nI n103)))) r104 (va_cpy ((sR σ r101 (va_cpy (σ.1 10) (σ.1 r101) (Int32.toNatClampNeg 0) (Int32.toNatClampNeg 0) (Int32.toNatClampNeg (nI n103)))).1 11) ((sR σ r101 (va_cpy (σ.1 10) (σ.1 r101) (Int32.toNatClampNeg 0) (Int32.toNatClampNeg 0) (Int32.toNatClampNeg (nI n103)))).1 r104) (Int32.toNatClampNeg 0) (Int32.toNatClampNeg 0) (Int32.toNatClampNeg (nI n106)))) r107 (va_cpy ((sR (sR σ r101 (va_cpy (σ.1 10) (σ.1 r101) (Int32.toNatClampNeg 0) (Int32.toNatClampNeg 0) (Int32.toNatClampNeg (nI n103)))) r104 (va_cpy ((sR σ r101 (va_cpy (σ.1 10) (σ.1 r101) (Int32.toNatClampNeg 0) (Int32.toNatClampNeg 0) (Int32.toNatClampNeg (nI n103)))).1 11) ((sR σ r101 (va_cpy (σ.1 10) (σ.1 r101) (Int32.toNatClampNeg 0) (Int32.toNatClampNeg 0) (Int32.toNatClampNeg (nI n103)))).1 r104) (Int32.toNatClampNeg 0) (Int32.toNatClampNeg 0) (Int32.toNatClampNeg (nI n106)))).1 12) ((sR (sR σ r101 (va_cpy (σ.1 10) (σ.1 r101) (Int32.toNatClampNeg 0) (Int32.toNatClampNeg 0) (Int32.toNatClampNeg (nI n103)))) r104 (va_cpy ((sR σ r101 (va_cpy (σ.1 10) (σ.1 r101) (Int32.toNatClampNeg 0) (Int32.toNatClampNeg 0) (Int32.toNatClampNeg (nI n103)))).1 11) ((sR σ r101 (va_cpy (σ.1 10) (σ.1 r101) (Int32.toNatClampNeg 0) (Int32.toNatClampNeg 0) (Int32.toNatClampNeg (nI n103)))).1 r104) (Int32.toNatClampNeg 0) (Int32.toNatClampNeg 0) (Int32.toNatClampNeg (nI n106)))).1 r107) (Int32.toNatClampNeg 0) (Int32.toNatClampNeg 0) (Int32.toNatClampNeg (nI n109)))) r110 (va_cpy ((sR (sR (sR σ r101 (va_cpy (σ.1 10) (σ.1 r101) (Int32.toNatClampNeg 0) (Int32.toNatClampNeg 0) (Int32.toNatClampNeg (nI n103)))) r104 (va_cpy ((sR σ r101 (va_cpy (σ.1 10) (σ.1 r101) (Int32.toNatClampNeg 0) (Int32.toNatClampNeg 0) (Int32.toNatClampNeg (nI n103)))).1 11) ((sR σ r101 (va_cpy (σ.1 10) (σ.1 r101) (Int32.toNatClampNeg 0) (Int32.toNatClampNeg 0) (Int32.toNatClampNeg (nI n103)))).1 r104) (Int32.toNatClampNeg 0) (Int32.toNatClampNeg 0) (Int32.toNatClampNeg (nI n106)))) r107 (va_cpy ((sR (sR σ r101 (va_cpy (σ.1 10) (σ.1 r101) (Int32.toNatClampNeg 0) (Int32.toNatClampNeg 0) (Int32.toNatClampNeg (nI n103)))) r104 (va_cpy ((sR σ r101 (va_cpy (σ.1 10) (σ.1 r101) (Int32.toNatClampNeg 0) (Int32.toNatClampNeg 0) (Int32.toNatClampNeg (nI n103)))).1 11) ((sR σ r101 (va_cpy (σ.1 10) (σ.1 r101) (Int32.toNatClampNeg 0) (Int32.toNatClampNeg 0) (Int32.toNatClampNeg (nI n103)))).1 r104) (Int32.toNatClampNeg 0) (Int32.toNatClampNeg 0) (Int32.toNatClampNeg (nI n106)))).1 12) ((sR (sR σ r101 (va_cpy (σ.1 10) (σ.1 r101) (Int32.toNatClampNeg 0) (Int32.toNatClampNeg 0) (Int32.toNatClampNeg (nI n103)))) r104 (va_cpy ((sR σ r101 (va_cpy (σ.1 10) (σ.1 r101) (Int32.toNatClampNeg 0) (Int32.toNatClampNeg 0) (Int32.toNatClampNeg (nI n103)))).1 11) ((sR σ r101 (va_cpy (σ.1 10) (σ.1 r101) (Int32.toNatClampNeg 0) (Int32.toNatClampNeg 0) (Int32.toNatClampNeg (nI n103)))).1 r104) (Int32.toNatClampNeg 0) (Int32.toNatClampNeg 0) (Int32.toNatClampNeg (nI n106)))).1 r107) (Int32.toNatClampNeg 0) (Int32.toNatClampNeg 0) (Int32.toNatClampNeg (nI n109)))).1 13) ((sR (sR (sR σ r101 (va_cpy (σ.1 10) (σ.1 r101) (Int32.toNatClampNeg 0) (Int32.toNatClampNeg 0) (Int32.toNatClampNeg (nI n103)))) r104 (va_cpy ((sR σ r101 (va_cpy (σ.1 10) (σ.1 r101) (Int32.toNatClampNeg 0) (Int32.toNatClampNeg 0) (Int32.toNatClampNeg (nI n103)))).1 11) ((sR σ r101 (va_cpy (σ.1 10) (σ.1 r101) (Int32.toNatClampNeg 0) (Int32.toNatClampNeg 0) (Int32.toNatClampNeg (nI n103)))).1 r104) (Int32.toNatClampNeg 0) (Int32.toNatClampNeg 0) (Int32.toNatClampNeg (nI n106)))) r107 (va_cpy ((sR (sR σ r101 (va_cpy (σ.1 10) (σ.1 r101) (Int32.toNatClampNeg 0) (Int32.toNatClampNeg 0) (Int32.toNatClampNeg (nI n103)))) r104 (va_cpy ((sR σ r101 (va_cpy (σ.1 10) (σ.1 r101) (Int32.toNatClampNeg 0) (Int32.toNatClampNeg 0) (Int32.toNatClampNeg (nI n103)))).1 11) ((sR σ r101 (va_cpy (σ.1 10) (σ.1 r101) (Int32.toNatClampNeg 0) (Int32.toNatClampNeg 0) (Int32.toNatClampNeg (nI n103)))).1 r104) (Int32.toNatClampNeg 0) (Int32.toNatClampNeg 0) (Int32.toNatClampNeg (nI n106)))).1 12) ((sR (sR σ r101 (va_cpy (σ.1 10) (σ.1 r101) (Int32.toNatClampNeg 0) (Int32.toNatClampNeg 0) (Int32.toNatClampNeg (nI n103)))) r104 (va_cpy ((sR σ r101 (va_cpy (σ.1 10) (σ.1 r101) (Int32.toNatClampNeg 0) (Int32.toNatClampNeg 0) (Int32.toNatClampNeg (nI n103)))).1 11) ((sR σ r101 (va_cpy (σ.1 10) (σ.1 r101) (Int32.toNatClampNeg 0) (Int32.toNatClampNeg 0) (Int32.toNatClampNeg (nI n103)))).1 r104) (Int32.toNatClampNeg 0) (Int32.toNatClampNeg 0) (Int32.toNatClampNeg (nI n106)))).1 r107) (Int32.toNatClampNeg 0) (Int32.toNatClampNeg 0) (Int32.toNatClampNeg (nI n109)))).1 r110) (Int32.toNatClampNeg 0) (Int32.toNatClampNeg 0) (Int32.toNatClampNeg (nI n112)))) 9 2)) hC fl_X1_24_1.s (hT _ tg_G_9) rfl dX1_become_74 ?_
  refine g_topi (fun v113 ev113 => ?_)
  replace hw := hw v113 ev113
  refine g_putI hC (fw_X1_24_1 _) hw.1 rfl rfl dX1_become_77 ?_
  replace hw := hw.2
  exact g_vret hC (by decide) (by decide) dX1_become_80 (fun _ => ⟨rfl, hw⟩)
set_option maxRecDepth 4000 in
theorem c_X1_become_d_9 {Z : Fx} {ps ts : List (Nat × Nat × Nat)} {d : Nat} (hd : 1 ≤ d) (hP : ∀ e ∈ psG, e ∈ ps) (hT : ∀ e ∈ tsG, e ∈ ts) (hF : ∀ e ∈ ps, e ∈ psA) {σ : Mem} {a0 : Nat} {Q : Mem → Prop} (hw : w_X1_become_d_9 σ a0 Q) : mM Z ps ts yX1_become cX1_become 2 none d 0 0 [.ref (Z.2.2 + a0), .ref (Z.2.2 + 9)] σ (qV Q) := by
  refine mM.of (by decide) (Nat.le_of_ble_eq_true rfl) rfl (fun X hZ hp ht hn hC => ?_)
  subst hZ; subst hp; subst ht
  exact t_X1_become_d_9 hC hd (fun i h => by rw [hn]; exact h) hP hT hF hw
def w_X9_become_d_8 (σ : Mem) (a0 : Nat) (Q : Mem → Prop) : Prop := mT σ a0 = some (9, 0) ∧ ∃ r101 : Nat, (mP σ a0 0) = some r101 ∧ (mT σ r101 = some (1, 0) ∧ (w_X1_become_d_9 σ r101 (fun s104 => (mT s104 a0 = some (9, 0) ∧ (∀ v105 : Int32, v105 = (mI (sI s104 a0 1 (mI s104 8 1)) 8 2) → (mT s104 a0 = some (9, 0) ∧ (∀ v106 : Int32, v106 = (mI (sI (sI s104 a0 1 (mI s104 8 1)) a0 2 v105) 8 3) → (mT s104 a0 = some (9, 0) ∧ (Q (sI (sI (sI s104 a0 1 (mI s104 8 1)) a0 2 v105) a0 3 v106))))))))))
set_option maxRecDepth 4000 in
set_option maxHeartbeats 2000000 in
theorem t_X9_become_d_8 {X : Cx} {d : Nat} (hC : mOK X cX9_become RX9 "become" none d 0 0) (hd : 2 ≤ d) (hN : ∀ i, i < 2 → i < xN X) (hP : ∀ e ∈ psG, e ∈ xP X) (hT : ∀ e ∈ tsG, e ∈ xT X) (hF : ∀ e ∈ xP X, e ∈ psA) {σ : Mem} {a0 : Nat} {Q : Mem → Prop} (hw : w_X9_become_d_8 σ a0 Q) : mG X 0 [(0, .ref (xB X + a0)), (1, .ref (xB X + 8))] [] σ 0 0 (mQ X 0 0 (qV Q)) := by
  refine g_aload_n hC dX9_become_0 rfl ?_
  obtain ⟨htg, r101, hpt, hw⟩ := hw
  refine g_getr hC fl_X9_12_9.s htg hpt dX9_become_1 ?_
  refine g_aload_n hC dX9_become_4 rfl ?_
  refine g_getrS hC fl_X9_12_9.s (hT _ tg_G_8) (hP _ pt_G_8_0) dX9_become_5 ?_
  refine mG.st (st1 := ([.ref (xB X + 9)] : List Value).reverse ++ .ref (xB X + r101) :: []) rfl ?_
  have hw0 := hw.1
  replace hw := hw.2
  refine g_callV (As := [.ref (xB X + 9)]) (st := []) hC hw0 (by decide) ycl_1_X1_become yw_X1_become yv_X1_become tw_425 dX9_become_8 (fun _ h => h) (fun _ h => h) (fun h => h) (c_X1_become_d_9 (d := 1) (Nat.le_refl _) hP hT hF hw) rfl (Nat.le_of_ble_eq_true rfl) (by omega) (by decide) (by decide) (kV fun s104 hw => ?_)
  refine g_aload_n hC dX9_become_11 rfl ?_
  refine g_aload_n hC dX9_become_12 rfl ?_
  refine g_getiSv (v := (mI s104 8 1)) hC fl_X9_26_9.s (hT _ tg_G_8) rfl dX9_become_13 ?_
  refine g_putI hC (fw_X9_26_9 _) hw.1 rfl rfl dX9_become_16 ?_
  replace hw := hw.2
  refine g_aload_n hC dX9_become_19 rfl ?_
  refine g_aload_n hC dX9_become_20 rfl ?_
  refine g_getiSv (v := (mI (sI s104 a0 1 (mI s104 8 1)) 8 2)) hC fl_X9_18_9.s (hT _ tg_G_8) rfl dX9_become_21 ?_
  refine g_topi (fun v105 ev105 => ?_)
  replace hw := hw v105 ev105
  refine g_putI hC (fw_X9_18_9 _) hw.1 rfl rfl dX9_become_24 ?_
  replace hw := hw.2
  refine g_aload_n hC dX9_become_27 rfl ?_
  refine g_aload_n hC dX9_become_28 rfl ?_
  refine g_getiSv (v := (mI (sI (sI s104 a0 1 (mI s104 8 1)) a0 2 v105) 8 3)) hC fl_X9_29_9.s (hT _ tg_G_8) rfl dX9_become_29 ?_
  refine g_topi (fun v106 ev106 => ?_)
  replace hw := hw v106 ev106
  refine g_putI hC (fw_X9_29_9 _) hw.1 rfl rfl dX9_become_32 ?_
  replace hw := hw.2
  exact g_vret hC (by decide) (by decide) dX9_become_35 (fun _ => ⟨rfl, hw⟩)
set_option maxRecDepth 4000 in
theorem c_X9_become_d_8 {Z : Fx} {ps ts : List (Nat × Nat × Nat)} {d : Nat} (hd : 2 ≤ d) (hP : ∀ e ∈ psG, e ∈ ps) (hT : ∀ e ∈ tsG, e ∈ ts) (hF : ∀ e ∈ ps, e ∈ psA) {σ : Mem} {a0 : Nat} {Q : Mem → Prop} (hw : w_X9_become_d_8 σ a0 Q) : mM Z ps ts yX9_become cX9_become 2 none d 0 0 [.ref (Z.2.2 + a0), .ref (Z.2.2 + 8)] σ (qV Q) := by
  refine mM.of (by decide) (Nat.le_of_ble_eq_true rfl) rfl (fun X hZ hp ht hn hC => ?_)
  subst hZ; subst hp; subst ht
  exact t_X9_become_d_8 hC hd (fun i h => by rw [hn]; exact h) hP hT hF hw
def w_X1_become_9_d (σ : Mem) (a1 : Nat) (Q : Mem → Prop) : Prop := mT σ a1 = some (1, 0) ∧ ∃ r101 : Nat, (mP σ a1 0) = some r101 ∧ (∃ n109 : Nat, mT σ r101 = some (14, n109) ∧ ((¬ (0 : Int32) < 0 ∧ ¬ (0 : Int32) < 0 ∧ ¬ (64 : Int32) < 0 ∧ Int32.toNatClampNeg 0 + Int32.toNatClampNeg 64 ≤ n109 ∧ Int32.toNatClampNeg 0 + Int32.toNatClampNeg 64 ≤ 64) ∧ (mT σ a1 = some (1, 0) ∧ ∃ r102 : Nat, (mP σ a1 1) = some r102 ∧ (∃ n108 : Nat, mT σ r102 = some (14, n108) ∧ ((¬ (0 : Int32) < 0 ∧ ¬ (0 : Int32) < 0 ∧ ¬ (8 : Int32) < 0 ∧ Int32.toNatClampNeg 0 + Int32.toNatClampNeg 8 ≤ n108 ∧ Int32.toNatClampNeg 0 + Int32.toNatClampNeg 8 ≤ 8) ∧ (mT σ a1 = some (1, 0) ∧ ∃ r103 : Nat, (mP σ a1 3) = some r103 ∧ (∃ n107 : Nat, mT σ r103 = some (14, n107) ∧ ((¬ (0 : Int32) < 0 ∧ ¬ (0 : Int32) < 0 ∧ ¬ (8 : Int32) < 0 ∧ Int32.toNatClampNeg 0 + Int32.toNatClampNeg 8 ≤ n107 ∧ Int32.toNatClampNeg 0 + Int32.toNatClampNeg 8 ≤ 8) ∧ (mT σ a1 = some (1, 0) ∧ ∃ r104 : Nat, (mP σ a1 4) = some r104 ∧ (∃ n106 : Nat, mT σ r104 = some (14, n106) ∧ ((¬ (0 : Int32) < 0 ∧ ¬ (0 : Int32) < 0 ∧ ¬ (8 : Int32) < 0 ∧ Int32.toNatClampNeg 0 + Int32.toNatClampNeg 8 ≤ n106 ∧ Int32.toNatClampNeg 0 + Int32.toNatClampNeg 8 ≤ 8) ∧ (mT σ a1 = some (1, 0) ∧ (∀ v105 : Int32, v105 = (mI (sR (sR (sR (sR σ 10 (va_cpy (σ.1 r101) (σ.1 10) (Int32.toNatClampNeg 0) (Int32.toNatClampNeg 0) (Int32.toNatClampNeg 64))) 11 (va_cpy ((sR σ 10 (va_cpy (σ.1 r101) (σ.1 10) (Int32.toNatClampNeg 0) (Int32.toNatClampNeg 0) (Int32.toNatClampNeg 64))).1 r102) ((sR σ 10 (va_cpy (σ.1 r101) (σ.1 10) (Int32.toNatClampNeg 0) (Int32.toNatClampNeg 0) (Int32.toNatClampNeg 64))).1 11) (Int32.toNatClampNeg 0) (Int32.toNatClampNeg 0) (Int32.toNatClampNeg 8))) 12 (va_cpy ((sR (sR σ 10 (va_cpy (σ.1 r101) (σ.1 10) (Int32.toNatClampNeg 0) (Int32.toNatClampNeg 0) (Int32.toNatClampNeg 64))) 11 (va_cpy ((sR σ 10 (va_cpy (σ.1 r101) (σ.1 10) (Int32.toNatClampNeg 0) (Int32.toNatClampNeg 0) (Int32.toNatClampNeg 64))).1 r102) ((sR σ 10 (va_cpy (σ.1 r101) (σ.1 10) (Int32.toNatClampNeg 0) (Int32.toNatClampNeg 0) (Int32.toNatClampNeg 64))).1 11) (Int32.toNatClampNeg 0) (Int32.toNatClampNeg 0) (Int32.toNatClampNeg 8))).1 r103) ((sR (sR σ 10 (va_cpy (σ.1 r101) (σ.1 10) (Int32.toNatClampNeg 0) (Int32.toNatClampNeg 0) (Int32.toNatClampNeg 64))) 11 (va_cpy ((sR σ 10 (va_cpy (σ.1 r101) (σ.1 10) (Int32.toNatClampNeg 0) (Int32.toNatClampNeg 0) (Int32.toNatClampNeg 64))).1 r102) ((sR σ 10 (va_cpy (σ.1 r101) (σ.1 10) (Int32.toNatClampNeg 0) (Int32.toNatClampNeg 0) (Int32.toNatClampNeg 64))).1 11) (Int32.toNatClampNeg 0) (Int32.toNatClampNeg 0) (Int32.toNatClampNeg 8))).1 12) (Int32.toNatClampNeg 0) (Int32.toNatClampNeg 0) (Int32.toNatClampNeg 8))) 13 (va_cpy ((sR (sR (sR σ 10 (va_cpy (σ.1 r101) (σ.1 10) (Int32.toNatClampNeg 0) (Int32.toNatClampNeg 0) (Int32.toNatClampNeg 64))) 11 (va_cpy ((sR σ 10 (va_cpy (σ.1 r101) (σ.1 10) (Int32.toNatClampNeg 0) (Int32.toNatClampNeg 0) (Int32.toNatClampNeg 64))).1 r102) ((sR σ 10 (va_cpy (σ.1 r101) (σ.1 10) (Int32.toNatClampNeg 0) (Int32.toNatClampNeg 0) (Int32.toNatClampNeg 64))).1 11) (Int32.toNatClampNeg 0) (Int32.toNatClampNeg 0) (Int32.toNatClampNeg 8))) 12 (va_cpy ((sR (sR σ 10 (va_cpy (σ.1 r101) (σ.1 10) (Int32.toNatClampNeg 0) (Int32.toNatClampNeg 0) (Int32.toNatClampNeg 64))) 11 (va_cpy ((sR σ 10 (va_cpy (σ.1 r101) (σ.1 10) (Int32.toNatClampNeg 0) (Int32.toNatClampNeg 0) (Int32.toNatClampNeg 64))).1 r102) ((sR σ 10 (va_cpy (σ.1 r101) (σ.1 10) (Int32.toNatClampNeg 0) (Int32.toNatClampNeg 0) (Int32.toNatClampNeg 64))).1 11) (Int32.toNatClampNeg 0) (Int32.toNatClampNeg 0) (Int32.toNatClampNeg 8))).1 r103) ((sR (sR σ 10 (va_cpy (σ.1 r101) (σ.1 10) (Int32.toNatClampNeg 0) (Int32.toNatClampNeg 0) (Int32.toNatClampNeg 64))) 11 (va_cpy ((sR σ 10 (va_cpy (σ.1 r101) (σ.1 10) (Int32.toNatClampNeg 0) (Int32.toNatClampNeg 0) (Int32.toNatClampNeg 64))).1 r102) ((sR σ 10 (va_cpy (σ.1 r101) (σ.1 10) (Int32.toNatClampNeg 0) (Int32.toNatClampNeg 0) (Int32.toNatClampNeg 64))).1 11) (Int32.toNatClampNeg 0) (Int32.toNatClampNeg 0) (Int32.toNatClampNeg 8))).1 12) (Int32.toNatClampNeg 0) (Int32.toNatClampNeg 0) (Int32.toNatClampNeg 8))).1 r104) ((sR (sR (sR σ 10 (va_cpy (σ.1 r101) (σ.1 10) (Int32.toNatClampNeg 0) (Int32.toNatClampNeg 0) (Int32.toNatClampNeg 64))) 11 (va_cpy ((sR σ 10 (va_cpy (σ.1 r101) (σ.1 10) (Int32.toNatClampNeg 0) (Int32.toNatClampNeg 0) (Int32.toNatClampNeg 64))).1 r102) ((sR σ 10 (va_cpy (σ.1 r101) (σ.1 10) (Int32.toNatClampNeg 0) (Int32.toNatClampNeg 0) (Int32.toNatClampNeg 64))).1 11) (Int32.toNatClampNeg 0) (Int32.toNatClampNeg 0) (Int32.toNatClampNeg 8))) 12 (va_cpy ((sR (sR σ 10 (va_cpy (σ.1 r101) (σ.1 10) (Int32.toNatClampNeg 0) (Int32.toNatClampNeg 0) (Int32.toNatClampNeg 64))) 11 (va_cpy ((sR σ 10 (va_cpy (σ.1 r101) (σ.1 10) (Int32.toNatClampNeg 0) (Int32.toNatClampNeg 0) (Int32.toNatClampNeg 64))).1 r102) ((sR σ 10 (va_cpy (σ.1 r101) (σ.1 10) (Int32.toNatClampNeg 0) (Int32.toNatClampNeg 0) (Int32.toNatClampNeg 64))).1 11) (Int32.toNatClampNeg 0) (Int32.toNatClampNeg 0) (Int32.toNatClampNeg 8))).1 r103) ((sR (sR σ 10 (va_cpy (σ.1 r101) (σ.1 10) (Int32.toNatClampNeg 0) (Int32.toNatClampNeg 0) (Int32.toNatClampNeg 64))) 11 (va_cpy ((sR σ 10 (va_cpy (σ.1 r101) (σ.1 10) (Int32.toNatClampNeg 0) (Int32.toNatClampNeg 0) (Int32.toNatClampNeg 64))).1 r102) ((sR σ 10 (va_cpy (σ.1 r101) (σ.1 10) (Int32.toNatClampNeg 0) (Int32.toNatClampNeg 0) (Int32.toNatClampNeg 64))).1 11) (Int32.toNatClampNeg 0) (Int32.toNatClampNeg 0) (Int32.toNatClampNeg 8))).1 12) (Int32.toNatClampNeg 0) (Int32.toNatClampNeg 0) (Int32.toNatClampNeg 8))).1 13) (Int32.toNatClampNeg 0) (Int32.toNatClampNeg 0) (Int32.toNatClampNeg 8))) a1 2) → (Q (sI (sR (sR (sR (sR σ 10 (va_cpy (σ.1 r101) (σ.1 10) (Int32.toNatClampNeg 0) (Int32.toNatClampNeg 0) (Int32.toNatClampNeg 64))) 11 (va_cpy ((sR σ 10 (va_cpy (σ.1 r101) (σ.1 10) (Int32.toNatClampNeg 0) (Int32.toNatClampNeg 0) (Int32.toNatClampNeg 64))).1 r102) ((sR σ 10 (va_cpy (σ.1 r101) (σ.1 10) (Int32.toNatClampNeg 0) (Int32.toNatClampNeg 0) (Int32.toNatClampNeg 64))).1 11) (Int32.toNatClampNeg 0) (Int32.toNatClampNeg 0) (Int32.toNatClampNeg 8))) 12 (va_cpy ((sR (sR σ 10 (va_cpy (σ.1 r101) (σ.1 10) (Int32.toNatClampNeg 0) (Int32.toNatClampNeg 0) (Int32.toNatClampNeg 64))) 11 (va_cpy ((sR σ 10 (va_cpy (σ.1 r101) (σ.1 10) (Int32.toNatClampNeg 0) (Int32.toNatClampNeg 0) (Int32.toNatClampNeg 64))).1 r102) ((sR σ 10 (va_cpy (σ.1 r101) (σ.1 10) (Int32.toNatClampNeg 0) (Int32.toNatClampNeg 0) (Int32.toNatClampNeg 64))).1 11) (Int32.toNatClampNeg 0) (Int32.toNatClampNeg 0) (Int32.toNatClampNeg 8))).1 r103) ((sR (sR σ 10 (va_cpy (σ.1 r101) (σ.1 10) (Int32.toNatClampNeg 0) (Int32.toNatClampNeg 0) (Int32.toNatClampNeg 64))) 11 (va_cpy ((sR σ 10 (va_cpy (σ.1 r101) (σ.1 10) (Int32.toNatClampNeg 0) (Int32.toNatClampNeg 0) (Int32.toNatClampNeg 64))).1 r102) ((sR σ 10 (va_cpy (σ.1 r101) (σ.1 10) (Int32.toNatClampNeg 0) (Int32.toNatClampNeg 0) (Int32.toNatClampNeg 64))).1 11) (Int32.toNatClampNeg 0) (Int32.toNatClampNeg 0) (Int32.toNatClampNeg 8))).1 12) (Int32.toNatClampNeg 0) (Int32.toNatClampNeg 0) (Int32.toNatClampNeg 8))) 13 (va_cpy ((sR (sR (sR σ 10 (va_cpy (σ.1 r101) (σ.1 10) (Int32.toNatClampNeg 0) (Int32.toNatClampNeg 0) (Int32.toNatClampNeg 64))) 11 (va_cpy ((sR σ 10 (va_cpy (σ.1 r101) (σ.1 10) (Int32.toNatClampNeg 0) (Int32.toNatClampNeg 0) (Int32.toNatClampNeg 64))).1 r102) ((sR σ 10 (va_cpy (σ.1 r101) (σ.1 10) (Int32.toNatClampNeg 0) (Int32.toNatClampNeg 0) (Int32.toNatClampNeg 64))).1 11) (Int32.toNatClampNeg 0) (Int32.toNatClampNeg 0) (Int32.toNatClampNeg 8))) 12 (va_cpy ((sR (sR σ 10 (va_cpy (σ.1 r101) (σ.1 10) (Int32.toNatClampNeg 0) (Int32.toNatClampNeg 0) (Int32.toNatClampNeg 64))) 11 (va_cpy ((sR σ 10 (va_cpy (σ.1 r101) (σ.1 10) (Int32.toNatClampNeg 0) (Int32.toNatClampNeg 0) (Int32.toNatClampNeg 64))).1 r102) ((sR σ 10 (va_cpy (σ.1 r101) (σ.1 10) (Int32.toNatClampNeg 0) (Int32.toNatClampNeg 0) (Int32.toNatClampNeg 64))).1 11) (Int32.toNatClampNeg 0) (Int32.toNatClampNeg 0) (Int32.toNatClampNeg 8))).1 r103) ((sR (sR σ 10 (va_cpy (σ.1 r101) (σ.1 10) (Int32.toNatClampNeg 0) (Int32.toNatClampNeg 0) (Int32.toNatClampNeg 64))) 11 (va_cpy ((sR σ 10 (va_cpy (σ.1 r101) (σ.1 10) (Int32.toNatClampNeg 0) (Int32.toNatClampNeg 0) (Int32.toNatClampNeg 64))).1 r102) ((sR σ 10 (va_cpy (σ.1 r101) (σ.1 10) (Int32.toNatClampNeg 0) (Int32.toNatClampNeg 0) (Int32.toNatClampNeg 64))).1 11) (Int32.toNatClampNeg 0) (Int32.toNatClampNeg 0) (Int32.toNatClampNeg 8))).1 12) (Int32.toNatClampNeg 0) (Int32.toNatClampNeg 0) (Int32.toNatClampNeg 8))).1 r104) ((sR (sR (sR σ 10 (va_cpy (σ.1 r101) (σ.1 10) (Int32.toNatClampNeg 0) (Int32.toNatClampNeg 0) (Int32.toNatClampNeg 64))) 11 (va_cpy ((sR σ 10 (va_cpy (σ.1 r101) (σ.1 10) (Int32.toNatClampNeg 0) (Int32.toNatClampNeg 0) (Int32.toNatClampNeg 64))).1 r102) ((sR σ 10 (va_cpy (σ.1 r101) (σ.1 10) (Int32.toNatClampNeg 0) (Int32.toNatClampNeg 0) (Int32.toNatClampNeg 64))).1 11) (Int32.toNatClampNeg 0) (Int32.toNatClampNeg 0) (Int32.toNatClampNeg 8))) 12 (va_cpy ((sR (sR σ 10 (va_cpy (σ.1 r101) (σ.1 10) (Int32.toNatClampNeg 0) (Int32.toNatClampNeg 0) (Int32.toNatClampNeg 64))) 11 (va_cpy ((sR σ 10 (va_cpy (σ.1 r101) (σ.1 10) (Int32.toNatClampNeg 0) (Int32.toNatClampNeg 0) (Int32.toNatClampNeg 64))).1 r102) ((sR σ 10 (va_cpy (σ.1 r101) (σ.1 10) (Int32.toNatClampNeg 0) (Int32.toNatClampNeg 0) (Int32.toNatClampNeg 64))).1 11) (Int32.toNatClampNeg 0) (Int32.toNatClampNeg 0) (Int32.toNatClampNeg 8))).1 r103) ((sR (sR σ 10 (va_cpy (σ.1 r101) (σ.1 10) (Int32.toNatClampNeg 0) (Int32.toNatClampNeg 0) (Int32.toNatClampNeg 64))) 11 (va_cpy ((sR σ 10 (va_cpy (σ.1 r101) (σ.1 10) (Int32.toNatClampNeg 0) (Int32.toNatClampNeg 0) (Int32.toNatClampNeg 64))).1 r102) ((sR σ 10 (va_cpy (σ.1 r101) (σ.1 10) (Int32.toNatClampNeg 0) (Int32.toNatClampNeg 0) (Int32.toNatClampNeg 64))).1 11) (Int32.toNatClampNeg 0) (Int32.toNatClampNeg 0) (Int32.toNatClampNeg 8))).1 12) (Int32.toNatClampNeg 0) (Int32.toNatClampNeg 0) (Int32.toNatClampNeg 8))).1 13) (Int32.toNatClampNeg 0) (Int32.toNatClampNeg 0) (Int32.toNatClampNeg 8))) 9 2 v105)))))))))))))))
set_option maxRecDepth 4000 in
set_option maxHeartbeats 2000000 in
theorem t_X1_become_9_d {X : Cx} {d : Nat} (hC : mOK X cX1_become RX1 "become" none d 0 0) (hd : 1 ≤ d) (hN : ∀ i, i < 2 → i < xN X) (hP : ∀ e ∈ psG, e ∈ xP X) (hT : ∀ e ∈ tsG, e ∈ xT X) (hF : ∀ e ∈ xP X, e ∈ psA) {σ : Mem} {a1 : Nat} {Q : Mem → Prop} (hw : w_X1_become_9_d σ a1 Q) : mG X 0 [(0, .ref (xB X + 9)), (1, .ref (xB X + a1))] [] σ 0 0 (mQ X 0 0 (qV Q)) := by
  refine g_aload_n hC dX1_become_0 rfl ?_
  obtain ⟨htg, r101, hpt, hw⟩ := hw
  refine g_getr hC fl_X1_9_1.s htg hpt dX1_become_1 ?_
  refine g_iconst (v := 0) hC dX1_become_4 (by decide) ?_
  refine g_aload_n hC dX1_become_5 rfl ?_
  refine g_getrS hC fl_X1_9_1.s (hT _ tg_G_9) (hP _ pt_G_9_0) dX1_become_6 ?_
  refine g_iconst (v := 0) hC dX1_become_9 (by decide) ?_
  refine g_aload_n hC dX1_become_10 rfl ?_
  refine g_getrS hC fl_X1_9_1.s (hT _ tg_G_9) (hP _ pt_G_9_0) dX1_become_11 ?_
  refine g_alenS hC (hT _ tg_G_10) (by decide) (by decide) dX1_become_14 ?_
  refine mG.st (st1 := [.int 64, .int 0, .ref (xB X + 10), .int 0, .ref (xB X + r101)]) rfl ?_
  obtain ⟨n109, htg0, hw⟩ := hw
  obtain ⟨⟨q1, q2, q3, q4, q5⟩, hw⟩ := hw
  refine g_known (fun hS => ?_)
  refine g_copy hC htg0 (hS.2 _ (hT _ tg_G_10)) tw_426 tw_220 tw_221 tw_222 q1 q2 q3 q4 q5 (by omega) (Nat.le_of_ble_eq_true rfl) dX1_become_15 ?_
  refine g_aload_n hC dX1_become_18 rfl ?_
  obtain ⟨htg, r102, hpt, hw⟩ := hw
  refine g_getr hC fl_X1_15_1.s htg hpt dX1_become_19 ?_
  refine g_iconst (v := 0) hC dX1_become_22 (by decide) ?_
  refine g_aload_n hC dX1_become_23 rfl ?_
  refine g_getrS hC fl_X1_15_1.s (hT _ tg_G_9) (hP _ pt_G_9_1) dX1_become_24 ?_
  refine g_iconst (v := 0) hC dX1_become_27 (by decide) ?_
  refine g_aload_n hC dX1_become_28 rfl ?_
  refine g_getrS hC fl_X1_15_1.s (hT _ tg_G_9) (hP _ pt_G_9_1) dX1_become_29 ?_
  refine g_alenS hC (hT _ tg_G_11) (by decide) (by decide) dX1_become_32 ?_
  refine mG.st (st1 := [.int 8, .int 0, .ref (xB X + 11), .int 0, .ref (xB X + r102)]) rfl ?_
  obtain ⟨n108, htg0, hw⟩ := hw
  obtain ⟨⟨q1, q2, q3, q4, q5⟩, hw⟩ := hw
  refine g_known (fun hS => ?_)
  refine g_copy hC htg0 (hS.2 _ (hT _ tg_G_11)) tw_426 tw_220 tw_221 tw_222 q1 q2 q3 q4 q5 (by omega) (Nat.le_of_ble_eq_true rfl) dX1_become_33 ?_
  refine g_aload_n hC dX1_become_36 rfl ?_
  obtain ⟨htg, r103, hpt, hw⟩ := hw
  refine g_getr hC fl_X1_18_1.s htg hpt dX1_become_37 ?_
  refine g_iconst (v := 0) hC dX1_become_40 (by decide) ?_
  refine g_aload_n hC dX1_become_41 rfl ?_
  refine g_getrS hC fl_X1_18_1.s (hT _ tg_G_9) (hP _ pt_G_9_3) dX1_become_42 ?_
  refine g_iconst (v := 0) hC dX1_become_45 (by decide) ?_
  refine g_aload_n hC dX1_become_46 rfl ?_
  refine g_getrS hC fl_X1_18_1.s (hT _ tg_G_9) (hP _ pt_G_9_3) dX1_become_47 ?_
  refine g_alenS hC (hT _ tg_G_12) (by decide) (by decide) dX1_become_50 ?_
  refine mG.st (st1 := [.int 8, .int 0, .ref (xB X + 12), .int 0, .ref (xB X + r103)]) rfl ?_
  obtain ⟨n107, htg0, hw⟩ := hw
  obtain ⟨⟨q1, q2, q3, q4, q5⟩, hw⟩ := hw
  refine g_known (fun hS => ?_)
  refine g_copy hC htg0 (hS.2 _ (hT _ tg_G_12)) tw_426 tw_220 tw_221 tw_222 q1 q2 q3 q4 q5 (by omega) (Nat.le_of_ble_eq_true rfl) dX1_become_51 ?_
  refine g_aload_n hC dX1_become_54 rfl ?_
  obtain ⟨htg, r104, hpt, hw⟩ := hw
  refine g_getr hC fl_X1_21_1.s htg hpt dX1_become_55 ?_
  refine g_iconst (v := 0) hC dX1_become_58 (by decide) ?_
  refine g_aload_n hC dX1_become_59 rfl ?_
  refine g_getrS hC fl_X1_21_1.s (hT _ tg_G_9) (hP _ pt_G_9_4) dX1_become_60 ?_
  refine g_iconst (v := 0) hC dX1_become_63 (by decide) ?_
  refine g_aload_n hC dX1_become_64 rfl ?_
  refine g_getrS hC fl_X1_21_1.s (hT _ tg_G_9) (hP _ pt_G_9_4) dX1_become_65 ?_
  refine g_alenS hC (hT _ tg_G_13) (by decide) (by decide) dX1_become_68 ?_
  refine mG.st (st1 := [.int 8, .int 0, .ref (xB X + 13), .int 0, .ref (xB X + r104)]) rfl ?_
  obtain ⟨n106, htg0, hw⟩ := hw
  obtain ⟨⟨q1, q2, q3, q4, q5⟩, hw⟩ := hw
  refine g_known (fun hS => ?_)
  refine g_copy hC htg0 (hS.2 _ (hT _ tg_G_13)) tw_426 tw_220 tw_221 tw_222 q1 q2 q3 q4 q5 (by omega) (Nat.le_of_ble_eq_true rfl) dX1_become_69 ?_
  refine g_aload_n hC dX1_become_72 rfl ?_
  refine g_aload_n hC dX1_become_73 rfl ?_
  refine g_getiv (v := (mI (sR (sR (sR (sR σ 10 (va_cpy (σ.1 r101) (σ.1 10) (Int32.toNatClampNeg 0) (Int32.toNatClampNeg 0) (Int32.toNatClampNeg 64))) 11 (va_cpy ((sR σ 10 (va_cpy (σ.1 r101) (σ.1 10) (Int32.toNatClampNeg 0) (Int32.toNatClampNeg 0) (Int32.toNatClampNeg 64))).1 r102) ((sR σ 10 (va_cpy (σ.1 r101) (σ.1 10) (Int32.toNatClampNeg 0) (Int32.toNatClampNeg 0) (Int32.toNatClampNeg 64))).1 11) (Int32.toNatClampNeg 0) (Int32.toNatClampNeg 0) (Int32.toNatClampNeg 8))) 12 (va_cpy ((sR (sR σ 10 (va_cpy (σ.1 r101) (σ.1 10) (Int32.toNatClampNeg 0) (Int32.toNatClampNeg 0) (Int32.toNatClampNeg 64))) 11 (va_cpy ((sR σ 10 (va_cpy (σ.1 r101) (σ.1 10) (Int32.toNatClampNeg 0) (Int32.toNatClampNeg 0) (Int32.toNatClampNeg 64))).1 r102) ((sR σ 10 (va_cpy (σ.1 r101) (σ.1 10) (Int32.toNatClampNeg 0) (Int32.toNatClampNeg 0) (Int32.toNatClampNeg 64))).1 11) (Int32.toNatClampNeg 0) (Int32.toNatClampNeg 0) (Int32.toNatClampNeg 8))).1 r103) ((sR (sR σ 10 (va_cpy (σ.1 r101) (σ.1 10) (Int32.toNatClampNeg 0) (Int32.toNatClampNeg 0) (Int32.toNatClampNeg 64))) 11 (va_cpy ((sR σ 10 (va_cpy (σ.1 r101) (σ.1 10) (Int32.toNatClampNeg 0) (Int32.toNatClampNeg 0) (Int32.toNatClampNeg 64))).1 r102) ((sR σ 10 (va_cpy (σ.1 r101) (σ.1 10) (Int32.toNatClampNeg 0) (Int32.toNatClampNeg 0) (Int32.toNatClampNeg 64))).1 11) (Int32.toNatClampNeg 0) (Int32.toNatClampNeg 0) (Int32.toNatClampNeg 8))).1 12) (Int32.toNatClampNeg 0) (Int32.toNatClampNeg 0) (Int32.toNatClampNeg 8))) 13 (va_cpy ((sR (sR (sR σ 10 (va_cpy (σ.1 r101) (σ.1 10) (Int32.toNatClampNeg 0) (Int32.toNatClampNeg 0) (Int32.toNatClampNeg 64))) 11 (va_cpy ((sR σ 10 (va_cpy (σ.1 r101) (σ.1 10) (Int32.toNatClampNeg 0) (Int32.toNatClampNeg 0) (Int32.toNatClampNeg 64))).1 r102) ((sR σ 10 (va_cpy (σ.1 r101) (σ.1 10) (Int32.toNatClampNeg 0) (Int32.toNatClampNeg 0) (Int32.toNatClampNeg 64))).1 11) (Int32.toNatClampNeg 0) (Int32.toNatClampNeg 0) (Int32.toNatClampNeg 8))) 12 (va_cpy ((sR (sR σ 10 (va_cpy (σ.1 r101) (σ.1 10) (Int32.toNatClampNeg 0) (Int32.toNatClampNeg 0) (Int32.toNatClampNeg 64))) 11 (va_cpy ((sR σ 10 (va_cpy (σ.1 r101) (σ.1 10) (Int32.toNatClampNeg 0) (Int32.toNatClampNeg 0) (Int32.toNatClampNeg 64))).1 r102) ((sR σ 10 (va_cpy (σ.1 r101) (σ.1 10) (Int32.toNatClampNeg 0) (Int32.toNatClampNeg 0) (Int32.toNatClampNeg 64))).1 11) (Int32.toNatClampNeg 0) (Int32.toNatClampNeg 0) (Int32.toNatClampNeg 8))).1 r103) ((sR (sR σ 10 (va_cpy (σ.1 r101) (σ.1 10) (Int32.toNatClampNeg 0) (Int32.toNatClampNeg 0) (Int32.toNatClampNeg 64))) 11 (va_cpy ((sR σ 10 (va_cpy (σ.1 r101) (σ.1 10) (Int32.toNatClampNeg 0) (Int32.toNatClampNeg 0) (Int32.toNatClampNeg 64))).1 r102) ((sR σ 10 (va_cpy (σ.1 r101) (σ.1 10) (Int32.toNatClampNeg 0) (Int32.toNatClampNeg 0) (Int32.toNatClampNeg 64))).1 11) (Int32.toNatClampNeg 0) (Int32.toNatClampNeg 0) (Int32.toNatClampNeg 8))).1 12) (Int32.toNatClampNeg 0) (Int32.toNatClampNeg 0) (Int32.toNatClampNeg 8))).1 r104) ((sR (sR (sR σ 10 (va_cpy (σ.1 r101) (σ.1 10) (Int32.toNatClampNeg 0) (Int32.toNatClampNeg 0) (Int32.toNatClampNeg 64))) 11 (va_cpy ((sR σ 10 (va_cpy (σ.1 r101) (σ.1 10) (Int32.toNatClampNeg 0) (Int32.toNatClampNeg 0) (Int32.toNatClampNeg 64))).1 r102) ((sR σ 10 (va_cpy (σ.1 r101) (σ.1 10) (Int32.toNatClampNeg 0) (Int32.toNatClampNeg 0) (Int32.toNatClampNeg 64))).1 11) (Int32.toNatClampNeg 0) (Int32.toNatClampNeg 0) (Int32.toNatClampNeg 8))) 12 (va_cpy ((sR (sR σ 10 (va_cpy (σ.1 r101) (σ.1 10) (Int32.toNatClampNeg 0) (Int32.toNatClampNeg 0) (Int32.toNatClampNeg 64))) 11 (va_cpy ((sR σ 10 (va_cpy (σ.1 r101) (σ.1 10) (Int32.toNatClampNeg 0) (Int32.toNatClampNeg 0) (Int32.toNatClampNeg 64))).1 r102) ((sR σ 10 (va_cpy (σ.1 r101) (σ.1 10) (Int32.toNatClampNeg 0) (Int32.toNatClampNeg 0) (Int32.toNatClampNeg 64))).1 11) (Int32.toNatClampNeg 0) (Int32.toNatClampNeg 0) (Int32.toNatClampNeg 8))).1 r103) ((sR (sR σ 10 (va_cpy (σ.1 r101) (σ.1 10) (Int32.toNatClampNeg 0) (Int32.toNatClampNeg 0) (Int32.toNatClampNeg 64))) 11 (va_cpy ((sR σ 10 (va_cpy (σ.1 r101) (σ.1 10) (Int32.toNatClampNeg 0) (Int32.toNatClampNeg 0) (Int32.toNatClampNeg 64))).1 r102) ((sR σ 10 (va_cpy (σ.1 r101) (σ.1 10) (Int32.toNatClampNeg 0) (Int32.toNatClampNeg 0) (Int32.toNatClampNeg 64))).1 11) (Int32.toNatClampNeg 0) (Int32.toNatClampNeg 0) (Int32.toNatClampNeg 8))).1 12) (Int32.toNatClampNeg 0) (Int32.toNatClampNeg 0) (Int32.toNatClampNeg 8))).1 13) (Int32.toNatClampNeg 0) (Int32.toNatClampNeg 0) (Int32.toNatClampNeg 8))) a1 2)) hC fl_X1_24_1.s hw.1 rfl dX1_become_74 ?_
  replace hw := hw.2
  refine g_topi (fun v105 ev105 => ?_)
  replace hw := hw v105 ev105
  refine g_putIS hC (fw_X1_24_1 _) (hT _ tg_G_9) rfl rfl dX1_become_77 ?_
  exact g_vret hC (by decide) (by decide) dX1_become_80 (fun _ => ⟨rfl, hw⟩)
set_option maxRecDepth 4000 in
theorem c_X1_become_9_d {Z : Fx} {ps ts : List (Nat × Nat × Nat)} {d : Nat} (hd : 1 ≤ d) (hP : ∀ e ∈ psG, e ∈ ps) (hT : ∀ e ∈ tsG, e ∈ ts) (hF : ∀ e ∈ ps, e ∈ psA) {σ : Mem} {a1 : Nat} {Q : Mem → Prop} (hw : w_X1_become_9_d σ a1 Q) : mM Z ps ts yX1_become cX1_become 2 none d 0 0 [.ref (Z.2.2 + 9), .ref (Z.2.2 + a1)] σ (qV Q) := by
  refine mM.of (by decide) (Nat.le_of_ble_eq_true rfl) rfl (fun X hZ hp ht hn hC => ?_)
  subst hZ; subst hp; subst ht
  exact t_X1_become_9_d hC hd (fun i h => by rw [hn]; exact h) hP hT hF hw
def w_X9_become_8_d (σ : Mem) (a1 : Nat) (Q : Mem → Prop) : Prop := mT σ a1 = some (9, 0) ∧ ∃ r101 : Nat, (mP σ a1 0) = some r101 ∧ (w_X1_become_9_d σ r101 (fun s104 => mT s104 a1 = some (9, 0) ∧ (mT s104 a1 = some (9, 0) ∧ (∀ v105 : Int32, v105 = (mI (sI s104 8 1 (mI s104 a1 1)) a1 2) → (mT s104 a1 = some (9, 0) ∧ (∀ v106 : Int32, v106 = (mI (sI (sI s104 8 1 (mI s104 a1 1)) 8 2 v105) a1 3) → (Q (sI (sI (sI s104 8 1 (mI s104 a1 1)) 8 2 v105) 8 3 v106))))))))
set_option maxRecDepth 4000 in
set_option maxHeartbeats 2000000 in
theorem t_X9_become_8_d {X : Cx} {d : Nat} (hC : mOK X cX9_become RX9 "become" none d 0 0) (hd : 2 ≤ d) (hN : ∀ i, i < 2 → i < xN X) (hP : ∀ e ∈ psG, e ∈ xP X) (hT : ∀ e ∈ tsG, e ∈ xT X) (hF : ∀ e ∈ xP X, e ∈ psA) {σ : Mem} {a1 : Nat} {Q : Mem → Prop} (hw : w_X9_become_8_d σ a1 Q) : mG X 0 [(0, .ref (xB X + 8)), (1, .ref (xB X + a1))] [] σ 0 0 (mQ X 0 0 (qV Q)) := by
  refine g_aload_n hC dX9_become_0 rfl ?_
  refine g_getrS hC fl_X9_12_9.s (hT _ tg_G_8) (hP _ pt_G_8_0) dX9_become_1 ?_
  refine g_aload_n hC dX9_become_4 rfl ?_
  obtain ⟨htg, r101, hpt, hw⟩ := hw
  refine g_getr hC fl_X9_12_9.s htg hpt dX9_become_5 ?_
  refine g_known (fun hS => ?_)
  refine mG.st (st1 := ([.ref (xB X + r101)] : List Value).reverse ++ .ref (xB X + 9) :: []) rfl ?_
  refine g_callV (As := [.ref (xB X + r101)]) (st := []) hC (hS.2 _ (hT _ tg_G_9)) (by decide) ycl_1_X1_become yw_X1_become yv_X1_become tw_425 dX9_become_8 (fun _ h => h) (fun _ h => h) (fun h => h) (c_X1_become_9_d (d := 1) (Nat.le_refl _) hP hT hF hw) rfl (Nat.le_of_ble_eq_true rfl) (by omega) (by decide) (by decide) (kV fun s104 hw => ?_)
  refine g_aload_n hC dX9_become_11 rfl ?_
  refine g_aload_n hC dX9_become_12 rfl ?_
  refine g_getiv (v := (mI s104 a1 1)) hC fl_X9_26_9.s hw.1 rfl dX9_become_13 ?_
  replace hw := hw.2
  refine g_putIS hC (fw_X9_26_9 _) (hT _ tg_G_8) rfl rfl dX9_become_16 ?_
  refine g_aload_n hC dX9_become_19 rfl ?_
  refine g_aload_n hC dX9_become_20 rfl ?_
  refine g_getiv (v := (mI (sI s104 8 1 (mI s104 a1 1)) a1 2)) hC fl_X9_18_9.s hw.1 rfl dX9_become_21 ?_
  replace hw := hw.2
  refine g_topi (fun v105 ev105 => ?_)
  replace hw := hw v105 ev105
  refine g_putIS hC (fw_X9_18_9 _) (hT _ tg_G_8) rfl rfl dX9_become_24 ?_
  refine g_aload_n hC dX9_become_27 rfl ?_
  refine g_aload_n hC dX9_become_28 rfl ?_
  refine g_getiv (v := (mI (sI (sI s104 8 1 (mI s104 a1 1)) 8 2 v105) a1 3)) hC fl_X9_29_9.s hw.1 rfl dX9_become_29 ?_
  replace hw := hw.2
  refine g_topi (fun v106 ev106 => ?_)
  replace hw := hw v106 ev106
  refine g_putIS hC (fw_X9_29_9 _) (hT _ tg_G_8) rfl rfl dX9_become_32 ?_
  exact g_vret hC (by decide) (by decide) dX9_become_35 (fun _ => ⟨rfl, hw⟩)
set_option maxRecDepth 4000 in
theorem c_X9_become_8_d {Z : Fx} {ps ts : List (Nat × Nat × Nat)} {d : Nat} (hd : 2 ≤ d) (hP : ∀ e ∈ psG, e ∈ ps) (hT : ∀ e ∈ tsG, e ∈ ts) (hF : ∀ e ∈ ps, e ∈ psA) {σ : Mem} {a1 : Nat} {Q : Mem → Prop} (hw : w_X9_become_8_d σ a1 Q) : mM Z ps ts yX9_become cX9_become 2 none d 0 0 [.ref (Z.2.2 + 8), .ref (Z.2.2 + a1)] σ (qV Q) := by
  refine mM.of (by decide) (Nat.le_of_ble_eq_true rfl) rfl (fun X hZ hp ht hn hC => ?_)
  subst hZ; subst hp; subst ht
  exact t_X9_become_8_d hC hd (fun i h => by rw [hn]; exact h) hP hT hF hw
def w_J7_fill_53178_5 (Q : Mem → Prop) : Nat → Nat → Int32 → Int32 → Int32 → Mem → Prop
  | 0, _, _, _, _, _ => False
  | n + 1, a0, x1, x2, x3, σ => (x3 ≤ x2 → (Q σ)) ∧ (¬ x3 ≤ x2 → (∃ n101 : Nat, mT σ a0 = some (14, n101) ∧ vp_in x2 n101 ∧ (w_J7_fill_53178_5 Q n a0 x1 (x2 + 1) x3 (sI σ a0 (Int32.toNatClampNeg x2) x1))))
set_option maxRecDepth 4000 in
set_option maxHeartbeats 2000000 in
theorem t_J7_fill_53178_5 {X : Cx} {d : Nat} (hC : mOK X cJ7_fill_53178 RJ7 "fill" none d 0 0) (hd : 0 ≤ d) (hN : ∀ i, i < 4 → i < xN X) {Q : Mem → Prop} : ∀ (n : Nat) (a0 : Nat) (x1 : Int32) (x2 : Int32) (x3 : Int32) (σ : Mem), w_J7_fill_53178_5 Q n a0 x1 x2 x3 σ → mG X 5 [(0, .ref (xB X + a0)), (1, .int x1), (2, .int x2), (3, .int x3)] [] σ 0 0 (mQ X 0 0 (qV Q)) := by
  intro n
  induction n with
  | zero => intro a0 x1 x2 x3 σ hw; exact False.elim hw
  | succ n ih =>
    intro a0 x1 x2 x3 σ hw
    rw [w_J7_fill_53178_5] at hw
    refine g_iload_n hC dJ7_fill_53178_5 rfl ?_
    refine g_iload_n hC dJ7_fill_53178_6 rfl ?_
    refine g_icmp_ge (tgt := 20) hC dJ7_fill_53178_7 rfl (fun c => ?_) (fun c => ?_)
    · replace hw := hw.1 c
      exact g_vret hC (by decide) (by decide) dJ7_fill_53178_20 (fun _ => ⟨rfl, hw⟩)
    · replace hw := hw.2 c
      refine g_aload_n hC dJ7_fill_53178_10 rfl ?_
      refine g_iload_n hC dJ7_fill_53178_11 rfl ?_
      refine g_iload_n hC dJ7_fill_53178_12 rfl ?_
      obtain ⟨n101, htg, hw⟩ := hw
      have hin := hw.1
      replace hw := hw.2
      refine g_iastK (k := (Int32.toNatClampNeg x2)) hC htg rfl hin dJ7_fill_53178_13 ?_
      refine g_iinc (v := x2 + 1) (lv' := [(2, .int (x2 + 1)), (0, .ref (xB X + a0)), (1, .int x1), (3, .int x3)]) hC dJ7_fill_53178_14 rfl rfl (hN 2 (by decide)) rfl ?_
      refine g_goto (tgt := 5) hC dJ7_fill_53178_17 rfl ?_
      refine mG.pick (lv' := [(0, .ref (xB X + a0)), (1, .int x1), (2, .int (x2 + 1)), (3, .int x3)]) [1, 2, 0, 3] rfl ?_
      exact ih _ _ _ _ _ hw
def w_J7_fill_53178 (σ : Mem) (a0 : Nat) (x1 : Int32) (Q : Mem → Prop) : Prop := ∃ n101 : Nat, mT σ a0 = some (14, n101) ∧ (∃ m102 : Nat, w_J7_fill_53178_5 Q m102 a0 x1 0 (nI n101) σ)
set_option maxRecDepth 4000 in
set_option maxHeartbeats 2000000 in
theorem t_J7_fill_53178 {X : Cx} {d : Nat} (hC : mOK X cJ7_fill_53178 RJ7 "fill" none d 0 0) (hd : 0 ≤ d) (hN : ∀ i, i < 4 → i < xN X) {σ : Mem} {a0 : Nat} {x1 : Int32} {Q : Mem → Prop} (hw : w_J7_fill_53178 σ a0 x1 Q) : mG X 0 [(0, .ref (xB X + a0)), (1, .int x1)] [] σ 0 0 (mQ X 0 0 (qV Q)) := by
  refine g_iconst (v := 0) hC dJ7_fill_53178_0 (by decide) ?_
  refine g_istore_n (lv' := [(2, .int 0), (0, .ref (xB X + a0)), (1, .int x1)]) hC dJ7_fill_53178_1 (hN 2 (by decide)) rfl ?_
  refine g_aload_n hC dJ7_fill_53178_2 rfl ?_
  obtain ⟨n101, htg, hw⟩ := hw
  refine g_alen hC htg (by decide) (by decide) dJ7_fill_53178_3 ?_
  refine g_istore_n (lv' := [(3, .int (nI n101)), (2, .int 0), (0, .ref (xB X + a0)), (1, .int x1)]) hC dJ7_fill_53178_4 (hN 3 (by decide)) rfl ?_
  refine mG.pick (lv' := [(0, .ref (xB X + a0)), (1, .int x1), (2, .int 0), (3, .int (nI n101))]) [2, 3, 1, 0] rfl ?_
  obtain ⟨m102, hw⟩ := hw
  exact t_J7_fill_53178_5 hC hd hN m102 _ _ _ _ _ hw
set_option maxRecDepth 4000 in
theorem c_J7_fill_53178 {Z : Fx} {ps ts : List (Nat × Nat × Nat)} {d : Nat} (hd : 0 ≤ d) {σ : Mem} {a0 : Nat} {x1 : Int32} {Q : Mem → Prop} (hw : w_J7_fill_53178 σ a0 x1 Q) : mM Z ps ts yJ7_fill_53178 cJ7_fill_53178 4 none d 0 0 [.ref (Z.2.2 + a0), .int x1] σ (qV Q) := by
  refine mM.of (by decide) (Nat.le_of_ble_eq_true rfl) rfl (fun X hZ hp ht hn hC => ?_)
  subst hZ; subst hp; subst ht
  exact t_J7_fill_53178 hC hd (fun i h => by rw [hn]; exact h) hw
def w_X7_become (σ : Mem) (a0 : Nat) (x1 : Int32) (x2 : Int32) (Q : Mem → Prop) : Prop := (mT σ a0 = some (7, 0) ∧ (∀ v101 : Int32, v101 = (if 0 < (if x2 < 40 then x2 else 40) then (if x2 < 40 then x2 else 40) else 0) → (mT σ a0 = some (7, 0) ∧ (mT σ a0 = some (7, 0) ∧ ∃ r102 : Nat, (mP σ a0 0) = some r102 ∧ (w_J7_fill_53178 (sI (sI σ a0 1 x1) a0 2 v101) r102 0 (fun s105 => Q s105))))))
set_option maxRecDepth 4000 in
set_option maxHeartbeats 2000000 in
theorem t_X7_become {X : Cx} {d : Nat} (hC : mOK X cX7_become RX7 "become" none d 0 0) (hd : 1 ≤ d) (hN : ∀ i, i < 3 → i < xN X) {σ : Mem} {a0 : Nat} {x1 : Int32} {x2 : Int32} {Q : Mem → Prop} (hw : w_X7_become σ a0 x1 x2 Q) : mG X 0 [(0, .ref (xB X + a0)), (1, .int x1), (2, .int x2)] [] σ 0 0 (mQ X 0 0 (qV Q)) := by
  refine g_aload_n hC dX7_become_0 rfl ?_
  refine g_iload_n hC dX7_become_1 rfl ?_
  refine g_putI hC (fw_X7_15_7 _) hw.1 rfl rfl dX7_become_2 ?_
  replace hw := hw.2
  refine g_aload_n hC dX7_become_5 rfl ?_
  refine g_iconst (v := 0) hC dX7_become_6 (by decide) ?_
  refine g_bipush (v := 40) hC dX7_become_7 (by decide) ?_
  refine g_iload_n hC dX7_become_9 rfl ?_
  refine g_mmin hC tw_436 tw_119 tw_5 tw_120 (Nat.le_of_ble_eq_true rfl) (by omega) (by decide) (by decide) dX7_become_10 ?_
  refine g_mmax hC tw_437 tw_103 tw_5 tw_104 (Nat.le_of_ble_eq_true rfl) (by omega) (by decide) (by decide) dX7_become_13 ?_
  refine g_topi (fun v101 ev101 => ?_)
  replace hw := hw v101 ev101
  refine g_putI hC (fw_X7_19_7 _) hw.1 rfl rfl dX7_become_16 ?_
  replace hw := hw.2
  refine g_aload_n hC dX7_become_19 rfl ?_
  obtain ⟨htg, r102, hpt, hw⟩ := hw
  refine g_getr hC fl_X7_9_7.s htg hpt dX7_become_20 ?_
  refine g_iconst (v := 0) hC dX7_become_23 (by decide) ?_
  refine mG.st (st1 := ([.ref (xB X + r102), .int 0] : List Value).reverse ++ []) rfl ?_
  refine g_callS (As := [.ref (xB X + r102), .int 0]) (st := []) hC yw_J7_fill_53178 ys_J7_fill_53178 tw_438 dX7_become_24 (fun _ h => h) (fun _ h => h) (fun h => h) (c_J7_fill_53178 (d := 0) (Nat.le_refl _) hw) rfl (Nat.le_of_ble_eq_true rfl) (by omega) (by decide) (by decide) (kV fun s105 hw => ?_)
  exact g_vret hC (by decide) (by decide) dX7_become_27 (fun _ => ⟨rfl, hw⟩)
set_option maxRecDepth 4000 in
theorem c_X7_become {Z : Fx} {ps ts : List (Nat × Nat × Nat)} {d : Nat} (hd : 1 ≤ d) {σ : Mem} {a0 : Nat} {x1 : Int32} {x2 : Int32} {Q : Mem → Prop} (hw : w_X7_become σ a0 x1 x2 Q) : mM Z ps ts yX7_become cX7_become 3 none d 0 0 [.ref (Z.2.2 + a0), .int x1, .int x2] σ (qV Q) := by
  refine mM.of (by decide) (Nat.le_of_ble_eq_true rfl) rfl (fun X hZ hp ht hn hC => ?_)
  subst hZ; subst hp; subst ht
  exact t_X7_become hC hd (fun i h => by rw [hn]; exact h) hw
def w_X7_has (σ : Mem) (a0 : Nat) (x1 : Int32) (Q : Int32 → Mem → Prop) : Prop := (x1 < 0 → (Q 0 σ)) ∧ (¬ x1 < 0 → (mT σ a0 = some (7, 0) ∧ (((mI σ a0 2) ≤ x1 → (Q 0 σ)) ∧ (¬ (mI σ a0 2) ≤ x1 → (Q 1 σ)))))
set_option maxRecDepth 4000 in
set_option maxHeartbeats 2000000 in
theorem t_X7_has {X : Cx} {d : Nat} (hC : mOK X cX7_has RX7 "has" (some .boolean) d 0 0) (hd : 0 ≤ d) (hN : ∀ i, i < 2 → i < xN X) {σ : Mem} {a0 : Nat} {x1 : Int32} {Q : Int32 → Mem → Prop} (hw : w_X7_has σ a0 x1 Q) : mG X 0 [(0, .ref (xB X + a0)), (1, .int x1)] [] σ 0 0 (mQ X 0 0 (qI Q)) := by
  refine g_iload_n hC dX7_has_0 rfl ?_
  refine g_if_lt (tgt := 16) hC dX7_has_1 rfl (fun c => ?_) (fun c => ?_)
  · replace hw := hw.1 c
    refine g_iconst (v := 0) hC dX7_has_16 (by decide) ?_
    exact g_iret hC bz0 (by decide) (by decide) dX7_has_17 (fun _ => ⟨_, rfl, hw⟩)
  · replace hw := hw.2 c
    refine g_iload_n hC dX7_has_4 rfl ?_
    refine g_aload_n hC dX7_has_5 rfl ?_
    refine g_getiv (v := (mI σ a0 2)) hC fl_X7_19_7.s hw.1 rfl dX7_has_6 ?_
    replace hw := hw.2
    refine g_icmp_ge (tgt := 16) hC dX7_has_9 rfl (fun c => ?_) (fun c => ?_)
    · replace hw := hw.1 c
      refine g_iconst (v := 0) hC dX7_has_16 (by decide) ?_
      exact g_iret hC bz0 (by decide) (by decide) dX7_has_17 (fun _ => ⟨_, rfl, hw⟩)
    · replace hw := hw.2 c
      refine g_iconst (v := 1) hC dX7_has_12 (by decide) ?_
      refine g_goto (tgt := 17) hC dX7_has_13 rfl ?_
      exact g_iret hC bz1 (by decide) (by decide) dX7_has_17 (fun _ => ⟨_, rfl, hw⟩)
set_option maxRecDepth 4000 in
theorem c_X7_has {Z : Fx} {ps ts : List (Nat × Nat × Nat)} {d : Nat} (hd : 0 ≤ d) {σ : Mem} {a0 : Nat} {x1 : Int32} {Q : Int32 → Mem → Prop} (hw : w_X7_has σ a0 x1 Q) : mM Z ps ts yX7_has cX7_has 2 (some .boolean) d 0 0 [.ref (Z.2.2 + a0), .int x1] σ (qI Q) := by
  refine mM.of (by decide) (Nat.le_of_ble_eq_true rfl) rfl (fun X hZ hp ht hn hC => ?_)
  subst hZ; subst hp; subst ht
  exact t_X7_has hC hd (fun i h => by rw [hn]; exact h) hw
def w_X7_put (σ : Mem) (a0 : Nat) (x1 : Int32) (x2 : Int32) (Q : Mem → Prop) : Prop := mT σ a0 = some (7, 0) ∧ (w_X7_has σ a0 x1 (fun v101 s103 => (v101 = 0 → (Q s103)) ∧ (¬ v101 = 0 → (mT s103 a0 = some (7, 0) ∧ ∃ r104 : Nat, (mP s103 a0 0) = some r104 ∧ (mT s103 a0 = some (7, 0) ∧ ((¬ (mI s103 a0 1) = 0 → (mT s103 a0 = some (7, 0) ∧ ((¬ (mI s103 a0 1) = 1 → (∃ n105 : Nat, mT s103 r104 = some (14, n105) ∧ vp_in x1 n105 ∧ (Q (sI s103 r104 (Int32.toNatClampNeg x1) x2)))) ∧ ((mI s103 a0 1) = 1 → (∃ n106 : Nat, mT s103 r104 = some (14, n106) ∧ vp_in x1 n106 ∧ (Q (sI s103 r104 (Int32.toNatClampNeg x1) ((Int32.toInt16 x2).toInt32)))))))) ∧ ((mI s103 a0 1) = 0 → (∃ n107 : Nat, mT s103 r104 = some (14, n107) ∧ vp_in x1 n107 ∧ (Q (sI s103 r104 (Int32.toNatClampNeg x1) ((Int32.toInt8 x2).toInt32)))))))))))
set_option maxRecDepth 4000 in
set_option maxHeartbeats 2000000 in
theorem t_X7_put {X : Cx} {d : Nat} (hC : mOK X cX7_put RX7 "put" none d 0 0) (hd : 1 ≤ d) (hN : ∀ i, i < 3 → i < xN X) {σ : Mem} {a0 : Nat} {x1 : Int32} {x2 : Int32} {Q : Mem → Prop} (hw : w_X7_put σ a0 x1 x2 Q) : mG X 0 [(0, .ref (xB X + a0)), (1, .int x1), (2, .int x2)] [] σ 0 0 (mQ X 0 0 (qV Q)) := by
  refine g_aload_n hC dX7_put_0 rfl ?_
  refine g_iload_n hC dX7_put_1 rfl ?_
  refine mG.st (st1 := ([.int x1] : List Value).reverse ++ .ref (xB X + a0) :: []) rfl ?_
  have hw0 := hw.1
  replace hw := hw.2
  refine g_callV (As := [.int x1]) (st := []) hC hw0 (by decide) ycl_7_X7_has yw_X7_has yv_X7_has tw_446 dX7_put_2 (fun _ h => h) (fun _ h => h) (fun h => h) (c_X7_has (d := 0) (Nat.le_refl _) hw) rfl (Nat.le_of_ble_eq_true rfl) (by omega) (by decide) (by decide) (kI fun v101 s103 hw => ?_)
  refine g_if_eq (tgt := 40) hC dX7_put_5 rfl (fun c => ?_) (fun c => ?_)
  · replace hw := hw.1 c
    exact g_vret hC (by decide) (by decide) dX7_put_40 (fun _ => ⟨rfl, hw⟩)
  · replace hw := hw.2 c
    refine g_aload_n hC dX7_put_8 rfl ?_
    obtain ⟨htg, r104, hpt, hw⟩ := hw
    refine g_getr hC fl_X7_9_7.s htg hpt dX7_put_9 ?_
    refine g_iload_n hC dX7_put_12 rfl ?_
    refine g_aload_n hC dX7_put_13 rfl ?_
    refine g_getiv (v := (mI s103 a0 1)) hC fl_X7_15_7.s hw.1 rfl dX7_put_14 ?_
    replace hw := hw.2
    refine g_if_ne (tgt := 25) hC dX7_put_17 rfl (fun c => ?_) (fun c => ?_)
    · replace hw := hw.1 c
      refine g_aload_n hC dX7_put_25 rfl ?_
      refine g_getiv (v := (mI s103 a0 1)) hC fl_X7_15_7.s hw.1 rfl dX7_put_26 ?_
      replace hw := hw.2
      refine g_iconst (v := 1) hC dX7_put_29 (by decide) ?_
      refine g_icmp_ne (tgt := 38) hC dX7_put_30 rfl (fun c => ?_) (fun c => ?_)
      · replace hw := hw.1 c
        refine g_iload_n hC dX7_put_38 rfl ?_
        obtain ⟨n105, htg, hw⟩ := hw
        have hin := hw.1
        replace hw := hw.2
        refine g_iastK (k := (Int32.toNatClampNeg x1)) hC htg rfl hin dX7_put_39 ?_
        exact g_vret hC (by decide) (by decide) dX7_put_40 (fun _ => ⟨rfl, hw⟩)
      · replace hw := hw.2 c
        refine g_iload_n hC dX7_put_33 rfl ?_
        refine g_i2s hC dX7_put_34 ?_
        refine g_goto (tgt := 39) hC dX7_put_35 rfl ?_
        obtain ⟨n106, htg, hw⟩ := hw
        have hin := hw.1
        replace hw := hw.2
        refine g_iastK (k := (Int32.toNatClampNeg x1)) hC htg rfl hin dX7_put_39 ?_
        exact g_vret hC (by decide) (by decide) dX7_put_40 (fun _ => ⟨rfl, hw⟩)
    · replace hw := hw.2 c
      refine g_iload_n hC dX7_put_20 rfl ?_
      refine g_i2b hC dX7_put_21 ?_
      refine g_goto (tgt := 39) hC dX7_put_22 rfl ?_
      obtain ⟨n107, htg, hw⟩ := hw
      have hin := hw.1
      replace hw := hw.2
      refine g_iastK (k := (Int32.toNatClampNeg x1)) hC htg rfl hin dX7_put_39 ?_
      exact g_vret hC (by decide) (by decide) dX7_put_40 (fun _ => ⟨rfl, hw⟩)
set_option maxRecDepth 4000 in
theorem c_X7_put {Z : Fx} {ps ts : List (Nat × Nat × Nat)} {d : Nat} (hd : 1 ≤ d) {σ : Mem} {a0 : Nat} {x1 : Int32} {x2 : Int32} {Q : Mem → Prop} (hw : w_X7_put σ a0 x1 x2 Q) : mM Z ps ts yX7_put cX7_put 3 none d 0 0 [.ref (Z.2.2 + a0), .int x1, .int x2] σ (qV Q) := by
  refine mM.of (by decide) (Nat.le_of_ble_eq_true rfl) rfl (fun X hZ hp ht hn hC => ?_)
  subst hZ; subst hp; subst ht
  exact t_X7_put hC hd (fun i h => by rw [hn]; exact h) hw
def w_X7_hasSpan (σ : Mem) (a0 : Nat) (x1 : Int32) (x2 : Int32) (Q : Int32 → Mem → Prop) : Prop := (x1 < 0 → (Q 0 σ)) ∧ (¬ x1 < 0 → ((x2 < 0 → (Q 0 σ)) ∧ (¬ x2 < 0 → (mT σ a0 = some (7, 0) ∧ (((mI σ a0 2) < x1 → (Q 0 σ)) ∧ (¬ (mI σ a0 2) < x1 → (mT σ a0 = some (7, 0) ∧ ((((mI σ a0 2) - x1) < x2 → (Q 0 σ)) ∧ (¬ ((mI σ a0 2) - x1) < x2 → (Q 1 σ))))))))))
set_option maxRecDepth 4000 in
set_option maxHeartbeats 2000000 in
theorem t_X7_hasSpan {X : Cx} {d : Nat} (hC : mOK X cX7_hasSpan RX7 "hasSpan" (some .boolean) d 0 0) (hd : 0 ≤ d) (hN : ∀ i, i < 3 → i < xN X) {σ : Mem} {a0 : Nat} {x1 : Int32} {x2 : Int32} {Q : Int32 → Mem → Prop} (hw : w_X7_hasSpan σ a0 x1 x2 Q) : mG X 0 [(0, .ref (xB X + a0)), (1, .int x1), (2, .int x2)] [] σ 0 0 (mQ X 0 0 (qI Q)) := by
  refine g_iload_n hC dX7_hasSpan_0 rfl ?_
  refine g_if_lt (tgt := 30) hC dX7_hasSpan_1 rfl (fun c => ?_) (fun c => ?_)
  · replace hw := hw.1 c
    refine g_iconst (v := 0) hC dX7_hasSpan_30 (by decide) ?_
    exact g_iret hC bz0 (by decide) (by decide) dX7_hasSpan_31 (fun _ => ⟨_, rfl, hw⟩)
  · replace hw := hw.2 c
    refine g_iload_n hC dX7_hasSpan_4 rfl ?_
    refine g_if_lt (tgt := 30) hC dX7_hasSpan_5 rfl (fun c => ?_) (fun c => ?_)
    · replace hw := hw.1 c
      refine g_iconst (v := 0) hC dX7_hasSpan_30 (by decide) ?_
      exact g_iret hC bz0 (by decide) (by decide) dX7_hasSpan_31 (fun _ => ⟨_, rfl, hw⟩)
    · replace hw := hw.2 c
      refine g_iload_n hC dX7_hasSpan_8 rfl ?_
      refine g_aload_n hC dX7_hasSpan_9 rfl ?_
      refine g_getiv (v := (mI σ a0 2)) hC fl_X7_19_7.s hw.1 rfl dX7_hasSpan_10 ?_
      replace hw := hw.2
      refine g_icmp_gt (tgt := 30) hC dX7_hasSpan_13 rfl (fun c => ?_) (fun c => ?_)
      · replace hw := hw.1 c
        refine g_iconst (v := 0) hC dX7_hasSpan_30 (by decide) ?_
        exact g_iret hC bz0 (by decide) (by decide) dX7_hasSpan_31 (fun _ => ⟨_, rfl, hw⟩)
      · replace hw := hw.2 c
        refine g_iload_n hC dX7_hasSpan_16 rfl ?_
        refine g_aload_n hC dX7_hasSpan_17 rfl ?_
        refine g_getiv (v := (mI σ a0 2)) hC fl_X7_19_7.s hw.1 rfl dX7_hasSpan_18 ?_
        replace hw := hw.2
        refine g_iload_n hC dX7_hasSpan_21 rfl ?_
        refine g_isub hC dX7_hasSpan_22 ?_
        refine g_icmp_gt (tgt := 30) hC dX7_hasSpan_23 rfl (fun c => ?_) (fun c => ?_)
        · replace hw := hw.1 c
          refine g_iconst (v := 0) hC dX7_hasSpan_30 (by decide) ?_
          exact g_iret hC bz0 (by decide) (by decide) dX7_hasSpan_31 (fun _ => ⟨_, rfl, hw⟩)
        · replace hw := hw.2 c
          refine g_iconst (v := 1) hC dX7_hasSpan_26 (by decide) ?_
          refine g_goto (tgt := 31) hC dX7_hasSpan_27 rfl ?_
          exact g_iret hC bz1 (by decide) (by decide) dX7_hasSpan_31 (fun _ => ⟨_, rfl, hw⟩)
set_option maxRecDepth 4000 in
theorem c_X7_hasSpan {Z : Fx} {ps ts : List (Nat × Nat × Nat)} {d : Nat} (hd : 0 ≤ d) {σ : Mem} {a0 : Nat} {x1 : Int32} {x2 : Int32} {Q : Int32 → Mem → Prop} (hw : w_X7_hasSpan σ a0 x1 x2 Q) : mM Z ps ts yX7_hasSpan cX7_hasSpan 3 (some .boolean) d 0 0 [.ref (Z.2.2 + a0), .int x1, .int x2] σ (qI Q) := by
  refine mM.of (by decide) (Nat.le_of_ble_eq_true rfl) rfl (fun X hZ hp ht hn hC => ?_)
  subst hZ; subst hp; subst ht
  exact t_X7_hasSpan hC hd (fun i h => by rw [hn]; exact h) hw
def wD_rank (σ : Mem) (a : Nat) (x1 x2 x3 x4 : Int32) (Q : Int32 → Mem → Prop) : Prop := (mT σ a = some (0, 0) ∧ w_X0_rank σ a x1 x2 x3 x4 Q) ∨ (mT σ a = some (2, 0) ∧ w_X2_rank σ a x1 x2 x3 x4 Q) ∨ (mT σ a = some (3, 0) ∧ w_X3_rank σ a x1 x2 x3 x4 Q) ∨ (mT σ a = some (4, 0) ∧ w_X4_rank σ a x1 x2 x3 x4 Q) ∨ (mT σ a = some (8, 0) ∧ w_X8_rank σ a x1 x2 x3 x4 Q) ∨ (mT σ a = some (10, 0) ∧ w_X10_rank σ a x1 x2 x3 x4 Q)
theorem yu_0_rank : yU RX0 yX3_rank yX0_rank := ⟨tw_729, tw_730, tw_25, tw_731, ⟨_, _, _, tw_732⟩, rfl, by decide, by decide⟩
theorem yu_2_rank : yU RX2 yX3_rank yX2_rank := ⟨tw_729, tw_733, tw_734, tw_731, ⟨_, _, _, tw_732⟩, rfl, by decide, by decide⟩
theorem yu_3_rank : yU RX3 yX3_rank yX3_rank := ⟨tw_729, tw_735, tw_731, tw_731, ⟨_, _, _, tw_732⟩, rfl, by decide, by decide⟩
theorem yu_4_rank : yU RX4 yX3_rank yX4_rank := ⟨tw_729, tw_736, tw_11, tw_731, ⟨_, _, _, tw_732⟩, rfl, by decide, by decide⟩
theorem yu_8_rank : yU RX8 yX3_rank yX8_rank := ⟨tw_729, tw_737, tw_738, tw_731, ⟨_, _, _, tw_732⟩, rfl, by decide, by decide⟩
theorem yu_10_rank : yU RX10 yX3_rank yX10_rank := ⟨tw_729, tw_739, tw_740, tw_731, ⟨_, _, _, tw_732⟩, rfl, by decide, by decide⟩
theorem g_rankD {X : Cx} {cc : ByteArray} {own nm : String} {ret : Option FieldType} {d mc ms : Nat} {pc : Nat} {lv : List (Nat × Value)} {st : List Value} {σ : Mem} {kc ks : Nat} {R : State → Prop} {index : Nat} (hC : mOK X cc own nm ret d mc ms) {a : Nat} {x1 x2 x3 x4 : Int32} {Q : Int32 → Mem → Prop} (hw : wD_rank σ a x1 x2 x3 x4 Q) (hL : Cond.methodLink own index yX3_rank ∈ TB) (hst : (st.map fun v => v.category).sum ≤ 8) (hd2 : 6 ≤ d) (hkc : kc ≤ mc) (hks : ks ≤ ms) (hd : decode cc pc = .ok (.invokevirtual index, 3)) (kk : ∀ rv σ', qI Q rv σ' → mG X (pc + 3) lv (rv.toList ++ st) σ' kc ks R) : mG X pc lv (([.int x1, .int x2, .int x3, .int x4] : List Value).reverse ++ .ref (xB X + a) :: st) σ kc ks R := by
  rcases hw with ⟨ht, hw⟩ | ⟨ht, hw⟩ | ⟨ht, hw⟩ | ⟨ht, hw⟩ | ⟨ht, hw⟩ | ⟨ht, hw⟩
  · exact g_callU (As := [.int x1, .int x2, .int x3, .int x4]) (st := st) hC ht (by decide) (fun q h => by cases h; rfl) yw_X0_rank yu_0_rank hL hd (fun _ h => h) (fun _ h => h) (fun h => h) (c_X0_rank (d := 0) (Nat.le_refl _) hw) rfl hst (by omega) hkc hks kk
  · exact g_callU (As := [.int x1, .int x2, .int x3, .int x4]) (st := st) hC ht (by decide) (fun q h => by cases h; rfl) yw_X2_rank yu_2_rank hL hd (fun _ h => h) (fun _ h => h) (fun h => h) (c_X2_rank (d := 2) (Nat.le_refl _) hw) rfl hst (by omega) hkc hks kk
  · exact g_callU (As := [.int x1, .int x2, .int x3, .int x4]) (st := st) hC ht (by decide) (fun q h => by cases h; rfl) yw_X3_rank yu_3_rank hL hd (fun _ h => h) (fun _ h => h) (fun h => h) (c_X3_rank (d := 0) (Nat.le_refl _) hw) rfl hst (by omega) hkc hks kk
  · exact g_callU (As := [.int x1, .int x2, .int x3, .int x4]) (st := st) hC ht (by decide) (fun q h => by cases h; rfl) yw_X4_rank yu_4_rank hL hd (fun _ h => h) (fun _ h => h) (fun h => h) (c_X4_rank (d := 1) (Nat.le_refl _) hw) rfl hst (by omega) hkc hks kk
  · exact g_callU (As := [.int x1, .int x2, .int x3, .int x4]) (st := st) hC ht (by decide) (fun q h => by cases h; rfl) yw_X8_rank yu_8_rank hL hd (fun _ h => h) (fun _ h => h) (fun h => h) (c_X8_rank (d := 2) (Nat.le_refl _) hw) rfl hst (by omega) hkc hks kk
  · exact g_callU (As := [.int x1, .int x2, .int x3, .int x4]) (st := st) hC ht (by decide) (fun q h => by cases h; rfl) yw_X10_rank yu_10_rank hL hd (fun _ h => h) (fun _ h => h) (fun h => h) (c_X10_rank (d := 1) (Nat.le_refl _) hw) rfl hst (by omega) hkc hks kk
def wD_likes (σ : Mem) (a : Nat) (x1 x2 : Int32) (Q : Int32 → Mem → Prop) : Prop := (mT σ a = some (0, 0) ∧ w_X3_likes σ a x1 x2 Q) ∨ (mT σ a = some (2, 0) ∧ w_X4_likes σ a x1 x2 Q) ∨ (mT σ a = some (3, 0) ∧ w_X3_likes σ a x1 x2 Q) ∨ (mT σ a = some (4, 0) ∧ w_X4_likes σ a x1 x2 Q) ∨ (mT σ a = some (8, 0) ∧ w_X8_likes σ a x1 x2 Q) ∨ (mT σ a = some (10, 0) ∧ w_X10_likes σ a x1 x2 Q)
theorem yu_0_likes : yU RX0 yX3_likes yX3_likes := ⟨tw_744, tw_745, tw_746, tw_746, ⟨_, _, _, tw_747⟩, rfl, by decide, by decide⟩
theorem yu_2_likes : yU RX2 yX3_likes yX4_likes := ⟨tw_744, tw_748, tw_17, tw_746, ⟨_, _, _, tw_747⟩, rfl, by decide, by decide⟩
theorem yu_3_likes : yU RX3 yX3_likes yX3_likes := ⟨tw_744, tw_749, tw_746, tw_746, ⟨_, _, _, tw_747⟩, rfl, by decide, by decide⟩
theorem yu_4_likes : yU RX4 yX3_likes yX4_likes := ⟨tw_744, tw_750, tw_17, tw_746, ⟨_, _, _, tw_747⟩, rfl, by decide, by decide⟩
theorem yu_8_likes : yU RX8 yX3_likes yX8_likes := ⟨tw_744, tw_751, tw_752, tw_746, ⟨_, _, _, tw_747⟩, rfl, by decide, by decide⟩
theorem yu_10_likes : yU RX10 yX3_likes yX10_likes := ⟨tw_744, tw_753, tw_754, tw_746, ⟨_, _, _, tw_747⟩, rfl, by decide, by decide⟩
theorem g_likesD {X : Cx} {cc : ByteArray} {own nm : String} {ret : Option FieldType} {d mc ms : Nat} {pc : Nat} {lv : List (Nat × Value)} {st : List Value} {σ : Mem} {kc ks : Nat} {R : State → Prop} {index : Nat} (hC : mOK X cc own nm ret d mc ms) {a : Nat} {x1 x2 : Int32} {Q : Int32 → Mem → Prop} (hw : wD_likes σ a x1 x2 Q) (hL : Cond.methodLink own index yX3_likes ∈ TB) (hst : (st.map fun v => v.category).sum ≤ 8) (hd2 : 6 ≤ d) (hkc : kc ≤ mc) (hks : ks ≤ ms) (hd : decode cc pc = .ok (.invokevirtual index, 3)) (kk : ∀ rv σ', qI Q rv σ' → mG X (pc + 3) lv (rv.toList ++ st) σ' kc ks R) : mG X pc lv (([.int x1, .int x2] : List Value).reverse ++ .ref (xB X + a) :: st) σ kc ks R := by
  rcases hw with ⟨ht, hw⟩ | ⟨ht, hw⟩ | ⟨ht, hw⟩ | ⟨ht, hw⟩ | ⟨ht, hw⟩ | ⟨ht, hw⟩
  · exact g_callU (As := [.int x1, .int x2]) (st := st) hC ht (by decide) (fun q h => by cases h; rfl) yw_X3_likes yu_0_likes hL hd (fun _ h => h) (fun _ h => h) (fun h => h) (c_X3_likes (d := 0) (Nat.le_refl _) hw) rfl hst (by omega) hkc hks kk
  · exact g_callU (As := [.int x1, .int x2]) (st := st) hC ht (by decide) (fun q h => by cases h; rfl) yw_X4_likes yu_2_likes hL hd (fun _ h => h) (fun _ h => h) (fun h => h) (c_X4_likes (d := 0) (Nat.le_refl _) hw) rfl hst (by omega) hkc hks kk
  · exact g_callU (As := [.int x1, .int x2]) (st := st) hC ht (by decide) (fun q h => by cases h; rfl) yw_X3_likes yu_3_likes hL hd (fun _ h => h) (fun _ h => h) (fun h => h) (c_X3_likes (d := 0) (Nat.le_refl _) hw) rfl hst (by omega) hkc hks kk
  · exact g_callU (As := [.int x1, .int x2]) (st := st) hC ht (by decide) (fun q h => by cases h; rfl) yw_X4_likes yu_4_likes hL hd (fun _ h => h) (fun _ h => h) (fun h => h) (c_X4_likes (d := 0) (Nat.le_refl _) hw) rfl hst (by omega) hkc hks kk
  · exact g_callU (As := [.int x1, .int x2]) (st := st) hC ht (by decide) (fun q h => by cases h; rfl) yw_X8_likes yu_8_likes hL hd (fun _ h => h) (fun _ h => h) (fun h => h) (c_X8_likes (d := 1) (Nat.le_refl _) hw) rfl hst (by omega) hkc hks kk
  · exact g_callU (As := [.int x1, .int x2]) (st := st) hC ht (by decide) (fun q h => by cases h; rfl) yw_X10_likes yu_10_likes hL hd (fun _ h => h) (fun _ h => h) (fun h => h) (c_X10_likes (d := 0) (Nat.le_refl _) hw) rfl hst (by omega) hkc hks kk
