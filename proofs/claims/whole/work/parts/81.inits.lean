theorem g_nw {X : Cx} {pc : Nat} {lv : List (Nat × Value)} {st : List Value} {σ : Mem} {t : Nat × Nat} {kc ks : Nat} {Q : State → Prop} (h : ∀ (r : Nat) (τ : Mem), r = mL σ → τ = mN σ t → mG X pc lv (.ref (xB X + r) :: st) τ kc ks Q) : mG X pc lv (.ref (xB X + mL σ) :: st) (mN σ t) kc ks Q := h _ _ rfl rfl
def w_X5_init (σ : Mem) (a0 : Nat) (Q : Mem → Prop) : Prop := mT (mN σ (14, 160)) a0 = some (5, 0) ∧ (mT (mN (sP (mN σ (14, 160)) a0 0 (some (mL σ))) (14, 160)) a0 = some (5, 0) ∧ (Q (sP (mN (sP (mN σ (14, 160)) a0 0 (some (mL σ))) (14, 160)) a0 7 (some (mL (sP (mN σ (14, 160)) a0 0 (some (mL σ))))))))
set_option maxRecDepth 4000 in
set_option maxHeartbeats 2000000 in
theorem t_X5_init {X : Cx} {d : Nat} {a0 : Nat} (hC : mOK X cX5_init RX5 "<init>" none d 2 320) (hd : 1 ≤ d) (hN : ∀ i, i < 1 → i < xN X) (hz : ∀ e ∈ xP X, e.1 ≠ a0) {σ : Mem} {Q : Mem → Prop} (hw : w_X5_init σ a0 Q) : mG X 0 [(0, .ref (xB X + a0))] [] σ 0 0 (mQ X 2 320 (qV Q)) := by
  refine g_aload_n hC dX5_init_0 rfl ?_
  refine g_objInit hC tw_1007 tw_39 tw_40 (Nat.le_of_ble_eq_true rfl) (by omega) dX5_init_1 ?_
  refine g_aload_n hC dX5_init_4 rfl ?_
  refine g_sipush (v := 160) hC dX5_init_5 (by decide) ?_
  refine g_newa (N := 160) hC na_14 (by decide) (by decide) (by decide) (by decide) (by decide) dX5_init_8 ?_
  refine mG.st (st1 := [va_rf (Option.map (fun r => xB X + r) (some (mL σ))), .ref (xB X + a0)]) rfl ?_
  refine g_putR hC fw_X5_9_5i hw.1 (fun v => by cases v <;> rfl) (fun v => by cases v <;> rfl) (fun e he h => hz e he h.1) dX5_init_10 ?_
  replace hw := hw.2
  refine g_aload_n hC dX5_init_13 rfl ?_
  refine g_sipush (v := 160) hC dX5_init_14 (by decide) ?_
  refine g_newa (N := 160) hC na_14 (by decide) (by decide) (by decide) (by decide) (by decide) dX5_init_17 ?_
  refine mG.st (st1 := [va_rf (Option.map (fun r => xB X + r) (some (mL (sP (mN σ (14, 160)) a0 0 (some (mL σ)))))), .ref (xB X + a0)]) rfl ?_
  refine g_putR hC fw_X5_15_5i hw.1 (fun v => by cases v <;> rfl) (fun v => by cases v <;> rfl) (fun e he h => hz e he h.1) dX5_init_19 ?_
  replace hw := hw.2
  exact g_vret hC (by decide) (by decide) dX5_init_22 (fun _ => ⟨rfl, hw⟩)
set_option maxRecDepth 4000 in
theorem c_X5_init {Z : Fx} {ps ts : List (Nat × Nat × Nat)} {d : Nat} (hd : 1 ≤ d) {a0 : Nat} (hz : ∀ e ∈ ps, e.1 ≠ a0) {σ : Mem} {Q : Mem → Prop} (hw : w_X5_init σ a0 Q) : mM Z ps ts yX5_init cX5_init 1 none d 2 320 [.ref (Z.2.2 + a0)] σ (qV Q) := by
  refine mM.of (by decide) (Nat.le_of_ble_eq_true rfl) rfl (fun X hZ hp ht hn hC => ?_)
  subst hZ; subst hp; subst ht
  exact t_X5_init hC hd (fun i h => by rw [hn]; exact h) hz hw
def w_X7_init (σ : Mem) (a0 : Nat) (Q : Mem → Prop) : Prop := mT (mN σ (14, 40)) a0 = some (7, 0) ∧ ((mT (mN σ (14, 40)) a0 = some (7, 0) ∧ (Q (sI (sP (mN σ (14, 40)) a0 0 (some (mL σ))) a0 1 (-1)))))
set_option maxRecDepth 4000 in
set_option maxHeartbeats 2000000 in
theorem t_X7_init {X : Cx} {d : Nat} {a0 : Nat} (hC : mOK X cX7_init RX7 "<init>" none d 1 40) (hd : 1 ≤ d) (hN : ∀ i, i < 1 → i < xN X) (hz : ∀ e ∈ xP X, e.1 ≠ a0) {σ : Mem} {Q : Mem → Prop} (hw : w_X7_init σ a0 Q) : mG X 0 [(0, .ref (xB X + a0))] [] σ 0 0 (mQ X 1 40 (qV Q)) := by
  refine g_aload_n hC dX7_init_0 rfl ?_
  refine g_objInit hC tw_1008 tw_39 tw_40 (Nat.le_of_ble_eq_true rfl) (by omega) dX7_init_1 ?_
  refine g_aload_n hC dX7_init_4 rfl ?_
  refine g_bipush (v := 40) hC dX7_init_5 (by decide) ?_
  refine g_newa (N := 40) hC na_14 (by decide) (by decide) (by decide) (by decide) (by decide) dX7_init_7 ?_
  refine mG.st (st1 := [va_rf (Option.map (fun r => xB X + r) (some (mL σ))), .ref (xB X + a0)]) rfl ?_
  refine g_putR hC fw_X7_9_7i hw.1 (fun v => by cases v <;> rfl) (fun v => by cases v <;> rfl) (fun e he h => hz e he h.1) dX7_init_9 ?_
  replace hw := hw.2
  refine g_aload_n hC dX7_init_12 rfl ?_
  refine g_iconst (v := (-1)) hC dX7_init_13 (by decide) ?_
  refine g_putI hC fw_X7_15_7i hw.1 rfl rfl dX7_init_14 ?_
  replace hw := hw.2
  exact g_vret hC (by decide) (by decide) dX7_init_17 (fun _ => ⟨rfl, hw⟩)
set_option maxRecDepth 4000 in
theorem c_X7_init {Z : Fx} {ps ts : List (Nat × Nat × Nat)} {d : Nat} (hd : 1 ≤ d) {a0 : Nat} (hz : ∀ e ∈ ps, e.1 ≠ a0) {σ : Mem} {Q : Mem → Prop} (hw : w_X7_init σ a0 Q) : mM Z ps ts yX7_init cX7_init 1 none d 1 40 [.ref (Z.2.2 + a0)] σ (qV Q) := by
  refine mM.of (by decide) (Nat.le_of_ble_eq_true rfl) rfl (fun X hZ hp ht hn hC => ?_)
  subst hZ; subst hp; subst ht
  exact t_X7_init hC hd (fun i h => by rw [hn]; exact h) hz hw
