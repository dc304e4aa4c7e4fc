def w_X11_init_147 (Q : Mem → Prop) : Nat → Int32 → Mem → Prop
  | 0, _, _ => False
  | n + 1, x1, σ => 0 < 13 ∧ (((nI (lenX.getD 0 0)) ≤ x1 → (w_X5_read σ (fun o102 s103 => ∃ r104 : Nat, o102 = some r104 ∧ (vp_in 0 6 ∧ mT s103 r104 = some (6, 0) ∧ (Q (sI (sI (sP s103 4 (Int32.toNatClampNeg 0) (some r104)) 0 6 1) 5 1 0)))))) ∧ (¬ (nI (lenX.getD 0 0)) ≤ x1 → ((0 < 13 ∧ vp_in x1 (lenX.getD 0 0)) ∧ (w_X5_append σ ((bytX.getD 0 []).getD (Int32.toNatClampNeg x1) 0 &&& 255) (fun v106 s108 => w_X11_init_147 Q n (x1 + 1) s108)))))
set_option maxRecDepth 4000 in
set_option maxHeartbeats 2000000 in
theorem t_X11_init_147 {X : Cx} {d : Nat} (hC : mOK X cX11_init RX11 "<init>" none d 36 1222) (hd : 198 ≤ d) (hN : ∀ i, i < 2 → i < xN X) (hP : ∀ e ∈ psG, e ∈ xP X) (hT : ∀ e ∈ tsG, e ∈ xT X) (hF : ∀ e ∈ xP X, e ∈ psA) {Q : Mem → Prop} : ∀ (n : Nat) (x1 : Int32) (σ : Mem), w_X11_init_147 Q n x1 σ → mG X 147 [(0, .ref (xB X + 0)), (1, .int x1)] [] σ 32 1011 (mQ X 36 1222 (qV Q)) := by
  intro n
  induction n with
  | zero => intro x1 σ hw; exact False.elim hw
  | succ n ih =>
    intro x1 σ hw
    rw [w_X11_init_147] at hw
    refine g_iload_n hC dX11_init_147 rfl ?_
    refine g_ldcS hC 0 rfl dX11_init_148 ?_
    refine g_strlen hC hw.1 tw_1026 (Nat.le_of_ble_eq_true rfl) (by omega) (by decide) (by decide) dX11_init_150 ?_
    replace hw := hw.2
    refine g_icmp_ge (tgt := 176) hC dX11_init_153 rfl (fun c => ?_) (fun c => ?_)
    · replace hw := hw.1 c
      refine g_aload_n hC dX11_init_176 rfl ?_
      refine g_getrS hC fl_X11_24_11.s (hT _ tg_G_0) (hP _ pt_G_0_5) dX11_init_177 ?_
      refine g_iconst (v := 0) hC dX11_init_180 (by decide) ?_
      refine g_aload_n hC dX11_init_181 rfl ?_
      refine g_getrS hC fl_X11_31_11.s (hT _ tg_G_0) (hP _ pt_G_0_7) dX11_init_182 ?_
      refine g_known (fun hS => ?_)
      refine mG.st (st1 := ([] : List Value).reverse ++ .ref (xB X + 5) :: [.int 0, .ref (xB X + 4)]) rfl ?_
      refine g_callV (As := []) (st := [.int 0, .ref (xB X + 4)]) hC (hS.2 _ (hT _ tg_G_5)) (by decide) ycl_5_X5_read yw_X5_read yv_X5_read tw_141 dX11_init_185 (fun _ h => h) (fun _ h => h) (fun h => h) (c_X5_read (d := 197) (Nat.le_refl _) (fun e h => hP e (psR_G e h)) (fun e h => hT e (tsR_G e h)) hw) rfl (Nat.le_of_ble_eq_true rfl) (by omega) (by decide) (by decide) (kA fun o102 s103 hw => ?_)
      obtain ⟨r104, ho, hw⟩ := hw
      subst ho
      obtain ⟨hin, htg, hw⟩ := hw
      refine g_known (fun hS => ?_)
      refine g_aast hC (hS.2 _ (hT _ tg_G_4)) (by decide) hin htg (by decide) ao_6_17 (fun e he h => (show ∀ e ∈ psA, e.1 ≠ 4 by decide) e (hF e he) h.1) dX11_init_188 ?_
      refine g_aload_n hC dX11_init_189 rfl ?_
      refine g_iconst (v := 1) hC dX11_init_190 (by decide) ?_
      refine g_putIS hC fw_X11_91_11i (hT _ tg_G_0) rfl rfl dX11_init_191 ?_
      refine g_aload_n hC dX11_init_194 rfl ?_
      refine g_getrS hC fl_X11_31_11.s (hT _ tg_G_0) (hP _ pt_G_0_7) dX11_init_195 ?_
      refine g_iconst (v := 0) hC dX11_init_198 (by decide) ?_
      refine g_putIS hC fw_X11_95_5i (hT _ tg_G_5) rfl rfl dX11_init_199 ?_
      exact g_vret hC (by decide) (by decide) dX11_init_202 (fun _ => ⟨rfl, hw⟩)
    · replace hw := hw.2 c
      refine g_aload_n hC dX11_init_156 rfl ?_
      refine g_getrS hC fl_X11_31_11.s (hT _ tg_G_0) (hP _ pt_G_0_7) dX11_init_157 ?_
      refine g_ldcS hC 0 rfl dX11_init_160 ?_
      refine g_iload_n hC dX11_init_162 rfl ?_
      refine g_charAt hC hw.1.1 hw.1.2 tw_1027 (Nat.le_of_ble_eq_true rfl) (by omega) (by decide) (by decide) dX11_init_163 ?_
      replace hw := hw.2
      refine g_known (fun hS => ?_)
      refine mG.st (st1 := ([.int ((bytX.getD 0 []).getD (Int32.toNatClampNeg x1) 0 &&& 255)] : List Value).reverse ++ .ref (xB X + 5) :: []) rfl ?_
      refine g_callV (As := [.int ((bytX.getD 0 []).getD (Int32.toNatClampNeg x1) 0 &&& 255)]) (st := []) hC (hS.2 _ (hT _ tg_G_5)) (by decide) ycl_5_X5_append yw_X5_append yv_X5_append tw_132 dX11_init_166 (fun _ h => h) (fun _ h => h) (fun h => h) (c_X5_append (d := 0) (Nat.le_refl _) (fun e h => hP e (psR_G e h)) (fun e h => hT e (tsR_G e h)) hw) rfl (Nat.le_of_ble_eq_true rfl) (by omega) (by decide) (by decide) (kI fun v106 s108 hw => ?_)
      refine g_pop hC dX11_init_169 rfl ?_
      refine g_iinc (v := x1 + 1) (lv' := [(1, .int (x1 + 1)), (0, .ref (xB X + 0))]) hC dX11_init_170 rfl rfl (hN 1 (by decide)) rfl ?_
      refine g_goto (tgt := 147) hC dX11_init_173 rfl ?_
      refine mG.pick (lv' := [(0, .ref (xB X + 0)), (1, .int (x1 + 1))]) [1, 0] rfl ?_
      exact ih _ _ hw
