/-! THE CLAIM OUT OF ONE WALK OF THE LAW'S BODY. Your part is whole_start (and what it stands on); all else here is the same for every law, but numbers. -/
def R_law : String := "GreaterPlatesLaw"
def lw_P (b : Addr) (xs : List Int32) (args : Array Value) (s : State) : Prop := args = #[.ref b] ∧ s.IntsAt b xs ∧ xs.length ≤ 384 ∧ (Jvm.Cond.and given_1 narrow_1).before args s = true
def lw_Q (_ : Array Value) (s : State) (o : Outcome) (t : State) : Prop := o = .returned (some (.int 1)) ∧ Framed s o t [] 600000 7302250
def lw_Z (below : List Frame) (a : Array Value) (s : State) : State → Prop := fun t => ∃ o, t.status = .running ∧ Ended t below o ∧ lw_Q a s o t
/-- the law's own end, with 1 on the stack, nothing written that was there before, its room as the claim has it -/
theorem lw_ret {p : Program} {l : Launch} {e : Env} {s : State} {m : MethodId} {below : List Frame} {meth : Method} {c : Code} {b : Nat} (hx : p.tables.exec = Jvm.exec) (hb : c.code = code) (hr : meth.sig.returnType = ret) (hlocks : meth.locks = false) {pc : Nat} {H : Heap} {ls : Array Slot} (hdg : decode code pc = .ok (.ireturn, 1)) : W p l e room_1 s m #[Value.ref b] below meth c H [] 600000 7302250 (lw_Z below #[Value.ref b] s) (F0 m pc ls [.int 1]) := by
  intro T hT X
  obtain ⟨fs, hret, hrun, hended, hW, hframe⟩ := X.leave (v := some (.int 1)) (hlocks := hlocks) (fun h => by rw [hr] at h; cases h)
  have hmeth' : T.vm.method? m = some meth := X.method'
  refine ⟨T.setFrames fs, ?_, .returned (some (.int 1)), hrun, hended, rfl, ⟨_, rfl⟩, hW, hframe⟩
  jvm_step X.here [X.here.top, hx, hb, hdg, hmeth', hr, ret, narrow_b1]
  (try refine ⟨rfl, ?_⟩); (try refine ⟨rfl, ?_⟩)
  first | (intro acts; rw [hret _ acts rfl rfl rfl]) | rw [hret _ _ rfl rfl rfl]
  exact Steps.refl _
/-- what holds at the law's entry: the machine, the code, the tables' words (any of lw_tbl by 'hts w (by decide +kernel)'), the script of L ints xs at the cell b, what the Statement gives of the start (any of its parts by flat_of_before) -/
def lw_At (p : Program) (s : State) (m : MethodId) (meth : Method) (c : Code) (b L : Nat) (xs : Nat → Int32) : Prop :=
  p.tables.exec = Jvm.exec ∧ c.code = code ∧ meth.sig.returnType = ret ∧ c.maxLocals = 4 ∧ s.vm.findClass R_law = some m.cls ∧ (∀ w ∈ lw_tbl, w.before #[Value.ref b] s = true) ∧ va_X b L xs s s.heap ∧ b < s.heap.size ∧ meth.locks = false ∧ (Jvm.Cond.and given_1 narrow_1).before #[Value.ref b] s = true
section GLw
variable {X : Cx} {cc : ByteArray} {own nm : String} {ret0 : Option FieldType} {d mc ms : Nat} {pc : Nat} {lv : List (Nat × Value)} {st : List Value} {σ : Mem} {kc ks : Nat} {Q : State → Prop}
theorem g_slen (hC : mOK X cc own nm ret0 d mc ms) {b L : Nat} {xs : Nat → Int32} (hX : va_X b L xs X.2.1.1 X.2.1.1.heap) (hbl : b < X.2.1.1.heap.size) (hB : b < xB X) (hd : decode cc pc = .ok (.arraylength, 1)) (kk : mG X (pc + 1) lv (.int (nI L) :: st) σ kc ks Q) : mG X pc lv (.ref b :: st) σ kc ks Q :=
  fun H locs ls hV hS hl => va_slen hC.1 hC.2.1 hX hbl (Nat.not_le.mpr hB) hS hd (kk H locs ls hV hS hl)
theorem g_sld (hC : mOK X cc own nm ret0 d mc ms) {b L : Nat} {xs : Nat → Int32} (hX : va_X b L xs X.2.1.1 X.2.1.1.heap) (hbl : b < X.2.1.1.heap.size) (hB : b < xB X) {i : Int32} (hin : vp_in i L) (hd : decode cc pc = .ok (.iaload, 1)) (kk : mG X (pc + 1) lv (.int (xs i.toNatClampNeg) :: st) σ kc ks Q) : mG X pc lv (.int i :: .ref b :: st) σ kc ks Q :=
  fun H locs ls hV hS hl => va_sld hC.1 hC.2.1 hX hbl (Nat.not_le.mpr hB) hS hin hd (kk H locs ls hV hS hl)
/-- more is known -/
theorem mG.know {P : Program × Launch × Env × Room} {S : State × MethodId × Array Value × List Frame} {M : Method × Code} {C : (Nat → ClassId) × va_G × ((Nat → Nat) × (Nat → Nat))} {N : Nat × Nat} {ps ts ps' ts' : List (Nat × Nat × Nat)} (h : mS ps' ts' σ) (k : mG (P, S, M, C, N, (ps', ts')) pc lv st σ kc ks Q) : mG (P, S, M, C, N, (ps, ts)) pc lv st σ kc ks Q :=
  fun H locs ls hV hS hl => k H locs ls ⟨hV.1, hV.2.1, h⟩ hS hl
end GLw
/-- the two objects answer alike, and stay related -/
def lawPair (Rel : Mem → Prop) : Prop := (∀ (σ : Mem) (x0 : Int32) (x1 : Int32), Rel σ → w_X11_plate σ x0 x1 (fun r1 s1 => w_X12_plate s1 x0 x1 (fun r2 s2 => r1 = r2 ∧ Rel s2))) ∧ (∀ (σ : Mem) (x0 : Int32) (x1 : Int32), Rel σ → w_X11_layer σ x0 x1 (fun r1 s1 => w_X12_layer s1 x0 x1 (fun r2 s2 => r1 = r2 ∧ Rel s2))) ∧ (∀ (σ : Mem) (x0 : Int32) (x1 : Int32) (x2 : Int32), Rel σ → w_X11_set σ x0 x1 x2 (fun r1 s1 => w_X12_set s1 x0 x1 x2 (fun r2 s2 => r1 = r2 ∧ Rel s2))) ∧ (∀ (σ : Mem) (x0 : Int32) (x1 : Int32), Rel σ → w_X11_told σ x0 x1 (fun r1 s1 => w_X12_told s1 x0 x1 (fun r2 s2 => r1 = r2 ∧ Rel s2))) ∧ (∀ (σ : Mem) (x0 : Int32), Rel σ → w_X11_feed σ x0 (fun r1 s1 => w_X12_feed s1 x0 (fun r2 s2 => r1 = r2 ∧ Rel s2))) ∧ (∀ (σ : Mem), Rel σ → w_X11_text σ (fun r1 s1 => w_X12_text s1 (fun r2 s2 => r1 = r2 ∧ Rel s2))) ∧ (∀ (σ : Mem) (x0 : Int32), Rel σ → w_X11_force σ x0 (fun r1 s1 => w_X12_force s1 x0 (fun r2 s2 => r1 = r2 ∧ Rel s2))) ∧ (∀ (σ : Mem) (x0 : Int32) (x1 : Int32), Rel σ → w_X11_by σ x0 x1 (fun r1 s1 => w_X12_by s1 x0 x1 (fun r2 s2 => r1 = r2 ∧ Rel s2))) ∧ (∀ (σ : Mem) (x0 : Int32) (x1 : Int32), Rel σ → w_X11_heapOf σ x0 x1 (fun r1 s1 => w_X12_heapOf s1 x0 x1 (fun r2 s2 => r1 = r2 ∧ Rel s2))) ∧ (∀ (σ : Mem) (x0 : Int32), Rel σ → w_X11_fewest σ x0 (fun r1 s1 => w_X12_fewest s1 x0 (fun r2 s2 => r1 = r2 ∧ Rel s2))) ∧ (∀ (σ : Mem) (x0 : Int32), Rel σ → w_X11_longest σ x0 (fun r1 s1 => w_X12_longest s1 x0 (fun r2 s2 => r1 = r2 ∧ Rel s2))) ∧ (∀ (σ : Mem) (x0 : Int32), Rel σ → w_X11_several σ x0 (fun r1 s1 => w_X12_several s1 x0 (fun r2 s2 => r1 = r2 ∧ Rel s2))) ∧ (∀ (σ : Mem) (x0 : Int32) (x1 : Int32), Rel σ → w_X11_orders σ x0 x1 (fun r1 s1 => w_X12_orders_ s1 x0 x1 (fun r2 s2 => r1 = r2 ∧ Rel s2))) ∧ (∀ (σ : Mem) (x0 : Int32) (x1 : Int32), Rel σ → w_X11_mean σ x0 x1 (fun r1 s1 => w_X12_mean s1 x0 x1 (fun r2 s2 => r1 = r2 ∧ Rel s2))) ∧ (∀ (σ : Mem) (x0 : Int32) (x1 : Int32), Rel σ → w_X11_bestOrder σ x0 x1 (fun r1 s1 => w_X12_bestOrder s1 x0 x1 (fun r2 s2 => r1 = r2 ∧ Rel s2))) ∧ (∀ (σ : Mem) (x0 : Int32), Rel σ → w_X11_came σ x0 (fun r1 s1 => w_X12_came s1 x0 (fun r2 s2 => r1 = r2 ∧ Rel s2))) ∧ (∀ (σ : Mem) (x0 : Int32), Rel σ → w_X11_less σ x0 (fun r1 s1 => w_X12_less s1 x0 (fun r2 s2 => r1 = r2 ∧ Rel s2))) ∧ (∀ (σ : Mem) (x0 : Int32), Rel σ → w_X11_rises σ x0 (fun r1 s1 => w_X12_rises s1 x0 (fun r2 s2 => r1 = r2 ∧ Rel s2))) ∧ (∀ (σ : Mem) (x0 : Int32), Rel σ → w_X11_judge σ x0 (fun r1 s1 => w_X12_judge s1 x0 (fun r2 s2 => r1 = r2 ∧ Rel s2))) ∧ (∀ (σ : Mem) (x0 : Int32), Rel σ → w_X11_stranger σ x0 (fun r1 s1 => w_X12_stranger s1 x0 (fun r2 s2 => r1 = r2 ∧ Rel s2))) ∧ (∀ (σ : Mem) (x0 : Int32), Rel σ → w_X11_lay σ x0 (fun r1 s1 => w_X12_lay s1 x0 (fun r2 s2 => r1 = r2 ∧ Rel s2))) ∧ (∀ (σ : Mem) (x0 : Int32), Rel σ → w_X11_take σ x0 (fun r1 s1 => w_X12_take s1 x0 (fun r2 s2 => r1 = r2 ∧ Rel s2))) ∧ (∀ (σ : Mem) (x0 : Int32) (x1 : Int32), Rel σ → w_X11_on σ x0 x1 (fun r1 s1 => w_X12_on s1 x0 x1 (fun r2 s2 => r1 = r2 ∧ Rel s2))) ∧ (∀ (σ : Mem) (x0 : Int32) (x1 : Int32), Rel σ → w_X11_drawn σ x0 x1 (fun r1 s1 => w_X12_drawn s1 x0 x1 (fun r2 s2 => r1 = r2 ∧ Rel s2))) ∧ (∀ (σ : Mem), Rel σ → w_X11_image σ (fun r1 s1 => w_X12_image s1 (fun r2 s2 => r1 = r2 ∧ Rel s2))) ∧ (∀ (σ : Mem), Rel σ → w_X11_back σ (fun r1 s1 => w_X12_back s1 (fun r2 s2 => r1 = r2 ∧ Rel s2))) ∧ (∀ (σ : Mem) (x0 : Int32), Rel σ → w_X11_count σ x0 (fun r1 s1 => w_X12_count s1 x0 (fun r2 s2 => r1 = r2 ∧ Rel s2))) ∧ (∀ (σ : Mem) (x0 : Int32) (x1 : Int32) (x2 : Int32), Rel σ → w_X11_sheet σ x0 x1 x2 (fun r1 s1 => w_X12_sheet s1 x0 x1 x2 (fun r2 s2 => r1 = r2 ∧ Rel s2))) ∧ (∀ (σ : Mem) (x0 : Int32) (x1 : Int32) (x2 : Int32), Rel σ → w_X11_cell σ x0 x1 x2 (fun r1 s1 => w_X12_cell s1 x0 x1 x2 (fun r2 s2 => r1 = r2 ∧ Rel s2))) ∧ (∀ (σ : Mem) (x0 : Int32) (x1 : Int32) (x2 : Int32) (x3 : Int32) (x4 : Int32), Rel σ → w_X11_copy σ x0 x1 x2 x3 x4 (fun r1 s1 => w_X12_copy s1 x0 x1 x2 x3 x4 (fun r2 s2 => r1 = r2 ∧ Rel s2))) ∧ (∀ (σ : Mem) (x0 : Int32) (x1 : Int32) (x2 : Int32) (x3 : Int32), Rel σ → w_X11_plates σ x0 x1 x2 x3 (fun r1 s1 => w_X12_plates s1 x0 x1 x2 x3 (fun r2 s2 => r1 = r2 ∧ Rel s2))) ∧ (∀ (σ : Mem) (x0 : Int32) (x1 : Int32), Rel σ → w_X11_taken σ x0 x1 (fun r1 s1 => w_X12_taken s1 x0 x1 (fun r2 s2 => r1 = r2 ∧ Rel s2)))
set_option maxRecDepth 4000 in
set_option maxHeartbeats 2000000 in
theorem law_0 {X : Cx} {b L : Nat} {xs : Nat → Int32} (hC : mOK X code R_law "law" ret 1400 600000 7302250) (hX : va_X b L xs X.2.1.1 X.2.1.1.heap) (hbl : b < X.2.1.1.heap.size) (hB : b < xB X) (hPG : ∀ e ∈ psG, e ∈ xP X) (hTG : ∀ e ∈ tsG, e ∈ xT X) (hPM : ∀ e ∈ psM, e ∈ xP X) (hTM : ∀ e ∈ tsM, e ∈ xT X) (hF : ∀ e ∈ xP X, e ∈ psA) {i : Int32} (h1 : vp_in (i + 1) L) (h2 : vp_in (i + 2) L) (h3 : vp_in (i + 3) L) (h4 : vp_in (i + 4) L) (h5 : vp_in (i + 5) L) {σ : Mem} {kc ks : Nat} (hkc : kc + 20 ≤ 600000) (hks : ks + 600 ≤ 7302250) {Rel : Mem → Prop} {Q : State → Prop} (hw : w_X11_plate σ (xs (Int32.toNatClampNeg (i + 1))) (xs (Int32.toNatClampNeg (i + 2))) (fun r1 s1 => w_X12_plate s1 (xs (Int32.toNatClampNeg (i + 1))) (xs (Int32.toNatClampNeg (i + 2))) (fun r2 s2 => r1 = r2 ∧ Rel s2))) (hn : ∀ s2, Rel s2 → mG X 1123 [(3, .int i), (2, .ref (xB X + 37)), (1, .ref (xB X + 0)), (0, .ref b)] [] s2 (kc + 0 + 0) (ks + 0 + 0) Q) : mG X 176 [(3, .int i), (2, .ref (xB X + 37)), (1, .ref (xB X + 0)), (0, .ref b)] [] σ kc ks Q := by
  refine g_aload_n hC dL_law_176 rfl ?_
  refine g_aload_n hC dL_law_177 rfl ?_
  refine g_iload_n hC dL_law_178 rfl ?_
  refine g_iconst (v := 1) hC dL_law_179 (by decide) ?_
  refine g_iadd hC dL_law_180 ?_
  refine g_sld hC hX hbl hB h1 dL_law_181 ?_
  refine g_aload_n hC dL_law_182 rfl ?_
  refine g_iload_n hC dL_law_183 rfl ?_
  refine g_iconst (v := 2) hC dL_law_184 (by decide) ?_
  refine g_iadd hC dL_law_185 ?_
  refine g_sld hC hX hbl hB h2 dL_law_186 ?_
  refine g_known (fun hS => ?_)
  refine mG.st (st1 := ([.int (xs (Int32.toNatClampNeg (i + 1))), .int (xs (Int32.toNatClampNeg (i + 2)))] : List Value).reverse ++ .ref (xB X + 0) :: []) rfl ?_
  refine g_callV (As := [.int (xs (Int32.toNatClampNeg (i + 1))), .int (xs (Int32.toNatClampNeg (i + 2)))]) (st := []) hC (hS.2 _ (hTG _ tg_G_0)) (by decide) ycl_11_X11_plate yw_X11_plate yv_X11_plate tw_757 dL_law_187 (fun _ h => h) (fun _ h => h) (fun h => h) (c_X11_plate (d := 1) (Nat.le_refl _) hPG hTG hF hw) rfl (Nat.le_of_ble_eq_true rfl) (by decide) (by omega) (by omega) (kI fun r1 s1 hw => ?_)
  refine g_aload_n hC dL_law_190 rfl ?_
  refine g_aload_n hC dL_law_191 rfl ?_
  refine g_iload_n hC dL_law_192 rfl ?_
  refine g_iconst (v := 1) hC dL_law_193 (by decide) ?_
  refine g_iadd hC dL_law_194 ?_
  refine g_sld hC hX hbl hB h1 dL_law_195 ?_
  refine g_aload_n hC dL_law_196 rfl ?_
  refine g_iload_n hC dL_law_197 rfl ?_
  refine g_iconst (v := 2) hC dL_law_198 (by decide) ?_
  refine g_iadd hC dL_law_199 ?_
  refine g_sld hC hX hbl hB h2 dL_law_200 ?_
  refine g_known (fun hS => ?_)
  refine mG.st (st1 := ([.int (xs (Int32.toNatClampNeg (i + 1))), .int (xs (Int32.toNatClampNeg (i + 2)))] : List Value).reverse ++ .ref (xB X + 37) :: [.int r1]) rfl ?_
  refine g_callV (As := [.int (xs (Int32.toNatClampNeg (i + 1))), .int (xs (Int32.toNatClampNeg (i + 2)))]) (st := [.int r1]) hC (hS.2 _ (hTM _ tg_M_37)) (by decide) ycl_12_X12_plate yw_X12_plate yv_X12_plate tw_758 dL_law_201 (fun _ h => h) (fun _ h => h) (fun h => h) (c_X12_plate (d := 1) (Nat.le_refl _) hPM hTM hw) rfl (Nat.le_of_ble_eq_true rfl) (by decide) (by omega) (by omega) (kI fun r2 s2 hw => ?_)
  refine g_icmp_eq (tgt := 1123) hC dL_law_204 rfl (fun c => ?_) (fun c => ?_)
  · exact hn _ hw.2
  · exact absurd hw.1 c
set_option maxRecDepth 4000 in
set_option maxHeartbeats 2000000 in
theorem law_1 {X : Cx} {b L : Nat} {xs : Nat → Int32} (hC : mOK X code R_law "law" ret 1400 600000 7302250) (hX : va_X b L xs X.2.1.1 X.2.1.1.heap) (hbl : b < X.2.1.1.heap.size) (hB : b < xB X) (hPG : ∀ e ∈ psG, e ∈ xP X) (hTG : ∀ e ∈ tsG, e ∈ xT X) (hPM : ∀ e ∈ psM, e ∈ xP X) (hTM : ∀ e ∈ tsM, e ∈ xT X) (hF : ∀ e ∈ xP X, e ∈ psA) {i : Int32} (h1 : vp_in (i + 1) L) (h2 : vp_in (i + 2) L) (h3 : vp_in (i + 3) L) (h4 : vp_in (i + 4) L) (h5 : vp_in (i + 5) L) {σ : Mem} {kc ks : Nat} (hkc : kc + 20 ≤ 600000) (hks : ks + 600 ≤ 7302250) {Rel : Mem → Prop} {Q : State → Prop} (hw : w_X11_layer σ (xs (Int32.toNatClampNeg (i + 1))) (xs (Int32.toNatClampNeg (i + 2))) (fun r1 s1 => w_X12_layer s1 (xs (Int32.toNatClampNeg (i + 1))) (xs (Int32.toNatClampNeg (i + 2))) (fun r2 s2 => r1 = r2 ∧ Rel s2))) (hn : ∀ s2, Rel s2 → mG X 1123 [(3, .int i), (2, .ref (xB X + 37)), (1, .ref (xB X + 0)), (0, .ref b)] [] s2 (kc + 1 + 0) (ks + 2 + 0) Q) : mG X 209 [(3, .int i), (2, .ref (xB X + 37)), (1, .ref (xB X + 0)), (0, .ref b)] [] σ kc ks Q := by
  refine g_aload_n hC dL_law_209 rfl ?_
  refine g_aload_n hC dL_law_210 rfl ?_
  refine g_iload_n hC dL_law_211 rfl ?_
  refine g_iconst (v := 1) hC dL_law_212 (by decide) ?_
  refine g_iadd hC dL_law_213 ?_
  refine g_sld hC hX hbl hB h1 dL_law_214 ?_
  refine g_aload_n hC dL_law_215 rfl ?_
  refine g_iload_n hC dL_law_216 rfl ?_
  refine g_iconst (v := 2) hC dL_law_217 (by decide) ?_
  refine g_iadd hC dL_law_218 ?_
  refine g_sld hC hX hbl hB h2 dL_law_219 ?_
  refine g_known (fun hS => ?_)
  refine mG.st (st1 := ([.int (xs (Int32.toNatClampNeg (i + 1))), .int (xs (Int32.toNatClampNeg (i + 2)))] : List Value).reverse ++ .ref (xB X + 0) :: []) rfl ?_
  refine g_callV (As := [.int (xs (Int32.toNatClampNeg (i + 1))), .int (xs (Int32.toNatClampNeg (i + 2)))]) (st := []) hC (hS.2 _ (hTG _ tg_G_0)) (by decide) ycl_11_X11_layer yw_X11_layer yv_X11_layer tw_762 dL_law_220 (fun _ h => h) (fun _ h => h) (fun h => h) (c_X11_layer (d := 5) (Nat.le_refl _) hPG hTG hF hw) rfl (Nat.le_of_ble_eq_true rfl) (by decide) (by omega) (by omega) (kI fun r1 s1 hw => ?_)
  refine g_aload_n hC dL_law_223 rfl ?_
  refine g_aload_n hC dL_law_224 rfl ?_
  refine g_iload_n hC dL_law_225 rfl ?_
  refine g_iconst (v := 1) hC dL_law_226 (by decide) ?_
  refine g_iadd hC dL_law_227 ?_
  refine g_sld hC hX hbl hB h1 dL_law_228 ?_
  refine g_aload_n hC dL_law_229 rfl ?_
  refine g_iload_n hC dL_law_230 rfl ?_
  refine g_iconst (v := 2) hC dL_law_231 (by decide) ?_
  refine g_iadd hC dL_law_232 ?_
  refine g_sld hC hX hbl hB h2 dL_law_233 ?_
  refine g_known (fun hS => ?_)
  refine mG.st (st1 := ([.int (xs (Int32.toNatClampNeg (i + 1))), .int (xs (Int32.toNatClampNeg (i + 2)))] : List Value).reverse ++ .ref (xB X + 37) :: [.int r1]) rfl ?_
  refine g_callV (As := [.int (xs (Int32.toNatClampNeg (i + 1))), .int (xs (Int32.toNatClampNeg (i + 2)))]) (st := [.int r1]) hC (hS.2 _ (hTM _ tg_M_37)) (by decide) ycl_12_X12_layer yw_X12_layer yv_X12_layer tw_766 dL_law_234 (fun _ h => h) (fun _ h => h) (fun h => h) (c_X12_layer (d := 1) (Nat.le_refl _) hPM hTM hw) rfl (Nat.le_of_ble_eq_true rfl) (by decide) (by omega) (by omega) (kI fun r2 s2 hw => ?_)
  refine g_icmp_eq (tgt := 1123) hC dL_law_237 rfl (fun c => ?_) (fun c => ?_)
  · exact hn _ hw.2
  · exact absurd hw.1 c
set_option maxRecDepth 4000 in
set_option maxHeartbeats 2000000 in
theorem law_2 {X : Cx} {b L : Nat} {xs : Nat → Int32} (hC : mOK X code R_law "law" ret 1400 600000 7302250) (hX : va_X b L xs X.2.1.1 X.2.1.1.heap) (hbl : b < X.2.1.1.heap.size) (hB : b < xB X) (hPG : ∀ e ∈ psG, e ∈ xP X) (hTG : ∀ e ∈ tsG, e ∈ xT X) (hPM : ∀ e ∈ psM, e ∈ xP X) (hTM : ∀ e ∈ tsM, e ∈ xT X) (hF : ∀ e ∈ xP X, e ∈ psA) {i : Int32} (h1 : vp_in (i + 1) L) (h2 : vp_in (i + 2) L) (h3 : vp_in (i + 3) L) (h4 : vp_in (i + 4) L) (h5 : vp_in (i + 5) L) {σ : Mem} {kc ks : Nat} (hkc : kc + 20 ≤ 600000) (hks : ks + 600 ≤ 7302250) {Rel : Mem → Prop} {Q : State → Prop} (hw : w_X11_set σ (xs (Int32.toNatClampNeg (i + 1))) (xs (Int32.toNatClampNeg (i + 2))) (xs (Int32.toNatClampNeg (i + 3))) (fun r1 s1 => w_X12_set s1 (xs (Int32.toNatClampNeg (i + 1))) (xs (Int32.toNatClampNeg (i + 2))) (xs (Int32.toNatClampNeg (i + 3))) (fun r2 s2 => r1 = r2 ∧ Rel s2))) (hn : ∀ s2, Rel s2 → mG X 1123 [(3, .int i), (2, .ref (xB X + 37)), (1, .ref (xB X + 0)), (0, .ref b)] [] s2 (kc + 0 + 0) (ks + 0 + 0) Q) : mG X 242 [(3, .int i), (2, .ref (xB X + 37)), (1, .ref (xB X + 0)), (0, .ref b)] [] σ kc ks Q := by
  refine g_aload_n hC dL_law_242 rfl ?_
  refine g_aload_n hC dL_law_243 rfl ?_
  refine g_iload_n hC dL_law_244 rfl ?_
  refine g_iconst (v := 1) hC dL_law_245 (by decide) ?_
  refine g_iadd hC dL_law_246 ?_
  refine g_sld hC hX hbl hB h1 dL_law_247 ?_
  refine g_aload_n hC dL_law_248 rfl ?_
  refine g_iload_n hC dL_law_249 rfl ?_
  refine g_iconst (v := 2) hC dL_law_250 (by decide) ?_
  refine g_iadd hC dL_law_251 ?_
  refine g_sld hC hX hbl hB h2 dL_law_252 ?_
  refine g_aload_n hC dL_law_253 rfl ?_
  refine g_iload_n hC dL_law_254 rfl ?_
  refine g_iconst (v := 3) hC dL_law_255 (by decide) ?_
  refine g_iadd hC dL_law_256 ?_
  refine g_sld hC hX hbl hB h3 dL_law_257 ?_
  refine g_known (fun hS => ?_)
  refine mG.st (st1 := ([.int (xs (Int32.toNatClampNeg (i + 1))), .int (xs (Int32.toNatClampNeg (i + 2))), .int (xs (Int32.toNatClampNeg (i + 3)))] : List Value).reverse ++ .ref (xB X + 0) :: []) rfl ?_
  refine g_callV (As := [.int (xs (Int32.toNatClampNeg (i + 1))), .int (xs (Int32.toNatClampNeg (i + 2))), .int (xs (Int32.toNatClampNeg (i + 3)))]) (st := []) hC (hS.2 _ (hTG _ tg_G_0)) (by decide) ycl_11_X11_set yw_X11_set yv_X11_set tw_770 dL_law_258 (fun _ h => h) (fun _ h => h) (fun h => h) (c_X11_set (d := 1) (Nat.le_refl _) hPG hTG hF hw) rfl (Nat.le_of_ble_eq_true rfl) (by decide) (by omega) (by omega) (kI fun r1 s1 hw => ?_)
  refine g_aload_n hC dL_law_261 rfl ?_
  refine g_aload_n hC dL_law_262 rfl ?_
  refine g_iload_n hC dL_law_263 rfl ?_
  refine g_iconst (v := 1) hC dL_law_264 (by decide) ?_
  refine g_iadd hC dL_law_265 ?_
  refine g_sld hC hX hbl hB h1 dL_law_266 ?_
  refine g_aload_n hC dL_law_267 rfl ?_
  refine g_iload_n hC dL_law_268 rfl ?_
  refine g_iconst (v := 2) hC dL_law_269 (by decide) ?_
  refine g_iadd hC dL_law_270 ?_
  refine g_sld hC hX hbl hB h2 dL_law_271 ?_
  refine g_aload_n hC dL_law_272 rfl ?_
  refine g_iload_n hC dL_law_273 rfl ?_
  refine g_iconst (v := 3) hC dL_law_274 (by decide) ?_
  refine g_iadd hC dL_law_275 ?_
  refine g_sld hC hX hbl hB h3 dL_law_276 ?_
  refine g_known (fun hS => ?_)
  refine mG.st (st1 := ([.int (xs (Int32.toNatClampNeg (i + 1))), .int (xs (Int32.toNatClampNeg (i + 2))), .int (xs (Int32.toNatClampNeg (i + 3)))] : List Value).reverse ++ .ref (xB X + 37) :: [.int r1]) rfl ?_
  refine g_callV (As := [.int (xs (Int32.toNatClampNeg (i + 1))), .int (xs (Int32.toNatClampNeg (i + 2))), .int (xs (Int32.toNatClampNeg (i + 3)))]) (st := [.int r1]) hC (hS.2 _ (hTM _ tg_M_37)) (by decide) ycl_12_X12_set yw_X12_set yv_X12_set tw_774 dL_law_277 (fun _ h => h) (fun _ h => h) (fun h => h) (c_X12_set (d := 2) (Nat.le_refl _) hPM hTM hw) rfl (Nat.le_of_ble_eq_true rfl) (by decide) (by omega) (by omega) (kI fun r2 s2 hw => ?_)
  refine g_icmp_eq (tgt := 1123) hC dL_law_280 rfl (fun c => ?_) (fun c => ?_)
  · exact hn _ hw.2
  · exact absurd hw.1 c
set_option maxRecDepth 4000 in
set_option maxHeartbeats 2000000 in
theorem law_3 {X : Cx} {b L : Nat} {xs : Nat → Int32} (hC : mOK X code R_law "law" ret 1400 600000 7302250) (hX : va_X b L xs X.2.1.1 X.2.1.1.heap) (hbl : b < X.2.1.1.heap.size) (hB : b < xB X) (hPG : ∀ e ∈ psG, e ∈ xP X) (hTG : ∀ e ∈ tsG, e ∈ xT X) (hPM : ∀ e ∈ psM, e ∈ xP X) (hTM : ∀ e ∈ tsM, e ∈ xT X) (hF : ∀ e ∈ xP X, e ∈ psA) {i : Int32} (h1 : vp_in (i + 1) L) (h2 : vp_in (i + 2) L) (h3 : vp_in (i + 3) L) (h4 : vp_in (i + 4) L) (h5 : vp_in (i + 5) L) {σ : Mem} {kc ks : Nat} (hkc : kc + 20 ≤ 600000) (hks : ks + 600 ≤ 7302250) {Rel : Mem → Prop} {Q : State → Prop} (hw : w_X11_told σ (xs (Int32.toNatClampNeg (i + 1))) (xs (Int32.toNatClampNeg (i + 2))) (fun r1 s1 => w_X12_told s1 (xs (Int32.toNatClampNeg (i + 1))) (xs (Int32.toNatClampNeg (i + 2))) (fun r2 s2 => r1 = r2 ∧ Rel s2))) (hn : ∀ s2, Rel s2 → mG X 1123 [(3, .int i), (2, .ref (xB X + 37)), (1, .ref (xB X + 0)), (0, .ref b)] [] s2 (kc + 0 + 0) (ks + 0 + 0) Q) : mG X 285 [(3, .int i), (2, .ref (xB X + 37)), (1, .ref (xB X + 0)), (0, .ref b)] [] σ kc ks Q := by
  refine g_aload_n hC dL_law_285 rfl ?_
  refine g_aload_n hC dL_law_286 rfl ?_
  refine g_iload_n hC dL_law_287 rfl ?_
  refine g_iconst (v := 1) hC dL_law_288 (by decide) ?_
  refine g_iadd hC dL_law_289 ?_
  refine g_sld hC hX hbl hB h1 dL_law_290 ?_
  refine g_aload_n hC dL_law_291 rfl ?_
  refine g_iload_n hC dL_law_292 rfl ?_
  refine g_iconst (v := 2) hC dL_law_293 (by decide) ?_
  refine g_iadd hC dL_law_294 ?_
  refine g_sld hC hX hbl hB h2 dL_law_295 ?_
  refine g_known (fun hS => ?_)
  refine mG.st (st1 := ([.int (xs (Int32.toNatClampNeg (i + 1))), .int (xs (Int32.toNatClampNeg (i + 2)))] : List Value).reverse ++ .ref (xB X + 0) :: []) rfl ?_
  refine g_callV (As := [.int (xs (Int32.toNatClampNeg (i + 1))), .int (xs (Int32.toNatClampNeg (i + 2)))]) (st := []) hC (hS.2 _ (hTG _ tg_G_0)) (by decide) ycl_11_X11_told yw_X11_told yv_X11_told tw_778 dL_law_296 (fun _ h => h) (fun _ h => h) (fun h => h) (c_X11_told (d := 3) (Nat.le_refl _) hPG hTG hF hw) rfl (Nat.le_of_ble_eq_true rfl) (by decide) (by omega) (by omega) (kI fun r1 s1 hw => ?_)
  refine g_aload_n hC dL_law_299 rfl ?_
  refine g_aload_n hC dL_law_300 rfl ?_
  refine g_iload_n hC dL_law_301 rfl ?_
  refine g_iconst (v := 1) hC dL_law_302 (by decide) ?_
  refine g_iadd hC dL_law_303 ?_
  refine g_sld hC hX hbl hB h1 dL_law_304 ?_
  refine g_aload_n hC dL_law_305 rfl ?_
  refine g_iload_n hC dL_law_306 rfl ?_
  refine g_iconst (v := 2) hC dL_law_307 (by decide) ?_
  refine g_iadd hC dL_law_308 ?_
  refine g_sld hC hX hbl hB h2 dL_law_309 ?_
  refine g_known (fun hS => ?_)
  refine mG.st (st1 := ([.int (xs (Int32.toNatClampNeg (i + 1))), .int (xs (Int32.toNatClampNeg (i + 2)))] : List Value).reverse ++ .ref (xB X + 37) :: [.int r1]) rfl ?_
  refine g_callV (As := [.int (xs (Int32.toNatClampNeg (i + 1))), .int (xs (Int32.toNatClampNeg (i + 2)))]) (st := [.int r1]) hC (hS.2 _ (hTM _ tg_M_37)) (by decide) ycl_12_X12_told yw_X12_told yv_X12_told tw_782 dL_law_310 (fun _ h => h) (fun _ h => h) (fun h => h) (c_X12_told (d := 2) (Nat.le_refl _) hPM hTM hw) rfl (Nat.le_of_ble_eq_true rfl) (by decide) (by omega) (by omega) (kI fun r2 s2 hw => ?_)
  refine g_icmp_eq (tgt := 1123) hC dL_law_313 rfl (fun c => ?_) (fun c => ?_)
  · exact hn _ hw.2
  · exact absurd hw.1 c
set_option maxRecDepth 4000 in
set_option maxHeartbeats 2000000 in
theorem law_4 {X : Cx} {b L : Nat} {xs : Nat → Int32} (hC : mOK X code R_law "law" ret 1400 600000 7302250) (hX : va_X b L xs X.2.1.1 X.2.1.1.heap) (hbl : b < X.2.1.1.heap.size) (hB : b < xB X) (hPG : ∀ e ∈ psG, e ∈ xP X) (hTG : ∀ e ∈ tsG, e ∈ xT X) (hPM : ∀ e ∈ psM, e ∈ xP X) (hTM : ∀ e ∈ tsM, e ∈ xT X) (hF : ∀ e ∈ xP X, e ∈ psA) {i : Int32} (h1 : vp_in (i + 1) L) (h2 : vp_in (i + 2) L) (h3 : vp_in (i + 3) L) (h4 : vp_in (i + 4) L) (h5 : vp_in (i + 5) L) {σ : Mem} {kc ks : Nat} (hkc : kc + 20 ≤ 600000) (hks : ks + 600 ≤ 7302250) {Rel : Mem → Prop} {Q : State → Prop} (hw : w_X11_feed σ (xs (Int32.toNatClampNeg (i + 1))) (fun r1 s1 => w_X12_feed s1 (xs (Int32.toNatClampNeg (i + 1))) (fun r2 s2 => r1 = r2 ∧ Rel s2))) (hn : ∀ s2, Rel s2 → mG X 1123 [(3, .int i), (2, .ref (xB X + 37)), (1, .ref (xB X + 0)), (0, .ref b)] [] s2 (kc + 0 + 0) (ks + 0 + 0) Q) : mG X 318 [(3, .int i), (2, .ref (xB X + 37)), (1, .ref (xB X + 0)), (0, .ref b)] [] σ kc ks Q := by
  refine g_aload_n hC dL_law_318 rfl ?_
  refine g_aload_n hC dL_law_319 rfl ?_
  refine g_iload_n hC dL_law_320 rfl ?_
  refine g_iconst (v := 1) hC dL_law_321 (by decide) ?_
  refine g_iadd hC dL_law_322 ?_
  refine g_sld hC hX hbl hB h1 dL_law_323 ?_
  refine g_known (fun hS => ?_)
  refine mG.st (st1 := ([.int (xs (Int32.toNatClampNeg (i + 1)))] : List Value).reverse ++ .ref (xB X + 0) :: []) rfl ?_
  refine g_callV (As := [.int (xs (Int32.toNatClampNeg (i + 1)))]) (st := []) hC (hS.2 _ (hTG _ tg_G_0)) (by decide) ycl_11_X11_feed yw_X11_feed yv_X11_feed tw_786 dL_law_324 (fun _ h => h) (fun _ h => h) (fun h => h) (c_X11_feed (d := 1) (Nat.le_refl _) hPG hTG hF hw) rfl (Nat.le_of_ble_eq_true rfl) (by decide) (by omega) (by omega) (kI fun r1 s1 hw => ?_)
  refine g_aload_n hC dL_law_327 rfl ?_
  refine g_aload_n hC dL_law_328 rfl ?_
  refine g_iload_n hC dL_law_329 rfl ?_
  refine g_iconst (v := 1) hC dL_law_330 (by decide) ?_
  refine g_iadd hC dL_law_331 ?_
  refine g_sld hC hX hbl hB h1 dL_law_332 ?_
  refine g_known (fun hS => ?_)
  refine mG.st (st1 := ([.int (xs (Int32.toNatClampNeg (i + 1)))] : List Value).reverse ++ .ref (xB X + 37) :: [.int r1]) rfl ?_
  refine g_callV (As := [.int (xs (Int32.toNatClampNeg (i + 1)))]) (st := [.int r1]) hC (hS.2 _ (hTM _ tg_M_37)) (by decide) ycl_12_X12_feed yw_X12_feed yv_X12_feed tw_790 dL_law_333 (fun _ h => h) (fun _ h => h) (fun h => h) (c_X12_feed (d := 1) (Nat.le_refl _) hPM hTM hw) rfl (Nat.le_of_ble_eq_true rfl) (by decide) (by omega) (by omega) (kI fun r2 s2 hw => ?_)
  refine g_icmp_eq (tgt := 1123) hC dL_law_336 rfl (fun c => ?_) (fun c => ?_)
  · exact hn _ hw.2
  · exact absurd hw.1 c
set_option maxRecDepth 4000 in
set_option maxHeartbeats 2000000 in
theorem law_5 {X : Cx} {b L : Nat} {xs : Nat → Int32} (hC : mOK X code R_law "law" ret 1400 600000 7302250) (hX : va_X b L xs X.2.1.1 X.2.1.1.heap) (hbl : b < X.2.1.1.heap.size) (hB : b < xB X) (hPG : ∀ e ∈ psG, e ∈ xP X) (hTG : ∀ e ∈ tsG, e ∈ xT X) (hPM : ∀ e ∈ psM, e ∈ xP X) (hTM : ∀ e ∈ tsM, e ∈ xT X) (hF : ∀ e ∈ xP X, e ∈ psA) {i : Int32} (h1 : vp_in (i + 1) L) (h2 : vp_in (i + 2) L) (h3 : vp_in (i + 3) L) (h4 : vp_in (i + 4) L) (h5 : vp_in (i + 5) L) {σ : Mem} {kc ks : Nat} (hkc : kc + 20 ≤ 600000) (hks : ks + 600 ≤ 7302250) {Rel : Mem → Prop} {Q : State → Prop} (hw : w_X11_text σ (fun r1 s1 => w_X12_text s1 (fun r2 s2 => r1 = r2 ∧ Rel s2))) (hn : ∀ s2, Rel s2 → mG X 1123 [(3, .int i), (2, .ref (xB X + 37)), (1, .ref (xB X + 0)), (0, .ref b)] [] s2 (kc + 4 + 0) (ks + 211 + 0) Q) : mG X 341 [(3, .int i), (2, .ref (xB X + 37)), (1, .ref (xB X + 0)), (0, .ref b)] [] σ kc ks Q := by
  refine g_aload_n hC dL_law_341 rfl ?_
  refine g_known (fun hS => ?_)
  refine mG.st (st1 := ([] : List Value).reverse ++ .ref (xB X + 0) :: []) rfl ?_
  refine g_callV (As := []) (st := []) hC (hS.2 _ (hTG _ tg_G_0)) (by decide) ycl_11_X11_text yw_X11_text yv_X11_text tw_794 dL_law_342 (fun _ h => h) (fun _ h => h) (fun h => h) (c_X11_text (d := 198) (Nat.le_refl _) hPG hTG hF hw) rfl (Nat.le_of_ble_eq_true rfl) (by decide) (by omega) (by omega) (kI fun r1 s1 hw => ?_)
  refine g_aload_n hC dL_law_345 rfl ?_
  refine g_known (fun hS => ?_)
  refine mG.st (st1 := ([] : List Value).reverse ++ .ref (xB X + 37) :: [.int r1]) rfl ?_
  refine g_callV (As := []) (st := [.int r1]) hC (hS.2 _ (hTM _ tg_M_37)) (by decide) ycl_12_X12_text yw_X12_text yv_X12_text tw_798 dL_law_346 (fun _ h => h) (fun _ h => h) (fun h => h) (c_X12_text (d := 5) (Nat.le_refl _) hPM hTM hw) rfl (Nat.le_of_ble_eq_true rfl) (by decide) (by omega) (by omega) (kI fun r2 s2 hw => ?_)
  refine g_icmp_eq (tgt := 1123) hC dL_law_349 rfl (fun c => ?_) (fun c => ?_)
  · exact hn _ hw.2
  · exact absurd hw.1 c
set_option maxRecDepth 4000 in
set_option maxHeartbeats 2000000 in
theorem law_6 {X : Cx} {b L : Nat} {xs : Nat → Int32} (hC : mOK X code R_law "law" ret 1400 600000 7302250) (hX : va_X b L xs X.2.1.1 X.2.1.1.heap) (hbl : b < X.2.1.1.heap.size) (hB : b < xB X) (hPG : ∀ e ∈ psG, e ∈ xP X) (hTG : ∀ e ∈ tsG, e ∈ xT X) (hPM : ∀ e ∈ psM, e ∈ xP X) (hTM : ∀ e ∈ tsM, e ∈ xT X) (hF : ∀ e ∈ xP X, e ∈ psA) {i : Int32} (h1 : vp_in (i + 1) L) (h2 : vp_in (i + 2) L) (h3 : vp_in (i + 3) L) (h4 : vp_in (i + 4) L) (h5 : vp_in (i + 5) L) {σ : Mem} {kc ks : Nat} (hkc : kc + 20 ≤ 600000) (hks : ks + 600 ≤ 7302250) {Rel : Mem → Prop} {Q : State → Prop} (hw : w_X11_force σ (xs (Int32.toNatClampNeg (i + 1))) (fun r1 s1 => w_X12_force s1 (xs (Int32.toNatClampNeg (i + 1))) (fun r2 s2 => r1 = r2 ∧ Rel s2))) (hn : ∀ s2, Rel s2 → mG X 1123 [(3, .int i), (2, .ref (xB X + 37)), (1, .ref (xB X + 0)), (0, .ref b)] [] s2 (kc + 0 + 0) (ks + 0 + 0) Q) : mG X 354 [(3, .int i), (2, .ref (xB X + 37)), (1, .ref (xB X + 0)), (0, .ref b)] [] σ kc ks Q := by
  refine g_aload_n hC dL_law_354 rfl ?_
  refine g_aload_n hC dL_law_355 rfl ?_
  refine g_iload_n hC dL_law_356 rfl ?_
  refine g_iconst (v := 1) hC dL_law_357 (by decide) ?_
  refine g_iadd hC dL_law_358 ?_
  refine g_sld hC hX hbl hB h1 dL_law_359 ?_
  refine g_known (fun hS => ?_)
  refine mG.st (st1 := ([.int (xs (Int32.toNatClampNeg (i + 1)))] : List Value).reverse ++ .ref (xB X + 0) :: []) rfl ?_
  refine g_callV (As := [.int (xs (Int32.toNatClampNeg (i + 1)))]) (st := []) hC (hS.2 _ (hTG _ tg_G_0)) (by decide) ycl_11_X11_force yw_X11_force yv_X11_force tw_802 dL_law_360 (fun _ h => h) (fun _ h => h) (fun h => h) (c_X11_force (d := 0) (Nat.le_refl _) hPG hTG hF hw) rfl (Nat.le_of_ble_eq_true rfl) (by decide) (by omega) (by omega) (kI fun r1 s1 hw => ?_)
  refine g_aload_n hC dL_law_363 rfl ?_
  refine g_aload_n hC dL_law_364 rfl ?_
  refine g_iload_n hC dL_law_365 rfl ?_
  refine g_iconst (v := 1) hC dL_law_366 (by decide) ?_
  refine g_iadd hC dL_law_367 ?_
  refine g_sld hC hX hbl hB h1 dL_law_368 ?_
  refine g_known (fun hS => ?_)
  refine mG.st (st1 := ([.int (xs (Int32.toNatClampNeg (i + 1)))] : List Value).reverse ++ .ref (xB X + 37) :: [.int r1]) rfl ?_
  refine g_callV (As := [.int (xs (Int32.toNatClampNeg (i + 1)))]) (st := [.int r1]) hC (hS.2 _ (hTM _ tg_M_37)) (by decide) ycl_12_X12_force yw_X12_force yv_X12_force tw_806 dL_law_369 (fun _ h => h) (fun _ h => h) (fun h => h) (c_X12_force (d := 1) (Nat.le_refl _) hPM hTM hw) rfl (Nat.le_of_ble_eq_true rfl) (by decide) (by omega) (by omega) (kI fun r2 s2 hw => ?_)
  refine g_icmp_eq (tgt := 1123) hC dL_law_372 rfl (fun c => ?_) (fun c => ?_)
  · exact hn _ hw.2
  · exact absurd hw.1 c
set_option maxRecDepth 4000 in
set_option maxHeartbeats 2000000 in
theorem law_7 {X : Cx} {b L : Nat} {xs : Nat → Int32} (hC : mOK X code R_law "law" ret 1400 600000 7302250) (hX : va_X b L xs X.2.1.1 X.2.1.1.heap) (hbl : b < X.2.1.1.heap.size) (hB : b < xB X) (hPG : ∀ e ∈ psG, e ∈ xP X) (hTG : ∀ e ∈ tsG, e ∈ xT X) (hPM : ∀ e ∈ psM, e ∈ xP X) (hTM : ∀ e ∈ tsM, e ∈ xT X) (hF : ∀ e ∈ xP X, e ∈ psA) {i : Int32} (h1 : vp_in (i + 1) L) (h2 : vp_in (i + 2) L) (h3 : vp_in (i + 3) L) (h4 : vp_in (i + 4) L) (h5 : vp_in (i + 5) L) {σ : Mem} {kc ks : Nat} (hkc : kc + 20 ≤ 600000) (hks : ks + 600 ≤ 7302250) {Rel : Mem → Prop} {Q : State → Prop} (hw : w_X11_by σ (xs (Int32.toNatClampNeg (i + 1))) (xs (Int32.toNatClampNeg (i + 2))) (fun r1 s1 => w_X12_by s1 (xs (Int32.toNatClampNeg (i + 1))) (xs (Int32.toNatClampNeg (i + 2))) (fun r2 s2 => r1 = r2 ∧ Rel s2))) (hn : ∀ s2, Rel s2 → mG X 1123 [(3, .int i), (2, .ref (xB X + 37)), (1, .ref (xB X + 0)), (0, .ref b)] [] s2 (kc + 0 + 0) (ks + 0 + 0) Q) : mG X 377 [(3, .int i), (2, .ref (xB X + 37)), (1, .ref (xB X + 0)), (0, .ref b)] [] σ kc ks Q := by
  refine g_aload_n hC dL_law_377 rfl ?_
  refine g_aload_n hC dL_law_378 rfl ?_
  refine g_iload_n hC dL_law_379 rfl ?_
  refine g_iconst (v := 1) hC dL_law_380 (by decide) ?_
  refine g_iadd hC dL_law_381 ?_
  refine g_sld hC hX hbl hB h1 dL_law_382 ?_
  refine g_aload_n hC dL_law_383 rfl ?_
  refine g_iload_n hC dL_law_384 rfl ?_
  refine g_iconst (v := 2) hC dL_law_385 (by decide) ?_
  refine g_iadd hC dL_law_386 ?_
  refine g_sld hC hX hbl hB h2 dL_law_387 ?_
  refine g_known (fun hS => ?_)
  refine mG.st (st1 := ([.int (xs (Int32.toNatClampNeg (i + 1))), .int (xs (Int32.toNatClampNeg (i + 2)))] : List Value).reverse ++ .ref (xB X + 0) :: []) rfl ?_
  refine g_callV (As := [.int (xs (Int32.toNatClampNeg (i + 1))), .int (xs (Int32.toNatClampNeg (i + 2)))]) (st := []) hC (hS.2 _ (hTG _ tg_G_0)) (by decide) ycl_11_X11_by yw_X11_by yv_X11_by tw_810 dL_law_388 (fun _ h => h) (fun _ h => h) (fun h => h) (c_X11_by (d := 9) (Nat.le_refl _) hPG hTG hF hw) rfl (Nat.le_of_ble_eq_true rfl) (by decide) (by omega) (by omega) (kI fun r1 s1 hw => ?_)
  refine g_aload_n hC dL_law_391 rfl ?_
  refine g_aload_n hC dL_law_392 rfl ?_
  refine g_iload_n hC dL_law_393 rfl ?_
  refine g_iconst (v := 1) hC dL_law_394 (by decide) ?_
  refine g_iadd hC dL_law_395 ?_
  refine g_sld hC hX hbl hB h1 dL_law_396 ?_
  refine g_aload_n hC dL_law_397 rfl ?_
  refine g_iload_n hC dL_law_398 rfl ?_
  refine g_iconst (v := 2) hC dL_law_399 (by decide) ?_
  refine g_iadd hC dL_law_400 ?_
  refine g_sld hC hX hbl hB h2 dL_law_401 ?_
  refine g_known (fun hS => ?_)
  refine mG.st (st1 := ([.int (xs (Int32.toNatClampNeg (i + 1))), .int (xs (Int32.toNatClampNeg (i + 2)))] : List Value).reverse ++ .ref (xB X + 37) :: [.int r1]) rfl ?_
  refine g_callV (As := [.int (xs (Int32.toNatClampNeg (i + 1))), .int (xs (Int32.toNatClampNeg (i + 2)))]) (st := [.int r1]) hC (hS.2 _ (hTM _ tg_M_37)) (by decide) ycl_12_X12_by yw_X12_by yv_X12_by tw_814 dL_law_402 (fun _ h => h) (fun _ h => h) (fun h => h) (c_X12_by (d := 5) (Nat.le_refl _) hPM hTM hw) rfl (Nat.le_of_ble_eq_true rfl) (by decide) (by omega) (by omega) (kI fun r2 s2 hw => ?_)
  refine g_icmp_eq (tgt := 1123) hC dL_law_405 rfl (fun c => ?_) (fun c => ?_)
  · exact hn _ hw.2
  · exact absurd hw.1 c
set_option maxRecDepth 4000 in
set_option maxHeartbeats 2000000 in
theorem law_8 {X : Cx} {b L : Nat} {xs : Nat → Int32} (hC : mOK X code R_law "law" ret 1400 600000 7302250) (hX : va_X b L xs X.2.1.1 X.2.1.1.heap) (hbl : b < X.2.1.1.heap.size) (hB : b < xB X) (hPG : ∀ e ∈ psG, e ∈ xP X) (hTG : ∀ e ∈ tsG, e ∈ xT X) (hPM : ∀ e ∈ psM, e ∈ xP X) (hTM : ∀ e ∈ tsM, e ∈ xT X) (hF : ∀ e ∈ xP X, e ∈ psA) {i : Int32} (h1 : vp_in (i + 1) L) (h2 : vp_in (i + 2) L) (h3 : vp_in (i + 3) L) (h4 : vp_in (i + 4) L) (h5 : vp_in (i + 5) L) {σ : Mem} {kc ks : Nat} (hkc : kc + 20 ≤ 600000) (hks : ks + 600 ≤ 7302250) {Rel : Mem → Prop} {Q : State → Prop} (hw : w_X11_heapOf σ (xs (Int32.toNatClampNeg (i + 1))) (xs (Int32.toNatClampNeg (i + 2))) (fun r1 s1 => w_X12_heapOf s1 (xs (Int32.toNatClampNeg (i + 1))) (xs (Int32.toNatClampNeg (i + 2))) (fun r2 s2 => r1 = r2 ∧ Rel s2))) (hn : ∀ s2, Rel s2 → mG X 1123 [(3, .int i), (2, .ref (xB X + 37)), (1, .ref (xB X + 0)), (0, .ref b)] [] s2 (kc + 0 + 0) (ks + 0 + 0) Q) : mG X 410 [(3, .int i), (2, .ref (xB X + 37)), (1, .ref (xB X + 0)), (0, .ref b)] [] σ kc ks Q := by
  refine g_aload_n hC dL_law_410 rfl ?_
  refine g_aload_n hC dL_law_411 rfl ?_
  refine g_iload_n hC dL_law_412 rfl ?_
  refine g_iconst (v := 1) hC dL_law_413 (by decide) ?_
  refine g_iadd hC dL_law_414 ?_
  refine g_sld hC hX hbl hB h1 dL_law_415 ?_
  refine g_aload_n hC dL_law_416 rfl ?_
  refine g_iload_n hC dL_law_417 rfl ?_
  refine g_iconst (v := 2) hC dL_law_418 (by decide) ?_
  refine g_iadd hC dL_law_419 ?_
  refine g_sld hC hX hbl hB h2 dL_law_420 ?_
  refine g_known (fun hS => ?_)
  refine mG.st (st1 := ([.int (xs (Int32.toNatClampNeg (i + 1))), .int (xs (Int32.toNatClampNeg (i + 2)))] : List Value).reverse ++ .ref (xB X + 0) :: []) rfl ?_
  refine g_callV (As := [.int (xs (Int32.toNatClampNeg (i + 1))), .int (xs (Int32.toNatClampNeg (i + 2)))]) (st := []) hC (hS.2 _ (hTG _ tg_G_0)) (by decide) ycl_11_X11_heapOf yw_X11_heapOf yv_X11_heapOf tw_818 dL_law_421 (fun _ h => h) (fun _ h => h) (fun h => h) (c_X11_heapOf (d := 9) (Nat.le_refl _) hPG hTG hF hw) rfl (Nat.le_of_ble_eq_true rfl) (by decide) (by omega) (by omega) (kI fun r1 s1 hw => ?_)
  refine g_aload_n hC dL_law_424 rfl ?_
  refine g_aload_n hC dL_law_425 rfl ?_
  refine g_iload_n hC dL_law_426 rfl ?_
  refine g_iconst (v := 1) hC dL_law_427 (by decide) ?_
  refine g_iadd hC dL_law_428 ?_
  refine g_sld hC hX hbl hB h1 dL_law_429 ?_
  refine g_aload_n hC dL_law_430 rfl ?_
  refine g_iload_n hC dL_law_431 rfl ?_
  refine g_iconst (v := 2) hC dL_law_432 (by decide) ?_
  refine g_iadd hC dL_law_433 ?_
  refine g_sld hC hX hbl hB h2 dL_law_434 ?_
  refine g_known (fun hS => ?_)
  refine mG.st (st1 := ([.int (xs (Int32.toNatClampNeg (i + 1))), .int (xs (Int32.toNatClampNeg (i + 2)))] : List Value).reverse ++ .ref (xB X + 37) :: [.int r1]) rfl ?_
  refine g_callV (As := [.int (xs (Int32.toNatClampNeg (i + 1))), .int (xs (Int32.toNatClampNeg (i + 2)))]) (st := [.int r1]) hC (hS.2 _ (hTM _ tg_M_37)) (by decide) ycl_12_X12_heapOf yw_X12_heapOf yv_X12_heapOf tw_822 dL_law_435 (fun _ h => h) (fun _ h => h) (fun h => h) (c_X12_heapOf (d := 5) (Nat.le_refl _) hPM hTM hw) rfl (Nat.le_of_ble_eq_true rfl) (by decide) (by omega) (by omega) (kI fun r2 s2 hw => ?_)
  refine g_icmp_eq (tgt := 1123) hC dL_law_438 rfl (fun c => ?_) (fun c => ?_)
  · exact hn _ hw.2
  · exact absurd hw.1 c
set_option maxRecDepth 4000 in
set_option maxHeartbeats 2000000 in
theorem law_9 {X : Cx} {b L : Nat} {xs : Nat → Int32} (hC : mOK X code R_law "law" ret 1400 600000 7302250) (hX : va_X b L xs X.2.1.1 X.2.1.1.heap) (hbl : b < X.2.1.1.heap.size) (hB : b < xB X) (hPG : ∀ e ∈ psG, e ∈ xP X) (hTG : ∀ e ∈ tsG, e ∈ xT X) (hPM : ∀ e ∈ psM, e ∈ xP X) (hTM : ∀ e ∈ tsM, e ∈ xT X) (hF : ∀ e ∈ xP X, e ∈ psA) {i : Int32} (h1 : vp_in (i + 1) L) (h2 : vp_in (i + 2) L) (h3 : vp_in (i + 3) L) (h4 : vp_in (i + 4) L) (h5 : vp_in (i + 5) L) {σ : Mem} {kc ks : Nat} (hkc : kc + 20 ≤ 600000) (hks : ks + 600 ≤ 7302250) {Rel : Mem → Prop} {Q : State → Prop} (hw : w_X11_fewest σ (xs (Int32.toNatClampNeg (i + 1))) (fun r1 s1 => w_X12_fewest s1 (xs (Int32.toNatClampNeg (i + 1))) (fun r2 s2 => r1 = r2 ∧ Rel s2))) (hn : ∀ s2, Rel s2 → mG X 1123 [(3, .int i), (2, .ref (xB X + 37)), (1, .ref (xB X + 0)), (0, .ref b)] [] s2 (kc + 0 + 0) (ks + 0 + 0) Q) : mG X 443 [(3, .int i), (2, .ref (xB X + 37)), (1, .ref (xB X + 0)), (0, .ref b)] [] σ kc ks Q := by
  refine g_aload_n hC dL_law_443 rfl ?_
  refine g_aload_n hC dL_law_444 rfl ?_
  refine g_iload_n hC dL_law_445 rfl ?_
  refine g_iconst (v := 1) hC dL_law_446 (by decide) ?_
  refine g_iadd hC dL_law_447 ?_
  refine g_sld hC hX hbl hB h1 dL_law_448 ?_
  refine g_known (fun hS => ?_)
  refine mG.st (st1 := ([.int (xs (Int32.toNatClampNeg (i + 1)))] : List Value).reverse ++ .ref (xB X + 0) :: []) rfl ?_
  refine g_callV (As := [.int (xs (Int32.toNatClampNeg (i + 1)))]) (st := []) hC (hS.2 _ (hTG _ tg_G_0)) (by decide) ycl_11_X11_fewest yw_X11_fewest yv_X11_fewest tw_826 dL_law_449 (fun _ h => h) (fun _ h => h) (fun h => h) (c_X11_fewest (d := 54) (Nat.le_refl _) hPG hTG hF hw) rfl (Nat.le_of_ble_eq_true rfl) (by decide) (by omega) (by omega) (kI fun r1 s1 hw => ?_)
  refine g_aload_n hC dL_law_452 rfl ?_
  refine g_aload_n hC dL_law_453 rfl ?_
  refine g_iload_n hC dL_law_454 rfl ?_
  refine g_iconst (v := 1) hC dL_law_455 (by decide) ?_
  refine g_iadd hC dL_law_456 ?_
  refine g_sld hC hX hbl hB h1 dL_law_457 ?_
  refine g_known (fun hS => ?_)
  refine mG.st (st1 := ([.int (xs (Int32.toNatClampNeg (i + 1)))] : List Value).reverse ++ .ref (xB X + 37) :: [.int r1]) rfl ?_
  refine g_callV (As := [.int (xs (Int32.toNatClampNeg (i + 1)))]) (st := [.int r1]) hC (hS.2 _ (hTM _ tg_M_37)) (by decide) ycl_12_X12_fewest yw_X12_fewest yv_X12_fewest tw_830 dL_law_458 (fun _ h => h) (fun _ h => h) (fun h => h) (c_X12_fewest (d := 41) (Nat.le_refl _) hPM hTM hw) rfl (Nat.le_of_ble_eq_true rfl) (by decide) (by omega) (by omega) (kI fun r2 s2 hw => ?_)
  refine g_icmp_eq (tgt := 1123) hC dL_law_461 rfl (fun c => ?_) (fun c => ?_)
  · exact hn _ hw.2
  · exact absurd hw.1 c
set_option maxRecDepth 4000 in
set_option maxHeartbeats 2000000 in
theorem law_10 {X : Cx} {b L : Nat} {xs : Nat → Int32} (hC : mOK X code R_law "law" ret 1400 600000 7302250) (hX : va_X b L xs X.2.1.1 X.2.1.1.heap) (hbl : b < X.2.1.1.heap.size) (hB : b < xB X) (hPG : ∀ e ∈ psG, e ∈ xP X) (hTG : ∀ e ∈ tsG, e ∈ xT X) (hPM : ∀ e ∈ psM, e ∈ xP X) (hTM : ∀ e ∈ tsM, e ∈ xT X) (hF : ∀ e ∈ xP X, e ∈ psA) {i : Int32} (h1 : vp_in (i + 1) L) (h2 : vp_in (i + 2) L) (h3 : vp_in (i + 3) L) (h4 : vp_in (i + 4) L) (h5 : vp_in (i + 5) L) {σ : Mem} {kc ks : Nat} (hkc : kc + 20 ≤ 600000) (hks : ks + 600 ≤ 7302250) {Rel : Mem → Prop} {Q : State → Prop} (hw : w_X11_longest σ (xs (Int32.toNatClampNeg (i + 1))) (fun r1 s1 => w_X12_longest s1 (xs (Int32.toNatClampNeg (i + 1))) (fun r2 s2 => r1 = r2 ∧ Rel s2))) (hn : ∀ s2, Rel s2 → mG X 1123 [(3, .int i), (2, .ref (xB X + 37)), (1, .ref (xB X + 0)), (0, .ref b)] [] s2 (kc + 0 + 0) (ks + 0 + 0) Q) : mG X 466 [(3, .int i), (2, .ref (xB X + 37)), (1, .ref (xB X + 0)), (0, .ref b)] [] σ kc ks Q := by
  refine g_aload_n hC dL_law_466 rfl ?_
  refine g_aload_n hC dL_law_467 rfl ?_
  refine g_iload_n hC dL_law_468 rfl ?_
  refine g_iconst (v := 1) hC dL_law_469 (by decide) ?_
  refine g_iadd hC dL_law_470 ?_
  refine g_sld hC hX hbl hB h1 dL_law_471 ?_
  refine g_known (fun hS => ?_)
  refine mG.st (st1 := ([.int (xs (Int32.toNatClampNeg (i + 1)))] : List Value).reverse ++ .ref (xB X + 0) :: []) rfl ?_
  refine g_callV (As := [.int (xs (Int32.toNatClampNeg (i + 1)))]) (st := []) hC (hS.2 _ (hTG _ tg_G_0)) (by decide) ycl_11_X11_longest yw_X11_longest yv_X11_longest tw_834 dL_law_472 (fun _ h => h) (fun _ h => h) (fun h => h) (c_X11_longest (d := 5) (Nat.le_refl _) hPG hTG hF hw) rfl (Nat.le_of_ble_eq_true rfl) (by decide) (by omega) (by omega) (kI fun r1 s1 hw => ?_)
  refine g_aload_n hC dL_law_475 rfl ?_
  refine g_aload_n hC dL_law_476 rfl ?_
  refine g_iload_n hC dL_law_477 rfl ?_
  refine g_iconst (v := 1) hC dL_law_478 (by decide) ?_
  refine g_iadd hC dL_law_479 ?_
  refine g_sld hC hX hbl hB h1 dL_law_480 ?_
  refine g_known (fun hS => ?_)
  refine mG.st (st1 := ([.int (xs (Int32.toNatClampNeg (i + 1)))] : List Value).reverse ++ .ref (xB X + 37) :: [.int r1]) rfl ?_
  refine g_callV (As := [.int (xs (Int32.toNatClampNeg (i + 1)))]) (st := [.int r1]) hC (hS.2 _ (hTM _ tg_M_37)) (by decide) ycl_12_X12_longest yw_X12_longest yv_X12_longest tw_838 dL_law_481 (fun _ h => h) (fun _ h => h) (fun h => h) (c_X12_longest (d := 4) (Nat.le_refl _) hPM hTM hw) rfl (Nat.le_of_ble_eq_true rfl) (by decide) (by omega) (by omega) (kI fun r2 s2 hw => ?_)
  refine g_icmp_eq (tgt := 1123) hC dL_law_484 rfl (fun c => ?_) (fun c => ?_)
  · exact hn _ hw.2
  · exact absurd hw.1 c
set_option maxRecDepth 4000 in
set_option maxHeartbeats 2000000 in
theorem law_11 {X : Cx} {b L : Nat} {xs : Nat → Int32} (hC : mOK X code R_law "law" ret 1400 600000 7302250) (hX : va_X b L xs X.2.1.1 X.2.1.1.heap) (hbl : b < X.2.1.1.heap.size) (hB : b < xB X) (hPG : ∀ e ∈ psG, e ∈ xP X) (hTG : ∀ e ∈ tsG, e ∈ xT X) (hPM : ∀ e ∈ psM, e ∈ xP X) (hTM : ∀ e ∈ tsM, e ∈ xT X) (hF : ∀ e ∈ xP X, e ∈ psA) {i : Int32} (h1 : vp_in (i + 1) L) (h2 : vp_in (i + 2) L) (h3 : vp_in (i + 3) L) (h4 : vp_in (i + 4) L) (h5 : vp_in (i + 5) L) {σ : Mem} {kc ks : Nat} (hkc : kc + 20 ≤ 600000) (hks : ks + 600 ≤ 7302250) {Rel : Mem → Prop} {Q : State → Prop} (hw : w_X11_several σ (xs (Int32.toNatClampNeg (i + 1))) (fun r1 s1 => w_X12_several s1 (xs (Int32.toNatClampNeg (i + 1))) (fun r2 s2 => r1 = r2 ∧ Rel s2))) (hn : ∀ s2, Rel s2 → mG X 1123 [(3, .int i), (2, .ref (xB X + 37)), (1, .ref (xB X + 0)), (0, .ref b)] [] s2 (kc + 0 + 0) (ks + 0 + 0) Q) : mG X 489 [(3, .int i), (2, .ref (xB X + 37)), (1, .ref (xB X + 0)), (0, .ref b)] [] σ kc ks Q := by
  refine g_aload_n hC dL_law_489 rfl ?_
  refine g_aload_n hC dL_law_490 rfl ?_
  refine g_iload_n hC dL_law_491 rfl ?_
  refine g_iconst (v := 1) hC dL_law_492 (by decide) ?_
  refine g_iadd hC dL_law_493 ?_
  refine g_sld hC hX hbl hB h1 dL_law_494 ?_
  refine g_known (fun hS => ?_)
  refine mG.st (st1 := ([.int (xs (Int32.toNatClampNeg (i + 1)))] : List Value).reverse ++ .ref (xB X + 0) :: []) rfl ?_
  refine g_callV (As := [.int (xs (Int32.toNatClampNeg (i + 1)))]) (st := []) hC (hS.2 _ (hTG _ tg_G_0)) (by decide) ycl_11_X11_several yw_X11_several yv_X11_several tw_842 dL_law_495 (fun _ h => h) (fun _ h => h) (fun h => h) (c_X11_several (d := 5) (Nat.le_refl _) hPG hTG hF hw) rfl (Nat.le_of_ble_eq_true rfl) (by decide) (by omega) (by omega) (kI fun r1 s1 hw => ?_)
  refine g_aload_n hC dL_law_498 rfl ?_
  refine g_aload_n hC dL_law_499 rfl ?_
  refine g_iload_n hC dL_law_500 rfl ?_
  refine g_iconst (v := 1) hC dL_law_501 (by decide) ?_
  refine g_iadd hC dL_law_502 ?_
  refine g_sld hC hX hbl hB h1 dL_law_503 ?_
  refine g_known (fun hS => ?_)
  refine mG.st (st1 := ([.int (xs (Int32.toNatClampNeg (i + 1)))] : List Value).reverse ++ .ref (xB X + 37) :: [.int r1]) rfl ?_
  refine g_callV (As := [.int (xs (Int32.toNatClampNeg (i + 1)))]) (st := [.int r1]) hC (hS.2 _ (hTM _ tg_M_37)) (by decide) ycl_12_X12_several yw_X12_several yv_X12_several tw_846 dL_law_504 (fun _ h => h) (fun _ h => h) (fun h => h) (c_X12_several (d := 40) (Nat.le_refl _) hPM hTM hw) rfl (Nat.le_of_ble_eq_true rfl) (by decide) (by omega) (by omega) (kI fun r2 s2 hw => ?_)
  refine g_icmp_eq (tgt := 1123) hC dL_law_507 rfl (fun c => ?_) (fun c => ?_)
  · exact hn _ hw.2
  · exact absurd hw.1 c
set_option maxRecDepth 4000 in
set_option maxHeartbeats 2000000 in
theorem law_12 {X : Cx} {b L : Nat} {xs : Nat → Int32} (hC : mOK X code R_law "law" ret 1400 600000 7302250) (hX : va_X b L xs X.2.1.1 X.2.1.1.heap) (hbl : b < X.2.1.1.heap.size) (hB : b < xB X) (hPG : ∀ e ∈ psG, e ∈ xP X) (hTG : ∀ e ∈ tsG, e ∈ xT X) (hPM : ∀ e ∈ psM, e ∈ xP X) (hTM : ∀ e ∈ tsM, e ∈ xT X) (hF : ∀ e ∈ xP X, e ∈ psA) {i : Int32} (h1 : vp_in (i + 1) L) (h2 : vp_in (i + 2) L) (h3 : vp_in (i + 3) L) (h4 : vp_in (i + 4) L) (h5 : vp_in (i + 5) L) {σ : Mem} {kc ks : Nat} (hkc : kc + 20 ≤ 600000) (hks : ks + 600 ≤ 7302250) {Rel : Mem → Prop} {Q : State → Prop} (hw : w_X11_orders σ (xs (Int32.toNatClampNeg (i + 1))) (xs (Int32.toNatClampNeg (i + 2))) (fun r1 s1 => w_X12_orders_ s1 (xs (Int32.toNatClampNeg (i + 1))) (xs (Int32.toNatClampNeg (i + 2))) (fun r2 s2 => r1 = r2 ∧ Rel s2))) (hn : ∀ s2, Rel s2 → mG X 1123 [(3, .int i), (2, .ref (xB X + 37)), (1, .ref (xB X + 0)), (0, .ref b)] [] s2 (kc + 0 + 0) (ks + 0 + 0) Q) : mG X 512 [(3, .int i), (2, .ref (xB X + 37)), (1, .ref (xB X + 0)), (0, .ref b)] [] σ kc ks Q := by
  refine g_aload_n hC dL_law_512 rfl ?_
  refine g_aload_n hC dL_law_513 rfl ?_
  refine g_iload_n hC dL_law_514 rfl ?_
  refine g_iconst (v := 1) hC dL_law_515 (by decide) ?_
  refine g_iadd hC dL_law_516 ?_
  refine g_sld hC hX hbl hB h1 dL_law_517 ?_
  refine g_aload_n hC dL_law_518 rfl ?_
  refine g_iload_n hC dL_law_519 rfl ?_
  refine g_iconst (v := 2) hC dL_law_520 (by decide) ?_
  refine g_iadd hC dL_law_521 ?_
  refine g_sld hC hX hbl hB h2 dL_law_522 ?_
  refine g_known (fun hS => ?_)
  refine mG.st (st1 := ([.int (xs (Int32.toNatClampNeg (i + 1))), .int (xs (Int32.toNatClampNeg (i + 2)))] : List Value).reverse ++ .ref (xB X + 0) :: []) rfl ?_
  refine g_callV (As := [.int (xs (Int32.toNatClampNeg (i + 1))), .int (xs (Int32.toNatClampNeg (i + 2)))]) (st := []) hC (hS.2 _ (hTG _ tg_G_0)) (by decide) ycl_11_X11_orders yw_X11_orders yv_X11_orders tw_850 dL_law_523 (fun _ h => h) (fun _ h => h) (fun h => h) (c_X11_orders (d := 106) (Nat.le_refl _) hPG hTG hF hw) rfl (Nat.le_of_ble_eq_true rfl) (by decide) (by omega) (by omega) (kI fun r1 s1 hw => ?_)
  refine g_aload_n hC dL_law_526 rfl ?_
  refine g_aload_n hC dL_law_527 rfl ?_
  refine g_iload_n hC dL_law_528 rfl ?_
  refine g_iconst (v := 1) hC dL_law_529 (by decide) ?_
  refine g_iadd hC dL_law_530 ?_
  refine g_sld hC hX hbl hB h1 dL_law_531 ?_
  refine g_aload_n hC dL_law_532 rfl ?_
  refine g_iload_n hC dL_law_533 rfl ?_
  refine g_iconst (v := 2) hC dL_law_534 (by decide) ?_
  refine g_iadd hC dL_law_535 ?_
  refine g_sld hC hX hbl hB h2 dL_law_536 ?_
  refine g_known (fun hS => ?_)
  refine mG.st (st1 := ([.int (xs (Int32.toNatClampNeg (i + 1))), .int (xs (Int32.toNatClampNeg (i + 2)))] : List Value).reverse ++ .ref (xB X + 37) :: [.int r1]) rfl ?_
  refine g_callV (As := [.int (xs (Int32.toNatClampNeg (i + 1))), .int (xs (Int32.toNatClampNeg (i + 2)))]) (st := [.int r1]) hC (hS.2 _ (hTM _ tg_M_37)) (by decide) ycl_12_X12_orders_ yw_X12_orders_ yv_X12_orders_ tw_854 dL_law_537 (fun _ h => h) (fun _ h => h) (fun h => h) (c_X12_orders_ (d := 67) (Nat.le_refl _) hPM hTM hw) rfl (Nat.le_of_ble_eq_true rfl) (by decide) (by omega) (by omega) (kI fun r2 s2 hw => ?_)
  refine g_icmp_eq (tgt := 1123) hC dL_law_540 rfl (fun c => ?_) (fun c => ?_)
  · exact hn _ hw.2
  · exact absurd hw.1 c
set_option maxRecDepth 4000 in
set_option maxHeartbeats 2000000 in
theorem law_13 {X : Cx} {b L : Nat} {xs : Nat → Int32} (hC : mOK X code R_law "law" ret 1400 600000 7302250) (hX : va_X b L xs X.2.1.1 X.2.1.1.heap) (hbl : b < X.2.1.1.heap.size) (hB : b < xB X) (hPG : ∀ e ∈ psG, e ∈ xP X) (hTG : ∀ e ∈ tsG, e ∈ xT X) (hPM : ∀ e ∈ psM, e ∈ xP X) (hTM : ∀ e ∈ tsM, e ∈ xT X) (hF : ∀ e ∈ xP X, e ∈ psA) {i : Int32} (h1 : vp_in (i + 1) L) (h2 : vp_in (i + 2) L) (h3 : vp_in (i + 3) L) (h4 : vp_in (i + 4) L) (h5 : vp_in (i + 5) L) {σ : Mem} {kc ks : Nat} (hkc : kc + 20 ≤ 600000) (hks : ks + 600 ≤ 7302250) {Rel : Mem → Prop} {Q : State → Prop} (hw : w_X11_mean σ (xs (Int32.toNatClampNeg (i + 1))) (xs (Int32.toNatClampNeg (i + 2))) (fun r1 s1 => w_X12_mean s1 (xs (Int32.toNatClampNeg (i + 1))) (xs (Int32.toNatClampNeg (i + 2))) (fun r2 s2 => r1 = r2 ∧ Rel s2))) (hn : ∀ s2, Rel s2 → mG X 1123 [(3, .int i), (2, .ref (xB X + 37)), (1, .ref (xB X + 0)), (0, .ref b)] [] s2 (kc + 0 + 0) (ks + 0 + 0) Q) : mG X 545 [(3, .int i), (2, .ref (xB X + 37)), (1, .ref (xB X + 0)), (0, .ref b)] [] σ kc ks Q := by
  refine g_aload_n hC dL_law_545 rfl ?_
  refine g_aload_n hC dL_law_546 rfl ?_
  refine g_iload_n hC dL_law_547 rfl ?_
  refine g_iconst (v := 1) hC dL_law_548 (by decide) ?_
  refine g_iadd hC dL_law_549 ?_
  refine g_sld hC hX hbl hB h1 dL_law_550 ?_
  refine g_aload_n hC dL_law_551 rfl ?_
  refine g_iload_n hC dL_law_552 rfl ?_
  refine g_iconst (v := 2) hC dL_law_553 (by decide) ?_
  refine g_iadd hC dL_law_554 ?_
  refine g_sld hC hX hbl hB h2 dL_law_555 ?_
  refine g_known (fun hS => ?_)
  refine mG.st (st1 := ([.int (xs (Int32.toNatClampNeg (i + 1))), .int (xs (Int32.toNatClampNeg (i + 2)))] : List Value).reverse ++ .ref (xB X + 0) :: []) rfl ?_
  refine g_callV (As := [.int (xs (Int32.toNatClampNeg (i + 1))), .int (xs (Int32.toNatClampNeg (i + 2)))]) (st := []) hC (hS.2 _ (hTG _ tg_G_0)) (by decide) ycl_11_X11_mean yw_X11_mean yv_X11_mean tw_858 dL_law_556 (fun _ h => h) (fun _ h => h) (fun h => h) (c_X11_mean (d := 106) (Nat.le_refl _) hPG hTG hF hw) rfl (Nat.le_of_ble_eq_true rfl) (by decide) (by omega) (by omega) (kJ fun r1 s1 hw => ?_)
  refine g_aload_n hC dL_law_559 rfl ?_
  refine g_aload_n hC dL_law_560 rfl ?_
  refine g_iload_n hC dL_law_561 rfl ?_
  refine g_iconst (v := 1) hC dL_law_562 (by decide) ?_
  refine g_iadd hC dL_law_563 ?_
  refine g_sld hC hX hbl hB h1 dL_law_564 ?_
  refine g_aload_n hC dL_law_565 rfl ?_
  refine g_iload_n hC dL_law_566 rfl ?_
  refine g_iconst (v := 2) hC dL_law_567 (by decide) ?_
  refine g_iadd hC dL_law_568 ?_
  refine g_sld hC hX hbl hB h2 dL_law_569 ?_
  refine g_known (fun hS => ?_)
  refine mG.st (st1 := ([.int (xs (Int32.toNatClampNeg (i + 1))), .int (xs (Int32.toNatClampNeg (i + 2)))] : List Value).reverse ++ .ref (xB X + 37) :: [.long r1]) rfl ?_
  refine g_callV (As := [.int (xs (Int32.toNatClampNeg (i + 1))), .int (xs (Int32.toNatClampNeg (i + 2)))]) (st := [.long r1]) hC (hS.2 _ (hTM _ tg_M_37)) (by decide) ycl_12_X12_mean yw_X12_mean yv_X12_mean tw_862 dL_law_570 (fun _ h => h) (fun _ h => h) (fun h => h) (c_X12_mean (d := 67) (Nat.le_refl _) hPM hTM hw) rfl (Nat.le_of_ble_eq_true rfl) (by decide) (by omega) (by omega) (kJ fun r2 s2 hw => ?_)
  refine g_lcmp hC dL_law_573 ?_
  refine g_if_eq (tgt := 1123) hC dL_law_574 rfl (fun c => ?_) (fun c => ?_)
  · exact hn _ hw.2
  · exact absurd (by rw [hw.1]; simp [lg_cmp]) c
set_option maxRecDepth 4000 in
set_option maxHeartbeats 2000000 in
theorem law_14 {X : Cx} {b L : Nat} {xs : Nat → Int32} (hC : mOK X code R_law "law" ret 1400 600000 7302250) (hX : va_X b L xs X.2.1.1 X.2.1.1.heap) (hbl : b < X.2.1.1.heap.size) (hB : b < xB X) (hPG : ∀ e ∈ psG, e ∈ xP X) (hTG : ∀ e ∈ tsG, e ∈ xT X) (hPM : ∀ e ∈ psM, e ∈ xP X) (hTM : ∀ e ∈ tsM, e ∈ xT X) (hF : ∀ e ∈ xP X, e ∈ psA) {i : Int32} (h1 : vp_in (i + 1) L) (h2 : vp_in (i + 2) L) (h3 : vp_in (i + 3) L) (h4 : vp_in (i + 4) L) (h5 : vp_in (i + 5) L) {σ : Mem} {kc ks : Nat} (hkc : kc + 20 ≤ 600000) (hks : ks + 600 ≤ 7302250) {Rel : Mem → Prop} {Q : State → Prop} (hw : w_X11_bestOrder σ (xs (Int32.toNatClampNeg (i + 1))) (xs (Int32.toNatClampNeg (i + 2))) (fun r1 s1 => w_X12_bestOrder s1 (xs (Int32.toNatClampNeg (i + 1))) (xs (Int32.toNatClampNeg (i + 2))) (fun r2 s2 => r1 = r2 ∧ Rel s2))) (hn : ∀ s2, Rel s2 → mG X 1123 [(3, .int i), (2, .ref (xB X + 37)), (1, .ref (xB X + 0)), (0, .ref b)] [] s2 (kc + 0 + 0) (ks + 0 + 0) Q) : mG X 579 [(3, .int i), (2, .ref (xB X + 37)), (1, .ref (xB X + 0)), (0, .ref b)] [] σ kc ks Q := by
  refine g_aload_n hC dL_law_579 rfl ?_
  refine g_aload_n hC dL_law_580 rfl ?_
  refine g_iload_n hC dL_law_581 rfl ?_
  refine g_iconst (v := 1) hC dL_law_582 (by decide) ?_
  refine g_iadd hC dL_law_583 ?_
  refine g_sld hC hX hbl hB h1 dL_law_584 ?_
  refine g_aload_n hC dL_law_585 rfl ?_
  refine g_iload_n hC dL_law_586 rfl ?_
  refine g_iconst (v := 2) hC dL_law_587 (by decide) ?_
  refine g_iadd hC dL_law_588 ?_
  refine g_sld hC hX hbl hB h2 dL_law_589 ?_
  refine g_known (fun hS => ?_)
  refine mG.st (st1 := ([.int (xs (Int32.toNatClampNeg (i + 1))), .int (xs (Int32.toNatClampNeg (i + 2)))] : List Value).reverse ++ .ref (xB X + 0) :: []) rfl ?_
  refine g_callV (As := [.int (xs (Int32.toNatClampNeg (i + 1))), .int (xs (Int32.toNatClampNeg (i + 2)))]) (st := []) hC (hS.2 _ (hTG _ tg_G_0)) (by decide) ycl_11_X11_bestOrder yw_X11_bestOrder yv_X11_bestOrder tw_866 dL_law_590 (fun _ h => h) (fun _ h => h) (fun h => h) (c_X11_bestOrder (d := 106) (Nat.le_refl _) hPG hTG hF hw) rfl (Nat.le_of_ble_eq_true rfl) (by decide) (by omega) (by omega) (kI fun r1 s1 hw => ?_)
  refine g_aload_n hC dL_law_593 rfl ?_
  refine g_aload_n hC dL_law_594 rfl ?_
  refine g_iload_n hC dL_law_595 rfl ?_
  refine g_iconst (v := 1) hC dL_law_596 (by decide) ?_
  refine g_iadd hC dL_law_597 ?_
  refine g_sld hC hX hbl hB h1 dL_law_598 ?_
  refine g_aload_n hC dL_law_599 rfl ?_
  refine g_iload_n hC dL_law_600 rfl ?_
  refine g_iconst (v := 2) hC dL_law_601 (by decide) ?_
  refine g_iadd hC dL_law_602 ?_
  refine g_sld hC hX hbl hB h2 dL_law_603 ?_
  refine g_known (fun hS => ?_)
  refine mG.st (st1 := ([.int (xs (Int32.toNatClampNeg (i + 1))), .int (xs (Int32.toNatClampNeg (i + 2)))] : List Value).reverse ++ .ref (xB X + 37) :: [.int r1]) rfl ?_
  refine g_callV (As := [.int (xs (Int32.toNatClampNeg (i + 1))), .int (xs (Int32.toNatClampNeg (i + 2)))]) (st := [.int r1]) hC (hS.2 _ (hTM _ tg_M_37)) (by decide) ycl_12_X12_bestOrder yw_X12_bestOrder yv_X12_bestOrder tw_870 dL_law_604 (fun _ h => h) (fun _ h => h) (fun h => h) (c_X12_bestOrder (d := 67) (Nat.le_refl _) hPM hTM hw) rfl (Nat.le_of_ble_eq_true rfl) (by decide) (by omega) (by omega) (kI fun r2 s2 hw => ?_)
  refine g_icmp_eq (tgt := 1123) hC dL_law_607 rfl (fun c => ?_) (fun c => ?_)
  · exact hn _ hw.2
  · exact absurd hw.1 c
set_option maxRecDepth 4000 in
set_option maxHeartbeats 2000000 in
theorem law_15 {X : Cx} {b L : Nat} {xs : Nat → Int32} (hC : mOK X code R_law "law" ret 1400 600000 7302250) (hX : va_X b L xs X.2.1.1 X.2.1.1.heap) (hbl : b < X.2.1.1.heap.size) (hB : b < xB X) (hPG : ∀ e ∈ psG, e ∈ xP X) (hTG : ∀ e ∈ tsG, e ∈ xT X) (hPM : ∀ e ∈ psM, e ∈ xP X) (hTM : ∀ e ∈ tsM, e ∈ xT X) (hF : ∀ e ∈ xP X, e ∈ psA) {i : Int32} (h1 : vp_in (i + 1) L) (h2 : vp_in (i + 2) L) (h3 : vp_in (i + 3) L) (h4 : vp_in (i + 4) L) (h5 : vp_in (i + 5) L) {σ : Mem} {kc ks : Nat} (hkc : kc + 20 ≤ 600000) (hks : ks + 600 ≤ 7302250) {Rel : Mem → Prop} {Q : State → Prop} (hw : w_X11_came σ (xs (Int32.toNatClampNeg (i + 1))) (fun r1 s1 => w_X12_came s1 (xs (Int32.toNatClampNeg (i + 1))) (fun r2 s2 => r1 = r2 ∧ Rel s2))) (hn : ∀ s2, Rel s2 → mG X 1123 [(3, .int i), (2, .ref (xB X + 37)), (1, .ref (xB X + 0)), (0, .ref b)] [] s2 (kc + 0 + 0) (ks + 0 + 0) Q) : mG X 612 [(3, .int i), (2, .ref (xB X + 37)), (1, .ref (xB X + 0)), (0, .ref b)] [] σ kc ks Q := by
  refine g_aload_n hC dL_law_612 rfl ?_
  refine g_aload_n hC dL_law_613 rfl ?_
  refine g_iload_n hC dL_law_614 rfl ?_
  refine g_iconst (v := 1) hC dL_law_615 (by decide) ?_
  refine g_iadd hC dL_law_616 ?_
  refine g_sld hC hX hbl hB h1 dL_law_617 ?_
  refine g_known (fun hS => ?_)
  refine mG.st (st1 := ([.int (xs (Int32.toNatClampNeg (i + 1)))] : List Value).reverse ++ .ref (xB X + 0) :: []) rfl ?_
  refine g_callV (As := [.int (xs (Int32.toNatClampNeg (i + 1)))]) (st := []) hC (hS.2 _ (hTG _ tg_G_0)) (by decide) ycl_11_X11_came yw_X11_came yv_X11_came tw_874 dL_law_618 (fun _ h => h) (fun _ h => h) (fun h => h) (c_X11_came (d := 106) (Nat.le_refl _) hPG hTG hF hw) rfl (Nat.le_of_ble_eq_true rfl) (by decide) (by omega) (by omega) (kI fun r1 s1 hw => ?_)
  refine g_aload_n hC dL_law_621 rfl ?_
  refine g_aload_n hC dL_law_622 rfl ?_
  refine g_iload_n hC dL_law_623 rfl ?_
  refine g_iconst (v := 1) hC dL_law_624 (by decide) ?_
  refine g_iadd hC dL_law_625 ?_
  refine g_sld hC hX hbl hB h1 dL_law_626 ?_
  refine g_known (fun hS => ?_)
  refine mG.st (st1 := ([.int (xs (Int32.toNatClampNeg (i + 1)))] : List Value).reverse ++ .ref (xB X + 37) :: [.int r1]) rfl ?_
  refine g_callV (As := [.int (xs (Int32.toNatClampNeg (i + 1)))]) (st := [.int r1]) hC (hS.2 _ (hTM _ tg_M_37)) (by decide) ycl_12_X12_came yw_X12_came yv_X12_came tw_878 dL_law_627 (fun _ h => h) (fun _ h => h) (fun h => h) (c_X12_came (d := 67) (Nat.le_refl _) hPM hTM hw) rfl (Nat.le_of_ble_eq_true rfl) (by decide) (by omega) (by omega) (kI fun r2 s2 hw => ?_)
  refine g_icmp_eq (tgt := 1123) hC dL_law_630 rfl (fun c => ?_) (fun c => ?_)
  · exact hn _ hw.2
  · exact absurd hw.1 c
set_option maxRecDepth 4000 in
set_option maxHeartbeats 2000000 in
theorem law_16 {X : Cx} {b L : Nat} {xs : Nat → Int32} (hC : mOK X code R_law "law" ret 1400 600000 7302250) (hX : va_X b L xs X.2.1.1 X.2.1.1.heap) (hbl : b < X.2.1.1.heap.size) (hB : b < xB X) (hPG : ∀ e ∈ psG, e ∈ xP X) (hTG : ∀ e ∈ tsG, e ∈ xT X) (hPM : ∀ e ∈ psM, e ∈ xP X) (hTM : ∀ e ∈ tsM, e ∈ xT X) (hF : ∀ e ∈ xP X, e ∈ psA) {i : Int32} (h1 : vp_in (i + 1) L) (h2 : vp_in (i + 2) L) (h3 : vp_in (i + 3) L) (h4 : vp_in (i + 4) L) (h5 : vp_in (i + 5) L) {σ : Mem} {kc ks : Nat} (hkc : kc + 20 ≤ 600000) (hks : ks + 600 ≤ 7302250) {Rel : Mem → Prop} {Q : State → Prop} (hw : w_X11_less σ (xs (Int32.toNatClampNeg (i + 1))) (fun r1 s1 => w_X12_less s1 (xs (Int32.toNatClampNeg (i + 1))) (fun r2 s2 => r1 = r2 ∧ Rel s2))) (hn : ∀ s2, Rel s2 → mG X 1123 [(3, .int i), (2, .ref (xB X + 37)), (1, .ref (xB X + 0)), (0, .ref b)] [] s2 (kc + 0 + 0) (ks + 0 + 0) Q) : mG X 635 [(3, .int i), (2, .ref (xB X + 37)), (1, .ref (xB X + 0)), (0, .ref b)] [] σ kc ks Q := by
  refine g_aload_n hC dL_law_635 rfl ?_
  refine g_aload_n hC dL_law_636 rfl ?_
  refine g_iload_n hC dL_law_637 rfl ?_
  refine g_iconst (v := 1) hC dL_law_638 (by decide) ?_
  refine g_iadd hC dL_law_639 ?_
  refine g_sld hC hX hbl hB h1 dL_law_640 ?_
  refine g_known (fun hS => ?_)
  refine mG.st (st1 := ([.int (xs (Int32.toNatClampNeg (i + 1)))] : List Value).reverse ++ .ref (xB X + 0) :: []) rfl ?_
  refine g_callV (As := [.int (xs (Int32.toNatClampNeg (i + 1)))]) (st := []) hC (hS.2 _ (hTG _ tg_G_0)) (by decide) ycl_11_X11_less yw_X11_less yv_X11_less tw_882 dL_law_641 (fun _ h => h) (fun _ h => h) (fun h => h) (c_X11_less (d := 55) (Nat.le_refl _) hPG hTG hF hw) rfl (Nat.le_of_ble_eq_true rfl) (by decide) (by omega) (by omega) (kI fun r1 s1 hw => ?_)
  refine g_aload_n hC dL_law_644 rfl ?_
  refine g_aload_n hC dL_law_645 rfl ?_
  refine g_iload_n hC dL_law_646 rfl ?_
  refine g_iconst (v := 1) hC dL_law_647 (by decide) ?_
  refine g_iadd hC dL_law_648 ?_
  refine g_sld hC hX hbl hB h1 dL_law_649 ?_
  refine g_known (fun hS => ?_)
  refine mG.st (st1 := ([.int (xs (Int32.toNatClampNeg (i + 1)))] : List Value).reverse ++ .ref (xB X + 37) :: [.int r1]) rfl ?_
  refine g_callV (As := [.int (xs (Int32.toNatClampNeg (i + 1)))]) (st := [.int r1]) hC (hS.2 _ (hTM _ tg_M_37)) (by decide) ycl_12_X12_less yw_X12_less yv_X12_less tw_886 dL_law_650 (fun _ h => h) (fun _ h => h) (fun h => h) (c_X12_less (d := 41) (Nat.le_refl _) hPM hTM hw) rfl (Nat.le_of_ble_eq_true rfl) (by decide) (by omega) (by omega) (kI fun r2 s2 hw => ?_)
  refine g_icmp_eq (tgt := 1123) hC dL_law_653 rfl (fun c => ?_) (fun c => ?_)
  · exact hn _ hw.2
  · exact absurd hw.1 c
set_option maxRecDepth 4000 in
set_option maxHeartbeats 2000000 in
theorem law_17 {X : Cx} {b L : Nat} {xs : Nat → Int32} (hC : mOK X code R_law "law" ret 1400 600000 7302250) (hX : va_X b L xs X.2.1.1 X.2.1.1.heap) (hbl : b < X.2.1.1.heap.size) (hB : b < xB X) (hPG : ∀ e ∈ psG, e ∈ xP X) (hTG : ∀ e ∈ tsG, e ∈ xT X) (hPM : ∀ e ∈ psM, e ∈ xP X) (hTM : ∀ e ∈ tsM, e ∈ xT X) (hF : ∀ e ∈ xP X, e ∈ psA) {i : Int32} (h1 : vp_in (i + 1) L) (h2 : vp_in (i + 2) L) (h3 : vp_in (i + 3) L) (h4 : vp_in (i + 4) L) (h5 : vp_in (i + 5) L) {σ : Mem} {kc ks : Nat} (hkc : kc + 20 ≤ 600000) (hks : ks + 600 ≤ 7302250) {Rel : Mem → Prop} {Q : State → Prop} (hw : w_X11_rises σ (xs (Int32.toNatClampNeg (i + 1))) (fun r1 s1 => w_X12_rises s1 (xs (Int32.toNatClampNeg (i + 1))) (fun r2 s2 => r1 = r2 ∧ Rel s2))) (hn : ∀ s2, Rel s2 → mG X 1123 [(3, .int i), (2, .ref (xB X + 37)), (1, .ref (xB X + 0)), (0, .ref b)] [] s2 (kc + 0 + 0) (ks + 0 + 0) Q) : mG X 658 [(3, .int i), (2, .ref (xB X + 37)), (1, .ref (xB X + 0)), (0, .ref b)] [] σ kc ks Q := by
  refine g_aload_n hC dL_law_658 rfl ?_
  refine g_aload_n hC dL_law_659 rfl ?_
  refine g_iload_n hC dL_law_660 rfl ?_
  refine g_iconst (v := 1) hC dL_law_661 (by decide) ?_
  refine g_iadd hC dL_law_662 ?_
  refine g_sld hC hX hbl hB h1 dL_law_663 ?_
  refine g_known (fun hS => ?_)
  refine mG.st (st1 := ([.int (xs (Int32.toNatClampNeg (i + 1)))] : List Value).reverse ++ .ref (xB X + 0) :: []) rfl ?_
  refine g_callV (As := [.int (xs (Int32.toNatClampNeg (i + 1)))]) (st := []) hC (hS.2 _ (hTG _ tg_G_0)) (by decide) ycl_11_X11_rises yw_X11_rises yv_X11_rises tw_890 dL_law_664 (fun _ h => h) (fun _ h => h) (fun h => h) (c_X11_rises (d := 14) (Nat.le_refl _) hPG hTG hF hw) rfl (Nat.le_of_ble_eq_true rfl) (by decide) (by omega) (by omega) (kI fun r1 s1 hw => ?_)
  refine g_aload_n hC dL_law_667 rfl ?_
  refine g_aload_n hC dL_law_668 rfl ?_
  refine g_iload_n hC dL_law_669 rfl ?_
  refine g_iconst (v := 1) hC dL_law_670 (by decide) ?_
  refine g_iadd hC dL_law_671 ?_
  refine g_sld hC hX hbl hB h1 dL_law_672 ?_
  refine g_known (fun hS => ?_)
  refine mG.st (st1 := ([.int (xs (Int32.toNatClampNeg (i + 1)))] : List Value).reverse ++ .ref (xB X + 37) :: [.int r1]) rfl ?_
  refine g_callV (As := [.int (xs (Int32.toNatClampNeg (i + 1)))]) (st := [.int r1]) hC (hS.2 _ (hTM _ tg_M_37)) (by decide) ycl_12_X12_rises yw_X12_rises yv_X12_rises tw_894 dL_law_673 (fun _ h => h) (fun _ h => h) (fun h => h) (c_X12_rises (d := 1) (Nat.le_refl _) hPM hTM hw) rfl (Nat.le_of_ble_eq_true rfl) (by decide) (by omega) (by omega) (kI fun r2 s2 hw => ?_)
  refine g_icmp_eq (tgt := 1123) hC dL_law_676 rfl (fun c => ?_) (fun c => ?_)
  · exact hn _ hw.2
  · exact absurd hw.1 c
set_option maxRecDepth 4000 in
set_option maxHeartbeats 2000000 in
theorem law_18 {X : Cx} {b L : Nat} {xs : Nat → Int32} (hC : mOK X code R_law "law" ret 1400 600000 7302250) (hX : va_X b L xs X.2.1.1 X.2.1.1.heap) (hbl : b < X.2.1.1.heap.size) (hB : b < xB X) (hPG : ∀ e ∈ psG, e ∈ xP X) (hTG : ∀ e ∈ tsG, e ∈ xT X) (hPM : ∀ e ∈ psM, e ∈ xP X) (hTM : ∀ e ∈ tsM, e ∈ xT X) (hF : ∀ e ∈ xP X, e ∈ psA) {i : Int32} (h1 : vp_in (i + 1) L) (h2 : vp_in (i + 2) L) (h3 : vp_in (i + 3) L) (h4 : vp_in (i + 4) L) (h5 : vp_in (i + 5) L) {σ : Mem} {kc ks : Nat} (hkc : kc + 20 ≤ 600000) (hks : ks + 600 ≤ 7302250) {Rel : Mem → Prop} {Q : State → Prop} (hw : w_X11_judge σ (xs (Int32.toNatClampNeg (i + 1))) (fun r1 s1 => w_X12_judge s1 (xs (Int32.toNatClampNeg (i + 1))) (fun r2 s2 => r1 = r2 ∧ Rel s2))) (hn : ∀ s2, Rel s2 → mG X 1123 [(3, .int i), (2, .ref (xB X + 37)), (1, .ref (xB X + 0)), (0, .ref b)] [] s2 (kc + 0 + 0) (ks + 0 + 0) Q) : mG X 681 [(3, .int i), (2, .ref (xB X + 37)), (1, .ref (xB X + 0)), (0, .ref b)] [] σ kc ks Q := by
  refine g_aload_n hC dL_law_681 rfl ?_
  refine g_aload_n hC dL_law_682 rfl ?_
  refine g_iload_n hC dL_law_683 rfl ?_
  refine g_iconst (v := 1) hC dL_law_684 (by decide) ?_
  refine g_iadd hC dL_law_685 ?_
  refine g_sld hC hX hbl hB h1 dL_law_686 ?_
  refine g_known (fun hS => ?_)
  refine mG.st (st1 := ([.int (xs (Int32.toNatClampNeg (i + 1)))] : List Value).reverse ++ .ref (xB X + 0) :: []) rfl ?_
  refine g_callV (As := [.int (xs (Int32.toNatClampNeg (i + 1)))]) (st := []) hC (hS.2 _ (hTG _ tg_G_0)) (by decide) ycl_11_X11_judge yw_X11_judge yv_X11_judge tw_898 dL_law_687 (fun _ h => h) (fun _ h => h) (fun h => h) (c_X11_judge (d := 4) (Nat.le_refl _) hPG hTG hF hw) rfl (Nat.le_of_ble_eq_true rfl) (by decide) (by omega) (by omega) (kI fun r1 s1 hw => ?_)
  refine g_aload_n hC dL_law_690 rfl ?_
  refine g_aload_n hC dL_law_691 rfl ?_
  refine g_iload_n hC dL_law_692 rfl ?_
  refine g_iconst (v := 1) hC dL_law_693 (by decide) ?_
  refine g_iadd hC dL_law_694 ?_
  refine g_sld hC hX hbl hB h1 dL_law_695 ?_
  refine g_known (fun hS => ?_)
  refine mG.st (st1 := ([.int (xs (Int32.toNatClampNeg (i + 1)))] : List Value).reverse ++ .ref (xB X + 37) :: [.int r1]) rfl ?_
  refine g_callV (As := [.int (xs (Int32.toNatClampNeg (i + 1)))]) (st := [.int r1]) hC (hS.2 _ (hTM _ tg_M_37)) (by decide) ycl_12_X12_judge yw_X12_judge yv_X12_judge tw_902 dL_law_696 (fun _ h => h) (fun _ h => h) (fun h => h) (c_X12_judge (d := 3) (Nat.le_refl _) hPM hTM hw) rfl (Nat.le_of_ble_eq_true rfl) (by decide) (by omega) (by omega) (kI fun r2 s2 hw => ?_)
  refine g_icmp_eq (tgt := 1123) hC dL_law_699 rfl (fun c => ?_) (fun c => ?_)
  · exact hn _ hw.2
  · exact absurd hw.1 c
set_option maxRecDepth 4000 in
set_option maxHeartbeats 2000000 in
theorem law_19 {X : Cx} {b L : Nat} {xs : Nat → Int32} (hC : mOK X code R_law "law" ret 1400 600000 7302250) (hX : va_X b L xs X.2.1.1 X.2.1.1.heap) (hbl : b < X.2.1.1.heap.size) (hB : b < xB X) (hPG : ∀ e ∈ psG, e ∈ xP X) (hTG : ∀ e ∈ tsG, e ∈ xT X) (hPM : ∀ e ∈ psM, e ∈ xP X) (hTM : ∀ e ∈ tsM, e ∈ xT X) (hF : ∀ e ∈ xP X, e ∈ psA) {i : Int32} (h1 : vp_in (i + 1) L) (h2 : vp_in (i + 2) L) (h3 : vp_in (i + 3) L) (h4 : vp_in (i + 4) L) (h5 : vp_in (i + 5) L) {σ : Mem} {kc ks : Nat} (hkc : kc + 20 ≤ 600000) (hks : ks + 600 ≤ 7302250) {Rel : Mem → Prop} {Q : State → Prop} (hw : w_X11_stranger σ (xs (Int32.toNatClampNeg (i + 1))) (fun r1 s1 => w_X12_stranger s1 (xs (Int32.toNatClampNeg (i + 1))) (fun r2 s2 => r1 = r2 ∧ Rel s2))) (hn : ∀ s2, Rel s2 → mG X 1123 [(3, .int i), (2, .ref (xB X + 37)), (1, .ref (xB X + 0)), (0, .ref b)] [] s2 (kc + 0 + 0) (ks + 0 + 0) Q) : mG X 704 [(3, .int i), (2, .ref (xB X + 37)), (1, .ref (xB X + 0)), (0, .ref b)] [] σ kc ks Q := by
  refine g_aload_n hC dL_law_704 rfl ?_
  refine g_aload_n hC dL_law_705 rfl ?_
  refine g_iload_n hC dL_law_706 rfl ?_
  refine g_iconst (v := 1) hC dL_law_707 (by decide) ?_
  refine g_iadd hC dL_law_708 ?_
  refine g_sld hC hX hbl hB h1 dL_law_709 ?_
  refine g_known (fun hS => ?_)
  refine mG.st (st1 := ([.int (xs (Int32.toNatClampNeg (i + 1)))] : List Value).reverse ++ .ref (xB X + 0) :: []) rfl ?_
  refine g_callV (As := [.int (xs (Int32.toNatClampNeg (i + 1)))]) (st := []) hC (hS.2 _ (hTG _ tg_G_0)) (by decide) ycl_11_X11_stranger yw_X11_stranger yv_X11_stranger tw_906 dL_law_710 (fun _ h => h) (fun _ h => h) (fun h => h) (c_X11_stranger (d := 10) (Nat.le_refl _) hPG hTG hF hw) rfl (Nat.le_of_ble_eq_true rfl) (by decide) (by omega) (by omega) (kI fun r1 s1 hw => ?_)
  refine g_aload_n hC dL_law_713 rfl ?_
  refine g_aload_n hC dL_law_714 rfl ?_
  refine g_iload_n hC dL_law_715 rfl ?_
  refine g_iconst (v := 1) hC dL_law_716 (by decide) ?_
  refine g_iadd hC dL_law_717 ?_
  refine g_sld hC hX hbl hB h1 dL_law_718 ?_
  refine g_known (fun hS => ?_)
  refine mG.st (st1 := ([.int (xs (Int32.toNatClampNeg (i + 1)))] : List Value).reverse ++ .ref (xB X + 37) :: [.int r1]) rfl ?_
  refine g_callV (As := [.int (xs (Int32.toNatClampNeg (i + 1)))]) (st := [.int r1]) hC (hS.2 _ (hTM _ tg_M_37)) (by decide) ycl_12_X12_stranger yw_X12_stranger yv_X12_stranger tw_910 dL_law_719 (fun _ h => h) (fun _ h => h) (fun h => h) (c_X12_stranger (d := 5) (Nat.le_refl _) hPM hTM hw) rfl (Nat.le_of_ble_eq_true rfl) (by decide) (by omega) (by omega) (kI fun r2 s2 hw => ?_)
  refine g_icmp_eq (tgt := 1123) hC dL_law_722 rfl (fun c => ?_) (fun c => ?_)
  · exact hn _ hw.2
  · exact absurd hw.1 c
set_option maxRecDepth 4000 in
set_option maxHeartbeats 2000000 in
theorem law_20 {X : Cx} {b L : Nat} {xs : Nat → Int32} (hC : mOK X code R_law "law" ret 1400 600000 7302250) (hX : va_X b L xs X.2.1.1 X.2.1.1.heap) (hbl : b < X.2.1.1.heap.size) (hB : b < xB X) (hPG : ∀ e ∈ psG, e ∈ xP X) (hTG : ∀ e ∈ tsG, e ∈ xT X) (hPM : ∀ e ∈ psM, e ∈ xP X) (hTM : ∀ e ∈ tsM, e ∈ xT X) (hF : ∀ e ∈ xP X, e ∈ psA) {i : Int32} (h1 : vp_in (i + 1) L) (h2 : vp_in (i + 2) L) (h3 : vp_in (i + 3) L) (h4 : vp_in (i + 4) L) (h5 : vp_in (i + 5) L) {σ : Mem} {kc ks : Nat} (hkc : kc + 20 ≤ 600000) (hks : ks + 600 ≤ 7302250) {Rel : Mem → Prop} {Q : State → Prop} (hw : w_X11_lay σ (xs (Int32.toNatClampNeg (i + 1))) (fun r1 s1 => w_X12_lay s1 (xs (Int32.toNatClampNeg (i + 1))) (fun r2 s2 => r1 = r2 ∧ Rel s2))) (hn : ∀ s2, Rel s2 → mG X 1123 [(3, .int i), (2, .ref (xB X + 37)), (1, .ref (xB X + 0)), (0, .ref b)] [] s2 (kc + 0 + 0) (ks + 0 + 0) Q) : mG X 727 [(3, .int i), (2, .ref (xB X + 37)), (1, .ref (xB X + 0)), (0, .ref b)] [] σ kc ks Q := by
  refine g_aload_n hC dL_law_727 rfl ?_
  refine g_aload_n hC dL_law_728 rfl ?_
  refine g_iload_n hC dL_law_729 rfl ?_
  refine g_iconst (v := 1) hC dL_law_730 (by decide) ?_
  refine g_iadd hC dL_law_731 ?_
  refine g_sld hC hX hbl hB h1 dL_law_732 ?_
  refine g_known (fun hS => ?_)
  refine mG.st (st1 := ([.int (xs (Int32.toNatClampNeg (i + 1)))] : List Value).reverse ++ .ref (xB X + 0) :: []) rfl ?_
  refine g_callV (As := [.int (xs (Int32.toNatClampNeg (i + 1)))]) (st := []) hC (hS.2 _ (hTG _ tg_G_0)) (by decide) ycl_11_X11_lay yw_X11_lay yv_X11_lay tw_914 dL_law_733 (fun _ h => h) (fun _ h => h) (fun h => h) (c_X11_lay (d := 8) (Nat.le_refl _) hPG hTG hF hw) rfl (Nat.le_of_ble_eq_true rfl) (by decide) (by omega) (by omega) (kI fun r1 s1 hw => ?_)
  refine g_aload_n hC dL_law_736 rfl ?_
  refine g_aload_n hC dL_law_737 rfl ?_
  refine g_iload_n hC dL_law_738 rfl ?_
  refine g_iconst (v := 1) hC dL_law_739 (by decide) ?_
  refine g_iadd hC dL_law_740 ?_
  refine g_sld hC hX hbl hB h1 dL_law_741 ?_
  refine g_known (fun hS => ?_)
  refine mG.st (st1 := ([.int (xs (Int32.toNatClampNeg (i + 1)))] : List Value).reverse ++ .ref (xB X + 37) :: [.int r1]) rfl ?_
  refine g_callV (As := [.int (xs (Int32.toNatClampNeg (i + 1)))]) (st := [.int r1]) hC (hS.2 _ (hTM _ tg_M_37)) (by decide) ycl_12_X12_lay yw_X12_lay yv_X12_lay tw_918 dL_law_742 (fun _ h => h) (fun _ h => h) (fun h => h) (c_X12_lay (d := 4) (Nat.le_refl _) hPM hTM hw) rfl (Nat.le_of_ble_eq_true rfl) (by decide) (by omega) (by omega) (kI fun r2 s2 hw => ?_)
  refine g_icmp_eq (tgt := 1123) hC dL_law_745 rfl (fun c => ?_) (fun c => ?_)
  · exact hn _ hw.2
  · exact absurd hw.1 c
set_option maxRecDepth 4000 in
set_option maxHeartbeats 2000000 in
theorem law_21 {X : Cx} {b L : Nat} {xs : Nat → Int32} (hC : mOK X code R_law "law" ret 1400 600000 7302250) (hX : va_X b L xs X.2.1.1 X.2.1.1.heap) (hbl : b < X.2.1.1.heap.size) (hB : b < xB X) (hPG : ∀ e ∈ psG, e ∈ xP X) (hTG : ∀ e ∈ tsG, e ∈ xT X) (hPM : ∀ e ∈ psM, e ∈ xP X) (hTM : ∀ e ∈ tsM, e ∈ xT X) (hF : ∀ e ∈ xP X, e ∈ psA) {i : Int32} (h1 : vp_in (i + 1) L) (h2 : vp_in (i + 2) L) (h3 : vp_in (i + 3) L) (h4 : vp_in (i + 4) L) (h5 : vp_in (i + 5) L) {σ : Mem} {kc ks : Nat} (hkc : kc + 20 ≤ 600000) (hks : ks + 600 ≤ 7302250) {Rel : Mem → Prop} {Q : State → Prop} (hw : w_X11_take σ (xs (Int32.toNatClampNeg (i + 1))) (fun r1 s1 => w_X12_take s1 (xs (Int32.toNatClampNeg (i + 1))) (fun r2 s2 => r1 = r2 ∧ Rel s2))) (hn : ∀ s2, Rel s2 → mG X 1123 [(3, .int i), (2, .ref (xB X + 37)), (1, .ref (xB X + 0)), (0, .ref b)] [] s2 (kc + 0 + 0) (ks + 0 + 0) Q) : mG X 750 [(3, .int i), (2, .ref (xB X + 37)), (1, .ref (xB X + 0)), (0, .ref b)] [] σ kc ks Q := by
  refine g_aload_n hC dL_law_750 rfl ?_
  refine g_aload_n hC dL_law_751 rfl ?_
  refine g_iload_n hC dL_law_752 rfl ?_
  refine g_iconst (v := 1) hC dL_law_753 (by decide) ?_
  refine g_iadd hC dL_law_754 ?_
  refine g_sld hC hX hbl hB h1 dL_law_755 ?_
  refine g_known (fun hS => ?_)
  refine mG.st (st1 := ([.int (xs (Int32.toNatClampNeg (i + 1)))] : List Value).reverse ++ .ref (xB X + 0) :: []) rfl ?_
  refine g_callV (As := [.int (xs (Int32.toNatClampNeg (i + 1)))]) (st := []) hC (hS.2 _ (hTG _ tg_G_0)) (by decide) ycl_11_X11_take yw_X11_take yv_X11_take tw_922 dL_law_756 (fun _ h => h) (fun _ h => h) (fun h => h) (c_X11_take (d := 3) (Nat.le_refl _) hPG hTG hF hw) rfl (Nat.le_of_ble_eq_true rfl) (by decide) (by omega) (by omega) (kI fun r1 s1 hw => ?_)
  refine g_aload_n hC dL_law_759 rfl ?_
  refine g_aload_n hC dL_law_760 rfl ?_
  refine g_iload_n hC dL_law_761 rfl ?_
  refine g_iconst (v := 1) hC dL_law_762 (by decide) ?_
  refine g_iadd hC dL_law_763 ?_
  refine g_sld hC hX hbl hB h1 dL_law_764 ?_
  refine g_known (fun hS => ?_)
  refine mG.st (st1 := ([.int (xs (Int32.toNatClampNeg (i + 1)))] : List Value).reverse ++ .ref (xB X + 37) :: [.int r1]) rfl ?_
  refine g_callV (As := [.int (xs (Int32.toNatClampNeg (i + 1)))]) (st := [.int r1]) hC (hS.2 _ (hTM _ tg_M_37)) (by decide) ycl_12_X12_take yw_X12_take yv_X12_take tw_926 dL_law_765 (fun _ h => h) (fun _ h => h) (fun h => h) (c_X12_take (d := 1) (Nat.le_refl _) hPM hTM hw) rfl (Nat.le_of_ble_eq_true rfl) (by decide) (by omega) (by omega) (kI fun r2 s2 hw => ?_)
  refine g_icmp_eq (tgt := 1123) hC dL_law_768 rfl (fun c => ?_) (fun c => ?_)
  · exact hn _ hw.2
  · exact absurd hw.1 c
set_option maxRecDepth 4000 in
set_option maxHeartbeats 2000000 in
theorem law_22 {X : Cx} {b L : Nat} {xs : Nat → Int32} (hC : mOK X code R_law "law" ret 1400 600000 7302250) (hX : va_X b L xs X.2.1.1 X.2.1.1.heap) (hbl : b < X.2.1.1.heap.size) (hB : b < xB X) (hPG : ∀ e ∈ psG, e ∈ xP X) (hTG : ∀ e ∈ tsG, e ∈ xT X) (hPM : ∀ e ∈ psM, e ∈ xP X) (hTM : ∀ e ∈ tsM, e ∈ xT X) (hF : ∀ e ∈ xP X, e ∈ psA) {i : Int32} (h1 : vp_in (i + 1) L) (h2 : vp_in (i + 2) L) (h3 : vp_in (i + 3) L) (h4 : vp_in (i + 4) L) (h5 : vp_in (i + 5) L) {σ : Mem} {kc ks : Nat} (hkc : kc + 20 ≤ 600000) (hks : ks + 600 ≤ 7302250) {Rel : Mem → Prop} {Q : State → Prop} (hw : w_X11_on σ (xs (Int32.toNatClampNeg (i + 1))) (xs (Int32.toNatClampNeg (i + 2))) (fun r1 s1 => w_X12_on s1 (xs (Int32.toNatClampNeg (i + 1))) (xs (Int32.toNatClampNeg (i + 2))) (fun r2 s2 => r1 = r2 ∧ Rel s2))) (hn : ∀ s2, Rel s2 → mG X 1123 [(3, .int i), (2, .ref (xB X + 37)), (1, .ref (xB X + 0)), (0, .ref b)] [] s2 (kc + 0 + 0) (ks + 0 + 0) Q) : mG X 773 [(3, .int i), (2, .ref (xB X + 37)), (1, .ref (xB X + 0)), (0, .ref b)] [] σ kc ks Q := by
  refine g_aload_n hC dL_law_773 rfl ?_
  refine g_aload_n hC dL_law_774 rfl ?_
  refine g_iload_n hC dL_law_775 rfl ?_
  refine g_iconst (v := 1) hC dL_law_776 (by decide) ?_
  refine g_iadd hC dL_law_777 ?_
  refine g_sld hC hX hbl hB h1 dL_law_778 ?_
  refine g_aload_n hC dL_law_779 rfl ?_
  refine g_iload_n hC dL_law_780 rfl ?_
  refine g_iconst (v := 2) hC dL_law_781 (by decide) ?_
  refine g_iadd hC dL_law_782 ?_
  refine g_sld hC hX hbl hB h2 dL_law_783 ?_
  refine g_known (fun hS => ?_)
  refine mG.st (st1 := ([.int (xs (Int32.toNatClampNeg (i + 1))), .int (xs (Int32.toNatClampNeg (i + 2)))] : List Value).reverse ++ .ref (xB X + 0) :: []) rfl ?_
  refine g_callV (As := [.int (xs (Int32.toNatClampNeg (i + 1))), .int (xs (Int32.toNatClampNeg (i + 2)))]) (st := []) hC (hS.2 _ (hTG _ tg_G_0)) (by decide) ycl_11_X11_on yw_X11_on yv_X11_on tw_930 dL_law_784 (fun _ h => h) (fun _ h => h) (fun h => h) (c_X11_on (d := 2) (Nat.le_refl _) hPG hTG hF hw) rfl (Nat.le_of_ble_eq_true rfl) (by decide) (by omega) (by omega) (kI fun r1 s1 hw => ?_)
  refine g_aload_n hC dL_law_787 rfl ?_
  refine g_aload_n hC dL_law_788 rfl ?_
  refine g_iload_n hC dL_law_789 rfl ?_
  refine g_iconst (v := 1) hC dL_law_790 (by decide) ?_
  refine g_iadd hC dL_law_791 ?_
  refine g_sld hC hX hbl hB h1 dL_law_792 ?_
  refine g_aload_n hC dL_law_793 rfl ?_
  refine g_iload_n hC dL_law_794 rfl ?_
  refine g_iconst (v := 2) hC dL_law_795 (by decide) ?_
  refine g_iadd hC dL_law_796 ?_
  refine g_sld hC hX hbl hB h2 dL_law_797 ?_
  refine g_known (fun hS => ?_)
  refine mG.st (st1 := ([.int (xs (Int32.toNatClampNeg (i + 1))), .int (xs (Int32.toNatClampNeg (i + 2)))] : List Value).reverse ++ .ref (xB X + 37) :: [.int r1]) rfl ?_
  refine g_callV (As := [.int (xs (Int32.toNatClampNeg (i + 1))), .int (xs (Int32.toNatClampNeg (i + 2)))]) (st := [.int r1]) hC (hS.2 _ (hTM _ tg_M_37)) (by decide) ycl_12_X12_on yw_X12_on yv_X12_on tw_934 dL_law_798 (fun _ h => h) (fun _ h => h) (fun h => h) (c_X12_on (d := 1) (Nat.le_refl _) hPM hTM hw) rfl (Nat.le_of_ble_eq_true rfl) (by decide) (by omega) (by omega) (kI fun r2 s2 hw => ?_)
  refine g_icmp_eq (tgt := 1123) hC dL_law_801 rfl (fun c => ?_) (fun c => ?_)
  · exact hn _ hw.2
  · exact absurd hw.1 c
set_option maxRecDepth 4000 in
set_option maxHeartbeats 2000000 in
theorem law_23 {X : Cx} {b L : Nat} {xs : Nat → Int32} (hC : mOK X code R_law "law" ret 1400 600000 7302250) (hX : va_X b L xs X.2.1.1 X.2.1.1.heap) (hbl : b < X.2.1.1.heap.size) (hB : b < xB X) (hPG : ∀ e ∈ psG, e ∈ xP X) (hTG : ∀ e ∈ tsG, e ∈ xT X) (hPM : ∀ e ∈ psM, e ∈ xP X) (hTM : ∀ e ∈ tsM, e ∈ xT X) (hF : ∀ e ∈ xP X, e ∈ psA) {i : Int32} (h1 : vp_in (i + 1) L) (h2 : vp_in (i + 2) L) (h3 : vp_in (i + 3) L) (h4 : vp_in (i + 4) L) (h5 : vp_in (i + 5) L) {σ : Mem} {kc ks : Nat} (hkc : kc + 20 ≤ 600000) (hks : ks + 600 ≤ 7302250) {Rel : Mem → Prop} {Q : State → Prop} (hw : w_X11_drawn σ (xs (Int32.toNatClampNeg (i + 1))) (xs (Int32.toNatClampNeg (i + 2))) (fun r1 s1 => w_X12_drawn s1 (xs (Int32.toNatClampNeg (i + 1))) (xs (Int32.toNatClampNeg (i + 2))) (fun r2 s2 => r1 = r2 ∧ Rel s2))) (hn : ∀ s2, Rel s2 → mG X 1123 [(3, .int i), (2, .ref (xB X + 37)), (1, .ref (xB X + 0)), (0, .ref b)] [] s2 (kc + 0 + 0) (ks + 0 + 0) Q) : mG X 806 [(3, .int i), (2, .ref (xB X + 37)), (1, .ref (xB X + 0)), (0, .ref b)] [] σ kc ks Q := by
  refine g_aload_n hC dL_law_806 rfl ?_
  refine g_aload_n hC dL_law_807 rfl ?_
  refine g_iload_n hC dL_law_808 rfl ?_
  refine g_iconst (v := 1) hC dL_law_809 (by decide) ?_
  refine g_iadd hC dL_law_810 ?_
  refine g_sld hC hX hbl hB h1 dL_law_811 ?_
  refine g_aload_n hC dL_law_812 rfl ?_
  refine g_iload_n hC dL_law_813 rfl ?_
  refine g_iconst (v := 2) hC dL_law_814 (by decide) ?_
  refine g_iadd hC dL_law_815 ?_
  refine g_sld hC hX hbl hB h2 dL_law_816 ?_
  refine g_known (fun hS => ?_)
  refine mG.st (st1 := ([.int (xs (Int32.toNatClampNeg (i + 1))), .int (xs (Int32.toNatClampNeg (i + 2)))] : List Value).reverse ++ .ref (xB X + 0) :: []) rfl ?_
  refine g_callV (As := [.int (xs (Int32.toNatClampNeg (i + 1))), .int (xs (Int32.toNatClampNeg (i + 2)))]) (st := []) hC (hS.2 _ (hTG _ tg_G_0)) (by decide) ycl_11_X11_drawn yw_X11_drawn yv_X11_drawn tw_938 dL_law_817 (fun _ h => h) (fun _ h => h) (fun h => h) (c_X11_drawn (d := 9) (Nat.le_refl _) hPG hTG hF hw) rfl (Nat.le_of_ble_eq_true rfl) (by decide) (by omega) (by omega) (kI fun r1 s1 hw => ?_)
  refine g_aload_n hC dL_law_820 rfl ?_
  refine g_aload_n hC dL_law_821 rfl ?_
  refine g_iload_n hC dL_law_822 rfl ?_
  refine g_iconst (v := 1) hC dL_law_823 (by decide) ?_
  refine g_iadd hC dL_law_824 ?_
  refine g_sld hC hX hbl hB h1 dL_law_825 ?_
  refine g_aload_n hC dL_law_826 rfl ?_
  refine g_iload_n hC dL_law_827 rfl ?_
  refine g_iconst (v := 2) hC dL_law_828 (by decide) ?_
  refine g_iadd hC dL_law_829 ?_
  refine g_sld hC hX hbl hB h2 dL_law_830 ?_
  refine g_known (fun hS => ?_)
  refine mG.st (st1 := ([.int (xs (Int32.toNatClampNeg (i + 1))), .int (xs (Int32.toNatClampNeg (i + 2)))] : List Value).reverse ++ .ref (xB X + 37) :: [.int r1]) rfl ?_
  refine g_callV (As := [.int (xs (Int32.toNatClampNeg (i + 1))), .int (xs (Int32.toNatClampNeg (i + 2)))]) (st := [.int r1]) hC (hS.2 _ (hTM _ tg_M_37)) (by decide) ycl_12_X12_drawn yw_X12_drawn yv_X12_drawn tw_942 dL_law_831 (fun _ h => h) (fun _ h => h) (fun h => h) (c_X12_drawn (d := 5) (Nat.le_refl _) hPM hTM hw) rfl (Nat.le_of_ble_eq_true rfl) (by decide) (by omega) (by omega) (kI fun r2 s2 hw => ?_)
  refine g_icmp_eq (tgt := 1123) hC dL_law_834 rfl (fun c => ?_) (fun c => ?_)
  · exact hn _ hw.2
  · exact absurd hw.1 c
set_option maxRecDepth 4000 in
set_option maxHeartbeats 2000000 in
theorem law_24 {X : Cx} {b L : Nat} {xs : Nat → Int32} (hC : mOK X code R_law "law" ret 1400 600000 7302250) (hX : va_X b L xs X.2.1.1 X.2.1.1.heap) (hbl : b < X.2.1.1.heap.size) (hB : b < xB X) (hPG : ∀ e ∈ psG, e ∈ xP X) (hTG : ∀ e ∈ tsG, e ∈ xT X) (hPM : ∀ e ∈ psM, e ∈ xP X) (hTM : ∀ e ∈ tsM, e ∈ xT X) (hF : ∀ e ∈ xP X, e ∈ psA) {i : Int32} (h1 : vp_in (i + 1) L) (h2 : vp_in (i + 2) L) (h3 : vp_in (i + 3) L) (h4 : vp_in (i + 4) L) (h5 : vp_in (i + 5) L) {σ : Mem} {kc ks : Nat} (hkc : kc + 20 ≤ 600000) (hks : ks + 600 ≤ 7302250) {Rel : Mem → Prop} {Q : State → Prop} (hw : w_X11_image σ (fun r1 s1 => w_X12_image s1 (fun r2 s2 => r1 = r2 ∧ Rel s2))) (hn : ∀ s2, Rel s2 → mG X 1123 [(3, .int i), (2, .ref (xB X + 37)), (1, .ref (xB X + 0)), (0, .ref b)] [] s2 (kc + 6 + 0) (ks + 97 + 0) Q) : mG X 839 [(3, .int i), (2, .ref (xB X + 37)), (1, .ref (xB X + 0)), (0, .ref b)] [] σ kc ks Q := by
  refine g_aload_n hC dL_law_839 rfl ?_
  refine g_known (fun hS => ?_)
  refine mG.st (st1 := ([] : List Value).reverse ++ .ref (xB X + 0) :: []) rfl ?_
  refine g_callV (As := []) (st := []) hC (hS.2 _ (hTG _ tg_G_0)) (by decide) ycl_11_X11_image yw_X11_image yv_X11_image tw_946 dL_law_840 (fun _ h => h) (fun _ h => h) (fun h => h) (c_X11_image (d := 3) (Nat.le_refl _) hPG hTG hF hw) rfl (Nat.le_of_ble_eq_true rfl) (by decide) (by omega) (by omega) (kI fun r1 s1 hw => ?_)
  refine g_aload_n hC dL_law_843 rfl ?_
  refine g_known (fun hS => ?_)
  refine mG.st (st1 := ([] : List Value).reverse ++ .ref (xB X + 37) :: [.int r1]) rfl ?_
  refine g_callV (As := []) (st := [.int r1]) hC (hS.2 _ (hTM _ tg_M_37)) (by decide) ycl_12_X12_image yw_X12_image yv_X12_image tw_950 dL_law_844 (fun _ h => h) (fun _ h => h) (fun h => h) (c_X12_image (d := 1) (Nat.le_refl _) hPM hTM hw) rfl (Nat.le_of_ble_eq_true rfl) (by decide) (by omega) (by omega) (kI fun r2 s2 hw => ?_)
  refine g_icmp_eq (tgt := 1123) hC dL_law_847 rfl (fun c => ?_) (fun c => ?_)
  · exact hn _ hw.2
  · exact absurd hw.1 c
set_option maxRecDepth 4000 in
set_option maxHeartbeats 2000000 in
theorem law_25 {X : Cx} {b L : Nat} {xs : Nat → Int32} (hC : mOK X code R_law "law" ret 1400 600000 7302250) (hX : va_X b L xs X.2.1.1 X.2.1.1.heap) (hbl : b < X.2.1.1.heap.size) (hB : b < xB X) (hPG : ∀ e ∈ psG, e ∈ xP X) (hTG : ∀ e ∈ tsG, e ∈ xT X) (hPM : ∀ e ∈ psM, e ∈ xP X) (hTM : ∀ e ∈ tsM, e ∈ xT X) (hF : ∀ e ∈ xP X, e ∈ psA) {i : Int32} (h1 : vp_in (i + 1) L) (h2 : vp_in (i + 2) L) (h3 : vp_in (i + 3) L) (h4 : vp_in (i + 4) L) (h5 : vp_in (i + 5) L) {σ : Mem} {kc ks : Nat} (hkc : kc + 20 ≤ 600000) (hks : ks + 600 ≤ 7302250) {Rel : Mem → Prop} {Q : State → Prop} (hw : w_X11_back σ (fun r1 s1 => w_X12_back s1 (fun r2 s2 => r1 = r2 ∧ Rel s2))) (hn : ∀ s2, Rel s2 → mG X 1123 [(3, .int i), (2, .ref (xB X + 37)), (1, .ref (xB X + 0)), (0, .ref b)] [] s2 (kc + 0 + 0) (ks + 0 + 0) Q) : mG X 852 [(3, .int i), (2, .ref (xB X + 37)), (1, .ref (xB X + 0)), (0, .ref b)] [] σ kc ks Q := by
  refine g_aload_n hC dL_law_852 rfl ?_
  refine g_known (fun hS => ?_)
  refine mG.st (st1 := ([] : List Value).reverse ++ .ref (xB X + 0) :: []) rfl ?_
  refine g_callV (As := []) (st := []) hC (hS.2 _ (hTG _ tg_G_0)) (by decide) ycl_11_X11_back yw_X11_back yv_X11_back tw_954 dL_law_853 (fun _ h => h) (fun _ h => h) (fun h => h) (c_X11_back (d := 3) (Nat.le_refl _) hPG hTG hF hw) rfl (Nat.le_of_ble_eq_true rfl) (by decide) (by omega) (by omega) (kI fun r1 s1 hw => ?_)
  refine g_aload_n hC dL_law_856 rfl ?_
  refine g_known (fun hS => ?_)
  refine mG.st (st1 := ([] : List Value).reverse ++ .ref (xB X + 37) :: [.int r1]) rfl ?_
  refine g_callV (As := []) (st := [.int r1]) hC (hS.2 _ (hTM _ tg_M_37)) (by decide) ycl_12_X12_back yw_X12_back yv_X12_back tw_958 dL_law_857 (fun _ h => h) (fun _ h => h) (fun h => h) (c_X12_back (d := 1) (Nat.le_refl _) hPM hTM hw) rfl (Nat.le_of_ble_eq_true rfl) (by decide) (by omega) (by omega) (kI fun r2 s2 hw => ?_)
  refine g_icmp_eq (tgt := 1123) hC dL_law_860 rfl (fun c => ?_) (fun c => ?_)
  · exact hn _ hw.2
  · exact absurd hw.1 c
set_option maxRecDepth 4000 in
set_option maxHeartbeats 2000000 in
theorem law_26 {X : Cx} {b L : Nat} {xs : Nat → Int32} (hC : mOK X code R_law "law" ret 1400 600000 7302250) (hX : va_X b L xs X.2.1.1 X.2.1.1.heap) (hbl : b < X.2.1.1.heap.size) (hB : b < xB X) (hPG : ∀ e ∈ psG, e ∈ xP X) (hTG : ∀ e ∈ tsG, e ∈ xT X) (hPM : ∀ e ∈ psM, e ∈ xP X) (hTM : ∀ e ∈ tsM, e ∈ xT X) (hF : ∀ e ∈ xP X, e ∈ psA) {i : Int32} (h1 : vp_in (i + 1) L) (h2 : vp_in (i + 2) L) (h3 : vp_in (i + 3) L) (h4 : vp_in (i + 4) L) (h5 : vp_in (i + 5) L) {σ : Mem} {kc ks : Nat} (hkc : kc + 20 ≤ 600000) (hks : ks + 600 ≤ 7302250) {Rel : Mem → Prop} {Q : State → Prop} (hw : w_X11_count σ (xs (Int32.toNatClampNeg (i + 1))) (fun r1 s1 => w_X12_count s1 (xs (Int32.toNatClampNeg (i + 1))) (fun r2 s2 => r1 = r2 ∧ Rel s2))) (hn : ∀ s2, Rel s2 → mG X 1123 [(3, .int i), (2, .ref (xB X + 37)), (1, .ref (xB X + 0)), (0, .ref b)] [] s2 (kc + 0 + 0) (ks + 0 + 0) Q) : mG X 865 [(3, .int i), (2, .ref (xB X + 37)), (1, .ref (xB X + 0)), (0, .ref b)] [] σ kc ks Q := by
  refine g_aload_n hC dL_law_865 rfl ?_
  refine g_aload_n hC dL_law_866 rfl ?_
  refine g_iload_n hC dL_law_867 rfl ?_
  refine g_iconst (v := 1) hC dL_law_868 (by decide) ?_
  refine g_iadd hC dL_law_869 ?_
  refine g_sld hC hX hbl hB h1 dL_law_870 ?_
  refine g_known (fun hS => ?_)
  refine mG.st (st1 := ([.int (xs (Int32.toNatClampNeg (i + 1)))] : List Value).reverse ++ .ref (xB X + 0) :: []) rfl ?_
  refine g_callV (As := [.int (xs (Int32.toNatClampNeg (i + 1)))]) (st := []) hC (hS.2 _ (hTG _ tg_G_0)) (by decide) ycl_11_X11_count yw_X11_count yv_X11_count tw_962 dL_law_871 (fun _ h => h) (fun _ h => h) (fun h => h) (c_X11_count (d := 0) (Nat.le_refl _) hPG hTG hF hw) rfl (Nat.le_of_ble_eq_true rfl) (by decide) (by omega) (by omega) (kI fun r1 s1 hw => ?_)
  refine g_aload_n hC dL_law_874 rfl ?_
  refine g_aload_n hC dL_law_875 rfl ?_
  refine g_iload_n hC dL_law_876 rfl ?_
  refine g_iconst (v := 1) hC dL_law_877 (by decide) ?_
  refine g_iadd hC dL_law_878 ?_
  refine g_sld hC hX hbl hB h1 dL_law_879 ?_
  refine g_known (fun hS => ?_)
  refine mG.st (st1 := ([.int (xs (Int32.toNatClampNeg (i + 1)))] : List Value).reverse ++ .ref (xB X + 37) :: [.int r1]) rfl ?_
  refine g_callV (As := [.int (xs (Int32.toNatClampNeg (i + 1)))]) (st := [.int r1]) hC (hS.2 _ (hTM _ tg_M_37)) (by decide) ycl_12_X12_count yw_X12_count yv_X12_count tw_966 dL_law_880 (fun _ h => h) (fun _ h => h) (fun h => h) (c_X12_count (d := 0) (Nat.le_refl _) hPM hTM hw) rfl (Nat.le_of_ble_eq_true rfl) (by decide) (by omega) (by omega) (kI fun r2 s2 hw => ?_)
  refine g_icmp_eq (tgt := 1123) hC dL_law_883 rfl (fun c => ?_) (fun c => ?_)
  · exact hn _ hw.2
  · exact absurd hw.1 c
set_option maxRecDepth 4000 in
set_option maxHeartbeats 2000000 in
theorem law_27 {X : Cx} {b L : Nat} {xs : Nat → Int32} (hC : mOK X code R_law "law" ret 1400 600000 7302250) (hX : va_X b L xs X.2.1.1 X.2.1.1.heap) (hbl : b < X.2.1.1.heap.size) (hB : b < xB X) (hPG : ∀ e ∈ psG, e ∈ xP X) (hTG : ∀ e ∈ tsG, e ∈ xT X) (hPM : ∀ e ∈ psM, e ∈ xP X) (hTM : ∀ e ∈ tsM, e ∈ xT X) (hF : ∀ e ∈ xP X, e ∈ psA) {i : Int32} (h1 : vp_in (i + 1) L) (h2 : vp_in (i + 2) L) (h3 : vp_in (i + 3) L) (h4 : vp_in (i + 4) L) (h5 : vp_in (i + 5) L) {σ : Mem} {kc ks : Nat} (hkc : kc + 20 ≤ 600000) (hks : ks + 600 ≤ 7302250) {Rel : Mem → Prop} {Q : State → Prop} (hw : w_X11_sheet σ (xs (Int32.toNatClampNeg (i + 1))) (xs (Int32.toNatClampNeg (i + 2))) (xs (Int32.toNatClampNeg (i + 3))) (fun r1 s1 => w_X12_sheet s1 (xs (Int32.toNatClampNeg (i + 1))) (xs (Int32.toNatClampNeg (i + 2))) (xs (Int32.toNatClampNeg (i + 3))) (fun r2 s2 => r1 = r2 ∧ Rel s2))) (hn : ∀ s2, Rel s2 → mG X 1123 [(3, .int i), (2, .ref (xB X + 37)), (1, .ref (xB X + 0)), (0, .ref b)] [] s2 (kc + 0 + 0) (ks + 0 + 0) Q) : mG X 888 [(3, .int i), (2, .ref (xB X + 37)), (1, .ref (xB X + 0)), (0, .ref b)] [] σ kc ks Q := by
  refine g_aload_n hC dL_law_888 rfl ?_
  refine g_aload_n hC dL_law_889 rfl ?_
  refine g_iload_n hC dL_law_890 rfl ?_
  refine g_iconst (v := 1) hC dL_law_891 (by decide) ?_
  refine g_iadd hC dL_law_892 ?_
  refine g_sld hC hX hbl hB h1 dL_law_893 ?_
  refine g_aload_n hC dL_law_894 rfl ?_
  refine g_iload_n hC dL_law_895 rfl ?_
  refine g_iconst (v := 2) hC dL_law_896 (by decide) ?_
  refine g_iadd hC dL_law_897 ?_
  refine g_sld hC hX hbl hB h2 dL_law_898 ?_
  refine g_aload_n hC dL_law_899 rfl ?_
  refine g_iload_n hC dL_law_900 rfl ?_
  refine g_iconst (v := 3) hC dL_law_901 (by decide) ?_
  refine g_iadd hC dL_law_902 ?_
  refine g_sld hC hX hbl hB h3 dL_law_903 ?_
  refine g_known (fun hS => ?_)
  refine mG.st (st1 := ([.int (xs (Int32.toNatClampNeg (i + 1))), .int (xs (Int32.toNatClampNeg (i + 2))), .int (xs (Int32.toNatClampNeg (i + 3)))] : List Value).reverse ++ .ref (xB X + 0) :: []) rfl ?_
  refine g_callV (As := [.int (xs (Int32.toNatClampNeg (i + 1))), .int (xs (Int32.toNatClampNeg (i + 2))), .int (xs (Int32.toNatClampNeg (i + 3)))]) (st := []) hC (hS.2 _ (hTG _ tg_G_0)) (by decide) ycl_11_X11_sheet yw_X11_sheet yv_X11_sheet tw_970 dL_law_904 (fun _ h => h) (fun _ h => h) (fun h => h) (c_X11_sheet (d := 2) (Nat.le_refl _) hPG hTG hF hw) rfl (Nat.le_of_ble_eq_true rfl) (by decide) (by omega) (by omega) (kI fun r1 s1 hw => ?_)
  refine g_aload_n hC dL_law_907 rfl ?_
  refine g_aload_n hC dL_law_908 rfl ?_
  refine g_iload_n hC dL_law_909 rfl ?_
  refine g_iconst (v := 1) hC dL_law_910 (by decide) ?_
  refine g_iadd hC dL_law_911 ?_
  refine g_sld hC hX hbl hB h1 dL_law_912 ?_
  refine g_aload_n hC dL_law_913 rfl ?_
  refine g_iload_n hC dL_law_914 rfl ?_
  refine g_iconst (v := 2) hC dL_law_915 (by decide) ?_
  refine g_iadd hC dL_law_916 ?_
  refine g_sld hC hX hbl hB h2 dL_law_917 ?_
  refine g_aload_n hC dL_law_918 rfl ?_
  refine g_iload_n hC dL_law_919 rfl ?_
  refine g_iconst (v := 3) hC dL_law_920 (by decide) ?_
  refine g_iadd hC dL_law_921 ?_
  refine g_sld hC hX hbl hB h3 dL_law_922 ?_
  refine g_known (fun hS => ?_)
  refine mG.st (st1 := ([.int (xs (Int32.toNatClampNeg (i + 1))), .int (xs (Int32.toNatClampNeg (i + 2))), .int (xs (Int32.toNatClampNeg (i + 3)))] : List Value).reverse ++ .ref (xB X + 37) :: [.int r1]) rfl ?_
  refine g_callV (As := [.int (xs (Int32.toNatClampNeg (i + 1))), .int (xs (Int32.toNatClampNeg (i + 2))), .int (xs (Int32.toNatClampNeg (i + 3)))]) (st := [.int r1]) hC (hS.2 _ (hTM _ tg_M_37)) (by decide) ycl_12_X12_sheet yw_X12_sheet yv_X12_sheet tw_974 dL_law_923 (fun _ h => h) (fun _ h => h) (fun h => h) (c_X12_sheet (d := 2) (Nat.le_refl _) hPM hTM hw) rfl (Nat.le_of_ble_eq_true rfl) (by decide) (by omega) (by omega) (kI fun r2 s2 hw => ?_)
  refine g_icmp_eq (tgt := 1123) hC dL_law_926 rfl (fun c => ?_) (fun c => ?_)
  · exact hn _ hw.2
  · exact absurd hw.1 c
set_option maxRecDepth 4000 in
set_option maxHeartbeats 2000000 in
theorem law_28 {X : Cx} {b L : Nat} {xs : Nat → Int32} (hC : mOK X code R_law "law" ret 1400 600000 7302250) (hX : va_X b L xs X.2.1.1 X.2.1.1.heap) (hbl : b < X.2.1.1.heap.size) (hB : b < xB X) (hPG : ∀ e ∈ psG, e ∈ xP X) (hTG : ∀ e ∈ tsG, e ∈ xT X) (hPM : ∀ e ∈ psM, e ∈ xP X) (hTM : ∀ e ∈ tsM, e ∈ xT X) (hF : ∀ e ∈ xP X, e ∈ psA) {i : Int32} (h1 : vp_in (i + 1) L) (h2 : vp_in (i + 2) L) (h3 : vp_in (i + 3) L) (h4 : vp_in (i + 4) L) (h5 : vp_in (i + 5) L) {σ : Mem} {kc ks : Nat} (hkc : kc + 20 ≤ 600000) (hks : ks + 600 ≤ 7302250) {Rel : Mem → Prop} {Q : State → Prop} (hw : w_X11_cell σ (xs (Int32.toNatClampNeg (i + 1))) (xs (Int32.toNatClampNeg (i + 2))) (xs (Int32.toNatClampNeg (i + 3))) (fun r1 s1 => w_X12_cell s1 (xs (Int32.toNatClampNeg (i + 1))) (xs (Int32.toNatClampNeg (i + 2))) (xs (Int32.toNatClampNeg (i + 3))) (fun r2 s2 => r1 = r2 ∧ Rel s2))) (hn : ∀ s2, Rel s2 → mG X 1123 [(3, .int i), (2, .ref (xB X + 37)), (1, .ref (xB X + 0)), (0, .ref b)] [] s2 (kc + 0 + 0) (ks + 0 + 0) Q) : mG X 931 [(3, .int i), (2, .ref (xB X + 37)), (1, .ref (xB X + 0)), (0, .ref b)] [] σ kc ks Q := by
  refine g_aload_n hC dL_law_931 rfl ?_
  refine g_aload_n hC dL_law_932 rfl ?_
  refine g_iload_n hC dL_law_933 rfl ?_
  refine g_iconst (v := 1) hC dL_law_934 (by decide) ?_
  refine g_iadd hC dL_law_935 ?_
  refine g_sld hC hX hbl hB h1 dL_law_936 ?_
  refine g_aload_n hC dL_law_937 rfl ?_
  refine g_iload_n hC dL_law_938 rfl ?_
  refine g_iconst (v := 2) hC dL_law_939 (by decide) ?_
  refine g_iadd hC dL_law_940 ?_
  refine g_sld hC hX hbl hB h2 dL_law_941 ?_
  refine g_aload_n hC dL_law_942 rfl ?_
  refine g_iload_n hC dL_law_943 rfl ?_
  refine g_iconst (v := 3) hC dL_law_944 (by decide) ?_
  refine g_iadd hC dL_law_945 ?_
  refine g_sld hC hX hbl hB h3 dL_law_946 ?_
  refine g_known (fun hS => ?_)
  refine mG.st (st1 := ([.int (xs (Int32.toNatClampNeg (i + 1))), .int (xs (Int32.toNatClampNeg (i + 2))), .int (xs (Int32.toNatClampNeg (i + 3)))] : List Value).reverse ++ .ref (xB X + 0) :: []) rfl ?_
  refine g_callV (As := [.int (xs (Int32.toNatClampNeg (i + 1))), .int (xs (Int32.toNatClampNeg (i + 2))), .int (xs (Int32.toNatClampNeg (i + 3)))]) (st := []) hC (hS.2 _ (hTG _ tg_G_0)) (by decide) ycl_11_X11_cell yw_X11_cell yv_X11_cell tw_978 dL_law_947 (fun _ h => h) (fun _ h => h) (fun h => h) (c_X11_cell (d := 2) (Nat.le_refl _) hPG hTG hF hw) rfl (Nat.le_of_ble_eq_true rfl) (by decide) (by omega) (by omega) (kI fun r1 s1 hw => ?_)
  refine g_aload_n hC dL_law_950 rfl ?_
  refine g_aload_n hC dL_law_951 rfl ?_
  refine g_iload_n hC dL_law_952 rfl ?_
  refine g_iconst (v := 1) hC dL_law_953 (by decide) ?_
  refine g_iadd hC dL_law_954 ?_
  refine g_sld hC hX hbl hB h1 dL_law_955 ?_
  refine g_aload_n hC dL_law_956 rfl ?_
  refine g_iload_n hC dL_law_957 rfl ?_
  refine g_iconst (v := 2) hC dL_law_958 (by decide) ?_
  refine g_iadd hC dL_law_959 ?_
  refine g_sld hC hX hbl hB h2 dL_law_960 ?_
  refine g_aload_n hC dL_law_961 rfl ?_
  refine g_iload_n hC dL_law_962 rfl ?_
  refine g_iconst (v := 3) hC dL_law_963 (by decide) ?_
  refine g_iadd hC dL_law_964 ?_
  refine g_sld hC hX hbl hB h3 dL_law_965 ?_
  refine g_known (fun hS => ?_)
  refine mG.st (st1 := ([.int (xs (Int32.toNatClampNeg (i + 1))), .int (xs (Int32.toNatClampNeg (i + 2))), .int (xs (Int32.toNatClampNeg (i + 3)))] : List Value).reverse ++ .ref (xB X + 37) :: [.int r1]) rfl ?_
  refine g_callV (As := [.int (xs (Int32.toNatClampNeg (i + 1))), .int (xs (Int32.toNatClampNeg (i + 2))), .int (xs (Int32.toNatClampNeg (i + 3)))]) (st := [.int r1]) hC (hS.2 _ (hTM _ tg_M_37)) (by decide) ycl_12_X12_cell yw_X12_cell yv_X12_cell tw_982 dL_law_966 (fun _ h => h) (fun _ h => h) (fun h => h) (c_X12_cell (d := 2) (Nat.le_refl _) hPM hTM hw) rfl (Nat.le_of_ble_eq_true rfl) (by decide) (by omega) (by omega) (kI fun r2 s2 hw => ?_)
  refine g_icmp_eq (tgt := 1123) hC dL_law_969 rfl (fun c => ?_) (fun c => ?_)
  · exact hn _ hw.2
  · exact absurd hw.1 c
set_option maxRecDepth 4000 in
set_option maxHeartbeats 2000000 in
theorem law_29 {X : Cx} {b L : Nat} {xs : Nat → Int32} (hC : mOK X code R_law "law" ret 1400 600000 7302250) (hX : va_X b L xs X.2.1.1 X.2.1.1.heap) (hbl : b < X.2.1.1.heap.size) (hB : b < xB X) (hPG : ∀ e ∈ psG, e ∈ xP X) (hTG : ∀ e ∈ tsG, e ∈ xT X) (hPM : ∀ e ∈ psM, e ∈ xP X) (hTM : ∀ e ∈ tsM, e ∈ xT X) (hF : ∀ e ∈ xP X, e ∈ psA) {i : Int32} (h1 : vp_in (i + 1) L) (h2 : vp_in (i + 2) L) (h3 : vp_in (i + 3) L) (h4 : vp_in (i + 4) L) (h5 : vp_in (i + 5) L) {σ : Mem} {kc ks : Nat} (hkc : kc + 20 ≤ 600000) (hks : ks + 600 ≤ 7302250) {Rel : Mem → Prop} {Q : State → Prop} (hw : w_X11_copy σ (xs (Int32.toNatClampNeg (i + 1))) (xs (Int32.toNatClampNeg (i + 2))) (xs (Int32.toNatClampNeg (i + 3))) (xs (Int32.toNatClampNeg (i + 4))) (xs (Int32.toNatClampNeg (i + 5))) (fun r1 s1 => w_X12_copy s1 (xs (Int32.toNatClampNeg (i + 1))) (xs (Int32.toNatClampNeg (i + 2))) (xs (Int32.toNatClampNeg (i + 3))) (xs (Int32.toNatClampNeg (i + 4))) (xs (Int32.toNatClampNeg (i + 5))) (fun r2 s2 => r1 = r2 ∧ Rel s2))) (hn : ∀ s2, Rel s2 → mG X 1123 [(3, .int i), (2, .ref (xB X + 37)), (1, .ref (xB X + 0)), (0, .ref b)] [] s2 (kc + 0 + 0) (ks + 0 + 0) Q) : mG X 974 [(3, .int i), (2, .ref (xB X + 37)), (1, .ref (xB X + 0)), (0, .ref b)] [] σ kc ks Q := by
  refine g_aload_n hC dL_law_974 rfl ?_
  refine g_aload_n hC dL_law_975 rfl ?_
  refine g_iload_n hC dL_law_976 rfl ?_
  refine g_iconst (v := 1) hC dL_law_977 (by decide) ?_
  refine g_iadd hC dL_law_978 ?_
  refine g_sld hC hX hbl hB h1 dL_law_979 ?_
  refine g_aload_n hC dL_law_980 rfl ?_
  refine g_iload_n hC dL_law_981 rfl ?_
  refine g_iconst (v := 2) hC dL_law_982 (by decide) ?_
  refine g_iadd hC dL_law_983 ?_
  refine g_sld hC hX hbl hB h2 dL_law_984 ?_
  refine g_aload_n hC dL_law_985 rfl ?_
  refine g_iload_n hC dL_law_986 rfl ?_
  refine g_iconst (v := 3) hC dL_law_987 (by decide) ?_
  refine g_iadd hC dL_law_988 ?_
  refine g_sld hC hX hbl hB h3 dL_law_989 ?_
  refine g_aload_n hC dL_law_990 rfl ?_
  refine g_iload_n hC dL_law_991 rfl ?_
  refine g_iconst (v := 4) hC dL_law_992 (by decide) ?_
  refine g_iadd hC dL_law_993 ?_
  refine g_sld hC hX hbl hB h4 dL_law_994 ?_
  refine g_aload_n hC dL_law_995 rfl ?_
  refine g_iload_n hC dL_law_996 rfl ?_
  refine g_iconst (v := 5) hC dL_law_997 (by decide) ?_
  refine g_iadd hC dL_law_998 ?_
  refine g_sld hC hX hbl hB h5 dL_law_999 ?_
  refine g_known (fun hS => ?_)
  refine mG.st (st1 := ([.int (xs (Int32.toNatClampNeg (i + 1))), .int (xs (Int32.toNatClampNeg (i + 2))), .int (xs (Int32.toNatClampNeg (i + 3))), .int (xs (Int32.toNatClampNeg (i + 4))), .int (xs (Int32.toNatClampNeg (i + 5)))] : List Value).reverse ++ .ref (xB X + 0) :: []) rfl ?_
  refine g_callV (As := [.int (xs (Int32.toNatClampNeg (i + 1))), .int (xs (Int32.toNatClampNeg (i + 2))), .int (xs (Int32.toNatClampNeg (i + 3))), .int (xs (Int32.toNatClampNeg (i + 4))), .int (xs (Int32.toNatClampNeg (i + 5)))]) (st := []) hC (hS.2 _ (hTG _ tg_G_0)) (by decide) ycl_11_X11_copy yw_X11_copy yv_X11_copy tw_986 dL_law_1000 (fun _ h => h) (fun _ h => h) (fun h => h) (c_X11_copy (d := 1) (Nat.le_refl _) hPG hTG hF hw) rfl (Nat.le_of_ble_eq_true rfl) (by decide) (by omega) (by omega) (kI fun r1 s1 hw => ?_)
  refine g_aload_n hC dL_law_1003 rfl ?_
  refine g_aload_n hC dL_law_1004 rfl ?_
  refine g_iload_n hC dL_law_1005 rfl ?_
  refine g_iconst (v := 1) hC dL_law_1006 (by decide) ?_
  refine g_iadd hC dL_law_1007 ?_
  refine g_sld hC hX hbl hB h1 dL_law_1008 ?_
  refine g_aload_n hC dL_law_1009 rfl ?_
  refine g_iload_n hC dL_law_1010 rfl ?_
  refine g_iconst (v := 2) hC dL_law_1011 (by decide) ?_
  refine g_iadd hC dL_law_1012 ?_
  refine g_sld hC hX hbl hB h2 dL_law_1013 ?_
  refine g_aload_n hC dL_law_1014 rfl ?_
  refine g_iload_n hC dL_law_1015 rfl ?_
  refine g_iconst (v := 3) hC dL_law_1016 (by decide) ?_
  refine g_iadd hC dL_law_1017 ?_
  refine g_sld hC hX hbl hB h3 dL_law_1018 ?_
  refine g_aload_n hC dL_law_1019 rfl ?_
  refine g_iload_n hC dL_law_1020 rfl ?_
  refine g_iconst (v := 4) hC dL_law_1021 (by decide) ?_
  refine g_iadd hC dL_law_1022 ?_
  refine g_sld hC hX hbl hB h4 dL_law_1023 ?_
  refine g_aload_n hC dL_law_1024 rfl ?_
  refine g_iload_n hC dL_law_1025 rfl ?_
  refine g_iconst (v := 5) hC dL_law_1026 (by decide) ?_
  refine g_iadd hC dL_law_1027 ?_
  refine g_sld hC hX hbl hB h5 dL_law_1028 ?_
  refine g_known (fun hS => ?_)
  refine mG.st (st1 := ([.int (xs (Int32.toNatClampNeg (i + 1))), .int (xs (Int32.toNatClampNeg (i + 2))), .int (xs (Int32.toNatClampNeg (i + 3))), .int (xs (Int32.toNatClampNeg (i + 4))), .int (xs (Int32.toNatClampNeg (i + 5)))] : List Value).reverse ++ .ref (xB X + 37) :: [.int r1]) rfl ?_
  refine g_callV (As := [.int (xs (Int32.toNatClampNeg (i + 1))), .int (xs (Int32.toNatClampNeg (i + 2))), .int (xs (Int32.toNatClampNeg (i + 3))), .int (xs (Int32.toNatClampNeg (i + 4))), .int (xs (Int32.toNatClampNeg (i + 5)))]) (st := [.int r1]) hC (hS.2 _ (hTM _ tg_M_37)) (by decide) ycl_12_X12_copy yw_X12_copy yv_X12_copy tw_990 dL_law_1029 (fun _ h => h) (fun _ h => h) (fun h => h) (c_X12_copy (d := 2) (Nat.le_refl _) hPM hTM hw) rfl (Nat.le_of_ble_eq_true rfl) (by decide) (by omega) (by omega) (kI fun r2 s2 hw => ?_)
  refine g_icmp_eq (tgt := 1123) hC dL_law_1032 rfl (fun c => ?_) (fun c => ?_)
  · exact hn _ hw.2
  · exact absurd hw.1 c
set_option maxRecDepth 4000 in
set_option maxHeartbeats 2000000 in
theorem law_30 {X : Cx} {b L : Nat} {xs : Nat → Int32} (hC : mOK X code R_law "law" ret 1400 600000 7302250) (hX : va_X b L xs X.2.1.1 X.2.1.1.heap) (hbl : b < X.2.1.1.heap.size) (hB : b < xB X) (hPG : ∀ e ∈ psG, e ∈ xP X) (hTG : ∀ e ∈ tsG, e ∈ xT X) (hPM : ∀ e ∈ psM, e ∈ xP X) (hTM : ∀ e ∈ tsM, e ∈ xT X) (hF : ∀ e ∈ xP X, e ∈ psA) {i : Int32} (h1 : vp_in (i + 1) L) (h2 : vp_in (i + 2) L) (h3 : vp_in (i + 3) L) (h4 : vp_in (i + 4) L) (h5 : vp_in (i + 5) L) {σ : Mem} {kc ks : Nat} (hkc : kc + 20 ≤ 600000) (hks : ks + 600 ≤ 7302250) {Rel : Mem → Prop} {Q : State → Prop} (hw : w_X11_plates σ (xs (Int32.toNatClampNeg (i + 1))) (xs (Int32.toNatClampNeg (i + 2))) (xs (Int32.toNatClampNeg (i + 3))) (xs (Int32.toNatClampNeg (i + 4))) (fun r1 s1 => w_X12_plates s1 (xs (Int32.toNatClampNeg (i + 1))) (xs (Int32.toNatClampNeg (i + 2))) (xs (Int32.toNatClampNeg (i + 3))) (xs (Int32.toNatClampNeg (i + 4))) (fun r2 s2 => r1 = r2 ∧ Rel s2))) (hn : ∀ s2, Rel s2 → mG X 1123 [(3, .int i), (2, .ref (xB X + 37)), (1, .ref (xB X + 0)), (0, .ref b)] [] s2 (kc + 0 + 0) (ks + 0 + 0) Q) : mG X 1037 [(3, .int i), (2, .ref (xB X + 37)), (1, .ref (xB X + 0)), (0, .ref b)] [] σ kc ks Q := by
  refine g_aload_n hC dL_law_1037 rfl ?_
  refine g_aload_n hC dL_law_1038 rfl ?_
  refine g_iload_n hC dL_law_1039 rfl ?_
  refine g_iconst (v := 1) hC dL_law_1040 (by decide) ?_
  refine g_iadd hC dL_law_1041 ?_
  refine g_sld hC hX hbl hB h1 dL_law_1042 ?_
  refine g_aload_n hC dL_law_1043 rfl ?_
  refine g_iload_n hC dL_law_1044 rfl ?_
  refine g_iconst (v := 2) hC dL_law_1045 (by decide) ?_
  refine g_iadd hC dL_law_1046 ?_
  refine g_sld hC hX hbl hB h2 dL_law_1047 ?_
  refine g_aload_n hC dL_law_1048 rfl ?_
  refine g_iload_n hC dL_law_1049 rfl ?_
  refine g_iconst (v := 3) hC dL_law_1050 (by decide) ?_
  refine g_iadd hC dL_law_1051 ?_
  refine g_sld hC hX hbl hB h3 dL_law_1052 ?_
  refine g_aload_n hC dL_law_1053 rfl ?_
  refine g_iload_n hC dL_law_1054 rfl ?_
  refine g_iconst (v := 4) hC dL_law_1055 (by decide) ?_
  refine g_iadd hC dL_law_1056 ?_
  refine g_sld hC hX hbl hB h4 dL_law_1057 ?_
  refine g_known (fun hS => ?_)
  refine mG.st (st1 := ([.int (xs (Int32.toNatClampNeg (i + 1))), .int (xs (Int32.toNatClampNeg (i + 2))), .int (xs (Int32.toNatClampNeg (i + 3))), .int (xs (Int32.toNatClampNeg (i + 4)))] : List Value).reverse ++ .ref (xB X + 0) :: []) rfl ?_
  refine g_callV (As := [.int (xs (Int32.toNatClampNeg (i + 1))), .int (xs (Int32.toNatClampNeg (i + 2))), .int (xs (Int32.toNatClampNeg (i + 3))), .int (xs (Int32.toNatClampNeg (i + 4)))]) (st := []) hC (hS.2 _ (hTG _ tg_G_0)) (by decide) ycl_11_X11_plates yw_X11_plates yv_X11_plates tw_994 dL_law_1058 (fun _ h => h) (fun _ h => h) (fun h => h) (c_X11_plates (d := 2) (Nat.le_refl _) hPG hTG hF hw) rfl (Nat.le_of_ble_eq_true rfl) (by decide) (by omega) (by omega) (kI fun r1 s1 hw => ?_)
  refine g_aload_n hC dL_law_1061 rfl ?_
  refine g_aload_n hC dL_law_1062 rfl ?_
  refine g_iload_n hC dL_law_1063 rfl ?_
  refine g_iconst (v := 1) hC dL_law_1064 (by decide) ?_
  refine g_iadd hC dL_law_1065 ?_
  refine g_sld hC hX hbl hB h1 dL_law_1066 ?_
  refine g_aload_n hC dL_law_1067 rfl ?_
  refine g_iload_n hC dL_law_1068 rfl ?_
  refine g_iconst (v := 2) hC dL_law_1069 (by decide) ?_
  refine g_iadd hC dL_law_1070 ?_
  refine g_sld hC hX hbl hB h2 dL_law_1071 ?_
  refine g_aload_n hC dL_law_1072 rfl ?_
  refine g_iload_n hC dL_law_1073 rfl ?_
  refine g_iconst (v := 3) hC dL_law_1074 (by decide) ?_
  refine g_iadd hC dL_law_1075 ?_
  refine g_sld hC hX hbl hB h3 dL_law_1076 ?_
  refine g_aload_n hC dL_law_1077 rfl ?_
  refine g_iload_n hC dL_law_1078 rfl ?_
  refine g_iconst (v := 4) hC dL_law_1079 (by decide) ?_
  refine g_iadd hC dL_law_1080 ?_
  refine g_sld hC hX hbl hB h4 dL_law_1081 ?_
  refine g_known (fun hS => ?_)
  refine mG.st (st1 := ([.int (xs (Int32.toNatClampNeg (i + 1))), .int (xs (Int32.toNatClampNeg (i + 2))), .int (xs (Int32.toNatClampNeg (i + 3))), .int (xs (Int32.toNatClampNeg (i + 4)))] : List Value).reverse ++ .ref (xB X + 37) :: [.int r1]) rfl ?_
  refine g_callV (As := [.int (xs (Int32.toNatClampNeg (i + 1))), .int (xs (Int32.toNatClampNeg (i + 2))), .int (xs (Int32.toNatClampNeg (i + 3))), .int (xs (Int32.toNatClampNeg (i + 4)))]) (st := [.int r1]) hC (hS.2 _ (hTM _ tg_M_37)) (by decide) ycl_12_X12_plates yw_X12_plates yv_X12_plates tw_998 dL_law_1082 (fun _ h => h) (fun _ h => h) (fun h => h) (c_X12_plates (d := 2) (Nat.le_refl _) hPM hTM hw) rfl (Nat.le_of_ble_eq_true rfl) (by decide) (by omega) (by omega) (kI fun r2 s2 hw => ?_)
  refine g_icmp_eq (tgt := 1123) hC dL_law_1085 rfl (fun c => ?_) (fun c => ?_)
  · exact hn _ hw.2
  · exact absurd hw.1 c
set_option maxRecDepth 4000 in
set_option maxHeartbeats 2000000 in
theorem law_31 {X : Cx} {b L : Nat} {xs : Nat → Int32} (hC : mOK X code R_law "law" ret 1400 600000 7302250) (hX : va_X b L xs X.2.1.1 X.2.1.1.heap) (hbl : b < X.2.1.1.heap.size) (hB : b < xB X) (hPG : ∀ e ∈ psG, e ∈ xP X) (hTG : ∀ e ∈ tsG, e ∈ xT X) (hPM : ∀ e ∈ psM, e ∈ xP X) (hTM : ∀ e ∈ tsM, e ∈ xT X) (hF : ∀ e ∈ xP X, e ∈ psA) {i : Int32} (h1 : vp_in (i + 1) L) (h2 : vp_in (i + 2) L) (h3 : vp_in (i + 3) L) (h4 : vp_in (i + 4) L) (h5 : vp_in (i + 5) L) {σ : Mem} {kc ks : Nat} (hkc : kc + 20 ≤ 600000) (hks : ks + 600 ≤ 7302250) {Rel : Mem → Prop} {Q : State → Prop} (hw : w_X11_taken σ (xs (Int32.toNatClampNeg (i + 1))) (xs (Int32.toNatClampNeg (i + 2))) (fun r1 s1 => w_X12_taken s1 (xs (Int32.toNatClampNeg (i + 1))) (xs (Int32.toNatClampNeg (i + 2))) (fun r2 s2 => r1 = r2 ∧ Rel s2))) (hn : ∀ s2, Rel s2 → mG X 1123 [(3, .int i), (2, .ref (xB X + 37)), (1, .ref (xB X + 0)), (0, .ref b)] [] s2 (kc + 0 + 0) (ks + 0 + 0) Q) : mG X 1090 [(3, .int i), (2, .ref (xB X + 37)), (1, .ref (xB X + 0)), (0, .ref b)] [] σ kc ks Q := by
  refine g_aload_n hC dL_law_1090 rfl ?_
  refine g_aload_n hC dL_law_1091 rfl ?_
  refine g_iload_n hC dL_law_1092 rfl ?_
  refine g_iconst (v := 1) hC dL_law_1093 (by decide) ?_
  refine g_iadd hC dL_law_1094 ?_
  refine g_sld hC hX hbl hB h1 dL_law_1095 ?_
  refine g_aload_n hC dL_law_1096 rfl ?_
  refine g_iload_n hC dL_law_1097 rfl ?_
  refine g_iconst (v := 2) hC dL_law_1098 (by decide) ?_
  refine g_iadd hC dL_law_1099 ?_
  refine g_sld hC hX hbl hB h2 dL_law_1100 ?_
  refine g_known (fun hS => ?_)
  refine mG.st (st1 := ([.int (xs (Int32.toNatClampNeg (i + 1))), .int (xs (Int32.toNatClampNeg (i + 2)))] : List Value).reverse ++ .ref (xB X + 0) :: []) rfl ?_
  refine g_callV (As := [.int (xs (Int32.toNatClampNeg (i + 1))), .int (xs (Int32.toNatClampNeg (i + 2)))]) (st := []) hC (hS.2 _ (hTG _ tg_G_0)) (by decide) ycl_11_X11_taken yw_X11_taken yv_X11_taken tw_1002 dL_law_1101 (fun _ h => h) (fun _ h => h) (fun h => h) (c_X11_taken (d := 1) (Nat.le_refl _) hPG hTG hF hw) rfl (Nat.le_of_ble_eq_true rfl) (by decide) (by omega) (by omega) (kI fun r1 s1 hw => ?_)
  refine g_aload_n hC dL_law_1104 rfl ?_
  refine g_aload_n hC dL_law_1105 rfl ?_
  refine g_iload_n hC dL_law_1106 rfl ?_
  refine g_iconst (v := 1) hC dL_law_1107 (by decide) ?_
  refine g_iadd hC dL_law_1108 ?_
  refine g_sld hC hX hbl hB h1 dL_law_1109 ?_
  refine g_aload_n hC dL_law_1110 rfl ?_
  refine g_iload_n hC dL_law_1111 rfl ?_
  refine g_iconst (v := 2) hC dL_law_1112 (by decide) ?_
  refine g_iadd hC dL_law_1113 ?_
  refine g_sld hC hX hbl hB h2 dL_law_1114 ?_
  refine g_known (fun hS => ?_)
  refine mG.st (st1 := ([.int (xs (Int32.toNatClampNeg (i + 1))), .int (xs (Int32.toNatClampNeg (i + 2)))] : List Value).reverse ++ .ref (xB X + 37) :: [.int r1]) rfl ?_
  refine g_callV (As := [.int (xs (Int32.toNatClampNeg (i + 1))), .int (xs (Int32.toNatClampNeg (i + 2)))]) (st := [.int r1]) hC (hS.2 _ (hTM _ tg_M_37)) (by decide) ycl_12_X12_taken yw_X12_taken yv_X12_taken tw_1006 dL_law_1115 (fun _ h => h) (fun _ h => h) (fun h => h) (c_X12_taken (d := 2) (Nat.le_refl _) hPM hTM hw) rfl (Nat.le_of_ble_eq_true rfl) (by decide) (by omega) (by omega) (kI fun r2 s2 hw => ?_)
  refine g_icmp_eq (tgt := 1123) hC dL_law_1118 rfl (fun c => ?_) (fun c => ?_)
  · exact hn _ hw.2
  · exact absurd hw.1 c
theorem law_in {k L c : Nat} (h : 6 * k + 6 ≤ L) (hL : L ≤ 384) (hc : c ≤ 5) : vp_in (nI (6 * k) + nI c) L := by
  rw [nI_add]; exact vp_in_nI (by omega) (by omega)
set_option maxRecDepth 4000 in
set_option maxHeartbeats 4000000 in
/-- THE LAW'S LOOP -/
theorem law_loop {X : Cx} {b L : Nat} {xs : Nat → Int32} (hC : mOK X code R_law "law" ret 1400 600000 7302250) (hX : va_X b L xs X.2.1.1 X.2.1.1.heap) (hbl : b < X.2.1.1.heap.size) (hB : b < xB X) (hPG : ∀ e ∈ psG, e ∈ xP X) (hTG : ∀ e ∈ tsG, e ∈ xT X) (hPM : ∀ e ∈ psM, e ∈ xP X) (hTM : ∀ e ∈ tsM, e ∈ xT X) (hF : ∀ e ∈ xP X, e ∈ psA) (hN : xN X = 4) {Rel : Mem → Prop} (hLP : lawPair Rel) (hL : L ≤ 384) {Q : State → Prop} (hend : ∀ (σ : Mem) (kc ks : Nat) (i : Int32), kc ≤ 600000 → ks ≤ 7302250 → mG X 1129 [(3, .int i), (2, .ref (xB X + 37)), (1, .ref (xB X + 0)), (0, .ref b)] [] σ kc ks Q) :
    ∀ (n k : Nat) (σ : Mem), 70 ≤ n + k → k ≤ 64 → Rel σ → mG X 18 [(3, .int (nI (6 * k))), (2, .ref (xB X + 37)), (1, .ref (xB X + 0)), (0, .ref b)] [] σ (1000 + 20 * k) (20000 + 600 * k) Q := by
  intro n
  induction n with
  | zero => intro k σ h1 h2 _; omega
  | succ n ih =>
    intro k σ hnk hk hR
    refine g_iload_n hC dL_law_18 rfl ?_
    refine g_aload_n hC dL_law_19 rfl ?_
    refine g_slen hC hX hbl hB dL_law_20 ?_
    refine g_bipush (v := 6) hC dL_law_21 (by decide) ?_
    refine g_isub hC dL_law_23 ?_
    refine g_icmp_gt (tgt := 1129) hC dL_law_24 rfl (fun c => ?_) (fun c => ?_)
    · exact hend σ _ _ _ (by omega) (by omega)
    · have h6 : 6 * k + 6 ≤ L := by
        rcases Nat.lt_or_ge L (6 * k + 6) with q | q
        · exfalso
          apply c
          have e6 : (6 : Int32) = nI 6 := rfl
          rw [e6]
          rcases Nat.lt_or_ge L 6 with q6 | q6
          · exact Int32.lt_of_lt_of_le (pk_sneg (by omega) q6) (nI_pos' (by omega))
          · rw [pk_sub q6]; exact nI_lt (by omega) (by omega)
        · exact q
      have h0 : vp_in (nI (6 * k)) L := vp_in_nI (by omega) (by omega)
      have h1 : vp_in (nI (6 * k) + 1) L := law_in (c := 1) h6 hL (by decide)
      have h2 : vp_in (nI (6 * k) + 2) L := law_in (c := 2) h6 hL (by decide)
      have h3 : vp_in (nI (6 * k) + 3) L := law_in (c := 3) h6 hL (by decide)
      have h4 : vp_in (nI (6 * k) + 4) L := law_in (c := 4) h6 hL (by decide)
      have h5 : vp_in (nI (6 * k) + 5) L := law_in (c := 5) h6 hL (by decide)
      have hk1 : k + 1 ≤ 64 := by omega
      have hkc : 1000 + 20 * k + 20 ≤ 600000 := by omega
      have hks : 20000 + 600 * k + 600 ≤ 7302250 := by omega
      have hnext : ∀ (s2 : Mem) (a b' : Nat), a ≤ 20 → b' ≤ 600 → Rel s2 → mG X 1123 [(3, .int (nI (6 * k))), (2, .ref (xB X + 37)), (1, .ref (xB X + 0)), (0, .ref b)] [] s2 (1000 + 20 * k + a) (20000 + 600 * k + b') Q := by
        intro s2 a b' ha hb' h2
        refine mG.widen (kc' := 1000 + 20 * (k + 1)) (ks' := 20000 + 600 * (k + 1)) (by omega) (by omega) ?_
        refine g_iinc (v := nI (6 * (k + 1))) (lv' := [(3, .int (nI (6 * (k + 1)))), (2, .ref (xB X + 37)), (1, .ref (xB X + 0)), (0, .ref b)]) hC dL_law_1123 rfl (by show nI (6 * k) + nI 6 = _; rw [nI_add]; rfl) (by rw [hN]; decide) rfl ?_
        refine g_goto (tgt := 18) hC dL_law_1126 rfl ?_
        exact ih (k + 1) s2 (by omega) hk1 h2
      refine g_aload_n hC dL_law_27 rfl ?_
      refine g_iload_n hC dL_law_28 rfl ?_
      refine g_sld hC hX hbl hB h0 dL_law_29 ?_
      refine g_bipush (v := 31) hC dL_law_30 (by decide) ?_
      refine g_iand hC dL_law_32 ?_
      obtain ⟨j, hj, ej⟩ := pk_andE (xs (Int32.toNatClampNeg (nI (6 * k)))) (m := 31) 5 (by decide)
      rw [ej]
      have hj : j < 32 := hj
      by_cases c0 : j = 0
      · subst c0
        refine g_tableIn (tgt := 176) hC dL_law_33 (nI 0) rfl (by decide) (by decide) rfl rfl ?_
        exact law_0 hC hX hbl hB hPG hTG hPM hTM hF h1 h2 h3 h4 h5 hkc hks (hLP.1 σ _ _ hR) (fun s2 h => by have := hnext s2 0 0 (by decide) (by decide) h; simpa [Nat.add_assoc] using this)
      by_cases c1 : j = 1
      · subst c1
        refine g_tableIn (tgt := 209) hC dL_law_33 (nI 1) rfl (by decide) (by decide) rfl rfl ?_
        exact law_1 hC hX hbl hB hPG hTG hPM hTM hF h1 h2 h3 h4 h5 hkc hks (hLP.2.1 σ _ _ hR) (fun s2 h => by have := hnext s2 1 2 (by decide) (by decide) h; simpa [Nat.add_assoc] using this)
      by_cases c2 : j = 2
      · subst c2
        refine g_tableIn (tgt := 242) hC dL_law_33 (nI 2) rfl (by decide) (by decide) rfl rfl ?_
        exact law_2 hC hX hbl hB hPG hTG hPM hTM hF h1 h2 h3 h4 h5 hkc hks (hLP.2.2.1 σ _ _ _ hR) (fun s2 h => by have := hnext s2 0 0 (by decide) (by decide) h; simpa [Nat.add_assoc] using this)
      by_cases c3 : j = 3
      · subst c3
        refine g_tableIn (tgt := 285) hC dL_law_33 (nI 3) rfl (by decide) (by decide) rfl rfl ?_
        exact law_3 hC hX hbl hB hPG hTG hPM hTM hF h1 h2 h3 h4 h5 hkc hks (hLP.2.2.2.1 σ _ _ hR) (fun s2 h => by have := hnext s2 0 0 (by decide) (by decide) h; simpa [Nat.add_assoc] using this)
      by_cases c4 : j = 4
      · subst c4
        refine g_tableIn (tgt := 318) hC dL_law_33 (nI 4) rfl (by decide) (by decide) rfl rfl ?_
        exact law_4 hC hX hbl hB hPG hTG hPM hTM hF h1 h2 h3 h4 h5 hkc hks (hLP.2.2.2.2.1 σ _ hR) (fun s2 h => by have := hnext s2 0 0 (by decide) (by decide) h; simpa [Nat.add_assoc] using this)
      by_cases c5 : j = 5
      · subst c5
        refine g_tableIn (tgt := 341) hC dL_law_33 (nI 5) rfl (by decide) (by decide) rfl rfl ?_
        exact law_5 hC hX hbl hB hPG hTG hPM hTM hF h1 h2 h3 h4 h5 hkc hks (hLP.2.2.2.2.2.1 σ hR) (fun s2 h => by have := hnext s2 4 211 (by decide) (by decide) h; simpa [Nat.add_assoc] using this)
      by_cases c6 : j = 6
      · subst c6
        refine g_tableIn (tgt := 354) hC dL_law_33 (nI 6) rfl (by decide) (by decide) rfl rfl ?_
        exact law_6 hC hX hbl hB hPG hTG hPM hTM hF h1 h2 h3 h4 h5 hkc hks (hLP.2.2.2.2.2.2.1 σ _ hR) (fun s2 h => by have := hnext s2 0 0 (by decide) (by decide) h; simpa [Nat.add_assoc] using this)
      by_cases c7 : j = 7
      · subst c7
        refine g_tableIn (tgt := 377) hC dL_law_33 (nI 7) rfl (by decide) (by decide) rfl rfl ?_
        exact law_7 hC hX hbl hB hPG hTG hPM hTM hF h1 h2 h3 h4 h5 hkc hks (hLP.2.2.2.2.2.2.2.1 σ _ _ hR) (fun s2 h => by have := hnext s2 0 0 (by decide) (by decide) h; simpa [Nat.add_assoc] using this)
      by_cases c8 : j = 8
      · subst c8
        refine g_tableIn (tgt := 410) hC dL_law_33 (nI 8) rfl (by decide) (by decide) rfl rfl ?_
        exact law_8 hC hX hbl hB hPG hTG hPM hTM hF h1 h2 h3 h4 h5 hkc hks (hLP.2.2.2.2.2.2.2.2.1 σ _ _ hR) (fun s2 h => by have := hnext s2 0 0 (by decide) (by decide) h; simpa [Nat.add_assoc] using this)
      by_cases c9 : j = 9
      · subst c9
        refine g_tableIn (tgt := 443) hC dL_law_33 (nI 9) rfl (by decide) (by decide) rfl rfl ?_
        exact law_9 hC hX hbl hB hPG hTG hPM hTM hF h1 h2 h3 h4 h5 hkc hks (hLP.2.2.2.2.2.2.2.2.2.1 σ _ hR) (fun s2 h => by have := hnext s2 0 0 (by decide) (by decide) h; simpa [Nat.add_assoc] using this)
      by_cases c10 : j = 10
      · subst c10
        refine g_tableIn (tgt := 466) hC dL_law_33 (nI 10) rfl (by decide) (by decide) rfl rfl ?_
        exact law_10 hC hX hbl hB hPG hTG hPM hTM hF h1 h2 h3 h4 h5 hkc hks (hLP.2.2.2.2.2.2.2.2.2.2.1 σ _ hR) (fun s2 h => by have := hnext s2 0 0 (by decide) (by decide) h; simpa [Nat.add_assoc] using this)
      by_cases c11 : j = 11
      · subst c11
        refine g_tableIn (tgt := 489) hC dL_law_33 (nI 11) rfl (by decide) (by decide) rfl rfl ?_
        exact law_11 hC hX hbl hB hPG hTG hPM hTM hF h1 h2 h3 h4 h5 hkc hks (hLP.2.2.2.2.2.2.2.2.2.2.2.1 σ _ hR) (fun s2 h => by have := hnext s2 0 0 (by decide) (by decide) h; simpa [Nat.add_assoc] using this)
      by_cases c12 : j = 12
      · subst c12
        refine g_tableIn (tgt := 512) hC dL_law_33 (nI 12) rfl (by decide) (by decide) rfl rfl ?_
        exact law_12 hC hX hbl hB hPG hTG hPM hTM hF h1 h2 h3 h4 h5 hkc hks (hLP.2.2.2.2.2.2.2.2.2.2.2.2.1 σ _ _ hR) (fun s2 h => by have := hnext s2 0 0 (by decide) (by decide) h; simpa [Nat.add_assoc] using this)
      by_cases c13 : j = 13
      · subst c13
        refine g_tableIn (tgt := 545) hC dL_law_33 (nI 13) rfl (by decide) (by decide) rfl rfl ?_
        exact law_13 hC hX hbl hB hPG hTG hPM hTM hF h1 h2 h3 h4 h5 hkc hks (hLP.2.2.2.2.2.2.2.2.2.2.2.2.2.1 σ _ _ hR) (fun s2 h => by have := hnext s2 0 0 (by decide) (by decide) h; simpa [Nat.add_assoc] using this)
      by_cases c14 : j = 14
      · subst c14
        refine g_tableIn (tgt := 579) hC dL_law_33 (nI 14) rfl (by decide) (by decide) rfl rfl ?_
        exact law_14 hC hX hbl hB hPG hTG hPM hTM hF h1 h2 h3 h4 h5 hkc hks (hLP.2.2.2.2.2.2.2.2.2.2.2.2.2.2.1 σ _ _ hR) (fun s2 h => by have := hnext s2 0 0 (by decide) (by decide) h; simpa [Nat.add_assoc] using this)
      by_cases c15 : j = 15
      · subst c15
        refine g_tableIn (tgt := 612) hC dL_law_33 (nI 15) rfl (by decide) (by decide) rfl rfl ?_
        exact law_15 hC hX hbl hB hPG hTG hPM hTM hF h1 h2 h3 h4 h5 hkc hks (hLP.2.2.2.2.2.2.2.2.2.2.2.2.2.2.2.1 σ _ hR) (fun s2 h => by have := hnext s2 0 0 (by decide) (by decide) h; simpa [Nat.add_assoc] using this)
      by_cases c16 : j = 16
      · subst c16
        refine g_tableIn (tgt := 635) hC dL_law_33 (nI 16) rfl (by decide) (by decide) rfl rfl ?_
        exact law_16 hC hX hbl hB hPG hTG hPM hTM hF h1 h2 h3 h4 h5 hkc hks (hLP.2.2.2.2.2.2.2.2.2.2.2.2.2.2.2.2.1 σ _ hR) (fun s2 h => by have := hnext s2 0 0 (by decide) (by decide) h; simpa [Nat.add_assoc] using this)
      by_cases c17 : j = 17
      · subst c17
        refine g_tableIn (tgt := 658) hC dL_law_33 (nI 17) rfl (by decide) (by decide) rfl rfl ?_
        exact law_17 hC hX hbl hB hPG hTG hPM hTM hF h1 h2 h3 h4 h5 hkc hks (hLP.2.2.2.2.2.2.2.2.2.2.2.2.2.2.2.2.2.1 σ _ hR) (fun s2 h => by have := hnext s2 0 0 (by decide) (by decide) h; simpa [Nat.add_assoc] using this)
      by_cases c18 : j = 18
      · subst c18
        refine g_tableIn (tgt := 681) hC dL_law_33 (nI 18) rfl (by decide) (by decide) rfl rfl ?_
        exact law_18 hC hX hbl hB hPG hTG hPM hTM hF h1 h2 h3 h4 h5 hkc hks (hLP.2.2.2.2.2.2.2.2.2.2.2.2.2.2.2.2.2.2.1 σ _ hR) (fun s2 h => by have := hnext s2 0 0 (by decide) (by decide) h; simpa [Nat.add_assoc] using this)
      by_cases c19 : j = 19
      · subst c19
        refine g_tableIn (tgt := 704) hC dL_law_33 (nI 19) rfl (by decide) (by decide) rfl rfl ?_
        exact law_19 hC hX hbl hB hPG hTG hPM hTM hF h1 h2 h3 h4 h5 hkc hks (hLP.2.2.2.2.2.2.2.2.2.2.2.2.2.2.2.2.2.2.2.1 σ _ hR) (fun s2 h => by have := hnext s2 0 0 (by decide) (by decide) h; simpa [Nat.add_assoc] using this)
      by_cases c20 : j = 20
      · subst c20
        refine g_tableIn (tgt := 727) hC dL_law_33 (nI 20) rfl (by decide) (by decide) rfl rfl ?_
        exact law_20 hC hX hbl hB hPG hTG hPM hTM hF h1 h2 h3 h4 h5 hkc hks (hLP.2.2.2.2.2.2.2.2.2.2.2.2.2.2.2.2.2.2.2.2.1 σ _ hR) (fun s2 h => by have := hnext s2 0 0 (by decide) (by decide) h; simpa [Nat.add_assoc] using this)
      by_cases c21 : j = 21
      · subst c21
        refine g_tableIn (tgt := 750) hC dL_law_33 (nI 21) rfl (by decide) (by decide) rfl rfl ?_
        exact law_21 hC hX hbl hB hPG hTG hPM hTM hF h1 h2 h3 h4 h5 hkc hks (hLP.2.2.2.2.2.2.2.2.2.2.2.2.2.2.2.2.2.2.2.2.2.1 σ _ hR) (fun s2 h => by have := hnext s2 0 0 (by decide) (by decide) h; simpa [Nat.add_assoc] using this)
      by_cases c22 : j = 22
      · subst c22
        refine g_tableIn (tgt := 773) hC dL_law_33 (nI 22) rfl (by decide) (by decide) rfl rfl ?_
        exact law_22 hC hX hbl hB hPG hTG hPM hTM hF h1 h2 h3 h4 h5 hkc hks (hLP.2.2.2.2.2.2.2.2.2.2.2.2.2.2.2.2.2.2.2.2.2.2.1 σ _ _ hR) (fun s2 h => by have := hnext s2 0 0 (by decide) (by decide) h; simpa [Nat.add_assoc] using this)
      by_cases c23 : j = 23
      · subst c23
        refine g_tableIn (tgt := 806) hC dL_law_33 (nI 23) rfl (by decide) (by decide) rfl rfl ?_
        exact law_23 hC hX hbl hB hPG hTG hPM hTM hF h1 h2 h3 h4 h5 hkc hks (hLP.2.2.2.2.2.2.2.2.2.2.2.2.2.2.2.2.2.2.2.2.2.2.2.1 σ _ _ hR) (fun s2 h => by have := hnext s2 0 0 (by decide) (by decide) h; simpa [Nat.add_assoc] using this)
      by_cases c24 : j = 24
      · subst c24
        refine g_tableIn (tgt := 839) hC dL_law_33 (nI 24) rfl (by decide) (by decide) rfl rfl ?_
        exact law_24 hC hX hbl hB hPG hTG hPM hTM hF h1 h2 h3 h4 h5 hkc hks (hLP.2.2.2.2.2.2.2.2.2.2.2.2.2.2.2.2.2.2.2.2.2.2.2.2.1 σ hR) (fun s2 h => by have := hnext s2 6 97 (by decide) (by decide) h; simpa [Nat.add_assoc] using this)
      by_cases c25 : j = 25
      · subst c25
        refine g_tableIn (tgt := 852) hC dL_law_33 (nI 25) rfl (by decide) (by decide) rfl rfl ?_
        exact law_25 hC hX hbl hB hPG hTG hPM hTM hF h1 h2 h3 h4 h5 hkc hks (hLP.2.2.2.2.2.2.2.2.2.2.2.2.2.2.2.2.2.2.2.2.2.2.2.2.2.1 σ hR) (fun s2 h => by have := hnext s2 0 0 (by decide) (by decide) h; simpa [Nat.add_assoc] using this)
      by_cases c26 : j = 26
      · subst c26
        refine g_tableIn (tgt := 865) hC dL_law_33 (nI 26) rfl (by decide) (by decide) rfl rfl ?_
        exact law_26 hC hX hbl hB hPG hTG hPM hTM hF h1 h2 h3 h4 h5 hkc hks (hLP.2.2.2.2.2.2.2.2.2.2.2.2.2.2.2.2.2.2.2.2.2.2.2.2.2.2.1 σ _ hR) (fun s2 h => by have := hnext s2 0 0 (by decide) (by decide) h; simpa [Nat.add_assoc] using this)
      by_cases c27 : j = 27
      · subst c27
        refine g_tableIn (tgt := 888) hC dL_law_33 (nI 27) rfl (by decide) (by decide) rfl rfl ?_
        exact law_27 hC hX hbl hB hPG hTG hPM hTM hF h1 h2 h3 h4 h5 hkc hks (hLP.2.2.2.2.2.2.2.2.2.2.2.2.2.2.2.2.2.2.2.2.2.2.2.2.2.2.2.1 σ _ _ _ hR) (fun s2 h => by have := hnext s2 0 0 (by decide) (by decide) h; simpa [Nat.add_assoc] using this)
      by_cases c28 : j = 28
      · subst c28
        refine g_tableIn (tgt := 931) hC dL_law_33 (nI 28) rfl (by decide) (by decide) rfl rfl ?_
        exact law_28 hC hX hbl hB hPG hTG hPM hTM hF h1 h2 h3 h4 h5 hkc hks (hLP.2.2.2.2.2.2.2.2.2.2.2.2.2.2.2.2.2.2.2.2.2.2.2.2.2.2.2.2.1 σ _ _ _ hR) (fun s2 h => by have := hnext s2 0 0 (by decide) (by decide) h; simpa [Nat.add_assoc] using this)
      by_cases c29 : j = 29
      · subst c29
        refine g_tableIn (tgt := 974) hC dL_law_33 (nI 29) rfl (by decide) (by decide) rfl rfl ?_
        exact law_29 hC hX hbl hB hPG hTG hPM hTM hF h1 h2 h3 h4 h5 hkc hks (hLP.2.2.2.2.2.2.2.2.2.2.2.2.2.2.2.2.2.2.2.2.2.2.2.2.2.2.2.2.2.1 σ _ _ _ _ _ hR) (fun s2 h => by have := hnext s2 0 0 (by decide) (by decide) h; simpa [Nat.add_assoc] using this)
      by_cases c30 : j = 30
      · subst c30
        refine g_tableIn (tgt := 1037) hC dL_law_33 (nI 30) rfl (by decide) (by decide) rfl rfl ?_
        exact law_30 hC hX hbl hB hPG hTG hPM hTM hF h1 h2 h3 h4 h5 hkc hks (hLP.2.2.2.2.2.2.2.2.2.2.2.2.2.2.2.2.2.2.2.2.2.2.2.2.2.2.2.2.2.2.1 σ _ _ _ _ hR) (fun s2 h => by have := hnext s2 0 0 (by decide) (by decide) h; simpa [Nat.add_assoc] using this)
      by_cases c31 : j = 31
      · subst c31
        refine g_tableIn (tgt := 1090) hC dL_law_33 (nI 31) rfl (by decide) (by decide) rfl rfl ?_
        exact law_31 hC hX hbl hB hPG hTG hPM hTM hF h1 h2 h3 h4 h5 hkc hks (hLP.2.2.2.2.2.2.2.2.2.2.2.2.2.2.2.2.2.2.2.2.2.2.2.2.2.2.2.2.2.2.2 σ _ _ hR) (fun s2 h => by have := hnext s2 0 0 (by decide) (by decide) h; simpa [Nat.add_assoc] using this)
      omega
