/-! CONTRACTS OVER THE MEMORY, calls, returns -/
/-- what a method leaves -/
def mR (cy : Nat → ClassId) (D : va_G) (B : Nat) (ps ts : List (Nat × Nat × Nat)) (Qp : Option Value → Mem → Prop) : Array Value → State → Outcome → State → Prop := fun _ st oc t => (∃ (rv : Option Value) (σ' : Mem), oc = .returned rv ∧ Qp rv σ' ∧ mV cy D B ps ts σ' t.heap) ∧ va_F (fun q => B ≤ q) st t
/-- what a method starts from -/
def mPc (cy : Nat → ClassId) (D : va_G) (ad : (Nat → Nat) × (Nat → Nat)) (B : Nat) (ps ts : List (Nat × Nat × Nat)) (av : List Value) (σ : Mem) : Array Value → State → Prop := va_Pc av (fun U => mV cy D B ps ts σ U.heap ∧ mK cy D ad B U)
abbrev mRm (d mc ms : Nat) : Room := { frames := d, cells := mc, slots := ms, locals := 60 * d }
/-- the fixed part of a run: launch, array classes, classes, strings, base -/
abbrev Fx : Type := Launch × ((Nat → ClassId) × va_G × ((Nat → Nat) × (Nat → Nat))) × Nat
/-- A CONTRACT: method y, called with these values over the memory σ, returns; of its answer and the memory behind it Qp holds -/
def mM (Z : Fx) (ps ts : List (Nat × Nat × Nat)) (y : MethodName) (cc : ByteArray) (maxL : Nat) (ret : Option FieldType) (d mc ms : Nat) (av : List Value) (σ : Mem) (Qp : Option Value → Mem → Prop) : Prop :=
  Met Z.1 y (Cond.code y cc maxL ret :: TB) (mRm d mc ms) (mPc Z.2.1.1 Z.2.1.2.1 Z.2.1.2.2 Z.2.2 ps ts av σ) (mR Z.2.1.1 Z.2.1.2.1 Z.2.2 ps ts Qp) mc ms (fun q => Z.2.2 ≤ q)
/-- the end of a method's walk -/
def mQ (X : Cx) (mc ms : Nat) (Qp : Option Value → Mem → Prop) : State → Prop := MQ X.2.1.2.2.2 (mR X.2.2.2.1.1 X.2.2.2.1.2.1 (xB X) (xP X) (xT X) Qp) X.2.1.2.2.1 X.2.1.1 mc ms (fun q => xB X ≤ q)
abbrev xZ (X : Cx) : Fx := (X.1.2.1, X.2.2.2.1, xB X)
theorem mPc_blind {cy : Nat → ClassId} {D : va_G} {ad : (Nat → Nat) × (Nat → Nat)} {B : Nat} {ps ts : List (Nat × Nat × Nat)} {av : List Value} {σ : Mem} : FrameBlind (mPc cy D ad B ps ts av σ) := fun a U g mk h => ⟨h.1, h.2.1, h.2.2.same (s := U) (U := U.calling g mk a) rfl rfl⟩
theorem mM.of {Z : Fx} {ps ts : List (Nat × Nat × Nat)} {y : MethodName} {cc : ByteArray} {maxL : Nat} {ret : Option FieldType} {d mc ms : Nat} {av : List Value} {σ : Mem} {Qp : Option Value → Mem → Prop} (hy : plainName y.cls = true) (hlen : (lg_sl av).length ≤ maxL) {lv : List (Nat × Value)} (hlv : lv_args 0 av = lv)
    (body : ∀ X : Cx, xZ X = Z → xP X = ps → xT X = ts → xN X = maxL → mOK X cc y.cls y.name ret d mc ms → mG X 0 lv [] σ 0 0 (mQ X mc ms Qp)) : mM Z ps ts y cc maxL ret d mc ms av σ Qp := by
  obtain ⟨l, ⟨cy, D, ad⟩, B⟩ := Z
  refine Met.ofW (cc := cc) (maxL := maxL) (ret := ret) hy rfl ?_
  intro p e s m args below meth c s₁ BL hml hv
  obtain ⟨hargs, hV, hK⟩ := hv
  subst hargs
  have hts : ∀ w ∈ TB, w.before av.toArray s = true := fun w hw => atoms_spec (ws := Cond.code y cc maxL ret :: TB) BL.pre w (List.mem_cons_of_mem _ hw)
  have hown : s.vm.findClass y.cls = some m.cls := findClass_of_methodNamed BL.named
  have hB : B ≤ s.heap.size := by rw [hV.1]; exact Nat.le_add_right _ _
  have hb := body ((p, l, e, mRm d mc ms), (s, m, av.toArray, below), (meth, c), (cy, D, ad), (B, maxL), (ps, ts)) rfl rfl rfl rfl ⟨BL.exec, BL.bytes, hml, hown, hts, hK, BL.returns, BL.notSynchronized, (name_of_methodNamed BL.named BL.method).1, ⟨Nat.le_refl _, rfl, rfl, Nat.le_refl _⟩, hB⟩
  rw [lg_entry_eq]
  have hl := lv_entry av (n := maxL) hlen
  rw [hlv] at hl
  exact hb s.heap [] _ hV va_S.rf hl
section GC
variable {X : Cx} {cc : ByteArray} {own nm : String} {ret : Option FieldType} {d mc ms : Nat} {pc : Nat} {lv : List (Nat × Value)} {st : List Value} {σ : Mem} {kc ks : Nat} {Q : State → Prop}
theorem g_vret {Qp : Option Value → Mem → Prop} (hC : mOK X cc own nm none d mc ms) (hk : kc ≤ mc) (hs : ks ≤ ms) (hd : decode cc pc = .ok (.return_, 1)) (h : mS (xP X) (xT X) σ → Qp none σ) : mG X pc lv [] σ kc ks (mQ X mc ms Qp) := by
  refine mG.widen hk hs ?_
  intro H locs ls hV hS hl
  exact W.vret hC.1 hC.2.1 hC.2.2.2.2.2.2.1 (fun t ht hW => ⟨⟨none, σ, rfl, h hV.2.2, by rw [ht]; exact hV⟩, hS.F ht⟩) hS.2.2 hd hC.2.2.2.2.2.2.2.1
theorem g_iret {Qp : Option Value → Mem → Prop} {ty : FieldType} {v : Int32} (hC : mOK X cc own nm (some ty) d mc ms) (hn : narrow ty (.int v) = .int v) (hk : kc ≤ mc) (hs : ks ≤ ms) (hd : decode cc pc = .ok (.ireturn, 1)) (h : mS (xP X) (xT X) σ → Qp (some (.int v)) σ) : mG X pc lv [.int v] σ kc ks (mQ X mc ms Qp) := by
  refine mG.widen hk hs ?_
  intro H locs ls hV hS hl
  exact W.zret hC.1 hC.2.1 hC.2.2.2.2.2.2.1 hn (fun t ht hW => ⟨⟨_, σ, rfl, h hV.2.2, by rw [ht]; exact hV⟩, hS.F ht⟩) hS.2.2 hd hC.2.2.2.2.2.2.2.1
theorem g_lret {Qp : Option Value → Mem → Prop} {v : Int64} (hC : mOK X cc own nm (some .long) d mc ms) (hk : kc ≤ mc) (hs : ks ≤ ms) (hd : decode cc pc = .ok (.lreturn, 1)) (h : mS (xP X) (xT X) σ → Qp (some (.long v)) σ) : mG X pc lv [.long v] σ kc ks (mQ X mc ms Qp) := by
  refine mG.widen hk hs ?_
  intro H locs ls hV hS hl
  exact W.lret hC.1 hC.2.1 hC.2.2.2.2.2.2.1 (fun t ht hW => ⟨⟨_, σ, rfl, h hV.2.2, by rw [ht]; exact hV⟩, hS.F ht⟩) hS.2.2 hd hC.2.2.2.2.2.2.2.1
theorem g_aret {Qp : Option Value → Mem → Prop} {rt : FieldType} {o : Option Nat} (hC : mOK X cc own nm (some rt) d mc ms) (hrt : (∃ n, rt = .object n) ∨ ∃ t, rt = .array t) (hk : kc ≤ mc) (hs : ks ≤ ms) (hd : decode cc pc = .ok (.areturn, 1)) (h : mS (xP X) (xT X) σ → Qp (some (va_rf o)) σ) : mG X pc lv [va_rf o] σ kc ks (mQ X mc ms Qp) := by
  refine mG.widen hk hs ?_
  intro H locs ls hV hS hl
  refine W.aret hC.1 hC.2.1 hC.2.2.2.2.2.2.1 hrt ?_ (fun t ht hW => ⟨⟨_, σ, rfl, h hV.2.2, by rw [ht]; exact hV⟩, hS.F ht⟩) hS.2.2 hd hC.2.2.2.2.2.2.2.1
  cases o with
  | none => exact Or.inl rfl
  | some r => exact Or.inr ⟨_, rfl⟩
/-- behind a call -/
theorem m_call {p : Program} {l : Launch} {e : Env} {R : Room} {s : State} {m : MethodId} {args : Array Value} {below : List Frame} {meth : Method} {c : Code} {H H0 : Heap} {locs : List Loc} {cells slots mc' ms' : Nat} {ls : Array Slot} {rest st0 : List Value} {a : Array Value} {cy : Nat → ClassId} {D : va_G} {B : Nat} {ps ts : List (Nat × Nat × Nat)} {Qp : Option Value → Mem → Prop}
    (hr : va_Run p l e R s m args below meth c H locs cells slots mc' ms' (F0 m pc ls st0) rest (mR cy D B ps ts Qp a) (fun q => B ≤ q)) (hS : va_S (fun q => B ≤ q) H0 H locs)
    (kk : ∀ (rv : Option Value) (σ' : Mem) (H1 : Heap) (locs1 : List Loc), Qp rv σ' → mV cy D B ps ts σ' H1 → va_S (fun q => B ≤ q) H0 H1 locs1 → W p l e R s m args below meth c H1 locs1 (cells + mc') (slots + ms') Q (F0 m (pc + 3) ls (rv.toList ++ rest))) : W p l e R s m args below meth c H locs cells slots Q (F0 m pc ls st0) := by
  intro T hT X
  obtain ⟨v, st₀, t, T', L, h0, X', hL, e1, e2, ⟨⟨rv, σ', hv, hp, hb⟩, hz, hk⟩, st⟩ := hr T hT X
  cases hv
  rw [h0] at hz hk
  obtain ⟨t2, a1, b1⟩ := kk v σ' T'.heap (locs ++ L) hp (by rw [e1]; exact hb)
    ⟨Nat.le_trans hS.1 (by rw [e1]; exact hz), fun q h1 h2 => by rw [e1, hk q (Nat.lt_of_lt_of_le h1 hS.1) h2]; exact hS.2.1 q h1 h2, fun q hq => by
      rcases List.mem_append.mp hq with h | h
      · exact hS.2.2 q h
      · exact hL q h⟩ T' rfl X'
  exact ⟨t2, st t2 a1, b1⟩
/-- a callee's own words -/
def yW (y : MethodName) (bytes : ByteArray) (maxL : Nat) (rt : Option FieldType) (n : Nat) : Prop := Cond.code y bytes maxL rt ∈ TB ∧ Cond.initialized y.cls ∈ TB ∧ maxL ≤ 41 ∧ y.cls ≠ "java/lang/invoke/MethodHandle" ∧ y.cls ≠ "java/lang/invoke/VarHandle" ∧ (parseMethodDescriptor y.desc).map (fun d => d.parameters.length) = some n
/-- of an instance method, called by itself -/
def yV (y : MethodName) : Prop := Cond.instanceMethod y ∈ TB ∧ Cond.selects y.cls y y ∈ TB
def yS (y : MethodName) : Prop := Cond.static y ∈ TB
def yI (y : MethodName) : Prop := Cond.instanceMethod y ∈ TB ∧ y.name = "<init>"
/-- of an instance method that a class C selects, where x is named -/
def yU (C : String) (x y : MethodName) : Prop := Cond.sameMethod x.cls x.cls x.name x.desc ∈ TB ∧ Cond.selects C x y ∈ TB ∧ Cond.instanceMethod y ∈ TB ∧ Cond.instanceMethod x ∈ TB ∧ (∃ b n r, Cond.code x b n r ∈ TB) ∧ x.desc = y.desc ∧ x.cls ≠ "java/lang/invoke/MethodHandle" ∧ x.cls ≠ "java/lang/invoke/VarHandle"
/-- of a superclass' method -/
def yP (own : String) (y : MethodName) : Prop := Cond.sameMethod y.cls y.cls y.name y.desc ∈ TB ∧ Cond.superclass own y.cls ∈ TB ∧ Cond.instanceMethod y ∈ TB ∧ y.name ≠ "<init>"
theorem m_B (hC : mOK X cc own nm ret d mc ms) {index n maxL d' mc' ms' : Nat} {y : MethodName} {bytes : ByteArray} {rt : Option FieldType} (hW : yW y bytes maxL rt n) (hL : Cond.methodLink own index y ∈ TB) (hd' : d' + 1 ≤ d) : CallB X.1.2.2.2 X.2.1.1 X.2.1.2.2.1 own index y bytes maxL rt (Cond.code y bytes maxL rt :: TB) (mRm d' mc' ms') mc' ms' n := by
  obtain ⟨w1, w2, w3, w4, w5, w6⟩ := hW
  have hR := hC.2.2.2.2.2.2.2.2.2.1
  refine callB_of n hC.2.2.2.2.1 (TB_goodIn w1) rfl rfl rfl (hC.2.2.2.2.1 _ w2) (hC.2.2.2.2.1 _ hL) ⟨w4, w5, w6⟩ ?_
  exact ⟨Nat.le_trans hd' hR.1, by have := hR.2.2.2; show 8 + (maxL + 11) + 60 * d' ≤ _; omega⟩
theorem m_pre {H : Heap} {locs : List Loc} {ps' ts' : List (Nat × Nat × Nat)} (hC : mOK X cc own nm ret d mc ms) (hV : mV X.2.2.2.1.1 X.2.2.2.1.2.1 (xB X) ps' ts' σ H) (hS : va_S (fun q => xB X ≤ q) X.2.1.1.heap H locs) (av : List Value) : ∀ U : State, U.heap = H → X.2.1.1.WarmedH U.vm → mPc X.2.2.2.1.1 X.2.2.2.1.2.1 X.2.2.2.1.2.2 (xB X) ps' ts' av σ av.toArray U :=
  fun U hU hW => ⟨rfl, by rw [hU]; exact hV, hC.2.2.2.2.2.1.warm hW (fun a h1 h2 => by rw [hU]; exact hS.2.1 a h1 h2)⟩
variable {index n maxL d' mc' ms' : Nat} {y : MethodName} {bytes : ByteArray} {rt : Option FieldType} {As : List Value} {ps' ts' : List (Nat × Nat × Nat)} {Qp : Option Value → Mem → Prop}
theorem g_callV (hC : mOK X cc own nm ret d mc ms) {a ci n0 : Nat} (hT : mT σ a = some (ci, n0)) (h13 : ci < 13) (hcl : ∀ q : vw_C, vwCl[ci]? = some q → q.1 = y.cls) (hW : yW y bytes maxL rt n) (hY : yV y) (hL : Cond.methodLink own index y ∈ TB) (hd : decode cc pc = .ok (.invokevirtual index, 3))
    (hp : ∀ e ∈ xP X, e ∈ ps') (ht : ∀ e ∈ xT X, e ∈ ts') (hσ : mS (xP X) (xT X) σ → mS ps' ts' σ) (hM : mM (xZ X) ps' ts' y bytes maxL rt d' mc' ms' (.ref (xB X + a) :: As) σ Qp)
    (hn : As.length = n) (hst : (st.map fun v => v.category).sum ≤ 8) (hd' : d' + 1 ≤ d) (hk : kc + mc' ≤ mc) (hs : ks + ms' ≤ ms)
    (kk : ∀ rv σ', Qp rv σ' → mG X (pc + 3) lv (rv.toList ++ st) σ' (kc + mc') (ks + ms') Q) : mG X pc lv (As.reverse ++ .ref (xB X + a) :: st) σ kc ks Q := by
  intro H locs ls hV hS hl
  have hR := hC.2.2.2.2.2.2.2.2.2.1
  have hwr := mW_at (cy := X.2.2.2.1.1) (B := xB X) hT
  rw [mE_o h13] at hwr
  obtain ⟨q, hq, -⟩ := hV.2.1 a _ hwr
  have hr := va_recv hC.2.2.2.2.2.1.1 hV.2.1 hq hwr
  rw [hcl q hq] at hr
  have hV' : mV X.2.2.2.1.1 X.2.2.2.1.2.1 (xB X) ps' ts' σ H := ⟨hV.1, hV.2.1, hσ hV.2.2⟩
  refine m_call (va_runV (As := As) (rest := st) ⟨hC.1, hC.2.1, hC.2.2.1, hC.2.2.2.1, hC.2.2.2.2.1⟩ hM ⟨m_B hC hW hL hd', hC.2.2.2.2.1 _ hY.1, hC.2.2.2.2.1 _ hY.2⟩ ⟨mPc_blind, hr, m_pre hC hV' hS _⟩ rfl hn hl.1 rfl (lv_room hst) hd (by rw [hR.2.1, hR.2.2.1]; exact ⟨hk, hs⟩)) hS (fun rv σ' H1 locs1 h1 h2 h3 => ?_)
  exact kk rv σ' h1 H1 locs1 ls ⟨h2.1, h2.2.1, h2.2.2.sub hp ht⟩ h3 hl
theorem g_callS (hC : mOK X cc own nm ret d mc ms) (hW : yW y bytes maxL rt n) (hY : yS y) (hL : Cond.methodLink own index y ∈ TB) (hd : decode cc pc = .ok (.invokestatic index, 3))
    (hp : ∀ e ∈ xP X, e ∈ ps') (ht : ∀ e ∈ xT X, e ∈ ts') (hσ : mS (xP X) (xT X) σ → mS ps' ts' σ) (hM : mM (xZ X) ps' ts' y bytes maxL rt d' mc' ms' As σ Qp)
    (hn : As.length = n) (hst : (st.map fun v => v.category).sum ≤ 8) (hd' : d' + 1 ≤ d) (hk : kc + mc' ≤ mc) (hs : ks + ms' ≤ ms)
    (kk : ∀ rv σ', Qp rv σ' → mG X (pc + 3) lv (rv.toList ++ st) σ' (kc + mc') (ks + ms') Q) : mG X pc lv (As.reverse ++ st) σ kc ks Q := by
  intro H locs ls hV hS hl
  have hR := hC.2.2.2.2.2.2.2.2.2.1
  have hV' : mV X.2.2.2.1.1 X.2.2.2.1.2.1 (xB X) ps' ts' σ H := ⟨hV.1, hV.2.1, hσ hV.2.2⟩
  refine m_call (va_runS (As := As) (rest := st) ⟨hC.1, hC.2.1, hC.2.2.1, hC.2.2.2.1, hC.2.2.2.2.1⟩ hM ⟨m_B hC hW hL hd', hC.2.2.2.2.1 _ hY⟩ ⟨mPc_blind, m_pre hC hV' hS _⟩ rfl hn hl.1 rfl (lv_room hst) hd (by rw [hR.2.1, hR.2.2.1]; exact ⟨hk, hs⟩)) hS (fun rv σ' H1 locs1 h1 h2 h3 => ?_)
  exact kk rv σ' h1 H1 locs1 ls ⟨h2.1, h2.2.1, h2.2.2.sub hp ht⟩ h3 hl
theorem g_callI (hC : mOK X cc own nm ret d mc ms) {a : Nat} (hW : yW y bytes maxL none n) (hY : yI y) (hL : Cond.methodLink own index y ∈ TB) (hd : decode cc pc = .ok (.invokespecial index, 3))
    (hp : ∀ e ∈ xP X, e ∈ ps') (ht : ∀ e ∈ xT X, e ∈ ts') (hσ : mS (xP X) (xT X) σ → mS ps' ts' σ) (hM : mM (xZ X) ps' ts' y bytes maxL none d' mc' ms' (.ref (xB X + a) :: As) σ Qp)
    (hn : As.length = n) (hst : (st.map fun v => v.category).sum ≤ 8) (hd' : d' + 1 ≤ d) (hk : kc + mc' ≤ mc) (hs : ks + ms' ≤ ms)
    (kk : ∀ rv σ', Qp rv σ' → mG X (pc + 3) lv (rv.toList ++ st) σ' (kc + mc') (ks + ms') Q) : mG X pc lv (As.reverse ++ .ref (xB X + a) :: st) σ kc ks Q := by
  intro H locs ls hV hS hl
  have hR := hC.2.2.2.2.2.2.2.2.2.1
  have hV' : mV X.2.2.2.1.1 X.2.2.2.1.2.1 (xB X) ps' ts' σ H := ⟨hV.1, hV.2.1, hσ hV.2.2⟩
  refine m_call (va_runI (As := As) (rest := st) ⟨hC.1, hC.2.1, hC.2.2.1, hC.2.2.2.1, hC.2.2.2.2.1⟩ hM ⟨m_B hC hW hL hd', hY.2, hC.2.2.2.2.1 _ hY.1⟩ ⟨mPc_blind, m_pre hC hV' hS _⟩ rfl hn hl.1 rfl (lv_room hst) hd (by rw [hR.2.1, hR.2.2.1]; exact ⟨hk, hs⟩)) hS (fun rv σ' H1 locs1 h1 h2 h3 => ?_)
  exact kk rv σ' h1 H1 locs1 ls ⟨h2.1, h2.2.1, h2.2.2.sub hp ht⟩ h3 hl
theorem g_callU (hC : mOK X cc own nm ret d mc ms) {a ci n0 : Nat} {C : String} {x : MethodName} (hT : mT σ a = some (ci, n0)) (h13 : ci < 13) (hcl : ∀ q : vw_C, vwCl[ci]? = some q → q.1 = C) (hW : yW y bytes maxL rt n) (hY : yU C x y) (hL : Cond.methodLink own index x ∈ TB) (hd : decode cc pc = .ok (.invokevirtual index, 3))
    (hp : ∀ e ∈ xP X, e ∈ ps') (ht : ∀ e ∈ xT X, e ∈ ts') (hσ : mS (xP X) (xT X) σ → mS ps' ts' σ) (hM : mM (xZ X) ps' ts' y bytes maxL rt d' mc' ms' (.ref (xB X + a) :: As) σ Qp)
    (hn : As.length = n) (hst : (st.map fun v => v.category).sum ≤ 8) (hd' : d' + 1 ≤ d) (hk : kc + mc' ≤ mc) (hs : ks + ms' ≤ ms)
    (kk : ∀ rv σ', Qp rv σ' → mG X (pc + 3) lv (rv.toList ++ st) σ' (kc + mc') (ks + ms') Q) : mG X pc lv (As.reverse ++ .ref (xB X + a) :: st) σ kc ks Q := by
  intro H locs ls hV hS hl
  have hR := hC.2.2.2.2.2.2.2.2.2.1
  have hts := hC.2.2.2.2.1
  have hwr := mW_at (cy := X.2.2.2.1.1) (B := xB X) hT
  rw [mE_o h13] at hwr
  obtain ⟨q, hq, -⟩ := hV.2.1 a _ hwr
  have hr := va_recv hC.2.2.2.2.2.1.1 hV.2.1 hq hwr
  rw [hcl q hq] at hr
  have hV' : mV X.2.2.2.1.1 X.2.2.2.1.2.1 (xB X) ps' ts' σ H := ⟨hV.1, hV.2.1, hσ hV.2.2⟩
  obtain ⟨u1, u2, u3, u4, ⟨b, nn, r, u5⟩, u6, u7, u8⟩ := hY
  obtain ⟨w1, w2, w3, w4, w5, w6⟩ := hW
  have cw : va_CU X.1.2.2.2 X.2.1.1 X.2.1.2.2.1 own C x.cls index x y bytes maxL rt (Cond.code y bytes maxL rt :: TB) (mRm d' mc' ms') mc' ms' n := by
    refine ⟨⟨rfl, rfl, Nat.le_trans hd' hR.1, by have := hR.2.2.2; show 8 + (maxL + 11) + 60 * d' ≤ _; omega, pay_in hts (TB_goodIn w1), List.mem_cons_self⟩, hts _ w1, hts _ w2, ⟨u7, u8⟩, fun sig h => ?_, hts _ hL, hts _ u1, va_Decl.of (hts _ u4) (hts _ u5), hts _ u2, hts _ u3⟩
    rw [u6] at h
    rw [h] at w6
    exact (Option.some.inj w6).symm
  refine m_call (va_runU (As := As) (rest := st) ⟨hC.1, hC.2.1, hC.2.2.1, hC.2.2.2.1, hts⟩ hM cw ⟨mPc_blind, hr, m_pre hC hV' hS _⟩ rfl hn hl.1 rfl (lv_room hst) hd (by rw [hR.2.1, hR.2.2.1]; exact ⟨hk, hs⟩)) hS (fun rv σ' H1 locs1 h1 h2 h3 => ?_)
  exact kk rv σ' h1 H1 locs1 ls ⟨h2.1, h2.2.1, h2.2.2.sub hp ht⟩ h3 hl
theorem g_callP (hC : mOK X cc own nm ret d mc ms) {a ci n0 : Nat} (hT : mT σ a = some (ci, n0)) (h13 : ci < 13) (hW : yW y bytes maxL rt n) (hY : yP own y) (hL : Cond.methodLink own index y ∈ TB) (hd : decode cc pc = .ok (.invokespecial index, 3))
    (hp : ∀ e ∈ xP X, e ∈ ps') (ht : ∀ e ∈ xT X, e ∈ ts') (hσ : mS (xP X) (xT X) σ → mS ps' ts' σ) (hM : mM (xZ X) ps' ts' y bytes maxL rt d' mc' ms' (.ref (xB X + a) :: As) σ Qp)
    (hn : As.length = n) (hst : (st.map fun v => v.category).sum ≤ 8) (hd' : d' + 1 ≤ d) (hk : kc + mc' ≤ mc) (hs : ks + ms' ≤ ms)
    (kk : ∀ rv σ', Qp rv σ' → mG X (pc + 3) lv (rv.toList ++ st) σ' (kc + mc') (ks + ms') Q) : mG X pc lv (As.reverse ++ .ref (xB X + a) :: st) σ kc ks Q := by
  intro H locs ls hV hS hl
  have hR := hC.2.2.2.2.2.2.2.2.2.1
  have hts := hC.2.2.2.2.1
  have hwr := mW_at (cy := X.2.2.2.1.1) (B := xB X) hT
  rw [mE_o h13] at hwr
  obtain ⟨q, hq, -⟩ := hV.2.1 a _ hwr
  have hr := va_recv hC.2.2.2.2.2.1.1 hV.2.1 hq hwr
  have hV' : mV X.2.2.2.1.1 X.2.2.2.1.2.1 (xB X) ps' ts' σ H := ⟨hV.1, hV.2.1, hσ hV.2.2⟩
  have cw := va_cwSU (R := X.1.2.2.2) (s := X.2.1.1) (args := X.2.1.2.2.1) (own := own) (index := index) (maxL := maxL) (mc := mc') (ms := ms') (y := y) (bytes := bytes) (ret := rt) (ws := Cond.code y bytes maxL rt :: TB) (rm := mRm d' mc' ms') n hts (fun w h => by
    rcases List.mem_append.mp h with h | h
    · simp only [List.mem_cons, List.not_mem_nil, or_false] at h
      have hm : w ∈ TB := by
        rcases h with rfl | rfl | rfl | rfl | rfl
        · exact hL
        · exact hY.1
        · exact hY.2.1
        · exact hY.2.2.1
        · exact hW.2.1
      exact ⟨hm, good_of_word (TB_good hm)⟩
    · exact TB_goodIn hW.1 w h) rfl rfl rfl ⟨hY.2.2.2, hW.2.2.2.2.2⟩ (by have := hW.2.2.1; have h9 := hR.2.2.2; exact ⟨Nat.le_trans hd' hR.1, by show 8 + (maxL + 11) + 60 * d' ≤ _; omega⟩)
  refine m_call (va_runSU (As := As) (rest := st) (hC.2.2.2.2.2.1.1.1 ci q hq).2 ⟨hC.1, hC.2.1, hC.2.2.1, hC.2.2.2.1, hts⟩ hM cw ⟨mPc_blind, hr, m_pre hC hV' hS _⟩ rfl hn hl.1 rfl (lv_room hst) hd (by rw [hR.2.1, hR.2.2.1]; exact ⟨hk, hs⟩)) hS (fun rv σ' H1 locs1 h1 h2 h3 => ?_)
  exact kk rv σ' h1 H1 locs1 ls ⟨h2.1, h2.2.1, h2.2.2.sub hp ht⟩ h3 hl
/-- Object's own <init> -/
theorem g_objInit (hC : mOK X cc own nm ret d mc ms) {a : Nat} (h1 : Cond.methodLink own index Lib.objectInit ∈ TB) (h2 : Cond.instanceMethod Lib.objectInit ∈ TB) (h3 : Cond.code Lib.objectInit ⟨#[0xb1]⟩ 1 none ∈ TB) (hst : (st.map fun v => v.category).sum ≤ 8) (hd1 : 1 ≤ d) (hd : decode cc pc = .ok (.invokespecial index, 3)) (kk : mG X (pc + 3) lv st σ kc ks Q) : mG X pc lv (.ref a :: st) σ kc ks Q := by
  intro H locs ls hV hS hl
  have hR := hC.2.2.2.2.2.2.2.2.2.1
  have hts := hC.2.2.2.2.1
  refine W.objInit hC.1 hC.2.1 hC.2.2.2.1 (hts _ h1) (hts _ h2) (hts _ h3) rfl (by rw [hC.2.2.1]; exact hl.1) rfl hd (Nat.le_trans hd1 hR.1) ?_ (W.eq (g2 := F0 X.2.1.2.1 (pc + 3) ls st) rfl (kk H locs ls hV hS hl))
  have := lv_room (m := X.2.1.2.1) (pc := pc) (ls := ls) (rest := (.ref a :: st)) hst
  have h9 := hR.2.2.2
  show _ + 12 ≤ _
  omega
end GC
/-! shapes for the generated rows -/
/-- a reference or null of the memory, as a value -/
abbrev rq (X : Cx) (o : Option Nat) : Value := va_rf (o.map (fun r => xB X + r))
def qV (Q : Mem → Prop) : Option Value → Mem → Prop := fun rv σ => rv = none ∧ Q σ
def qI (Q : Int32 → Mem → Prop) : Option Value → Mem → Prop := fun rv σ => ∃ v, rv = some (.int v) ∧ Q v σ
def qJ (Q : Int64 → Mem → Prop) : Option Value → Mem → Prop := fun rv σ => ∃ v, rv = some (.long v) ∧ Q v σ
def qA (B : Nat) (Q : Option Nat → Mem → Prop) : Option Value → Mem → Prop := fun rv σ => ∃ o : Option Nat, rv = some (va_rf (o.map (fun r => B + r))) ∧ Q o σ
/-- a number that a boolean may be -/
def bz (v : Int32) : Prop := narrow .boolean (.int v) = .int v
theorem bz0 : bz 0 := rfl
theorem bz1 : bz 1 := rfl
/-- the kinds of Layer -/
def lyK (ci : Nat) : Prop := ci = 0 ∨ ci = 2 ∨ ci = 3 ∨ ci = 4 ∨ ci = 8 ∨ ci = 10
section GS
variable {X : Cx} {cc : ByteArray} {own nm : String} {ret : Option FieldType} {d mc ms : Nat} {pc : Nat} {lv : List (Nat × Value)} {st : List Value} {σ : Mem} {kc ks : Nat} {Q : State → Prop}
theorem kV {P : Mem → Prop} (h : ∀ σ', P σ' → mG X pc lv st σ' kc ks Q) : ∀ rv σ', qV P rv σ' → mG X pc lv (rv.toList ++ st) σ' kc ks Q := by
  rintro _ σ' ⟨rfl, hq⟩; exact h σ' hq
theorem kI {P : Int32 → Mem → Prop} (h : ∀ v σ', P v σ' → mG X pc lv (.int v :: st) σ' kc ks Q) : ∀ rv σ', qI P rv σ' → mG X pc lv (rv.toList ++ st) σ' kc ks Q := by
  rintro _ σ' ⟨v, rfl, hq⟩; exact h v σ' hq
theorem kJ {P : Int64 → Mem → Prop} (h : ∀ v σ', P v σ' → mG X pc lv (.long v :: st) σ' kc ks Q) : ∀ rv σ', qJ P rv σ' → mG X pc lv (rv.toList ++ st) σ' kc ks Q := by
  rintro _ σ' ⟨v, rfl, hq⟩; exact h v σ' hq
theorem kA {P : Option Nat → Mem → Prop} (h : ∀ o σ', P o σ' → mG X pc lv (rq X o :: st) σ' kc ks Q) : ∀ rv σ', qA (xB X) P rv σ' → mG X pc lv (rv.toList ++ st) σ' kc ks Q := by
  rintro _ σ' ⟨o, rfl, hq⟩; exact h o σ' hq
theorem mG.pick {lv' : List (Nat × Value)} (is : List Nat) (h : lv_pick lv is = lv') (k : mG X pc lv' st σ kc ks Q) : mG X pc lv st σ kc ks Q := fun H locs ls a b c => k H locs ls a b (lv_sub c is h)
theorem g_topi {x : Int32} (k : ∀ y, y = x → mG X pc lv (.int y :: st) σ kc ks Q) : mG X pc lv (.int x :: st) σ kc ks Q := k x rfl
theorem g_topj {x : Int64} (k : ∀ y, y = x → mG X pc lv (.long y :: st) σ kc ks Q) : mG X pc lv (.long x :: st) σ kc ks Q := k x rfl
theorem g_topq {x : Option Nat} (k : ∀ y, y = x → mG X pc lv (rq X y :: st) σ kc ks Q) : mG X pc lv (rq X x :: st) σ kc ks Q := k x rfl
theorem g_ifnullR (hC : mOK X cc own nm ret d mc ms) {r : Nat} {off : Int} (hd : decode cc pc = .ok (.ifnull off, 3)) (k : mG X (pc + 3) lv st σ kc ks Q) : mG X pc lv (.ref r :: st) σ kc ks Q := fun H locs ls a b c => lv_ifnull hC.1 hC.2.1 hd (k H locs ls a b c)
theorem g_ifnullN (hC : mOK X cc own nm ret d mc ms) {off : Int} {tgt : Nat} (hd : decode cc pc = .ok (.ifnull off, 3)) (ht : (pc : Int) + off = (tgt : Int)) (k : mG X tgt lv st σ kc ks Q) : mG X pc lv (.null :: st) σ kc ks Q := fun H locs ls a b c => lv_ifnullN hC.1 hC.2.1 hd ht (k H locs ls a b c)
theorem g_ifnonnullR (hC : mOK X cc own nm ret d mc ms) {r : Nat} {off : Int} {tgt : Nat} (hd : decode cc pc = .ok (.ifnonnull off, 3)) (ht : (pc : Int) + off = (tgt : Int)) (k : mG X tgt lv st σ kc ks Q) : mG X pc lv (.ref r :: st) σ kc ks Q := fun H locs ls a b c => lv_ifnonnull hC.1 hC.2.1 hd ht (k H locs ls a b c)
theorem g_ifnonnullN (hC : mOK X cc own nm ret d mc ms) {off : Int} (hd : decode cc pc = .ok (.ifnonnull off, 3)) (k : mG X (pc + 3) lv st σ kc ks Q) : mG X pc lv (.null :: st) σ kc ks Q := fun H locs ls a b c => lv_ifnonnullN hC.1 hC.2.1 hd (k H locs ls a b c)
theorem g_aretR {Qp : Option Value → Mem → Prop} {rt : FieldType} {r : Nat} (hC : mOK X cc own nm (some rt) d mc ms) (hrt : (∃ n, rt = .object n) ∨ ∃ t, rt = .array t) (hk : kc ≤ mc) (hs : ks ≤ ms) (hd : decode cc pc = .ok (.areturn, 1)) (h : mS (xP X) (xT X) σ → Qp (some (.ref r)) σ) : mG X pc lv [.ref r] σ kc ks (mQ X mc ms Qp) := g_aret (o := some r) hC hrt hk hs hd h
theorem g_aretN {Qp : Option Value → Mem → Prop} {rt : FieldType} (hC : mOK X cc own nm (some rt) d mc ms) (hrt : (∃ n, rt = .object n) ∨ ∃ t, rt = .array t) (hk : kc ≤ mc) (hs : ks ≤ ms) (hd : decode cc pc = .ok (.areturn, 1)) (h : mS (xP X) (xT X) σ → Qp (some .null) σ) : mG X pc lv [.null] σ kc ks (mQ X mc ms Qp) := g_aret (o := none) hC hrt hk hs hd h
theorem g_getiS (hC : mOK X cc own nm ret d mc ms) {index ci k n a : Nat} (hL : fLs own index ci k true) (hT : (a, ci, n) ∈ xT X) (hd : decode cc pc = .ok (.getfield index, 3)) (kk : mG X (pc + 3) lv (.int (mI σ a k) :: st) σ kc ks Q) : mG X pc lv (.ref (xB X + a) :: st) σ kc ks Q := g_known fun hS => g_geti hC hL (hS.2 _ hT) hd kk
theorem g_getqS (hC : mOK X cc own nm ret d mc ms) {index ci k n a : Nat} (hL : fLs own index ci k false) (hT : (a, ci, n) ∈ xT X) (hd : decode cc pc = .ok (.getfield index, 3)) (kk : mG X (pc + 3) lv (rq X (mP σ a k) :: st) σ kc ks Q) : mG X pc lv (.ref (xB X + a) :: st) σ kc ks Q := g_known fun hS => g_getq hC hL (hS.2 _ hT) hd kk
theorem g_getrS (hC : mOK X cc own nm ret d mc ms) {index ci k n a r : Nat} (hL : fLs own index ci k false) (hT : (a, ci, n) ∈ xT X) (hp : (a, k, r) ∈ xP X) (hd : decode cc pc = .ok (.getfield index, 3)) (kk : mG X (pc + 3) lv (.ref (xB X + r) :: st) σ kc ks Q) : mG X pc lv (.ref (xB X + a) :: st) σ kc ks Q := g_known fun hS => g_getr hC hL (hS.2 _ hT) (hS.1 _ hp).1 hd kk
theorem g_putIS (hC : mOK X cc own nm ret d mc ms) {index ci k n a : Nat} {v : Int32} (hL : fW own nm index ci k true) (hT : (a, ci, n) ∈ xT X) (hn : narrow (tyX ci k) (.int v) = .int v) (hfit : fits (tyX ci k) (.int v) = true) (hd : decode cc pc = .ok (.putfield index, 3)) (kk : mG X (pc + 3) lv st (sI σ a k v) kc ks Q) : mG X pc lv (.int v :: .ref (xB X + a) :: st) σ kc ks Q := g_known fun hS => g_putI hC hL (hS.2 _ hT) hn hfit hd kk
theorem g_ialdK (hC : mOK X cc own nm ret d mc ms) {a n k : Nat} {i : Int32} (hT : mT σ a = some (14, n)) (hk : i.toNatClampNeg = k) (hin : vp_in i n) (hd : decode cc pc = .ok (.iaload, 1)) (kk : mG X (pc + 1) lv (.int (mI σ a k) :: st) σ kc ks Q) : mG X pc lv (.int i :: .ref (xB X + a) :: st) σ kc ks Q := by subst hk; exact g_iald hC hT hin hd kk
theorem g_ialdS (hC : mOK X cc own nm ret d mc ms) {a n k : Nat} {i : Int32} (hT : (a, 14, n) ∈ xT X) (hk : i.toNatClampNeg = k) (hin : vp_in i n) (hd : decode cc pc = .ok (.iaload, 1)) (kk : mG X (pc + 1) lv (.int (mI σ a k) :: st) σ kc ks Q) : mG X pc lv (.int i :: .ref (xB X + a) :: st) σ kc ks Q := g_known fun hS => g_ialdK hC (hS.2 _ hT) hk hin hd kk
theorem g_iastK (hC : mOK X cc own nm ret d mc ms) {a n k : Nat} {i x : Int32} (hT : mT σ a = some (14, n)) (hk : i.toNatClampNeg = k) (hin : vp_in i n) (hd : decode cc pc = .ok (.iastore, 1)) (kk : mG X (pc + 1) lv st (sI σ a k x) kc ks Q) : mG X pc lv (.int x :: .int i :: .ref (xB X + a) :: st) σ kc ks Q := by subst hk; exact g_iast hC hT hin hd kk
theorem g_iastS (hC : mOK X cc own nm ret d mc ms) {a n k : Nat} {i x : Int32} (hT : (a, 14, n) ∈ xT X) (hk : i.toNatClampNeg = k) (hin : vp_in i n) (hd : decode cc pc = .ok (.iastore, 1)) (kk : mG X (pc + 1) lv st (sI σ a k x) kc ks Q) : mG X pc lv (.int x :: .int i :: .ref (xB X + a) :: st) σ kc ks Q := g_known fun hS => g_iastK hC (hS.2 _ hT) hk hin hd kk
theorem g_zaldK (hC : mOK X cc own nm ret d mc ms) {a n k : Nat} {i : Int32} (hT : mT σ a = some (15, n)) (hk : i.toNatClampNeg = k) (hin : vp_in i n) (hd : decode cc pc = .ok (.baload, 1)) (kk : mG X (pc + 1) lv (.int (mI σ a k) :: st) σ kc ks Q) : mG X pc lv (.int i :: .ref (xB X + a) :: st) σ kc ks Q := by subst hk; exact g_zald hC hT hin hd kk
theorem g_zaldS (hC : mOK X cc own nm ret d mc ms) {a n k : Nat} {i : Int32} (hT : (a, 15, n) ∈ xT X) (hk : i.toNatClampNeg = k) (hin : vp_in i n) (hd : decode cc pc = .ok (.baload, 1)) (kk : mG X (pc + 1) lv (.int (mI σ a k) :: st) σ kc ks Q) : mG X pc lv (.int i :: .ref (xB X + a) :: st) σ kc ks Q := g_known fun hS => g_zaldK hC (hS.2 _ hT) hk hin hd kk
theorem bz_nar {x : Int32} (h : bz x) : vp_nar .boolean x = x := by unfold vp_nar; rw [h]
theorem g_zastK (hC : mOK X cc own nm ret d mc ms) {a n k : Nat} {i x : Int32} (hT : mT σ a = some (15, n)) (hk : i.toNatClampNeg = k) (hin : vp_in i n) (hb : bz x) (hd : decode cc pc = .ok (.bastore, 1)) (kk : mG X (pc + 1) lv st (sI σ a k x) kc ks Q) : mG X pc lv (.int x :: .int i :: .ref (xB X + a) :: st) σ kc ks Q := by subst hk; exact g_zast hC hT hin (bz_nar hb) hd kk
theorem g_zastS (hC : mOK X cc own nm ret d mc ms) {a n k : Nat} {i x : Int32} (hT : (a, 15, n) ∈ xT X) (hk : i.toNatClampNeg = k) (hin : vp_in i n) (hb : bz x) (hd : decode cc pc = .ok (.bastore, 1)) (kk : mG X (pc + 1) lv st (sI σ a k x) kc ks Q) : mG X pc lv (.int x :: .int i :: .ref (xB X + a) :: st) σ kc ks Q := g_known fun hS => g_zastK hC (hS.2 _ hT) hk hin hb hd kk
theorem g_caldK (hC : mOK X cc own nm ret d mc ms) {a n k : Nat} {i : Int32} (hT : mT σ a = some (13, n)) (hk : i.toNatClampNeg = k) (hin : vp_in i n) (hd : decode cc pc = .ok (.caload, 1)) (kk : mG X (pc + 1) lv (.int (mI σ a k) :: st) σ kc ks Q) : mG X pc lv (.int i :: .ref (xB X + a) :: st) σ kc ks Q := by subst hk; exact g_cald hC hT hin hd kk
theorem g_caldS (hC : mOK X cc own nm ret d mc ms) {a n k : Nat} {i : Int32} (hT : (a, 13, n) ∈ xT X) (hk : i.toNatClampNeg = k) (hin : vp_in i n) (hd : decode cc pc = .ok (.caload, 1)) (kk : mG X (pc + 1) lv (.int (mI σ a k) :: st) σ kc ks Q) : mG X pc lv (.int i :: .ref (xB X + a) :: st) σ kc ks Q := g_known fun hS => g_caldK hC (hS.2 _ hT) hk hin hd kk
theorem g_castK (hC : mOK X cc own nm ret d mc ms) {a n k : Nat} {i x : Int32} (hT : mT σ a = some (13, n)) (hk : i.toNatClampNeg = k) (hin : vp_in i n) (hb : vp_nar .char x = x) (hd : decode cc pc = .ok (.castore, 1)) (kk : mG X (pc + 1) lv st (sI σ a k x) kc ks Q) : mG X pc lv (.int x :: .int i :: .ref (xB X + a) :: st) σ kc ks Q := by subst hk; exact g_cast hC hT hin hb hd kk
theorem g_aaldS (hC : mOK X cc own nm ret d mc ms) {a t n k : Nat} {i : Int32} (hT : (a, t, n) ∈ xT X) (h1 : 16 ≤ t) (h2 : t < 19) (hk : i.toNatClampNeg = k) (hin : vp_in i n) (hd : decode cc pc = .ok (.aaload, 1)) (kk : mG X (pc + 1) lv (rq X (mP σ a k) :: st) σ kc ks Q) : mG X pc lv (.int i :: .ref (xB X + a) :: st) σ kc ks Q := by subst hk; exact g_known fun hS => g_aald hC (hS.2 _ hT) h1 h2 hin hd kk
theorem g_alenS (hC : mOK X cc own nm ret d mc ms) {a t n : Nat} (hT : (a, t, n) ∈ xT X) (h1 : 13 ≤ t) (h2 : t < 19) (hd : decode cc pc = .ok (.arraylength, 1)) (kk : mG X (pc + 1) lv (.int (nI n) :: st) σ kc ks Q) : mG X pc lv (.ref (xB X + a) :: st) σ kc ks Q := g_known fun hS => g_alen hC (hS.2 _ hT) h1 h2 hd kk
/-- System.arraycopy of ints -/
theorem g_copy (hC : mOK X cc own nm ret d mc ms) {index a0 a1 n0 n1 : Nat} {sp dp n : Int32} (hT0 : mT σ a0 = some (14, n0)) (hT1 : mT σ a1 = some (14, n1)) (w1 : Cond.methodLink own index arraycopyName ∈ TB) (w2 : Cond.native arraycopyName ∈ TB) (w3 : Cond.static arraycopyName ∈ TB) (w4 : Cond.initialized "java/lang/System" ∈ TB)
    (h1 : ¬ sp < 0) (h2 : ¬ dp < 0) (h3 : ¬ n < 0) (h4 : sp.toNatClampNeg + n.toNatClampNeg ≤ n0) (h5 : dp.toNatClampNeg + n.toNatClampNeg ≤ n1) (hd1 : 1 ≤ d) (hst : (st.map fun v => v.category).sum + (nativeFrameWords "java/lang/System" "arraycopy" 5 + 11) ≤ 60) (hd : decode cc pc = .ok (.invokestatic index, 3))
    (kk : mG X (pc + 3) lv st (sR σ a1 (va_cpy (σ.1 a0) (σ.1 a1) sp.toNatClampNeg dp.toNatClampNeg n.toNatClampNeg)) kc ks Q) : mG X pc lv (.int n :: .int dp :: .ref (xB X + a1) :: .int sp :: .ref (xB X + a0) :: st) σ kc ks Q := by
  intro H locs ls hV hS hl
  have hR := hC.2.2.2.2.2.2.2.2.2.1
  have hts := hC.2.2.2.2.1
  refine w_copyi hC.1 hC.2.1 (by rw [hC.2.2.1]; exact hl.1.symm) hC.2.2.2.1 (hts _ w1) (hts _ w2) (hts _ w3) (hts _ w4) hC.2.2.2.2.2.1.1 hV.2.1 mW_D hS a0 a1 1 1 (mW_int (by decide) (by decide) hT0) (mW_int (by decide) (by decide) hT1) rfl rfl h1 h2 h3 h4 h5 (Nat.le_trans hd1 hR.1) (by have := hR.2.2.2; omega) hd (fun H1 locs1 hz hP1 hS1 => ?_)
  rw [mW_setI (by decide) (by decide) hT1] at hP1
  exact kk H1 locs1 ls ⟨hz.trans hV.1, hP1, hV.2.2.sR a1 _⟩ hS1 hl
end GS
theorem vpl {i : Int32} {n : Nat} (h : (decide (i < 0) || decide (n ≤ i.toNatClampNeg)) = false) : vp_in i n := by
  simp only [Bool.or_eq_false_iff, decide_eq_false_iff_not] at h
  exact fun q => q.elim h.1 h.2
theorem mG.st {X : Cx} {pc : Nat} {lv : List (Nat × Value)} {st st1 : List Value} {σ : Mem} {kc ks : Nat} {Q : State → Prop} (h : st = st1) (k : mG X pc lv st1 σ kc ks Q) : mG X pc lv st σ kc ks Q := h ▸ k
/-- no key of a switch -/
theorem sw_out (lo hi : Int) (x : Int32) (h : lo ≤ hi) (ks : List Int32) (hk : ks.map Int32.toInt = (List.range (hi - lo + 1).toNat).map (fun i : Nat => lo + (i : Int))) (hn : ∀ k ∈ ks, ¬ x = k) : x.toInt < lo ∨ hi < x.toInt := by
  rcases Int.lt_or_le x.toInt lo with q | q
  · exact Or.inl q
  · rcases Int.lt_or_le hi x.toInt with q2 | q2
    · exact Or.inr q2
    · exfalso
      have hm : x.toInt ∈ (List.range (hi - lo + 1).toNat).map (fun i : Nat => lo + (i : Int)) := List.mem_map.mpr ⟨(x.toInt - lo).toNat, List.mem_range.mpr (by omega), by omega⟩
      rw [← hk] at hm
      obtain ⟨k, h1, h2⟩ := List.mem_map.mp hm
      exact hn k h1 (Int32.toInt_inj.mp h2.symm)
/-- a field by a subclass' name -/
theorem sf_same {A : Array Value} {s : State} {ref decl nm ds : String} {x : ClassId × Class × Nat × Field} (h : (Cond.sameField ref decl nm ds).before A s = true) (hx : s.fieldFound? decl nm ds = some x) : s.fieldFound? ref nm ds = some x := by
  exact u_same h x hx
theorem mI_sR_n (σ : Mem) {a : Nat} (f : Nat → Int32) {b j : Nat} (h : b ≠ a) : mI (sR σ a f) b j = mI σ b j := by rw [mI_sR, if_neg h]
section GV
variable {X : Cx} {cc : ByteArray} {own nm : String} {ret : Option FieldType} {d mc ms : Nat} {pc : Nat} {lv : List (Nat × Value)} {st : List Value} {σ : Mem} {kc ks : Nat} {Q : State → Prop}
theorem g_getiSv (hC : mOK X cc own nm ret d mc ms) {index ci k n a : Nat} {v : Int32} (hL : fLs own index ci k true) (hT : (a, ci, n) ∈ xT X) (hv : mI σ a k = v) (hd : decode cc pc = .ok (.getfield index, 3)) (kk : mG X (pc + 3) lv (.int v :: st) σ kc ks Q) : mG X pc lv (.ref (xB X + a) :: st) σ kc ks Q := by subst hv; exact g_getiS hC hL hT hd kk
theorem g_getiv (hC : mOK X cc own nm ret d mc ms) {index ci k n a : Nat} {v : Int32} (hL : fLs own index ci k true) (hT : mT σ a = some (ci, n)) (hv : mI σ a k = v) (hd : decode cc pc = .ok (.getfield index, 3)) (kk : mG X (pc + 3) lv (.int v :: st) σ kc ks Q) : mG X pc lv (.ref (xB X + a) :: st) σ kc ks Q := by subst hv; exact g_geti hC hL hT hd kk
theorem g_ialdKv (hC : mOK X cc own nm ret d mc ms) {a n k : Nat} {i v : Int32} (hT : mT σ a = some (14, n)) (hk : i.toNatClampNeg = k) (hin : vp_in i n) (hv : mI σ a k = v) (hd : decode cc pc = .ok (.iaload, 1)) (kk : mG X (pc + 1) lv (.int v :: st) σ kc ks Q) : mG X pc lv (.int i :: .ref (xB X + a) :: st) σ kc ks Q := by subst hv; exact g_ialdK hC hT hk hin hd kk
theorem g_ialdSv (hC : mOK X cc own nm ret d mc ms) {a n k : Nat} {i v : Int32} (hT : (a, 14, n) ∈ xT X) (hk : i.toNatClampNeg = k) (hin : vp_in i n) (hv : mI σ a k = v) (hd : decode cc pc = .ok (.iaload, 1)) (kk : mG X (pc + 1) lv (.int v :: st) σ kc ks Q) : mG X pc lv (.int i :: .ref (xB X + a) :: st) σ kc ks Q := by subst hv; exact g_ialdS hC hT hk hin hd kk
theorem g_zaldKv (hC : mOK X cc own nm ret d mc ms) {a n k : Nat} {i v : Int32} (hT : mT σ a = some (15, n)) (hk : i.toNatClampNeg = k) (hin : vp_in i n) (hv : mI σ a k = v) (hd : decode cc pc = .ok (.baload, 1)) (kk : mG X (pc + 1) lv (.int v :: st) σ kc ks Q) : mG X pc lv (.int i :: .ref (xB X + a) :: st) σ kc ks Q := by subst hv; exact g_zaldK hC hT hk hin hd kk
theorem g_zaldSv (hC : mOK X cc own nm ret d mc ms) {a n k : Nat} {i v : Int32} (hT : (a, 15, n) ∈ xT X) (hk : i.toNatClampNeg = k) (hin : vp_in i n) (hv : mI σ a k = v) (hd : decode cc pc = .ok (.baload, 1)) (kk : mG X (pc + 1) lv (.int v :: st) σ kc ks Q) : mG X pc lv (.int i :: .ref (xB X + a) :: st) σ kc ks Q := by subst hv; exact g_zaldS hC hT hk hin hd kk
theorem g_caldKv (hC : mOK X cc own nm ret d mc ms) {a n k : Nat} {i v : Int32} (hT : mT σ a = some (13, n)) (hk : i.toNatClampNeg = k) (hin : vp_in i n) (hv : mI σ a k = v) (hd : decode cc pc = .ok (.caload, 1)) (kk : mG X (pc + 1) lv (.int v :: st) σ kc ks Q) : mG X pc lv (.int i :: .ref (xB X + a) :: st) σ kc ks Q := by subst hv; exact g_caldK hC hT hk hin hd kk
theorem g_caldSv (hC : mOK X cc own nm ret d mc ms) {a n k : Nat} {i v : Int32} (hT : (a, 13, n) ∈ xT X) (hk : i.toNatClampNeg = k) (hin : vp_in i n) (hv : mI σ a k = v) (hd : decode cc pc = .ok (.caload, 1)) (kk : mG X (pc + 1) lv (.int v :: st) σ kc ks Q) : mG X pc lv (.int i :: .ref (xB X + a) :: st) σ kc ks Q := by subst hv; exact g_caldS hC hT hk hin hd kk
end GV
section GM
variable {X : Cx} {cc : ByteArray} {own nm : String} {ret : Option FieldType} {d mc ms : Nat} {pc : Nat} {lv : List (Nat × Value)} {st : List Value} {σ : Mem} {kc ks : Nat} {Q : State → Prop} {index : Nat}
theorem g_mmax (hC : mOK X cc own nm ret d mc ms) {x y : Int32} (w1 : Cond.methodLink own index Lib.Math.max.name ∈ TB) (w2 : Cond.static Lib.Math.max.name ∈ TB) (w3 : Cond.initialized "java/lang/Math" ∈ TB) (w4 : Cond.code Lib.Math.max.name Lib.Math.max.code 2 (some .int) ∈ TB) (hst : (st.map fun v => v.category).sum ≤ 8) (hd1 : 1 ≤ d) (hk : kc ≤ mc) (hs : ks ≤ ms) (hd : decode cc pc = .ok (.invokestatic index, 3)) (kk : mG X (pc + 3) lv (.int (if x < y then y else x) :: st) σ kc ks Q) : mG X pc lv (.int y :: .int x :: st) σ kc ks Q := by
  intro H locs ls hV hS hl
  have hR := hC.2.2.2.2.2.2.2.2.2.1
  have hts := hC.2.2.2.2.1
  exact va_mmax hC.1 hC.2.1 (by rw [hC.2.2.1]; exact hl.1.symm) hC.2.2.2.1 (hts _ w1) (hts _ w2) (hts _ w3) (hts _ w4) (Nat.le_trans hd1 hR.1) (by have := hR.2.2.2; omega) (by rw [hR.2.1]; exact hk) (by rw [hR.2.2.1]; exact hs) hd (kk H locs ls hV hS hl)
theorem g_mmin (hC : mOK X cc own nm ret d mc ms) {x y : Int32} (w1 : Cond.methodLink own index Lib.Math.min.name ∈ TB) (w2 : Cond.static Lib.Math.min.name ∈ TB) (w3 : Cond.initialized "java/lang/Math" ∈ TB) (w4 : Cond.code Lib.Math.min.name Lib.Math.min.code 2 (some .int) ∈ TB) (hst : (st.map fun v => v.category).sum ≤ 8) (hd1 : 1 ≤ d) (hk : kc ≤ mc) (hs : ks ≤ ms) (hd : decode cc pc = .ok (.invokestatic index, 3)) (kk : mG X (pc + 3) lv (.int (if y < x then y else x) :: st) σ kc ks Q) : mG X pc lv (.int y :: .int x :: st) σ kc ks Q := by
  intro H locs ls hV hS hl
  have hR := hC.2.2.2.2.2.2.2.2.2.1
  have hts := hC.2.2.2.2.1
  exact va_mmin hC.1 hC.2.1 (by rw [hC.2.2.1]; exact hl.1.symm) hC.2.2.2.1 (hts _ w1) (hts _ w2) (hts _ w3) (hts _ w4) (Nat.le_trans hd1 hR.1) (by have := hR.2.2.2; omega) (by rw [hR.2.1]; exact hk) (by rw [hR.2.2.1]; exact hs) hd (kk H locs ls hV hS hl)
theorem g_mabs (hC : mOK X cc own nm ret d mc ms) {x : Int32} (w1 : Cond.methodLink own index Lib.Math.abs.name ∈ TB) (w2 : Cond.static Lib.Math.abs.name ∈ TB) (w3 : Cond.initialized "java/lang/Math" ∈ TB) (w4 : Cond.code Lib.Math.abs.name Lib.Math.abs.code 1 (some .int) ∈ TB) (hst : (st.map fun v => v.category).sum ≤ 8) (hd1 : 1 ≤ d) (hk : kc ≤ mc) (hs : ks ≤ ms) (hd : decode cc pc = .ok (.invokestatic index, 3)) (kk : mG X (pc + 3) lv (.int (if 0 ≤ x then x else 0 - x) :: st) σ kc ks Q) : mG X pc lv (.int x :: st) σ kc ks Q := by
  intro H locs ls hV hS hl
  have hR := hC.2.2.2.2.2.2.2.2.2.1
  have hts := hC.2.2.2.2.1
  exact va_mabs hC.1 hC.2.1 (by rw [hC.2.2.1]; exact hl.1.symm) hC.2.2.2.1 (hts _ w1) (hts _ w2) (hts _ w3) (hts _ w4) (Nat.le_trans hd1 hR.1) (by have := hR.2.2.2; omega) (by rw [hR.2.1]; exact hk) (by rw [hR.2.2.1]; exact hs) hd (kk H locs ls hV hS hl)
theorem g_mmaxl (hC : mOK X cc own nm ret d mc ms) {x y : Int64} (w1 : Cond.methodLink own index Lib.MathLoose.max_long.x ∈ TB) (w2 : Cond.static Lib.MathLoose.max_long.x ∈ TB) (w3 : Cond.initialized "java/lang/Math" ∈ TB) (w4 : Cond.code Lib.MathLoose.max_long.x Lib.MathLoose.max_long.code 4 (some .long) ∈ TB) (hst : (st.map fun v => v.category).sum ≤ 8) (hd1 : 1 ≤ d) (hk : kc ≤ mc) (hs : ks ≤ ms) (hd : decode cc pc = .ok (.invokestatic index, 3)) (kk : mG X (pc + 3) lv (.long (if y < x then x else y) :: st) σ kc ks Q) : mG X pc lv (.long y :: .long x :: st) σ kc ks Q := by
  intro H locs ls hV hS hl
  have hR := hC.2.2.2.2.2.2.2.2.2.1
  have hts := hC.2.2.2.2.1
  exact va_mmax_long hC.1 hC.2.1 (by rw [hC.2.2.1]; exact hl.1.symm) hC.2.2.2.1 (hts _ w1) (hts _ w2) (hts _ w3) (hts _ w4) (Nat.le_trans hd1 hR.1) (by have := hR.2.2.2; omega) (by rw [hR.2.1]; exact hk) (by rw [hR.2.2.1]; exact hs) hd (kk H locs ls hV hS hl)
end GM
/-! String constants -/
section GStr
variable {X : Cx} {cc : ByteArray} {own nm : String} {ret : Option FieldType} {d mc ms : Nat} {pc : Nat} {lv : List (Nat × Value)} {st : List Value} {σ : Mem} {kc ks : Nat} {Q : State → Prop} {index : Nat}
/-- the address of a String constant, and of its bytes -/
abbrev xK (X : Cx) (k : Nat) : Nat := X.2.2.2.1.2.2.1 k
abbrev xV (X : Cx) (k : Nat) : Nat := X.2.2.2.1.2.2.2 k
theorem g_ldcS (hC : mOK X cc own nm ret d mc ms) {tx : String} (k : Nat) (hk : strX[k]? = some (own, index, tx)) (hd : decode cc pc = .ok (.ldc index, 2)) (kk : mG X (pc + 2) lv (.ref (xK X k) :: st) σ kc ks Q) : mG X pc lv st σ kc ks Q :=
  fun H locs ls hV hS hl => va_ldcS hC.1 hC.2.1 hC.2.2.2.1 (hC.2.2.2.2.2.1.2.2.1 k _ hk) hd (kk H locs ls hV hS hl)
theorem g_getst (hC : mOK X cc own nm ret d mc ms) (hw : Cond.fieldLink own index "java/lang/String" "COMPACT_STRINGS" "Z" ∈ TB) (hd : decode cc pc = .ok (.getstatic index, 3)) (kk : mG X (pc + 3) lv (.int 1 :: st) σ kc ks Q) : mG X pc lv st σ kc ks Q :=
  fun H locs ls hV hS hl => va_gets hC.1 hC.2.1 hC.2.2.2.2.2.1.2.2.2.2.2.1 hS hC.2.2.2.1 (hC.2.2.2.2.1 _ hw) (fun _ h => h) hd (kk H locs ls hV hS hl)
theorem g_getfmt (hC : mOK X cc own nm ret d mc ms) (hw : Cond.fieldLink own index "jdk/internal/util/Preconditions" "SIOOBE_FORMATTER" "Ljava/util/function/BiFunction;" ∈ TB) (hd : decode cc pc = .ok (.getstatic index, 3)) (kk : ∀ o : Option Nat, mG X (pc + 3) lv (va_rf o :: st) σ kc ks Q) : mG X pc lv st σ kc ks Q := by
  intro H locs ls hV hS hl
  rcases hC.2.2.2.2.2.1.2.2.2.2.2.2 with h | ⟨t, h⟩
  · exact va_gets hC.1 hC.2.1 h hS hC.2.2.2.1 (hC.2.2.2.2.1 _ hw) (fun _ h => h) hd (kk none H locs ls hV hS hl)
  · exact va_gets hC.1 hC.2.1 h hS hC.2.2.2.1 (hC.2.2.2.2.1 _ hw) (fun _ h => h) hd (kk (some t) H locs ls hV hS hl)
theorem g_getcoder (hC : mOK X cc own nm ret d mc ms) {k : Nat} (hk : k < 13) (hw : Cond.fieldLink own index "java/lang/String" "coder" "B" ∈ TB) (hd : decode cc pc = .ok (.getfield index, 3)) (kk : mG X (pc + 3) lv (.int 0 :: st) σ kc ks Q) : mG X pc lv (.ref (xK X k) :: st) σ kc ks Q :=
  fun H locs ls hV hS hl => vk_getf hC.1 hC.2.1 (hC.2.2.2.2.2.1.2.1.1 k hk).2.1 hS hC.2.2.2.1 (hC.2.2.2.2.1 _ hw) (fun _ h => h) hd (kk H locs ls hV hS hl)
theorem g_getvalue (hC : mOK X cc own nm ret d mc ms) {k : Nat} (hk : k < 13) (hw : Cond.fieldLink own index "java/lang/String" "value" "[B" ∈ TB) (hd : decode cc pc = .ok (.getfield index, 3)) (kk : mG X (pc + 3) lv (.ref (xV X k) :: st) σ kc ks Q) : mG X pc lv (.ref (xK X k) :: st) σ kc ks Q :=
  fun H locs ls hV hS hl => vk_getf hC.1 hC.2.1 (hC.2.2.2.2.2.1.2.1.1 k hk).2.2.1 hS hC.2.2.2.1 (hC.2.2.2.2.1 _ hw) (fun _ h => h) hd (kk H locs ls hV hS hl)
theorem g_bytlen (hC : mOK X cc own nm ret d mc ms) {k : Nat} (hk : k < 13) (hd : decode cc pc = .ok (.arraylength, 1)) (kk : mG X (pc + 1) lv (.int (nI (lenX.getD k 0)) :: st) σ kc ks Q) : mG X pc lv (.ref (xV X k) :: st) σ kc ks Q :=
  fun H locs ls hV hS hl => va_tlen hC.1 hC.2.1 (hC.2.2.2.2.2.1.2.1.1 k hk).2.2.2 hS rfl hd (kk H locs ls hV hS hl)
theorem g_bytat (hC : mOK X cc own nm ret d mc ms) {k : Nat} {i : Int32} (hk : k < 13) (hin : vp_in i (lenX.getD k 0)) (hd : decode cc pc = .ok (.baload, 1)) (kk : mG X (pc + 1) lv (.int ((bytX.getD k []).getD i.toNatClampNeg 0) :: st) σ kc ks Q) : mG X pc lv (.int i :: .ref (xV X k) :: st) σ kc ks Q :=
  fun H locs ls hV hS hl => va_tb hC.1 hC.2.1 (hC.2.2.2.2.2.1.2.1.1 k hk).2.2.2 hS hin rfl hd (kk H locs ls hV hS hl)
variable {n maxL d' mc' ms' : Nat} {y : MethodName} {bytes : ByteArray} {rt : Option FieldType} {As : List Value} {Qp : Option Value → Mem → Prop}
/-- a call on a String constant -/
theorem g_callX (hC : mOK X cc own nm ret d mc ms) {k : Nat} (hk : k < 13) (hcl : y.cls = "java/lang/String") (hW : yW y bytes maxL rt n) (hY : yV y) (hL : Cond.methodLink own index y ∈ TB) (hd : decode cc pc = .ok (.invokevirtual index, 3)) (hM : mM (xZ X) (xP X) (xT X) y bytes maxL rt d' mc' ms' (.ref (xK X k) :: As) σ Qp)
    (hn : As.length = n) (hst : (st.map fun v => v.category).sum ≤ 8) (hd' : d' + 1 ≤ d) (hkc : kc + mc' ≤ mc) (hs : ks + ms' ≤ ms)
    (kk : ∀ rv σ', Qp rv σ' → mG X (pc + 3) lv (rv.toList ++ st) σ' (kc + mc') (ks + ms') Q) : mG X pc lv (As.reverse ++ .ref (xK X k) :: st) σ kc ks Q := by
  intro H locs ls hV hS hl
  have hR := hC.2.2.2.2.2.2.2.2.2.1
  have hr := vk_recv hC.2.2.2.2.2.1.2.1 hk hS
  rw [← hcl] at hr
  refine m_call (va_runV (As := As) (rest := st) ⟨hC.1, hC.2.1, hC.2.2.1, hC.2.2.2.1, hC.2.2.2.2.1⟩ hM ⟨m_B hC hW hL hd', hC.2.2.2.2.1 _ hY.1, hC.2.2.2.2.1 _ hY.2⟩ ⟨mPc_blind, hr, m_pre hC hV hS _⟩ rfl hn hl.1 rfl (lv_room hst) hd (by rw [hR.2.1, hR.2.2.1]; exact ⟨hkc, hs⟩)) hS (fun rv σ' H1 locs1 h1 h2 h3 => ?_)
  exact kk rv σ' h1 H1 locs1 ls ⟨h2.1, h2.2.1, h2.2.2⟩ h3 hl
end GStr
