/-! stores, with the heap's size kept -/
section WS
variable {p : Program} {l : Launch} {e : Env} {R : Room} {s : State} {m : MethodId} {args : Array Value} {below : List Frame} {meth : Method} {c : Code} {H : Heap} {locs : List Loc} {cells slots : Nat} {Q : State → Prop}
variable {cc : ByteArray} {pc : Nat} {ls : Array Slot} {rest : List Value} {D : va_G} {cl : List vw_C} {A : Nat → Prop} {a : Nat} {tys : List (ClassId × FieldType)} {ws : va_W} {H0 : Heap}
theorem w_put (hexec : p.tables.exec = Jvm.exec) (hb : c.code = cc) {own C : String} {T : u_T} {N ci index : Nat} (hts : ∀ w ∈ TB, w.before args s = true) (hin : ∀ w ∈ u_ws C T N, w ∈ TB) (ty0 : Nat → FieldType) (hty : ∀ k, k < N → parseFieldDescriptor (T k).2.2.1 = some (ty0 k)) (hnm : ∀ a, a < N → ∀ b, b < N → a ≠ b → (T a).2.1 ≠ (T b).2.1) (hown : s.vm.findClass own = some m.cls) (hK : va_K D cl tys s) (hP : va_P D cl ws H) (hD : va_D A ws) (hS0 : va_S A H0 H locs) (q0 : Nat) {fs : List Value} (he : ws[q0]? = some (a, .inr (ci, fs))) (hc : cl[ci]? = some (C, T, N)) (k : Nat) (hk : k < N) (hlink : (Cond.fieldLink own index (T k).1 (T k).2.1 (T k).2.2.1).before args s = true) (hfin : (T k).2.2.2 = false ∨ ((T k).2.2.2 = true ∧ meth.name = "<init>" ∧ (T k).1 = own)) {v : Value} (hn : narrow (ty0 k) v = v) (hfit : fits (ty0 k) v = true) (hl : k < fs.length)
    (hdg : decode cc pc = .ok (.putfield index, 3)) (kk : ∀ (H1 : Heap) (locs1 : List Loc), H1.size = H.size → va_P D cl (ws.set q0 (a, .inr (ci, fs.set k v))) H1 → va_S A H0 H1 locs1 → W p l e R s m args below meth c H1 locs1 cells slots Q (F0 m (pc + 3) ls rest)) : W p l e R s m args below meth c H locs cells slots Q (F0 m pc ls (v :: .ref a :: rest)) := by
  have hap := va_apart (own := own) hts hin ty0 hty hnm hK hc
  obtain ⟨r, h1, cell, q1, q2, q3, q4⟩ := hP q0 _ he
  have hr : r = (C, T, N) := Option.some.inj (h1.symm.trans hc)
  subst hr
  obtain ⟨hS, hfc, kC, hkC, hkind⟩ := hK.1 ci _ hc
  obtain ⟨cf, kf, fi, f, hi, hsl⟩ := hS k hk
  have hlay := hts _ (hin _ (u_in_lay hk))
  unfold u_lay at hlay
  have hst := (u_facts hfc hkC (u_lays hts hin hk) hi).1
  rcases hfin with hfin | ⟨hfin, hin2, hdecl⟩
  · rw [if_neg (by rw [hfin]; decide)] at hlay
    have h6 := u_store hfc hkC hkind hlay hi (hty k hk) hn hfit
    refine W.putK hexec hb (f := f) ⟨hown, hlink, ⟨_, _, _, hi⟩, hst⟩ (by rw [q2]; exact h6) q1 q3 (by rw [hsl]; exact k2_hasslot (q4 k hk)) rfl rfl hdg fun H' e1 e2 e3 => ?_
    rw [hsl] at e1 ⊢
    exact kk H' _ e2 (hP.set hD he ⟨_, hc, t_OB.to (V := updV (vp_V fs) k v) ⟨_, e1, q2, q3, t_set q4 hap hk v⟩ (fun j _ => vp_updV_set hl v j)⟩ e3) (hS0.put e2 e3 (hD.2 q0 _ he))
  · rw [if_pos hfin] at hlay
    have hcf : m.cls = cf := by
      obtain ⟨_, _, c', _, _, _, -, -, hf', -, -, -, hown2, -⟩ := Cond.laysFinal_spec hlay
      have e1 : c' = cf := by have := hi.symm.trans hf'; simp at this; exact this.1.symm
      rw [hdecl] at hown2
      rw [← e1]; exact Option.some.inj (hown.symm.trans hown2)
    have h6 := u_fits hfc hkC hkind (Or.inr hlay) hi (hty k hk) hn hfit
    refine W.putFinK hexec hb hown hlink hi hst hcf hin2 (by rw [q2]; exact h6) q1 q3 (by rw [hsl]; exact k2_hasslot (q4 k hk)) rfl rfl hdg fun H' e1 e2 e3 => ?_
    rw [hsl] at e1 ⊢
    exact kk H' _ e2 (hP.set hD he ⟨_, hc, t_OB.to (V := updV (vp_V fs) k v) ⟨_, e1, q2, q3, t_set q4 hap hk v⟩ (fun j _ => vp_updV_set hl v j)⟩ e3) (hS0.put e2 e3 (hD.2 q0 _ he))
theorem w_iast (hexec : p.tables.exec = Jvm.exec) (hb : c.code = cc) (hK : va_K D cl tys s) (hP : va_P D cl ws H) (hD : va_D A ws) (hS : va_S A H0 H locs) (q0 t0 : Nat) {cA : ClassId} {n : Nat} {f : Nat → Int32} (ha : ws[q0]? = some (a, .inl (cA, n, .inl f))) (ht : tys[t0]? = some (cA, .int)) {i : Int32} {x : Int32} (hin : vp_in i n) (hdg : decode cc pc = .ok (.iastore, 1))
    (kk : ∀ (H1 : Heap) (locs1 : List Loc), H1.size = H.size → va_P D cl (ws.set q0 (a, .inl (cA, n, .inl (upd f i.toNatClampNeg x)))) H1 → va_S A H0 H1 locs1 → W p l e R s m args below meth c H1 locs1 cells slots Q (F0 m (pc + 1) ls rest)) : W p l e R s m args below meth c H locs cells slots Q (F0 m pc ls (.int x :: .int i :: .ref a :: rest)) := by
  refine W.iast hexec hb (hP q0 _ ha) ((hK.2 t0 _ ht).1 n (fun j => .int (f j))) (fun q => by cases q) (by show ¬ (i < 0 ∨ (arrV _ _ _).slots.size ≤ _); rw [arrV_size]; exact hin) rfl rfl hdg fun H1 e z oq => ?_
  refine kk H1 _ z (hP.set hD ha ?_ oq) (hS.put z oq (hD.2 q0 _ ha))
  show H1[a]? = some (vp_cell _ _)
  rw [e]
  rw [vp_cell_i, vp_cell_i, arrV_store]
  congr 2
  funext q
  by_cases hq : q = i.toNatClampNeg
  · subst hq
    simp [updV, upd]
    try rfl
  · simp [updV, upd, hq]
theorem w_zast (hexec : p.tables.exec = Jvm.exec) (hb : c.code = cc) (hK : va_K D cl tys s) (hP : va_P D cl ws H) (hD : va_D A ws) (hS : va_S A H0 H locs) (q0 t0 : Nat) {cA : ClassId} {n : Nat} {f : Nat → Int32} (ha : ws[q0]? = some (a, .inl (cA, n, .inl f))) (ht : tys[t0]? = some (cA, .boolean)) {i : Int32} {x : Int32} (hin : vp_in i n) (hdg : decode cc pc = .ok (.bastore, 1))
    (kk : ∀ (H1 : Heap) (locs1 : List Loc), H1.size = H.size → va_P D cl (ws.set q0 (a, .inl (cA, n, .inl (upd f i.toNatClampNeg (vp_nar .boolean x))))) H1 → va_S A H0 H1 locs1 → W p l e R s m args below meth c H1 locs1 cells slots Q (F0 m (pc + 1) ls rest)) : W p l e R s m args below meth c H locs cells slots Q (F0 m pc ls (.int x :: .int i :: .ref a :: rest)) := by
  refine W.zast hexec hb (hP q0 _ ha) ((hK.2 t0 _ ht).1 n (fun j => .int (f j))) (fun q => by cases q) (by show ¬ (i < 0 ∨ (arrV _ _ _).slots.size ≤ _); rw [arrV_size]; exact hin) rfl rfl hdg fun H1 e z oq => ?_
  refine kk H1 _ z (hP.set hD ha ?_ oq) (hS.put z oq (hD.2 q0 _ ha))
  show H1[a]? = some (vp_cell _ _)
  rw [e]
  rw [vp_cell_i, vp_cell_i, arrV_store]
  congr 2
  funext q
  by_cases hq : q = i.toNatClampNeg
  · subst hq
    simp [updV, upd, vp_nar]
    try rfl
  · simp [updV, upd, hq]
theorem w_cast (hexec : p.tables.exec = Jvm.exec) (hb : c.code = cc) (hK : va_K D cl tys s) (hP : va_P D cl ws H) (hD : va_D A ws) (hS : va_S A H0 H locs) (q0 t0 : Nat) {cA : ClassId} {n : Nat} {f : Nat → Int32} (ha : ws[q0]? = some (a, .inl (cA, n, .inl f))) (ht : tys[t0]? = some (cA, .char)) {i : Int32} {x : Int32} (hin : vp_in i n) (hdg : decode cc pc = .ok (.castore, 1))
    (kk : ∀ (H1 : Heap) (locs1 : List Loc), H1.size = H.size → va_P D cl (ws.set q0 (a, .inl (cA, n, .inl (upd f i.toNatClampNeg (vp_nar .char x))))) H1 → va_S A H0 H1 locs1 → W p l e R s m args below meth c H1 locs1 cells slots Q (F0 m (pc + 1) ls rest)) : W p l e R s m args below meth c H locs cells slots Q (F0 m pc ls (.int x :: .int i :: .ref a :: rest)) := by
  refine W.cast hexec hb (hP q0 _ ha) ((hK.2 t0 _ ht).1 n (fun j => .int (f j))) (fun q => by cases q) (by show ¬ (i < 0 ∨ (arrV _ _ _).slots.size ≤ _); rw [arrV_size]; exact hin) rfl rfl hdg fun H1 e z oq => ?_
  refine kk H1 _ z (hP.set hD ha ?_ oq) (hS.put z oq (hD.2 q0 _ ha))
  show H1[a]? = some (vp_cell _ _)
  rw [e]
  rw [vp_cell_i, vp_cell_i, arrV_store]
  congr 2
  funext q
  by_cases hq : q = i.toNatClampNeg
  · subst hq
    simp [updV, upd, vp_nar]
    try rfl
  · simp [updV, upd, hq]
theorem w_astq (hexec : p.tables.exec = Jvm.exec) (hb : c.code = cc) (hK : va_K D cl tys s) (hP : va_P D cl ws H) (hD : va_D A ws) (hS : va_S A H0 H locs) (q0 t0 : Nat) {E : String} {cA : ClassId} {n v : Nat} {f : Nat → Option Nat} (ha : ws[q0]? = some (a, .inl (cA, n, .inr (.inr (.inr (.inr f)))))) (ht : tys[t0]? = some (cA, .object E)) (hr : va_Any E s H v) {i : Int32} (hin : vp_in i n) (hdg : decode cc pc = .ok (.aastore, 1))
    (kk : ∀ (H1 : Heap) (locs1 : List Loc), H1.size = H.size → va_P D cl (ws.set q0 (a, .inl (cA, n, .inr (.inr (.inr (.inr (va_up f i.toNatClampNeg (some v)))))))) H1 → va_S A H0 H1 locs1 → W p l e R s m args below meth c H1 locs1 cells slots Q (F0 m (pc + 1) ls rest)) : W p l e R s m args below meth c H locs cells slots Q (F0 m pc ls (.ref v :: .int i :: .ref a :: rest)) := by
  have hlt : i.toNatClampNeg < n := Nat.not_le.mp fun q => hin (Or.inr q)
  have h0 : ¬ i < 0 := fun q => hin (Or.inl q)
  obtain ⟨cellV, g1, g3, ⟨kC, hkC⟩, hasg⟩ := hr
  obtain ⟨kA, comp, k1, k2, k3, -⟩ := (hK.2 t0 _ ht).2
  obtain ⟨kE, hkE, -⟩ := Vm.findClass_spec k3
  refine W.aast hexec hb (hP q0 _ ha) (fun q h => by cases h) (fun h => by cases h) k1 k2 rfl hkE ⟨h0, by show _ < (arrV _ _ _).slots.size; rw [arrV_size]; exact hlt⟩ g1 (fun q h => by rw [h] at g3; cases g3) hkC (hasg _ k3) rfl rfl hdg fun H1 e z oq => ?_
  refine kk H1 _ z (hP.set hD ha ?_ oq) (hS.put z oq (hD.2 q0 _ ha))
  show H1[a]? = some (vp_cell _ _)
  rw [e]
  rw [vp_cell_q, vp_cell_q, arrV_store]
  congr 2
  funext q
  by_cases hq : q = i.toNatClampNeg
  · subst hq
    simp [updV, va_up, va_rf]
  · simp [updV, va_up, hq]
theorem w_copyi {cc : ByteArray} (hexec : p.tables.exec = Jvm.exec) (hb : c.code = cc) (hml : c.maxLocals = ls.size) {own : String} {index : Nat} (hown : s.vm.findClass own = some m.cls) (hlink : (Cond.methodLink own index arraycopyName).before args s = true) (hnat : (Cond.native arraycopyName).before args s = true) (hstat : (Cond.static arraycopyName).before args s = true) (hini : (Cond.initialized "java/lang/System").before args s = true)
    (hK : va_K D cl tys s) (hP : va_P D cl ws H) (hD : va_D A ws) (hS : va_S A H0 H locs) (q0 q1 t0 t1 : Nat) {a0 : Nat} {c0 c1 : ClassId} {n0 n1 : Nat} {f g : Nat → Int32} (ha0 : ws[q0]? = some (a0, .inl (c0, n0, .inl f))) (ha1 : ws[q1]? = some (a, .inl (c1, n1, .inl g))) (ht0 : tys[t0]? = some (c0, .int)) (ht1 : tys[t1]? = some (c1, .int))
    {sp dp n : Int32} (h1 : ¬ sp < 0) (h2 : ¬ dp < 0) (h3 : ¬ n < 0) (h4 : sp.toNatClampNeg + n.toNatClampNeg ≤ n0) (h5 : dp.toNatClampNeg + n.toNatClampNeg ≤ n1)
    (hframes : 1 ≤ R.frames) (hlocals : (rest.map fun v => v.category).sum + (nativeFrameWords "java/lang/System" "arraycopy" 5 + 11) ≤ R.locals) (hdg : decode cc pc = .ok (.invokestatic index, 3))
    (kk : ∀ (H1 : Heap) (locs1 : List Loc), H1.size = H.size → va_P D cl (ws.set q1 (a, .inl (c1, n1, .inl (va_cpy f g sp.toNatClampNeg dp.toNatClampNeg n.toNatClampNeg)))) H1 → va_S A H0 H1 locs1 → W p l e R s m args below meth c H1 locs1 cells slots Q (F0 m (pc + 3) ls rest)) : W p l e R s m args below meth c H locs cells slots Q (F0 m pc ls (.int n :: .int dp :: .ref a :: .int sp :: .ref a0 :: rest)) := by
  have nn : ∀ z : Int32, ¬ z < 0 → z.toInt = (z.toNatClampNeg : Int) := by
    intro z hz
    have hz0 : (0 : Int) ≤ z.toInt := by
      have := Int32.not_lt.mp hz
      simpa using Int32.le_iff_toInt_le.mp this
    show z.toInt = ((z.toInt.toNat : Nat) : Int)
    omega
  intro T hT X
  have hc0 : H[a0]? = some (vp_cell c0 (n0, .inl f)) := hP q0 _ ha0
  have hc1 : H[a]? = some (vp_cell c1 (n1, .inl g)) := hP q1 _ ha1
  obtain ⟨-, k0, hk0, cm0, hkk0⟩ := (hK.2 t0 _ ht0).1 n0 (fun j => .int (f j))
  obtain ⟨-, k1, hk1, cm1, hkk1⟩ := (hK.2 t1 _ ht1).1 n1 (fun j => .int (g j))
  obtain ⟨vm', X', step⟩ := X.arraycopy hexec hown hlink hnat hstat hini (src := a0) (dst := a) (cs := vp_cell c0 (n0, .inl f)) (cd := vp_cell c1 (n1, .inl g)) (srcPos := sp) (destPos := dp) (n := n) (by rw [hT]; exact hc0) (by rw [hT]; exact hc1)
    (fun _ h => by cases h) (fun _ h => by cases h) (fun h => by cases h) (fun h => by cases h) hk0 hk1 hkk0 hkk1 (by simp [refKind]) h1 h2 h3
    (by rw [nn sp h1, nn n h3]; show ¬ _ > ((arrV c0 n0 (fun j => .int (f j))).slots.size : Int); rw [arrV_size]; omega)
    (by rw [nn dp h2, nn n h3]; show ¬ _ > ((arrV c1 n1 (fun j => .int (g j))).slots.size : Int); rw [arrV_size]; omega)
    (fun vm₁ _ i hi => by
      have e : (vp_cell c0 (n0, .inl f)).slots.getD (sp.toNatClampNeg + i) .null = .int (f (sp.toNatClampNeg + i)) := by
        show (arrV c0 n0 (fun j => .int (f j))).slots.getD _ _ = _
        rw [Array.getD_eq_getD_getElem?, arrV_read _ _ (by omega)]
        rfl
      refine ⟨?_, ?_⟩
      · rw [e]
        rfl
      · rw [e]
        exact trivial)
    (g := F0 m pc ls (.int n :: .int dp :: .ref a :: .int sp :: .ref a0 :: rest)) rfl (by rw [hml]) (rest := rest) rfl (by rw [hb]; exact hdg) hframes (by show 2 * 0 + _ + _ ≤ _; omega)
  have e1 : copied (vp_cell c0 (n0, .inl f)) (vp_cell c1 (n1, .inl g)) sp dp n = vp_cell c1 (n1, .inl (va_cpy f g sp.toNatClampNeg dp.toNatClampNeg n.toNatClampNeg)) := va_copied (fun z => .int z) c0 c1 f g h4
  rw [e1] at X' step
  have hl : a < H.size := (Array.getElem?_eq_some_iff.mp hc1).1
  have hheap : ((T.setVm vm').setCell a (vp_cell c1 (n1, .inl (va_cpy f g sp.toNatClampNeg dp.toNatClampNeg n.toNatClampNeg)))).heap = H.setIfInBounds a (vp_cell c1 (n1, .inl (va_cpy f g sp.toNatClampNeg dp.toNatClampNeg n.toNatClampNeg))) := by rw [← hT]; rfl
  have oq : ∀ q : Nat, q ≠ a → (H.setIfInBounds a (vp_cell c1 (n1, .inl (va_cpy f g sp.toNatClampNeg dp.toNatClampNeg n.toNatClampNeg))))[q]? = H[q]? := fun q hq => by simp [Array.getElem?_setIfInBounds, Ne.symm hq]
  obtain ⟨t, a1, b1⟩ := kk _ _ (by simp) (hP.set hD ha1 (show (H.setIfInBounds a _)[a]? = some _ by simp [Array.getElem?_setIfInBounds, hl]) oq) ⟨by simp; exact hS.1, fun q g1 g2 => by
      rw [oq q (fun e => g2 (by rw [e]; exact hD.2 q1 _ ha1))]
      exact hS.2.1 q g1 g2, fun q hq => by
      rcases List.mem_append.mp hq with h | h
      · exact hS.2.2 q h
      · obtain ⟨z, -, hz⟩ := List.mem_map.mp h
        rw [← hz]
        exact hD.2 q1 _ ha1⟩ _ hheap X'
  exact ⟨t, step t a1, b1⟩
theorem w_new {c0 : Code} (hexec : p.tables.exec = Jvm.exec) (hb : c0.code = cc) {own C : String} {T : u_T} {N ci index : Nat} (hts : ∀ w ∈ TB, w.before args s = true) (hin : ∀ w ∈ u_ws C T N, w ∈ TB) (ty : Nat → FieldType) (hty : ∀ k, k < N → parseFieldDescriptor (T k).2.2.1 = some (ty k)) (hown : s.vm.findClass own = some m.cls) (hcl : (Cond.classLink own index C).before args s = true) (hinst : (Cond.instantiable C N).before args s = true) (hini : (Cond.initialized C).before args s = true)
    (hK : va_K D cl tys s) (hP : va_P D cl ws H) (hS : va_S A H0 H locs) (hc : cl[ci]? = some (C, T, N)) {fs : List Value} (hfs : ∀ j, j < N → defaultValue (ty j) = vp_V fs j) (hcells : cells + 1 ≤ R.cells) (hslots : slots + N ≤ R.slots) (hdg : decode cc pc = .ok (.new index, 3))
    (kk : ∀ (H1 : Heap), H1.size = H.size + 1 → va_P D cl (ws ++ [(H.size, .inr (ci, fs))]) H1 → va_S A H0 H1 locs →
      W p l e R s m args below meth c0 H1 locs (cells + 1) (slots + N) Q (F0 m (pc + 3) ls (.ref H.size :: rest))) : W p l e R s m args below meth c0 H locs cells slots Q (F0 m pc ls rest) := by
  have hKn := hK.1 ci _ hc
  refine W.newcK hexec hb hown hcl hinst hini rfl hdg hcells hslots hKn.2.1 rfl fun H1 kC hkC e1 z1 o1 => ?_
  have hk : ∀ (k : Nat) (x : Nat × va_E), ws[k]? = some x → H1[x.1]? = H[x.1]? := fun k x hx => o1 x.1 ((hP k x hx).lt)
  refine kk H1 z1 ((hP.kept hk).app (fun k x hx => ?_)) ⟨Nat.le_trans hS.1 (by omega), fun x h1 h2 => (o1 x (Nat.lt_of_lt_of_le h1 hS.1)).trans (hS.2.1 x h1 h2), hS.2.2⟩
  have hz : k < 1 := (List.getElem?_eq_some_iff.mp hx).1
  rw [show k = 0 by omega] at hx
  cases hx
  exact ⟨_, hc, (u_born ty hts hin hKn hkC e1 hty).to hfs⟩
theorem w_newa (hexec : p.tables.exec = Jvm.exec) (hb : c.code = cc) {atype : ArrayType} (harr : (Cond.arrayClass (newarray.typeOf atype)).before args s = true) (hP : va_P D cl ws H) (hS : va_S A H0 H locs) {cA : ClassId} (hcA : s.vm.findClass ("[" ++ (newarray.typeOf atype).toString) = some cA)
    {n : Int32} {N' : Nat} {a0 : vp_A} (ha : vp_cell cA a0 = arrV cA N' (fun _ => defaultValue (newarray.typeOf atype))) (hn : ¬ n < 0) (hN : n.toNatClampNeg = N') (hbytes : N' * componentBytes (newarray.typeOf atype) ≤ 536870912) (hcells : cells + 1 ≤ R.cells) (hslots : slots + N' ≤ R.slots) (hdg : decode cc pc = .ok (.newarray atype, 2))
    (kk : ∀ (H1 : Heap), H1.size = H.size + 1 → va_P D cl (ws ++ [(H.size, .inl (cA, a0))]) H1 → va_S A H0 H1 locs →
      W p l e R s m args below meth c H1 locs (cells + 1) (slots + N') Q (F0 m (pc + 2) ls (.ref H.size :: rest))) : W p l e R s m args below meth c H locs cells slots Q (F0 m pc ls (.int n :: rest)) := by
  refine va_newaK hexec hb harr rfl hdg rfl hn hN hbytes hcells hslots rfl fun H1 cA' e1 z1 o1 hAr hNm => ?_
  have he : cA' = cA := Option.some.inj (hNm.symm.trans hcA)
  subst he
  have hk : ∀ (k : Nat) (x : Nat × va_E), ws[k]? = some x → H1[x.1]? = H[x.1]? := fun k x hx => o1 x.1 ((hP k x hx).lt)
  refine kk H1 z1 ((hP.kept hk).app (fun k x hx => ?_)) ⟨Nat.le_trans hS.1 (by omega), fun x h1 h2 => (o1 x (Nat.lt_of_lt_of_le h1 hS.1)).trans (hS.2.1 x h1 h2), hS.2.2⟩
  have hz : k < 1 := (List.getElem?_eq_some_iff.mp hx).1
  rw [show k = 0 by omega] at hx
  cases hx
  show H1[H.size]? = some (vp_cell _ _)
  rw [ha]
  exact e1
theorem w_newq (hexec : p.tables.exec = Jvm.exec) (hb : c.code = cc) {own C : String} {index : Nat} (hown : s.vm.findClass own = some m.cls) (hclink : (Cond.classLink own index C).before args s = true) (hover : va_AO C s) (hP : va_P D cl ws H) (hS : va_S A H0 H locs) {cA : ClassId} (hcA : va_RA s cA (.object C))
    {n : Int32} {N' : Nat} (hn : ¬ n < 0) (hN : n.toNatClampNeg = N') (hbytes : N' * 4 ≤ 536870912) (hcells : cells + 1 ≤ R.cells) (hslots : slots + N' ≤ R.slots) (hdg : decode cc pc = .ok (.anewarray index, 3))
    (kk : ∀ (H1 : Heap), H1.size = H.size + 1 → va_P D cl (ws ++ [(H.size, .inl (cA, N', .inr (.inr (.inr (.inr (fun _ => none))))))]) H1 → va_S A H0 H1 locs →
      W p l e R s m args below meth c H1 locs (cells + 1) (slots + N') Q (F0 m (pc + 3) ls (.ref H.size :: rest))) : W p l e R s m args below meth c H locs cells slots Q (F0 m pc ls (.int n :: rest)) := by
  subst hN
  refine W.anew hexec hb hown hclink (va_AO.use hover) rfl hdg rfl hn hbytes hcells hslots fun cA' kA comp f1 f2 f3 f4 => ?_
  obtain ⟨kA', comp', g1, g2, g3, g4⟩ := hcA
  have he : cA' = cA := Option.some.inj (f1.symm.trans g4)
  subst he
  generalize hH1 : H.push ({ cls := cA', slots := Array.replicate n.toNatClampNeg .null, vm := .none } : Cell) = H1
  have z1 : H1.size = H.size + 1 := by rw [← hH1, Array.size_push]
  have e1 : H1[H.size]? = some (arrV cA' n.toNatClampNeg (fun _ => .null)) := by rw [← hH1, Array.getElem?_push_size, ← arrV_new]
  have o1 : ∀ q : Nat, q < H.size → H1[q]? = H[q]? := fun q hq => by rw [← hH1, Array.getElem?_push, if_neg (Nat.ne_of_lt hq)]
  have hk : ∀ (k : Nat) (x : Nat × va_E), ws[k]? = some x → H1[x.1]? = H[x.1]? := fun k x hx => o1 x.1 ((hP k x hx).lt)
  refine kk H1 z1 ((hP.kept hk).app (fun k x hx => ?_)) ⟨Nat.le_trans hS.1 (by omega), fun x h1 h2 => (o1 x (Nat.lt_of_lt_of_le h1 hS.1)).trans (hS.2.1 x h1 h2), hS.2.2⟩
  have hz : k < 1 := (List.getElem?_eq_some_iff.mp hx).1
  rw [show k = 0 by omega] at hx
  cases hx
  show H1[H.size]? = some (vp_cell _ _)
  rw [vp_cell_q]
  exact e1
end WS
/-! ROWS OVER THE MEMORY: fields, arrays, makings -/
section GH
variable {X : Cx} {cc : ByteArray} {own nm : String} {ret : Option FieldType} {d mc ms : Nat} {pc : Nat} {lv : List (Nat × Value)} {st : List Value} {σ : Mem} {kc ks : Nat} {Q : State → Prop}
/-- a class's field words are among the tables' -/
def fOK (C : String) (T : u_T) (N : Nat) (ty : Nat → FieldType) : Prop := (∀ w ∈ u_ws C T N, w ∈ TB) ∧ (∀ k, k < N → parseFieldDescriptor (T k).2.2.1 = some (ty k)) ∧ (∀ a, a < N → ∀ b, b < N → a ≠ b → (T a).2.1 ≠ (T b).2.1)
/-- a field by its link: own's entry 'index' is field k of class ci, of the kind b (true: a number) -/
def fL (own : String) (index ci k : Nat) (b : Bool) : Prop := ∃ (C : String) (T : u_T) (N : Nat), vwCl[ci]? = some (C, T, N) ∧ fOK C T N (tyX ci) ∧ k < N ∧ (fkX ci)[k]? = some b ∧ ci < 13 ∧ Cond.fieldLink own index (T k).1 (T k).2.1 (T k).2.2.1 ∈ TB
/-- the same where the class that the link names isn't the one that declares it -/
def fLs (own : String) (index ci k : Nat) (b : Bool) : Prop := ∃ (C : String) (T : u_T) (N : Nat) (ref : String), vwCl[ci]? = some (C, T, N) ∧ fOK C T N (tyX ci) ∧ k < N ∧ (fkX ci)[k]? = some b ∧ ci < 13 ∧ Cond.fieldLink own index ref (T k).2.1 (T k).2.2.1 ∈ TB ∧ ∀ (A : Array Value) (s : State), (∀ w ∈ TB, w.before A s = true) → ∀ x, s.fieldFound? (T k).1 (T k).2.1 (T k).2.2.1 = some x → s.fieldFound? ref (T k).2.1 (T k).2.2.1 = some x
theorem fL.s {own : String} {index ci k : Nat} {b : Bool} (h : fL own index ci k b) : fLs own index ci k b := by
  obtain ⟨C, T, N, h1, h2, h3, h4, h5, h6⟩ := h
  exact ⟨C, T, N, _, h1, h2, h3, h4, h5, h6, fun _ _ _ _ q => q⟩
theorem g_getV (hC : mOK X cc own nm ret d mc ms) {index ci k n a : Nat} {b : Bool} (hL : fLs own index ci k b) (hT : mT σ a = some (ci, n)) (hd : decode cc pc = .ok (.getfield index, 3))
    (kk : mG X (pc + 3) lv ((if b = true then Value.int (mI σ a k) else va_rf ((mP σ a k).map (fun r => xB X + r))) :: st) σ kc ks Q) : mG X pc lv (.ref (xB X + a) :: st) σ kc ks Q := by
  obtain ⟨C, T, N, ref, h1, h2, h3, h4, h5, h6, h7⟩ := hL
  intro H locs ls hV hS hl
  have hw := mW_at (cy := X.2.2.2.1.1) (B := xB X) hT
  rw [mE_o h5] at hw
  exact va_get hC.1 hC.2.1 hC.2.2.2.2.1 h2.1 hC.2.2.2.1 hC.2.2.2.2.2.1.1 hV.2.1 a hw h1 k h3 (hC.2.2.2.2.1 _ h6) (h7 _ _ hC.2.2.2.2.1) (mF_at b h4) hd (kk H locs ls hV hS hl)
/-- a field that is a number -/
theorem g_geti (hC : mOK X cc own nm ret d mc ms) {index ci k n a : Nat} (hL : fLs own index ci k true) (hT : mT σ a = some (ci, n)) (hd : decode cc pc = .ok (.getfield index, 3))
    (kk : mG X (pc + 3) lv (.int (mI σ a k) :: st) σ kc ks Q) : mG X pc lv (.ref (xB X + a) :: st) σ kc ks Q := g_getV hC hL hT hd kk
/-- a field that is a reference, or null -/
theorem g_getq (hC : mOK X cc own nm ret d mc ms) {index ci k n a : Nat} (hL : fLs own index ci k false) (hT : mT σ a = some (ci, n)) (hd : decode cc pc = .ok (.getfield index, 3))
    (kk : mG X (pc + 3) lv (va_rf ((mP σ a k).map (fun r => xB X + r)) :: st) σ kc ks Q) : mG X pc lv (.ref (xB X + a) :: st) σ kc ks Q := g_getV hC hL hT hd kk
/-- a field that is a reference -/
theorem g_getr (hC : mOK X cc own nm ret d mc ms) {index ci k n a r : Nat} (hL : fLs own index ci k false) (hT : mT σ a = some (ci, n)) (hp : mP σ a k = some r) (hd : decode cc pc = .ok (.getfield index, 3))
    (kk : mG X (pc + 3) lv (.ref (xB X + r) :: st) σ kc ks Q) : mG X pc lv (.ref (xB X + a) :: st) σ kc ks Q :=
  g_getV hC hL hT hd (by rw [hp]; exact kk)
/-- what is known at every point -/
theorem g_known (kk : mS (xP X) (xT X) σ → mG X pc lv st σ kc ks Q) : mG X pc lv st σ kc ks Q := fun H locs ls hV hS hl => kk hV.2.2 H locs ls hV hS hl
/-- what a put of field k of class ci may be -/
def fW (own nm : String) (index ci k : Nat) (b : Bool) : Prop := fL own index ci k b ∧ ∀ C T N, vwCl[ci]? = some (C, T, N) → ((T k).2.2.2 = false ∨ ((T k).2.2.2 = true ∧ nm = "<init>" ∧ (T k).1 = own))
theorem g_putI (hC : mOK X cc own nm ret d mc ms) {index ci k n a : Nat} {v : Int32} (hL : fW own nm index ci k true) (hT : mT σ a = some (ci, n)) (hn : narrow (tyX ci k) (.int v) = .int v) (hfit : fits (tyX ci k) (.int v) = true) (hd : decode cc pc = .ok (.putfield index, 3))
    (kk : mG X (pc + 3) lv st (sI σ a k v) kc ks Q) : mG X pc lv (.int v :: .ref (xB X + a) :: st) σ kc ks Q := by
  obtain ⟨⟨C, T, N, h1, h2, h3, h4, h5, h6⟩, hf⟩ := hL
  intro H locs ls hV hS hl
  have hw := mW_at (cy := X.2.2.2.1.1) (B := xB X) hT
  have hset : (mW X.2.2.2.1.1 (xB X) σ).set a (xB X + a, .inr (ci, (mF (xB X) σ a (fkX ci)).set k (.int v))) = mW X.2.2.2.1.1 (xB X) (sI σ a k v) := by
    rw [mF_sI h4, ← mW_ext (τ := sI σ a k v) hT rfl (fun b u hb => mE_sR hb), mE_o h5]
  rw [mE_o h5] at hw
  have hlen : k < (mF (xB X) σ a (fkX ci)).length := by rw [mF_len]; exact (List.getElem?_eq_some_iff.mp h4).1
  exact w_put hC.1 hC.2.1 hC.2.2.2.2.1 h2.1 (tyX ci) h2.2.1 h2.2.2 hC.2.2.2.1 hC.2.2.2.2.2.1.1 hV.2.1 mW_D hS a hw h1 k h3 (hC.2.2.2.2.1 _ h6) (by rw [hC.2.2.2.2.2.2.2.2.1]; exact hf C T N h1) hn hfit hlen hd (fun H1 locs1 hz hP1 hS1 => by
      rw [hset] at hP1
      exact kk H1 locs1 ls ⟨hz.trans hV.1, hP1, hV.2.2.sI a k v⟩ hS1 hl)
theorem g_putR (hC : mOK X cc own nm ret d mc ms) {index ci k n a : Nat} {r : Option Nat} (hL : fW own nm index ci k false) (hT : mT σ a = some (ci, n)) (hn : ∀ v, narrow (tyX ci k) (va_rf v) = va_rf v) (hfit : ∀ v, fits (tyX ci k) (va_rf v) = true) (hs : ∀ e ∈ xP X, ¬ (e.1 = a ∧ e.2.1 = k)) (hd : decode cc pc = .ok (.putfield index, 3))
    (kk : mG X (pc + 3) lv st (sP σ a k r) kc ks Q) : mG X pc lv (va_rf (r.map (fun r => xB X + r)) :: .ref (xB X + a) :: st) σ kc ks Q := by
  obtain ⟨⟨C, T, N, h1, h2, h3, h4, h5, h6⟩, hf⟩ := hL
  intro H locs ls hV hS hl
  have hw := mW_at (cy := X.2.2.2.1.1) (B := xB X) hT
  have hset : (mW X.2.2.2.1.1 (xB X) σ).set a (xB X + a, .inr (ci, (mF (xB X) σ a (fkX ci)).set k (va_rf (r.map (fun r => xB X + r))))) = mW X.2.2.2.1.1 (xB X) (sP σ a k r) := by
    rw [mF_sP h4, ← mW_ext (τ := sP σ a k r) hT rfl (fun b u hb => mE_sP hb), mE_o h5]
  rw [mE_o h5] at hw
  have hlen : k < (mF (xB X) σ a (fkX ci)).length := by rw [mF_len]; exact (List.getElem?_eq_some_iff.mp h4).1
  exact w_put hC.1 hC.2.1 hC.2.2.2.2.1 h2.1 (tyX ci) h2.2.1 h2.2.2 hC.2.2.2.1 hC.2.2.2.2.2.1.1 hV.2.1 mW_D hS a hw h1 k h3 (hC.2.2.2.2.1 _ h6) (by rw [hC.2.2.2.2.2.2.2.2.1]; exact hf C T N h1) (hn _) (hfit _) hlen hd (fun H1 locs1 hz hP1 hS1 => by
      rw [hset] at hP1
      exact kk H1 locs1 ls ⟨hz.trans hV.1, hP1, hV.2.2.sP a k r hs⟩ hS1 hl)
theorem mTy_at {cy : Nat → ClassId} {t : Nat} {ty : FieldType} (h : (mTys cy)[t]? = some (cy (13 + t), ty)) : (mTys cy)[t]? = some (cy (13 + t), ty) := h
theorem mW_int {cy : Nat → ClassId} {B : Nat} {σ : Mem} {a t n : Nat} (h1 : 13 ≤ t) (h2 : t < 16) (h : mT σ a = some (t, n)) : (mW cy B σ)[a]? = some (B + a, .inl (cy t, n, .inl (σ.1 a))) := by
  rw [mW_at h, mE_i h1 h2]
theorem mW_ref {cy : Nat → ClassId} {B : Nat} {σ : Mem} {a t n : Nat} (h1 : 16 ≤ t) (h : mT σ a = some (t, n)) : (mW cy B σ)[a]? = some (B + a, .inl (cy t, n, .inr (.inr (.inr (.inr (fun j => (σ.2.1 a j).map (fun r => B + r))))))) := by
  rw [mW_at h, mE_q h1]
theorem g_iald (hC : mOK X cc own nm ret d mc ms) {a n : Nat} {i : Int32} (hT : mT σ a = some (14, n)) (hin : vp_in i n) (hd : decode cc pc = .ok (.iaload, 1)) (kk : mG X (pc + 1) lv (.int (mI σ a i.toNatClampNeg) :: st) σ kc ks Q) : mG X pc lv (.int i :: .ref (xB X + a) :: st) σ kc ks Q :=
  fun H locs ls hV hS hl => va_iald hC.1 hC.2.1 hC.2.2.2.2.2.1.1 hV.2.1 a 1 (mW_int (by decide) (by decide) hT) rfl hin hd (kk H locs ls hV hS hl)
theorem g_zald (hC : mOK X cc own nm ret d mc ms) {a n : Nat} {i : Int32} (hT : mT σ a = some (15, n)) (hin : vp_in i n) (hd : decode cc pc = .ok (.baload, 1)) (kk : mG X (pc + 1) lv (.int (mI σ a i.toNatClampNeg) :: st) σ kc ks Q) : mG X pc lv (.int i :: .ref (xB X + a) :: st) σ kc ks Q :=
  fun H locs ls hV hS hl => va_zald hC.1 hC.2.1 hC.2.2.2.2.2.1.1 hV.2.1 a 2 (mW_int (by decide) (by decide) hT) rfl hin hd (kk H locs ls hV hS hl)
theorem g_cald (hC : mOK X cc own nm ret d mc ms) {a n : Nat} {i : Int32} (hT : mT σ a = some (13, n)) (hin : vp_in i n) (hd : decode cc pc = .ok (.caload, 1)) (kk : mG X (pc + 1) lv (.int (mI σ a i.toNatClampNeg) :: st) σ kc ks Q) : mG X pc lv (.int i :: .ref (xB X + a) :: st) σ kc ks Q :=
  fun H locs ls hV hS hl => va_cald hC.1 hC.2.1 hC.2.2.2.2.2.1.1 hV.2.1 a 0 (mW_int (by decide) (by decide) hT) rfl hin hd (kk H locs ls hV hS hl)
theorem mW_setI {cy : Nat → ClassId} {B : Nat} {σ : Mem} {a t n : Nat} {f : Nat → Int32} (h1 : 13 ≤ t) (h2 : t < 16) (h : mT σ a = some (t, n)) : (mW cy B σ).set a (B + a, .inl (cy t, n, .inl f)) = mW cy B (sR σ a f) := by
  rw [← mW_ext (τ := sR σ a f) h rfl (fun b u hb => mE_sR hb), mE_i h1 h2]
  simp [sR]
theorem g_iast (hC : mOK X cc own nm ret d mc ms) {a n : Nat} {i x : Int32} (hT : mT σ a = some (14, n)) (hin : vp_in i n) (hd : decode cc pc = .ok (.iastore, 1)) (kk : mG X (pc + 1) lv st (sI σ a i.toNatClampNeg x) kc ks Q) : mG X pc lv (.int x :: .int i :: .ref (xB X + a) :: st) σ kc ks Q :=
  fun H locs ls hV hS hl => w_iast hC.1 hC.2.1 hC.2.2.2.2.2.1.1 hV.2.1 mW_D hS a 1 (mW_int (by decide) (by decide) hT) rfl hin hd (fun H1 locs1 hz hP1 hS1 => by
    rw [mW_setI (by decide) (by decide) hT] at hP1
    exact kk H1 locs1 ls ⟨hz.trans hV.1, hP1, hV.2.2.sR a _⟩ hS1 hl)
theorem g_zast (hC : mOK X cc own nm ret d mc ms) {a n : Nat} {i x : Int32} (hT : mT σ a = some (15, n)) (hin : vp_in i n) (hb : vp_nar .boolean x = x) (hd : decode cc pc = .ok (.bastore, 1)) (kk : mG X (pc + 1) lv st (sI σ a i.toNatClampNeg x) kc ks Q) : mG X pc lv (.int x :: .int i :: .ref (xB X + a) :: st) σ kc ks Q :=
  fun H locs ls hV hS hl => w_zast hC.1 hC.2.1 hC.2.2.2.2.2.1.1 hV.2.1 mW_D hS a 2 (mW_int (by decide) (by decide) hT) rfl hin hd (fun H1 locs1 hz hP1 hS1 => by
    rw [mW_setI (by decide) (by decide) hT, hb] at hP1
    exact kk H1 locs1 ls ⟨hz.trans hV.1, hP1, hV.2.2.sR a _⟩ hS1 hl)
theorem g_cast (hC : mOK X cc own nm ret d mc ms) {a n : Nat} {i x : Int32} (hT : mT σ a = some (13, n)) (hin : vp_in i n) (hb : vp_nar .char x = x) (hd : decode cc pc = .ok (.castore, 1)) (kk : mG X (pc + 1) lv st (sI σ a i.toNatClampNeg x) kc ks Q) : mG X pc lv (.int x :: .int i :: .ref (xB X + a) :: st) σ kc ks Q :=
  fun H locs ls hV hS hl => w_cast hC.1 hC.2.1 hC.2.2.2.2.2.1.1 hV.2.1 mW_D hS a 0 (mW_int (by decide) (by decide) hT) rfl hin hd (fun H1 locs1 hz hP1 hS1 => by
    rw [mW_setI (by decide) (by decide) hT, hb] at hP1
    exact kk H1 locs1 ls ⟨hz.trans hV.1, hP1, hV.2.2.sR a _⟩ hS1 hl)
/-- an array's length -/
theorem g_alen (hC : mOK X cc own nm ret d mc ms) {a t n : Nat} (hT : mT σ a = some (t, n)) (h1 : 13 ≤ t) (h2 : t < 19) (hd : decode cc pc = .ok (.arraylength, 1)) (kk : mG X (pc + 1) lv (.int (nI n) :: st) σ kc ks Q) : mG X pc lv (.ref (xB X + a) :: st) σ kc ks Q := by
  intro H locs ls hV hS hl
  by_cases h3 : t < 16
  · have hty : ∃ ty, (mTys X.2.2.2.1.1)[t - 13]? = some (X.2.2.2.1.1 t, ty) := by
      rcases (show t = 13 ∨ t = 14 ∨ t = 15 by omega) with rfl | rfl | rfl <;> exact ⟨_, rfl⟩
    obtain ⟨ty, hty⟩ := hty
    exact va_alen hC.1 hC.2.1 hC.2.2.2.2.2.1.1 hV.2.1 a (t - 13) (mW_int h1 h3 hT) hty rfl hd (kk H locs ls hV hS hl)
  · have hty : ∃ ty, (mTys X.2.2.2.1.1)[t - 13]? = some (X.2.2.2.1.1 t, ty) := by
      rcases (show t = 16 ∨ t = 17 ∨ t = 18 by omega) with rfl | rfl | rfl <;> exact ⟨_, rfl⟩
    obtain ⟨ty, hty⟩ := hty
    exact va_alen hC.1 hC.2.1 hC.2.2.2.2.2.1.1 hV.2.1 a (t - 13) (mW_ref (by omega) hT) hty rfl hd (kk H locs ls hV hS hl)
/-- a place of an array of references -/
theorem g_aald (hC : mOK X cc own nm ret d mc ms) {a t n : Nat} {i : Int32} (hT : mT σ a = some (t, n)) (h1 : 16 ≤ t) (h2 : t < 19) (hin : vp_in i n) (hd : decode cc pc = .ok (.aaload, 1)) (kk : mG X (pc + 1) lv (va_rf ((mP σ a i.toNatClampNeg).map (fun r => xB X + r)) :: st) σ kc ks Q) : mG X pc lv (.int i :: .ref (xB X + a) :: st) σ kc ks Q := by
  intro H locs ls hV hS hl
  have hty : ∃ C, (mTys X.2.2.2.1.1)[t - 13]? = some (X.2.2.2.1.1 t, .object C) := by
    rcases (show t = 16 ∨ t = 17 ∨ t = 18 by omega) with rfl | rfl | rfl <;> exact ⟨_, rfl⟩
  obtain ⟨C, hty⟩ := hty
  exact va_aldq hC.1 hC.2.1 hC.2.2.2.2.2.1.1 hV.2.1 a (t - 13) (mW_ref h1 hT) hty hin hd (kk H locs ls hV hS hl)
/-- an object of class ci may lie in a row of kind t -/
def aOK (ci t : Nat) : Prop := ∃ (q : vw_C) (E : String), vwCl[ci]? = some q ∧ (∀ cy, (mTys cy)[t - 13]? = some (cy t, .object E)) ∧ ((q.1 = E) ∨ (q.1, E, true) ∈ asgX)
theorem g_aast (hC : mOK X cc own nm ret d mc ms) {a t n r ci n' : Nat} {i : Int32} (hT : mT σ a = some (t, n)) (h1 : 16 ≤ t) (hin : vp_in i n) (hR : mT σ r = some (ci, n')) (h3 : ci < 13) (hA : aOK ci t) (hs : ∀ e ∈ xP X, ¬ (e.1 = a ∧ e.2.1 = i.toNatClampNeg)) (hd : decode cc pc = .ok (.aastore, 1)) (kk : mG X (pc + 1) lv st (sP σ a i.toNatClampNeg (some r)) kc ks Q) : mG X pc lv (.ref (xB X + r) :: .int i :: .ref (xB X + a) :: st) σ kc ks Q := by
  obtain ⟨q, E, g1, g2, g3⟩ := hA
  intro H locs ls hV hS hl
  have hwr := mW_at (cy := X.2.2.2.1.1) (B := xB X) hR
  rw [mE_o h3] at hwr
  refine w_astq hC.1 hC.2.1 hC.2.2.2.2.2.1.1 hV.2.1 mW_D hS a (t - 13) (mW_ref h1 hT) (g2 _) (va_rAny hC.2.2.2.2.2.1.1 hV.2.1 hwr g1 ?_) hin hd (fun H1 locs1 hz hP1 hS1 => ?_)
  · intro comp c0 f1 f2
    rcases g3 with g3 | g3
    · obtain ⟨hKn⟩ : Nonempty (ClassAt X.2.1.1 q.1 (X.2.2.2.1.2.1.1 ci)) := ⟨(hC.2.2.2.2.2.1.1.1 ci q g1).2⟩
      have e0 : c0 = X.2.2.2.1.2.1.1 ci := Option.some.inj (f2.symm.trans hKn.1)
      have e1 : comp = X.2.2.2.1.2.1.1 ci := Option.some.inj (f1.symm.trans (by rw [← g3]; exact hKn.1))
      rw [e0, e1]
      exact va_assign hKn
    · obtain ⟨c, t, f3, f4, f5⟩ := hC.2.2.2.2.2.1.2.2.2.1 _ g3
      rw [Option.some.inj (f2.symm.trans f3), Option.some.inj (f1.symm.trans f4)]
      exact f5
  · have e : (mW X.2.2.2.1.1 (xB X) σ).set a (xB X + a, .inl (X.2.2.2.1.1 t, n, .inr (.inr (.inr (.inr (va_up (fun j => (σ.2.1 a j).map (fun r => xB X + r)) i.toNatClampNeg (some (xB X + r)))))))) = mW X.2.2.2.1.1 (xB X) (sP σ a i.toNatClampNeg (some r)) := by
      rw [← mW_ext (τ := sP σ a i.toNatClampNeg (some r)) hT rfl (fun b u hb => mE_sP hb), mE_q h1]
      have hf : va_up (fun j => (σ.2.1 a j).map (fun r => xB X + r)) i.toNatClampNeg (some (xB X + r)) = (fun j => ((sP σ a i.toNatClampNeg (some r)).2.1 a j).map (fun r => xB X + r)) := by
        funext j
        by_cases hj : j = i.toNatClampNeg <;> simp [sP, va_up, hj]
      rw [hf]
    rw [e] at hP1
    exact kk H1 locs1 ls ⟨hz.trans hV.1, hP1, hV.2.2.sP a _ _ hs⟩ hS1 hl
theorem mV.new {X : Cx} {H H1 : Heap} {t : Nat × Nat} (hV : mV X.2.2.2.1.1 X.2.2.2.1.2.1 (xB X) (xP X) (xT X) σ H) (hz : H1.size = H.size + 1) (hP : va_P X.2.2.2.1.2.1 vwCl (mW X.2.2.2.1.1 (xB X) σ ++ [(H.size, mE X.2.2.2.1.1 (xB X) (mN σ t) (mL σ) t)]) H1) : mV X.2.2.2.1.1 X.2.2.2.1.2.1 (xB X) (xP X) (xT X) (mN σ t) H1 := by
  refine ⟨?_, ?_, hV.2.2.mN t⟩
  · rw [mL_mN, hz, hV.1]; omega
  · rw [mW_N, ← hV.1]; exact hP
/-- an object is made -/
def nOK (own : String) (index ci : Nat) : Prop := ∃ (C : String) (T : u_T) (N : Nat), vwCl[ci]? = some (C, T, N) ∧ fOK C T N (tyX ci) ∧ ci < 13 ∧ N = (fkX ci).length ∧ (∀ j, j < N → defaultValue (tyX ci j) = if (fkX ci)[j]? = some true then Value.int 0 else .null) ∧ Cond.classLink own index C ∈ TB ∧ Cond.instantiable C N ∈ TB ∧ Cond.initialized C ∈ TB
theorem g_new (hC : mOK X cc own nm ret d mc ms) {index ci : Nat} (hN : nOK own index ci) (hk : kc + 1 ≤ mc) (hs : ks + (fkX ci).length ≤ ms) (hd : decode cc pc = .ok (.new index, 3)) (kk : mG X (pc + 3) lv (.ref (xB X + mL σ) :: st) (mN σ (ci, 0)) (kc + 1) (ks + (fkX ci).length) Q) : mG X pc lv st σ kc ks Q := by
  obtain ⟨C, T, N, h1, h2, h3, h4, h5, h6, h7, h8⟩ := hN
  intro H locs ls hV hS hl
  have hR := hC.2.2.2.2.2.2.2.2.2.1
  subst h4
  refine w_new (fs := mF (xB X) (mN σ (ci, 0)) (mL σ) (fkX ci)) hC.1 hC.2.1 hC.2.2.2.2.1 h2.1 (tyX ci) h2.2.1 hC.2.2.2.1 (hC.2.2.2.2.1 _ h6) (hC.2.2.2.2.1 _ h7) (hC.2.2.2.2.1 _ h8) hC.2.2.2.2.2.1.1 hV.2.1 hS h1 (fun j hj => ?_) (by rw [hR.2.1]; exact hk) (by rw [hR.2.2.1]; exact hs) hd (fun H1 hz hP1 hS1 => ?_)
  · rw [h5 j hj]
    have hb : (fkX ci)[j]? = some (fkX ci)[j] := List.getElem?_eq_getElem hj
    unfold vp_V
    rw [List.getD_eq_getElem?_getD, mF_at _ hb, hb, mI_mN, mP_mN, if_pos rfl, if_pos rfl]
    cases (fkX ci)[j] <;> rfl
  · have e : (xB X + mL σ) = H.size := hV.1.symm
    have := kk H1 locs ls (hV.new hz (by rw [mE_o h3]; exact hP1)) hS1 hl
    rw [e] at this
    exact this
/-- an array of numbers is made -/
def naOK (at_ : ArrayType) (t : Nat) : Prop := 13 ≤ t ∧ t < 16 ∧ Cond.arrayClass (newarray.typeOf at_) ∈ TB ∧ (∀ cy, (mTys cy)[t - 13]? = some (cy t, newarray.typeOf at_)) ∧ defaultValue (newarray.typeOf at_) = .int 0 ∧ componentBytes (newarray.typeOf at_) ≤ 4 ∧ ∀ (s : State) (cA : ClassId), va_RA s cA (newarray.typeOf at_) → s.vm.findClass ("[" ++ (newarray.typeOf at_).toString) = some cA
theorem g_newa (hC : mOK X cc own nm ret d mc ms) {at_ : ArrayType} {t N : Nat} {n : Int32} (hA : naOK at_ t) (hn : ¬ n < 0) (hN : n.toNatClampNeg = N) (hNN : N ≤ 100000) (hk : kc + 1 ≤ mc) (hs : ks + N ≤ ms) (hd : decode cc pc = .ok (.newarray at_, 2)) (kk : mG X (pc + 2) lv (.ref (xB X + mL σ) :: st) (mN σ (t, N)) (kc + 1) (ks + N) Q) : mG X pc lv (.int n :: st) σ kc ks Q := by
  obtain ⟨h1, h2, h3, h4, h5, h6, h7⟩ := hA
  intro H locs ls hV hS hl
  have hR := hC.2.2.2.2.2.2.2.2.2.1
  have hcA := h7 _ _ (hC.2.2.2.2.2.1.1.2 _ _ (h4 X.2.2.2.1.1)).2
  refine w_newa (a0 := (N, .inl (fun _ => 0))) hC.1 hC.2.1 (hC.2.2.2.2.1 _ h3) hV.2.1 hS hcA (by rw [vp_cell_i, h5]) hn hN (Nat.le_trans (Nat.mul_le_mul hNN h6) (by decide)) (by rw [hR.2.1]; exact hk) (by rw [hR.2.2.1]; exact hs) hd (fun H1 hz hP1 hS1 => ?_)
  have e : (xB X + mL σ) = H.size := hV.1.symm
  have := kk H1 locs ls (hV.new hz (by rw [mE_i h1 h2]; simpa [mN, mL] using hP1)) hS1 hl
  rw [e] at this
  exact this
/-- an array of references is made -/
def nqOK (own : String) (index t : Nat) : Prop := ∃ C : String, 16 ≤ t ∧ C ∈ overX ∧ (∀ cy, (mTys cy)[t - 13]? = some (cy t, .object C)) ∧ Cond.classLink own index C ∈ TB
theorem g_newq (hC : mOK X cc own nm ret d mc ms) {index t N : Nat} {n : Int32} (hA : nqOK own index t) (hn : ¬ n < 0) (hN : n.toNatClampNeg = N) (hNN : N ≤ 100000) (hk : kc + 1 ≤ mc) (hs : ks + N ≤ ms) (hd : decode cc pc = .ok (.anewarray index, 3)) (kk : mG X (pc + 3) lv (.ref (xB X + mL σ) :: st) (mN σ (t, N)) (kc + 1) (ks + N) Q) : mG X pc lv (.int n :: st) σ kc ks Q := by
  obtain ⟨C, h1, h2, h3, h4⟩ := hA
  intro H locs ls hV hS hl
  have hR := hC.2.2.2.2.2.2.2.2.2.1
  refine w_newq hC.1 hC.2.1 hC.2.2.2.1 (hC.2.2.2.2.1 _ h4) (hC.2.2.2.2.2.1.2.2.2.2.1 C h2) hV.2.1 hS (hC.2.2.2.2.2.1.1.2 _ _ (h3 X.2.2.2.1.1)).2 hn hN (by omega) (by rw [hR.2.1]; exact hk) (by rw [hR.2.2.1]; exact hs) hd (fun H1 hz hP1 hS1 => ?_)
  have e : (xB X + mL σ) = H.size := hV.1.symm
  have := kk H1 locs ls (hV.new hz (by rw [mE_q h1]; simpa [mN, mL] using hP1)) hS1 hl
  rw [e] at this
  exact this
/-- instanceof -/
theorem g_inst (hC : mOK X cc own nm ret d mc ms) {index a ci n : Nat} {b : Bool} {T : String} (hT : mT σ a = some (ci, n)) (h3 : ci < 13) (hw : Cond.classLink own index T ∈ TB) (ha : ∀ q : vw_C, vwCl[ci]? = some q → (q.1, T, b) ∈ asgX) (hd : decode cc pc = .ok (.instanceof index, 3)) (kk : mG X (pc + 3) lv (.int (if b = true then 1 else 0) :: st) σ kc ks Q) : mG X pc lv (.ref (xB X + a) :: st) σ kc ks Q := by
  intro H locs ls hV hS hl
  have hwr := mW_at (cy := X.2.2.2.1.1) (B := xB X) hT
  rw [mE_o h3] at hwr
  obtain ⟨q, hq, -⟩ := hV.2.1 a _ hwr
  have hr := va_recv hC.2.2.2.2.2.1.1 hV.2.1 hq hwr
  have hg := hC.2.2.2.2.2.1.2.2.2.1 _ (ha q hq)
  cases b with
  | false => exact va_instNo hC.1 hC.2.1 hC.2.2.2.1 (hC.2.2.2.2.1 _ hw) hg hr hd (kk H locs ls hV hS hl)
  | true =>
    have hcast : va_Nw (.castable q.1 T) X.2.1.1 := by
      obtain ⟨c, t, f1, f2, f3⟩ := hg
      simp only [va_Nw, Cond.before, Cond.holds, Cond.value]
      simp [f1, f2, f3]
    exact va_instY hC.1 hC.2.1 hC.2.2.2.1 (hC.2.2.2.2.1 _ hw) hcast hr hd (kk H locs ls hV hS hl)
end GH
