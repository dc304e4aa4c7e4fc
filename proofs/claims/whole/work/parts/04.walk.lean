/-! THE WALK OVER THE MEMORY: words, contexts, and a row an instruction -/
def TB : List Cond := lw_tbl.filter goodWord
theorem TB_of {w : Cond} (i : Nat) (h : lw_tbl[i]? = some w) (hg : goodWord w = true) : w ∈ TB := List.mem_filter.mpr ⟨List.mem_of_getElem? h, hg⟩
theorem TB_good {w : Cond} (h : w ∈ TB) : goodWord w = true := (List.mem_filter.mp h).2
theorem TB_goodIn {y : MethodName} {cc : ByteArray} {n : Nat} {ret : Option FieldType} (h : Cond.code y cc n ret ∈ TB) : GoodIn TB (Cond.code y cc n ret :: TB) := by
  intro w hw
  rcases List.mem_cons.mp hw with rfl | hw
  · exact ⟨h, good_of_word (TB_good h)⟩
  · exact ⟨hw, good_of_word (TB_good hw)⟩
/-- the arrays' classes -/
def mTys (cy : Nat → ClassId) : List (ClassId × FieldType) := [(cy 13, .char), (cy 14, .int), (cy 15, .boolean), (cy 16, .object "GreaterPlates$Layer"), (cy 17, .object "GreaterPlates$Rule"), (cy 18, .object "GreaterPlates$Sheet")]
/-- an object of class C may (b) be taken for one of T -/
def asg (C T : String) (b : Bool) (U : State) : Prop := ∃ c t : ClassId, U.vm.findClass C = some c ∧ U.vm.findClass T = some t ∧ U.vm.assignable c t = b
theorem asg.moved {C T : String} {b : Bool} {u U : State} (hvm : u.vm.Alike U.vm) (h : asg C T b u) : asg C T b U := by
  obtain ⟨c, t, h1, h2, h3⟩ := h
  exact ⟨c, t, by rw [hvm.findClass]; exact h1, by rw [hvm.findClass]; exact h2, by rw [hvm.assignable]; exact h3⟩
/-- what stays for good, seen from a state: classes, String constants -/
def mK (cy : Nat → ClassId) (D : va_G) (ad : (Nat → Nat) × (Nat → Nat)) (B : Nat) (U : State) : Prop := va_K D vwCl (mTys cy) U ∧ vk_S 13 lenX bytX ad.1 ad.2 (fun q => B ≤ q) U U.heap ∧ (∀ (i : Nat) (q : String × Nat × String), strX[i]? = some q → vk_R q.1 q.2.1 q.2.2 (ad.1 i) U) ∧ (∀ e ∈ asgX, asg e.1 e.2.1 e.2.2 U) ∧ (∀ C ∈ overX, va_AO C U) ∧ va_Z "java/lang/String" "COMPACT_STRINGS" "Z" (.int 1) (fun q => B ≤ q) U U.heap ∧ va_Zq "jdk/internal/util/Preconditions" "SIOOBE_FORMATTER" "Ljava/util/function/BiFunction;" (fun q => B ≤ q) U U.heap
theorem mK.warm {cy : Nat → ClassId} {D : va_G} {ad : (Nat → Nat) × (Nat → Nat)} {B : Nat} {s U : State} (h : mK cy D ad B s) (hW : s.WarmedH U.vm) (hq : ∀ a : Nat, a < s.heap.size → ¬ B ≤ a → U.heap[a]? = s.heap[a]?) : mK cy D ad B U :=
  ⟨va_K.moved hW.alike h.1, (h.2.1.moved hW.alike).kept hq, fun i q hi => (h.2.2.1 i q hi).warm hW, fun e he => (h.2.2.2.1 e he).moved hW.alike, fun C hc => (h.2.2.2.2.1 C hc).moved hW.alike, (h.2.2.2.2.2.1.moved hW.alike).kept hq, (h.2.2.2.2.2.2.moved hW.alike).kept hq⟩
theorem mK.same {cy : Nat → ClassId} {D : va_G} {ad : (Nat → Nat) × (Nat → Nat)} {B : Nat} {s U : State} (h : mK cy D ad B s) (hv : U.vm = s.vm) (hh : U.heap = s.heap) : mK cy D ad B U := by
  have hA : s.vm.Alike U.vm := by rw [hv]; exact Vm.Alike.refl _
  exact ⟨va_K.moved hA h.1, (h.2.1.moved hA).kept (fun a _ _ => by rw [hh]), fun i q hi => (h.2.2.1 i q hi).same hv, fun e he => (h.2.2.2.1 e he).moved hA, fun C hc => (h.2.2.2.2.1 C hc).moved hA, (h.2.2.2.2.2.1.moved hA).kept (fun a _ _ => by rw [hh]), (h.2.2.2.2.2.2.moved hA).kept (fun a _ _ => by rw [hh])⟩
/-- the heap holds the memory -/
def mV (cy : Nat → ClassId) (D : va_G) (B : Nat) (ps ts : List (Nat × Nat × Nat)) (σ : Mem) (H : Heap) : Prop := H.size = B + mL σ ∧ va_P D vwCl (mW cy B σ) H ∧ mS ps ts σ
/-- the place of a walk: (program, launch, env, room) (start, method, args, below) (method, code) (array classes, classes, strings) (base, locals) (what is known) -/
abbrev Cx : Type := (Program × Launch × Env × Room) × (State × MethodId × Array Value × List Frame) × (Method × Code) × ((Nat → ClassId) × va_G × ((Nat → Nat) × (Nat → Nat))) × (Nat × Nat) × (List (Nat × Nat × Nat) × List (Nat × Nat × Nat))
def mG (X : Cx) (pc : Nat) (lv : List (Nat × Value)) (st : List Value) (σ : Mem) (kc ks : Nat) (Q : State → Prop) : Prop :=
  ∀ (H : Heap) (locs : List Loc) (ls : Array Slot), mV X.2.2.2.1.1 X.2.2.2.1.2.1 X.2.2.2.2.1.1 X.2.2.2.2.2.1 X.2.2.2.2.2.2 σ H → va_S (fun q => X.2.2.2.2.1.1 ≤ q) X.2.1.1.heap H locs → lv_has ls X.2.2.2.2.1.2 lv →
    W X.1.1 X.1.2.1 X.1.2.2.1 X.1.2.2.2 X.2.1.1 X.2.1.2.1 X.2.1.2.2.1 X.2.1.2.2.2 X.2.2.1.1 X.2.2.1.2 H locs kc ks Q (F0 X.2.1.2.1 pc ls st)
abbrev xB (X : Cx) : Nat := X.2.2.2.2.1.1
abbrev xP (X : Cx) : List (Nat × Nat × Nat) := X.2.2.2.2.2.1
abbrev xT (X : Cx) : List (Nat × Nat × Nat) := X.2.2.2.2.2.2
abbrev xN (X : Cx) : Nat := X.2.2.2.2.1.2
/-- what holds all through a method's body -/
def mOK (X : Cx) (cc : ByteArray) (own : String) (nm : String) (ret : Option FieldType) (d mc ms : Nat) : Prop :=
  X.1.1.tables.exec = Jvm.exec ∧ X.2.2.1.2.code = cc ∧ X.2.2.1.2.maxLocals = xN X ∧ X.2.1.1.vm.findClass own = some X.2.1.2.1.cls ∧ (∀ w ∈ TB, w.before X.2.1.2.2.1 X.2.1.1 = true) ∧ mK X.2.2.2.1.1 X.2.2.2.1.2.1 X.2.2.2.1.2.2 (xB X) X.2.1.1 ∧ X.2.2.1.1.sig.returnType = ret ∧ X.2.2.1.1.locks = false ∧ X.2.2.1.1.name = nm ∧ (d ≤ X.1.2.2.2.frames ∧ X.1.2.2.2.cells = mc ∧ X.1.2.2.2.slots = ms ∧ 60 * d ≤ X.1.2.2.2.locals) ∧ xB X ≤ X.2.1.1.heap.size
theorem mG.widen {X : Cx} {pc : Nat} {lv : List (Nat × Value)} {st : List Value} {σ : Mem} {kc ks kc' ks' : Nat} {Q : State → Prop} (h1 : kc ≤ kc') (h2 : ks ≤ ks') (k : mG X pc lv st σ kc' ks' Q) : mG X pc lv st σ kc ks Q := fun H locs ls a b c => W.widen h1 h2 (k H locs ls a b c)
theorem mG.loc {X : Cx} {pc : Nat} {lv lv' : List (Nat × Value)} {st : List Value} {σ : Mem} {kc ks : Nat} {Q : State → Prop} (h : ∀ q ∈ lv', q ∈ lv) (k : mG X pc lv' st σ kc ks Q) : mG X pc lv st σ kc ks Q := fun H locs ls a b c => k H locs ls a b ⟨c.1, c.2.1, fun q hq => c.2.2 q (h q hq)⟩
/-- the value of a local -/
def lvG (lv : List (Nat × Value)) (i : Nat) : Option Value := match lv with
  | [] => none
  | q :: r => if q.1 = i then some q.2 else lvG r i
theorem lvG_mem : ∀ {lv : List (Nat × Value)} {i : Nat} {v : Value}, lvG lv i = some v → (i, v) ∈ lv
  | [], _, _, h => by cases h
  | q :: r, i, v, h => by
    unfold lvG at h
    by_cases c : q.1 = i
    · rw [if_pos c] at h
      cases h
      subst c
      exact List.mem_cons_self
    · rw [if_neg c] at h
      exact List.mem_cons_of_mem _ (lvG_mem h)
/-- a local is set -/
abbrev lvS (lv : List (Nat × Value)) (i : Nat) (v : Value) : List (Nat × Value) := (i, v) :: lv.filter (fun q => !(q.1 == i) && !(q.1 + 1 == i && q.2.category == 2))
abbrev lvS2 (lv : List (Nat × Value)) (i : Nat) (v : Value) : List (Nat × Value) := (i, v) :: lv.filter (fun q => !(q.1 == i) && (!(q.1 == i + 1) && !(q.1 + 1 == i && q.2.category == 2)))
section GW
variable {X : Cx} {cc : ByteArray} {own nm : String} {ret : Option FieldType} {d mc ms : Nat} {pc : Nat} {lv : List (Nat × Value)} {st : List Value} {σ : Mem} {kc ks : Nat} {Q : State → Prop}
theorem g_iconst (hC : mOK X cc own nm ret d mc ms) {n : Int} {v : Int32} (hd : decode cc pc = .ok (.iconst n, 1)) (hv : Int32.ofInt n = v) (k : mG X (pc + 1) lv (.int v :: st) σ kc ks Q) : mG X pc lv st σ kc ks Q :=
  fun H locs ls a b c => lv_iconst hC.1 hC.2.1 hd hv (k H locs ls a b c)
theorem g_bipush (hC : mOK X cc own nm ret d mc ms) {n : Int} {v : Int32} (hd : decode cc pc = .ok (.bipush n, 2)) (hv : (Int8.ofInt n).toInt32 = v) (k : mG X (pc + 2) lv (.int v :: st) σ kc ks Q) : mG X pc lv st σ kc ks Q :=
  fun H locs ls a b c => lv_bipush hC.1 hC.2.1 hd hv (k H locs ls a b c)
theorem g_sipush (hC : mOK X cc own nm ret d mc ms) {n : Int} {v : Int32} (hd : decode cc pc = .ok (.sipush n, 3)) (hv : (Int16.ofInt n).toInt32 = v) (k : mG X (pc + 3) lv (.int v :: st) σ kc ks Q) : mG X pc lv st σ kc ks Q :=
  fun H locs ls a b c => lv_sipush hC.1 hC.2.1 hd hv (k H locs ls a b c)
theorem g_lconst (hC : mOK X cc own nm ret d mc ms) {n : Fin 2} {v : Int64} (hd : decode cc pc = .ok (.lconst n, 1)) (hv : Int64.ofNat (n : Nat) = v) (k : mG X (pc + 1) lv (.long v :: st) σ kc ks Q) : mG X pc lv st σ kc ks Q :=
  fun H locs ls a b c => lv_lconst hC.1 hC.2.1 hd hv (k H locs ls a b c)
theorem g_ldc (hC : mOK X cc own nm ret d mc ms) {index : Nat} {v : Int32} (hw : Cond.constant own index v ∈ TB) (hd : decode cc pc = .ok (.ldc index, 2)) (k : mG X (pc + 2) lv (.int v :: st) σ kc ks Q) : mG X pc lv st σ kc ks Q :=
  fun H locs ls a b c => lv_ldc hC.1 hC.2.1 hC.2.2.2.1 (hC.2.2.2.2.1 _ hw) hd (k H locs ls a b c)
theorem g_ldcw (hC : mOK X cc own nm ret d mc ms) {index : Nat} {v : Int32} (hw : Cond.constant own index v ∈ TB) (hd : decode cc pc = .ok (.ldc_w index, 3)) (k : mG X (pc + 3) lv (.int v :: st) σ kc ks Q) : mG X pc lv st σ kc ks Q :=
  fun H locs ls a b c => lv_ldcw hC.1 hC.2.1 hC.2.2.2.1 (hC.2.2.2.2.1 _ hw) hd (k H locs ls a b c)
theorem g_ldc2 (hC : mOK X cc own nm ret d mc ms) {index : Nat} {v : Int64} (hw : Cond.constantLong own index v ∈ TB) (hd : decode cc pc = .ok (.ldc2_w index, 3)) (k : mG X (pc + 3) lv (.long v :: st) σ kc ks Q) : mG X pc lv st σ kc ks Q :=
  fun H locs ls a b c => lv_ldc2 hC.1 hC.2.1 hC.2.2.2.1 (hC.2.2.2.2.1 _ hw) hd (k H locs ls a b c)
theorem g_iload_n (hC : mOK X cc own nm ret d mc ms) {i : Fin 4} {x : Int32} (hd : decode cc pc = .ok (.iload_n i, 1)) (hv : lvG lv i = some (.int x)) (k : mG X (pc + 1) lv (.int x :: st) σ kc ks Q) : mG X pc lv st σ kc ks Q :=
  fun H locs ls a b c => lv_iload_n hC.1 hC.2.1 hd rfl (c.2.2 _ (lvG_mem hv)) (k H locs ls a b c)
theorem g_iload (hC : mOK X cc own nm ret d mc ms) {i : Nat} {x : Int32} (hd : decode cc pc = .ok (.iload i, 2)) (hv : lvG lv i = some (.int x)) (k : mG X (pc + 2) lv (.int x :: st) σ kc ks Q) : mG X pc lv st σ kc ks Q :=
  fun H locs ls a b c => lv_iload hC.1 hC.2.1 hd (c.2.2 _ (lvG_mem hv)) (k H locs ls a b c)
theorem g_lload_n (hC : mOK X cc own nm ret d mc ms) {i : Fin 4} {x : Int64} (hd : decode cc pc = .ok (.lload_n i, 1)) (hv : lvG lv i = some (.long x)) (k : mG X (pc + 1) lv (.long x :: st) σ kc ks Q) : mG X pc lv st σ kc ks Q :=
  fun H locs ls a b c => lv_lload_n hC.1 hC.2.1 hd rfl (c.2.2 _ (lvG_mem hv)) (k H locs ls a b c)
theorem g_lload (hC : mOK X cc own nm ret d mc ms) {i : Nat} {x : Int64} (hd : decode cc pc = .ok (.lload i, 2)) (hv : lvG lv i = some (.long x)) (k : mG X (pc + 2) lv (.long x :: st) σ kc ks Q) : mG X pc lv st σ kc ks Q :=
  fun H locs ls a b c => lv_lload hC.1 hC.2.1 hd (c.2.2 _ (lvG_mem hv)) (k H locs ls a b c)
theorem g_aload_n (hC : mOK X cc own nm ret d mc ms) {i : Fin 4} {x : Nat} (hd : decode cc pc = .ok (.aload_n i, 1)) (hv : lvG lv i = some (.ref x)) (k : mG X (pc + 1) lv (.ref x :: st) σ kc ks Q) : mG X pc lv st σ kc ks Q :=
  fun H locs ls a b c => lv_aload_n hC.1 hC.2.1 hd rfl (c.2.2 _ (lvG_mem hv)) (k H locs ls a b c)
theorem g_aload (hC : mOK X cc own nm ret d mc ms) {i : Nat} {x : Nat} (hd : decode cc pc = .ok (.aload i, 2)) (hv : lvG lv i = some (.ref x)) (k : mG X (pc + 2) lv (.ref x :: st) σ kc ks Q) : mG X pc lv st σ kc ks Q :=
  fun H locs ls a b c => lv_aload hC.1 hC.2.1 hd (c.2.2 _ (lvG_mem hv)) (k H locs ls a b c)
theorem g_aload_nN (hC : mOK X cc own nm ret d mc ms) {i : Fin 4} (hd : decode cc pc = .ok (.aload_n i, 1)) (hv : lvG lv i = some .null) (k : mG X (pc + 1) lv (.null :: st) σ kc ks Q) : mG X pc lv st σ kc ks Q :=
  fun H locs ls a b c => lv_aload_nN hC.1 hC.2.1 hd rfl (c.2.2 _ (lvG_mem hv)) (k H locs ls a b c)
theorem g_aloadN (hC : mOK X cc own nm ret d mc ms) {i : Nat} (hd : decode cc pc = .ok (.aload i, 2)) (hv : lvG lv i = some .null) (k : mG X (pc + 2) lv (.null :: st) σ kc ks Q) : mG X pc lv st σ kc ks Q :=
  fun H locs ls a b c => lv_aloadN hC.1 hC.2.1 hd (c.2.2 _ (lvG_mem hv)) (k H locs ls a b c)
/-- a reference that may be null, as it lies in a local -/
theorem g_aload_nQ (hC : mOK X cc own nm ret d mc ms) {i : Fin 4} {o : Option Nat} (hd : decode cc pc = .ok (.aload_n i, 1)) (hv : lvG lv i = some (va_rf o)) (k : mG X (pc + 1) lv (va_rf o :: st) σ kc ks Q) : mG X pc lv st σ kc ks Q := by
  cases o with
  | none => exact g_aload_nN hC hd hv k
  | some r => exact g_aload_n hC hd hv k
theorem g_aloadQ (hC : mOK X cc own nm ret d mc ms) {i : Nat} {o : Option Nat} (hd : decode cc pc = .ok (.aload i, 2)) (hv : lvG lv i = some (va_rf o)) (k : mG X (pc + 2) lv (va_rf o :: st) σ kc ks Q) : mG X pc lv st σ kc ks Q := by
  cases o with
  | none => exact g_aloadN hC hd hv k
  | some r => exact g_aload hC hd hv k
theorem g_istore_n (hC : mOK X cc own nm ret d mc ms) {i : Fin 4} {x : Int32} (hd : decode cc pc = .ok (.istore_n i, 1)) (hn : (i : Nat) < xN X) {lv' : List (Nat × Value)} (hl : lvS lv i (.int x) = lv') (k : mG X (pc + 1) lv' st σ kc ks Q) : mG X pc lv (.int x :: st) σ kc ks Q :=
  fun H locs ls a b c => lv_istore_n hC.1 hC.2.1 hd rfl c hn hl (fun ls hl => k H locs ls a b hl)
theorem g_istore (hC : mOK X cc own nm ret d mc ms) {i : Nat} {x : Int32} (hd : decode cc pc = .ok (.istore i, 2)) (hn : i < xN X) {lv' : List (Nat × Value)} (hl : lvS lv i (.int x) = lv') (k : mG X (pc + 2) lv' st σ kc ks Q) : mG X pc lv (.int x :: st) σ kc ks Q :=
  fun H locs ls a b c => lv_istore hC.1 hC.2.1 hd c hn hl (fun ls hl => k H locs ls a b hl)
theorem g_lstore_n (hC : mOK X cc own nm ret d mc ms) {i : Fin 4} {x : Int64} (hd : decode cc pc = .ok (.lstore_n i, 1)) (hn : (i : Nat) + 1 < xN X) {lv' : List (Nat × Value)} (hl : lvS2 lv i (.long x) = lv') (k : mG X (pc + 1) lv' st σ kc ks Q) : mG X pc lv (.long x :: st) σ kc ks Q :=
  fun H locs ls a b c => lv_lstore_n hC.1 hC.2.1 hd rfl c hn hl (fun ls hl => k H locs ls a b hl)
theorem g_lstore (hC : mOK X cc own nm ret d mc ms) {i : Nat} {x : Int64} (hd : decode cc pc = .ok (.lstore i, 2)) (hn : i + 1 < xN X) {lv' : List (Nat × Value)} (hl : lvS2 lv i (.long x) = lv') (k : mG X (pc + 2) lv' st σ kc ks Q) : mG X pc lv (.long x :: st) σ kc ks Q :=
  fun H locs ls a b c => lv_lstore hC.1 hC.2.1 hd c hn hl (fun ls hl => k H locs ls a b hl)
theorem g_astore_n (hC : mOK X cc own nm ret d mc ms) {i : Fin 4} {x : Nat} (hd : decode cc pc = .ok (.astore_n i, 1)) (hn : (i : Nat) < xN X) {lv' : List (Nat × Value)} (hl : lvS lv i (.ref x) = lv') (k : mG X (pc + 1) lv' st σ kc ks Q) : mG X pc lv (.ref x :: st) σ kc ks Q :=
  fun H locs ls a b c => lv_astore_n hC.1 hC.2.1 hd rfl c hn hl (fun ls hl => k H locs ls a b hl)
theorem g_astore (hC : mOK X cc own nm ret d mc ms) {i : Nat} {x : Nat} (hd : decode cc pc = .ok (.astore i, 2)) (hn : i < xN X) {lv' : List (Nat × Value)} (hl : lvS lv i (.ref x) = lv') (k : mG X (pc + 2) lv' st σ kc ks Q) : mG X pc lv (.ref x :: st) σ kc ks Q :=
  fun H locs ls a b c => lv_astore hC.1 hC.2.1 hd c hn hl (fun ls hl => k H locs ls a b hl)
theorem g_astore_nQ (hC : mOK X cc own nm ret d mc ms) {i : Fin 4} {o : Option Nat} (hd : decode cc pc = .ok (.astore_n i, 1)) (hn : (i : Nat) < xN X) {lv' : List (Nat × Value)} (hl : lvS lv i (va_rf o) = lv') (k : mG X (pc + 1) lv' st σ kc ks Q) : mG X pc lv (va_rf o :: st) σ kc ks Q := by
  cases o with
  | none => exact fun H locs ls a b c => lv_astore_nN hC.1 hC.2.1 hd rfl c hn hl (fun ls hl => k H locs ls a b hl)
  | some r => exact g_astore_n hC hd hn hl k
theorem g_astoreQ (hC : mOK X cc own nm ret d mc ms) {i : Nat} {o : Option Nat} (hd : decode cc pc = .ok (.astore i, 2)) (hn : i < xN X) {lv' : List (Nat × Value)} (hl : lvS lv i (va_rf o) = lv') (k : mG X (pc + 2) lv' st σ kc ks Q) : mG X pc lv (va_rf o :: st) σ kc ks Q := by
  cases o with
  | none => exact fun H locs ls a b c => lv_astoreN hC.1 hC.2.1 hd c hn hl (fun ls hl => k H locs ls a b hl)
  | some r => exact g_astore hC hd hn hl k
theorem g_iinc (hC : mOK X cc own nm ret d mc ms) {i : Nat} {n : Int} {x v : Int32} (hd : decode cc pc = .ok (.iinc i n, 3)) (hv : lvG lv i = some (.int x)) (he : x + Int32.ofInt n = v) (hn : i < xN X) {lv' : List (Nat × Value)} (hl : lvS lv i (.int v) = lv') (k : mG X (pc + 3) lv' st σ kc ks Q) : mG X pc lv st σ kc ks Q := by
  obtain ⟨j, hj⟩ := List.getElem?_of_mem (lvG_mem hv)
  exact fun H locs ls a b c => lv_iinc hC.1 hC.2.1 hd c hj he hn hl (fun ls hl => k H locs ls a b hl)
theorem g_goto (hC : mOK X cc own nm ret d mc ms) {off : Int} {tgt : Nat} (hd : decode cc pc = .ok (.goto off, 3)) (ht : (pc : Int) + off = (tgt : Int)) (k : mG X tgt lv st σ kc ks Q) : mG X pc lv st σ kc ks Q :=
  fun H locs ls a b c => lv_goto hC.1 hC.2.1 hd ht (k H locs ls a b c)
theorem g_dup (hC : mOK X cc own nm ret d mc ms) {v : Value} (hd : decode cc pc = .ok (.dup, 1)) (hv : v.category = 1) (k : mG X (pc + 1) lv (v :: v :: st) σ kc ks Q) : mG X pc lv (v :: st) σ kc ks Q :=
  fun H locs ls a b c => lv_dup hC.1 hC.2.1 hd hv (k H locs ls a b c)
theorem g_pop (hC : mOK X cc own nm ret d mc ms) {v : Value} (hd : decode cc pc = .ok (.pop, 1)) (hv : v.category = 1) (k : mG X (pc + 1) lv st σ kc ks Q) : mG X pc lv (v :: st) σ kc ks Q :=
  fun H locs ls a b c => lv_pop hC.1 hC.2.1 hd hv (k H locs ls a b c)
theorem g_dup_x1 (hC : mOK X cc own nm ret d mc ms) {v w : Value} (hd : decode cc pc = .ok (.dup_x1, 1)) (hv : v.category = 1) (hw : w.category = 1) (k : mG X (pc + 1) lv (v :: w :: v :: st) σ kc ks Q) : mG X pc lv (v :: w :: st) σ kc ks Q :=
  fun H locs ls a b c => lv_dup_x1 hC.1 hC.2.1 hd hv hw (k H locs ls a b c)
theorem g_dup2 (hC : mOK X cc own nm ret d mc ms) {v w : Value} (hd : decode cc pc = .ok (.dup2, 1)) (hv : v.category = 1) (hw : w.category = 1) (k : mG X (pc + 1) lv (v :: w :: v :: w :: st) σ kc ks Q) : mG X pc lv (v :: w :: st) σ kc ks Q :=
  fun H locs ls a b c => lv_dup2_11 hC.1 hC.2.1 hd hv hw (k H locs ls a b c)
theorem g_null (hC : mOK X cc own nm ret d mc ms) (hd : decode cc pc = .ok (.aconst_null, 1)) (k : mG X (pc + 1) lv (.null :: st) σ kc ks Q) : mG X pc lv st σ kc ks Q :=
  fun H locs ls a b c => lv_null hC.1 hC.2.1 hd (k H locs ls a b c)
theorem g_ifnull (hC : mOK X cc own nm ret d mc ms) {o : Option Nat} {off : Int} {tgt : Nat} (hd : decode cc pc = .ok (.ifnull off, 3)) (ht : (pc : Int) + off = (tgt : Int)) (k1 : o = none → mG X tgt lv st σ kc ks Q) (k2 : ∀ r, o = some r → mG X (pc + 3) lv st σ kc ks Q) : mG X pc lv (va_rf o :: st) σ kc ks Q := by
  cases o with
  | none => exact fun H locs ls a b c => lv_ifnullN hC.1 hC.2.1 hd ht (k1 rfl H locs ls a b c)
  | some r => exact fun H locs ls a b c => lv_ifnull hC.1 hC.2.1 hd (k2 r rfl H locs ls a b c)
theorem g_ifnonnull (hC : mOK X cc own nm ret d mc ms) {o : Option Nat} {off : Int} {tgt : Nat} (hd : decode cc pc = .ok (.ifnonnull off, 3)) (ht : (pc : Int) + off = (tgt : Int)) (k1 : ∀ r, o = some r → mG X tgt lv st σ kc ks Q) (k2 : o = none → mG X (pc + 3) lv st σ kc ks Q) : mG X pc lv (va_rf o :: st) σ kc ks Q := by
  cases o with
  | none => exact fun H locs ls a b c => lv_ifnonnullN hC.1 hC.2.1 hd (k2 rfl H locs ls a b c)
  | some r => exact fun H locs ls a b c => lv_ifnonnull hC.1 hC.2.1 hd ht (k1 r rfl H locs ls a b c)
theorem g_lcmp (hC : mOK X cc own nm ret d mc ms) {x y : Int64} (hd : decode cc pc = .ok (.lcmp, 1)) (k : mG X (pc + 1) lv (.int (lg_cmp x y) :: st) σ kc ks Q) : mG X pc lv (.long y :: .long x :: st) σ kc ks Q :=
  fun H locs ls a b c => W.lcmp hC.1 hC.2.1 hd (k H locs ls a b c)
theorem g_tableOut (hC : mOK X cc own nm ret d mc ms) {dflt lo hi : Int} {offs : Array Int} {len : Nat} {x : Int32} {tgt : Nat} (hd : decode cc pc = .ok (.tableswitch dflt lo hi offs, len)) (h : x.toInt < lo ∨ hi < x.toInt) (ht : (pc : Int) + dflt = (tgt : Int)) (k : mG X tgt lv st σ kc ks Q) : mG X pc lv (.int x :: st) σ kc ks Q :=
  fun H locs ls a b c => lv_tableOut hC.1 hC.2.1 hd h ht (k H locs ls a b c)
theorem g_tableIn (hC : mOK X cc own nm ret d mc ms) {dflt lo hi : Int} {offs : Array Int} {len : Nat} {x : Int32} {off : Int} {tgt : Nat} (hd : decode cc pc = .ok (.tableswitch dflt lo hi offs, len)) (v : Int32) (hx : x = v) (h1 : ¬ v.toInt < lo) (h2 : ¬ hi < v.toInt) (ho : offs[(v.toInt - lo).toNat]? = some off) (ht : (pc : Int) + off = (tgt : Int)) (k : mG X tgt lv st σ kc ks Q) : mG X pc lv (.int x :: st) σ kc ks Q := by
  subst hx
  exact fun H locs ls a b c => lv_tableIn hC.1 hC.2.1 hd h1 h2 ho ht (k H locs ls a b c)
theorem g_iadd (hC : mOK X cc own nm ret d mc ms) {x y : Int32} (hd : decode cc pc = .ok (.iadd, 1)) (k : mG X (pc + 1) lv (.int (x + y) :: st) σ kc ks Q) : mG X pc lv (.int y :: .int x :: st) σ kc ks Q :=
  fun H locs ls a b c => lv_iadd hC.1 hC.2.1 hd (k H locs ls a b c)
theorem g_isub (hC : mOK X cc own nm ret d mc ms) {x y : Int32} (hd : decode cc pc = .ok (.isub, 1)) (k : mG X (pc + 1) lv (.int (x - y) :: st) σ kc ks Q) : mG X pc lv (.int y :: .int x :: st) σ kc ks Q :=
  fun H locs ls a b c => lv_isub hC.1 hC.2.1 hd (k H locs ls a b c)
theorem g_imul (hC : mOK X cc own nm ret d mc ms) {x y : Int32} (hd : decode cc pc = .ok (.imul, 1)) (k : mG X (pc + 1) lv (.int (x * y) :: st) σ kc ks Q) : mG X pc lv (.int y :: .int x :: st) σ kc ks Q :=
  fun H locs ls a b c => lv_imul hC.1 hC.2.1 hd (k H locs ls a b c)
theorem g_iand (hC : mOK X cc own nm ret d mc ms) {x y : Int32} (hd : decode cc pc = .ok (.iand, 1)) (k : mG X (pc + 1) lv (.int (x &&& y) :: st) σ kc ks Q) : mG X pc lv (.int y :: .int x :: st) σ kc ks Q :=
  fun H locs ls a b c => lv_iand hC.1 hC.2.1 hd (k H locs ls a b c)
theorem g_ior (hC : mOK X cc own nm ret d mc ms) {x y : Int32} (hd : decode cc pc = .ok (.ior, 1)) (k : mG X (pc + 1) lv (.int (x ||| y) :: st) σ kc ks Q) : mG X pc lv (.int y :: .int x :: st) σ kc ks Q :=
  fun H locs ls a b c => lv_ior hC.1 hC.2.1 hd (k H locs ls a b c)
theorem g_ixor (hC : mOK X cc own nm ret d mc ms) {x y : Int32} (hd : decode cc pc = .ok (.ixor, 1)) (k : mG X (pc + 1) lv (.int (x ^^^ y) :: st) σ kc ks Q) : mG X pc lv (.int y :: .int x :: st) σ kc ks Q :=
  fun H locs ls a b c => lv_ixor hC.1 hC.2.1 hd (k H locs ls a b c)
theorem g_ladd (hC : mOK X cc own nm ret d mc ms) {x y : Int64} (hd : decode cc pc = .ok (.ladd, 1)) (k : mG X (pc + 1) lv (.long (x + y) :: st) σ kc ks Q) : mG X pc lv (.long y :: .long x :: st) σ kc ks Q :=
  fun H locs ls a b c => lv_ladd hC.1 hC.2.1 hd (k H locs ls a b c)
theorem g_lsub (hC : mOK X cc own nm ret d mc ms) {x y : Int64} (hd : decode cc pc = .ok (.lsub, 1)) (k : mG X (pc + 1) lv (.long (x - y) :: st) σ kc ks Q) : mG X pc lv (.long y :: .long x :: st) σ kc ks Q :=
  fun H locs ls a b c => lv_lsub hC.1 hC.2.1 hd (k H locs ls a b c)
theorem g_lmul (hC : mOK X cc own nm ret d mc ms) {x y : Int64} (hd : decode cc pc = .ok (.lmul, 1)) (k : mG X (pc + 1) lv (.long (x * y) :: st) σ kc ks Q) : mG X pc lv (.long y :: .long x :: st) σ kc ks Q :=
  fun H locs ls a b c => lv_lmul hC.1 hC.2.1 hd (k H locs ls a b c)
theorem g_land (hC : mOK X cc own nm ret d mc ms) {x y : Int64} (hd : decode cc pc = .ok (.land, 1)) (k : mG X (pc + 1) lv (.long (x &&& y) :: st) σ kc ks Q) : mG X pc lv (.long y :: .long x :: st) σ kc ks Q :=
  fun H locs ls a b c => lv_land hC.1 hC.2.1 hd (k H locs ls a b c)
theorem g_lor (hC : mOK X cc own nm ret d mc ms) {x y : Int64} (hd : decode cc pc = .ok (.lor, 1)) (k : mG X (pc + 1) lv (.long (x ||| y) :: st) σ kc ks Q) : mG X pc lv (.long y :: .long x :: st) σ kc ks Q :=
  fun H locs ls a b c => lv_lor hC.1 hC.2.1 hd (k H locs ls a b c)
theorem g_lxor (hC : mOK X cc own nm ret d mc ms) {x y : Int64} (hd : decode cc pc = .ok (.lxor, 1)) (k : mG X (pc + 1) lv (.long (x ^^^ y) :: st) σ kc ks Q) : mG X pc lv (.long y :: .long x :: st) σ kc ks Q :=
  fun H locs ls a b c => lv_lxor hC.1 hC.2.1 hd (k H locs ls a b c)
theorem g_idiv (hC : mOK X cc own nm ret d mc ms) {x y : Int32} (hd : decode cc pc = .ok (.idiv, 1)) (hne : ¬ y = 0) (k : mG X (pc + 1) lv (.int (x / y) :: st) σ kc ks Q) : mG X pc lv (.int y :: .int x :: st) σ kc ks Q :=
  fun H locs ls a b c => lv_idiv hC.1 hC.2.1 hd hne (k H locs ls a b c)
theorem g_irem (hC : mOK X cc own nm ret d mc ms) {x y : Int32} (hd : decode cc pc = .ok (.irem, 1)) (hne : ¬ y = 0) (k : mG X (pc + 1) lv (.int (x - x / y * y) :: st) σ kc ks Q) : mG X pc lv (.int y :: .int x :: st) σ kc ks Q :=
  fun H locs ls a b c => lv_irem hC.1 hC.2.1 hd hne (k H locs ls a b c)
theorem g_ldiv (hC : mOK X cc own nm ret d mc ms) {x y : Int64} (hd : decode cc pc = .ok (.ldiv, 1)) (hne : ¬ y = 0) (k : mG X (pc + 1) lv (.long (x / y) :: st) σ kc ks Q) : mG X pc lv (.long y :: .long x :: st) σ kc ks Q :=
  fun H locs ls a b c => lv_ldiv hC.1 hC.2.1 hd hne (k H locs ls a b c)
theorem g_lrem (hC : mOK X cc own nm ret d mc ms) {x y : Int64} (hd : decode cc pc = .ok (.lrem, 1)) (hne : ¬ y = 0) (k : mG X (pc + 1) lv (.long (x - x / y * y) :: st) σ kc ks Q) : mG X pc lv (.long y :: .long x :: st) σ kc ks Q :=
  fun H locs ls a b c => lv_lrem hC.1 hC.2.1 hd hne (k H locs ls a b c)
theorem g_ineg (hC : mOK X cc own nm ret d mc ms) {x : Int32} (hd : decode cc pc = .ok (.ineg, 1)) (k : mG X (pc + 1) lv (.int (0 - x) :: st) σ kc ks Q) : mG X pc lv (.int x :: st) σ kc ks Q :=
  fun H locs ls a b c => lv_ineg hC.1 hC.2.1 hd (k H locs ls a b c)
theorem g_ishl (hC : mOK X cc own nm ret d mc ms) {x y : Int32} (hd : decode cc pc = .ok (.ishl, 1)) (k : mG X (pc + 1) lv (.int (x <<< (y &&& 31)) :: st) σ kc ks Q) : mG X pc lv (.int y :: .int x :: st) σ kc ks Q :=
  fun H locs ls a b c => lv_ishl hC.1 hC.2.1 hd (k H locs ls a b c)
theorem g_ishr (hC : mOK X cc own nm ret d mc ms) {x y : Int32} (hd : decode cc pc = .ok (.ishr, 1)) (k : mG X (pc + 1) lv (.int (x >>> (y &&& 31)) :: st) σ kc ks Q) : mG X pc lv (.int y :: .int x :: st) σ kc ks Q :=
  fun H locs ls a b c => lv_ishr hC.1 hC.2.1 hd (k H locs ls a b c)
theorem g_iushr (hC : mOK X cc own nm ret d mc ms) {x y : Int32} (hd : decode cc pc = .ok (.iushr, 1)) (k : mG X (pc + 1) lv (.int (x.toUInt32 >>> (y.toUInt32 &&& Int32.toUInt32 31)).toInt32 :: st) σ kc ks Q) : mG X pc lv (.int y :: .int x :: st) σ kc ks Q :=
  fun H locs ls a b c => lv_iushr hC.1 hC.2.1 hd rfl (k H locs ls a b c)
theorem g_i2l (hC : mOK X cc own nm ret d mc ms) {x : Int32} (hd : decode cc pc = .ok (.i2l, 1)) (k : mG X (pc + 1) lv (.long (x.toInt64) :: st) σ kc ks Q) : mG X pc lv (.int x :: st) σ kc ks Q :=
  fun H locs ls a b c => lv_i2l hC.1 hC.2.1 hd rfl (k H locs ls a b c)
theorem g_l2i (hC : mOK X cc own nm ret d mc ms) {x : Int64} (hd : decode cc pc = .ok (.l2i, 1)) (k : mG X (pc + 1) lv (.int (x.toInt32) :: st) σ kc ks Q) : mG X pc lv (.long x :: st) σ kc ks Q :=
  fun H locs ls a b c => lv_l2i hC.1 hC.2.1 hd rfl (k H locs ls a b c)
theorem g_i2b (hC : mOK X cc own nm ret d mc ms) {x : Int32} (hd : decode cc pc = .ok (.i2b, 1)) (k : mG X (pc + 1) lv (.int (x.toInt8.toInt32) :: st) σ kc ks Q) : mG X pc lv (.int x :: st) σ kc ks Q :=
  fun H locs ls a b c => lv_i2b hC.1 hC.2.1 hd rfl (k H locs ls a b c)
theorem g_i2s (hC : mOK X cc own nm ret d mc ms) {x : Int32} (hd : decode cc pc = .ok (.i2s, 1)) (k : mG X (pc + 1) lv (.int (x.toInt16.toInt32) :: st) σ kc ks Q) : mG X pc lv (.int x :: st) σ kc ks Q :=
  fun H locs ls a b c => lv_i2s hC.1 hC.2.1 hd rfl (k H locs ls a b c)
theorem g_i2c (hC : mOK X cc own nm ret d mc ms) {x : Int32} (hd : decode cc pc = .ok (.i2c, 1)) (k : mG X (pc + 1) lv (.int ((x.toUInt32 % 65536).toInt32) :: st) σ kc ks Q) : mG X pc lv (.int x :: st) σ kc ks Q :=
  fun H locs ls a b c => lv_i2c hC.1 hC.2.1 hd rfl (k H locs ls a b c)
theorem g_if_eq (hC : mOK X cc own nm ret d mc ms) {x : Int32} {off : Int} {tgt : Nat} (hd : decode cc pc = .ok (.ifCond .eq off, 3)) (ht : (pc : Int) + off = (tgt : Int)) (k1 : x = 0 → mG X tgt lv st σ kc ks Q) (k2 : ¬ x = 0 → mG X (pc + 3) lv st σ kc ks Q) : mG X pc lv (.int x :: st) σ kc ks Q :=
  fun H locs ls a b c => lv_if_eq hC.1 hC.2.1 hd ht (fun z => k1 z H locs ls a b c) (fun z => k2 z H locs ls a b c)
theorem g_icmp_eq (hC : mOK X cc own nm ret d mc ms) {x y : Int32} {off : Int} {tgt : Nat} (hd : decode cc pc = .ok (.if_icmp .eq off, 3)) (ht : (pc : Int) + off = (tgt : Int)) (k1 : x = y → mG X tgt lv st σ kc ks Q) (k2 : ¬ x = y → mG X (pc + 3) lv st σ kc ks Q) : mG X pc lv (.int y :: .int x :: st) σ kc ks Q :=
  fun H locs ls a b c => lv_icmp_eq hC.1 hC.2.1 hd ht (fun z => k1 z H locs ls a b c) (fun z => k2 z H locs ls a b c)
theorem g_if_ne (hC : mOK X cc own nm ret d mc ms) {x : Int32} {off : Int} {tgt : Nat} (hd : decode cc pc = .ok (.ifCond .ne off, 3)) (ht : (pc : Int) + off = (tgt : Int)) (k1 : ¬ x = 0 → mG X tgt lv st σ kc ks Q) (k2 : x = 0 → mG X (pc + 3) lv st σ kc ks Q) : mG X pc lv (.int x :: st) σ kc ks Q :=
  fun H locs ls a b c => lv_if_ne hC.1 hC.2.1 hd ht (fun z => k1 z H locs ls a b c) (fun z => k2 z H locs ls a b c)
theorem g_icmp_ne (hC : mOK X cc own nm ret d mc ms) {x y : Int32} {off : Int} {tgt : Nat} (hd : decode cc pc = .ok (.if_icmp .ne off, 3)) (ht : (pc : Int) + off = (tgt : Int)) (k1 : ¬ x = y → mG X tgt lv st σ kc ks Q) (k2 : x = y → mG X (pc + 3) lv st σ kc ks Q) : mG X pc lv (.int y :: .int x :: st) σ kc ks Q :=
  fun H locs ls a b c => lv_icmp_ne hC.1 hC.2.1 hd ht (fun z => k1 z H locs ls a b c) (fun z => k2 z H locs ls a b c)
theorem g_if_lt (hC : mOK X cc own nm ret d mc ms) {x : Int32} {off : Int} {tgt : Nat} (hd : decode cc pc = .ok (.ifCond .lt off, 3)) (ht : (pc : Int) + off = (tgt : Int)) (k1 : x < 0 → mG X tgt lv st σ kc ks Q) (k2 : ¬ x < 0 → mG X (pc + 3) lv st σ kc ks Q) : mG X pc lv (.int x :: st) σ kc ks Q :=
  fun H locs ls a b c => lv_if_lt hC.1 hC.2.1 hd ht (fun z => k1 z H locs ls a b c) (fun z => k2 z H locs ls a b c)
theorem g_icmp_lt (hC : mOK X cc own nm ret d mc ms) {x y : Int32} {off : Int} {tgt : Nat} (hd : decode cc pc = .ok (.if_icmp .lt off, 3)) (ht : (pc : Int) + off = (tgt : Int)) (k1 : x < y → mG X tgt lv st σ kc ks Q) (k2 : ¬ x < y → mG X (pc + 3) lv st σ kc ks Q) : mG X pc lv (.int y :: .int x :: st) σ kc ks Q :=
  fun H locs ls a b c => lv_icmp_lt hC.1 hC.2.1 hd ht (fun z => k1 z H locs ls a b c) (fun z => k2 z H locs ls a b c)
theorem g_if_ge (hC : mOK X cc own nm ret d mc ms) {x : Int32} {off : Int} {tgt : Nat} (hd : decode cc pc = .ok (.ifCond .ge off, 3)) (ht : (pc : Int) + off = (tgt : Int)) (k1 : 0 ≤ x → mG X tgt lv st σ kc ks Q) (k2 : ¬ 0 ≤ x → mG X (pc + 3) lv st σ kc ks Q) : mG X pc lv (.int x :: st) σ kc ks Q :=
  fun H locs ls a b c => lv_if_ge hC.1 hC.2.1 hd ht (fun z => k1 z H locs ls a b c) (fun z => k2 z H locs ls a b c)
theorem g_icmp_ge (hC : mOK X cc own nm ret d mc ms) {x y : Int32} {off : Int} {tgt : Nat} (hd : decode cc pc = .ok (.if_icmp .ge off, 3)) (ht : (pc : Int) + off = (tgt : Int)) (k1 : y ≤ x → mG X tgt lv st σ kc ks Q) (k2 : ¬ y ≤ x → mG X (pc + 3) lv st σ kc ks Q) : mG X pc lv (.int y :: .int x :: st) σ kc ks Q :=
  fun H locs ls a b c => lv_icmp_ge hC.1 hC.2.1 hd ht (fun z => k1 z H locs ls a b c) (fun z => k2 z H locs ls a b c)
theorem g_if_gt (hC : mOK X cc own nm ret d mc ms) {x : Int32} {off : Int} {tgt : Nat} (hd : decode cc pc = .ok (.ifCond .gt off, 3)) (ht : (pc : Int) + off = (tgt : Int)) (k1 : 0 < x → mG X tgt lv st σ kc ks Q) (k2 : ¬ 0 < x → mG X (pc + 3) lv st σ kc ks Q) : mG X pc lv (.int x :: st) σ kc ks Q :=
  fun H locs ls a b c => lv_if_gt hC.1 hC.2.1 hd ht (fun z => k1 z H locs ls a b c) (fun z => k2 z H locs ls a b c)
theorem g_icmp_gt (hC : mOK X cc own nm ret d mc ms) {x y : Int32} {off : Int} {tgt : Nat} (hd : decode cc pc = .ok (.if_icmp .gt off, 3)) (ht : (pc : Int) + off = (tgt : Int)) (k1 : y < x → mG X tgt lv st σ kc ks Q) (k2 : ¬ y < x → mG X (pc + 3) lv st σ kc ks Q) : mG X pc lv (.int y :: .int x :: st) σ kc ks Q :=
  fun H locs ls a b c => lv_icmp_gt hC.1 hC.2.1 hd ht (fun z => k1 z H locs ls a b c) (fun z => k2 z H locs ls a b c)
theorem g_if_le (hC : mOK X cc own nm ret d mc ms) {x : Int32} {off : Int} {tgt : Nat} (hd : decode cc pc = .ok (.ifCond .le off, 3)) (ht : (pc : Int) + off = (tgt : Int)) (k1 : x ≤ 0 → mG X tgt lv st σ kc ks Q) (k2 : ¬ x ≤ 0 → mG X (pc + 3) lv st σ kc ks Q) : mG X pc lv (.int x :: st) σ kc ks Q :=
  fun H locs ls a b c => lv_if_le hC.1 hC.2.1 hd ht (fun z => k1 z H locs ls a b c) (fun z => k2 z H locs ls a b c)
theorem g_icmp_le (hC : mOK X cc own nm ret d mc ms) {x y : Int32} {off : Int} {tgt : Nat} (hd : decode cc pc = .ok (.if_icmp .le off, 3)) (ht : (pc : Int) + off = (tgt : Int)) (k1 : x ≤ y → mG X tgt lv st σ kc ks Q) (k2 : ¬ x ≤ y → mG X (pc + 3) lv st σ kc ks Q) : mG X pc lv (.int y :: .int x :: st) σ kc ks Q :=
  fun H locs ls a b c => lv_icmp_le hC.1 hC.2.1 hd ht (fun z => k1 z H locs ls a b c) (fun z => k2 z H locs ls a b c)
end GW
