/-! THE TWO LARGE MAKERS, walked with a name for every memory -/
section GK
variable {X : Cx} {cc : ByteArray} {own nm : String} {ret : Option FieldType} {d mc ms : Nat} {pc : Nat} {lv : List (Nat × Value)} {st : List Value} {σ τ : Mem} {kc ks : Nat} {Q : State → Prop}
theorem nil_s {X : Cx} (hp : xP X = []) {a k : Nat} : ∀ e ∈ xP X, ¬ (e.1 = a ∧ e.2.1 = k) := by rw [hp]; exact fun e h => absurd h List.not_mem_nil
theorem nil_z {X : Cx} (hp : xP X = []) {a : Nat} : ∀ e ∈ xP X, e.1 ≠ a := by rw [hp]; exact fun e h => absurd h List.not_mem_nil
theorem k_newa (hC : mOK X cc own nm ret d mc ms) {at_ : ArrayType} {t N r : Nat} {n : Int32} (hA : naOK at_ t) (hn : ¬ n < 0) (hN : n.toNatClampNeg = N) (hNN : N ≤ 100000) (hk : kc + 1 ≤ mc) (hs : ks + N ≤ ms) (hd : decode cc pc = .ok (.newarray at_, 2)) (hL : mL σ = r) (hτ : τ = mN σ (t, N)) (kk : mG X (pc + 2) lv (.ref (xB X + r) :: st) τ (kc + 1) (ks + N) Q) : mG X pc lv (.int n :: st) σ kc ks Q := by
  subst hτ; subst hL
  exact g_newa hC hA hn hN hNN hk hs hd kk
theorem k_newq (hC : mOK X cc own nm ret d mc ms) {index t N r : Nat} {n : Int32} (hA : nqOK own index t) (hn : ¬ n < 0) (hN : n.toNatClampNeg = N) (hNN : N ≤ 100000) (hk : kc + 1 ≤ mc) (hs : ks + N ≤ ms) (hd : decode cc pc = .ok (.anewarray index, 3)) (hL : mL σ = r) (hτ : τ = mN σ (t, N)) (kk : mG X (pc + 3) lv (.ref (xB X + r) :: st) τ (kc + 1) (ks + N) Q) : mG X pc lv (.int n :: st) σ kc ks Q := by
  subst hτ; subst hL
  exact g_newq hC hA hn hN hNN hk hs hd kk
theorem k_new (hC : mOK X cc own nm ret d mc ms) {index ci r : Nat} (hN : nOK own index ci) (hk : kc + 1 ≤ mc) (hs : ks + (fkX ci).length ≤ ms) (hd : decode cc pc = .ok (.new index, 3)) (hL : mL σ = r) (hτ : τ = mN σ (ci, 0)) (kk : mG X (pc + 3) lv (.ref (xB X + r) :: st) τ (kc + 1) (ks + (fkX ci).length) Q) : mG X pc lv st σ kc ks Q := by
  subst hτ; subst hL
  exact g_new hC hN hk hs hd kk
theorem k_putI (hC : mOK X cc own nm ret d mc ms) {index ci k n a : Nat} {v : Int32} (hL : fW own nm index ci k true) (hT : mT σ a = some (ci, n)) (hn : narrow (tyX ci k) (.int v) = .int v) (hfit : fits (tyX ci k) (.int v) = true) (hd : decode cc pc = .ok (.putfield index, 3)) (hτ : τ = sI σ a k v) (kk : mG X (pc + 3) lv st τ kc ks Q) : mG X pc lv (.int v :: .ref (xB X + a) :: st) σ kc ks Q := by
  subst hτ
  exact g_putI hC hL hT hn hfit hd kk
theorem k_putR (hC : mOK X cc own nm ret d mc ms) {index ci k n a : Nat} {r : Option Nat} (hL : fW own nm index ci k false) (hT : mT σ a = some (ci, n)) (hn : ∀ v, narrow (tyX ci k) (va_rf v) = va_rf v) (hfit : ∀ v, fits (tyX ci k) (va_rf v) = true) (hs : ∀ e ∈ xP X, ¬ (e.1 = a ∧ e.2.1 = k)) (hd : decode cc pc = .ok (.putfield index, 3)) (hτ : τ = sP σ a k r) (kk : mG X (pc + 3) lv st τ kc ks Q) : mG X pc lv (va_rf (r.map (fun r => xB X + r)) :: .ref (xB X + a) :: st) σ kc ks Q := by
  subst hτ
  exact g_putR hC hL hT hn hfit hs hd kk
theorem k_iast (hC : mOK X cc own nm ret d mc ms) {a n k : Nat} {i x : Int32} (hT : mT σ a = some (14, n)) (hk : i.toNatClampNeg = k) (hin : vp_in i n) (hd : decode cc pc = .ok (.iastore, 1)) (hτ : τ = sI σ a k x) (kk : mG X (pc + 1) lv st τ kc ks Q) : mG X pc lv (.int x :: .int i :: .ref (xB X + a) :: st) σ kc ks Q := by
  subst hτ
  exact g_iastK hC hT hk hin hd kk
theorem k_cast (hC : mOK X cc own nm ret d mc ms) {a n k : Nat} {i x : Int32} (hT : mT σ a = some (13, n)) (hk : i.toNatClampNeg = k) (hin : vp_in i n) (hb : vp_nar .char x = x) (hd : decode cc pc = .ok (.castore, 1)) (hτ : τ = sI σ a k x) (kk : mG X (pc + 1) lv st τ kc ks Q) : mG X pc lv (.int x :: .int i :: .ref (xB X + a) :: st) σ kc ks Q := by
  subst hτ
  exact g_castK hC hT hk hin hb hd kk
theorem k_aast (hC : mOK X cc own nm ret d mc ms) {a t n r ci n' k : Nat} {i : Int32} (hT : mT σ a = some (t, n)) (h1 : 16 ≤ t) (hin : vp_in i n) (hR : mT σ r = some (ci, n')) (h3 : ci < 13) (hA : aOK ci t) (hs : ∀ e ∈ xP X, ¬ (e.1 = a ∧ e.2.1 = i.toNatClampNeg)) (hk : i.toNatClampNeg = k) (hd : decode cc pc = .ok (.aastore, 1)) (hτ : τ = sP σ a k (some r)) (kk : mG X (pc + 1) lv st τ kc ks Q) : mG X pc lv (.ref (xB X + r) :: .int i :: .ref (xB X + a) :: st) σ kc ks Q := by
  subst hτ; subst hk
  exact g_aast hC hT h1 hin hR h3 hA hs hd kk
end GK
/-- the small makers, as they change the memory -/
theorem tN {σ : Mem} {a : Nat} {t u : Nat × Nat} (h : mT σ a = some t) : mT (mN σ u) a = some t := by
  rw [mT_mN, if_neg (by have := mT_lt h; omega)]; exact h
def vX5 (σ : Mem) (a : Nat) : Mem := sP (mN (sP (mN σ (14, 160)) a 0 (some (mL σ))) (14, 160)) a 7 (some (mL (sP (mN σ (14, 160)) a 0 (some (mL σ)))))
theorem iX5 {σ : Mem} {a : Nat} {Q : Mem → Prop} (h : mT σ a = some (5, 0)) (hq : Q (vX5 σ a)) : w_X5_init σ a Q := ⟨tN h, tN (tN h), hq⟩
def vX7 (σ : Mem) (a : Nat) : Mem := sI (sP (mN σ (14, 40)) a 0 (some (mL σ))) a 1 (-1)
theorem iX7 {σ : Mem} {a : Nat} {Q : Mem → Prop} (h : mT σ a = some (7, 0)) (hq : Q (vX7 σ a)) : w_X7_init σ a Q := ⟨tN h, tN h, hq⟩
def vXa (σ : Mem) (a : Nat) : Mem := sP (mN σ (14, 64)) a 0 (some (mL σ))
def vXb (σ : Mem) (a : Nat) : Mem := sP (mN (vXa σ a) (14, 8)) a 1 (some (mL (vXa σ a)))
def vXc (σ : Mem) (a : Nat) : Mem := sP (mN (vXb σ a) (14, 8)) a 3 (some (mL (vXb σ a)))
def vX1 (σ : Mem) (a : Nat) : Mem := sP (mN (vXc σ a) (14, 8)) a 4 (some (mL (vXc σ a)))
theorem iX1 {σ : Mem} {a : Nat} {Q : Mem → Prop} (h : mT σ a = some (1, 0)) (hq : Q (vX1 σ a)) : w_X1_init σ a Q := ⟨tN h, tN (tN h), tN (tN (tN h)), tN (tN (tN (tN h))), hq⟩
def vX9 (σ : Mem) (a : Nat) : Mem := sI (sP (vX1 (mN σ (1, 0)) (mL σ)) a 0 (some (mL σ))) a 2 9
theorem iX9 {σ : Mem} {a : Nat} {Q : Mem → Prop} (h : mT σ a = some (9, 0)) (hq : Q (vX9 σ a)) : w_X9_init σ a Q := by
  refine iX1 (by rw [mT_mN, if_pos rfl]) ?_
  have h2 : mT (vX1 (mN σ (1, 0)) (mL σ)) a = some (9, 0) := tN (tN (tN (tN (tN h))))
  exact ⟨h2, h2, hq⟩
/-- the memory at the law's start, and one with 37 cells -/
def za : Mem := (fun _ _ => 0, fun _ _ => none, [])
def zb : Mem := (fun _ _ => 0, fun _ _ => none, List.replicate 37 (0, 0))
/-- σ is as σ' from cell 37 on, as β before -/
def Sim (β σ σ' : Mem) : Prop := mL σ = mL σ' ∧ (∀ a, 37 ≤ a → mT σ a = mT σ' a) ∧ (∀ a k, 37 ≤ a ∧ a < mL σ' → mI σ a k = mI σ' a k ∧ mP σ a k = mP σ' a k) ∧ (∀ a, a < 37 → mT σ a = mT β a ∧ ∀ k, mI σ a k = mI β a k ∧ mP σ a k = mP β a k) ∧ 37 ≤ mL σ'
theorem mT_no {σ : Mem} {a : Nat} (h : mL σ ≤ a) : mT σ a = none := List.getElem?_eq_none h
theorem zb_L : mL zb = 37 := by decide +kernel
theorem Sim.rf {β : Mem} (hb : mL β = 37) : Sim β β zb :=
  ⟨by rw [hb, zb_L], fun a h => by rw [mT_no (by omega), mT_no (by rw [zb_L]; exact h)], fun a k h => absurd h.2 (by rw [zb_L]; omega), fun a h => ⟨rfl, fun k => ⟨rfl, rfl⟩⟩, by rw [zb_L]; omega⟩
theorem Sim.sI {β σ σ' : Mem} (h : Sim β σ σ') {a : Nat} (ha : 37 ≤ a) (k : Nat) (v : Int32) : Sim β (sI σ a k v) (sI σ' a k v) := by
  refine ⟨h.1, h.2.1, fun b j hb => ⟨?_, (h.2.2.1 b j hb).2⟩, fun b hb => ⟨(h.2.2.2.1 b hb).1, fun j => ⟨?_, ((h.2.2.2.1 b hb).2 j).2⟩⟩, h.2.2.2.2⟩
  · rw [mI_sI, mI_sI, (h.2.2.1 b j hb).1]
  · rw [mI_sI_n _ _ (by omega)]; exact ((h.2.2.2.1 b hb).2 j).1
theorem Sim.sP {β σ σ' : Mem} (h : Sim β σ σ') {a : Nat} (ha : 37 ≤ a) (k : Nat) (r : Option Nat) : Sim β (sP σ a k r) (sP σ' a k r) := by
  refine ⟨h.1, h.2.1, fun b j hb => ⟨(h.2.2.1 b j hb).1, ?_⟩, fun b hb => ⟨(h.2.2.2.1 b hb).1, fun j => ⟨((h.2.2.2.1 b hb).2 j).1, ?_⟩⟩, h.2.2.2.2⟩
  · rw [mP_sP, mP_sP, (h.2.2.1 b j hb).2]
  · rw [mP_sP, if_neg (by omega)]; exact ((h.2.2.2.1 b hb).2 j).2
theorem Sim.mN {β σ σ' : Mem} (h : Sim β σ σ') (t : Nat × Nat) : Sim β (mN σ t) (mN σ' t) := by
  have h5 := h.2.2.2.2
  have h1 := h.1
  refine ⟨by rw [mL_mN, mL_mN, h1], fun b hb => ?_, fun b j hb => ?_, fun b hb => ?_, by rw [mL_mN]; omega⟩
  · rw [mT_mN, mT_mN, h1, h.2.1 b hb]
  · rw [mL_mN] at hb
    rw [mI_mN, mI_mN, mP_mN, mP_mN, h1]
    by_cases c : b = mL σ'
    · rw [if_pos c, if_pos c, if_pos c, if_pos c]; exact ⟨rfl, rfl⟩
    · rw [if_neg c, if_neg c, if_neg c, if_neg c]; exact h.2.2.1 b j (by omega)
  · rw [mT_mN, if_neg (by omega)]
    refine ⟨(h.2.2.2.1 b hb).1, fun j => ?_⟩
    rw [mI_mN, mP_mN, if_neg (by omega), if_neg (by omega)]
    exact (h.2.2.2.1 b hb).2 j
theorem tw_1009 : Cond.methodLink "GreaterPlates" 3 ⟨"java/lang/Object", "<init>", "()V"⟩ ∈ TB := TB_of 101 (by decide +kernel) (by decide +kernel)
theorem tw_1010 : Cond.classLink "GreaterPlates" 22 "GreaterPlates$Rule" ∈ TB := TB_of 106 (by decide +kernel) (by decide +kernel)
theorem tw_1011 : Cond.classLink "GreaterPlates" 28 "GreaterPlates$Reader" ∈ TB := TB_of 108 (by decide +kernel) (by decide +kernel)
theorem tw_1012 : Cond.instantiable "GreaterPlates$Reader" 9 ∈ TB := TB_of 109 (by decide +kernel) (by decide +kernel)
theorem tw_1013 : Cond.methodLink "GreaterPlates" 30 ⟨"GreaterPlates$Reader", "<init>", "()V"⟩ ∈ TB := TB_of 110 (by decide +kernel) (by decide +kernel)
theorem tw_1014 : Cond.code ⟨"GreaterPlates$Reader", "<init>", "()V"⟩ prog_7_method_1_code 1 none ∈ TB := TB_of 112 (by decide +kernel) (by decide +kernel)
theorem tw_1015 : Cond.instanceMethod ⟨"GreaterPlates$Reader", "<init>", "()V"⟩ ∈ TB := TB_of 111 (by decide +kernel) (by decide +kernel)
theorem tw_1016 : Cond.classLink "GreaterPlates" 42 "GreaterPlates$Sheet" ∈ TB := TB_of 193 (by decide +kernel) (by decide +kernel)
theorem tw_1017 : Cond.classLink "GreaterPlates" 48 "GreaterPlates$Heaps" ∈ TB := TB_of 195 (by decide +kernel) (by decide +kernel)
theorem tw_1018 : Cond.methodLink "GreaterPlates" 50 ⟨"GreaterPlates$Heaps", "<init>", "()V"⟩ ∈ TB := TB_of 196 (by decide +kernel) (by decide +kernel)
theorem tw_1019 : Cond.instantiable "GreaterPlates$Sheet" 3 ∈ TB := TB_of 197 (by decide +kernel) (by decide +kernel)
theorem tw_1020 : Cond.methodLink "GreaterPlates" 70 ⟨"GreaterPlates$Sheet", "<init>", "()V"⟩ ∈ TB := TB_of 198 (by decide +kernel) (by decide +kernel)
theorem tw_1021 : Cond.code ⟨"GreaterPlates$Sheet", "<init>", "()V"⟩ prog_9_method_1_code 1 none ∈ TB := TB_of 200 (by decide +kernel) (by decide +kernel)
theorem tw_1022 : Cond.instanceMethod ⟨"GreaterPlates$Sheet", "<init>", "()V"⟩ ∈ TB := TB_of 199 (by decide +kernel) (by decide +kernel)
theorem tw_1023 : Cond.methodLink "GreaterPlatesModel" 159 ⟨"java/lang/Object", "<init>", "()V"⟩ ∈ TB := TB_of 1022 (by decide +kernel) (by decide +kernel)
theorem tw_1024 : Cond.arrayClass Jvm.ClassFile.FieldType.char ∈ TB := TB_of 1204 (by decide +kernel) (by decide +kernel)
theorem tw_1025 : Cond.arrayClass Jvm.ClassFile.FieldType.boolean ∈ TB := TB_of 1205 (by decide +kernel) (by decide +kernel)
theorem tw_1026 : Cond.methodLink "GreaterPlates" 73 ⟨"java/lang/String", "length", "()I"⟩ ∈ TB := TB_of 216 (by decide +kernel) (by decide +kernel)
theorem tw_1027 : Cond.methodLink "GreaterPlates" 79 ⟨"java/lang/String", "charAt", "(I)C"⟩ ∈ TB := TB_of 226 (by decide +kernel) (by decide +kernel)
theorem fw_X11_9_11i : fW RX11 "<init>" 9 11 0 false := ⟨fl_X11_9_11, fun C T N h => by cases h; exact Or.inr ⟨rfl, rfl, rfl⟩⟩
theorem fw_X11_13_11i : fW RX11 "<init>" 13 11 1 false := ⟨fl_X11_13_11, fun C T N h => by cases h; exact Or.inr ⟨rfl, rfl, rfl⟩⟩
theorem nq_16 : nqOK RX11 16 16 := ⟨"GreaterPlates$Layer", by decide, by decide, fun _ => rfl, tw_76⟩
theorem fw_X11_18_11i : fW RX11 "<init>" 18 11 3 false := ⟨fl_X11_18_11, fun C T N h => by cases h; exact Or.inr ⟨rfl, rfl, rfl⟩⟩
theorem nq_17 : nqOK RX11 22 17 := ⟨"GreaterPlates$Rule", by decide, by decide, fun _ => rfl, tw_1010⟩
theorem fw_X11_24_11i : fW RX11 "<init>" 24 11 5 false := ⟨fl_X11_24_11, fun C T N h => by cases h; exact Or.inr ⟨rfl, rfl, rfl⟩⟩
theorem no_X11_28 : nOK RX11 28 5 := ⟨RX5, TX5, 9, rfl, fok_5, by decide, rfl, by decide, tw_1011, tw_1012, tw_138⟩
theorem yw_X5_init : yW yX5_init cX5_init 1 none 0 := ⟨tw_1014, tw_138, by decide, by decide, by decide, by decide +kernel⟩
theorem yi_X5_init : yI yX5_init := ⟨tw_1015, rfl⟩
theorem fw_X11_31_11i : fW RX11 "<init>" 31 11 7 false := ⟨fl_X11_31_11, fun C T N h => by cases h; exact Or.inr ⟨rfl, rfl, rfl⟩⟩
theorem fw_X11_38_11i : fW RX11 "<init>" 38 11 8 false := ⟨fl_X11_38_11, fun C T N h => by cases h; exact Or.inr ⟨rfl, rfl, rfl⟩⟩
theorem nq_18 : nqOK RX11 42 18 := ⟨"GreaterPlates$Sheet", by decide, by decide, fun _ => rfl, tw_1016⟩
theorem fw_X11_44_11i : fW RX11 "<init>" 44 11 10 false := ⟨fl_X11_44_11, fun C T N h => by cases h; exact Or.inr ⟨rfl, rfl, rfl⟩⟩
theorem no_X11_48 : nOK RX11 48 1 := ⟨RX1, TX1, 5, rfl, fok_1, by decide, rfl, by decide, tw_1017, tw_417, tw_246⟩
theorem fw_X11_51_11i : fW RX11 "<init>" 51 11 11 false := ⟨fl_X11_51_11, fun C T N h => by cases h; exact Or.inr ⟨rfl, rfl, rfl⟩⟩
theorem fw_X11_55_11i : fW RX11 "<init>" 55 11 12 false := ⟨fl_X11_55_11, fun C T N h => by cases h; exact Or.inr ⟨rfl, rfl, rfl⟩⟩
theorem fw_X11_58_11i : fW RX11 "<init>" 58 11 14 false := ⟨fl_X11_58_11, fun C T N h => by cases h; exact Or.inr ⟨rfl, rfl, rfl⟩⟩
theorem fw_X11_61_11i : fW RX11 "<init>" 61 11 15 false := ⟨fl_X11_61_11, fun C T N h => by cases h; exact Or.inr ⟨rfl, rfl, rfl⟩⟩
theorem fw_X11_64_11i : fW RX11 "<init>" 64 11 17 false := ⟨fl_X11_64_11, fun C T N h => by cases h; exact Or.inr ⟨rfl, rfl, rfl⟩⟩
theorem fw_X11_67_11i : fW RX11 "<init>" 67 11 18 false := ⟨fl_X11_67_11, fun C T N h => by cases h; exact Or.inr ⟨rfl, rfl, rfl⟩⟩
theorem no_X11_42 : nOK RX11 42 7 := ⟨RX7, TX7, 3, rfl, fok_7, by decide, rfl, by decide, tw_1016, tw_1019, tw_388⟩
theorem yw_X7_init : yW yX7_init cX7_init 1 none 0 := ⟨tw_1021, tw_388, by decide, by decide, by decide, by decide +kernel⟩
theorem yi_X7_init : yI yX7_init := ⟨tw_1022, rfl⟩
theorem ao_7_18 : aOK 7 18 := ⟨_, "GreaterPlates$Sheet", rfl, fun _ => rfl, Or.inl rfl⟩
theorem fw_X12_14_12i : fW RX12 "<init>" 14 12 1 false := ⟨fl_X12_14_12, fun C T N h => by cases h; exact Or.inr ⟨rfl, rfl, rfl⟩⟩
theorem fw_X12_18_12i : fW RX12 "<init>" 18 12 2 false := ⟨fl_X12_18_12, fun C T N h => by cases h; exact Or.inr ⟨rfl, rfl, rfl⟩⟩
theorem fw_X12_21_12i : fW RX12 "<init>" 21 12 4 false := ⟨fl_X12_21_12, fun C T N h => by cases h; exact Or.inr ⟨rfl, rfl, rfl⟩⟩
theorem fw_X12_24_12i : fW RX12 "<init>" 24 12 5 false := ⟨fl_X12_24_12, fun C T N h => by cases h; exact Or.inr ⟨rfl, rfl, rfl⟩⟩
theorem fw_X12_31_12i : fW RX12 "<init>" 31 12 6 true := ⟨fl_X12_31_12, fun C T N h => by cases h; exact Or.inl rfl⟩
theorem fw_X12_51_12i : fW RX12 "<init>" 51 12 7 false := ⟨fl_X12_51_12, fun C T N h => by cases h; exact Or.inr ⟨rfl, rfl, rfl⟩⟩
theorem fw_X12_86_12i : fW RX12 "<init>" 86 12 11 false := ⟨fl_X12_86_12, fun C T N h => by cases h; exact Or.inr ⟨rfl, rfl, rfl⟩⟩
theorem fw_X12_134_12i : fW RX12 "<init>" 134 12 12 false := ⟨fl_X12_134_12, fun C T N h => by cases h; exact Or.inr ⟨rfl, rfl, rfl⟩⟩
theorem na_13 : naOK .char 13 := ⟨by decide, by decide, tw_1024, fun _ => rfl, rfl, by decide, fun _ _ h => h⟩
theorem fw_X12_69_12i : fW RX12 "<init>" 69 12 17 false := ⟨fl_X12_69_12, fun C T N h => by cases h; exact Or.inr ⟨rfl, rfl, rfl⟩⟩
theorem fw_X12_63_12i : fW RX12 "<init>" 63 12 18 false := ⟨fl_X12_63_12, fun C T N h => by cases h; exact Or.inr ⟨rfl, rfl, rfl⟩⟩
theorem fw_X12_98_12i : fW RX12 "<init>" 98 12 19 false := ⟨fl_X12_98_12, fun C T N h => by cases h; exact Or.inr ⟨rfl, rfl, rfl⟩⟩
theorem na_15 : naOK .boolean 15 := ⟨by decide, by decide, tw_1025, fun _ => rfl, rfl, by decide, fun _ _ h => h⟩
theorem fw_X12_117_12i : fW RX12 "<init>" 117 12 23 false := ⟨fl_X12_117_12, fun C T N h => by cases h; exact Or.inr ⟨rfl, rfl, rfl⟩⟩
theorem fw_X12_164_12i : fW RX12 "<init>" 164 12 26 false := ⟨fl_X12_164_12, fun C T N h => by cases h; exact Or.inr ⟨rfl, rfl, rfl⟩⟩
theorem fw_X12_167_12i : fW RX12 "<init>" 167 12 27 false := ⟨fl_X12_167_12, fun C T N h => by cases h; exact Or.inr ⟨rfl, rfl, rfl⟩⟩
theorem fw_X12_170_12i : fW RX12 "<init>" 170 12 29 false := ⟨fl_X12_170_12, fun C T N h => by cases h; exact Or.inr ⟨rfl, rfl, rfl⟩⟩
theorem fw_X12_173_12i : fW RX12 "<init>" 173 12 30 false := ⟨fl_X12_173_12, fun C T N h => by cases h; exact Or.inr ⟨rfl, rfl, rfl⟩⟩
theorem fw_X12_176_12i : fW RX12 "<init>" 176 12 31 false := ⟨fl_X12_176_12, fun C T N h => by cases h; exact Or.inr ⟨rfl, rfl, rfl⟩⟩
theorem fw_X12_179_12i : fW RX12 "<init>" 179 12 32 false := ⟨fl_X12_179_12, fun C T N h => by cases h; exact Or.inr ⟨rfl, rfl, rfl⟩⟩
theorem fw_X12_182_12i : fW RX12 "<init>" 182 12 33 false := ⟨fl_X12_182_12, fun C T N h => by cases h; exact Or.inr ⟨rfl, rfl, rfl⟩⟩
theorem fw_X12_185_12i : fW RX12 "<init>" 185 12 37 false := ⟨fl_X12_185_12, fun C T N h => by cases h; exact Or.inr ⟨rfl, rfl, rfl⟩⟩
theorem fw_X12_188_12i : fW RX12 "<init>" 188 12 38 false := ⟨fl_X12_188_12, fun C T N h => by cases h; exact Or.inr ⟨rfl, rfl, rfl⟩⟩
theorem fw_X12_191_12i : fW RX12 "<init>" 191 12 43 false := ⟨fl_X12_191_12, fun C T N h => by cases h; exact Or.inr ⟨rfl, rfl, rfl⟩⟩
theorem fw_X12_194_12i : fW RX12 "<init>" 194 12 44 false := ⟨fl_X12_194_12, fun C T N h => by cases h; exact Or.inr ⟨rfl, rfl, rfl⟩⟩
theorem fw_X12_197_12i : fW RX12 "<init>" 197 12 47 false := ⟨fl_X12_197_12, fun C T N h => by cases h; exact Or.inr ⟨rfl, rfl, rfl⟩⟩
theorem fw_X12_200_12i : fW RX12 "<init>" 200 12 48 false := ⟨fl_X12_200_12, fun C T N h => by cases h; exact Or.inr ⟨rfl, rfl, rfl⟩⟩
theorem fw_X12_203_12i : fW RX12 "<init>" 203 12 54 false := ⟨fl_X12_203_12, fun C T N h => by cases h; exact Or.inr ⟨rfl, rfl, rfl⟩⟩
theorem fw_X12_206_12i : fW RX12 "<init>" 206 12 55 false := ⟨fl_X12_206_12, fun C T N h => by cases h; exact Or.inr ⟨rfl, rfl, rfl⟩⟩
theorem fw_X12_209_12i : fW RX12 "<init>" 209 12 56 false := ⟨fl_X12_209_12, fun C T N h => by cases h; exact Or.inr ⟨rfl, rfl, rfl⟩⟩
theorem fw_X12_212_12i : fW RX12 "<init>" 212 12 57 false := ⟨fl_X12_212_12, fun C T N h => by cases h; exact Or.inr ⟨rfl, rfl, rfl⟩⟩
theorem fw_X12_215_12i : fW RX12 "<init>" 215 12 58 false := ⟨fl_X12_215_12, fun C T N h => by cases h; exact Or.inr ⟨rfl, rfl, rfl⟩⟩
theorem fw_X12_218_12i : fW RX12 "<init>" 218 12 59 false := ⟨fl_X12_218_12, fun C T N h => by cases h; exact Or.inr ⟨rfl, rfl, rfl⟩⟩
theorem fw_X12_150_12i : fW RX12 "<init>" 150 12 9 true := ⟨fl_X12_150_12, fun C T N h => by cases h; exact Or.inl rfl⟩
theorem fw_X11_95_5i : fW RX11 "<init>" 95 5 1 true := ⟨fl_X11_95_5, fun C T N h => by cases h; exact Or.inl rfl⟩
theorem fw_X11_91_11i : fW RX11 "<init>" 91 11 6 true := ⟨fl_X11_91_11, fun C T N h => by cases h; exact Or.inl rfl⟩
theorem dX11_init_0 : decode cX11_init 0 = .ok (.aload_n 0, 1) := by decide +kernel
theorem dX11_init_1 : decode cX11_init 1 = .ok (.invokespecial 3, 3) := by decide +kernel
theorem dX11_init_4 : decode cX11_init 4 = .ok (.aload_n 0, 1) := by decide +kernel
theorem dX11_init_5 : decode cX11_init 5 = .ok (.bipush 8, 2) := by decide +kernel
theorem dX11_init_7 : decode cX11_init 7 = .ok (.newarray .int, 2) := by decide +kernel
theorem dX11_init_9 : decode cX11_init 9 = .ok (.putfield 9, 3) := by decide +kernel
theorem dX11_init_12 : decode cX11_init 12 = .ok (.aload_n 0, 1) := by decide +kernel
theorem dX11_init_13 : decode cX11_init 13 = .ok (.bipush 8, 2) := by decide +kernel
theorem dX11_init_15 : decode cX11_init 15 = .ok (.newarray .int, 2) := by decide +kernel
theorem dX11_init_17 : decode cX11_init 17 = .ok (.putfield 13, 3) := by decide +kernel
theorem dX11_init_20 : decode cX11_init 20 = .ok (.aload_n 0, 1) := by decide +kernel
theorem dX11_init_21 : decode cX11_init 21 = .ok (.iconst 5, 1) := by decide +kernel
theorem dX11_init_22 : decode cX11_init 22 = .ok (.anewarray 16, 3) := by decide +kernel
theorem dX11_init_25 : decode cX11_init 25 = .ok (.putfield 18, 3) := by decide +kernel
theorem dX11_init_28 : decode cX11_init 28 = .ok (.aload_n 0, 1) := by decide +kernel
theorem dX11_init_29 : decode cX11_init 29 = .ok (.bipush 6, 2) := by decide +kernel
theorem dX11_init_31 : decode cX11_init 31 = .ok (.anewarray 22, 3) := by decide +kernel
theorem dX11_init_34 : decode cX11_init 34 = .ok (.putfield 24, 3) := by decide +kernel
theorem dX11_init_37 : decode cX11_init 37 = .ok (.aload_n 0, 1) := by decide +kernel
theorem dX11_init_38 : decode cX11_init 38 = .ok (.new 28, 3) := by decide +kernel
theorem dX11_init_41 : decode cX11_init 41 = .ok (.dup, 1) := by decide +kernel
theorem dX11_init_42 : decode cX11_init 42 = .ok (.invokespecial 30, 3) := by decide +kernel
theorem dX11_init_45 : decode cX11_init 45 = .ok (.putfield 31, 3) := by decide +kernel
theorem dX11_init_48 : decode cX11_init 48 = .ok (.aload_n 0, 1) := by decide +kernel
theorem dX11_init_49 : decode cX11_init 49 = .ok (.new 35, 3) := by decide +kernel
theorem dX11_init_52 : decode cX11_init 52 = .ok (.dup, 1) := by decide +kernel
theorem dX11_init_53 : decode cX11_init 53 = .ok (.invokespecial 37, 3) := by decide +kernel
theorem dX11_init_56 : decode cX11_init 56 = .ok (.putfield 38, 3) := by decide +kernel
theorem dX11_init_59 : decode cX11_init 59 = .ok (.aload_n 0, 1) := by decide +kernel
theorem dX11_init_60 : decode cX11_init 60 = .ok (.iconst 4, 1) := by decide +kernel
theorem dX11_init_61 : decode cX11_init 61 = .ok (.anewarray 42, 3) := by decide +kernel
theorem dX11_init_64 : decode cX11_init 64 = .ok (.putfield 44, 3) := by decide +kernel
theorem dX11_init_67 : decode cX11_init 67 = .ok (.aload_n 0, 1) := by decide +kernel
theorem dX11_init_68 : decode cX11_init 68 = .ok (.new 48, 3) := by decide +kernel
theorem dX11_init_71 : decode cX11_init 71 = .ok (.dup, 1) := by decide +kernel
theorem dX11_init_72 : decode cX11_init 72 = .ok (.invokespecial 50, 3) := by decide +kernel
theorem dX11_init_75 : decode cX11_init 75 = .ok (.putfield 51, 3) := by decide +kernel
theorem dX11_init_78 : decode cX11_init 78 = .ok (.aload_n 0, 1) := by decide +kernel
theorem dX11_init_79 : decode cX11_init 79 = .ok (.bipush 8, 2) := by decide +kernel
theorem dX11_init_81 : decode cX11_init 81 = .ok (.newarray .int, 2) := by decide +kernel
theorem dX11_init_83 : decode cX11_init 83 = .ok (.putfield 55, 3) := by decide +kernel
theorem dX11_init_86 : decode cX11_init 86 = .ok (.aload_n 0, 1) := by decide +kernel
theorem dX11_init_87 : decode cX11_init 87 = .ok (.bipush 8, 2) := by decide +kernel
theorem dX11_init_89 : decode cX11_init 89 = .ok (.newarray .int, 2) := by decide +kernel
theorem dX11_init_91 : decode cX11_init 91 = .ok (.putfield 58, 3) := by decide +kernel
theorem dX11_init_94 : decode cX11_init 94 = .ok (.aload_n 0, 1) := by decide +kernel
theorem dX11_init_95 : decode cX11_init 95 = .ok (.bipush 9, 2) := by decide +kernel
theorem dX11_init_97 : decode cX11_init 97 = .ok (.newarray .int, 2) := by decide +kernel
theorem dX11_init_99 : decode cX11_init 99 = .ok (.putfield 61, 3) := by decide +kernel
theorem dX11_init_102 : decode cX11_init 102 = .ok (.aload_n 0, 1) := by decide +kernel
theorem dX11_init_103 : decode cX11_init 103 = .ok (.bipush 8, 2) := by decide +kernel
theorem dX11_init_105 : decode cX11_init 105 = .ok (.newarray .int, 2) := by decide +kernel
theorem dX11_init_107 : decode cX11_init 107 = .ok (.putfield 64, 3) := by decide +kernel
theorem dX11_init_110 : decode cX11_init 110 = .ok (.aload_n 0, 1) := by decide +kernel
theorem dX11_init_111 : decode cX11_init 111 = .ok (.sipush 256, 3) := by decide +kernel
theorem dX11_init_114 : decode cX11_init 114 = .ok (.newarray .int, 2) := by decide +kernel
theorem dX11_init_116 : decode cX11_init 116 = .ok (.putfield 67, 3) := by decide +kernel
theorem dX11_init_119 : decode cX11_init 119 = .ok (.iconst 0, 1) := by decide +kernel
theorem dX11_init_120 : decode cX11_init 120 = .ok (.istore_n 1, 1) := by decide +kernel
theorem dX11_init_121 : decode cX11_init 121 = .ok (.iload_n 1, 1) := by decide +kernel
theorem dX11_init_122 : decode cX11_init 122 = .ok (.iconst 4, 1) := by decide +kernel
theorem dX11_init_123 : decode cX11_init 123 = .ok (.if_icmp .ge 22, 3) := by decide +kernel
theorem dX11_init_126 : decode cX11_init 126 = .ok (.aload_n 0, 1) := by decide +kernel
theorem dX11_init_127 : decode cX11_init 127 = .ok (.getfield 44, 3) := by decide +kernel
theorem dX11_init_130 : decode cX11_init 130 = .ok (.iload_n 1, 1) := by decide +kernel
theorem dX11_init_131 : decode cX11_init 131 = .ok (.new 42, 3) := by decide +kernel
theorem dX11_init_134 : decode cX11_init 134 = .ok (.dup, 1) := by decide +kernel
theorem dX11_init_135 : decode cX11_init 135 = .ok (.invokespecial 70, 3) := by decide +kernel
theorem dX11_init_138 : decode cX11_init 138 = .ok (.aastore, 1) := by decide +kernel
theorem dX11_init_139 : decode cX11_init 139 = .ok (.iinc 1 1, 3) := by decide +kernel
theorem dX11_init_142 : decode cX11_init 142 = .ok (.goto (-21), 3) := by decide +kernel
theorem dX11_init_145 : decode cX11_init 145 = .ok (.iconst 0, 1) := by decide +kernel
theorem dX11_init_146 : decode cX11_init 146 = .ok (.istore_n 1, 1) := by decide +kernel
theorem dX11_init_147 : decode cX11_init 147 = .ok (.iload_n 1, 1) := by decide +kernel
theorem dX11_init_148 : decode cX11_init 148 = .ok (.ldc 71, 2) := by decide +kernel
theorem dX11_init_150 : decode cX11_init 150 = .ok (.invokevirtual 73, 3) := by decide +kernel
theorem dX11_init_153 : decode cX11_init 153 = .ok (.if_icmp .ge 23, 3) := by decide +kernel
theorem dX11_init_156 : decode cX11_init 156 = .ok (.aload_n 0, 1) := by decide +kernel
theorem dX11_init_157 : decode cX11_init 157 = .ok (.getfield 31, 3) := by decide +kernel
theorem dX11_init_160 : decode cX11_init 160 = .ok (.ldc 71, 2) := by decide +kernel
theorem dX11_init_162 : decode cX11_init 162 = .ok (.iload_n 1, 1) := by decide +kernel
theorem dX11_init_163 : decode cX11_init 163 = .ok (.invokevirtual 79, 3) := by decide +kernel
theorem dX11_init_166 : decode cX11_init 166 = .ok (.invokevirtual 83, 3) := by decide +kernel
theorem dX11_init_169 : decode cX11_init 169 = .ok (.pop, 1) := by decide +kernel
theorem dX11_init_170 : decode cX11_init 170 = .ok (.iinc 1 1, 3) := by decide +kernel
theorem dX11_init_173 : decode cX11_init 173 = .ok (.goto (-26), 3) := by decide +kernel
theorem dX11_init_176 : decode cX11_init 176 = .ok (.aload_n 0, 1) := by decide +kernel
theorem dX11_init_177 : decode cX11_init 177 = .ok (.getfield 24, 3) := by decide +kernel
theorem dX11_init_180 : decode cX11_init 180 = .ok (.iconst 0, 1) := by decide +kernel
theorem dX11_init_181 : decode cX11_init 181 = .ok (.aload_n 0, 1) := by decide +kernel
theorem dX11_init_182 : decode cX11_init 182 = .ok (.getfield 31, 3) := by decide +kernel
theorem dX11_init_185 : decode cX11_init 185 = .ok (.invokevirtual 87, 3) := by decide +kernel
theorem dX11_init_188 : decode cX11_init 188 = .ok (.aastore, 1) := by decide +kernel
theorem dX11_init_189 : decode cX11_init 189 = .ok (.aload_n 0, 1) := by decide +kernel
theorem dX11_init_190 : decode cX11_init 190 = .ok (.iconst 1, 1) := by decide +kernel
theorem dX11_init_191 : decode cX11_init 191 = .ok (.putfield 91, 3) := by decide +kernel
theorem dX11_init_194 : decode cX11_init 194 = .ok (.aload_n 0, 1) := by decide +kernel
theorem dX11_init_195 : decode cX11_init 195 = .ok (.getfield 31, 3) := by decide +kernel
theorem dX11_init_198 : decode cX11_init 198 = .ok (.iconst 0, 1) := by decide +kernel
theorem dX11_init_199 : decode cX11_init 199 = .ok (.putfield 95, 3) := by decide +kernel
theorem dX11_init_202 : decode cX11_init 202 = .ok (.return_, 1) := by decide +kernel
theorem dX12_init_0 : decode cX12_init 0 = .ok (.aload_n 0, 1) := by decide +kernel
theorem dX12_init_1 : decode cX12_init 1 = .ok (.invokespecial 159, 3) := by decide +kernel
theorem dX12_init_4 : decode cX12_init 4 = .ok (.aload_n 0, 1) := by decide +kernel
theorem dX12_init_5 : decode cX12_init 5 = .ok (.bipush 8, 2) := by decide +kernel
theorem dX12_init_7 : decode cX12_init 7 = .ok (.newarray .int, 2) := by decide +kernel
theorem dX12_init_9 : decode cX12_init 9 = .ok (.putfield 14, 3) := by decide +kernel
theorem dX12_init_12 : decode cX12_init 12 = .ok (.aload_n 0, 1) := by decide +kernel
theorem dX12_init_13 : decode cX12_init 13 = .ok (.bipush 8, 2) := by decide +kernel
theorem dX12_init_15 : decode cX12_init 15 = .ok (.newarray .int, 2) := by decide +kernel
theorem dX12_init_17 : decode cX12_init 17 = .ok (.putfield 18, 3) := by decide +kernel
theorem dX12_init_20 : decode cX12_init 20 = .ok (.aload_n 0, 1) := by decide +kernel
theorem dX12_init_21 : decode cX12_init 21 = .ok (.iconst 5, 1) := by decide +kernel
theorem dX12_init_22 : decode cX12_init 22 = .ok (.newarray .int, 2) := by decide +kernel
theorem dX12_init_24 : decode cX12_init 24 = .ok (.putfield 21, 3) := by decide +kernel
theorem dX12_init_27 : decode cX12_init 27 = .ok (.aload_n 0, 1) := by decide +kernel
theorem dX12_init_28 : decode cX12_init 28 = .ok (.iconst 5, 1) := by decide +kernel
theorem dX12_init_29 : decode cX12_init 29 = .ok (.newarray .int, 2) := by decide +kernel
theorem dX12_init_31 : decode cX12_init 31 = .ok (.putfield 24, 3) := by decide +kernel
theorem dX12_init_34 : decode cX12_init 34 = .ok (.aload_n 0, 1) := by decide +kernel
theorem dX12_init_35 : decode cX12_init 35 = .ok (.bipush 9, 2) := by decide +kernel
theorem dX12_init_37 : decode cX12_init 37 = .ok (.putfield 31, 3) := by decide +kernel
theorem dX12_init_40 : decode cX12_init 40 = .ok (.aload_n 0, 1) := by decide +kernel
theorem dX12_init_41 : decode cX12_init 41 = .ok (.sipush 160, 3) := by decide +kernel
theorem dX12_init_44 : decode cX12_init 44 = .ok (.newarray .int, 2) := by decide +kernel
theorem dX12_init_46 : decode cX12_init 46 = .ok (.putfield 51, 3) := by decide +kernel
theorem dX12_init_49 : decode cX12_init 49 = .ok (.aload_n 0, 1) := by decide +kernel
theorem dX12_init_50 : decode cX12_init 50 = .ok (.sipush 2880, 3) := by decide +kernel
theorem dX12_init_53 : decode cX12_init 53 = .ok (.newarray .int, 2) := by decide +kernel
theorem dX12_init_55 : decode cX12_init 55 = .ok (.putfield 86, 3) := by decide +kernel
theorem dX12_init_58 : decode cX12_init 58 = .ok (.aload_n 0, 1) := by decide +kernel
theorem dX12_init_59 : decode cX12_init 59 = .ok (.bipush 18, 2) := by decide +kernel
theorem dX12_init_61 : decode cX12_init 61 = .ok (.newarray .int, 2) := by decide +kernel
theorem dX12_init_63 : decode cX12_init 63 = .ok (.putfield 134, 3) := by decide +kernel
theorem dX12_init_66 : decode cX12_init 66 = .ok (.aload_n 0, 1) := by decide +kernel
theorem dX12_init_67 : decode cX12_init 67 = .ok (.bipush 45, 2) := by decide +kernel
theorem dX12_init_69 : decode cX12_init 69 = .ok (.newarray .char, 2) := by decide +kernel
theorem dX12_init_71 : decode cX12_init 71 = .ok (.dup, 1) := by decide +kernel
theorem dX12_init_72 : decode cX12_init 72 = .ok (.iconst 0, 1) := by decide +kernel
theorem dX12_init_73 : decode cX12_init 73 = .ok (.bipush 115, 2) := by decide +kernel
theorem dX12_init_75 : decode cX12_init 75 = .ok (.castore, 1) := by decide +kernel
theorem dX12_init_76 : decode cX12_init 76 = .ok (.dup, 1) := by decide +kernel
theorem dX12_init_77 : decode cX12_init 77 = .ok (.iconst 1, 1) := by decide +kernel
theorem dX12_init_78 : decode cX12_init 78 = .ok (.bipush 105, 2) := by decide +kernel
theorem dX12_init_80 : decode cX12_init 80 = .ok (.castore, 1) := by decide +kernel
theorem dX12_init_81 : decode cX12_init 81 = .ok (.dup, 1) := by decide +kernel
theorem dX12_init_82 : decode cX12_init 82 = .ok (.iconst 2, 1) := by decide +kernel
theorem dX12_init_83 : decode cX12_init 83 = .ok (.bipush 122, 2) := by decide +kernel
theorem dX12_init_85 : decode cX12_init 85 = .ok (.castore, 1) := by decide +kernel
theorem dX12_init_86 : decode cX12_init 86 = .ok (.dup, 1) := by decide +kernel
theorem dX12_init_87 : decode cX12_init 87 = .ok (.iconst 3, 1) := by decide +kernel
theorem dX12_init_88 : decode cX12_init 88 = .ok (.bipush 101, 2) := by decide +kernel
theorem dX12_init_90 : decode cX12_init 90 = .ok (.castore, 1) := by decide +kernel
theorem dX12_init_91 : decode cX12_init 91 = .ok (.dup, 1) := by decide +kernel
theorem dX12_init_92 : decode cX12_init 92 = .ok (.iconst 4, 1) := by decide +kernel
theorem dX12_init_93 : decode cX12_init 93 = .ok (.bipush 116, 2) := by decide +kernel
theorem dX12_init_95 : decode cX12_init 95 = .ok (.castore, 1) := by decide +kernel
theorem dX12_init_96 : decode cX12_init 96 = .ok (.dup, 1) := by decide +kernel
theorem dX12_init_97 : decode cX12_init 97 = .ok (.iconst 5, 1) := by decide +kernel
theorem dX12_init_98 : decode cX12_init 98 = .ok (.bipush 111, 2) := by decide +kernel
theorem dX12_init_100 : decode cX12_init 100 = .ok (.castore, 1) := by decide +kernel
theorem dX12_init_101 : decode cX12_init 101 = .ok (.dup, 1) := by decide +kernel
theorem dX12_init_102 : decode cX12_init 102 = .ok (.bipush 6, 2) := by decide +kernel
theorem dX12_init_104 : decode cX12_init 104 = .ok (.bipush 112, 2) := by decide +kernel
theorem dX12_init_106 : decode cX12_init 106 = .ok (.castore, 1) := by decide +kernel
theorem dX12_init_107 : decode cX12_init 107 = .ok (.dup, 1) := by decide +kernel
theorem dX12_init_108 : decode cX12_init 108 = .ok (.bipush 7, 2) := by decide +kernel
theorem dX12_init_110 : decode cX12_init 110 = .ok (.bipush 100, 2) := by decide +kernel
theorem dX12_init_112 : decode cX12_init 112 = .ok (.castore, 1) := by decide +kernel
theorem dX12_init_113 : decode cX12_init 113 = .ok (.dup, 1) := by decide +kernel
theorem dX12_init_114 : decode cX12_init 114 = .ok (.bipush 8, 2) := by decide +kernel
theorem dX12_init_116 : decode cX12_init 116 = .ok (.bipush 101, 2) := by decide +kernel
theorem dX12_init_118 : decode cX12_init 118 = .ok (.castore, 1) := by decide +kernel
theorem dX12_init_119 : decode cX12_init 119 = .ok (.dup, 1) := by decide +kernel
theorem dX12_init_120 : decode cX12_init 120 = .ok (.bipush 9, 2) := by decide +kernel
theorem dX12_init_122 : decode cX12_init 122 = .ok (.bipush 101, 2) := by decide +kernel
theorem dX12_init_124 : decode cX12_init 124 = .ok (.castore, 1) := by decide +kernel
theorem dX12_init_125 : decode cX12_init 125 = .ok (.dup, 1) := by decide +kernel
theorem dX12_init_126 : decode cX12_init 126 = .ok (.bipush 10, 2) := by decide +kernel
theorem dX12_init_128 : decode cX12_init 128 = .ok (.bipush 112, 2) := by decide +kernel
theorem dX12_init_130 : decode cX12_init 130 = .ok (.castore, 1) := by decide +kernel
theorem dX12_init_131 : decode cX12_init 131 = .ok (.dup, 1) := by decide +kernel
theorem dX12_init_132 : decode cX12_init 132 = .ok (.bipush 11, 2) := by decide +kernel
theorem dX12_init_134 : decode cX12_init 134 = .ok (.bipush 117, 2) := by decide +kernel
theorem dX12_init_136 : decode cX12_init 136 = .ok (.castore, 1) := by decide +kernel
theorem dX12_init_137 : decode cX12_init 137 = .ok (.dup, 1) := by decide +kernel
theorem dX12_init_138 : decode cX12_init 138 = .ok (.bipush 12, 2) := by decide +kernel
theorem dX12_init_140 : decode cX12_init 140 = .ok (.bipush 110, 2) := by decide +kernel
theorem dX12_init_142 : decode cX12_init 142 = .ok (.castore, 1) := by decide +kernel
theorem dX12_init_143 : decode cX12_init 143 = .ok (.dup, 1) := by decide +kernel
theorem dX12_init_144 : decode cX12_init 144 = .ok (.bipush 13, 2) := by decide +kernel
theorem dX12_init_146 : decode cX12_init 146 = .ok (.bipush 100, 2) := by decide +kernel
theorem dX12_init_148 : decode cX12_init 148 = .ok (.castore, 1) := by decide +kernel
theorem dX12_init_149 : decode cX12_init 149 = .ok (.dup, 1) := by decide +kernel
theorem dX12_init_150 : decode cX12_init 150 = .ok (.bipush 14, 2) := by decide +kernel
theorem dX12_init_152 : decode cX12_init 152 = .ok (.bipush 101, 2) := by decide +kernel
theorem dX12_init_154 : decode cX12_init 154 = .ok (.castore, 1) := by decide +kernel
theorem dX12_init_155 : decode cX12_init 155 = .ok (.dup, 1) := by decide +kernel
theorem dX12_init_156 : decode cX12_init 156 = .ok (.bipush 15, 2) := by decide +kernel
theorem dX12_init_158 : decode cX12_init 158 = .ok (.bipush 114, 2) := by decide +kernel
theorem dX12_init_160 : decode cX12_init 160 = .ok (.castore, 1) := by decide +kernel
theorem dX12_init_161 : decode cX12_init 161 = .ok (.dup, 1) := by decide +kernel
theorem dX12_init_162 : decode cX12_init 162 = .ok (.bipush 16, 2) := by decide +kernel
theorem dX12_init_164 : decode cX12_init 164 = .ok (.bipush 104, 2) := by decide +kernel
theorem dX12_init_166 : decode cX12_init 166 = .ok (.castore, 1) := by decide +kernel
theorem dX12_init_167 : decode cX12_init 167 = .ok (.dup, 1) := by decide +kernel
theorem dX12_init_168 : decode cX12_init 168 = .ok (.bipush 17, 2) := by decide +kernel
theorem dX12_init_170 : decode cX12_init 170 = .ok (.bipush 105, 2) := by decide +kernel
theorem dX12_init_172 : decode cX12_init 172 = .ok (.castore, 1) := by decide +kernel
theorem dX12_init_173 : decode cX12_init 173 = .ok (.dup, 1) := by decide +kernel
theorem dX12_init_174 : decode cX12_init 174 = .ok (.bipush 18, 2) := by decide +kernel
theorem dX12_init_176 : decode cX12_init 176 = .ok (.bipush 103, 2) := by decide +kernel
theorem dX12_init_178 : decode cX12_init 178 = .ok (.castore, 1) := by decide +kernel
theorem dX12_init_179 : decode cX12_init 179 = .ok (.dup, 1) := by decide +kernel
theorem dX12_init_180 : decode cX12_init 180 = .ok (.bipush 19, 2) := by decide +kernel
theorem dX12_init_182 : decode cX12_init 182 = .ok (.bipush 104, 2) := by decide +kernel
theorem dX12_init_184 : decode cX12_init 184 = .ok (.castore, 1) := by decide +kernel
theorem dX12_init_185 : decode cX12_init 185 = .ok (.dup, 1) := by decide +kernel
theorem dX12_init_186 : decode cX12_init 186 = .ok (.bipush 20, 2) := by decide +kernel
theorem dX12_init_188 : decode cX12_init 188 = .ok (.bipush 104, 2) := by decide +kernel
theorem dX12_init_190 : decode cX12_init 190 = .ok (.castore, 1) := by decide +kernel
theorem dX12_init_191 : decode cX12_init 191 = .ok (.dup, 1) := by decide +kernel
theorem dX12_init_192 : decode cX12_init 192 = .ok (.bipush 21, 2) := by decide +kernel
theorem dX12_init_194 : decode cX12_init 194 = .ok (.bipush 101, 2) := by decide +kernel
theorem dX12_init_196 : decode cX12_init 196 = .ok (.castore, 1) := by decide +kernel
theorem dX12_init_197 : decode cX12_init 197 = .ok (.dup, 1) := by decide +kernel
theorem dX12_init_198 : decode cX12_init 198 = .ok (.bipush 22, 2) := by decide +kernel
theorem dX12_init_200 : decode cX12_init 200 = .ok (.bipush 97, 2) := by decide +kernel
theorem dX12_init_202 : decode cX12_init 202 = .ok (.castore, 1) := by decide +kernel
theorem dX12_init_203 : decode cX12_init 203 = .ok (.dup, 1) := by decide +kernel
theorem dX12_init_204 : decode cX12_init 204 = .ok (.bipush 23, 2) := by decide +kernel
theorem dX12_init_206 : decode cX12_init 206 = .ok (.bipush 112, 2) := by decide +kernel
theorem dX12_init_208 : decode cX12_init 208 = .ok (.castore, 1) := by decide +kernel
theorem dX12_init_209 : decode cX12_init 209 = .ok (.dup, 1) := by decide +kernel
theorem dX12_init_210 : decode cX12_init 210 = .ok (.bipush 24, 2) := by decide +kernel
theorem dX12_init_212 : decode cX12_init 212 = .ok (.bipush 109, 2) := by decide +kernel
theorem dX12_init_214 : decode cX12_init 214 = .ok (.castore, 1) := by decide +kernel
theorem dX12_init_215 : decode cX12_init 215 = .ok (.dup, 1) := by decide +kernel
theorem dX12_init_216 : decode cX12_init 216 = .ok (.bipush 25, 2) := by decide +kernel
theorem dX12_init_218 : decode cX12_init 218 = .ok (.bipush 97, 2) := by decide +kernel
theorem dX12_init_220 : decode cX12_init 220 = .ok (.castore, 1) := by decide +kernel
theorem dX12_init_221 : decode cX12_init 221 = .ok (.dup, 1) := by decide +kernel
theorem dX12_init_222 : decode cX12_init 222 = .ok (.bipush 26, 2) := by decide +kernel
theorem dX12_init_224 : decode cX12_init 224 = .ok (.bipush 121, 2) := by decide +kernel
theorem dX12_init_226 : decode cX12_init 226 = .ok (.castore, 1) := by decide +kernel
theorem dX12_init_227 : decode cX12_init 227 = .ok (.dup, 1) := by decide +kernel
theorem dX12_init_228 : decode cX12_init 228 = .ok (.bipush 27, 2) := by decide +kernel
theorem dX12_init_230 : decode cX12_init 230 = .ok (.bipush 112, 2) := by decide +kernel
theorem dX12_init_232 : decode cX12_init 232 = .ok (.castore, 1) := by decide +kernel
theorem dX12_init_233 : decode cX12_init 233 = .ok (.dup, 1) := by decide +kernel
theorem dX12_init_234 : decode cX12_init 234 = .ok (.bipush 28, 2) := by decide +kernel
theorem dX12_init_236 : decode cX12_init 236 = .ok (.bipush 97, 2) := by decide +kernel
theorem dX12_init_238 : decode cX12_init 238 = .ok (.castore, 1) := by decide +kernel
theorem dX12_init_239 : decode cX12_init 239 = .ok (.dup, 1) := by decide +kernel
theorem dX12_init_240 : decode cX12_init 240 = .ok (.bipush 29, 2) := by decide +kernel
theorem dX12_init_242 : decode cX12_init 242 = .ok (.bipush 121, 2) := by decide +kernel
theorem dX12_init_244 : decode cX12_init 244 = .ok (.castore, 1) := by decide +kernel
theorem dX12_init_245 : decode cX12_init 245 = .ok (.dup, 1) := by decide +kernel
theorem dX12_init_246 : decode cX12_init 246 = .ok (.bipush 30, 2) := by decide +kernel
theorem dX12_init_248 : decode cX12_init 248 = .ok (.bipush 115, 2) := by decide +kernel
theorem dX12_init_250 : decode cX12_init 250 = .ok (.castore, 1) := by decide +kernel
theorem dX12_init_251 : decode cX12_init 251 = .ok (.dup, 1) := by decide +kernel
theorem dX12_init_252 : decode cX12_init 252 = .ok (.bipush 31, 2) := by decide +kernel
theorem dX12_init_254 : decode cX12_init 254 = .ok (.bipush 119, 2) := by decide +kernel
theorem dX12_init_256 : decode cX12_init 256 = .ok (.castore, 1) := by decide +kernel
theorem dX12_init_257 : decode cX12_init 257 = .ok (.dup, 1) := by decide +kernel
theorem dX12_init_258 : decode cX12_init 258 = .ok (.bipush 32, 2) := by decide +kernel
theorem dX12_init_260 : decode cX12_init 260 = .ok (.bipush 101, 2) := by decide +kernel
theorem dX12_init_262 : decode cX12_init 262 = .ok (.castore, 1) := by decide +kernel
theorem dX12_init_263 : decode cX12_init 263 = .ok (.dup, 1) := by decide +kernel
theorem dX12_init_264 : decode cX12_init 264 = .ok (.bipush 33, 2) := by decide +kernel
theorem dX12_init_266 : decode cX12_init 266 = .ok (.bipush 105, 2) := by decide +kernel
theorem dX12_init_268 : decode cX12_init 268 = .ok (.castore, 1) := by decide +kernel
theorem dX12_init_269 : decode cX12_init 269 = .ok (.dup, 1) := by decide +kernel
theorem dX12_init_270 : decode cX12_init 270 = .ok (.bipush 34, 2) := by decide +kernel
theorem dX12_init_272 : decode cX12_init 272 = .ok (.bipush 103, 2) := by decide +kernel
theorem dX12_init_274 : decode cX12_init 274 = .ok (.castore, 1) := by decide +kernel
theorem dX12_init_275 : decode cX12_init 275 = .ok (.dup, 1) := by decide +kernel
theorem dX12_init_276 : decode cX12_init 276 = .ok (.bipush 35, 2) := by decide +kernel
theorem dX12_init_278 : decode cX12_init 278 = .ok (.bipush 104, 2) := by decide +kernel
theorem dX12_init_280 : decode cX12_init 280 = .ok (.castore, 1) := by decide +kernel
theorem dX12_init_281 : decode cX12_init 281 = .ok (.dup, 1) := by decide +kernel
theorem dX12_init_282 : decode cX12_init 282 = .ok (.bipush 36, 2) := by decide +kernel
theorem dX12_init_284 : decode cX12_init 284 = .ok (.bipush 115, 2) := by decide +kernel
theorem dX12_init_286 : decode cX12_init 286 = .ok (.castore, 1) := by decide +kernel
theorem dX12_init_287 : decode cX12_init 287 = .ok (.dup, 1) := by decide +kernel
theorem dX12_init_288 : decode cX12_init 288 = .ok (.bipush 37, 2) := by decide +kernel
theorem dX12_init_290 : decode cX12_init 290 = .ok (.bipush 111, 2) := by decide +kernel
theorem dX12_init_292 : decode cX12_init 292 = .ok (.castore, 1) := by decide +kernel
theorem dX12_init_293 : decode cX12_init 293 = .ok (.dup, 1) := by decide +kernel
theorem dX12_init_294 : decode cX12_init 294 = .ok (.bipush 38, 2) := by decide +kernel
theorem dX12_init_296 : decode cX12_init 296 = .ok (.bipush 114, 2) := by decide +kernel
theorem dX12_init_298 : decode cX12_init 298 = .ok (.castore, 1) := by decide +kernel
theorem dX12_init_299 : decode cX12_init 299 = .ok (.dup, 1) := by decide +kernel
theorem dX12_init_300 : decode cX12_init 300 = .ok (.bipush 39, 2) := by decide +kernel
theorem dX12_init_302 : decode cX12_init 302 = .ok (.bipush 97, 2) := by decide +kernel
theorem dX12_init_304 : decode cX12_init 304 = .ok (.castore, 1) := by decide +kernel
theorem dX12_init_305 : decode cX12_init 305 = .ok (.dup, 1) := by decide +kernel
theorem dX12_init_306 : decode cX12_init 306 = .ok (.bipush 40, 2) := by decide +kernel
theorem dX12_init_308 : decode cX12_init 308 = .ok (.bipush 110, 2) := by decide +kernel
theorem dX12_init_310 : decode cX12_init 310 = .ok (.castore, 1) := by decide +kernel
theorem dX12_init_311 : decode cX12_init 311 = .ok (.dup, 1) := by decide +kernel
theorem dX12_init_312 : decode cX12_init 312 = .ok (.bipush 41, 2) := by decide +kernel
theorem dX12_init_314 : decode cX12_init 314 = .ok (.bipush 100, 2) := by decide +kernel
theorem dX12_init_316 : decode cX12_init 316 = .ok (.castore, 1) := by decide +kernel
theorem dX12_init_317 : decode cX12_init 317 = .ok (.dup, 1) := by decide +kernel
theorem dX12_init_318 : decode cX12_init 318 = .ok (.bipush 42, 2) := by decide +kernel
theorem dX12_init_320 : decode cX12_init 320 = .ok (.bipush 110, 2) := by decide +kernel
theorem dX12_init_322 : decode cX12_init 322 = .ok (.castore, 1) := by decide +kernel
theorem dX12_init_323 : decode cX12_init 323 = .ok (.dup, 1) := by decide +kernel
theorem dX12_init_324 : decode cX12_init 324 = .ok (.bipush 43, 2) := by decide +kernel
theorem dX12_init_326 : decode cX12_init 326 = .ok (.bipush 111, 2) := by decide +kernel
theorem dX12_init_328 : decode cX12_init 328 = .ok (.castore, 1) := by decide +kernel
theorem dX12_init_329 : decode cX12_init 329 = .ok (.dup, 1) := by decide +kernel
theorem dX12_init_330 : decode cX12_init 330 = .ok (.bipush 44, 2) := by decide +kernel
theorem dX12_init_332 : decode cX12_init 332 = .ok (.bipush 116, 2) := by decide +kernel
theorem dX12_init_334 : decode cX12_init 334 = .ok (.castore, 1) := by decide +kernel
theorem dX12_init_335 : decode cX12_init 335 = .ok (.putfield 69, 3) := by decide +kernel
theorem dX12_init_338 : decode cX12_init 338 = .ok (.aload_n 0, 1) := by decide +kernel
theorem dX12_init_339 : decode cX12_init 339 = .ok (.bipush 13, 2) := by decide +kernel
theorem dX12_init_341 : decode cX12_init 341 = .ok (.newarray .int, 2) := by decide +kernel
theorem dX12_init_343 : decode cX12_init 343 = .ok (.dup, 1) := by decide +kernel
theorem dX12_init_344 : decode cX12_init 344 = .ok (.iconst 0, 1) := by decide +kernel
theorem dX12_init_345 : decode cX12_init 345 = .ok (.iconst 0, 1) := by decide +kernel
theorem dX12_init_346 : decode cX12_init 346 = .ok (.iastore, 1) := by decide +kernel
theorem dX12_init_347 : decode cX12_init 347 = .ok (.dup, 1) := by decide +kernel
theorem dX12_init_348 : decode cX12_init 348 = .ok (.iconst 1, 1) := by decide +kernel
theorem dX12_init_349 : decode cX12_init 349 = .ok (.iconst 4, 1) := by decide +kernel
theorem dX12_init_350 : decode cX12_init 350 = .ok (.iastore, 1) := by decide +kernel
theorem dX12_init_351 : decode cX12_init 351 = .ok (.dup, 1) := by decide +kernel
theorem dX12_init_352 : decode cX12_init 352 = .ok (.iconst 2, 1) := by decide +kernel
theorem dX12_init_353 : decode cX12_init 353 = .ok (.bipush 7, 2) := by decide +kernel
theorem dX12_init_355 : decode cX12_init 355 = .ok (.iastore, 1) := by decide +kernel
theorem dX12_init_356 : decode cX12_init 356 = .ok (.dup, 1) := by decide +kernel
theorem dX12_init_357 : decode cX12_init 357 = .ok (.iconst 3, 1) := by decide +kernel
theorem dX12_init_358 : decode cX12_init 358 = .ok (.bipush 11, 2) := by decide +kernel
theorem dX12_init_360 : decode cX12_init 360 = .ok (.iastore, 1) := by decide +kernel
theorem dX12_init_361 : decode cX12_init 361 = .ok (.dup, 1) := by decide +kernel
theorem dX12_init_362 : decode cX12_init 362 = .ok (.iconst 4, 1) := by decide +kernel
theorem dX12_init_363 : decode cX12_init 363 = .ok (.bipush 16, 2) := by decide +kernel
theorem dX12_init_365 : decode cX12_init 365 = .ok (.iastore, 1) := by decide +kernel
theorem dX12_init_366 : decode cX12_init 366 = .ok (.dup, 1) := by decide +kernel
theorem dX12_init_367 : decode cX12_init 367 = .ok (.iconst 5, 1) := by decide +kernel
theorem dX12_init_368 : decode cX12_init 368 = .ok (.bipush 20, 2) := by decide +kernel
theorem dX12_init_370 : decode cX12_init 370 = .ok (.iastore, 1) := by decide +kernel
theorem dX12_init_371 : decode cX12_init 371 = .ok (.dup, 1) := by decide +kernel
theorem dX12_init_372 : decode cX12_init 372 = .ok (.bipush 6, 2) := by decide +kernel
theorem dX12_init_374 : decode cX12_init 374 = .ok (.bipush 24, 2) := by decide +kernel
theorem dX12_init_376 : decode cX12_init 376 = .ok (.iastore, 1) := by decide +kernel
theorem dX12_init_377 : decode cX12_init 377 = .ok (.dup, 1) := by decide +kernel
theorem dX12_init_378 : decode cX12_init 378 = .ok (.bipush 7, 2) := by decide +kernel
theorem dX12_init_380 : decode cX12_init 380 = .ok (.bipush 27, 2) := by decide +kernel
theorem dX12_init_382 : decode cX12_init 382 = .ok (.iastore, 1) := by decide +kernel
theorem dX12_init_383 : decode cX12_init 383 = .ok (.dup, 1) := by decide +kernel
theorem dX12_init_384 : decode cX12_init 384 = .ok (.bipush 8, 2) := by decide +kernel
theorem dX12_init_386 : decode cX12_init 386 = .ok (.bipush 31, 2) := by decide +kernel
theorem dX12_init_388 : decode cX12_init 388 = .ok (.iastore, 1) := by decide +kernel
theorem dX12_init_389 : decode cX12_init 389 = .ok (.dup, 1) := by decide +kernel
theorem dX12_init_390 : decode cX12_init 390 = .ok (.bipush 9, 2) := by decide +kernel
theorem dX12_init_392 : decode cX12_init 392 = .ok (.bipush 37, 2) := by decide +kernel
theorem dX12_init_394 : decode cX12_init 394 = .ok (.iastore, 1) := by decide +kernel
theorem dX12_init_395 : decode cX12_init 395 = .ok (.dup, 1) := by decide +kernel
theorem dX12_init_396 : decode cX12_init 396 = .ok (.bipush 10, 2) := by decide +kernel
theorem dX12_init_398 : decode cX12_init 398 = .ok (.bipush 39, 2) := by decide +kernel
theorem dX12_init_400 : decode cX12_init 400 = .ok (.iastore, 1) := by decide +kernel
theorem dX12_init_401 : decode cX12_init 401 = .ok (.dup, 1) := by decide +kernel
theorem dX12_init_402 : decode cX12_init 402 = .ok (.bipush 11, 2) := by decide +kernel
theorem dX12_init_404 : decode cX12_init 404 = .ok (.bipush 42, 2) := by decide +kernel
theorem dX12_init_406 : decode cX12_init 406 = .ok (.iastore, 1) := by decide +kernel
theorem dX12_init_407 : decode cX12_init 407 = .ok (.dup, 1) := by decide +kernel
theorem dX12_init_408 : decode cX12_init 408 = .ok (.bipush 12, 2) := by decide +kernel
theorem dX12_init_410 : decode cX12_init 410 = .ok (.bipush 45, 2) := by decide +kernel
theorem dX12_init_412 : decode cX12_init 412 = .ok (.iastore, 1) := by decide +kernel
theorem dX12_init_413 : decode cX12_init 413 = .ok (.putfield 63, 3) := by decide +kernel
theorem dX12_init_416 : decode cX12_init 416 = .ok (.aload_n 0, 1) := by decide +kernel
theorem dX12_init_417 : decode cX12_init 417 = .ok (.sipush 170, 3) := by decide +kernel
theorem dX12_init_420 : decode cX12_init 420 = .ok (.newarray .int, 2) := by decide +kernel
theorem dX12_init_422 : decode cX12_init 422 = .ok (.putfield 98, 3) := by decide +kernel
theorem dX12_init_425 : decode cX12_init 425 = .ok (.aload_n 0, 1) := by decide +kernel
theorem dX12_init_426 : decode cX12_init 426 = .ok (.bipush 8, 2) := by decide +kernel
theorem dX12_init_428 : decode cX12_init 428 = .ok (.newarray .boolean, 2) := by decide +kernel
theorem dX12_init_430 : decode cX12_init 430 = .ok (.putfield 117, 3) := by decide +kernel
theorem dX12_init_433 : decode cX12_init 433 = .ok (.aload_n 0, 1) := by decide +kernel
theorem dX12_init_434 : decode cX12_init 434 = .ok (.sipush 170, 3) := by decide +kernel
theorem dX12_init_437 : decode cX12_init 437 = .ok (.newarray .int, 2) := by decide +kernel
theorem dX12_init_439 : decode cX12_init 439 = .ok (.putfield 164, 3) := by decide +kernel
theorem dX12_init_442 : decode cX12_init 442 = .ok (.aload_n 0, 1) := by decide +kernel
theorem dX12_init_443 : decode cX12_init 443 = .ok (.bipush 6, 2) := by decide +kernel
theorem dX12_init_445 : decode cX12_init 445 = .ok (.newarray .int, 2) := by decide +kernel
theorem dX12_init_447 : decode cX12_init 447 = .ok (.putfield 167, 3) := by decide +kernel
theorem dX12_init_450 : decode cX12_init 450 = .ok (.aload_n 0, 1) := by decide +kernel
theorem dX12_init_451 : decode cX12_init 451 = .ok (.bipush 8, 2) := by decide +kernel
theorem dX12_init_453 : decode cX12_init 453 = .ok (.newarray .int, 2) := by decide +kernel
theorem dX12_init_455 : decode cX12_init 455 = .ok (.putfield 170, 3) := by decide +kernel
theorem dX12_init_458 : decode cX12_init 458 = .ok (.aload_n 0, 1) := by decide +kernel
theorem dX12_init_459 : decode cX12_init 459 = .ok (.bipush 64, 2) := by decide +kernel
theorem dX12_init_461 : decode cX12_init 461 = .ok (.newarray .int, 2) := by decide +kernel
theorem dX12_init_463 : decode cX12_init 463 = .ok (.putfield 173, 3) := by decide +kernel
theorem dX12_init_466 : decode cX12_init 466 = .ok (.aload_n 0, 1) := by decide +kernel
theorem dX12_init_467 : decode cX12_init 467 = .ok (.bipush 8, 2) := by decide +kernel
theorem dX12_init_469 : decode cX12_init 469 = .ok (.newarray .int, 2) := by decide +kernel
theorem dX12_init_471 : decode cX12_init 471 = .ok (.putfield 176, 3) := by decide +kernel
theorem dX12_init_474 : decode cX12_init 474 = .ok (.aload_n 0, 1) := by decide +kernel
theorem dX12_init_475 : decode cX12_init 475 = .ok (.bipush 8, 2) := by decide +kernel
theorem dX12_init_477 : decode cX12_init 477 = .ok (.newarray .int, 2) := by decide +kernel
theorem dX12_init_479 : decode cX12_init 479 = .ok (.putfield 179, 3) := by decide +kernel
theorem dX12_init_482 : decode cX12_init 482 = .ok (.aload_n 0, 1) := by decide +kernel
theorem dX12_init_483 : decode cX12_init 483 = .ok (.bipush 8, 2) := by decide +kernel
theorem dX12_init_485 : decode cX12_init 485 = .ok (.newarray .int, 2) := by decide +kernel
theorem dX12_init_487 : decode cX12_init 487 = .ok (.putfield 182, 3) := by decide +kernel
theorem dX12_init_490 : decode cX12_init 490 = .ok (.aload_n 0, 1) := by decide +kernel
theorem dX12_init_491 : decode cX12_init 491 = .ok (.iconst 3, 1) := by decide +kernel
theorem dX12_init_492 : decode cX12_init 492 = .ok (.newarray .int, 2) := by decide +kernel
theorem dX12_init_494 : decode cX12_init 494 = .ok (.putfield 185, 3) := by decide +kernel
theorem dX12_init_497 : decode cX12_init 497 = .ok (.aload_n 0, 1) := by decide +kernel
theorem dX12_init_498 : decode cX12_init 498 = .ok (.bipush 9, 2) := by decide +kernel
theorem dX12_init_500 : decode cX12_init 500 = .ok (.newarray .int, 2) := by decide +kernel
theorem dX12_init_502 : decode cX12_init 502 = .ok (.putfield 188, 3) := by decide +kernel
theorem dX12_init_505 : decode cX12_init 505 = .ok (.aload_n 0, 1) := by decide +kernel
theorem dX12_init_506 : decode cX12_init 506 = .ok (.bipush 8, 2) := by decide +kernel
theorem dX12_init_508 : decode cX12_init 508 = .ok (.newarray .int, 2) := by decide +kernel
theorem dX12_init_510 : decode cX12_init 510 = .ok (.putfield 191, 3) := by decide +kernel
theorem dX12_init_513 : decode cX12_init 513 = .ok (.aload_n 0, 1) := by decide +kernel
theorem dX12_init_514 : decode cX12_init 514 = .ok (.bipush 8, 2) := by decide +kernel
theorem dX12_init_516 : decode cX12_init 516 = .ok (.newarray .int, 2) := by decide +kernel
theorem dX12_init_518 : decode cX12_init 518 = .ok (.putfield 194, 3) := by decide +kernel
theorem dX12_init_521 : decode cX12_init 521 = .ok (.aload_n 0, 1) := by decide +kernel
theorem dX12_init_522 : decode cX12_init 522 = .ok (.bipush 8, 2) := by decide +kernel
theorem dX12_init_524 : decode cX12_init 524 = .ok (.newarray .int, 2) := by decide +kernel
theorem dX12_init_526 : decode cX12_init 526 = .ok (.putfield 197, 3) := by decide +kernel
theorem dX12_init_529 : decode cX12_init 529 = .ok (.aload_n 0, 1) := by decide +kernel
theorem dX12_init_530 : decode cX12_init 530 = .ok (.bipush 64, 2) := by decide +kernel
theorem dX12_init_532 : decode cX12_init 532 = .ok (.newarray .int, 2) := by decide +kernel
theorem dX12_init_534 : decode cX12_init 534 = .ok (.putfield 200, 3) := by decide +kernel
theorem dX12_init_537 : decode cX12_init 537 = .ok (.aload_n 0, 1) := by decide +kernel
theorem dX12_init_538 : decode cX12_init 538 = .ok (.bipush 8, 2) := by decide +kernel
theorem dX12_init_540 : decode cX12_init 540 = .ok (.newarray .int, 2) := by decide +kernel
theorem dX12_init_542 : decode cX12_init 542 = .ok (.putfield 203, 3) := by decide +kernel
theorem dX12_init_545 : decode cX12_init 545 = .ok (.aload_n 0, 1) := by decide +kernel
theorem dX12_init_546 : decode cX12_init 546 = .ok (.bipush 64, 2) := by decide +kernel
theorem dX12_init_548 : decode cX12_init 548 = .ok (.newarray .int, 2) := by decide +kernel
theorem dX12_init_550 : decode cX12_init 550 = .ok (.putfield 206, 3) := by decide +kernel
theorem dX12_init_553 : decode cX12_init 553 = .ok (.aload_n 0, 1) := by decide +kernel
theorem dX12_init_554 : decode cX12_init 554 = .ok (.iconst 4, 1) := by decide +kernel
theorem dX12_init_555 : decode cX12_init 555 = .ok (.newarray .int, 2) := by decide +kernel
theorem dX12_init_557 : decode cX12_init 557 = .ok (.dup, 1) := by decide +kernel
theorem dX12_init_558 : decode cX12_init 558 = .ok (.iconst 0, 1) := by decide +kernel
theorem dX12_init_559 : decode cX12_init 559 = .ok (.iconst (-1), 1) := by decide +kernel
theorem dX12_init_560 : decode cX12_init 560 = .ok (.iastore, 1) := by decide +kernel
theorem dX12_init_561 : decode cX12_init 561 = .ok (.dup, 1) := by decide +kernel
theorem dX12_init_562 : decode cX12_init 562 = .ok (.iconst 1, 1) := by decide +kernel
theorem dX12_init_563 : decode cX12_init 563 = .ok (.iconst (-1), 1) := by decide +kernel
theorem dX12_init_564 : decode cX12_init 564 = .ok (.iastore, 1) := by decide +kernel
theorem dX12_init_565 : decode cX12_init 565 = .ok (.dup, 1) := by decide +kernel
theorem dX12_init_566 : decode cX12_init 566 = .ok (.iconst 2, 1) := by decide +kernel
theorem dX12_init_567 : decode cX12_init 567 = .ok (.iconst (-1), 1) := by decide +kernel
theorem dX12_init_568 : decode cX12_init 568 = .ok (.iastore, 1) := by decide +kernel
theorem dX12_init_569 : decode cX12_init 569 = .ok (.dup, 1) := by decide +kernel
theorem dX12_init_570 : decode cX12_init 570 = .ok (.iconst 3, 1) := by decide +kernel
theorem dX12_init_571 : decode cX12_init 571 = .ok (.iconst (-1), 1) := by decide +kernel
theorem dX12_init_572 : decode cX12_init 572 = .ok (.iastore, 1) := by decide +kernel
theorem dX12_init_573 : decode cX12_init 573 = .ok (.putfield 209, 3) := by decide +kernel
theorem dX12_init_576 : decode cX12_init 576 = .ok (.aload_n 0, 1) := by decide +kernel
theorem dX12_init_577 : decode cX12_init 577 = .ok (.iconst 4, 1) := by decide +kernel
theorem dX12_init_578 : decode cX12_init 578 = .ok (.newarray .int, 2) := by decide +kernel
theorem dX12_init_580 : decode cX12_init 580 = .ok (.putfield 212, 3) := by decide +kernel
theorem dX12_init_583 : decode cX12_init 583 = .ok (.aload_n 0, 1) := by decide +kernel
theorem dX12_init_584 : decode cX12_init 584 = .ok (.sipush 160, 3) := by decide +kernel
theorem dX12_init_587 : decode cX12_init 587 = .ok (.newarray .int, 2) := by decide +kernel
theorem dX12_init_589 : decode cX12_init 589 = .ok (.putfield 215, 3) := by decide +kernel
theorem dX12_init_592 : decode cX12_init 592 = .ok (.aload_n 0, 1) := by decide +kernel
theorem dX12_init_593 : decode cX12_init 593 = .ok (.bipush 40, 2) := by decide +kernel
theorem dX12_init_595 : decode cX12_init 595 = .ok (.newarray .int, 2) := by decide +kernel
theorem dX12_init_597 : decode cX12_init 597 = .ok (.putfield 218, 3) := by decide +kernel
theorem dX12_init_600 : decode cX12_init 600 = .ok (.aload_n 0, 1) := by decide +kernel
theorem dX12_init_601 : decode cX12_init 601 = .ok (.getfield 86, 3) := by decide +kernel
theorem dX12_init_604 : decode cX12_init 604 = .ok (.iconst 0, 1) := by decide +kernel
theorem dX12_init_605 : decode cX12_init 605 = .ok (.iconst 0, 1) := by decide +kernel
theorem dX12_init_606 : decode cX12_init 606 = .ok (.iastore, 1) := by decide +kernel
theorem dX12_init_607 : decode cX12_init 607 = .ok (.aload_n 0, 1) := by decide +kernel
theorem dX12_init_608 : decode cX12_init 608 = .ok (.getfield 86, 3) := by decide +kernel
theorem dX12_init_611 : decode cX12_init 611 = .ok (.iconst 1, 1) := by decide +kernel
theorem dX12_init_612 : decode cX12_init 612 = .ok (.iconst 1, 1) := by decide +kernel
theorem dX12_init_613 : decode cX12_init 613 = .ok (.iastore, 1) := by decide +kernel
theorem dX12_init_614 : decode cX12_init 614 = .ok (.aload_n 0, 1) := by decide +kernel
theorem dX12_init_615 : decode cX12_init 615 = .ok (.getfield 86, 3) := by decide +kernel
theorem dX12_init_618 : decode cX12_init 618 = .ok (.iconst 2, 1) := by decide +kernel
theorem dX12_init_619 : decode cX12_init 619 = .ok (.bipush 13, 2) := by decide +kernel
theorem dX12_init_621 : decode cX12_init 621 = .ok (.iastore, 1) := by decide +kernel
theorem dX12_init_622 : decode cX12_init 622 = .ok (.aload_n 0, 1) := by decide +kernel
theorem dX12_init_623 : decode cX12_init 623 = .ok (.getfield 134, 3) := by decide +kernel
theorem dX12_init_626 : decode cX12_init 626 = .ok (.iconst 0, 1) := by decide +kernel
theorem dX12_init_627 : decode cX12_init 627 = .ok (.iconst 3, 1) := by decide +kernel
theorem dX12_init_628 : decode cX12_init 628 = .ok (.iastore, 1) := by decide +kernel
theorem dX12_init_629 : decode cX12_init 629 = .ok (.aload_n 0, 1) := by decide +kernel
theorem dX12_init_630 : decode cX12_init 630 = .ok (.getfield 86, 3) := by decide +kernel
theorem dX12_init_633 : decode cX12_init 633 = .ok (.sipush 160, 3) := by decide +kernel
theorem dX12_init_636 : decode cX12_init 636 = .ok (.bipush (-2), 2) := by decide +kernel
theorem dX12_init_638 : decode cX12_init 638 = .ok (.iastore, 1) := by decide +kernel
theorem dX12_init_639 : decode cX12_init 639 = .ok (.aload_n 0, 1) := by decide +kernel
theorem dX12_init_640 : decode cX12_init 640 = .ok (.getfield 86, 3) := by decide +kernel
theorem dX12_init_643 : decode cX12_init 643 = .ok (.sipush 161, 3) := by decide +kernel
theorem dX12_init_646 : decode cX12_init 646 = .ok (.iconst 4, 1) := by decide +kernel
theorem dX12_init_647 : decode cX12_init 647 = .ok (.iastore, 1) := by decide +kernel
theorem dX12_init_648 : decode cX12_init 648 = .ok (.aload_n 0, 1) := by decide +kernel
theorem dX12_init_649 : decode cX12_init 649 = .ok (.getfield 86, 3) := by decide +kernel
theorem dX12_init_652 : decode cX12_init 652 = .ok (.sipush 162, 3) := by decide +kernel
theorem dX12_init_655 : decode cX12_init 655 = .ok (.bipush 16, 2) := by decide +kernel
theorem dX12_init_657 : decode cX12_init 657 = .ok (.iastore, 1) := by decide +kernel
theorem dX12_init_658 : decode cX12_init 658 = .ok (.aload_n 0, 1) := by decide +kernel
theorem dX12_init_659 : decode cX12_init 659 = .ok (.getfield 134, 3) := by decide +kernel
theorem dX12_init_662 : decode cX12_init 662 = .ok (.iconst 1, 1) := by decide +kernel
theorem dX12_init_663 : decode cX12_init 663 = .ok (.iconst 3, 1) := by decide +kernel
theorem dX12_init_664 : decode cX12_init 664 = .ok (.iastore, 1) := by decide +kernel
theorem dX12_init_665 : decode cX12_init 665 = .ok (.aload_n 0, 1) := by decide +kernel
theorem dX12_init_666 : decode cX12_init 666 = .ok (.getfield 86, 3) := by decide +kernel
theorem dX12_init_669 : decode cX12_init 669 = .ok (.sipush 320, 3) := by decide +kernel
theorem dX12_init_672 : decode cX12_init 672 = .ok (.iconst 0, 1) := by decide +kernel
theorem dX12_init_673 : decode cX12_init 673 = .ok (.iastore, 1) := by decide +kernel
theorem dX12_init_674 : decode cX12_init 674 = .ok (.aload_n 0, 1) := by decide +kernel
theorem dX12_init_675 : decode cX12_init 675 = .ok (.getfield 134, 3) := by decide +kernel
theorem dX12_init_678 : decode cX12_init 678 = .ok (.iconst 2, 1) := by decide +kernel
theorem dX12_init_679 : decode cX12_init 679 = .ok (.iconst 1, 1) := by decide +kernel
theorem dX12_init_680 : decode cX12_init 680 = .ok (.iastore, 1) := by decide +kernel
theorem dX12_init_681 : decode cX12_init 681 = .ok (.aload_n 0, 1) := by decide +kernel
theorem dX12_init_682 : decode cX12_init 682 = .ok (.iconst 1, 1) := by decide +kernel
theorem dX12_init_683 : decode cX12_init 683 = .ok (.putfield 150, 3) := by decide +kernel
theorem dX12_init_686 : decode cX12_init 686 = .ok (.iconst 0, 1) := by decide +kernel
theorem dX12_init_687 : decode cX12_init 687 = .ok (.istore_n 1, 1) := by decide +kernel
theorem dX12_init_688 : decode cX12_init 688 = .ok (.iload_n 1, 1) := by decide +kernel
theorem dX12_init_689 : decode cX12_init 689 = .ok (.bipush 8, 2) := by decide +kernel
theorem dX12_init_691 : decode cX12_init 691 = .ok (.if_icmp .ge 16, 3) := by decide +kernel
theorem dX12_init_694 : decode cX12_init 694 = .ok (.aload_n 0, 1) := by decide +kernel
theorem dX12_init_695 : decode cX12_init 695 = .ok (.getfield 176, 3) := by decide +kernel
theorem dX12_init_698 : decode cX12_init 698 = .ok (.iload_n 1, 1) := by decide +kernel
theorem dX12_init_699 : decode cX12_init 699 = .ok (.iload_n 1, 1) := by decide +kernel
theorem dX12_init_700 : decode cX12_init 700 = .ok (.iastore, 1) := by decide +kernel
theorem dX12_init_701 : decode cX12_init 701 = .ok (.iinc 1 1, 3) := by decide +kernel
theorem dX12_init_704 : decode cX12_init 704 = .ok (.goto (-16), 3) := by decide +kernel
theorem dX12_init_707 : decode cX12_init 707 = .ok (.return_, 1) := by decide +kernel
def kC_0 : Mem := mN za (11, 0)
def kC_1 : Mem := mN kC_0 (14, 8)
def kC_2 : Mem := sP kC_1 0 0 (some 1)
def kC_3 : Mem := mN kC_2 (14, 8)
def kC_4 : Mem := sP kC_3 0 1 (some 2)
def kC_5 : Mem := mN kC_4 (16, 5)
def kC_6 : Mem := sP kC_5 0 3 (some 3)
def kC_7 : Mem := mN kC_6 (17, 6)
def kC_8 : Mem := sP kC_7 0 5 (some 4)
def kC_9 : Mem := mN kC_8 (5, 0)
def kC_10 : Mem := vX5 kC_9 5
def kC_11 : Mem := sP kC_10 0 7 (some 5)
def kC_12 : Mem := mN kC_11 (9, 0)
def kC_13 : Mem := vX9 kC_12 8
def kC_14 : Mem := sP kC_13 0 8 (some 8)
def kC_15 : Mem := mN kC_14 (18, 4)
def kC_16 : Mem := sP kC_15 0 10 (some 14)
def kC_17 : Mem := mN kC_16 (1, 0)
def kC_18 : Mem := vX1 kC_17 15
def kC_19 : Mem := sP kC_18 0 11 (some 15)
def kC_20 : Mem := mN kC_19 (14, 8)
def kC_21 : Mem := sP kC_20 0 12 (some 20)
def kC_22 : Mem := mN kC_21 (14, 8)
def kC_23 : Mem := sP kC_22 0 14 (some 21)
def kC_24 : Mem := mN kC_23 (14, 9)
def kC_25 : Mem := sP kC_24 0 15 (some 22)
def kC_26 : Mem := mN kC_25 (14, 8)
def kC_27 : Mem := sP kC_26 0 17 (some 23)
def kC_28 : Mem := mN kC_27 (14, 256)
def kC_29 : Mem := sP kC_28 0 18 (some 24)
def kC_30 : Mem := mN kC_29 (7, 0)
def kC_31 : Mem := vX7 kC_30 25
def kC_32 : Mem := sP kC_31 14 0 (some 25)
def kC_33 : Mem := mN kC_32 (7, 0)
def kC_34 : Mem := vX7 kC_33 27
def kC_35 : Mem := sP kC_34 14 1 (some 27)
def kC_36 : Mem := mN kC_35 (7, 0)
def kC_37 : Mem := vX7 kC_36 29
def kC_38 : Mem := sP kC_37 14 2 (some 29)
def kC_39 : Mem := mN kC_38 (7, 0)
def kC_40 : Mem := vX7 kC_39 31
def kC_41 : Mem := sP kC_40 14 3 (some 31)
theorem kC_L0 : mL kC_0 = 1 := by decide +kernel
theorem kC_T1_0 : mT kC_1 0 = some (11, 0) := by decide +kernel
theorem kC_L2 : mL kC_2 = 2 := by decide +kernel
theorem kC_T3_0 : mT kC_3 0 = some (11, 0) := by decide +kernel
theorem kC_L4 : mL kC_4 = 3 := by decide +kernel
theorem kC_T5_0 : mT kC_5 0 = some (11, 0) := by decide +kernel
theorem kC_L6 : mL kC_6 = 4 := by decide +kernel
theorem kC_T7_0 : mT kC_7 0 = some (11, 0) := by decide +kernel
theorem kC_L8 : mL kC_8 = 5 := by decide +kernel
theorem kC_T9_5 : mT kC_9 5 = some (5, 0) := by decide +kernel
theorem kC_T10_0 : mT kC_10 0 = some (11, 0) := by decide +kernel
theorem kC_L11 : mL kC_11 = 8 := by decide +kernel
theorem kC_T12_8 : mT kC_12 8 = some (9, 0) := by decide +kernel
theorem kC_T13_0 : mT kC_13 0 = some (11, 0) := by decide +kernel
theorem kC_L14 : mL kC_14 = 14 := by decide +kernel
theorem kC_T15_0 : mT kC_15 0 = some (11, 0) := by decide +kernel
theorem kC_L16 : mL kC_16 = 15 := by decide +kernel
theorem kC_T17_15 : mT kC_17 15 = some (1, 0) := by decide +kernel
theorem kC_T18_0 : mT kC_18 0 = some (11, 0) := by decide +kernel
theorem kC_L19 : mL kC_19 = 20 := by decide +kernel
theorem kC_T20_0 : mT kC_20 0 = some (11, 0) := by decide +kernel
theorem kC_L21 : mL kC_21 = 21 := by decide +kernel
theorem kC_T22_0 : mT kC_22 0 = some (11, 0) := by decide +kernel
theorem kC_L23 : mL kC_23 = 22 := by decide +kernel
theorem kC_T24_0 : mT kC_24 0 = some (11, 0) := by decide +kernel
theorem kC_L25 : mL kC_25 = 23 := by decide +kernel
theorem kC_T26_0 : mT kC_26 0 = some (11, 0) := by decide +kernel
theorem kC_L27 : mL kC_27 = 24 := by decide +kernel
theorem kC_T28_0 : mT kC_28 0 = some (11, 0) := by decide +kernel
theorem kC_T29_0 : mT kC_29 0 = some (11, 0) := by decide +kernel
theorem kC_P29_0_10 : mP kC_29 0 10 = some 14 := by decide +kernel
theorem kC_L29 : mL kC_29 = 25 := by decide +kernel
theorem kC_T30_25 : mT kC_30 25 = some (7, 0) := by decide +kernel
theorem kC_T31_14 : mT kC_31 14 = some (18, 4) := by decide +kernel
theorem kC_T31_25 : mT kC_31 25 = some (7, 0) := by decide +kernel
theorem kC_T32_0 : mT kC_32 0 = some (11, 0) := by decide +kernel
theorem kC_P32_0_10 : mP kC_32 0 10 = some 14 := by decide +kernel
theorem kC_L32 : mL kC_32 = 27 := by decide +kernel
theorem kC_T33_27 : mT kC_33 27 = some (7, 0) := by decide +kernel
theorem kC_T34_14 : mT kC_34 14 = some (18, 4) := by decide +kernel
theorem kC_T34_27 : mT kC_34 27 = some (7, 0) := by decide +kernel
theorem kC_T35_0 : mT kC_35 0 = some (11, 0) := by decide +kernel
theorem kC_P35_0_10 : mP kC_35 0 10 = some 14 := by decide +kernel
theorem kC_L35 : mL kC_35 = 29 := by decide +kernel
theorem kC_T36_29 : mT kC_36 29 = some (7, 0) := by decide +kernel
theorem kC_T37_14 : mT kC_37 14 = some (18, 4) := by decide +kernel
theorem kC_T37_29 : mT kC_37 29 = some (7, 0) := by decide +kernel
theorem kC_T38_0 : mT kC_38 0 = some (11, 0) := by decide +kernel
theorem kC_P38_0_10 : mP kC_38 0 10 = some 14 := by decide +kernel
theorem kC_L38 : mL kC_38 = 31 := by decide +kernel
theorem kC_T39_31 : mT kC_39 31 = some (7, 0) := by decide +kernel
theorem kC_T40_14 : mT kC_40 14 = some (18, 4) := by decide +kernel
theorem kC_T40_31 : mT kC_40 31 = some (7, 0) := by decide +kernel
set_option maxRecDepth 4000 in
theorem kC_p0 {X : Cx} {d : Nat} (hC : mOK X cX11_init RX11 "<init>" none d 36 1222) (hd : 3 ≤ d) (hN : ∀ i, i < 2 → i < xN X) (hp : xP X = []) {Q : State → Prop} (kk : mG X 12 [(0, .ref (xB X + 0))] [] kC_2 1 8 Q) : mG X 0 [(0, .ref (xB X + 0))] [] kC_0 0 0 Q := by
  refine g_aload_n hC dX11_init_0 rfl ?_
  refine g_objInit hC tw_1009 tw_39 tw_40 (Nat.le_of_ble_eq_true rfl) (by omega) dX11_init_1 ?_
  refine g_aload_n hC dX11_init_4 rfl ?_
  refine g_bipush (v := 8) hC dX11_init_5 (by decide) ?_
  refine k_newa (N := 8) (r := 1) (τ := kC_1) hC na_14 (by decide) (by decide) (by decide) (by decide) (by decide) dX11_init_7 kC_L0 rfl ?_
  refine mG.st (st1 := [va_rf (Option.map (fun r => xB X + r) (some 1)), .ref (xB X + 0)]) rfl ?_
  refine k_putR (τ := kC_2) hC fw_X11_9_11i kC_T1_0 (fun v => by cases v <;> rfl) (fun v => by cases v <;> rfl) (nil_s hp) dX11_init_9 rfl ?_
  exact kk
set_option maxRecDepth 4000 in
theorem kC_p1 {X : Cx} {d : Nat} (hC : mOK X cX11_init RX11 "<init>" none d 36 1222) (hd : 3 ≤ d) (hN : ∀ i, i < 2 → i < xN X) (hp : xP X = []) {Q : State → Prop} (kk : mG X 20 [(0, .ref (xB X + 0))] [] kC_4 2 16 Q) : mG X 12 [(0, .ref (xB X + 0))] [] kC_2 1 8 Q := by
  refine g_aload_n hC dX11_init_12 rfl ?_
  refine g_bipush (v := 8) hC dX11_init_13 (by decide) ?_
  refine k_newa (N := 8) (r := 2) (τ := kC_3) hC na_14 (by decide) (by decide) (by decide) (by decide) (by decide) dX11_init_15 kC_L2 rfl ?_
  refine mG.st (st1 := [va_rf (Option.map (fun r => xB X + r) (some 2)), .ref (xB X + 0)]) rfl ?_
  refine k_putR (τ := kC_4) hC fw_X11_13_11i kC_T3_0 (fun v => by cases v <;> rfl) (fun v => by cases v <;> rfl) (nil_s hp) dX11_init_17 rfl ?_
  exact kk
set_option maxRecDepth 4000 in
theorem kC_p2 {X : Cx} {d : Nat} (hC : mOK X cX11_init RX11 "<init>" none d 36 1222) (hd : 3 ≤ d) (hN : ∀ i, i < 2 → i < xN X) (hp : xP X = []) {Q : State → Prop} (kk : mG X 28 [(0, .ref (xB X + 0))] [] kC_6 3 21 Q) : mG X 20 [(0, .ref (xB X + 0))] [] kC_4 2 16 Q := by
  refine g_aload_n hC dX11_init_20 rfl ?_
  refine g_iconst (v := 5) hC dX11_init_21 (by decide) ?_
  refine k_newq (N := 5) (r := 3) (τ := kC_5) hC nq_16 (by decide) (by decide) (by decide) (by decide) (by decide) dX11_init_22 kC_L4 rfl ?_
  refine mG.st (st1 := [va_rf (Option.map (fun r => xB X + r) (some 3)), .ref (xB X + 0)]) rfl ?_
  refine k_putR (τ := kC_6) hC fw_X11_18_11i kC_T5_0 (fun v => by cases v <;> rfl) (fun v => by cases v <;> rfl) (nil_s hp) dX11_init_25 rfl ?_
  exact kk
set_option maxRecDepth 4000 in
theorem kC_p3 {X : Cx} {d : Nat} (hC : mOK X cX11_init RX11 "<init>" none d 36 1222) (hd : 3 ≤ d) (hN : ∀ i, i < 2 → i < xN X) (hp : xP X = []) {Q : State → Prop} (kk : mG X 37 [(0, .ref (xB X + 0))] [] kC_8 4 27 Q) : mG X 28 [(0, .ref (xB X + 0))] [] kC_6 3 21 Q := by
  refine g_aload_n hC dX11_init_28 rfl ?_
  refine g_bipush (v := 6) hC dX11_init_29 (by decide) ?_
  refine k_newq (N := 6) (r := 4) (τ := kC_7) hC nq_17 (by decide) (by decide) (by decide) (by decide) (by decide) dX11_init_31 kC_L6 rfl ?_
  refine mG.st (st1 := [va_rf (Option.map (fun r => xB X + r) (some 4)), .ref (xB X + 0)]) rfl ?_
  refine k_putR (τ := kC_8) hC fw_X11_24_11i kC_T7_0 (fun v => by cases v <;> rfl) (fun v => by cases v <;> rfl) (nil_s hp) dX11_init_34 rfl ?_
  exact kk
set_option maxRecDepth 4000 in
theorem kC_p4 {X : Cx} {d : Nat} (hC : mOK X cX11_init RX11 "<init>" none d 36 1222) (hd : 3 ≤ d) (hN : ∀ i, i < 2 → i < xN X) (hp : xP X = []) {Q : State → Prop} (kk : mG X 48 [(0, .ref (xB X + 0))] [] kC_11 7 356 Q) : mG X 37 [(0, .ref (xB X + 0))] [] kC_8 4 27 Q := by
  refine g_aload_n hC dX11_init_37 rfl ?_
  refine k_new (r := 5) (τ := kC_9) hC no_X11_28 (by decide) (by decide) dX11_init_38 kC_L8 rfl ?_
  refine g_dup hC dX11_init_41 rfl ?_
  refine mG.st (st1 := ([] : List Value).reverse ++ .ref (xB X + 5) :: [.ref (xB X + 5), .ref (xB X + 0)]) rfl ?_
  refine g_callI (As := []) (st := [.ref (xB X + 5), .ref (xB X + 0)]) hC yw_X5_init yi_X5_init tw_1013 dX11_init_42 (fun _ h => h) (fun _ h => h) (fun h => h) (c_X5_init (d := 1) (Nat.le_refl _) (nil_z hp) (Q := fun z => z = kC_10) (iX5 kC_T9_5 rfl)) rfl (Nat.le_of_ble_eq_true rfl) (by omega) (by decide) (by decide) (kV fun z hz => ?_)
  subst hz
  refine mG.st (st1 := [va_rf (Option.map (fun r => xB X + r) (some 5)), .ref (xB X + 0)]) rfl ?_
  refine k_putR (τ := kC_11) hC fw_X11_31_11i kC_T10_0 (fun v => by cases v <;> rfl) (fun v => by cases v <;> rfl) (nil_s hp) dX11_init_45 rfl ?_
  exact kk
set_option maxRecDepth 4000 in
theorem kC_p5 {X : Cx} {d : Nat} (hC : mOK X cX11_init RX11 "<init>" none d 36 1222) (hd : 3 ≤ d) (hN : ∀ i, i < 2 → i < xN X) (hp : xP X = []) {Q : State → Prop} (kk : mG X 59 [(0, .ref (xB X + 0))] [] kC_14 13 453 Q) : mG X 48 [(0, .ref (xB X + 0))] [] kC_11 7 356 Q := by
  refine g_aload_n hC dX11_init_48 rfl ?_
  refine k_new (r := 8) (τ := kC_12) hC no_X11_35 (by decide) (by decide) dX11_init_49 kC_L11 rfl ?_
  refine g_dup hC dX11_init_52 rfl ?_
  refine mG.st (st1 := ([] : List Value).reverse ++ .ref (xB X + 8) :: [.ref (xB X + 8), .ref (xB X + 0)]) rfl ?_
  refine g_callI (As := []) (st := [.ref (xB X + 8), .ref (xB X + 0)]) hC yw_X9_init yi_X9_init tw_408 dX11_init_53 (fun _ h => h) (fun _ h => h) (fun h => h) (c_X9_init (d := 2) (Nat.le_refl _) (nil_z hp) (Q := fun z => z = kC_13) (iX9 kC_T12_8 rfl)) rfl (Nat.le_of_ble_eq_true rfl) (by omega) (by decide) (by decide) (kV fun z hz => ?_)
  subst hz
  refine mG.st (st1 := [va_rf (Option.map (fun r => xB X + r) (some 8)), .ref (xB X + 0)]) rfl ?_
  refine k_putR (τ := kC_14) hC fw_X11_38_11i kC_T13_0 (fun v => by cases v <;> rfl) (fun v => by cases v <;> rfl) (nil_s hp) dX11_init_56 rfl ?_
  exact kk
set_option maxRecDepth 4000 in
theorem kC_p6 {X : Cx} {d : Nat} (hC : mOK X cX11_init RX11 "<init>" none d 36 1222) (hd : 3 ≤ d) (hN : ∀ i, i < 2 → i < xN X) (hp : xP X = []) {Q : State → Prop} (kk : mG X 67 [(0, .ref (xB X + 0))] [] kC_16 14 457 Q) : mG X 59 [(0, .ref (xB X + 0))] [] kC_14 13 453 Q := by
  refine g_aload_n hC dX11_init_59 rfl ?_
  refine g_iconst (v := 4) hC dX11_init_60 (by decide) ?_
  refine k_newq (N := 4) (r := 14) (τ := kC_15) hC nq_18 (by decide) (by decide) (by decide) (by decide) (by decide) dX11_init_61 kC_L14 rfl ?_
  refine mG.st (st1 := [va_rf (Option.map (fun r => xB X + r) (some 14)), .ref (xB X + 0)]) rfl ?_
  refine k_putR (τ := kC_16) hC fw_X11_44_11i kC_T15_0 (fun v => by cases v <;> rfl) (fun v => by cases v <;> rfl) (nil_s hp) dX11_init_64 rfl ?_
  exact kk
set_option maxRecDepth 4000 in
theorem kC_p7 {X : Cx} {d : Nat} (hC : mOK X cX11_init RX11 "<init>" none d 36 1222) (hd : 3 ≤ d) (hN : ∀ i, i < 2 → i < xN X) (hp : xP X = []) {Q : State → Prop} (kk : mG X 78 [(0, .ref (xB X + 0))] [] kC_19 19 550 Q) : mG X 67 [(0, .ref (xB X + 0))] [] kC_16 14 457 Q := by
  refine g_aload_n hC dX11_init_67 rfl ?_
  refine k_new (r := 15) (τ := kC_17) hC no_X11_48 (by decide) (by decide) dX11_init_68 kC_L16 rfl ?_
  refine g_dup hC dX11_init_71 rfl ?_
  refine mG.st (st1 := ([] : List Value).reverse ++ .ref (xB X + 15) :: [.ref (xB X + 15), .ref (xB X + 0)]) rfl ?_
  refine g_callI (As := []) (st := [.ref (xB X + 15), .ref (xB X + 0)]) hC yw_X1_init yi_X1_init tw_1018 dX11_init_72 (fun _ h => h) (fun _ h => h) (fun h => h) (c_X1_init (d := 1) (Nat.le_refl _) (nil_z hp) (Q := fun z => z = kC_18) (iX1 kC_T17_15 rfl)) rfl (Nat.le_of_ble_eq_true rfl) (by omega) (by decide) (by decide) (kV fun z hz => ?_)
  subst hz
  refine mG.st (st1 := [va_rf (Option.map (fun r => xB X + r) (some 15)), .ref (xB X + 0)]) rfl ?_
  refine k_putR (τ := kC_19) hC fw_X11_51_11i kC_T18_0 (fun v => by cases v <;> rfl) (fun v => by cases v <;> rfl) (nil_s hp) dX11_init_75 rfl ?_
  exact kk
set_option maxRecDepth 4000 in
theorem kC_p8 {X : Cx} {d : Nat} (hC : mOK X cX11_init RX11 "<init>" none d 36 1222) (hd : 3 ≤ d) (hN : ∀ i, i < 2 → i < xN X) (hp : xP X = []) {Q : State → Prop} (kk : mG X 86 [(0, .ref (xB X + 0))] [] kC_21 20 558 Q) : mG X 78 [(0, .ref (xB X + 0))] [] kC_19 19 550 Q := by
  refine g_aload_n hC dX11_init_78 rfl ?_
  refine g_bipush (v := 8) hC dX11_init_79 (by decide) ?_
  refine k_newa (N := 8) (r := 20) (τ := kC_20) hC na_14 (by decide) (by decide) (by decide) (by decide) (by decide) dX11_init_81 kC_L19 rfl ?_
  refine mG.st (st1 := [va_rf (Option.map (fun r => xB X + r) (some 20)), .ref (xB X + 0)]) rfl ?_
  refine k_putR (τ := kC_21) hC fw_X11_55_11i kC_T20_0 (fun v => by cases v <;> rfl) (fun v => by cases v <;> rfl) (nil_s hp) dX11_init_83 rfl ?_
  exact kk
set_option maxRecDepth 4000 in
theorem kC_p9 {X : Cx} {d : Nat} (hC : mOK X cX11_init RX11 "<init>" none d 36 1222) (hd : 3 ≤ d) (hN : ∀ i, i < 2 → i < xN X) (hp : xP X = []) {Q : State → Prop} (kk : mG X 94 [(0, .ref (xB X + 0))] [] kC_23 21 566 Q) : mG X 86 [(0, .ref (xB X + 0))] [] kC_21 20 558 Q := by
  refine g_aload_n hC dX11_init_86 rfl ?_
  refine g_bipush (v := 8) hC dX11_init_87 (by decide) ?_
  refine k_newa (N := 8) (r := 21) (τ := kC_22) hC na_14 (by decide) (by decide) (by decide) (by decide) (by decide) dX11_init_89 kC_L21 rfl ?_
  refine mG.st (st1 := [va_rf (Option.map (fun r => xB X + r) (some 21)), .ref (xB X + 0)]) rfl ?_
  refine k_putR (τ := kC_23) hC fw_X11_58_11i kC_T22_0 (fun v => by cases v <;> rfl) (fun v => by cases v <;> rfl) (nil_s hp) dX11_init_91 rfl ?_
  exact kk
set_option maxRecDepth 4000 in
theorem kC_p10 {X : Cx} {d : Nat} (hC : mOK X cX11_init RX11 "<init>" none d 36 1222) (hd : 3 ≤ d) (hN : ∀ i, i < 2 → i < xN X) (hp : xP X = []) {Q : State → Prop} (kk : mG X 102 [(0, .ref (xB X + 0))] [] kC_25 22 575 Q) : mG X 94 [(0, .ref (xB X + 0))] [] kC_23 21 566 Q := by
  refine g_aload_n hC dX11_init_94 rfl ?_
  refine g_bipush (v := 9) hC dX11_init_95 (by decide) ?_
  refine k_newa (N := 9) (r := 22) (τ := kC_24) hC na_14 (by decide) (by decide) (by decide) (by decide) (by decide) dX11_init_97 kC_L23 rfl ?_
  refine mG.st (st1 := [va_rf (Option.map (fun r => xB X + r) (some 22)), .ref (xB X + 0)]) rfl ?_
  refine k_putR (τ := kC_25) hC fw_X11_61_11i kC_T24_0 (fun v => by cases v <;> rfl) (fun v => by cases v <;> rfl) (nil_s hp) dX11_init_99 rfl ?_
  exact kk
set_option maxRecDepth 4000 in
theorem kC_p11 {X : Cx} {d : Nat} (hC : mOK X cX11_init RX11 "<init>" none d 36 1222) (hd : 3 ≤ d) (hN : ∀ i, i < 2 → i < xN X) (hp : xP X = []) {Q : State → Prop} (kk : mG X 110 [(0, .ref (xB X + 0))] [] kC_27 23 583 Q) : mG X 102 [(0, .ref (xB X + 0))] [] kC_25 22 575 Q := by
  refine g_aload_n hC dX11_init_102 rfl ?_
  refine g_bipush (v := 8) hC dX11_init_103 (by decide) ?_
  refine k_newa (N := 8) (r := 23) (τ := kC_26) hC na_14 (by decide) (by decide) (by decide) (by decide) (by decide) dX11_init_105 kC_L25 rfl ?_
  refine mG.st (st1 := [va_rf (Option.map (fun r => xB X + r) (some 23)), .ref (xB X + 0)]) rfl ?_
  refine k_putR (τ := kC_27) hC fw_X11_64_11i kC_T26_0 (fun v => by cases v <;> rfl) (fun v => by cases v <;> rfl) (nil_s hp) dX11_init_107 rfl ?_
  exact kk
set_option maxRecDepth 4000 in
theorem kC_p12 {X : Cx} {d : Nat} (hC : mOK X cX11_init RX11 "<init>" none d 36 1222) (hd : 3 ≤ d) (hN : ∀ i, i < 2 → i < xN X) (hp : xP X = []) {Q : State → Prop} (kk : mG X 119 [(0, .ref (xB X + 0))] [] kC_29 24 839 Q) : mG X 110 [(0, .ref (xB X + 0))] [] kC_27 23 583 Q := by
  refine g_aload_n hC dX11_init_110 rfl ?_
  refine g_sipush (v := 256) hC dX11_init_111 (by decide) ?_
  refine k_newa (N := 256) (r := 24) (τ := kC_28) hC na_14 (by decide) (by decide) (by decide) (by decide) (by decide) dX11_init_114 kC_L27 rfl ?_
  refine mG.st (st1 := [va_rf (Option.map (fun r => xB X + r) (some 24)), .ref (xB X + 0)]) rfl ?_
  refine k_putR (τ := kC_29) hC fw_X11_67_11i kC_T28_0 (fun v => by cases v <;> rfl) (fun v => by cases v <;> rfl) (nil_s hp) dX11_init_116 rfl ?_
  exact kk
set_option maxRecDepth 4000 in
theorem kC_p13 {X : Cx} {d : Nat} (hC : mOK X cX11_init RX11 "<init>" none d 36 1222) (hd : 3 ≤ d) (hN : ∀ i, i < 2 → i < xN X) (hp : xP X = []) {Q : State → Prop} (kk : mG X 139 [(1, .int 0), (0, .ref (xB X + 0))] [] kC_32 26 882 Q) : mG X 119 [(0, .ref (xB X + 0))] [] kC_29 24 839 Q := by
  refine g_iconst (v := 0) hC dX11_init_119 (by decide) ?_
  refine g_istore_n (lv' := [(1, .int 0), (0, .ref (xB X + 0))]) hC dX11_init_120 (hN 1 (by decide)) rfl ?_
  refine g_iload_n hC dX11_init_121 rfl ?_
  refine g_iconst (v := 4) hC dX11_init_122 (by decide) ?_
  refine g_icmp_ge (tgt := 145) hC dX11_init_123 rfl (fun c => absurd c (by decide)) (fun c => ?_)
  refine g_aload_n hC dX11_init_126 rfl ?_
  refine g_getr hC fl_X11_44_11.s kC_T29_0 kC_P29_0_10 dX11_init_127 ?_
  refine g_iload_n hC dX11_init_130 rfl ?_
  refine k_new (r := 25) (τ := kC_30) hC no_X11_42 (by decide) (by decide) dX11_init_131 kC_L29 rfl ?_
  refine g_dup hC dX11_init_134 rfl ?_
  refine mG.st (st1 := ([] : List Value).reverse ++ .ref (xB X + 25) :: [.ref (xB X + 25), .int 0, .ref (xB X + 14)]) rfl ?_
  refine g_callI (As := []) (st := [.ref (xB X + 25), .int 0, .ref (xB X + 14)]) hC yw_X7_init yi_X7_init tw_1020 dX11_init_135 (fun _ h => h) (fun _ h => h) (fun h => h) (c_X7_init (d := 1) (Nat.le_refl _) (nil_z hp) (Q := fun z => z = kC_31) (iX7 kC_T30_25 rfl)) rfl (Nat.le_of_ble_eq_true rfl) (by omega) (by decide) (by decide) (kV fun z hz => ?_)
  subst hz
  refine k_aast (τ := kC_32) (k := 0) hC kC_T31_14 (by decide) (vpl (by decide)) kC_T31_25 (by decide) ao_7_18 (nil_s hp) (by decide) dX11_init_138 rfl ?_
  exact kk
set_option maxRecDepth 4000 in
theorem kC_p14 {X : Cx} {d : Nat} (hC : mOK X cX11_init RX11 "<init>" none d 36 1222) (hd : 3 ≤ d) (hN : ∀ i, i < 2 → i < xN X) (hp : xP X = []) {Q : State → Prop} (kk : mG X 139 [(1, .int 1), (0, .ref (xB X + 0))] [] kC_35 28 925 Q) : mG X 139 [(1, .int 0), (0, .ref (xB X + 0))] [] kC_32 26 882 Q := by
  refine g_iinc (v := 1) (lv' := [(1, .int 1), (0, .ref (xB X + 0))]) hC dX11_init_139 rfl (by decide) (hN 1 (by decide)) rfl ?_
  refine g_goto (tgt := 121) hC dX11_init_142 rfl ?_
  refine g_iload_n hC dX11_init_121 rfl ?_
  refine g_iconst (v := 4) hC dX11_init_122 (by decide) ?_
  refine g_icmp_ge (tgt := 145) hC dX11_init_123 rfl (fun c => absurd c (by decide)) (fun c => ?_)
  refine g_aload_n hC dX11_init_126 rfl ?_
  refine g_getr hC fl_X11_44_11.s kC_T32_0 kC_P32_0_10 dX11_init_127 ?_
  refine g_iload_n hC dX11_init_130 rfl ?_
  refine k_new (r := 27) (τ := kC_33) hC no_X11_42 (by decide) (by decide) dX11_init_131 kC_L32 rfl ?_
  refine g_dup hC dX11_init_134 rfl ?_
  refine mG.st (st1 := ([] : List Value).reverse ++ .ref (xB X + 27) :: [.ref (xB X + 27), .int 1, .ref (xB X + 14)]) rfl ?_
  refine g_callI (As := []) (st := [.ref (xB X + 27), .int 1, .ref (xB X + 14)]) hC yw_X7_init yi_X7_init tw_1020 dX11_init_135 (fun _ h => h) (fun _ h => h) (fun h => h) (c_X7_init (d := 1) (Nat.le_refl _) (nil_z hp) (Q := fun z => z = kC_34) (iX7 kC_T33_27 rfl)) rfl (Nat.le_of_ble_eq_true rfl) (by omega) (by decide) (by decide) (kV fun z hz => ?_)
  subst hz
  refine k_aast (τ := kC_35) (k := 1) hC kC_T34_14 (by decide) (vpl (by decide)) kC_T34_27 (by decide) ao_7_18 (nil_s hp) (by decide) dX11_init_138 rfl ?_
  exact kk
set_option maxRecDepth 4000 in
theorem kC_p15 {X : Cx} {d : Nat} (hC : mOK X cX11_init RX11 "<init>" none d 36 1222) (hd : 3 ≤ d) (hN : ∀ i, i < 2 → i < xN X) (hp : xP X = []) {Q : State → Prop} (kk : mG X 139 [(1, .int 2), (0, .ref (xB X + 0))] [] kC_38 30 968 Q) : mG X 139 [(1, .int 1), (0, .ref (xB X + 0))] [] kC_35 28 925 Q := by
  refine g_iinc (v := 2) (lv' := [(1, .int 2), (0, .ref (xB X + 0))]) hC dX11_init_139 rfl (by decide) (hN 1 (by decide)) rfl ?_
  refine g_goto (tgt := 121) hC dX11_init_142 rfl ?_
  refine g_iload_n hC dX11_init_121 rfl ?_
  refine g_iconst (v := 4) hC dX11_init_122 (by decide) ?_
  refine g_icmp_ge (tgt := 145) hC dX11_init_123 rfl (fun c => absurd c (by decide)) (fun c => ?_)
  refine g_aload_n hC dX11_init_126 rfl ?_
  refine g_getr hC fl_X11_44_11.s kC_T35_0 kC_P35_0_10 dX11_init_127 ?_
  refine g_iload_n hC dX11_init_130 rfl ?_
  refine k_new (r := 29) (τ := kC_36) hC no_X11_42 (by decide) (by decide) dX11_init_131 kC_L35 rfl ?_
  refine g_dup hC dX11_init_134 rfl ?_
  refine mG.st (st1 := ([] : List Value).reverse ++ .ref (xB X + 29) :: [.ref (xB X + 29), .int 2, .ref (xB X + 14)]) rfl ?_
  refine g_callI (As := []) (st := [.ref (xB X + 29), .int 2, .ref (xB X + 14)]) hC yw_X7_init yi_X7_init tw_1020 dX11_init_135 (fun _ h => h) (fun _ h => h) (fun h => h) (c_X7_init (d := 1) (Nat.le_refl _) (nil_z hp) (Q := fun z => z = kC_37) (iX7 kC_T36_29 rfl)) rfl (Nat.le_of_ble_eq_true rfl) (by omega) (by decide) (by decide) (kV fun z hz => ?_)
  subst hz
  refine k_aast (τ := kC_38) (k := 2) hC kC_T37_14 (by decide) (vpl (by decide)) kC_T37_29 (by decide) ao_7_18 (nil_s hp) (by decide) dX11_init_138 rfl ?_
  exact kk
set_option maxRecDepth 4000 in
theorem kC_p16 {X : Cx} {d : Nat} (hC : mOK X cX11_init RX11 "<init>" none d 36 1222) (hd : 3 ≤ d) (hN : ∀ i, i < 2 → i < xN X) (hp : xP X = []) {Q : State → Prop} (kk : mG X 139 [(1, .int 3), (0, .ref (xB X + 0))] [] kC_41 32 1011 Q) : mG X 139 [(1, .int 2), (0, .ref (xB X + 0))] [] kC_38 30 968 Q := by
  refine g_iinc (v := 3) (lv' := [(1, .int 3), (0, .ref (xB X + 0))]) hC dX11_init_139 rfl (by decide) (hN 1 (by decide)) rfl ?_
  refine g_goto (tgt := 121) hC dX11_init_142 rfl ?_
  refine g_iload_n hC dX11_init_121 rfl ?_
  refine g_iconst (v := 4) hC dX11_init_122 (by decide) ?_
  refine g_icmp_ge (tgt := 145) hC dX11_init_123 rfl (fun c => absurd c (by decide)) (fun c => ?_)
  refine g_aload_n hC dX11_init_126 rfl ?_
  refine g_getr hC fl_X11_44_11.s kC_T38_0 kC_P38_0_10 dX11_init_127 ?_
  refine g_iload_n hC dX11_init_130 rfl ?_
  refine k_new (r := 31) (τ := kC_39) hC no_X11_42 (by decide) (by decide) dX11_init_131 kC_L38 rfl ?_
  refine g_dup hC dX11_init_134 rfl ?_
  refine mG.st (st1 := ([] : List Value).reverse ++ .ref (xB X + 31) :: [.ref (xB X + 31), .int 3, .ref (xB X + 14)]) rfl ?_
  refine g_callI (As := []) (st := [.ref (xB X + 31), .int 3, .ref (xB X + 14)]) hC yw_X7_init yi_X7_init tw_1020 dX11_init_135 (fun _ h => h) (fun _ h => h) (fun h => h) (c_X7_init (d := 1) (Nat.le_refl _) (nil_z hp) (Q := fun z => z = kC_40) (iX7 kC_T39_31 rfl)) rfl (Nat.le_of_ble_eq_true rfl) (by omega) (by decide) (by decide) (kV fun z hz => ?_)
  subst hz
  refine k_aast (τ := kC_41) (k := 3) hC kC_T40_14 (by decide) (vpl (by decide)) kC_T40_31 (by decide) ao_7_18 (nil_s hp) (by decide) dX11_init_138 rfl ?_
  exact kk
set_option maxRecDepth 4000 in
theorem kC_p17 {X : Cx} {d : Nat} (hC : mOK X cX11_init RX11 "<init>" none d 36 1222) (hd : 3 ≤ d) (hN : ∀ i, i < 2 → i < xN X) (hp : xP X = []) {Q : State → Prop} (kk : mG X 147 [(1, .int 0), (0, .ref (xB X + 0))] [] kC_41 32 1011 Q) : mG X 139 [(1, .int 3), (0, .ref (xB X + 0))] [] kC_41 32 1011 Q := by
  refine g_iinc (v := 4) (lv' := [(1, .int 4), (0, .ref (xB X + 0))]) hC dX11_init_139 rfl (by decide) (hN 1 (by decide)) rfl ?_
  refine g_goto (tgt := 121) hC dX11_init_142 rfl ?_
  refine g_iload_n hC dX11_init_121 rfl ?_
  refine g_iconst (v := 4) hC dX11_init_122 (by decide) ?_
  refine g_icmp_ge (tgt := 145) hC dX11_init_123 rfl (fun c => ?_) (fun c => absurd (by decide) c)
  refine g_iconst (v := 0) hC dX11_init_145 (by decide) ?_
  refine g_istore_n (lv' := [(1, .int 0), (0, .ref (xB X + 0))]) hC dX11_init_146 (hN 1 (by decide)) rfl ?_
  exact kk
