/-! THE MEMORY: every number and every reference of the system's cells, by cell (counted from B on) and place; the kind and length of each cell -/
abbrev Mem : Type := (Nat → Nat → Int32) × (Nat → Nat → Option Nat) × List (Nat × Nat)
def mI (σ : Mem) (a k : Nat) : Int32 := σ.1 a k
def mP (σ : Mem) (a k : Nat) : Option Nat := σ.2.1 a k
def mT (σ : Mem) (a : Nat) : Option (Nat × Nat) := σ.2.2[a]?
def mL (σ : Mem) : Nat := σ.2.2.length
def sR (σ : Mem) (a : Nat) (f : Nat → Int32) : Mem := (fun b => if b = a then f else σ.1 b, σ.2)
def sI (σ : Mem) (a k : Nat) (v : Int32) : Mem := sR σ a (upd (σ.1 a) k v)
def sP (σ : Mem) (a k : Nat) (r : Option Nat) : Mem := (σ.1, fun b => if b = a then va_up (σ.2.1 a) k r else σ.2.1 b, σ.2.2)
def mN (σ : Mem) (t : Nat × Nat) : Mem := (fun b => if b = σ.2.2.length then (fun _ => 0) else σ.1 b, fun b => if b = σ.2.2.length then (fun _ => none) else σ.2.1 b, σ.2.2 ++ [t])
theorem mI_sR (σ : Mem) (a b k : Nat) (f : Nat → Int32) : mI (sR σ a f) b k = if b = a then f k else mI σ b k := by
  unfold mI sR
  by_cases h : b = a <;> simp [h]
theorem mI_sI (σ : Mem) (a k : Nat) (v : Int32) (b j : Nat) : mI (sI σ a k v) b j = if b = a then (if j = k then v else mI σ b j) else mI σ b j := by
  unfold mI sI sR upd
  by_cases h : b = a
  · subst h; simp
  · simp [h]
theorem mI_sI_s (σ : Mem) (a k : Nat) (v : Int32) : mI (sI σ a k v) a k = v := by rw [mI_sI, if_pos rfl, if_pos rfl]
theorem mI_sI_n (σ : Mem) {a k : Nat} (v : Int32) {b j : Nat} (h : b ≠ a) : mI (sI σ a k v) b j = mI σ b j := by rw [mI_sI, if_neg h]
theorem mI_sI_k (σ : Mem) {a k : Nat} (v : Int32) {b j : Nat} (h : j ≠ k) : mI (sI σ a k v) b j = mI σ b j := by rw [mI_sI]; split <;> simp [h]
theorem mP_sR (σ : Mem) (a b k : Nat) (f : Nat → Int32) : mP (sR σ a f) b k = mP σ b k := rfl
theorem mP_sI (σ : Mem) (a k : Nat) (v : Int32) (b j : Nat) : mP (sI σ a k v) b j = mP σ b j := rfl
theorem mT_sR (σ : Mem) (a b : Nat) (f : Nat → Int32) : mT (sR σ a f) b = mT σ b := rfl
theorem mT_sI (σ : Mem) (a k : Nat) (v : Int32) (b : Nat) : mT (sI σ a k v) b = mT σ b := rfl
theorem mL_sR (σ : Mem) (a : Nat) (f : Nat → Int32) : mL (sR σ a f) = mL σ := rfl
theorem mL_sI (σ : Mem) (a k : Nat) (v : Int32) : mL (sI σ a k v) = mL σ := rfl
theorem mI_sP (σ : Mem) (a k : Nat) (r : Option Nat) (b j : Nat) : mI (sP σ a k r) b j = mI σ b j := rfl
theorem mT_sP (σ : Mem) (a k : Nat) (r : Option Nat) (b : Nat) : mT (sP σ a k r) b = mT σ b := rfl
theorem mL_sP (σ : Mem) (a k : Nat) (r : Option Nat) : mL (sP σ a k r) = mL σ := rfl
theorem mP_sP (σ : Mem) (a k : Nat) (r : Option Nat) (b j : Nat) : mP (sP σ a k r) b j = if b = a then (if j = k then r else mP σ b j) else mP σ b j := by
  unfold mP sP va_up
  by_cases h : b = a
  · subst h; simp
  · simp [h]
theorem mT_lt {σ : Mem} {a : Nat} {t : Nat × Nat} (h : mT σ a = some t) : a < mL σ := (List.getElem?_eq_some_iff.mp h).1
theorem mI_mN (σ : Mem) (t : Nat × Nat) (b j : Nat) : mI (mN σ t) b j = if b = mL σ then 0 else mI σ b j := by
  unfold mI mN mL
  by_cases h : b = σ.2.2.length <;> simp [h]
theorem mP_mN (σ : Mem) (t : Nat × Nat) (b j : Nat) : mP (mN σ t) b j = if b = mL σ then none else mP σ b j := by
  unfold mP mN mL
  by_cases h : b = σ.2.2.length <;> simp [h]
theorem mL_mN (σ : Mem) (t : Nat × Nat) : mL (mN σ t) = mL σ + 1 := by simp [mL, mN]
theorem mT_mN (σ : Mem) (t : Nat × Nat) (b : Nat) : mT (mN σ t) b = if b = mL σ then some t else mT σ b := by
  unfold mT mN mL
  by_cases h : b = σ.2.2.length
  · subst h; simp
  · rw [if_neg h]
    rcases Nat.lt_or_ge b σ.2.2.length with q | q
    · exact List.getElem?_append_left q
    · rw [List.getElem?_eq_none (by simp; omega), List.getElem?_eq_none q]
/-- what is known for good: references that never change, kinds of cells -/
def mS (ps ts : List (Nat × Nat × Nat)) (σ : Mem) : Prop := (∀ e ∈ ps, mP σ e.1 e.2.1 = some e.2.2 ∧ e.1 < mL σ) ∧ ∀ e ∈ ts, mT σ e.1 = some e.2
theorem mS.sR {ps ts : List (Nat × Nat × Nat)} {σ : Mem} (h : mS ps ts σ) (a : Nat) (f : Nat → Int32) : mS ps ts (sR σ a f) := h
theorem mS.sI {ps ts : List (Nat × Nat × Nat)} {σ : Mem} (h : mS ps ts σ) (a k : Nat) (v : Int32) : mS ps ts (sI σ a k v) := h
theorem mS.mN {ps ts : List (Nat × Nat × Nat)} {σ : Mem} (h : mS ps ts σ) (t : Nat × Nat) : mS ps ts (mN σ t) := by
  refine ⟨fun e he => ⟨?_, ?_⟩, fun e he => ?_⟩
  · rw [mP_mN, if_neg (by have := (h.1 e he).2; omega)]; exact (h.1 e he).1
  · rw [mL_mN]; have := (h.1 e he).2; omega
  · have h1 := h.2 e he
    rw [mT_mN, if_neg (by have := mT_lt h1; omega)]; exact h1
theorem mS.sP {ps ts : List (Nat × Nat × Nat)} {σ : Mem} (h : mS ps ts σ) (a k : Nat) (r : Option Nat) (hn : ∀ e ∈ ps, ¬ (e.1 = a ∧ e.2.1 = k)) : mS ps ts (sP σ a k r) := by
  refine ⟨fun e he => ⟨?_, (h.1 e he).2⟩, fun e he => h.2 e he⟩
  rw [mP_sP]
  by_cases h1 : e.1 = a
  · rw [if_pos h1, if_neg (fun q => hn e he ⟨h1, q⟩)]; exact (h.1 e he).1
  · rw [if_neg h1]; exact (h.1 e he).1
theorem mS.sub {ps ts ps' ts' : List (Nat × Nat × Nat)} {σ : Mem} (h : mS ps ts σ) (hp : ∀ e ∈ ps', e ∈ ps) (ht : ∀ e ∈ ts', e ∈ ts) : mS ps' ts' σ := ⟨fun e he => h.1 e (hp e he), fun e he => h.2 e (ht e he)⟩
/-! its cells -/
def mF (B : Nat) (σ : Mem) (a : Nat) (ks : List Bool) : List Value := ks.mapIdx (fun k b => if b = true then Value.int (σ.1 a k) else va_rf ((σ.2.1 a k).map (fun r => B + r)))
def mE (cy : Nat → ClassId) (B : Nat) (σ : Mem) (a : Nat) (t : Nat × Nat) : va_E :=
  if t.1 < 13 then .inr (t.1, mF B σ a (fkX t.1))
  else if t.1 < 16 then .inl (cy t.1, t.2, .inl (σ.1 a))
  else .inl (cy t.1, t.2, .inr (.inr (.inr (.inr (fun j => (σ.2.1 a j).map (fun r => B + r))))))
def mW (cy : Nat → ClassId) (B : Nat) (σ : Mem) : va_W := σ.2.2.mapIdx (fun a t => (B + a, mE cy B σ a t))
theorem mW_at {cy : Nat → ClassId} {B : Nat} {σ : Mem} {a : Nat} {t : Nat × Nat} (h : mT σ a = some t) : (mW cy B σ)[a]? = some (B + a, mE cy B σ a t) := by
  unfold mW
  rw [List.getElem?_mapIdx]
  unfold mT at h
  rw [h]; rfl
theorem mE_o {cy : Nat → ClassId} {B : Nat} {σ : Mem} {a : Nat} {t : Nat × Nat} (h : t.1 < 13) : mE cy B σ a t = .inr (t.1, mF B σ a (fkX t.1)) := if_pos h
theorem mE_i {cy : Nat → ClassId} {B : Nat} {σ : Mem} {a : Nat} {t : Nat × Nat} (h : 13 ≤ t.1) (h2 : t.1 < 16) : mE cy B σ a t = .inl (cy t.1, t.2, .inl (σ.1 a)) := by
  unfold mE
  rw [if_neg (by omega), if_pos h2]
theorem mE_q {cy : Nat → ClassId} {B : Nat} {σ : Mem} {a : Nat} {t : Nat × Nat} (h : 16 ≤ t.1) : mE cy B σ a t = .inl (cy t.1, t.2, .inr (.inr (.inr (.inr (fun j => (σ.2.1 a j).map (fun r => B + r)))))) := by
  unfold mE
  rw [if_neg (by omega), if_neg (by omega)]
theorem mF_at {B : Nat} {σ : Mem} {a k : Nat} {ks : List Bool} (b : Bool) (h : ks[k]? = some b) : (mF B σ a ks)[k]? = some (if b = true then Value.int (mI σ a k) else va_rf ((mP σ a k).map (fun r => B + r))) := by
  unfold mF
  rw [List.getElem?_mapIdx, h]; rfl
theorem mF_len {B : Nat} {σ : Mem} {a : Nat} {ks : List Bool} : (mF B σ a ks).length = ks.length := by simp [mF]
theorem mF_sI {B : Nat} {σ : Mem} {a k : Nat} {v : Int32} {ks : List Bool} (h : ks[k]? = some true) : (mF B σ a ks).set k (.int v) = mF B (sI σ a k v) a ks := by
  apply List.ext_getElem?
  intro j
  by_cases hj : j = k
  · subst hj
    rw [List.getElem?_set_self (by rw [mF_len]; exact (List.getElem?_eq_some_iff.mp h).1), mF_at true h, mI_sI_s]; rfl
  · rw [List.getElem?_set_ne (Ne.symm hj)]
    unfold mF
    rw [List.getElem?_mapIdx, List.getElem?_mapIdx]
    have e : (sI σ a k v).1 a j = σ.1 a j := mI_sI_k σ v hj
    rw [e]; rfl
theorem mF_sP {B : Nat} {σ : Mem} {a k : Nat} {r : Option Nat} {ks : List Bool} (h : ks[k]? = some false) : (mF B σ a ks).set k (va_rf (r.map (fun r => B + r))) = mF B (sP σ a k r) a ks := by
  apply List.ext_getElem?
  intro j
  by_cases hj : j = k
  · subst hj
    rw [List.getElem?_set_self (by rw [mF_len]; exact (List.getElem?_eq_some_iff.mp h).1), mF_at false h, mP_sP, if_pos rfl, if_pos rfl]; rfl
  · rw [List.getElem?_set_ne (Ne.symm hj)]
    unfold mF
    rw [List.getElem?_mapIdx, List.getElem?_mapIdx]
    have e : (sP σ a k r).2.1 a j = σ.2.1 a j := by
      have := mP_sP σ a k r a j
      rw [if_pos rfl, if_neg hj] at this; exact this
    rw [e]; rfl
theorem mW_ext {cy : Nat → ClassId} {B : Nat} {σ τ : Mem} {a : Nat} {t : Nat × Nat} (hT : mT σ a = some t) (h2 : τ.2.2 = σ.2.2) (ho : ∀ b u, b ≠ a → mE cy B τ b u = mE cy B σ b u) : (mW cy B σ).set a (B + a, mE cy B τ a t) = mW cy B τ := by
  apply List.ext_getElem?
  intro j
  have hl : a < (mW cy B σ).length := (List.getElem?_eq_some_iff.mp (mW_at (cy := cy) (B := B) hT)).1
  by_cases hj : j = a
  · subst hj
    rw [List.getElem?_set_self hl, mW_at (t := t) (by unfold mT; rw [h2]; exact hT)]
  · rw [List.getElem?_set_ne (Ne.symm hj)]
    unfold mW
    rw [List.getElem?_mapIdx, List.getElem?_mapIdx, h2]
    cases σ.2.2[j]? with
    | none => rfl
    | some u => exact congrArg (fun e => some (B + j, e)) (ho j u hj).symm
theorem mE_sR {cy : Nat → ClassId} {B : Nat} {σ : Mem} {a b : Nat} {f : Nat → Int32} {u : Nat × Nat} (h : b ≠ a) : mE cy B (sR σ a f) b u = mE cy B σ b u := by
  have e : (sR σ a f).1 b = σ.1 b := if_neg h
  unfold mE mF
  rw [e]; rfl
theorem mE_sP {cy : Nat → ClassId} {B : Nat} {σ : Mem} {a b k : Nat} {r : Option Nat} {u : Nat × Nat} (h : b ≠ a) : mE cy B (sP σ a k r) b u = mE cy B σ b u := by
  have e : (sP σ a k r).2.1 b = σ.2.1 b := if_neg h
  unfold mE mF
  rw [e]; rfl
theorem mW_D {cy : Nat → ClassId} {B : Nat} {σ : Mem} : va_D (fun q => B ≤ q) (mW cy B σ) := by
  have key : ∀ (k : Nat) (q : Nat × va_E), (mW cy B σ)[k]? = some q → q.1 = B + k := by
    intro k q h
    unfold mW at h
    rw [List.getElem?_mapIdx] at h
    cases hk : σ.2.2[k]? with
    | none => rw [hk] at h; cases h
    | some u => rw [hk] at h; cases h; rfl
  exact ⟨fun i j x y hi hj h => by have := key i x hi; have := key j y hj; omega, fun k q h => by rw [key k q h]; exact Nat.le_add_right B k⟩
theorem mW_N {cy : Nat → ClassId} {B : Nat} {σ : Mem} {t : Nat × Nat} : mW cy B (mN σ t) = mW cy B σ ++ [(B + mL σ, mE cy B (mN σ t) (mL σ) t)] := by
  apply List.ext_getElem?
  intro j
  unfold mW
  rw [List.getElem?_mapIdx]
  have h1 : (mN σ t).2.2[j]? = mT (mN σ t) j := rfl
  rw [h1, mT_mN]
  have hlen : (σ.2.2.mapIdx (fun a t => (B + a, mE cy B σ a t))).length = mL σ := by simp [mL]
  by_cases h : j = mL σ
  · subst h
    rw [if_pos rfl, List.getElem?_append_right (by omega), hlen, Nat.sub_self]; rfl
  · rw [if_neg h]
    rcases Nat.lt_or_ge j (mL σ) with q | q
    · rw [List.getElem?_append_left (by omega), List.getElem?_mapIdx]
      have e1 : (mN σ t).1 j = σ.1 j := if_neg h
      have e2 : (mN σ t).2.1 j = σ.2.1 j := if_neg h
      have e3 : ∀ u, mE cy B (mN σ t) j u = mE cy B σ j u := by
        intro u
        unfold mE mF
        rw [e1, e2]
      show Option.map _ (mT σ j) = Option.map _ (mT σ j)
      congr 1
      funext u
      rw [e3]
    · have e0 : mT σ j = none := List.getElem?_eq_none q
      rw [e0, List.getElem?_eq_none (by simp [mL] at *; omega)]; rfl
