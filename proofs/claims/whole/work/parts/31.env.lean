/-! STAGE 2: what a call may scribble on; the world that a call sees -/
def txs (σ : Mem) (T a : Nat) : Prop := ∃ t r : Nat, t < T ∧ mP σ 4 t = some r ∧ (mP σ r 3 = some a ∨ mP σ r 4 = some a)
def SC0 (σ : Mem) (T a k : Nat) : Prop := (a = 0 ∧ (k = 13 ∨ k = 16)) ∨ (a = 15 ∧ k = 2) ∨ (16 ≤ a ∧ a ≤ 24) ∨ (a = 37 ∧ 28 ≤ k ∧ k ≤ 44) ∨ (49 ≤ a ∧ a ≤ 59) ∨ a = 67 ∨ txs σ T a
/-- the table's cells -/
def tbl (a k : Nat) : Prop := (a = 8 ∧ k = 1) ∨ (9 ≤ a ∧ a ≤ 13) ∨ (a = 37 ∧ (k = 45 ∨ k = 46)) ∨ (60 ≤ a ∧ a ≤ 61)
def SC (σ : Mem) (T a k : Nat) : Prop := SC0 σ T a k ∨ tbl a k
def RelX (σ : Mem) (N L T : Nat) : Prop := mS psA tsA σ ∧ 68 ≤ mL σ ∧ rPl σ N ∧ rLa σ L ∧ rTx σ T ∧ rHi σ T ∧ rTa σ ∧ rTb σ N ∧ rIm σ N T ∧ rSh σ ∧ rMo σ
theorem Rel.x {σ : Mem} (h : Rel σ) : ∃ N L T, RelX σ N L T := by
  obtain ⟨h1, h2, N, L, T, h3⟩ := h
  exact ⟨N, L, T, h1, h2, h3⟩
theorem RelX.rel {σ : Mem} {N L T : Nat} (h : RelX σ N L T) : Rel σ := ⟨h.1, h.2.1, N, L, T, h.2.2⟩
theorem txs.get {σ : Mem} {T a : Nat} (h : rTx σ T) (hc : txs σ T a) : ∃ (t r st nm sk : Nat) (l0 l1 l2 : List Int32), t < T ∧ rRu σ t r st nm sk l0 l1 l2 ∧ (a = nm ∨ a = sk) := by
  obtain ⟨t, r, ht, h1, h2⟩ := hc
  obtain ⟨r', st, nm, sk, l0, l1, l2, hr⟩ := h.2.2.2.2.1 t ht
  have e : r' = r := Option.some.inj (hr.1.symm.trans h1)
  subst e
  refine ⟨t, r', st, nm, sk, l0, l1, l2, ht, hr, ?_⟩
  obtain ⟨a1, a2, a3, a4, a5, a6, a7, a8, a9, -⟩ := hr
  rcases h2 with h2 | h2
  · exact Or.inl (Option.some.inj (h2.symm.trans a8))
  · exact Or.inr (Option.some.inj (h2.symm.trans a9))
theorem txs.dyn {σ : Mem} {T a : Nat} (h : rTx σ T) (hc : txs σ T a) : dyn a := by
  obtain ⟨t, r, st, nm, sk, l0, l1, l2, ht, hr, h2⟩ := hc.get h
  obtain ⟨a1, a2, a3, a4, a5, -⟩ := hr
  rcases h2 with rfl | rfl
  · exact a4
  · exact a5
theorem txs.kind {σ : Mem} {T a : Nat} (h : rTx σ T) (hc : txs σ T a) : ∃ n, mT σ a = some (14, n) := by
  obtain ⟨t, r, st, nm, sk, l0, l1, l2, ht, hr, h2⟩ := hc.get h
  obtain ⟨a1, a2, a3, a4, a5, a6, a7, a8, a9, a10, a11, a12, -⟩ := hr
  rcases h2 with rfl | rfl
  · exact ⟨_, a11⟩
  · exact ⟨_, a12⟩
theorem SC0.st {σ : Mem} {T a k : Nat} (h : rTx σ T) (hc : SC0 σ T a k) : (a = 0 ∧ (k = 13 ∨ k = 16)) ∨ (a = 15 ∧ k = 2) ∨ (16 ≤ a ∧ a ≤ 24) ∨ (a = 37 ∧ 28 ≤ k ∧ k ≤ 44) ∨ (49 ≤ a ∧ a ≤ 59) ∨ a = 67 ∨ (33 ≤ a ∧ a ≤ 36) ∨ 68 ≤ a := by
  unfold SC0 at hc
  rcases hc with hc | hc | hc | hc | hc | hc | hc
  · omega
  · omega
  · omega
  · omega
  · omega
  · omega
  · have := hc.dyn h
    unfold dyn at this
    omega
theorem SC.st {σ : Mem} {T a k : Nat} (h : rTx σ T) (hc : SC σ T a k) : (a = 0 ∧ (k = 13 ∨ k = 16)) ∨ (a = 15 ∧ k = 2) ∨ (16 ≤ a ∧ a ≤ 24) ∨ (a = 37 ∧ 28 ≤ k ∧ k ≤ 46) ∨ (49 ≤ a ∧ a ≤ 61) ∨ a = 67 ∨ (33 ≤ a ∧ a ≤ 36) ∨ 68 ≤ a ∨ (a = 8 ∧ k = 1) ∨ (9 ≤ a ∧ a ≤ 13) := by
  rcases hc with hc | hc
  · have := SC0.st h hc; omega
  · unfold tbl at hc; omega
theorem txs_txc {σ : Mem} {T a : Nat} (h : rTx σ T) (h1 : txs σ T a) (h2 : txc σ T a) : False := by
  obtain ⟨t, r, st, nm, sk, l0, l1, l2, ht, hr, h3⟩ := h1.get h
  obtain ⟨u, r', hu, g1, g2⟩ := h2
  have hr0 := hr
  obtain ⟨a1, a2, a3, a4, a5, a6, a7, a8, a9, a10, a11, a12, a13, -⟩ := hr
  rcases g2 with rfl | g2
  · obtain ⟨r2, st2, nm2, sk2, m0, m1, m2, hr2⟩ := h.2.2.2.2.1 u hu
    have e : r2 = a := Option.some.inj (hr2.1.symm.trans g1)
    subst e
    have e2 := hr2.2.2.2.2.2.1
    rcases h3 with rfl | rfl
    · rw [e2] at a11; cases a11
    · rw [e2] at a12; cases a12
  · by_cases e : t = u
    · subst e
      have e : r' = r := Option.some.inj (g1.symm.trans a1)
      subst e
      have e3 : st = a := Option.some.inj (a7.symm.trans g2)
      omega
    · have := (h.2.2.2.2.2 t u r r' ht hu e a1 g1).2
      rcases h3 with rfl | rfl
      · exact this 3 0 a a (Or.inr (Or.inl rfl)) (Or.inl rfl) a8 g2 rfl
      · exact this 4 0 a a (Or.inr (Or.inr rfl)) (Or.inl rfl) a9 g2 rfl
theorem txs_imc {σ : Mem} {N T a : Nat} (h : rTx σ T) (hI : rIm σ N T) (h1 : txs σ T a) (h2 : imc σ a) : False := by
  obtain ⟨n, hk⟩ := h1.kind h
  obtain ⟨t', h', e1, e2, e3⟩ := h2
  obtain ⟨u, r, hu, g1, g2⟩ := h1
  rcases hI with ⟨q, -⟩ | ⟨-, t, hh, c0, c1, c3, c4, q1, q2, q3, q4, q5, q6, q7, q8, q9, q10, q11, q12, q13, q14, q15, q16, q17, q18, q19, q20, -⟩
  · rw [q] at e1; cases e1
  · have z1 : t = t' := Option.some.inj (q1.symm.trans e1)
    subst z1
    have z2 : hh = h' := Option.some.inj (q9.symm.trans e2)
    subst z2
    have key := q20 u r a
    rcases e3 with rfl | rfl | e3 | e3
    · rw [q8] at hk; cases hk
    · rw [q10] at hk; cases hk
    · have z3 : c0 = a := Option.some.inj (q11.symm.trans e3)
      rcases g2 with g2 | g2
      · exact ((key 3 hu g1).2.2 (Or.inr (Or.inl rfl)) g2).1 z3.symm
      · exact ((key 4 hu g1).2.2 (Or.inr (Or.inr rfl)) g2).1 z3.symm
    · have z3 : c1 = a := Option.some.inj (q12.symm.trans e3)
      rcases g2 with g2 | g2
      · exact ((key 3 hu g1).2.2 (Or.inr (Or.inl rfl)) g2).2.1 z3.symm
      · exact ((key 4 hu g1).2.2 (Or.inr (Or.inr rfl)) g2).2.1 z3.symm
/-- scribbling keeps the relation, if the model's order of now is laid back -/
theorem RelX.sc {σ τ : Mem} {N L T : Nat} (h : RelX σ N L T) (hk : Kp (SC0 σ T) σ τ) (h53 : ∀ k, k < 8 → mI τ 53 k = nI k) : RelX τ N L T := by
  obtain ⟨hS, hL, hPl, hLa, hTx, hHi, hTa, hTb, hIm, hSh, hMo⟩ := h
  refine ⟨hk.mS hS, by rw [hk.2.2.1]; exact hL, hPl.fr hk (fun q => by have := SC0.st hTx q; omega) (fun q => by have := SC0.st hTx q; omega) (fun i q => by have := SC0.st hTx q; omega) (fun i q => by have := SC0.st hTx q; omega) (fun i q => by have := SC0.st hTx q; omega) (fun i q => by have := SC0.st hTx q; omega), hLa.fr hk (fun q => by have := SC0.st hTx q; omega) (fun q => by have := SC0.st hTx q; omega) (fun a i ha hc q => ?_) (fun i q => by have := SC0.st hTx q; omega) (fun i q => by have := SC0.st hTx q; omega), hTx.fr hk (fun q => by have := SC0.st hTx q; omega) (fun q => by have := SC0.st hTx q; omega) (fun a i hc q => ?_) (fun i q => by have := SC0.st hTx q; omega) (fun i q => by have := SC0.st hTx q; omega), hHi.fr hk (fun q => by have := SC0.st hTx q; omega) (fun q => by have := SC0.st hTx q; omega) (fun q => by have := SC0.st hTx q; omega) (fun q => by have := SC0.st hTx q; omega), hTa.fr hk (fun q => by have := SC0.st hTx q; omega) (fun q => by have := SC0.st hTx q; omega) (fun i q => by have := SC0.st hTx q; omega) (fun i q => by have := SC0.st hTx q; omega), hTb.fr hk (fun q => by have := SC0.st hTx q; omega) (fun q => by have := SC0.st hTx q; omega) (fun q => by have := SC0.st hTx q; omega) (fun q => by have := SC0.st hTx q; omega) (fun i q => by have := SC0.st hTx q; omega) (fun i q => by have := SC0.st hTx q; omega) (fun i q => by have := SC0.st hTx q; omega) (fun i q => by have := SC0.st hTx q; omega), hIm.fr hk ⟨fun q => by have := SC0.st hTx q; omega, fun q => by have := SC0.st hTx q; omega, fun q => by have := SC0.st hTx q; omega, fun q => by have := SC0.st hTx q; omega, fun q => by have := SC0.st hTx q; omega⟩ (fun a i hc q => ?_) (fun i q => by have := SC0.st hTx q; omega) (fun i q => by have := SC0.st hTx q; omega), hSh.fr hk (fun a i h1 h2 q => by have := SC0.st hTx q; omega) (fun i q => by have := SC0.st hTx q; omega) (fun i q => by have := SC0.st hTx q; omega) (fun i q => by have := SC0.st hTx q; omega), h53, fun i hi => by rw [hk.2.2.2 _ _ (fun q => by have := SC0.st hTx q; omega)]; exact hMo.2.1 i hi, fun i hi => by rw [hk.2.2.2 _ _ (fun q => by have := SC0.st hTx q; omega)]; exact hMo.2.2 i hi⟩
  · unfold SC0 at q
    rcases q with q | q | q | q | q | q | q
    · omega
    · omega
    · omega
    · omega
    · omega
    · omega
    · obtain ⟨n, hn⟩ := q.kind hTx
      obtain ⟨kd, hkd⟩ := hc
      rw [hn] at hkd
      have := (Prod.mk.inj (Option.some.inj hkd)).1
      unfold kcl at this
      split at this <;> omega
  · have hd := hc.dyn hTx
    unfold dyn at hd
    unfold SC0 at q
    rcases q with q | q | q | q | q | q | q
    · omega
    · omega
    · omega
    · omega
    · omega
    · omega
    · exact txs_txc hTx q hc
  · have hd := hc.dyn hIm
    unfold SC0 at q
    rcases q with q | q | q | q | q | q | q
    · omega
    · omega
    · omega
    · omega
    · omega
    · omega
    · exact txs_imc hTx hIm q hc
def nm6 (a b c d e f : Int32) : Nat → Int32
  | 0 => a
  | 1 => b
  | 2 => c
  | 3 => d
  | 4 => e
  | _ => f
def Env (σ : Mem) (T N : Nat) (S D : Nat → Int32) (hi : Nat) (V : Nat → (Nat → Int32) → Int32) : Prop :=
  N ≤ 8 ∧ 1 ≤ hi ∧ hi ≤ 9 ∧ (∀ i, i < N → bnd (S i) ∧ bnd (D i)) ∧ (∀ a, txs σ T a → (33 ≤ a ∧ a ≤ 36) ∨ 68 ≤ a) ∧
  (∀ τ, Kp (SC σ T) σ τ → mI τ 0 2 = nI N ∧ mI τ 37 0 = nI N ∧ mI τ 8 2 = nI hi ∧ mI τ 37 6 = nI hi ∧ ∀ i, i < N → mI τ 1 i = S i ∧ mI τ 2 i = D i ∧ mI τ 38 i = S i ∧ mI τ 39 i = D i) ∧
  (∀ (τ : Mem) (part p : Nat) (top high heap tS tD : Int32) (Q : Int32 → Mem → Prop), Kp (SC σ T) σ τ → part < 3 → p < N → ((top = -1 ∧ tS = 0 ∧ tD = 0) ∨ ∃ q, q < N ∧ top = nI q ∧ tS = S q ∧ tD = D q) → (∀ τ', Kp (fun a _ => txs σ T a) τ τ' → Q (V part (nm6 (S p) tS (D p) tD high heap)) τ') → w_X11_worth τ (nI part) (nI p) top high heap Q) ∧
  (∀ (τ : Mem) (part : Nat) (ν : Nat → Int32) (Q : Int32 → Mem → Prop), Kp (SC σ T) σ τ → part < 3 → (∀ j, j < 6 → mI τ 50 j = ν j) → (∀ τ', Kp (fun a _ => a = 49) τ τ' → Q (V part ν) τ') → w_X12_worthOf τ (nI part) Q)
theorem isP_ok {τ : Mem} {N p : Nat} {Q : Int32 → Mem → Prop} (h : mI τ 0 2 = nI N) (hN : N ≤ 8) (hp : p < N) (hq : Q 1 τ) : w_X11_isPlate τ (nI p) Q := by
  rw [q_isPlateC, h, if_pos ⟨nI_pos' (by omega), nI_lt hp (by omega)⟩]; exact hq
theorem isP_no {τ : Mem} {Q : Int32 → Mem → Prop} (hq : Q 0 τ) : w_X11_isPlate τ (-1) Q := by
  rw [q_isPlateC, if_neg (fun q => absurd q.1 (by decide))]; exact hq
theorem mx0 {a : Nat} (h : a < 2147483648) : (if 0 < nI a then nI a else 0) = nI a := by
  by_cases c : 0 < a
  · rw [if_pos (show (0 : Int32) < nI a from nI_lt (a := 0) c h)]
  · have : a = 0 := by omega
    subst this; rfl
