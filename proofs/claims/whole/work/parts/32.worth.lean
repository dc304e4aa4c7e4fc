/-! STAGE 2: the rule's worth, the class's way and the model's -/
theorem rRu.sc {σ τ : Mem} {N L T : Nat} (h : RelX σ N L T) (hk : Kp (SC σ T) σ τ) {t r st nm sk : Nat} {l0 l1 l2 : List Int32} (ht : t < T) (hr : rRu σ t r st nm sk l0 l1 l2) : rRu τ t r st nm sk l0 l1 l2 := by
  obtain ⟨hS, hL, hPl, hLa, hTx, -⟩ := h
  have key : ∀ a, txc σ T a → ∀ i, ¬ SC σ T a i := fun a hc i q => by
    have hd := hc.dyn hTx
    unfold dyn at hd
    unfold SC SC0 tbl at q
    rcases q with (q | q | q | q | q | q | q) | q
    · omega
    · omega
    · omega
    · omega
    · omega
    · omega
    · exact txs_txc hTx q hc
    · omega
  exact hr.fr hk (key r ⟨t, r, ht, hr.1, Or.inl rfl⟩) (key st ⟨t, r, ht, hr.1, Or.inr hr.2.2.2.2.2.2.1⟩) (fun i q => by have := SC.st hTx q; omega) (fun i q => by have := SC.st hTx q; omega)
theorem about_ok {τ : Mem} {r nm : Nat} {a b c d e f : Int32} {Q : Mem → Prop} (t1 : mT τ r = some (6, 0)) (p3 : mP τ r 3 = some nm) (t3 : mT τ nm = some (14, 6)) (hq : ∀ τ', Kp (fun x _ => x = nm) τ τ' → (∀ j, j < 6 → mI τ' nm j = nm6 a b c d e f j) → Q τ') : w_X6_about τ r a b c d e f Q := by
  have v : ∀ k : Nat, k < 6 → vp_in (nI k) 6 := fun k hk => vp_in_nI hk (by omega)
  unfold w_X6_about
  refine ⟨t1, nm, p3, 6, t3, v 0 (by omega), t1, nm, p3, 6, t3, v 1 (by omega), t1, nm, p3, 6, t3, v 2 (by omega), t1, nm, p3, 6, t3, v 3 (by omega), t1, nm, p3, 6, t3, v 4 (by omega), t1, nm, p3, 6, t3, v 5 (by omega), ?_⟩
  refine hq _ (by repeat (first | exact Kp.rf | refine Kp.sI ?_ _ (by first | exact rfl | omega | (dsimp only; omega)))) (fun j hj => ?_)
  rcases j with _ | _ | _ | _ | _ | _ | j
  · simp [mI_sI, nm6]
  · simp [mI_sI, nm6]
  · simp [mI_sI, nm6]
  · simp [mI_sI, nm6]
  · simp [mI_sI, nm6]
  · simp [mI_sI, nm6]
  · omega
theorem value_ok {τ : Mem} {t r st nm sk : Nat} {l0 l1 l2 : List Int32} (hr : rRu τ t r st nm sk l0 l1 l2) {part : Nat} (hp : part < 3) {ν : Nat → Int32} {Q : Int32 → Mem → Prop} (hν : ∀ j, j < 6 → mI τ nm j = ν j) (hq : ∀ τ', Kp (fun x _ => x = sk) τ τ' → Q (evV ν (if part = 0 then l0 else if part = 1 then l1 else l2)) τ') : w_X6_value τ r (nI part) Q := by
  obtain ⟨a1, a2, a3, a4, a5, a6, a7, a8, a9, a10, a11, a12, a13, a14, a15, a16, a17, a18, a19, ⟨b1, b2, b3⟩, ⟨c1, c2, c3⟩, d1, d2, d3⟩ := hr
  have hc : part = 0 ∨ part = 1 ∨ part = 2 := by omega
  have z : ∀ {P : Prop}, (nI 1 = 0 → P) := fun c => absurd c (by decide)
  rcases hc with rfl | rfl | rfl
  · unfold w_X6_value w_X6_value_24 w_X6_value_53
    refine ⟨fun c => absurd rfl c, fun _ => ⟨fun c => absurd rfl c, fun _ => ⟨a6, ?_⟩⟩⟩
    rw [a15, if_neg (show ¬ (0 : Int32) < 0 by decide)]
    exact val_go (Q := Q) (r := r) (nm := nm) (e := l0.length) (ν := ν) a14 (by omega) a13.2.2 a13.2.1 l0 0 0 1 (fun _ => 0) τ a6 a7 a8 a9 a10 a11 a12 (fun k hk => (b1 k hk).1) b2 b3 (by omega) (by omega) (fun j hj => by omega) (by omega) hν (fun τ' k1 => hq τ' k1)
  · unfold w_X6_value w_X6_value_24 w_X6_value_53
    refine ⟨fun _ => ⟨fun c => absurd rfl c, fun _ => ⟨a6, ⟨fun _ => ⟨fun c => absurd rfl c, fun _ => ⟨a6, ?_⟩⟩, z⟩⟩⟩, z⟩
    rw [a15, a16, mx0 (by omega)]
    exact val_go (Q := Q) (r := r) (nm := nm) (e := l0.length + l1.length) (ν := ν) a14 (by omega) a13.2.2 a13.2.1 l1 l0.length 0 1 (fun _ => 0) τ a6 a7 a8 a9 a10 a11 a12 (fun k hk => (c1 k hk).1) c2 c3 (by omega) (by omega) (fun j hj => by omega) (by omega) hν (fun τ' k1 => hq τ' k1)
  · unfold w_X6_value w_X6_value_24 w_X6_value_53
    have z2 : ∀ {P : Prop}, (nI 2 = 0 → P) := fun c => absurd c (by decide)
    have z3 : ∀ {P : Prop}, (nI 2 = 1 → P) := fun c => absurd c (by decide)
    refine ⟨fun _ => ⟨fun _ => ⟨a6, ⟨fun _ => ⟨fun _ => ⟨a6, st, a7, _, a10, ?_⟩, z3⟩, z2⟩⟩, z3⟩, z2⟩
    rw [a16, mx0 (by omega)]
    exact val_go (Q := Q) (r := r) (nm := nm) (e := l0.length + l1.length + l2.length) (ν := ν) a14 (by omega) a13.2.2 a13.2.1 l2 (l0.length + l1.length) 0 1 (fun _ => 0) τ a6 a7 a8 a9 a10 a11 a12 (fun k hk => (d1 k hk).1) d2 d3 (by omega) (by omega) (fun j hj => by omega) (by omega) hν (fun τ' k1 => hq τ' k1)
theorem rRu.kp {σ τ : Mem} {F : Nat → Nat → Prop} {t r st nm sk : Nat} {l0 l1 l2 : List Int32} (hr : rRu σ t r st nm sk l0 l1 l2) (hk : Kp F σ τ) (h1 : ∀ a i, F a i → a = nm ∨ a = sk) : rRu τ t r st nm sk l0 l1 l2 := by
  have hr0 := hr
  obtain ⟨a1, a2, a3, a4, a5, a6, a7, a8, a9, a10, a11, a12, a13, -⟩ := hr
  unfold dyn at a4 a5
  refine hr0.fr hk (fun i q => ?_) (fun i q => ?_) (fun i q => ?_) (fun i q => ?_)
  · rcases h1 _ _ q with e | e
    · subst e; rw [a6] at a11; cases a11
    · subst e; rw [a6] at a12; cases a12
  · have := h1 _ _ q; omega
  · have := h1 _ _ q; omega
  · have := h1 _ _ q; omega
theorem worth_ok {σ τ : Mem} {N L T : Nat} (h : RelX σ N L T) (hk : Kp (SC σ T) σ τ) {u r st nm sk : Nat} {l0 l1 l2 : List Int32} (hu : u < T) (eu : mI σ 8 3 = nI u) (hr : rRu σ u r st nm sk l0 l1 l2) {part p : Nat} {top high heap tS tD : Int32} {Q : Int32 → Mem → Prop} (hpart : part < 3) (hp : p < N) (htop : (top = -1 ∧ tS = 0 ∧ tD = 0) ∨ ∃ q, q < N ∧ top = nI q ∧ tS = mI σ 1 q ∧ tD = mI σ 2 q) (hq : ∀ τ', Kp (fun a _ => txs σ T a) τ τ' → Q (evV (nm6 (mI σ 1 p) tS (mI σ 2 p) tD high heap) (if part = 0 then l0 else if part = 1 then l1 else l2)) τ') : w_X11_worth τ (nI part) (nI p) top high heap Q := by
  have hr2 := rRu.sc h hk hu hr
  obtain ⟨hS, hL, ⟨hN, g1, g2, g3⟩, hLa, hTx, -⟩ := h
  have e83 : mI τ 8 3 = nI u := by rw [hk.2.2.2 _ _ (fun q => by have := SC.st hTx q; omega)]; exact eu
  have e06 : mI τ 0 6 = nI T := by rw [hk.2.2.2 _ _ (fun q => by have := SC.st hTx q; omega)]; exact hTx.2.2.1
  have e02 : mI τ 0 2 = nI N := by rw [hk.2.2.2 _ _ (fun q => by have := SC.st hTx q; omega)]; exact g1
  have eS : ∀ i, mI τ 1 i = mI σ 1 i := fun i => hk.2.2.2 _ _ (fun q => by have := SC.st hTx q; omega)
  have eD : ∀ i, mI τ 2 i = mI σ 2 i := fun i => hk.2.2.2 _ _ (fun q => by have := SC.st hTx q; omega)
  have hT6 : T ≤ 6 := hTx.2.1
  have p4 : mP τ 4 u = some r := by rw [hk.1]; exact hr.1
  have c3 : mP σ r 3 = some nm := hr.2.2.2.2.2.2.2.1
  have c4 : mP σ r 4 = some sk := hr.2.2.2.2.2.2.2.2.1
  have x3 : txs σ T nm := ⟨u, r, hu, hr.1, Or.inl c3⟩
  have x4 : txs σ T sk := ⟨u, r, hu, hr.1, Or.inr c4⟩
  have tail : ∀ a b : Int32, a = tS → b = tD → w_X11_worth_104 Q (nI part) (nI p) high heap r a b τ := by
    intro a b ea eb
    subst ea; subst eb
    have b1 := hr2
    obtain ⟨a1, a2, a3, a4, a5, a6, a7, a8, a9, a10, a11, a12, a13, -⟩ := b1
    unfold w_X11_worth_104
    have vp : vp_in (nI p) 8 := vp_in_nI (by omega) (by omega)
    rw [k_cl (by omega), eS, eD]
    refine ⟨vp, vp, a6, about_ok a6 a8 a11 (fun τ1 k1 n1 => ?_)⟩
    refine ⟨by rw [k1.2.1]; exact a6, value_ok (rRu.kp hr2 k1 (fun x _ hx => Or.inl hx)) hpart n1 (fun τ2 k2 => hq τ2 ?_)⟩
    exact (k1.mono (fun x _ hx => by subst hx; exact x3)).tr (k2.mono (fun x _ hx => by subst hx; exact x4))
  unfold w_X11_worth
  rw [e83, e06]
  refine ⟨fun c => absurd c (nI_pos (by omega)), fun _ => ⟨fun c => absurd c (fun z => of_eq_false (k_nle (a := T) (b := u) hu (by omega)) z), fun _ => ⟨vp_in_nI (by omega) (by omega), fun oo hoo => ?_⟩⟩⟩
  rw [k_cl (by omega), p4] at hoo
  subst hoo
  unfold w_X11_worth_40
  refine ⟨fun c => (by cases c), fun r1 hr1 => ?_⟩
  cases hr1
  refine isP_ok e02 hN hp ⟨fun _ => ?_, fun c => absurd c (by decide)⟩
  rcases htop with ⟨rfl, rfl, rfl⟩ | ⟨q, hq1, rfl, rfl, rfl⟩
  · refine isP_no ⟨fun c => absurd rfl c, fun _ => ?_⟩
    unfold w_X11_worth_70
    refine ⟨fun c => absurd c (by decide), fun _ => ?_⟩
    unfold w_X11_worth_87
    exact ⟨fun c => absurd c (by decide), fun _ => tail 0 0 rfl rfl⟩
  · refine isP_ok e02 hN hq1 ⟨fun _ => ?_, fun c => absurd c (by decide)⟩
    unfold w_X11_worth_70
    refine ⟨fun _ => ⟨vp_in_nI (by omega) (by omega), ?_⟩, fun c => absurd rfl c⟩
    unfold w_X11_worth_87
    refine ⟨fun _ => ⟨vp_in_nI (by omega) (by omega), ?_⟩, fun c => absurd rfl c⟩
    rw [k_cl (by omega)]
    exact tail _ _ (eS q) (eD q)
theorem wof_ok {σ τ : Mem} {N L T : Nat} (h : RelX σ N L T) (hk : Kp (SC σ T) σ τ) {u r st nm sk : Nat} {l0 l1 l2 : List Int32} (hu : u < T) (eu : mI σ 37 10 = nI u) (hr : rRu σ u r st nm sk l0 l1 l2) {part : Nat} {ν : Nat → Int32} {Q : Int32 → Mem → Prop} (hpart : part < 3) (hν : ∀ j, j < 6 → mI τ 50 j = ν j) (hq : ∀ τ', Kp (fun a _ => a = 49) τ τ' → Q (evV ν (if part = 0 then l0 else if part = 1 then l1 else l2)) τ') : w_X12_worthOf τ (nI part) Q := by
  have hr2 := rRu.sc h hk hu hr
  obtain ⟨hS, hL, ⟨hN, g1, g2, g3⟩, hLa, hTx, -⟩ := h
  have e10 : mI τ 37 10 = nI u := by rw [hk.2.2.2 _ _ (fun q => by have := SC.st hTx q; omega)]; exact eu
  have hT6 : T ≤ 6 := hTx.2.1
  obtain ⟨a1, a2, a3, a4, a5, a6, a7, a8, a9, a10, a11, a12, a13, a14, a15, a16, a17, a18, a19, ⟨b1, b2, b3⟩, ⟨c1, c2, c3⟩, d1, d2, d3⟩ := hr2
  unfold w_X12_worthOf
  have e3 : (3 : Int32) * mI τ 37 10 + nI part = nI (3 * u + part) := by rw [e10, show (3 : Int32) = nI 3 from rfl, k_mul, nI_add]
  rw [e3]
  have hc : part = 0 ∨ part = 1 ∨ part = 2 := by omega
  rcases hc with rfl | rfl | rfl
  · exact wof_go (row := 3 * u + 0) (by omega) (n := l0.length) (by omega) l0 0 0 1 (fun _ => 0) τ a17 (fun k hk => by rw [Nat.zero_add]; exact (b1 k hk).2) b2 b3 (by omega) (by omega) (fun j hj => by omega) (by omega) hν (fun τ' k1 => hq τ' k1)
  · exact wof_go (row := 3 * u + 1) (by omega) (n := l1.length) (by omega) l1 0 0 1 (fun _ => 0) τ a18 (fun k hk => by rw [Nat.zero_add]; exact (c1 k hk).2) c2 c3 (by omega) (by omega) (fun j hj => by omega) (by omega) hν (fun τ' k1 => hq τ' k1)
  · exact wof_go (row := 3 * u + 2) (by omega) (n := l2.length) (by omega) l2 0 0 1 (fun _ => 0) τ a19 (fun k hk => by rw [Nat.zero_add]; exact (d1 k hk).2) d2 d3 (by omega) (by omega) (fun j hj => by omega) (by omega) hν (fun τ' k1 => hq τ' k1)
theorem env_of {σ : Mem} {N L T : Nat} (h : RelX σ N L T) : ∃ (hi : Nat) (V : Nat → (Nat → Int32) → Int32), Env σ T N (fun i => mI σ 1 i) (fun i => mI σ 2 i) hi V := by
  have h0 := h
  obtain ⟨hS, hL, ⟨hN, g1, g2, g3⟩, hLa, hTx, ⟨⟨u, hu, u1, u2⟩, hi, i1, i2, i3, i4⟩, -⟩ := h0
  obtain ⟨r, st, nm, sk, l0, l1, l2, hr⟩ := hTx.2.2.2.2.1 u hu
  refine ⟨hi, fun part ν => evV ν (if part = 0 then l0 else if part = 1 then l1 else l2), hN, i1, i2, fun i hi => ⟨(g3 i hi).2.1, (g3 i hi).2.2.2⟩, fun a ha => ?_, fun τ hk => ?_, ?_, ?_⟩
  · have := ha.dyn hTx
    unfold dyn at this
    omega
  · have e : ∀ a k, ¬ SC σ T a k → mI τ a k = mI σ a k := hk.2.2.2
    refine ⟨by rw [e _ _ (fun q => by have := SC.st hTx q; omega)]; exact g1, by rw [e _ _ (fun q => by have := SC.st hTx q; omega)]; exact g2, by rw [e _ _ (fun q => by have := SC.st hTx q; omega)]; exact i3, by rw [e _ _ (fun q => by have := SC.st hTx q; omega)]; exact i4, fun i hi => ⟨e _ _ (fun q => by have := SC.st hTx q; omega), e _ _ (fun q => by have := SC.st hTx q; omega), ?_, ?_⟩⟩
    · rw [e _ _ (fun q => by have := SC.st hTx q; omega)]; exact (g3 i hi).1
    · rw [e _ _ (fun q => by have := SC.st hTx q; omega)]; exact (g3 i hi).2.2.1
  · intro τ part p top high heap tS tD Q hk hpart hp htop hq
    exact worth_ok h hk hu u1 hr hpart hp htop hq
  · intro τ part ν Q hk hpart hν hq
    exact wof_ok h hk hu u2 hr hpart hν hq
