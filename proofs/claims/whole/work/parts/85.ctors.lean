/-! the two makers' contracts, where nothing is known yet -/
def xKn (X : Cx) (ps ts : List (Nat × Nat × Nat)) : Cx := (X.1, X.2.1, X.2.2.1, X.2.2.2.1, X.2.2.2.2.1, (ps, ts))
theorem mG.post {X : Cx} {pc : Nat} {lv : List (Nat × Value)} {st : List Value} {σ : Mem} {kc ks : Nat} {Q Q' : State → Prop} (h : ∀ t, Q t → Q' t) (k : mG X pc lv st σ kc ks Q) : mG X pc lv st σ kc ks Q' := fun H locs ls hV hS hl T hT Y => by
  obtain ⟨t, a, b⟩ := k H locs ls hV hS hl T hT Y
  exact ⟨t, a, h t b⟩
theorem k_know {X : Cx} {pc : Nat} {lv : List (Nat × Value)} {st : List Value} {σ : Mem} {kc ks mc ms : Nat} {Qp : Option Value → Mem → Prop} {ps ts : List (Nat × Nat × Nat)} (hp : xP X = []) (ht : xT X = []) (h : mS ps ts σ) (k : mG (xKn X ps ts) pc lv st σ kc ks (mQ (xKn X ps ts) mc ms Qp)) : mG X pc lv st σ kc ks (mQ X mc ms Qp) := by
  have k2 : mG (xKn X ps ts) pc lv st σ kc ks (mQ X mc ms Qp) := by
    refine mG.post (fun t q => ?_) k
    obtain ⟨o, q1, q2, ⟨⟨rv, σ', e1, e2, e3⟩, q4⟩, q5⟩ := q
    refine ⟨o, q1, q2, ⟨⟨rv, σ', e1, e2, e3.1, e3.2.1, ?_⟩, q4⟩, q5⟩
    rw [hp, ht]
    exact ⟨fun e h => absurd h List.not_mem_nil, fun e h => absurd h List.not_mem_nil⟩
  exact fun H locs ls hV hS hl => k2 H locs ls ⟨hV.1, hV.2.1, h⟩ hS hl
theorem kC_S : mS psG tsG kC_41 := by
  unfold mS
  decide +kernel
set_option maxRecDepth 4000 in
theorem c_X11_init {Z : Fx} {d : Nat} (hd : 198 ≤ d) {Q : Mem → Prop} {n : Nat} (hw : w_X11_init_147 Q n 0 kC_41) : mM Z [] [] yX11_init cX11_init 2 none d 36 1222 [.ref (Z.2.2 + 0)] kC_0 (qV Q) := by
  refine mM.of (by decide) (Nat.le_of_ble_eq_true rfl) rfl (fun X hZ hp ht hn hC => ?_)
  subst hZ
  have hN : ∀ i, i < 2 → i < xN X := fun i h => by rw [hn]; exact h
  refine kC_p0 hC (by omega) hN hp ?_
  refine kC_p1 hC (by omega) hN hp ?_
  refine kC_p2 hC (by omega) hN hp ?_
  refine kC_p3 hC (by omega) hN hp ?_
  refine kC_p4 hC (by omega) hN hp ?_
  refine kC_p5 hC (by omega) hN hp ?_
  refine kC_p6 hC (by omega) hN hp ?_
  refine kC_p7 hC (by omega) hN hp ?_
  refine kC_p8 hC (by omega) hN hp ?_
  refine kC_p9 hC (by omega) hN hp ?_
  refine kC_p10 hC (by omega) hN hp ?_
  refine kC_p11 hC (by omega) hN hp ?_
  refine kC_p12 hC (by omega) hN hp ?_
  refine kC_p13 hC (by omega) hN hp ?_
  refine kC_p14 hC (by omega) hN hp ?_
  refine kC_p15 hC (by omega) hN hp ?_
  refine kC_p16 hC (by omega) hN hp ?_
  refine kC_p17 hC (by omega) hN hp ?_
  refine mG.pick (lv' := [(0, .ref (xB X + 0)), (1, .int 0)]) [1, 0] rfl ?_
  refine k_know hp ht kC_S ?_
  exact t_X11_init_147 (X := xKn X psG tsG) hC hd hN (fun e h => h) (fun e h => h) (fun e h => List.mem_append_left _ h) n 0 kC_41 hw
set_option maxRecDepth 4000 in
theorem c_X12_init {Z : Fx} {d : Nat} (hd : 1 ≤ d) {β : Mem} (hb : mL β = 37) {Q : Mem → Prop} (hw : Q (kM_142 β)) : mM Z [] [] yX12_init cX12_init 2 none d 30 3972 [.ref (Z.2.2 + 37)] (kM_0 β) (qV Q) := by
  refine mM.of (by decide) (Nat.le_of_ble_eq_true rfl) rfl (fun X hZ hp ht hn hC => ?_)
  subst hZ
  have hN : ∀ i, i < 2 → i < xN X := fun i h => by rw [hn]; exact h
  refine kM_p0 hC (by omega) hN hp hb ?_
  refine kM_p1 hC (by omega) hN hp hb ?_
  refine kM_p2 hC (by omega) hN hp hb ?_
  refine kM_p3 hC (by omega) hN hp hb ?_
  refine kM_p4 hC (by omega) hN hp hb ?_
  refine kM_p5 hC (by omega) hN hp hb ?_
  refine kM_p6 hC (by omega) hN hp hb ?_
  refine kM_p7 hC (by omega) hN hp hb ?_
  refine kM_p8 hC (by omega) hN hp hb ?_
  refine kM_p9 hC (by omega) hN hp hb ?_
  refine kM_p10 hC (by omega) hN hp hb ?_
  refine kM_p11 hC (by omega) hN hp hb ?_
  refine kM_p12 hC (by omega) hN hp hb ?_
  refine kM_p13 hC (by omega) hN hp hb ?_
  refine kM_p14 hC (by omega) hN hp hb ?_
  refine kM_p15 hC (by omega) hN hp hb ?_
  refine kM_p16 hC (by omega) hN hp hb ?_
  refine kM_p17 hC (by omega) hN hp hb ?_
  refine kM_p18 hC (by omega) hN hp hb ?_
  refine kM_p19 hC (by omega) hN hp hb ?_
  refine kM_p20 hC (by omega) hN hp hb ?_
  refine kM_p21 hC (by omega) hN hp hb ?_
  refine kM_p22 hC (by omega) hN hp hb ?_
  refine kM_p23 hC (by omega) hN hp hb ?_
  refine kM_p24 hC (by omega) hN hp hb ?_
  refine kM_p25 hC (by omega) hN hp hb ?_
  refine kM_p26 hC (by omega) hN hp hb ?_
  refine kM_p27 hC (by omega) hN hp hb ?_
  refine kM_p28 hC (by omega) hN hp hb ?_
  refine kM_p29 hC (by omega) hN hp hb ?_
  refine kM_p30 hC (by omega) hN hp hb ?_
  refine kM_p31 hC (by omega) hN hp hb ?_
  refine kM_p32 hC (by omega) hN hp hb ?_
  refine kM_p33 hC (by omega) hN hp hb ?_
  refine kM_p34 hC (by omega) hN hp hb ?_
  refine kM_p35 hC (by omega) hN hp hb ?_
  refine kM_p36 hC (by omega) hN hp hb ?_
  refine kM_p37 hC (by omega) hN hp hb ?_
  refine kM_p38 hC (by omega) hN hp hb ?_
  refine kM_p39 hC (by omega) hN hp hb ?_
  refine kM_p40 hC (by omega) hN hp hb ?_
  refine kM_p41 hC (by omega) hN hp hb ?_
  refine kM_p42 hC (by omega) hN hp hb ?_
  refine kM_p43 hC (by omega) hN hp hb ?_
  refine kM_p44 hC (by omega) hN hp hb ?_
  refine kM_p45 hC (by omega) hN hp hb ?_
  refine kM_p46 hC (by omega) hN hp hb ?_
  refine kM_p47 hC (by omega) hN hp hb ?_
  refine kM_p48 hC (by omega) hN hp hb ?_
  refine kM_p49 hC (by omega) hN hp hb ?_
  refine kM_p50 hC (by omega) hN hp hb ?_
  refine kM_p51 hC (by omega) hN hp hb ?_
  refine kM_p52 hC (by omega) hN hp hb ?_
  refine kM_p53 hC (by omega) hN hp hb ?_
  refine kM_p54 hC (by omega) hN hp hb ?_
  refine kM_p55 hC (by omega) hN hp hb ?_
  refine kM_p56 hC (by omega) hN hp hb ?_
  refine kM_p57 hC (by omega) hN hp hb ?_
  refine kM_p58 hC (by omega) hN hp hb ?_
  refine kM_p59 hC (by omega) hN hp hb ?_
  exact g_vret hC (by decide) (by decide) dX12_init_707 (fun _ => ⟨rfl, hw⟩)
