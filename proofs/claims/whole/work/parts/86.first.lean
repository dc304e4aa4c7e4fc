/-! STAGE 2: THE START: the first text is read -/
def tp0 : Nat → Nat := fun i => [109, 97, 121, 32, 115, 105, 122, 101, 32, 60, 32, 116, 111, 112, 32, 59, 32, 112, 97, 121, 115, 32, 49, 32, 45, 32, 104, 105, 103, 104, 32, 59, 32, 119, 101, 105, 103, 104, 115, 32, 115, 105, 122, 101, 32, 59].getD i 0
def tk0 : List (Nat × Nat) := [(3, 0), (2, 0), (4, 60), (2, 1), (4, 59), (3, 1), (1, 1), (4, 45), (2, 4), (4, 59), (3, 2), (2, 0), (4, 59), (5, 0)]
theorem st0_0 : strm tp0 46 0 = ((3, 0), 0, 3) := by decide +kernel
theorem st0_1 : strm tp0 46 1 = ((2, 0), 4, 8) := by
  show scn tp0 46 (strm tp0 46 0).2.2 = _
  rw [st0_0]
  decide +kernel
theorem st0_2 : strm tp0 46 2 = ((4, 60), 9, 10) := by
  show scn tp0 46 (strm tp0 46 1).2.2 = _
  rw [st0_1]
  decide +kernel
theorem st0_3 : strm tp0 46 3 = ((2, 1), 11, 14) := by
  show scn tp0 46 (strm tp0 46 2).2.2 = _
  rw [st0_2]
  decide +kernel
theorem st0_4 : strm tp0 46 4 = ((4, 59), 15, 16) := by
  show scn tp0 46 (strm tp0 46 3).2.2 = _
  rw [st0_3]
  decide +kernel
theorem st0_5 : strm tp0 46 5 = ((3, 1), 17, 21) := by
  show scn tp0 46 (strm tp0 46 4).2.2 = _
  rw [st0_4]
  decide +kernel
theorem st0_6 : strm tp0 46 6 = ((1, 1), 22, 23) := by
  show scn tp0 46 (strm tp0 46 5).2.2 = _
  rw [st0_5]
  decide +kernel
theorem st0_7 : strm tp0 46 7 = ((4, 45), 24, 25) := by
  show scn tp0 46 (strm tp0 46 6).2.2 = _
  rw [st0_6]
  decide +kernel
theorem st0_8 : strm tp0 46 8 = ((2, 4), 26, 30) := by
  show scn tp0 46 (strm tp0 46 7).2.2 = _
  rw [st0_7]
  decide +kernel
theorem st0_9 : strm tp0 46 9 = ((4, 59), 31, 32) := by
  show scn tp0 46 (strm tp0 46 8).2.2 = _
  rw [st0_8]
  decide +kernel
theorem st0_10 : strm tp0 46 10 = ((3, 2), 33, 39) := by
  show scn tp0 46 (strm tp0 46 9).2.2 = _
  rw [st0_9]
  decide +kernel
theorem st0_11 : strm tp0 46 11 = ((2, 0), 40, 44) := by
  show scn tp0 46 (strm tp0 46 10).2.2 = _
  rw [st0_10]
  decide +kernel
theorem st0_12 : strm tp0 46 12 = ((4, 59), 45, 46) := by
  show scn tp0 46 (strm tp0 46 11).2.2 = _
  rw [st0_11]
  decide +kernel
theorem st0_13 : strm tp0 46 13 = ((5, 0), 46, 46) := by
  show scn tp0 46 (strm tp0 46 12).2.2 = _
  rw [st0_12]
  decide +kernel
theorem tk0_at : ∀ i, i < 14 → tkS tp0 46 i = tk0.getD i (5, 0)
  | 0, _ => congrArg Prod.fst st0_0
  | 1, _ => congrArg Prod.fst st0_1
  | 2, _ => congrArg Prod.fst st0_2
  | 3, _ => congrArg Prod.fst st0_3
  | 4, _ => congrArg Prod.fst st0_4
  | 5, _ => congrArg Prod.fst st0_5
  | 6, _ => congrArg Prod.fst st0_6
  | 7, _ => congrArg Prod.fst st0_7
  | 8, _ => congrArg Prod.fst st0_8
  | 9, _ => congrArg Prod.fst st0_9
  | 10, _ => congrArg Prod.fst st0_10
  | 11, _ => congrArg Prod.fst st0_11
  | 12, _ => congrArg Prod.fst st0_12
  | 13, _ => congrArg Prod.fst st0_13
  | n + 14, h => absurd h (by omega)
def E0 : List (Nat × Nat × List Int32 × Nat) := [(7, 1, [-1], 2), (7, 3, [-2], 4), (7, 6, [1], 7), (7, 8, [-5], 9), (7, 11, [-1], 12), (16, 2, [], 2), (16, 4, [], 4), (16, 7, [], 7), (16, 9, [], 9), (16, 12, [], 12), (6, 1, [-1], 2), (5, 1, [-1], 2), (6, 3, [-2], 4), (5, 3, [-2], 4), (6, 6, [1], 7), (6, 8, [-5], 9), (6, 11, [-1], 12), (5, 11, [-1], 12), (15, 2, [], 2), (15, 4, [], 4), (15, 9, [], 9), (15, 12, [], 12), (15, 7, [-5, -16], 9), (5, 6, [1, -5, -16], 9), (3, 1, [-1, -2, -13], 4), (2, 1, [-1, -2, -13], 4), (1, 1, [-1, -2, -13], 4), (3, 6, [1, -5, -16], 9), (2, 6, [1, -5, -16], 9), (1, 6, [1, -5, -16], 9), (3, 11, [-1], 12), (2, 11, [-1], 12), (1, 11, [-1], 12), (12, 4, [], 4), (11, 4, [], 4), (12, 9, [], 9), (11, 9, [], 9), (12, 12, [], 12), (11, 12, [], 12)]
theorem e0_i : ∀ e ∈ E0, e.2.1 < 14 ∧ e.2.2.2 < 14 := by decide +kernel
theorem e0_7 : ∀ e ∈ E0, e.1 = 7 → (((tk0.getD e.2.1 (5, 0)).1 = 1 ∧ e.2.2.1 = [nI (tk0.getD e.2.1 (5, 0)).2]) ∨ ((tk0.getD e.2.1 (5, 0)).1 = 2 ∧ e.2.2.1 = [-1 - nI (tk0.getD e.2.1 (5, 0)).2])) ∧ e.2.2.2 = e.2.1 + 1 := by decide +kernel
theorem e0_3 : ∀ e ∈ E0, e.1 = 3 → ¬ tk0.getD e.2.1 (5, 0) = (3, 5) ∧ ∃ e1 ∈ E0, e1.1 = 5 ∧ e1.2.1 = e.2.1 ∧ ((opc 4 (tk0.getD e1.2.2.2 (5, 0)) = none ∧ e.2.2.1 = e1.2.2.1 ∧ e.2.2.2 = e1.2.2.2) ∨ (opc 4 (tk0.getD e1.2.2.2 (5, 0)) = some (-13) ∧ ∃ e2 ∈ E0, e2.1 = 5 ∧ e2.2.1 = e1.2.2.2 + 1 ∧ e.2.2.1 = e1.2.2.1 ++ (e2.2.2.1 ++ [-13]) ∧ e.2.2.2 = e2.2.2.2)) := by decide +kernel
theorem e0_l : ∀ e ∈ E0, (e.1 = 1 ∨ e.1 = 2 ∨ e.1 = 5 ∨ e.1 = 6) → ∃ e1 ∈ E0, e1.1 = sbl e.1 ∧ e1.2.1 = e.2.1 ∧ ∃ e2 ∈ E0, e2.1 = 10 + e.1 ∧ e2.2.1 = e1.2.2.2 ∧ e.2.2.1 = e1.2.2.1 ++ e2.2.2.1 ∧ e.2.2.2 = e2.2.2.2 := by decide +kernel
theorem e0_t : ∀ e ∈ E0, (e.1 = 11 ∨ e.1 = 12 ∨ e.1 = 15 ∨ e.1 = 16) → (opc (e.1 - 10) (tk0.getD e.2.1 (5, 0)) = none ∧ e.2.2.1 = [] ∧ e.2.2.2 = e.2.1) ∨ (opc (e.1 - 10) (tk0.getD e.2.1 (5, 0)) = some (-16) ∧ ∃ e1 ∈ E0, e1.1 = sbl (e.1 - 10) ∧ e1.2.1 = e.2.1 + 1 ∧ ∃ e2 ∈ E0, e2.1 = e.1 ∧ e2.2.1 = e1.2.2.2 ∧ e.2.2.1 = e1.2.2.1 ++ -16 :: e2.2.2.1 ∧ e.2.2.2 = e2.2.2.2) := by decide +kernel
theorem lvl_10 {x y : Nat} (h : lvl x) (e : y = 10 + x) : (y = 11 ∨ y = 12 ∨ y = 15 ∨ y = 16) ∧ y - 10 = x := by
  subst e
  rcases h with rfl | rfl | rfl | rfl <;> exact ⟨by omega, by omega⟩
theorem t0_at {e : Nat × Nat × List Int32 × Nat} (he : e ∈ E0) {i : Nat} (hi : e.2.1 = i) : tk0.getD e.2.1 (5, 0) = tkS tp0 46 i := by
  subst hi
  exact (tk0_at _ (e0_i e he).1).symm
theorem t0_j {e : Nat × Nat × List Int32 × Nat} (he : e ∈ E0) {i : Nat} (hi : i = e.2.2.2) : tk0.getD e.2.2.2 (5, 0) = tkS tp0 46 i := by
  subst hi
  exact (tk0_at _ (e0_i e he).2).symm
/-- what is read of the first text -/
theorem d0_R {x o i : Nat} {l : List Int32} {j : Nat} (h : rdO (tkS tp0 46) x o i l j) : ∀ e ∈ E0, e.1 = x → e.2.1 = i → l = e.2.2.1 ∧ j = e.2.2.2 := by
  refine h (fun x o i l j => ∀ e ∈ E0, e.1 = x → e.2.1 = i → l = e.2.2.1 ∧ j = e.2.2.2) ⟨?_, ?_, ?_, ?_, ?_, ?_, ?_, ?_, ?_, ?_⟩
  · intro o i v hv e he hx hi
    obtain ⟨g, gj⟩ := e0_7 e he hx
    rw [t0_at he hi, hv] at g
    rcases g with ⟨_, g⟩ | ⟨g, _⟩
    · exact ⟨g.symm, by omega⟩
    · exact absurd g (show ¬ (1 = 2) by omega)
  · intro o i v hv e he hx hi
    obtain ⟨g, gj⟩ := e0_7 e he hx
    rw [t0_at he hi, hv] at g
    rcases g with ⟨g, _⟩ | ⟨_, g⟩
    · exact absurd g (show ¬ (2 = 1) by omega)
    · exact ⟨g.symm, by omega⟩
  · intro o i l j hv _ _ e he hx hi
    obtain ⟨g, gj⟩ := e0_7 e he hx
    rw [t0_at he hi, hv] at g
    rcases g with ⟨g, _⟩ | ⟨g, _⟩
    · exact absurd g (show ¬ (4 = 1) by omega)
    · exact absurd g (show ¬ (4 = 2) by omega)
  · intro o i l j hv _ _ _ e he hx hi
    obtain ⟨g, gj⟩ := e0_7 e he hx
    rw [t0_at he hi, hv] at g
    rcases g with ⟨g, _⟩ | ⟨g, _⟩
    · exact absurd g (show ¬ (4 = 1) by omega)
    · exact absurd g (show ¬ (4 = 2) by omega)
  · intro o i l j hv _ _ e he hx hi
    obtain ⟨g, _⟩ := e0_3 e he hx
    rw [t0_at he hi] at g
    exact absurd hv g
  · intro o i l j hv h2 h3 e he hx hi
    obtain ⟨_, e1, he1, a1, a2, g⟩ := e0_3 e he hx
    obtain ⟨q1, q2⟩ := h2 e1 he1 a1 (by omega)
    rw [t0_j he1 q2] at g
    rcases g with ⟨_, g1, g2⟩ | ⟨g, _⟩
    · exact ⟨by rw [q1, g1], by omega⟩
    · rw [h3] at g; cases g
  · intro o i l j c l2 k hv h2 h3 h4 e he hx hi
    obtain ⟨_, e1, he1, a1, a2, g⟩ := e0_3 e he hx
    obtain ⟨q1, q2⟩ := h2 e1 he1 a1 (by omega)
    rw [t0_j he1 q2] at g
    rcases g with ⟨g, _⟩ | ⟨g, e2, he2, b1, b2, g1, g2⟩
    · rw [h3] at g; cases g
    · rw [h3] at g
      cases g
      obtain ⟨r1, r2⟩ := h4 e2 he2 b1 (by omega)
      exact ⟨by rw [q1, r1, g1], by omega⟩
  · intro x o i l j l2 k hl h2 h3 e he hx hi
    subst hx
    obtain ⟨e1, he1, a1, a2, e2, he2, b1, b2, g1, g2⟩ := e0_l e he hl
    obtain ⟨q1, q2⟩ := h2 e1 he1 a1 (by omega)
    obtain ⟨r1, r2⟩ := h3 e2 he2 b1 (by omega)
    exact ⟨by rw [q1, r1, g1], by omega⟩
  · intro x o i hl h2 e he hx hi
    obtain ⟨y1, y2⟩ := lvl_10 hl hx
    have g := e0_t e he y1
    rw [y2, t0_at he hi] at g
    rcases g with ⟨_, g1, g2⟩ | ⟨g, _⟩
    · exact ⟨g1.symm, by omega⟩
    · rw [h2] at g; cases g
  · intro x o i c l j l2 k hl h2 h3 h4 e he hx hi
    obtain ⟨y1, y2⟩ := lvl_10 hl hx
    have g := e0_t e he y1
    rw [y2, t0_at he hi] at g
    rcases g with ⟨g, _⟩ | ⟨g, e1, he1, a1, a2, e2, he2, b1, b2, g1, g2⟩
    · rw [h2] at g; cases g
    · rw [h2] at g
      cases g
      obtain ⟨q1, q2⟩ := h3 e1 he1 a1 (by omega)
      obtain ⟨r1, r2⟩ := h4 e2 he2 (by omega) (by omega)
      exact ⟨by rw [q1, r1, g1], by omega⟩
/-- nothing of it is a fault -/
theorem n0_R {x o i j : Nat} (h : rdF (tkS tp0 46) x o i j) : ∀ e ∈ E0, e.1 = x → e.2.1 = i → False := by
  refine h (fun x o i j => ∀ e ∈ E0, e.1 = x → e.2.1 = i → False) ⟨?_, ?_, ?_, ?_, ?_, ?_, ?_, ?_, ?_, ?_, ?_, ?_, ?_⟩
  · intro o i n1 n2 n3 n4 e he hx hi
    obtain ⟨g, _⟩ := e0_7 e he hx
    rw [t0_at he hi] at g
    rcases g with ⟨g, _⟩ | ⟨g, _⟩
    · exact n1 g
    · exact n2 g
  · intro o i hv _ e he hx hi
    obtain ⟨g, _⟩ := e0_7 e he hx
    rw [t0_at he hi] at g
    rcases hv with hv | hv <;> rw [hv] at g <;> rcases g with ⟨g, _⟩ | ⟨g, _⟩
    · exact absurd g (show ¬ (4 = 1) by omega)
    · exact absurd g (show ¬ (4 = 2) by omega)
    · exact absurd g (show ¬ (4 = 1) by omega)
    · exact absurd g (show ¬ (4 = 2) by omega)
  · intro o i j hv _ _ e he hx hi
    obtain ⟨g, _⟩ := e0_7 e he hx
    rw [t0_at he hi, hv] at g
    rcases g with ⟨g, _⟩ | ⟨g, _⟩
    · exact absurd g (show ¬ (4 = 1) by omega)
    · exact absurd g (show ¬ (4 = 2) by omega)
  · intro o i j hv _ _ e he hx hi
    obtain ⟨g, _⟩ := e0_7 e he hx
    rw [t0_at he hi, hv] at g
    rcases g with ⟨g, _⟩ | ⟨g, _⟩
    · exact absurd g (show ¬ (4 = 1) by omega)
    · exact absurd g (show ¬ (4 = 2) by omega)
  · intro o i l j hv _ _ _ e he hx hi
    obtain ⟨g, _⟩ := e0_7 e he hx
    rw [t0_at he hi, hv] at g
    rcases g with ⟨g, _⟩ | ⟨g, _⟩
    · exact absurd g (show ¬ (4 = 1) by omega)
    · exact absurd g (show ¬ (4 = 2) by omega)
  · intro o i hv _ e he hx hi
    obtain ⟨g, _⟩ := e0_3 e he hx
    rw [t0_at he hi] at g
    exact g hv
  · intro o i j hv _ _ e he hx hi
    obtain ⟨g, _⟩ := e0_3 e he hx
    rw [t0_at he hi] at g
    exact g hv
  · intro o i j hv h2 e he hx hi
    obtain ⟨_, e1, he1, a1, a2, _⟩ := e0_3 e he hx
    exact h2 e1 he1 a1 (by omega)
  · intro o i l j c k hv h2 h3 h4 e he hx hi
    obtain ⟨_, e1, he1, a1, a2, g⟩ := e0_3 e he hx
    obtain ⟨q1, q2⟩ := d0_R h2 e1 he1 a1 (by omega)
    rw [t0_j he1 q2] at g
    rcases g with ⟨g, _⟩ | ⟨g, e2, he2, b1, b2, g1, g2⟩
    · rw [h3] at g; cases g
    · exact h4 e2 he2 b1 (by omega)
  · intro x o i j hl h2 e he hx hi
    subst hx
    obtain ⟨e1, he1, a1, a2, _⟩ := e0_l e he hl
    exact h2 e1 he1 a1 (by omega)
  · intro x o i l j k hl h2 h3 e he hx hi
    subst hx
    obtain ⟨e1, he1, a1, a2, e2, he2, b1, b2, g1, g2⟩ := e0_l e he hl
    obtain ⟨q1, q2⟩ := d0_R h2 e1 he1 a1 (by omega)
    exact h3 e2 he2 b1 (by omega)
  · intro x o i c j hl h2 h3 e he hx hi
    obtain ⟨y1, y2⟩ := lvl_10 hl hx
    have g := e0_t e he y1
    rw [y2, t0_at he hi] at g
    rcases g with ⟨g, _⟩ | ⟨g, e1, he1, a1, a2, _⟩
    · rw [h2] at g; cases g
    · exact h3 e1 he1 a1 (by omega)
  · intro x o i c l j k hl h2 h3 h4 e he hx hi
    obtain ⟨y1, y2⟩ := lvl_10 hl hx
    have g := e0_t e he y1
    rw [y2, t0_at he hi] at g
    rcases g with ⟨g, _⟩ | ⟨g, e1, he1, a1, a2, e2, he2, b1, b2, g1, g2⟩
    · rw [h2] at g; cases g
    · obtain ⟨q1, q2⟩ := d0_R h3 e1 he1 a1 (by omega)
      exact h4 e2 he2 (by omega) (by omega)
theorem pt0_0 {l : List Int32} {j : Nat} (h : ptO (tkS tp0 46) 0 0 l j) : l = [-1, -2, -13] ∧ j = 4 := d0_R h.2.1 (1, 1, [-1, -2, -13], 4) (by decide) rfl rfl
theorem pt0_1 {l : List Int32} {j : Nat} (h : ptO (tkS tp0 46) 1 5 l j) : l = [1, -5, -16] ∧ j = 9 := d0_R h.2.1 (1, 6, [1, -5, -16], 9) (by decide) rfl rfl
theorem pt0_2 {l : List Int32} {j : Nat} (h : ptO (tkS tp0 46) 2 10 l j) : l = [-1] ∧ j = 12 := d0_R h.2.1 (1, 11, [-1], 12) (by decide) rfl rfl
theorem tx0_O {l0 l1 l2 : List Int32} (h : txO (tkS tp0 46) l0 l1 l2) : l0 = [-1, -2, -13] ∧ l1 = [1, -5, -16] ∧ l2 = [-1] := by
  obtain ⟨j0, j1, j2, d0, d1, d2, _⟩ := h
  obtain ⟨e0, rfl⟩ := pt0_0 d0
  obtain ⟨e1, rfl⟩ := pt0_1 d1
  exact ⟨e0, e1, (pt0_2 d2).1⟩
theorem ptF_no {k i j : Nat} {l : List Int32} {m : Nat} (hk : tkS tp0 46 i = (3, k)) (he : (1, i + 1, l, m) ∈ E0) (hm : tkS tp0 46 m = (4, 59)) : ¬ ptF (tkS tp0 46) k i j := by
  rintro (⟨h, _⟩ | ⟨_, h⟩ | ⟨_, l', h, h2⟩)
  · exact h hk
  · exact n0_R h _ he rfl rfl
  · have := (d0_R h _ he rfl rfl).2
    rw [this] at h2
    exact h2 hm
theorem tx0_F {j : Nat} : ¬ txF (tkS tp0 46) j := by
  rintro (h | ⟨l0, j0, d0, h⟩ | ⟨l0, j0, l1, j1, d0, d1, h⟩ | ⟨l0, j0, l1, j1, l2, j2, d0, d1, d2, h, _⟩)
  · exact ptF_no (l := [-1, -2, -13]) (m := 4) (tk0_at 0 (by decide)) (by decide) (tk0_at 4 (by decide)) h
  · obtain ⟨e0, rfl⟩ := pt0_0 d0
    exact ptF_no (l := [1, -5, -16]) (m := 9) (tk0_at 5 (by decide)) (by decide) (tk0_at 9 (by decide)) h
  · obtain ⟨e0, rfl⟩ := pt0_0 d0
    obtain ⟨e1, rfl⟩ := pt0_1 d1
    exact ptF_no (l := [-1]) (m := 12) (tk0_at 10 (by decide)) (by decide) (tk0_at 12 (by decide)) h
  · obtain ⟨e0, rfl⟩ := pt0_0 d0
    obtain ⟨e1, rfl⟩ := pt0_1 d1
    obtain ⟨e2, rfl⟩ := pt0_2 d2
    exact h (congrArg Prod.fst (tk0_at 13 (by decide)))
