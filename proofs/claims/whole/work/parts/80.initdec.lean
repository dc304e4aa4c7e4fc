theorem tw_1007 : Cond.methodLink "GreaterPlates$Reader" 3 ⟨"java/lang/Object", "<init>", "()V"⟩ ∈ TB := TB_of 113 (by decide +kernel) (by decide +kernel)
theorem tw_1008 : Cond.methodLink "GreaterPlates$Sheet" 3 ⟨"java/lang/Object", "<init>", "()V"⟩ ∈ TB := TB_of 201 (by decide +kernel) (by decide +kernel)
theorem fw_X5_15_5i : fW RX5 "<init>" 15 5 7 false := ⟨fl_X5_15_5, fun C T N h => by cases h; exact Or.inr ⟨rfl, rfl, rfl⟩⟩
theorem fw_X5_9_5i : fW RX5 "<init>" 9 5 0 false := ⟨fl_X5_9_5, fun C T N h => by cases h; exact Or.inr ⟨rfl, rfl, rfl⟩⟩
theorem fw_X7_15_7i : fW RX7 "<init>" 15 7 1 true := ⟨fl_X7_15_7, fun C T N h => by cases h; exact Or.inl rfl⟩
theorem fw_X7_9_7i : fW RX7 "<init>" 9 7 0 false := ⟨fl_X7_9_7, fun C T N h => by cases h; exact Or.inr ⟨rfl, rfl, rfl⟩⟩
theorem dX5_init_0 : decode cX5_init 0 = .ok (.aload_n 0, 1) := by decide +kernel
theorem dX5_init_1 : decode cX5_init 1 = .ok (.invokespecial 3, 3) := by decide +kernel
theorem dX5_init_4 : decode cX5_init 4 = .ok (.aload_n 0, 1) := by decide +kernel
theorem dX5_init_5 : decode cX5_init 5 = .ok (.sipush 160, 3) := by decide +kernel
theorem dX5_init_8 : decode cX5_init 8 = .ok (.newarray .int, 2) := by decide +kernel
theorem dX5_init_10 : decode cX5_init 10 = .ok (.putfield 9, 3) := by decide +kernel
theorem dX5_init_13 : decode cX5_init 13 = .ok (.aload_n 0, 1) := by decide +kernel
theorem dX5_init_14 : decode cX5_init 14 = .ok (.sipush 160, 3) := by decide +kernel
theorem dX5_init_17 : decode cX5_init 17 = .ok (.newarray .int, 2) := by decide +kernel
theorem dX5_init_19 : decode cX5_init 19 = .ok (.putfield 15, 3) := by decide +kernel
theorem dX5_init_22 : decode cX5_init 22 = .ok (.return_, 1) := by decide +kernel
theorem dX7_init_0 : decode cX7_init 0 = .ok (.aload_n 0, 1) := by decide +kernel
theorem dX7_init_1 : decode cX7_init 1 = .ok (.invokespecial 3, 3) := by decide +kernel
theorem dX7_init_4 : decode cX7_init 4 = .ok (.aload_n 0, 1) := by decide +kernel
theorem dX7_init_5 : decode cX7_init 5 = .ok (.bipush 40, 2) := by decide +kernel
theorem dX7_init_7 : decode cX7_init 7 = .ok (.newarray .int, 2) := by decide +kernel
theorem dX7_init_9 : decode cX7_init 9 = .ok (.putfield 9, 3) := by decide +kernel
theorem dX7_init_12 : decode cX7_init 12 = .ok (.aload_n 0, 1) := by decide +kernel
theorem dX7_init_13 : decode cX7_init 13 = .ok (.iconst (-1), 1) := by decide +kernel
theorem dX7_init_14 : decode cX7_init 14 = .ok (.putfield 15, 3) := by decide +kernel
theorem dX7_init_17 : decode cX7_init 17 = .ok (.return_, 1) := by decide +kernel
