theorem fok_0 : fOK RX0 TX0 2 (tyX 0) := ⟨by decide +kernel, tyX0_ok, nmX0⟩
theorem fl_X4_13_0 : fLs RX4 13 0 1 true := ⟨RX0, TX0, 2, "GreaterPlates$Near", rfl, fok_0, by decide, rfl, by decide, tw_2, fun A s hts x hx => sf_same (hts _ tw_3) hx⟩
theorem fok_2 : fOK RX2 TX2 2 (tyX 2) := ⟨by decide +kernel, tyX2_ok, nmX2⟩
theorem fl_X4_13_2 : fLs RX4 13 2 1 true := ⟨RX2, TX2, 2, "GreaterPlates$Near", rfl, fok_2, by decide, rfl, by decide, tw_2, fun A s hts x hx => sf_same (hts _ tw_3) hx⟩
theorem fok_3 : fOK RX3 TX3 2 (tyX 3) := ⟨by decide +kernel, tyX3_ok, nmX3⟩
theorem fl_X4_13_3 : fLs RX4 13 3 1 true := ⟨RX3, TX3, 2, "GreaterPlates$Near", rfl, fok_3, by decide, rfl, by decide, tw_2, fun A s hts x hx => sf_same (hts _ tw_3) hx⟩
theorem fok_4 : fOK RX4 TX4 2 (tyX 4) := ⟨by decide +kernel, tyX4_ok, nmX4⟩
theorem fl_X4_13_4 : fLs RX4 13 4 1 true := ⟨RX4, TX4, 2, "GreaterPlates$Near", rfl, fok_4, by decide, rfl, by decide, tw_2, fun A s hts x hx => sf_same (hts _ tw_3) hx⟩
theorem fok_8 : fOK RX8 TX8 2 (tyX 8) := ⟨by decide +kernel, tyX8_ok, nmX8⟩
theorem fl_X4_13_8 : fLs RX4 13 8 1 true := ⟨RX8, TX8, 2, "GreaterPlates$Near", rfl, fok_8, by decide, rfl, by decide, tw_2, fun A s hts x hx => sf_same (hts _ tw_3) hx⟩
theorem fok_10 : fOK RX10 TX10 2 (tyX 10) := ⟨by decide +kernel, tyX10_ok, nmX10⟩
theorem fl_X4_13_10 : fLs RX4 13 10 1 true := ⟨RX10, TX10, 2, "GreaterPlates$Near", rfl, fok_10, by decide, rfl, by decide, tw_2, fun A s hts x hx => sf_same (hts _ tw_3) hx⟩
theorem fly_X4_13 {ci : Nat} (h : lyK ci) : fLs RX4 13 ci 1 true := by
  rcases h with rfl | rfl | rfl | rfl | rfl | rfl
  · exact fl_X4_13_0
  · exact fl_X4_13_2
  · exact fl_X4_13_3
  · exact fl_X4_13_4
  · exact fl_X4_13_8
  · exact fl_X4_13_10
theorem yw_X4_rank : yW yX4_rank cX4_rank 5 (some .int) 4 := ⟨tw_7, tw_8, by decide, by decide, by decide, by decide +kernel⟩
theorem yp_X2_X4_rank : yP RX2 yX4_rank := ⟨tw_9, tw_10, tw_11, by decide⟩
theorem ao_0_16 : aOK 0 16 := ⟨_, "GreaterPlates$Layer", rfl, fun _ => rfl, Or.inr (by decide)⟩
theorem ao_2_16 : aOK 2 16 := ⟨_, "GreaterPlates$Layer", rfl, fun _ => rfl, Or.inr (by decide)⟩
theorem ao_3_16 : aOK 3 16 := ⟨_, "GreaterPlates$Layer", rfl, fun _ => rfl, Or.inl rfl⟩
theorem ao_4_16 : aOK 4 16 := ⟨_, "GreaterPlates$Layer", rfl, fun _ => rfl, Or.inr (by decide)⟩
theorem ao_8_16 : aOK 8 16 := ⟨_, "GreaterPlates$Layer", rfl, fun _ => rfl, Or.inr (by decide)⟩
theorem ao_10_16 : aOK 10 16 := ⟨_, "GreaterPlates$Layer", rfl, fun _ => rfl, Or.inr (by decide)⟩
theorem aly {ci : Nat} (h : lyK ci) : aOK ci 16 ∧ ci < 13 := by
  rcases h with rfl | rfl | rfl | rfl | rfl | rfl
  · exact ⟨ao_0_16, by decide⟩
  · exact ⟨ao_2_16, by decide⟩
  · exact ⟨ao_3_16, by decide⟩
  · exact ⟨ao_4_16, by decide⟩
  · exact ⟨ao_8_16, by decide⟩
  · exact ⟨ao_10_16, by decide⟩
theorem yp_X8_X4_rank : yP RX8 yX4_rank := ⟨tw_9, tw_13, tw_11, by decide⟩
theorem yw_X4_likes : yW yX4_likes cX4_likes 3 (some .boolean) 2 := ⟨tw_15, tw_8, by decide, by decide, by decide, by decide +kernel⟩
theorem yp_X8_X4_likes : yP RX8 yX4_likes := ⟨tw_16, tw_13, tw_17, by decide⟩
theorem fl_X10_11_0 : fLs RX10 11 0 1 true := ⟨RX0, TX0, 2, "GreaterPlates$Told", rfl, fok_0, by decide, rfl, by decide, tw_19, fun A s hts x hx => sf_same (hts _ tw_20) hx⟩
theorem fl_X10_11_2 : fLs RX10 11 2 1 true := ⟨RX2, TX2, 2, "GreaterPlates$Told", rfl, fok_2, by decide, rfl, by decide, tw_19, fun A s hts x hx => sf_same (hts _ tw_20) hx⟩
theorem fl_X10_11_3 : fLs RX10 11 3 1 true := ⟨RX3, TX3, 2, "GreaterPlates$Told", rfl, fok_3, by decide, rfl, by decide, tw_19, fun A s hts x hx => sf_same (hts _ tw_20) hx⟩
theorem fl_X10_11_4 : fLs RX10 11 4 1 true := ⟨RX4, TX4, 2, "GreaterPlates$Told", rfl, fok_4, by decide, rfl, by decide, tw_19, fun A s hts x hx => sf_same (hts _ tw_20) hx⟩
theorem fl_X10_11_8 : fLs RX10 11 8 1 true := ⟨RX8, TX8, 2, "GreaterPlates$Told", rfl, fok_8, by decide, rfl, by decide, tw_19, fun A s hts x hx => sf_same (hts _ tw_20) hx⟩
theorem fl_X10_11_10 : fLs RX10 11 10 1 true := ⟨RX10, TX10, 2, "GreaterPlates$Told", rfl, fok_10, by decide, rfl, by decide, tw_19, fun A s hts x hx => sf_same (hts _ tw_20) hx⟩
theorem fly_X10_11 {ci : Nat} (h : lyK ci) : fLs RX10 11 ci 1 true := by
  rcases h with rfl | rfl | rfl | rfl | rfl | rfl
  · exact fl_X10_11_0
  · exact fl_X10_11_2
  · exact fl_X10_11_3
  · exact fl_X10_11_4
  · exact fl_X10_11_8
  · exact fl_X10_11_10
theorem yw_X0_rank : yW yX0_rank cX0_rank 5 (some .int) 4 := ⟨tw_21, tw_22, by decide, by decide, by decide, by decide +kernel⟩
theorem yp_X10_X0_rank : yP RX10 yX0_rank := ⟨tw_23, tw_24, tw_25, by decide⟩
theorem tg_G_0 : ((0, 11, 0) : Nat × Nat × Nat) ∈ tsG := by decide
theorem tg_G_1 : ((1, 14, 8) : Nat × Nat × Nat) ∈ tsG := by decide
theorem tg_G_2 : ((2, 14, 8) : Nat × Nat × Nat) ∈ tsG := by decide
theorem fok_11 : fOK RX11 TX11 19 (tyX 11) := ⟨by decide +kernel, tyX11_ok, nmX11⟩
theorem fl_X11_101_11 : fL RX11 101 11 2 true := ⟨RX11, TX11, 19, rfl, fok_11, by decide, rfl, by decide, tw_27⟩
theorem fw_X11_101_11 (nm : String) : fW RX11 nm 101 11 2 true := ⟨fl_X11_101_11, fun C T N h => by cases h; exact Or.inl rfl⟩
theorem fl_X11_13_11 : fL RX11 13 11 1 false := ⟨RX11, TX11, 19, rfl, fok_11, by decide, rfl, by decide, tw_28⟩
theorem pt_G_0_1 : ((0, 1, 2) : Nat × Nat × Nat) ∈ psG := by decide
theorem fl_X11_9_11 : fL RX11 9 11 0 false := ⟨RX11, TX11, 19, rfl, fok_11, by decide, rfl, by decide, tw_29⟩
theorem pt_G_0_0 : ((0, 0, 1) : Nat × Nat × Nat) ∈ psG := by decide
theorem yw_X11_isMeasure : yW yX11_isMeasure cX11_isMeasure 1 (some .boolean) 1 := ⟨tw_30, tw_31, by decide, by decide, by decide, by decide +kernel⟩
theorem ys_X11_isMeasure : yS yX11_isMeasure := tw_32
theorem fl_X3_13_0 : fL RX3 13 0 1 true := ⟨RX0, TX0, 2, rfl, fok_0, by decide, rfl, by decide, tw_37⟩
theorem fw_X3_13_0i : fW RX3 "<init>" 13 0 1 true := ⟨fl_X3_13_0, fun C T N h => by cases h; exact Or.inr ⟨rfl, rfl, rfl⟩⟩
theorem fl_X3_13_2 : fL RX3 13 2 1 true := ⟨RX2, TX2, 2, rfl, fok_2, by decide, rfl, by decide, tw_37⟩
theorem fw_X3_13_2i : fW RX3 "<init>" 13 2 1 true := ⟨fl_X3_13_2, fun C T N h => by cases h; exact Or.inr ⟨rfl, rfl, rfl⟩⟩
theorem fl_X3_13_3 : fL RX3 13 3 1 true := ⟨RX3, TX3, 2, rfl, fok_3, by decide, rfl, by decide, tw_37⟩
theorem fw_X3_13_3i : fW RX3 "<init>" 13 3 1 true := ⟨fl_X3_13_3, fun C T N h => by cases h; exact Or.inr ⟨rfl, rfl, rfl⟩⟩
theorem fl_X3_13_4 : fL RX3 13 4 1 true := ⟨RX4, TX4, 2, rfl, fok_4, by decide, rfl, by decide, tw_37⟩
theorem fw_X3_13_4i : fW RX3 "<init>" 13 4 1 true := ⟨fl_X3_13_4, fun C T N h => by cases h; exact Or.inr ⟨rfl, rfl, rfl⟩⟩
theorem fl_X3_13_8 : fL RX3 13 8 1 true := ⟨RX8, TX8, 2, rfl, fok_8, by decide, rfl, by decide, tw_37⟩
theorem fw_X3_13_8i : fW RX3 "<init>" 13 8 1 true := ⟨fl_X3_13_8, fun C T N h => by cases h; exact Or.inr ⟨rfl, rfl, rfl⟩⟩
theorem fl_X3_13_10 : fL RX3 13 10 1 true := ⟨RX10, TX10, 2, rfl, fok_10, by decide, rfl, by decide, tw_37⟩
theorem fw_X3_13_10i : fW RX3 "<init>" 13 10 1 true := ⟨fl_X3_13_10, fun C T N h => by cases h; exact Or.inr ⟨rfl, rfl, rfl⟩⟩
theorem fwly_X3_13 {ci : Nat} (h : lyK ci) : fW RX3 "<init>" 13 ci 1 true ∧ narrow (tyX ci 1) = narrow .int ∧ fits (tyX ci 1) = fits .int := by
  rcases h with rfl | rfl | rfl | rfl | rfl | rfl
  · exact ⟨fw_X3_13_0i, rfl, rfl⟩
  · exact ⟨fw_X3_13_2i, rfl, rfl⟩
  · exact ⟨fw_X3_13_3i, rfl, rfl⟩
  · exact ⟨fw_X3_13_4i, rfl, rfl⟩
  · exact ⟨fw_X3_13_8i, rfl, rfl⟩
  · exact ⟨fw_X3_13_10i, rfl, rfl⟩
theorem fl_X3_7_0 : fL RX3 7 0 0 true := ⟨RX0, TX0, 2, rfl, fok_0, by decide, rfl, by decide, tw_38⟩
theorem fw_X3_7_0i : fW RX3 "<init>" 7 0 0 true := ⟨fl_X3_7_0, fun C T N h => by cases h; exact Or.inr ⟨rfl, rfl, rfl⟩⟩
theorem fl_X3_7_2 : fL RX3 7 2 0 true := ⟨RX2, TX2, 2, rfl, fok_2, by decide, rfl, by decide, tw_38⟩
theorem fw_X3_7_2i : fW RX3 "<init>" 7 2 0 true := ⟨fl_X3_7_2, fun C T N h => by cases h; exact Or.inr ⟨rfl, rfl, rfl⟩⟩
theorem fl_X3_7_3 : fL RX3 7 3 0 true := ⟨RX3, TX3, 2, rfl, fok_3, by decide, rfl, by decide, tw_38⟩
theorem fw_X3_7_3i : fW RX3 "<init>" 7 3 0 true := ⟨fl_X3_7_3, fun C T N h => by cases h; exact Or.inr ⟨rfl, rfl, rfl⟩⟩
theorem fl_X3_7_4 : fL RX3 7 4 0 true := ⟨RX4, TX4, 2, rfl, fok_4, by decide, rfl, by decide, tw_38⟩
theorem fw_X3_7_4i : fW RX3 "<init>" 7 4 0 true := ⟨fl_X3_7_4, fun C T N h => by cases h; exact Or.inr ⟨rfl, rfl, rfl⟩⟩
theorem fl_X3_7_8 : fL RX3 7 8 0 true := ⟨RX8, TX8, 2, rfl, fok_8, by decide, rfl, by decide, tw_38⟩
theorem fw_X3_7_8i : fW RX3 "<init>" 7 8 0 true := ⟨fl_X3_7_8, fun C T N h => by cases h; exact Or.inr ⟨rfl, rfl, rfl⟩⟩
theorem fl_X3_7_10 : fL RX3 7 10 0 true := ⟨RX10, TX10, 2, rfl, fok_10, by decide, rfl, by decide, tw_38⟩
theorem fw_X3_7_10i : fW RX3 "<init>" 7 10 0 true := ⟨fl_X3_7_10, fun C T N h => by cases h; exact Or.inr ⟨rfl, rfl, rfl⟩⟩
theorem fwly_X3_7 {ci : Nat} (h : lyK ci) : fW RX3 "<init>" 7 ci 0 true ∧ narrow (tyX ci 0) = narrow .int ∧ fits (tyX ci 0) = fits .int := by
  rcases h with rfl | rfl | rfl | rfl | rfl | rfl
  · exact ⟨fw_X3_7_0i, rfl, rfl⟩
  · exact ⟨fw_X3_7_2i, rfl, rfl⟩
  · exact ⟨fw_X3_7_3i, rfl, rfl⟩
  · exact ⟨fw_X3_7_4i, rfl, rfl⟩
  · exact ⟨fw_X3_7_8i, rfl, rfl⟩
  · exact ⟨fw_X3_7_10i, rfl, rfl⟩
theorem yw_X3_init : yW yX3_init cX3_init 3 none 2 := ⟨tw_41, tw_42, by decide, by decide, by decide, by decide +kernel⟩
theorem yi_X3_init : yI yX3_init := ⟨tw_43, rfl⟩
theorem yw_X4_init : yW yX4_init cX4_init 3 none 2 := ⟨tw_44, tw_8, by decide, by decide, by decide, by decide +kernel⟩
theorem yi_X4_init : yI yX4_init := ⟨tw_45, rfl⟩
theorem no_X11_138 : nOK RX11 138 4 := ⟨RX4, TX4, 2, rfl, fok_4, by decide, rfl, by decide, tw_46, tw_47, tw_8⟩
theorem yw_X0_init : yW yX0_init cX0_init 3 none 2 := ⟨tw_50, tw_22, by decide, by decide, by decide, by decide +kernel⟩
theorem yi_X0_init : yI yX0_init := ⟨tw_51, rfl⟩
theorem no_X11_143 : nOK RX11 143 0 := ⟨RX0, TX0, 2, rfl, fok_0, by decide, rfl, by decide, tw_52, tw_53, tw_22⟩
theorem yw_X2_init : yW yX2_init cX2_init 3 none 2 := ⟨tw_56, tw_57, by decide, by decide, by decide, by decide +kernel⟩
theorem yi_X2_init : yI yX2_init := ⟨tw_58, rfl⟩
theorem no_X11_146 : nOK RX11 146 2 := ⟨RX2, TX2, 2, rfl, fok_2, by decide, rfl, by decide, tw_59, tw_60, tw_57⟩
theorem yw_X10_init : yW yX10_init cX10_init 3 none 2 := ⟨tw_63, tw_64, by decide, by decide, by decide, by decide +kernel⟩
theorem yi_X10_init : yI yX10_init := ⟨tw_65, rfl⟩
theorem no_X11_149 : nOK RX11 149 10 := ⟨RX10, TX10, 2, rfl, fok_10, by decide, rfl, by decide, tw_66, tw_67, tw_64⟩
theorem yw_X8_init : yW yX8_init cX8_init 3 none 2 := ⟨tw_70, tw_71, by decide, by decide, by decide, by decide +kernel⟩
theorem yi_X8_init : yI yX8_init := ⟨tw_72, rfl⟩
theorem no_X11_152 : nOK RX11 152 8 := ⟨RX8, TX8, 2, rfl, fok_8, by decide, rfl, by decide, tw_73, tw_74, tw_71⟩
theorem no_X11_16 : nOK RX11 16 3 := ⟨RX3, TX3, 2, rfl, fok_3, by decide, rfl, by decide, tw_76, tw_77, tw_42⟩
theorem fl_X11_104_11 : fL RX11 104 11 4 true := ⟨RX11, TX11, 19, rfl, fok_11, by decide, rfl, by decide, tw_78⟩
theorem fw_X11_104_11 (nm : String) : fW RX11 nm 104 11 4 true := ⟨fl_X11_104_11, fun C T N h => by cases h; exact Or.inl rfl⟩
theorem tg_G_3 : ((3, 16, 5) : Nat × Nat × Nat) ∈ tsG := by decide
theorem yw_X11_newLayer : yW yX11_newLayer cX11_newLayer 2 (some (.object "GreaterPlates$Layer")) 2 := ⟨tw_79, tw_31, by decide, by decide, by decide, by decide +kernel⟩
theorem ys_X11_newLayer : yS yX11_newLayer := tw_80
theorem fl_X11_18_11 : fL RX11 18 11 3 false := ⟨RX11, TX11, 19, rfl, fok_11, by decide, rfl, by decide, tw_81⟩
theorem pt_G_0_3 : ((0, 3, 3) : Nat × Nat × Nat) ∈ psG := by decide
theorem ycl_11_X11_isPlate : ∀ q : vw_C, vwCl[11]? = some q → q.1 = yX11_isPlate.cls := fun q h => by cases h; rfl
theorem yw_X11_isPlate : yW yX11_isPlate cX11_isPlate 2 (some .boolean) 1 := ⟨tw_83, tw_31, by decide, by decide, by decide, by decide +kernel⟩
theorem yv_X11_isPlate : yV yX11_isPlate := ⟨tw_84, tw_85⟩
theorem tg_G_8 : ((8, 9, 0) : Nat × Nat × Nat) ∈ tsG := by decide
theorem fok_9 : fOK RX9 TX9 4 (tyX 9) := ⟨by decide +kernel, tyX9_ok, nmX9⟩
theorem fl_X11_118_9 : fL RX11 118 9 2 true := ⟨RX9, TX9, 4, rfl, fok_9, by decide, rfl, by decide, tw_87⟩
theorem fw_X11_118_9 (nm : String) : fW RX11 nm 118 9 2 true := ⟨fl_X11_118_9, fun C T N h => by cases h; exact Or.inl rfl⟩
theorem fl_X11_38_11 : fL RX11 38 11 8 false := ⟨RX11, TX11, 19, rfl, fok_11, by decide, rfl, by decide, tw_88⟩
theorem pt_G_0_8 : ((0, 8, 8) : Nat × Nat × Nat) ∈ psG := by decide
theorem ycl_11_X11_setHighest : ∀ q : vw_C, vwCl[11]? = some q → q.1 = yX11_setHighest.cls := fun q h => by cases h; rfl
theorem yw_X11_setHighest : yW yX11_setHighest cX11_setHighest 3 (some .int) 1 := ⟨tw_89, tw_31, by decide, by decide, by decide, by decide +kernel⟩
theorem yv_X11_setHighest : yV yX11_setHighest := ⟨tw_90, tw_91⟩
theorem tg_G_4 : ((4, 17, 6) : Nat × Nat × Nat) ∈ tsG := by decide
theorem fl_X11_159_9 : fL RX11 159 9 3 true := ⟨RX9, TX9, 4, rfl, fok_9, by decide, rfl, by decide, tw_93⟩
theorem fl_X11_24_11 : fL RX11 24 11 5 false := ⟨RX11, TX11, 19, rfl, fok_11, by decide, rfl, by decide, tw_94⟩
theorem pt_G_0_5 : ((0, 5, 4) : Nat × Nat × Nat) ∈ psG := by decide
theorem fl_X11_91_11 : fL RX11 91 11 6 true := ⟨RX11, TX11, 19, rfl, fok_11, by decide, rfl, by decide, tw_95⟩
theorem fok_6 : fOK RX6 TX6 5 (tyX 6) := ⟨by decide +kernel, tyX6_ok, nmX6⟩
theorem fl_X6_9_6 : fL RX6 9 6 3 false := ⟨RX6, TX6, 5, rfl, fok_6, by decide, rfl, by decide, tw_97⟩
theorem fl_X6_25_6 : fL RX6 25 6 2 true := ⟨RX6, TX6, 5, rfl, fok_6, by decide, rfl, by decide, tw_99⟩
theorem fl_X6_21_6 : fL RX6 21 6 1 true := ⟨RX6, TX6, 5, rfl, fok_6, by decide, rfl, by decide, tw_100⟩
theorem fl_X6_18_6 : fL RX6 18 6 0 false := ⟨RX6, TX6, 5, rfl, fok_6, by decide, rfl, by decide, tw_101⟩
theorem fl_X6_15_6 : fL RX6 15 6 4 false := ⟨RX6, TX6, 5, rfl, fok_6, by decide, rfl, by decide, tw_105⟩
theorem yw_X6_joined : yW yX6_joined cX6_joined 3 (some .int) 3 := ⟨tw_107, tw_108, by decide, by decide, by decide, by decide +kernel⟩
theorem ys_X6_joined : yS yX6_joined := tw_109
theorem ycl_6_X6_value : ∀ q : vw_C, vwCl[6]? = some q → q.1 = yX6_value.cls := fun q h => by cases h; rfl
theorem yw_X6_value : yW yX6_value cX6_value 8 (some .int) 1 := ⟨tw_110, tw_108, by decide, by decide, by decide, by decide +kernel⟩
theorem yv_X6_value : yV yX6_value := ⟨tw_111, tw_112⟩
theorem ycl_6_X6_about : ∀ q : vw_C, vwCl[6]? = some q → q.1 = yX6_about.cls := fun q h => by cases h; rfl
theorem yw_X6_about : yW yX6_about cX6_about 7 none 6 := ⟨tw_113, tw_108, by decide, by decide, by decide, by decide +kernel⟩
theorem yv_X6_about : yV yX6_about := ⟨tw_114, tw_115⟩
theorem yw_X11_bounded : yW yX11_bounded cX11_bounded 1 (some .int) 1 := ⟨tw_121, tw_31, by decide, by decide, by decide, by decide +kernel⟩
theorem ys_X11_bounded : yS yX11_bounded := tw_122
theorem ycl_11_X11_worth : ∀ q : vw_C, vwCl[11]? = some q → q.1 = yX11_worth.cls := fun q h => by cases h; rfl
theorem yw_X11_worth : yW yX11_worth cX11_worth 10 (some .int) 5 := ⟨tw_123, tw_31, by decide, by decide, by decide, by decide +kernel⟩
theorem yv_X11_worth : yV yX11_worth := ⟨tw_124, tw_125⟩
theorem fl_X11_128_0 : fL RX11 128 0 1 true := ⟨RX0, TX0, 2, rfl, fok_0, by decide, rfl, by decide, tw_127⟩
theorem fl_X11_128_2 : fL RX11 128 2 1 true := ⟨RX2, TX2, 2, rfl, fok_2, by decide, rfl, by decide, tw_127⟩
theorem fl_X11_128_3 : fL RX11 128 3 1 true := ⟨RX3, TX3, 2, rfl, fok_3, by decide, rfl, by decide, tw_127⟩
theorem fl_X11_128_4 : fL RX11 128 4 1 true := ⟨RX4, TX4, 2, rfl, fok_4, by decide, rfl, by decide, tw_127⟩
theorem fl_X11_128_8 : fL RX11 128 8 1 true := ⟨RX8, TX8, 2, rfl, fok_8, by decide, rfl, by decide, tw_127⟩
theorem fl_X11_128_10 : fL RX11 128 10 1 true := ⟨RX10, TX10, 2, rfl, fok_10, by decide, rfl, by decide, tw_127⟩
theorem fly_X11_128 {ci : Nat} (h : lyK ci) : fLs RX11 128 ci 1 true := by
  rcases h with rfl | rfl | rfl | rfl | rfl | rfl
  · exact fl_X11_128_0.s
  · exact fl_X11_128_2.s
  · exact fl_X11_128_3.s
  · exact fl_X11_128_4.s
  · exact fl_X11_128_8.s
  · exact fl_X11_128_10.s
theorem fl_X11_125_0 : fL RX11 125 0 0 true := ⟨RX0, TX0, 2, rfl, fok_0, by decide, rfl, by decide, tw_128⟩
theorem fl_X11_125_2 : fL RX11 125 2 0 true := ⟨RX2, TX2, 2, rfl, fok_2, by decide, rfl, by decide, tw_128⟩
theorem fl_X11_125_3 : fL RX11 125 3 0 true := ⟨RX3, TX3, 2, rfl, fok_3, by decide, rfl, by decide, tw_128⟩
theorem fl_X11_125_4 : fL RX11 125 4 0 true := ⟨RX4, TX4, 2, rfl, fok_4, by decide, rfl, by decide, tw_128⟩
theorem fl_X11_125_8 : fL RX11 125 8 0 true := ⟨RX8, TX8, 2, rfl, fok_8, by decide, rfl, by decide, tw_128⟩
theorem fl_X11_125_10 : fL RX11 125 10 0 true := ⟨RX10, TX10, 2, rfl, fok_10, by decide, rfl, by decide, tw_128⟩
theorem fly_X11_125 {ci : Nat} (h : lyK ci) : fLs RX11 125 ci 0 true := by
  rcases h with rfl | rfl | rfl | rfl | rfl | rfl
  · exact fl_X11_125_0.s
  · exact fl_X11_125_2.s
  · exact fl_X11_125_3.s
  · exact fl_X11_125_4.s
  · exact fl_X11_125_8.s
  · exact fl_X11_125_10.s
theorem ycl_11_X11_layerAt : ∀ q : vw_C, vwCl[11]? = some q → q.1 = yX11_layerAt.cls := fun q h => by cases h; rfl
theorem yw_X11_layerAt : yW yX11_layerAt cX11_layerAt 2 (some (.object "GreaterPlates$Layer")) 1 := ⟨tw_129, tw_31, by decide, by decide, by decide, by decide +kernel⟩
theorem yv_X11_layerAt : yV yX11_layerAt := ⟨tw_130, tw_131⟩
theorem tg_R_5 : ((5, 5, 0) : Nat × Nat × Nat) ∈ tsR := by decide
theorem tg_R_6 : ((6, 14, 160) : Nat × Nat × Nat) ∈ tsR := by decide
theorem fok_5 : fOK RX5 TX5 9 (tyX 5) := ⟨by decide +kernel, tyX5_ok, nmX5⟩
theorem fl_X5_18_5 : fL RX5 18 5 1 true := ⟨RX5, TX5, 9, rfl, fok_5, by decide, rfl, by decide, tw_133⟩
theorem fw_X5_18_5 (nm : String) : fW RX5 nm 18 5 1 true := ⟨fl_X5_18_5, fun C T N h => by cases h; exact Or.inl rfl⟩
theorem fl_X5_9_5 : fL RX5 9 5 0 false := ⟨RX5, TX5, 9, rfl, fok_5, by decide, rfl, by decide, tw_134⟩
theorem pt_R_5_0 : ((5, 0, 6) : Nat × Nat × Nat) ∈ psR := by decide
theorem tg_G_5 : ((5, 5, 0) : Nat × Nat × Nat) ∈ tsG := by decide
theorem fl_X11_95_5 : fL RX11 95 5 1 true := ⟨RX5, TX5, 9, rfl, fok_5, by decide, rfl, by decide, tw_135⟩
theorem fl_X11_31_11 : fL RX11 31 11 7 false := ⟨RX11, TX11, 19, rfl, fok_11, by decide, rfl, by decide, tw_136⟩
theorem pt_G_0_7 : ((0, 7, 5) : Nat × Nat × Nat) ∈ psG := by decide
theorem ycl_5_X5_append : ∀ q : vw_C, vwCl[5]? = some q → q.1 = yX5_append.cls := fun q h => by cases h; rfl
theorem yw_X5_append : yW yX5_append cX5_append 2 (some .boolean) 1 := ⟨tw_137, tw_138, by decide, by decide, by decide, by decide +kernel⟩
theorem yv_X5_append : yV yX5_append := ⟨tw_139, tw_140⟩
theorem fl_X5_22_5 : fL RX5 22 5 2 true := ⟨RX5, TX5, 9, rfl, fok_5, by decide, rfl, by decide, tw_143⟩
theorem fl_X5_25_5 : fL RX5 25 5 5 true := ⟨RX5, TX5, 9, rfl, fok_5, by decide, rfl, by decide, tw_144⟩
theorem fl_X5_58_5 : fL RX5 58 5 3 true := ⟨RX5, TX5, 9, rfl, fok_5, by decide, rfl, by decide, tw_148⟩
theorem fw_X5_58_5 (nm : String) : fW RX5 nm 58 5 3 true := ⟨fl_X5_58_5, fun C T N h => by cases h; exact Or.inl rfl⟩
theorem fl_X5_86_5 : fL RX5 86 5 4 true := ⟨RX5, TX5, 9, rfl, fok_5, by decide, rfl, by decide, tw_149⟩
theorem yw_X5_isSign : yW yX5_isSign cX5_isSign 1 (some .boolean) 1 := ⟨tw_150, tw_138, by decide, by decide, by decide, by decide +kernel⟩
theorem ys_X5_isSign : yS yX5_isSign := tw_151
theorem fw_X5_25_5 (nm : String) : fW RX5 nm 25 5 5 true := ⟨fl_X5_25_5, fun C T N h => by cases h; exact Or.inl rfl⟩
theorem fl_X5_80_5 : fL RX5 80 5 6 true := ⟨RX5, TX5, 9, rfl, fok_5, by decide, rfl, by decide, tw_153⟩
theorem fw_X5_80_5 (nm : String) : fW RX5 nm 80 5 6 true := ⟨fl_X5_80_5, fun C T N h => by cases h; exact Or.inl rfl⟩
theorem yw_X5_isDigit : yW yX5_isDigit cX5_isDigit 1 (some .boolean) 1 := ⟨tw_154, tw_138, by decide, by decide, by decide, by decide +kernel⟩
theorem ys_X5_isDigit : yS yX5_isDigit := tw_155
theorem ycl_5_X5_scanNumber : ∀ q : vw_C, vwCl[5]? = some q → q.1 = yX5_scanNumber.cls := fun q h => by cases h; rfl
theorem yw_X5_scanNumber : yW yX5_scanNumber cX5_scanNumber 1 none 0 := ⟨tw_156, tw_138, by decide, by decide, by decide, by decide +kernel⟩
theorem yv_X5_scanNumber : yV yX5_scanNumber := ⟨tw_157, tw_158⟩
theorem yw_X5_isLetter : yW yX5_isLetter cX5_isLetter 1 (some .boolean) 1 := ⟨tw_160, tw_138, by decide, by decide, by decide, by decide +kernel⟩
theorem ys_X5_isLetter : yS yX5_isLetter := tw_161
theorem ycl_5_X5_spells : ∀ q : vw_C, vwCl[5]? = some q → q.1 = yX5_spells.cls := fun q h => by cases h; rfl
theorem yw_X5_spells : yW yX5_spells cX5_spells 3 (some .boolean) 1 := ⟨tw_165, tw_138, by decide, by decide, by decide, by decide +kernel⟩
theorem yv_X5_spells : yV yX5_spells := ⟨tw_166, tw_167⟩
theorem ycl_5_X5_scanWord : ∀ q : vw_C, vwCl[5]? = some q → q.1 = yX5_scanWord.cls := fun q h => by cases h; rfl
theorem yw_X5_scanWord : yW yX5_scanWord cX5_scanWord 1 none 0 := ⟨tw_168, tw_138, by decide, by decide, by decide, by decide +kernel⟩
theorem yv_X5_scanWord : yV yX5_scanWord := ⟨tw_169, tw_170⟩
theorem fw_X5_86_5 (nm : String) : fW RX5 nm 86 5 4 true := ⟨fl_X5_86_5, fun C T N h => by cases h; exact Or.inl rfl⟩
theorem fw_X5_22_5 (nm : String) : fW RX5 nm 22 5 2 true := ⟨fl_X5_22_5, fun C T N h => by cases h; exact Or.inl rfl⟩
theorem ycl_5_X5_fail : ∀ q : vw_C, vwCl[5]? = some q → q.1 = yX5_fail.cls := fun q h => by cases h; rfl
theorem yw_X5_fail : yW yX5_fail cX5_fail 1 none 0 := ⟨tw_174, tw_138, by decide, by decide, by decide, by decide +kernel⟩
theorem yv_X5_fail : yV yX5_fail := ⟨tw_175, tw_176⟩
theorem ycl_5_X5_advance : ∀ q : vw_C, vwCl[5]? = some q → q.1 = yX5_advance.cls := fun q h => by cases h; rfl
theorem yw_X5_advance : yW yX5_advance cX5_advance 1 none 0 := ⟨tw_177, tw_138, by decide, by decide, by decide, by decide +kernel⟩
theorem yv_X5_advance : yV yX5_advance := ⟨tw_178, tw_179⟩
theorem ycl_5_X5_pass : ∀ q : vw_C, vwCl[5]? = some q → q.1 = yX5_pass.cls := fun q h => by cases h; rfl
theorem yw_X5_pass : yW yX5_pass cX5_pass 2 none 1 := ⟨tw_187, tw_138, by decide, by decide, by decide, by decide +kernel⟩
theorem yv_X5_pass : yV yX5_pass := ⟨tw_188, tw_189⟩
theorem ycl_5_X5_readE : ∀ q : vw_C, vwCl[5]? = some q → q.1 = yX5_readE.cls := fun q h => by cases h; rfl
theorem yw_X5_readE : yW yX5_readE cX5_readE 3 none 1 := ⟨tw_190, tw_138, by decide, by decide, by decide, by decide +kernel⟩
theorem yv_X5_readE : yV yX5_readE := ⟨tw_191, tw_192⟩
theorem ycl_5_X5_opens : ∀ q : vw_C, vwCl[5]? = some q → q.1 = yX5_opens.cls := fun q h => by cases h; rfl
theorem yw_X5_opens : yW yX5_opens cX5_opens 2 (some .boolean) 1 := ⟨tw_193, tw_138, by decide, by decide, by decide, by decide +kernel⟩
theorem yv_X5_opens : yV yX5_opens := ⟨tw_194, tw_195⟩
theorem tg_R_7 : ((7, 14, 160) : Nat × Nat × Nat) ∈ tsR := by decide
theorem fl_X5_28_5 : fL RX5 28 5 8 true := ⟨RX5, TX5, 9, rfl, fok_5, by decide, rfl, by decide, tw_197⟩
theorem fw_X5_28_5 (nm : String) : fW RX5 nm 28 5 8 true := ⟨fl_X5_28_5, fun C T N h => by cases h; exact Or.inl rfl⟩
theorem fl_X5_15_5 : fL RX5 15 5 7 false := ⟨RX5, TX5, 9, rfl, fok_5, by decide, rfl, by decide, tw_198⟩
theorem pt_R_5_7 : ((5, 7, 7) : Nat × Nat × Nat) ∈ psR := by decide
theorem ycl_5_X5_add : ∀ q : vw_C, vwCl[5]? = some q → q.1 = yX5_add.cls := fun q h => by cases h; rfl
theorem yw_X5_add : yW yX5_add cX5_add 2 none 1 := ⟨tw_199, tw_138, by decide, by decide, by decide, by decide +kernel⟩
theorem yv_X5_add : yV yX5_add := ⟨tw_200, tw_201⟩
theorem ycl_5_X5_readOne : ∀ q : vw_C, vwCl[5]? = some q → q.1 = yX5_readOne.cls := fun q h => by cases h; rfl
theorem yw_X5_readOne : yW yX5_readOne cX5_readOne 2 none 1 := ⟨tw_202, tw_138, by decide, by decide, by decide, by decide +kernel⟩
theorem yv_X5_readOne : yV yX5_readOne := ⟨tw_203, tw_204⟩
theorem ycl_5_X5_readTerm : ∀ q : vw_C, vwCl[5]? = some q → q.1 = yX5_readTerm.cls := fun q h => by cases h; rfl
theorem yw_X5_readTerm : yW yX5_readTerm cX5_readTerm 3 none 1 := ⟨tw_205, tw_138, by decide, by decide, by decide, by decide +kernel⟩
theorem yv_X5_readTerm : yV yX5_readTerm := ⟨tw_206, tw_207⟩
theorem ycl_5_X5_readSum : ∀ q : vw_C, vwCl[5]? = some q → q.1 = yX5_readSum.cls := fun q h => by cases h; rfl
theorem yw_X5_readSum : yW yX5_readSum cX5_readSum 4 none 1 := ⟨tw_208, tw_138, by decide, by decide, by decide, by decide +kernel⟩
theorem yv_X5_readSum : yV yX5_readSum := ⟨tw_209, tw_210⟩
theorem ycl_5_X5_readNot : ∀ q : vw_C, vwCl[5]? = some q → q.1 = yX5_readNot.cls := fun q h => by cases h; rfl
theorem yw_X5_readNot : yW yX5_readNot cX5_readNot 3 none 1 := ⟨tw_211, tw_138, by decide, by decide, by decide, by decide +kernel⟩
theorem yv_X5_readNot : yV yX5_readNot := ⟨tw_212, tw_213⟩
theorem ycl_5_X5_readAnd : ∀ q : vw_C, vwCl[5]? = some q → q.1 = yX5_readAnd.cls := fun q h => by cases h; rfl
theorem yw_X5_readAnd : yW yX5_readAnd cX5_readAnd 3 none 1 := ⟨tw_214, tw_138, by decide, by decide, by decide, by decide +kernel⟩
theorem yv_X5_readAnd : yV yX5_readAnd := ⟨tw_215, tw_216⟩
theorem na_14 : naOK .int 14 := ⟨by decide, by decide, tw_223, fun _ => rfl, rfl, by decide, fun _ _ h => h⟩
theorem fw_X6_25_6i : fW RX6 "<init>" 25 6 2 true := ⟨fl_X6_25_6, fun C T N h => by cases h; exact Or.inr ⟨rfl, rfl, rfl⟩⟩
theorem fw_X6_21_6i : fW RX6 "<init>" 21 6 1 true := ⟨fl_X6_21_6, fun C T N h => by cases h; exact Or.inr ⟨rfl, rfl, rfl⟩⟩
theorem fw_X6_18_6i : fW RX6 "<init>" 18 6 0 false := ⟨fl_X6_18_6, fun C T N h => by cases h; exact Or.inr ⟨rfl, rfl, rfl⟩⟩
theorem fw_X6_15_6i : fW RX6 "<init>" 15 6 4 false := ⟨fl_X6_15_6, fun C T N h => by cases h; exact Or.inr ⟨rfl, rfl, rfl⟩⟩
theorem fw_X6_9_6i : fW RX6 "<init>" 9 6 3 false := ⟨fl_X6_9_6, fun C T N h => by cases h; exact Or.inr ⟨rfl, rfl, rfl⟩⟩
theorem yw_X6_init : yW yX6_init cX6_init 4 none 3 := ⟨tw_226, tw_108, by decide, by decide, by decide, by decide +kernel⟩
theorem yi_X6_init : yI yX6_init := ⟨tw_227, rfl⟩
theorem yw_J7_copyOf_59c91 : yW yJ7_copyOf_59c91 cJ7_copyOf_59c91 3 (some (.array .int)) 2 := ⟨tw_228, tw_229, by decide, by decide, by decide, by decide +kernel⟩
theorem ys_J7_copyOf_59c91 : yS yJ7_copyOf_59c91 := tw_230
theorem no_X5_41 : nOK RX5 41 6 := ⟨RX6, TX6, 5, rfl, fok_6, by decide, rfl, by decide, tw_231, tw_232, tw_108⟩
theorem ycl_5_X5_readPart : ∀ q : vw_C, vwCl[5]? = some q → q.1 = yX5_readPart.cls := fun q h => by cases h; rfl
theorem yw_X5_readPart : yW yX5_readPart cX5_readPart 2 none 1 := ⟨tw_233, tw_138, by decide, by decide, by decide, by decide +kernel⟩
theorem yv_X5_readPart : yV yX5_readPart := ⟨tw_234, tw_235⟩
theorem fl_X11_156_5 : fL RX11 156 5 2 true := ⟨RX5, TX5, 9, rfl, fok_5, by decide, rfl, by decide, tw_236⟩
theorem fw_X11_91_11 (nm : String) : fW RX11 nm 91 11 6 true := ⟨fl_X11_91_11, fun C T N h => by cases h; exact Or.inl rfl⟩
theorem ao_6_17 : aOK 6 17 := ⟨_, "GreaterPlates$Rule", rfl, fun _ => rfl, Or.inl rfl⟩
theorem fw_X11_95_5 (nm : String) : fW RX11 nm 95 5 1 true := ⟨fl_X11_95_5, fun C T N h => by cases h; exact Or.inl rfl⟩
theorem ycl_5_X5_read : ∀ q : vw_C, vwCl[5]? = some q → q.1 = yX5_read.cls := fun q h => by cases h; rfl
theorem yw_X5_read : yW yX5_read cX5_read 3 (some (.object "GreaterPlates$Rule")) 0 := ⟨tw_237, tw_138, by decide, by decide, by decide, by decide +kernel⟩
theorem yv_X5_read : yV yX5_read := ⟨tw_238, tw_239⟩
theorem fw_X11_159_9 (nm : String) : fW RX11 nm 159 9 3 true := ⟨fl_X11_159_9, fun C T N h => by cases h; exact Or.inl rfl⟩
theorem tg_G_20 : ((20, 14, 8) : Nat × Nat × Nat) ∈ tsG := by decide
theorem fl_X11_55_11 : fL RX11 55 11 12 false := ⟨RX11, TX11, 19, rfl, fok_11, by decide, rfl, by decide, tw_241⟩
theorem pt_G_0_12 : ((0, 12, 20) : Nat × Nat × Nat) ∈ psG := by decide
theorem fok_1 : fOK RX1 TX1 5 (tyX 1) := ⟨by decide +kernel, tyX1_ok, nmX1⟩
theorem fl_X1_24_1 : fL RX1 24 1 2 true := ⟨RX1, TX1, 5, rfl, fok_1, by decide, rfl, by decide, tw_244⟩
theorem fw_X1_24_1 (nm : String) : fW RX1 nm 24 1 2 true := ⟨fl_X1_24_1, fun C T N h => by cases h; exact Or.inl rfl⟩
theorem tg_G_15 : ((15, 1, 0) : Nat × Nat × Nat) ∈ tsG := by decide
theorem ycl_1_X1_clear : ∀ q : vw_C, vwCl[1]? = some q → q.1 = yX1_clear.cls := fun q h => by cases h; rfl
theorem yw_X1_clear : yW yX1_clear cX1_clear 1 none 0 := ⟨tw_245, tw_246, by decide, by decide, by decide, by decide +kernel⟩
theorem yv_X1_clear : yV yX1_clear := ⟨tw_247, tw_248⟩
theorem fl_X11_51_11 : fL RX11 51 11 11 false := ⟨RX11, TX11, 19, rfl, fok_11, by decide, rfl, by decide, tw_249⟩
theorem pt_G_0_11 : ((0, 11, 15) : Nat × Nat × Nat) ∈ psG := by decide
theorem fl_X11_185_1 : fL RX11 185 1 2 true := ⟨RX1, TX1, 5, rfl, fok_1, by decide, rfl, by decide, tw_251⟩
theorem tg_G_17 : ((17, 14, 8) : Nat × Nat × Nat) ∈ tsG := by decide
theorem fl_X1_15_1 : fL RX1 15 1 1 false := ⟨RX1, TX1, 5, rfl, fok_1, by decide, rfl, by decide, tw_256⟩
theorem pt_G_15_1 : ((15, 1, 17) : Nat × Nat × Nat) ∈ psG := by decide
theorem tg_G_16 : ((16, 14, 64) : Nat × Nat × Nat) ∈ tsG := by decide
theorem fl_X1_9_1 : fL RX1 9 1 0 false := ⟨RX1, TX1, 5, rfl, fok_1, by decide, rfl, by decide, tw_259⟩
theorem pt_G_15_0 : ((15, 0, 16) : Nat × Nat × Nat) ∈ psG := by decide
theorem ycl_1_X1_heightOf : ∀ q : vw_C, vwCl[1]? = some q → q.1 = yX1_heightOf.cls := fun q h => by cases h; rfl
theorem yw_X1_heightOf : yW yX1_heightOf cX1_heightOf 2 (some .int) 1 := ⟨tw_260, tw_246, by decide, by decide, by decide, by decide +kernel⟩
theorem yv_X1_heightOf : yV yX1_heightOf := ⟨tw_261, tw_262⟩
theorem ycl_1_X1_topOf : ∀ q : vw_C, vwCl[1]? = some q → q.1 = yX1_topOf.cls := fun q h => by cases h; rfl
theorem yw_X1_topOf : yW yX1_topOf cX1_topOf 3 (some .int) 1 := ⟨tw_263, tw_246, by decide, by decide, by decide, by decide +kernel⟩
theorem yv_X1_topOf : yV yX1_topOf := ⟨tw_264, tw_265⟩
theorem ycl_1_X1_has : ∀ q : vw_C, vwCl[1]? = some q → q.1 = yX1_has.cls := fun q h => by cases h; rfl
theorem yw_X1_has : yW yX1_has cX1_has 2 (some .boolean) 1 := ⟨tw_266, tw_246, by decide, by decide, by decide, by decide +kernel⟩
theorem yv_X1_has : yV yX1_has := ⟨tw_267, tw_268⟩
theorem ycl_11_X11_rankOf : ∀ q : vw_C, vwCl[11]? = some q → q.1 = yX11_rankOf.cls := fun q h => by cases h; rfl
theorem yw_X11_rankOf : yW yX11_rankOf cX11_rankOf 6 (some .int) 4 := ⟨tw_271, tw_31, by decide, by decide, by decide, by decide +kernel⟩
theorem yv_X11_rankOf : yV yX11_rankOf := ⟨tw_272, tw_273⟩
theorem ycl_11_X11_mayLie : ∀ q : vw_C, vwCl[11]? = some q → q.1 = yX11_mayLie.cls := fun q h => by cases h; rfl
theorem yw_X11_mayLie : yW yX11_mayLie cX11_mayLie 5 (some .boolean) 3 := ⟨tw_274, tw_31, by decide, by decide, by decide, by decide +kernel⟩
theorem yv_X11_mayLie : yV yX11_mayLie := ⟨tw_275, tw_276⟩
theorem tg_G_18 : ((18, 14, 8) : Nat × Nat × Nat) ∈ tsG := by decide
theorem tg_G_19 : ((19, 14, 8) : Nat × Nat × Nat) ∈ tsG := by decide
theorem fl_X1_21_1 : fL RX1 21 1 4 false := ⟨RX1, TX1, 5, rfl, fok_1, by decide, rfl, by decide, tw_281⟩
theorem pt_G_15_4 : ((15, 4, 19) : Nat × Nat × Nat) ∈ psG := by decide
theorem fl_X1_18_1 : fL RX1 18 1 3 false := ⟨RX1, TX1, 5, rfl, fok_1, by decide, rfl, by decide, tw_282⟩
theorem pt_G_15_3 : ((15, 3, 18) : Nat × Nat × Nat) ∈ psG := by decide
theorem ycl_1_X1_put : ∀ q : vw_C, vwCl[1]? = some q → q.1 = yX1_put.cls := fun q h => by cases h; rfl
theorem yw_X1_put : yW yX1_put cX1_put 3 none 2 := ⟨tw_283, tw_246, by decide, by decide, by decide, by decide +kernel⟩
theorem yv_X1_put : yV yX1_put := ⟨tw_284, tw_285⟩
theorem ycl_11_X11_priceOf : ∀ q : vw_C, vwCl[11]? = some q → q.1 = yX11_priceOf.cls := fun q h => by cases h; rfl
theorem yw_X11_priceOf : yW yX11_priceOf cX11_priceOf 4 (some .int) 3 := ⟨tw_286, tw_31, by decide, by decide, by decide, by decide +kernel⟩
theorem yv_X11_priceOf : yV yX11_priceOf := ⟨tw_287, tw_288⟩
theorem ycl_11_X11_chosenBy : ∀ q : vw_C, vwCl[11]? = some q → q.1 = yX11_chosenBy.cls := fun q h => by cases h; rfl
theorem yw_X11_chosenBy : yW yX11_chosenBy cX11_chosenBy 8 (some .int) 3 := ⟨tw_289, tw_31, by decide, by decide, by decide, by decide +kernel⟩
theorem yv_X11_chosenBy : yV yX11_chosenBy := ⟨tw_290, tw_291⟩
theorem ycl_11_X11_layInOrder : ∀ q : vw_C, vwCl[11]? = some q → q.1 = yX11_layInOrder.cls := fun q h => by cases h; rfl
theorem yw_X11_layInOrder : yW yX11_layInOrder cX11_layInOrder 6 (some .int) 2 := ⟨tw_292, tw_31, by decide, by decide, by decide, by decide +kernel⟩
theorem yv_X11_layInOrder : yV yX11_layInOrder := ⟨tw_293, tw_294⟩
theorem ycl_11_X11_orderOfNow : ∀ q : vw_C, vwCl[11]? = some q → q.1 = yX11_orderOfNow.cls := fun q h => by cases h; rfl
theorem yw_X11_orderOfNow : yW yX11_orderOfNow cX11_orderOfNow 2 none 0 := ⟨tw_295, tw_31, by decide, by decide, by decide, by decide +kernel⟩
theorem yv_X11_orderOfNow : yV yX11_orderOfNow := ⟨tw_296, tw_297⟩
theorem fl_X11_188_1 : fL RX11 188 1 3 false := ⟨RX1, TX1, 5, rfl, fok_1, by decide, rfl, by decide, tw_298⟩
theorem fl_X11_241_11 : fL RX11 241 11 13 true := ⟨RX11, TX11, 19, rfl, fok_11, by decide, rfl, by decide, tw_301⟩
theorem fw_X11_241_11 (nm : String) : fW RX11 nm 241 11 13 true := ⟨fl_X11_241_11, fun C T N h => by cases h; exact Or.inl rfl⟩
theorem ycl_1_X1_drop : ∀ q : vw_C, vwCl[1]? = some q → q.1 = yX1_drop.cls := fun q h => by cases h; rfl
theorem yw_X1_drop : yW yX1_drop cX1_drop 3 (some .int) 1 := ⟨tw_304, tw_246, by decide, by decide, by decide, by decide +kernel⟩
theorem yv_X1_drop : yV yX1_drop := ⟨tw_305, tw_306⟩
theorem ycl_1_X1_undo : ∀ q : vw_C, vwCl[1]? = some q → q.1 = yX1_undo.cls := fun q h => by cases h; rfl
theorem yw_X1_undo : yW yX1_undo cX1_undo 2 none 1 := ⟨tw_307, tw_246, by decide, by decide, by decide, by decide +kernel⟩
theorem yv_X1_undo : yV yX1_undo := ⟨tw_308, tw_309⟩
theorem ycl_11_X11_seekLess : ∀ q : vw_C, vwCl[11]? = some q → q.1 = yX11_seekLess.cls := fun q h => by cases h; rfl
theorem yw_X11_seekLess : yW yX11_seekLess cX11_seekLess 9 none 4 := ⟨tw_310, tw_31, by decide, by decide, by decide, by decide +kernel⟩
theorem yv_X11_seekLess : yV yX11_seekLess := ⟨tw_311, tw_312⟩
theorem ycl_11_X11_leastOf : ∀ q : vw_C, vwCl[11]? = some q → q.1 = yX11_leastOf.cls := fun q h => by cases h; rfl
theorem yw_X11_leastOf : yW yX11_leastOf cX11_leastOf 4 (some .int) 3 := ⟨tw_313, tw_31, by decide, by decide, by decide, by decide +kernel⟩
theorem yv_X11_leastOf : yV yX11_leastOf := ⟨tw_314, tw_315⟩
theorem tg_G_24 : ((24, 14, 256) : Nat × Nat × Nat) ∈ tsG := by decide
theorem fl_X11_67_11 : fL RX11 67 11 18 false := ⟨RX11, TX11, 19, rfl, fok_11, by decide, rfl, by decide, tw_317⟩
theorem pt_G_0_18 : ((0, 18, 24) : Nat × Nat × Nat) ∈ psG := by decide
theorem yw_X11_lastOf : yW yX11_lastOf cX11_lastOf 2 (some .int) 1 := ⟨tw_320, tw_31, by decide, by decide, by decide, by decide +kernel⟩
theorem ys_X11_lastOf : yS yX11_lastOf := tw_321
theorem ycl_11_X11_rowsThatMake : ∀ q : vw_C, vwCl[11]? = some q → q.1 = yX11_rowsThatMake.cls := fun q h => by cases h; rfl
theorem yw_X11_rowsThatMake : yW yX11_rowsThatMake cX11_rowsThatMake 5 (some .int) 1 := ⟨tw_323, tw_31, by decide, by decide, by decide, by decide +kernel⟩
theorem yv_X11_rowsThatMake : yV yX11_rowsThatMake := ⟨tw_324, tw_325⟩
theorem ycl_11_X11_isRow : ∀ q : vw_C, vwCl[11]? = some q → q.1 = yX11_isRow.cls := fun q h => by cases h; rfl
theorem yw_X11_isRow : yW yX11_isRow cX11_isRow 4 (some .boolean) 1 := ⟨tw_326, tw_31, by decide, by decide, by decide, by decide +kernel⟩
theorem yv_X11_isRow : yV yX11_isRow := ⟨tw_327, tw_328⟩
theorem ycl_11_X11_fillCover : ∀ q : vw_C, vwCl[11]? = some q → q.1 = yX11_fillCover.cls := fun q h => by cases h; rfl
theorem yw_X11_fillCover : yW yX11_fillCover cX11_fillCover 2 none 0 := ⟨tw_329, tw_31, by decide, by decide, by decide, by decide +kernel⟩
theorem yv_X11_fillCover : yV yX11_fillCover := ⟨tw_330, tw_331⟩
theorem yw_J6_bitCount_0f7a4 : yW yJ6_bitCount_0f7a4 cJ6_bitCount_0f7a4 1 (some .int) 1 := ⟨tw_336, tw_337, by decide, by decide, by decide, by decide +kernel⟩
theorem ys_J6_bitCount_0f7a4 : yS yJ6_bitCount_0f7a4 := tw_338
theorem tg_G_22 : ((22, 14, 9) : Nat × Nat × Nat) ∈ tsG := by decide
theorem tg_G_21 : ((21, 14, 8) : Nat × Nat × Nat) ∈ tsG := by decide
theorem fl_X11_58_11 : fL RX11 58 11 14 false := ⟨RX11, TX11, 19, rfl, fok_11, by decide, rfl, by decide, tw_344⟩
theorem pt_G_0_14 : ((0, 14, 21) : Nat × Nat × Nat) ∈ psG := by decide
theorem fl_X11_61_11 : fL RX11 61 11 15 false := ⟨RX11, TX11, 19, rfl, fok_11, by decide, rfl, by decide, tw_345⟩
theorem pt_G_0_15 : ((0, 15, 22) : Nat × Nat × Nat) ∈ psG := by decide
theorem fl_X11_273_11 : fL RX11 273 11 16 true := ⟨RX11, TX11, 19, rfl, fok_11, by decide, rfl, by decide, tw_346⟩
theorem fw_X11_273_11 (nm : String) : fW RX11 nm 273 11 16 true := ⟨fl_X11_273_11, fun C T N h => by cases h; exact Or.inl rfl⟩
theorem tg_G_23 : ((23, 14, 8) : Nat × Nat × Nat) ∈ tsG := by decide
theorem fl_X11_64_11 : fL RX11 64 11 17 false := ⟨RX11, TX11, 19, rfl, fok_11, by decide, rfl, by decide, tw_347⟩
theorem pt_G_0_17 : ((0, 17, 23) : Nat × Nat × Nat) ∈ psG := by decide
theorem fl_X11_301_1 : fL RX11 301 1 4 false := ⟨RX1, TX1, 5, rfl, fok_1, by decide, rfl, by decide, tw_348⟩
theorem ycl_11_X11_noteOrder : ∀ q : vw_C, vwCl[11]? = some q → q.1 = yX11_noteOrder.cls := fun q h => by cases h; rfl
theorem yw_X11_noteOrder : yW yX11_noteOrder cX11_noteOrder 4 none 0 := ⟨tw_349, tw_31, by decide, by decide, by decide, by decide +kernel⟩
theorem yv_X11_noteOrder : yV yX11_noteOrder := ⟨tw_350, tw_351⟩
theorem ycl_11_X11_goOn : ∀ q : vw_C, vwCl[11]? = some q → q.1 = yX11_goOn.cls := fun q h => by cases h; rfl
theorem yw_X11_goOn : yW yX11_goOn cX11_goOn 6 none 3 := ⟨tw_352, tw_31, by decide, by decide, by decide, by decide +kernel⟩
theorem yv_X11_goOn : yV yX11_goOn := ⟨tw_353, tw_354⟩
theorem yw_J7_fill_53178 : yW yJ7_fill_53178 cJ7_fill_53178 4 none 2 := ⟨tw_355, tw_229, by decide, by decide, by decide, by decide +kernel⟩
theorem ys_J7_fill_53178 : yS yJ7_fill_53178 := tw_356
theorem ycl_11_X11_goThroughOrders : ∀ q : vw_C, vwCl[11]? = some q → q.1 = yX11_goThroughOrders.cls := fun q h => by cases h; rfl
theorem yw_X11_goThroughOrders : yW yX11_goThroughOrders cX11_goThroughOrders 2 none 1 := ⟨tw_357, tw_31, by decide, by decide, by decide, by decide +kernel⟩
theorem yv_X11_goThroughOrders : yV yX11_goThroughOrders := ⟨tw_358, tw_359⟩
theorem yw_X11_sharedDivisor : yW yX11_sharedDivisor cX11_sharedDivisor 7 (some .long) 2 := ⟨tw_365, tw_31, by decide, by decide, by decide, by decide +kernel⟩
theorem ys_X11_sharedDivisor : yS yX11_sharedDivisor := tw_366
theorem ycl_11_X11_changeAbout : ∀ q : vw_C, vwCl[11]? = some q → q.1 = yX11_changeAbout.cls := fun q h => by cases h; rfl
theorem yw_X11_changeAbout : yW yX11_changeAbout cX11_changeAbout 4 none 2 := ⟨tw_369, tw_31, by decide, by decide, by decide, by decide +kernel⟩
theorem yv_X11_changeAbout : yV yX11_changeAbout := ⟨tw_370, tw_371⟩
theorem ycl_11_X11_firstSwap : ∀ q : vw_C, vwCl[11]? = some q → q.1 = yX11_firstSwap.cls := fun q h => by cases h; rfl
theorem yw_X11_firstSwap : yW yX11_firstSwap cX11_firstSwap 3 (some .int) 1 := ⟨tw_372, tw_31, by decide, by decide, by decide, by decide +kernel⟩
theorem yv_X11_firstSwap : yV yX11_firstSwap := ⟨tw_373, tw_374⟩
theorem ycl_11_X11_firstOut : ∀ q : vw_C, vwCl[11]? = some q → q.1 = yX11_firstOut.cls := fun q h => by cases h; rfl
theorem yw_X11_firstOut : yW yX11_firstOut cX11_firstOut 4 (some .int) 1 := ⟨tw_376, tw_31, by decide, by decide, by decide, by decide +kernel⟩
theorem yv_X11_firstOut : yV yX11_firstOut := ⟨tw_377, tw_378⟩
theorem ycl_11_X11_riseBehind : ∀ q : vw_C, vwCl[11]? = some q → q.1 = yX11_riseBehind.cls := fun q h => by cases h; rfl
theorem yw_X11_riseBehind : yW yX11_riseBehind cX11_riseBehind 6 (some .int) 2 := ⟨tw_380, tw_31, by decide, by decide, by decide, by decide +kernel⟩
theorem yv_X11_riseBehind : yV yX11_riseBehind := ⟨tw_381, tw_382⟩
theorem tg_G_14 : ((14, 18, 4) : Nat × Nat × Nat) ∈ tsG := by decide
theorem fl_X11_44_11 : fL RX11 44 11 10 false := ⟨RX11, TX11, 19, rfl, fok_11, by decide, rfl, by decide, tw_384⟩
theorem pt_G_0_10 : ((0, 10, 14) : Nat × Nat × Nat) ∈ psG := by decide
theorem fok_7 : fOK RX7 TX7 3 (tyX 7) := ⟨by decide +kernel, tyX7_ok, nmX7⟩
theorem fl_X7_15_7 : fL RX7 15 7 1 true := ⟨RX7, TX7, 3, rfl, fok_7, by decide, rfl, by decide, tw_386⟩
theorem ycl_7_X7_isMissing : ∀ q : vw_C, vwCl[7]? = some q → q.1 = yX7_isMissing.cls := fun q h => by cases h; rfl
theorem yw_X7_isMissing : yW yX7_isMissing cX7_isMissing 1 (some .boolean) 0 := ⟨tw_387, tw_388, by decide, by decide, by decide, by decide +kernel⟩
theorem yv_X7_isMissing : yV yX7_isMissing := ⟨tw_389, tw_390⟩
theorem ycl_11_X11_sheetAt : ∀ q : vw_C, vwCl[11]? = some q → q.1 = yX11_sheetAt.cls := fun q h => by cases h; rfl
theorem yw_X11_sheetAt : yW yX11_sheetAt cX11_sheetAt 2 (some (.object "GreaterPlates$Sheet")) 1 := ⟨tw_391, tw_31, by decide, by decide, by decide, by decide +kernel⟩
theorem yv_X11_sheetAt : yV yX11_sheetAt := ⟨tw_392, tw_393⟩
theorem fl_X11_294_7 : fL RX11 294 7 0 false := ⟨RX7, TX7, 3, rfl, fok_7, by decide, rfl, by decide, tw_394⟩
theorem fl_X11_293_7 : fL RX11 293 7 2 true := ⟨RX7, TX7, 3, rfl, fok_7, by decide, rfl, by decide, tw_395⟩
theorem ycl_11_X11_laysJustSo : ∀ q : vw_C, vwCl[11]? = some q → q.1 = yX11_laysJustSo.cls := fun q h => by cases h; rfl
theorem yw_X11_laysJustSo : yW yX11_laysJustSo cX11_laysJustSo 4 (some .boolean) 2 := ⟨tw_397, tw_31, by decide, by decide, by decide, by decide +kernel⟩
theorem yv_X11_laysJustSo : yV yX11_laysJustSo := ⟨tw_398, tw_399⟩
theorem tg_G_9 : ((9, 1, 0) : Nat × Nat × Nat) ∈ tsG := by decide
theorem tg_G_11 : ((11, 14, 8) : Nat × Nat × Nat) ∈ tsG := by decide
theorem pt_G_9_1 : ((9, 1, 11) : Nat × Nat × Nat) ∈ psG := by decide
theorem tg_G_10 : ((10, 14, 64) : Nat × Nat × Nat) ∈ tsG := by decide
theorem pt_G_9_0 : ((9, 0, 10) : Nat × Nat × Nat) ∈ psG := by decide
theorem tg_G_12 : ((12, 14, 8) : Nat × Nat × Nat) ∈ tsG := by decide
theorem tg_G_13 : ((13, 14, 8) : Nat × Nat × Nat) ∈ tsG := by decide
theorem pt_G_9_4 : ((9, 4, 13) : Nat × Nat × Nat) ∈ psG := by decide
theorem pt_G_9_3 : ((9, 3, 12) : Nat × Nat × Nat) ∈ psG := by decide
theorem fl_X11_326_9 : fL RX11 326 9 1 true := ⟨RX9, TX9, 4, rfl, fok_9, by decide, rfl, by decide, tw_400⟩
theorem fw_X11_326_9 (nm : String) : fW RX11 nm 326 9 1 true := ⟨fl_X11_326_9, fun C T N h => by cases h; exact Or.inl rfl⟩
theorem fl_X11_329_9 : fL RX11 329 9 0 false := ⟨RX9, TX9, 4, rfl, fok_9, by decide, rfl, by decide, tw_401⟩
theorem pt_G_8_0 : ((8, 0, 9) : Nat × Nat × Nat) ∈ psG := by decide
theorem ycl_1_X1_at : ∀ q : vw_C, vwCl[1]? = some q → q.1 = yX1_at.cls := fun q h => by cases h; rfl
theorem yw_X1_at : yW yX1_at cX1_at 3 (some .int) 2 := ⟨tw_404, tw_246, by decide, by decide, by decide, by decide +kernel⟩
theorem yv_X1_at : yV yX1_at := ⟨tw_405, tw_406⟩
theorem fw_X1_21_1i : fW RX1 "<init>" 21 1 4 false := ⟨fl_X1_21_1, fun C T N h => by cases h; exact Or.inr ⟨rfl, rfl, rfl⟩⟩
theorem fw_X1_18_1i : fW RX1 "<init>" 18 1 3 false := ⟨fl_X1_18_1, fun C T N h => by cases h; exact Or.inr ⟨rfl, rfl, rfl⟩⟩
theorem fw_X1_15_1i : fW RX1 "<init>" 15 1 1 false := ⟨fl_X1_15_1, fun C T N h => by cases h; exact Or.inr ⟨rfl, rfl, rfl⟩⟩
theorem fw_X1_9_1i : fW RX1 "<init>" 9 1 0 false := ⟨fl_X1_9_1, fun C T N h => by cases h; exact Or.inr ⟨rfl, rfl, rfl⟩⟩
theorem fl_X9_18_9 : fL RX9 18 9 2 true := ⟨RX9, TX9, 4, rfl, fok_9, by decide, rfl, by decide, tw_412⟩
theorem fw_X9_18_9i : fW RX9 "<init>" 18 9 2 true := ⟨fl_X9_18_9, fun C T N h => by cases h; exact Or.inl rfl⟩
theorem fl_X9_12_9 : fL RX9 12 9 0 false := ⟨RX9, TX9, 4, rfl, fok_9, by decide, rfl, by decide, tw_413⟩
theorem fw_X9_12_9i : fW RX9 "<init>" 12 9 0 false := ⟨fl_X9_12_9, fun C T N h => by cases h; exact Or.inr ⟨rfl, rfl, rfl⟩⟩
theorem yw_X1_init : yW yX1_init cX1_init 1 none 0 := ⟨tw_414, tw_246, by decide, by decide, by decide, by decide +kernel⟩
theorem yi_X1_init : yI yX1_init := ⟨tw_415, rfl⟩
theorem no_X9_9 : nOK RX9 9 1 := ⟨RX1, TX1, 5, rfl, fok_1, by decide, rfl, by decide, tw_416, tw_417, tw_246⟩
theorem fl_X11_339_11 : fL RX11 339 11 9 false := ⟨RX11, TX11, 19, rfl, fok_11, by decide, rfl, by decide, tw_418⟩
theorem fw_X11_339_11 (nm : String) : fW RX11 nm 339 11 9 false := ⟨fl_X11_339_11, fun C T N h => by cases h; exact Or.inl rfl⟩
theorem yw_X9_init : yW yX9_init cX9_init 1 none 0 := ⟨tw_419, tw_420, by decide, by decide, by decide, by decide +kernel⟩
theorem yi_X9_init : yI yX9_init := ⟨tw_421, rfl⟩
theorem no_X11_35 : nOK RX11 35 9 := ⟨RX9, TX9, 4, rfl, fok_9, by decide, rfl, by decide, tw_422, tw_423, tw_420⟩
theorem fl_X9_29_9 : fL RX9 29 9 3 true := ⟨RX9, TX9, 4, rfl, fok_9, by decide, rfl, by decide, tw_427⟩
theorem fw_X9_29_9 (nm : String) : fW RX9 nm 29 9 3 true := ⟨fl_X9_29_9, fun C T N h => by cases h; exact Or.inl rfl⟩
theorem fw_X9_18_9 (nm : String) : fW RX9 nm 18 9 2 true := ⟨fl_X9_18_9, fun C T N h => by cases h; exact Or.inl rfl⟩
theorem fl_X9_26_9 : fL RX9 26 9 1 true := ⟨RX9, TX9, 4, rfl, fok_9, by decide, rfl, by decide, tw_428⟩
theorem fw_X9_26_9 (nm : String) : fW RX9 nm 26 9 1 true := ⟨fl_X9_26_9, fun C T N h => by cases h; exact Or.inl rfl⟩
theorem ycl_1_X1_become : ∀ q : vw_C, vwCl[1]? = some q → q.1 = yX1_become.cls := fun q h => by cases h; rfl
theorem yw_X1_become : yW yX1_become cX1_become 2 none 1 := ⟨tw_429, tw_246, by decide, by decide, by decide, by decide +kernel⟩
theorem yv_X1_become : yV yX1_become := ⟨tw_430, tw_431⟩
theorem ycl_9_X9_become : ∀ q : vw_C, vwCl[9]? = some q → q.1 = yX9_become.cls := fun q h => by cases h; rfl
theorem yw_X9_become : yW yX9_become cX9_become 2 none 1 := ⟨tw_432, tw_420, by decide, by decide, by decide, by decide +kernel⟩
theorem yv_X9_become : yV yX9_become := ⟨tw_433, tw_434⟩
theorem fl_X7_9_7 : fL RX7 9 7 0 false := ⟨RX7, TX7, 3, rfl, fok_7, by decide, rfl, by decide, tw_439⟩
theorem fl_X7_19_7 : fL RX7 19 7 2 true := ⟨RX7, TX7, 3, rfl, fok_7, by decide, rfl, by decide, tw_440⟩
theorem fw_X7_19_7 (nm : String) : fW RX7 nm 19 7 2 true := ⟨fl_X7_19_7, fun C T N h => by cases h; exact Or.inl rfl⟩
theorem fw_X7_15_7 (nm : String) : fW RX7 nm 15 7 1 true := ⟨fl_X7_15_7, fun C T N h => by cases h; exact Or.inl rfl⟩
theorem ycl_7_X7_become : ∀ q : vw_C, vwCl[7]? = some q → q.1 = yX7_become.cls := fun q h => by cases h; rfl
theorem yw_X7_become : yW yX7_become cX7_become 3 none 2 := ⟨tw_441, tw_388, by decide, by decide, by decide, by decide +kernel⟩
theorem yv_X7_become : yV yX7_become := ⟨tw_442, tw_443⟩
theorem ycl_7_X7_has : ∀ q : vw_C, vwCl[7]? = some q → q.1 = yX7_has.cls := fun q h => by cases h; rfl
theorem yw_X7_has : yW yX7_has cX7_has 2 (some .boolean) 1 := ⟨tw_447, tw_388, by decide, by decide, by decide, by decide +kernel⟩
theorem yv_X7_has : yV yX7_has := ⟨tw_448, tw_449⟩
theorem ycl_7_X7_put : ∀ q : vw_C, vwCl[7]? = some q → q.1 = yX7_put.cls := fun q h => by cases h; rfl
theorem yw_X7_put : yW yX7_put cX7_put 3 none 2 := ⟨tw_450, tw_388, by decide, by decide, by decide, by decide +kernel⟩
theorem yv_X7_put : yV yX7_put := ⟨tw_451, tw_452⟩
theorem ycl_7_X7_hasSpan : ∀ q : vw_C, vwCl[7]? = some q → q.1 = yX7_hasSpan.cls := fun q h => by cases h; rfl
theorem yw_X7_hasSpan : yW yX7_hasSpan cX7_hasSpan 3 (some .boolean) 2 := ⟨tw_454, tw_388, by decide, by decide, by decide, by decide +kernel⟩
theorem yv_X7_hasSpan : yV yX7_hasSpan := ⟨tw_455, tw_456⟩
theorem fl_X11_350_7 : fL RX11 350 7 1 true := ⟨RX7, TX7, 3, rfl, fok_7, by decide, rfl, by decide, tw_457⟩
theorem ycl_11_X11_plate : ∀ q : vw_C, vwCl[11]? = some q → q.1 = yX11_plate.cls := fun q h => by cases h; rfl
theorem yw_X11_plate : yW yX11_plate cX11_plate 3 (some .int) 2 := ⟨tw_459, tw_31, by decide, by decide, by decide, by decide +kernel⟩
theorem yv_X11_plate : yV yX11_plate := ⟨tw_460, tw_461⟩
theorem asl_4 {ci : Nat} (h : lyK ci) : ci < 13 ∧ ∀ q : vw_C, vwCl[ci]? = some q → (q.1, "GreaterPlates$Near", subX ci 4) ∈ asgX := by
  rcases h with rfl | rfl | rfl | rfl | rfl | rfl <;> exact ⟨by decide, fun q h => by cases h; decide⟩
theorem asl_0 {ci : Nat} (h : lyK ci) : ci < 13 ∧ ∀ q : vw_C, vwCl[ci]? = some q → (q.1, "GreaterPlates$Free", subX ci 0) ∈ asgX := by
  rcases h with rfl | rfl | rfl | rfl | rfl | rfl <;> exact ⟨by decide, fun q h => by cases h; decide⟩
theorem asl_2 {ci : Nat} (h : lyK ci) : ci < 13 ∧ ∀ q : vw_C, vwCl[ci]? = some q → (q.1, "GreaterPlates$High", subX ci 2) ∈ asgX := by
  rcases h with rfl | rfl | rfl | rfl | rfl | rfl <;> exact ⟨by decide, fun q h => by cases h; decide⟩
theorem asl_10 {ci : Nat} (h : lyK ci) : ci < 13 ∧ ∀ q : vw_C, vwCl[ci]? = some q → (q.1, "GreaterPlates$Told", subX ci 10) ∈ asgX := by
  rcases h with rfl | rfl | rfl | rfl | rfl | rfl <;> exact ⟨by decide, fun q h => by cases h; decide⟩
theorem asl_8 {ci : Nat} (h : lyK ci) : ci < 13 ∧ ∀ q : vw_C, vwCl[ci]? = some q → (q.1, "GreaterPlates$Sulky", subX ci 8) ∈ asgX := by
  rcases h with rfl | rfl | rfl | rfl | rfl | rfl <;> exact ⟨by decide, fun q h => by cases h; decide⟩
theorem yw_X11_isUnder : yW yX11_isUnder cX11_isUnder 2 (some .boolean) 2 := ⟨tw_463, tw_31, by decide, by decide, by decide, by decide +kernel⟩
theorem ys_X11_isUnder : yS yX11_isUnder := tw_464
theorem tg_M_37 : ((37, 12, 0) : Nat × Nat × Nat) ∈ tsM := by decide
theorem yw_X12_isIn : yW yX12_isIn cX12_isIn 3 (some .boolean) 3 := ⟨tw_466, tw_467, by decide, by decide, by decide, by decide +kernel⟩
theorem ys_X12_isIn : yS yX12_isIn := tw_468
theorem fok_12 : fOK RX12 TX12 60 (tyX 12) := ⟨by decide +kernel, tyX12_ok, nmX12⟩
theorem fl_X12_1_12 : fL RX12 1 12 0 true := ⟨RX12, TX12, 60, rfl, fok_12, by decide, rfl, by decide, tw_469⟩
theorem fl_X12_11_12 : fL RX12 11 12 3 true := ⟨RX12, TX12, 60, rfl, fok_12, by decide, rfl, by decide, tw_470⟩
theorem tg_M_38 : ((38, 14, 8) : Nat × Nat × Nat) ∈ tsM := by decide
theorem tg_M_39 : ((39, 14, 8) : Nat × Nat × Nat) ∈ tsM := by decide
theorem fw_X12_1_12 (nm : String) : fW RX12 nm 1 12 0 true := ⟨fl_X12_1_12, fun C T N h => by cases h; exact Or.inl rfl⟩
theorem fl_X12_18_12 : fL RX12 18 12 2 false := ⟨RX12, TX12, 60, rfl, fok_12, by decide, rfl, by decide, tw_471⟩
theorem pt_M_37_2 : ((37, 2, 39) : Nat × Nat × Nat) ∈ psM := by decide
theorem fl_X12_14_12 : fL RX12 14 12 1 false := ⟨RX12, TX12, 60, rfl, fok_12, by decide, rfl, by decide, tw_472⟩
theorem pt_M_37_1 : ((37, 1, 38) : Nat × Nat × Nat) ∈ psM := by decide
theorem tg_M_40 : ((40, 14, 5) : Nat × Nat × Nat) ∈ tsM := by decide
theorem tg_M_41 : ((41, 14, 5) : Nat × Nat × Nat) ∈ tsM := by decide
theorem fw_X12_11_12 (nm : String) : fW RX12 nm 11 12 3 true := ⟨fl_X12_11_12, fun C T N h => by cases h; exact Or.inl rfl⟩
theorem fl_X12_24_12 : fL RX12 24 12 5 false := ⟨RX12, TX12, 60, rfl, fok_12, by decide, rfl, by decide, tw_473⟩
theorem pt_M_37_5 : ((37, 5, 41) : Nat × Nat × Nat) ∈ psM := by decide
theorem fl_X12_21_12 : fL RX12 21 12 4 false := ⟨RX12, TX12, 60, rfl, fok_12, by decide, rfl, by decide, tw_474⟩
theorem pt_M_37_4 : ((37, 4, 40) : Nat × Nat × Nat) ∈ psM := by decide
theorem ycl_12_X12_isPlate : ∀ q : vw_C, vwCl[12]? = some q → q.1 = yX12_isPlate.cls := fun q h => by cases h; rfl
theorem yw_X12_isPlate : yW yX12_isPlate cX12_isPlate 2 (some .boolean) 1 := ⟨tw_476, tw_467, by decide, by decide, by decide, by decide +kernel⟩
theorem yv_X12_isPlate : yV yX12_isPlate := ⟨tw_477, tw_478⟩
theorem fl_X12_31_12 : fL RX12 31 12 6 true := ⟨RX12, TX12, 60, rfl, fok_12, by decide, rfl, by decide, tw_479⟩
theorem fw_X12_31_12 (nm : String) : fW RX12 nm 31 12 6 true := ⟨fl_X12_31_12, fun C T N h => by cases h; exact Or.inl rfl⟩
theorem ycl_12_X12_isLayer : ∀ q : vw_C, vwCl[12]? = some q → q.1 = yX12_isLayer.cls := fun q h => by cases h; rfl
theorem yw_X12_isLayer : yW yX12_isLayer cX12_isLayer 2 (some .boolean) 1 := ⟨tw_481, tw_467, by decide, by decide, by decide, by decide +kernel⟩
theorem yv_X12_isLayer : yV yX12_isLayer := ⟨tw_482, tw_483⟩
theorem tg_M_50 : ((50, 14, 6) : Nat × Nat × Nat) ∈ tsM := by decide
theorem fl_X12_167_12 : fL RX12 167 12 27 false := ⟨RX12, TX12, 60, rfl, fok_12, by decide, rfl, by decide, tw_485⟩
theorem pt_M_37_27 : ((37, 27, 50) : Nat × Nat × Nat) ∈ psM := by decide
theorem fl_X12_156_12 : fL RX12 156 12 10 true := ⟨RX12, TX12, 60, rfl, fok_12, by decide, rfl, by decide, tw_487⟩
theorem tg_M_44 : ((44, 14, 18) : Nat × Nat × Nat) ∈ tsM := by decide
theorem tg_M_49 : ((49, 14, 170) : Nat × Nat × Nat) ∈ tsM := by decide
theorem fl_X12_164_12 : fL RX12 164 12 26 false := ⟨RX12, TX12, 60, rfl, fok_12, by decide, rfl, by decide, tw_488⟩
theorem pt_M_37_26 : ((37, 26, 49) : Nat × Nat × Nat) ∈ psM := by decide
theorem tg_M_43 : ((43, 14, 2880) : Nat × Nat × Nat) ∈ tsM := by decide
theorem yw_X12_done : yW yX12_done cX12_done 3 (some .int) 3 := ⟨tw_490, tw_467, by decide, by decide, by decide, by decide +kernel⟩
theorem ys_X12_done : yS yX12_done := tw_491
theorem fl_X12_86_12 : fL RX12 86 12 11 false := ⟨RX12, TX12, 60, rfl, fok_12, by decide, rfl, by decide, tw_492⟩
theorem pt_M_37_11 : ((37, 11, 43) : Nat × Nat × Nat) ∈ psM := by decide
theorem fl_X12_134_12 : fL RX12 134 12 12 false := ⟨RX12, TX12, 60, rfl, fok_12, by decide, rfl, by decide, tw_493⟩
theorem pt_M_37_12 : ((37, 12, 44) : Nat × Nat × Nat) ∈ psM := by decide
theorem yw_X12_bound : yW yX12_bound cX12_bound 1 (some .int) 1 := ⟨tw_495, tw_467, by decide, by decide, by decide, by decide +kernel⟩
theorem ys_X12_bound : yS yX12_bound := tw_496
theorem ycl_12_X12_worthOf : ∀ q : vw_C, vwCl[12]? = some q → q.1 = yX12_worthOf.cls := fun q h => by cases h; rfl
theorem yw_X12_worthOf : yW yX12_worthOf cX12_worthOf 6 (some .int) 1 := ⟨tw_497, tw_467, by decide, by decide, by decide, by decide +kernel⟩
theorem yv_X12_worthOf : yV yX12_worthOf := ⟨tw_498, tw_499⟩
theorem ycl_12_X12_name : ∀ q : vw_C, vwCl[12]? = some q → q.1 = yX12_name.cls := fun q h => by cases h; rfl
theorem yw_X12_name : yW yX12_name cX12_name 6 none 5 := ⟨tw_500, tw_467, by decide, by decide, by decide, by decide +kernel⟩
theorem yv_X12_name : yV yX12_name := ⟨tw_501, tw_502⟩
theorem tg_M_42 : ((42, 14, 160) : Nat × Nat × Nat) ∈ tsM := by decide
theorem fl_X12_48_12 : fL RX12 48 12 8 true := ⟨RX12, TX12, 60, rfl, fok_12, by decide, rfl, by decide, tw_503⟩
theorem fw_X12_48_12 (nm : String) : fW RX12 nm 48 12 8 true := ⟨fl_X12_48_12, fun C T N h => by cases h; exact Or.inl rfl⟩
theorem fl_X12_51_12 : fL RX12 51 12 7 false := ⟨RX12, TX12, 60, rfl, fok_12, by decide, rfl, by decide, tw_504⟩
theorem pt_M_37_7 : ((37, 7, 42) : Nat × Nat × Nat) ∈ psM := by decide
theorem fl_X12_60_12 : fL RX12 60 12 14 true := ⟨RX12, TX12, 60, rfl, fok_12, by decide, rfl, by decide, tw_506⟩
theorem fw_X12_60_12 (nm : String) : fW RX12 nm 60 12 14 true := ⟨fl_X12_60_12, fun C T N h => by cases h; exact Or.inl rfl⟩
theorem fl_X12_54_12 : fL RX12 54 12 13 true := ⟨RX12, TX12, 60, rfl, fok_12, by decide, rfl, by decide, tw_507⟩
theorem fw_X12_54_12 (nm : String) : fW RX12 nm 54 12 13 true := ⟨fl_X12_54_12, fun C T N h => by cases h; exact Or.inl rfl⟩
theorem ycl_12_X12_isLetter : ∀ q : vw_C, vwCl[12]? = some q → q.1 = yX12_isLetter.cls := fun q h => by cases h; rfl
theorem yw_X12_isLetter : yW yX12_isLetter cX12_isLetter 2 (some .boolean) 1 := ⟨tw_508, tw_467, by decide, by decide, by decide, by decide +kernel⟩
theorem yv_X12_isLetter : yV yX12_isLetter := ⟨tw_509, tw_510⟩
theorem tg_M_46 : ((46, 14, 13) : Nat × Nat × Nat) ∈ tsM := by decide
theorem fl_X12_66_12 : fL RX12 66 12 16 true := ⟨RX12, TX12, 60, rfl, fok_12, by decide, rfl, by decide, tw_511⟩
theorem fl_X12_63_12 : fL RX12 63 12 18 false := ⟨RX12, TX12, 60, rfl, fok_12, by decide, rfl, by decide, tw_512⟩
theorem pt_M_37_18 : ((37, 18, 46) : Nat × Nat × Nat) ∈ psM := by decide
theorem tg_M_45 : ((45, 13, 45) : Nat × Nat × Nat) ∈ tsM := by decide
theorem fl_X12_69_12 : fL RX12 69 12 17 false := ⟨RX12, TX12, 60, rfl, fok_12, by decide, rfl, by decide, tw_513⟩
theorem pt_M_37_17 : ((37, 17, 45) : Nat × Nat × Nat) ∈ psM := by decide
theorem fl_X12_73_12 : fL RX12 73 12 15 true := ⟨RX12, TX12, 60, rfl, fok_12, by decide, rfl, by decide, tw_514⟩
theorem fw_X12_73_12 (nm : String) : fW RX12 nm 73 12 15 true := ⟨fl_X12_73_12, fun C T N h => by cases h; exact Or.inl rfl⟩
theorem ycl_12_X12_isDigit : ∀ q : vw_C, vwCl[12]? = some q → q.1 = yX12_isDigit.cls := fun q h => by cases h; rfl
theorem yw_X12_isDigit : yW yX12_isDigit cX12_isDigit 2 (some .boolean) 1 := ⟨tw_516, tw_467, by decide, by decide, by decide, by decide +kernel⟩
theorem yv_X12_isDigit : yV yX12_isDigit := ⟨tw_517, tw_518⟩
theorem ycl_12_X12_readNumber : ∀ q : vw_C, vwCl[12]? = some q → q.1 = yX12_readNumber.cls := fun q h => by cases h; rfl
theorem yw_X12_readNumber : yW yX12_readNumber cX12_readNumber 1 none 0 := ⟨tw_520, tw_467, by decide, by decide, by decide, by decide +kernel⟩
theorem yv_X12_readNumber : yV yX12_readNumber := ⟨tw_521, tw_522⟩
theorem ycl_12_X12_readWord : ∀ q : vw_C, vwCl[12]? = some q → q.1 = yX12_readWord.cls := fun q h => by cases h; rfl
theorem yw_X12_readWord : yW yX12_readWord cX12_readWord 5 none 0 := ⟨tw_524, tw_467, by decide, by decide, by decide, by decide +kernel⟩
theorem yv_X12_readWord : yV yX12_readWord := ⟨tw_525, tw_526⟩
theorem fw_X12_66_12 (nm : String) : fW RX12 nm 66 12 16 true := ⟨fl_X12_66_12, fun C T N h => by cases h; exact Or.inl rfl⟩
theorem fl_X12_92_12 : fL RX12 92 12 25 true := ⟨RX12, TX12, 60, rfl, fok_12, by decide, rfl, by decide, tw_527⟩
theorem fw_X12_92_12 (nm : String) : fW RX12 nm 92 12 25 true := ⟨fl_X12_92_12, fun C T N h => by cases h; exact Or.inl rfl⟩
theorem fl_X12_89_12 : fL RX12 89 12 24 true := ⟨RX12, TX12, 60, rfl, fok_12, by decide, rfl, by decide, tw_528⟩
theorem tg_M_47 : ((47, 14, 170) : Nat × Nat × Nat) ∈ tsM := by decide
theorem fl_X12_95_12 : fL RX12 95 12 20 true := ⟨RX12, TX12, 60, rfl, fok_12, by decide, rfl, by decide, tw_530⟩
theorem fl_X12_98_12 : fL RX12 98 12 19 false := ⟨RX12, TX12, 60, rfl, fok_12, by decide, rfl, by decide, tw_531⟩
theorem pt_M_37_19 : ((37, 19, 47) : Nat × Nat × Nat) ∈ psM := by decide
theorem fl_X12_104_12 : fL RX12 104 12 21 true := ⟨RX12, TX12, 60, rfl, fok_12, by decide, rfl, by decide, tw_532⟩
theorem fw_X12_95_12 (nm : String) : fW RX12 nm 95 12 20 true := ⟨fl_X12_95_12, fun C T N h => by cases h; exact Or.inl rfl⟩
theorem yw_X12_rank : yW yX12_rank cX12_rank 1 (some .int) 1 := ⟨tw_533, tw_467, by decide, by decide, by decide, by decide +kernel⟩
theorem ys_X12_rank : yS yX12_rank := tw_534
theorem ycl_12_X12_emit : ∀ q : vw_C, vwCl[12]? = some q → q.1 = yX12_emit.cls := fun q h => by cases h; rfl
theorem yw_X12_emit : yW yX12_emit cX12_emit 2 none 1 := ⟨tw_536, tw_467, by decide, by decide, by decide, by decide +kernel⟩
theorem yv_X12_emit : yV yX12_emit := ⟨tw_537, tw_538⟩
theorem fw_X12_104_12 (nm : String) : fW RX12 nm 104 12 21 true := ⟨fl_X12_104_12, fun C T N h => by cases h; exact Or.inl rfl⟩
theorem ycl_12_X12_isKey : ∀ q : vw_C, vwCl[12]? = some q → q.1 = yX12_isKey.cls := fun q h => by cases h; rfl
theorem yw_X12_isKey : yW yX12_isKey cX12_isKey 2 (some .boolean) 1 := ⟨tw_541, tw_467, by decide, by decide, by decide, by decide +kernel⟩
theorem yv_X12_isKey : yV yX12_isKey := ⟨tw_542, tw_543⟩
theorem ycl_12_X12_isSign : ∀ q : vw_C, vwCl[12]? = some q → q.1 = yX12_isSign.cls := fun q h => by cases h; rfl
theorem yw_X12_isSign : yW yX12_isSign cX12_isSign 2 (some .boolean) 1 := ⟨tw_544, tw_467, by decide, by decide, by decide, by decide +kernel⟩
theorem yv_X12_isSign : yV yX12_isSign := ⟨tw_545, tw_546⟩
theorem tg_M_48 : ((48, 15, 8) : Nat × Nat × Nat) ∈ tsM := by decide
theorem fl_X12_121_12 : fL RX12 121 12 22 true := ⟨RX12, TX12, 60, rfl, fok_12, by decide, rfl, by decide, tw_547⟩
theorem fl_X12_117_12 : fL RX12 117 12 23 false := ⟨RX12, TX12, 60, rfl, fok_12, by decide, rfl, by decide, tw_548⟩
theorem pt_M_37_23 : ((37, 23, 48) : Nat × Nat × Nat) ∈ psM := by decide
theorem ycl_12_X12_await : ∀ q : vw_C, vwCl[12]? = some q → q.1 = yX12_await.cls := fun q h => by cases h; rfl
theorem yw_X12_await : yW yX12_await cX12_await 2 none 1 := ⟨tw_551, tw_467, by decide, by decide, by decide, by decide +kernel⟩
theorem yv_X12_await : yV yX12_await := ⟨tw_552, tw_553⟩
theorem ycl_12_X12_doAll : ∀ q : vw_C, vwCl[12]? = some q → q.1 = yX12_doAll.cls := fun q h => by cases h; rfl
theorem yw_X12_doAll : yW yX12_doAll cX12_doAll 2 none 1 := ⟨tw_554, tw_467, by decide, by decide, by decide, by decide +kernel⟩
theorem yv_X12_doAll : yV yX12_doAll := ⟨tw_555, tw_556⟩
theorem fw_X12_121_12 (nm : String) : fW RX12 nm 121 12 22 true := ⟨fl_X12_121_12, fun C T N h => by cases h; exact Or.inl rfl⟩
theorem fw_X12_89_12 (nm : String) : fW RX12 nm 89 12 24 true := ⟨fl_X12_89_12, fun C T N h => by cases h; exact Or.inl rfl⟩
theorem ycl_12_X12_ahead : ∀ q : vw_C, vwCl[12]? = some q → q.1 = yX12_ahead.cls := fun q h => by cases h; rfl
theorem yw_X12_ahead : yW yX12_ahead cX12_ahead 3 (some .boolean) 1 := ⟨tw_558, tw_467, by decide, by decide, by decide, by decide +kernel⟩
theorem yv_X12_ahead : yV yX12_ahead := ⟨tw_559, tw_560⟩
theorem ycl_12_X12_closes : ∀ q : vw_C, vwCl[12]? = some q → q.1 = yX12_closes.cls := fun q h => by cases h; rfl
theorem yw_X12_closes : yW yX12_closes cX12_closes 1 (some .boolean) 0 := ⟨tw_563, tw_467, by decide, by decide, by decide, by decide +kernel⟩
theorem yv_X12_closes : yV yX12_closes := ⟨tw_564, tw_565⟩
theorem ycl_12_X12_between : ∀ q : vw_C, vwCl[12]? = some q → q.1 = yX12_between.cls := fun q h => by cases h; rfl
theorem yw_X12_between : yW yX12_between cX12_between 2 (some .boolean) 0 := ⟨tw_566, tw_467, by decide, by decide, by decide, by decide +kernel⟩
theorem yv_X12_between : yV yX12_between := ⟨tw_567, tw_568⟩
theorem ycl_12_X12_next : ∀ q : vw_C, vwCl[12]? = some q → q.1 = yX12_next.cls := fun q h => by cases h; rfl
theorem yw_X12_next : yW yX12_next cX12_next 2 none 0 := ⟨tw_570, tw_467, by decide, by decide, by decide, by decide +kernel⟩
theorem yv_X12_next : yV yX12_next := ⟨tw_571, tw_572⟩
theorem ycl_12_X12_readE : ∀ q : vw_C, vwCl[12]? = some q → q.1 = yX12_readE.cls := fun q h => by cases h; rfl
theorem yw_X12_readE : yW yX12_readE cX12_readE 5 (some .boolean) 1 := ⟨tw_574, tw_467, by decide, by decide, by decide, by decide +kernel⟩
theorem yv_X12_readE : yV yX12_readE := ⟨tw_575, tw_576⟩
theorem fl_X12_150_12 : fL RX12 150 12 9 true := ⟨RX12, TX12, 60, rfl, fok_12, by decide, rfl, by decide, tw_578⟩
theorem fw_X12_150_12 (nm : String) : fW RX12 nm 150 12 9 true := ⟨fl_X12_150_12, fun C T N h => by cases h; exact Or.inl rfl⟩
theorem ycl_12_X12_readAll : ∀ q : vw_C, vwCl[12]? = some q → q.1 = yX12_readAll.cls := fun q h => by cases h; rfl
theorem yw_X12_readAll : yW yX12_readAll cX12_readAll 3 (some .int) 1 := ⟨tw_579, tw_467, by decide, by decide, by decide, by decide +kernel⟩
theorem yv_X12_readAll : yV yX12_readAll := ⟨tw_580, tw_581⟩
theorem fw_X12_156_12 (nm : String) : fW RX12 nm 156 12 10 true := ⟨fl_X12_156_12, fun C T N h => by cases h; exact Or.inl rfl⟩
theorem tg_M_51 : ((51, 14, 8) : Nat × Nat × Nat) ∈ tsM := by decide
theorem fl_X12_170_12 : fL RX12 170 12 29 false := ⟨RX12, TX12, 60, rfl, fok_12, by decide, rfl, by decide, tw_582⟩
theorem pt_M_37_29 : ((37, 29, 51) : Nat × Nat × Nat) ∈ psM := by decide
theorem fl_X12_225_12 : fL RX12 225 12 28 true := ⟨RX12, TX12, 60, rfl, fok_12, by decide, rfl, by decide, tw_583⟩
theorem tg_M_52 : ((52, 14, 64) : Nat × Nat × Nat) ∈ tsM := by decide
theorem fl_X12_173_12 : fL RX12 173 12 30 false := ⟨RX12, TX12, 60, rfl, fok_12, by decide, rfl, by decide, tw_584⟩
theorem pt_M_37_30 : ((37, 30, 52) : Nat × Nat × Nat) ∈ psM := by decide
theorem ycl_12_X12_nameOn : ∀ q : vw_C, vwCl[12]? = some q → q.1 = yX12_nameOn.cls := fun q h => by cases h; rfl
theorem yw_X12_nameOn : yW yX12_nameOn cX12_nameOn 5 none 2 := ⟨tw_586, tw_467, by decide, by decide, by decide, by decide +kernel⟩
theorem yv_X12_nameOn : yV yX12_nameOn := ⟨tw_587, tw_588⟩
theorem fw_X12_225_12 (nm : String) : fW RX12 nm 225 12 28 true := ⟨fl_X12_225_12, fun C T N h => by cases h; exact Or.inl rfl⟩
theorem ycl_12_X12_likes : ∀ q : vw_C, vwCl[12]? = some q → q.1 = yX12_likes.cls := fun q h => by cases h; rfl
theorem yw_X12_likes : yW yX12_likes cX12_likes 3 (some .boolean) 2 := ⟨tw_591, tw_467, by decide, by decide, by decide, by decide +kernel⟩
theorem yv_X12_likes : yV yX12_likes := ⟨tw_592, tw_593⟩
theorem ycl_12_X12_rank_ : ∀ q : vw_C, vwCl[12]? = some q → q.1 = yX12_rank_.cls := fun q h => by cases h; rfl
theorem yw_X12_rank_ : yW yX12_rank_ cX12_rank_ 6 (some .int) 3 := ⟨tw_596, tw_467, by decide, by decide, by decide, by decide +kernel⟩
theorem yv_X12_rank_ : yV yX12_rank_ := ⟨tw_597, tw_598⟩
theorem ycl_12_X12_mayLie : ∀ q : vw_C, vwCl[12]? = some q → q.1 = yX12_mayLie.cls := fun q h => by cases h; rfl
theorem yw_X12_mayLie : yW yX12_mayLie cX12_mayLie 3 (some .boolean) 2 := ⟨tw_599, tw_467, by decide, by decide, by decide, by decide +kernel⟩
theorem yv_X12_mayLie : yV yX12_mayLie := ⟨tw_600, tw_601⟩
theorem fl_X12_246_12 : fL RX12 246 12 34 true := ⟨RX12, TX12, 60, rfl, fok_12, by decide, rfl, by decide, tw_602⟩
theorem fw_X12_246_12 (nm : String) : fW RX12 nm 246 12 34 true := ⟨fl_X12_246_12, fun C T N h => by cases h; exact Or.inl rfl⟩
theorem tg_M_53 : ((53, 14, 8) : Nat × Nat × Nat) ∈ tsM := by decide
theorem tg_M_54 : ((54, 14, 8) : Nat × Nat × Nat) ∈ tsM := by decide
theorem fl_X12_182_12 : fL RX12 182 12 33 false := ⟨RX12, TX12, 60, rfl, fok_12, by decide, rfl, by decide, tw_604⟩
theorem pt_M_37_33 : ((37, 33, 55) : Nat × Nat × Nat) ∈ psM := by decide
theorem fl_X12_179_12 : fL RX12 179 12 32 false := ⟨RX12, TX12, 60, rfl, fok_12, by decide, rfl, by decide, tw_605⟩
theorem pt_M_37_32 : ((37, 32, 54) : Nat × Nat × Nat) ∈ psM := by decide
theorem ycl_12_X12_choice : ∀ q : vw_C, vwCl[12]? = some q → q.1 = yX12_choice.cls := fun q h => by cases h; rfl
theorem yw_X12_choice : yW yX12_choice cX12_choice 7 (some .int) 2 := ⟨tw_606, tw_467, by decide, by decide, by decide, by decide +kernel⟩
theorem yv_X12_choice : yV yX12_choice := ⟨tw_607, tw_608⟩
theorem fl_X12_176_12 : fL RX12 176 12 31 false := ⟨RX12, TX12, 60, rfl, fok_12, by decide, rfl, by decide, tw_609⟩
theorem pt_M_37_31 : ((37, 31, 53) : Nat × Nat × Nat) ∈ psM := by decide
theorem tg_M_55 : ((55, 14, 8) : Nat × Nat × Nat) ∈ tsM := by decide
theorem ycl_12_X12_put : ∀ q : vw_C, vwCl[12]? = some q → q.1 = yX12_put.cls := fun q h => by cases h; rfl
theorem yw_X12_put : yW yX12_put cX12_put 3 none 2 := ⟨tw_611, tw_467, by decide, by decide, by decide, by decide +kernel⟩
theorem yv_X12_put : yV yX12_put := ⟨tw_612, tw_613⟩
theorem ycl_12_X12_layAll : ∀ q : vw_C, vwCl[12]? = some q → q.1 = yX12_layAll.cls := fun q h => by cases h; rfl
theorem yw_X12_layAll : yW yX12_layAll cX12_layAll 5 none 1 := ⟨tw_615, tw_467, by decide, by decide, by decide, by decide +kernel⟩
theorem yv_X12_layAll : yV yX12_layAll := ⟨tw_616, tw_617⟩
theorem fl_X12_259_12 : fL RX12 259 12 35 true := ⟨RX12, TX12, 60, rfl, fok_12, by decide, rfl, by decide, tw_619⟩
theorem fl_X12_262_12 : fL RX12 262 12 36 true := ⟨RX12, TX12, 60, rfl, fok_12, by decide, rfl, by decide, tw_620⟩
theorem fw_X12_262_12 (nm : String) : fW RX12 nm 262 12 36 true := ⟨fl_X12_262_12, fun C T N h => by cases h; exact Or.inl rfl⟩
theorem fw_X12_259_12 (nm : String) : fW RX12 nm 259 12 35 true := ⟨fl_X12_259_12, fun C T N h => by cases h; exact Or.inl rfl⟩
theorem ycl_12_X12_putBack : ∀ q : vw_C, vwCl[12]? = some q → q.1 = yX12_putBack.cls := fun q h => by cases h; rfl
theorem yw_X12_putBack : yW yX12_putBack cX12_putBack 2 none 1 := ⟨tw_622, tw_467, by decide, by decide, by decide, by decide +kernel⟩
theorem yv_X12_putBack : yV yX12_putBack := ⟨tw_623, tw_624⟩
theorem ycl_12_X12_ways : ∀ q : vw_C, vwCl[12]? = some q → q.1 = yX12_ways.cls := fun q h => by cases h; rfl
theorem yw_X12_ways : yW yX12_ways cX12_ways 8 none 3 := ⟨tw_625, tw_467, by decide, by decide, by decide, by decide +kernel⟩
theorem yv_X12_ways : yV yX12_ways := ⟨tw_626, tw_627⟩
theorem ycl_12_X12_goThrough : ∀ q : vw_C, vwCl[12]? = some q → q.1 = yX12_goThrough.cls := fun q h => by cases h; rfl
theorem yw_X12_goThrough : yW yX12_goThrough cX12_goThrough 2 none 1 := ⟨tw_629, tw_467, by decide, by decide, by decide, by decide +kernel⟩
theorem yv_X12_goThrough : yV yX12_goThrough := ⟨tw_630, tw_631⟩
theorem ycl_12_X12_asTheyCame : ∀ q : vw_C, vwCl[12]? = some q → q.1 = yX12_asTheyCame.cls := fun q h => by cases h; rfl
theorem yw_X12_asTheyCame : yW yX12_asTheyCame cX12_asTheyCame 2 none 0 := ⟨tw_633, tw_467, by decide, by decide, by decide, by decide +kernel⟩
theorem yv_X12_asTheyCame : yV yX12_asTheyCame := ⟨tw_634, tw_635⟩
theorem ycl_12_X12_couldLie : ∀ q : vw_C, vwCl[12]? = some q → q.1 = yX12_couldLie.cls := fun q h => by cases h; rfl
theorem yw_X12_couldLie : yW yX12_couldLie cX12_couldLie 3 (some .boolean) 2 := ⟨tw_637, tw_467, by decide, by decide, by decide, by decide +kernel⟩
theorem yv_X12_couldLie : yV yX12_couldLie := ⟨tw_638, tw_639⟩
theorem ycl_12_X12_isRow : ∀ q : vw_C, vwCl[12]? = some q → q.1 = yX12_isRow.cls := fun q h => by cases h; rfl
theorem yw_X12_isRow : yW yX12_isRow cX12_isRow 5 (some .boolean) 1 := ⟨tw_642, tw_467, by decide, by decide, by decide, by decide +kernel⟩
theorem yv_X12_isRow : yV yX12_isRow := ⟨tw_643, tw_644⟩
theorem yw_X12_bits : yW yX12_bits cX12_bits 3 (some .int) 1 := ⟨tw_645, tw_467, by decide, by decide, by decide, by decide +kernel⟩
theorem ys_X12_bits : yS yX12_bits := tw_646
theorem ycl_12_X12_mostFrom : ∀ q : vw_C, vwCl[12]? = some q → q.1 = yX12_mostFrom.cls := fun q h => by cases h; rfl
theorem yw_X12_mostFrom : yW yX12_mostFrom cX12_mostFrom 6 (some .int) 2 := ⟨tw_648, tw_467, by decide, by decide, by decide, by decide +kernel⟩
theorem yv_X12_mostFrom : yV yX12_mostFrom := ⟨tw_649, tw_650⟩
theorem tg_M_56 : ((56, 14, 3) : Nat × Nat × Nat) ∈ tsM := by decide
theorem fl_X12_185_12 : fL RX12 185 12 37 false := ⟨RX12, TX12, 60, rfl, fok_12, by decide, rfl, by decide, tw_651⟩
theorem pt_M_37_37 : ((37, 37, 56) : Nat × Nat × Nat) ∈ psM := by decide
theorem tg_M_59 : ((59, 14, 8) : Nat × Nat × Nat) ∈ tsM := by decide
theorem fl_X12_194_12 : fL RX12 194 12 44 false := ⟨RX12, TX12, 60, rfl, fok_12, by decide, rfl, by decide, tw_653⟩
theorem pt_M_37_44 : ((37, 44, 59) : Nat × Nat × Nat) ∈ psM := by decide
theorem tg_M_57 : ((57, 14, 9) : Nat × Nat × Nat) ∈ tsM := by decide
theorem fl_X12_296_12 : fL RX12 296 12 40 true := ⟨RX12, TX12, 60, rfl, fok_12, by decide, rfl, by decide, tw_655⟩
theorem fw_X12_296_12 (nm : String) : fW RX12 nm 296 12 40 true := ⟨fl_X12_296_12, fun C T N h => by cases h; exact Or.inl rfl⟩
theorem fl_X12_293_12 : fL RX12 293 12 39 true := ⟨RX12, TX12, 60, rfl, fok_12, by decide, rfl, by decide, tw_656⟩
theorem fw_X12_293_12 (nm : String) : fW RX12 nm 293 12 39 true := ⟨fl_X12_293_12, fun C T N h => by cases h; exact Or.inl rfl⟩
theorem fl_X12_188_12 : fL RX12 188 12 38 false := ⟨RX12, TX12, 60, rfl, fok_12, by decide, rfl, by decide, tw_657⟩
theorem pt_M_37_38 : ((37, 38, 57) : Nat × Nat × Nat) ∈ psM := by decide
theorem ycl_12_X12_orders : ∀ q : vw_C, vwCl[12]? = some q → q.1 = yX12_orders.cls := fun q h => by cases h; rfl
theorem yw_X12_orders : yW yX12_orders cX12_orders 6 none 3 := ⟨tw_658, tw_467, by decide, by decide, by decide, by decide +kernel⟩
theorem yv_X12_orders : yV yX12_orders := ⟨tw_659, tw_660⟩
theorem fl_X12_299_12 : fL RX12 299 12 41 true := ⟨RX12, TX12, 60, rfl, fok_12, by decide, rfl, by decide, tw_661⟩
theorem fl_X12_302_12 : fL RX12 302 12 42 true := ⟨RX12, TX12, 60, rfl, fok_12, by decide, rfl, by decide, tw_662⟩
theorem fw_X12_299_12 (nm : String) : fW RX12 nm 299 12 41 true := ⟨fl_X12_299_12, fun C T N h => by cases h; exact Or.inl rfl⟩
theorem fw_X12_302_12 (nm : String) : fW RX12 nm 302 12 42 true := ⟨fl_X12_302_12, fun C T N h => by cases h; exact Or.inl rfl⟩
theorem tg_M_58 : ((58, 14, 8) : Nat × Nat × Nat) ∈ tsM := by decide
theorem fl_X12_191_12 : fL RX12 191 12 43 false := ⟨RX12, TX12, 60, rfl, fok_12, by decide, rfl, by decide, tw_663⟩
theorem pt_M_37_43 : ((37, 43, 58) : Nat × Nat × Nat) ∈ psM := by decide
theorem ycl_12_X12_allOrders : ∀ q : vw_C, vwCl[12]? = some q → q.1 = yX12_allOrders.cls := fun q h => by cases h; rfl
theorem yw_X12_allOrders : yW yX12_allOrders cX12_allOrders 3 none 1 := ⟨tw_665, tw_467, by decide, by decide, by decide, by decide +kernel⟩
theorem yv_X12_allOrders : yV yX12_allOrders := ⟨tw_666, tw_667⟩
theorem yw_X12_divisor : yW yX12_divisor cX12_divisor 5 (some .int) 2 := ⟨tw_670, tw_467, by decide, by decide, by decide, by decide +kernel⟩
theorem ys_X12_divisor : yS yX12_divisor := tw_671
theorem tg_M_64 : ((64, 14, 4) : Nat × Nat × Nat) ∈ tsM := by decide
theorem fl_X12_209_12 : fL RX12 209 12 56 false := ⟨RX12, TX12, 60, rfl, fok_12, by decide, rfl, by decide, tw_674⟩
theorem pt_M_37_56 : ((37, 56, 64) : Nat × Nat × Nat) ∈ psM := by decide
theorem yw_X12_isSheet : yW yX12_isSheet cX12_isSheet 1 (some .boolean) 1 := ⟨tw_675, tw_467, by decide, by decide, by decide, by decide +kernel⟩
theorem ys_X12_isSheet : yS yX12_isSheet := tw_676
theorem tg_M_65 : ((65, 14, 4) : Nat × Nat × Nat) ∈ tsM := by decide
theorem tg_M_66 : ((66, 14, 160) : Nat × Nat × Nat) ∈ tsM := by decide
theorem fl_X12_215_12 : fL RX12 215 12 58 false := ⟨RX12, TX12, 60, rfl, fok_12, by decide, rfl, by decide, tw_677⟩
theorem pt_M_37_58 : ((37, 58, 66) : Nat × Nat × Nat) ∈ psM := by decide
theorem fl_X12_212_12 : fL RX12 212 12 57 false := ⟨RX12, TX12, 60, rfl, fok_12, by decide, rfl, by decide, tw_678⟩
theorem pt_M_37_57 : ((37, 57, 65) : Nat × Nat × Nat) ∈ psM := by decide
theorem tg_M_60 : ((60, 14, 8) : Nat × Nat × Nat) ∈ tsM := by decide
theorem tg_M_61 : ((61, 14, 64) : Nat × Nat × Nat) ∈ tsM := by decide
theorem yw_X12_move : yW yX12_move cX12_move 3 none 2 := ⟨tw_680, tw_467, by decide, by decide, by decide, by decide +kernel⟩
theorem ys_X12_move : yS yX12_move := tw_681
theorem fl_X12_200_12 : fL RX12 200 12 48 false := ⟨RX12, TX12, 60, rfl, fok_12, by decide, rfl, by decide, tw_682⟩
theorem pt_M_37_48 : ((37, 48, 61) : Nat × Nat × Nat) ∈ psM := by decide
theorem fl_X12_197_12 : fL RX12 197 12 47 false := ⟨RX12, TX12, 60, rfl, fok_12, by decide, rfl, by decide, tw_683⟩
theorem pt_M_37_47 : ((37, 47, 60) : Nat × Nat × Nat) ∈ psM := by decide
theorem fl_X12_323_12 : fL RX12 323 12 46 true := ⟨RX12, TX12, 60, rfl, fok_12, by decide, rfl, by decide, tw_684⟩
theorem fw_X12_323_12 (nm : String) : fW RX12 nm 323 12 46 true := ⟨fl_X12_323_12, fun C T N h => by cases h; exact Or.inl rfl⟩
theorem fl_X12_320_12 : fL RX12 320 12 45 true := ⟨RX12, TX12, 60, rfl, fok_12, by decide, rfl, by decide, tw_685⟩
theorem fw_X12_320_12 (nm : String) : fW RX12 nm 320 12 45 true := ⟨fl_X12_320_12, fun C T N h => by cases h; exact Or.inl rfl⟩
theorem tg_M_62 : ((62, 14, 8) : Nat × Nat × Nat) ∈ tsM := by decide
theorem tg_M_63 : ((63, 14, 64) : Nat × Nat × Nat) ∈ tsM := by decide
theorem fl_X12_206_12 : fL RX12 206 12 55 false := ⟨RX12, TX12, 60, rfl, fok_12, by decide, rfl, by decide, tw_686⟩
theorem pt_M_37_55 : ((37, 55, 63) : Nat × Nat × Nat) ∈ psM := by decide
theorem fl_X12_203_12 : fL RX12 203 12 54 false := ⟨RX12, TX12, 60, rfl, fok_12, by decide, rfl, by decide, tw_687⟩
theorem pt_M_37_54 : ((37, 54, 62) : Nat × Nat × Nat) ∈ psM := by decide
theorem fl_X12_343_12 : fL RX12 343 12 53 true := ⟨RX12, TX12, 60, rfl, fok_12, by decide, rfl, by decide, tw_688⟩
theorem fw_X12_343_12 (nm : String) : fW RX12 nm 343 12 53 true := ⟨fl_X12_343_12, fun C T N h => by cases h; exact Or.inl rfl⟩
theorem fl_X12_340_12 : fL RX12 340 12 52 true := ⟨RX12, TX12, 60, rfl, fok_12, by decide, rfl, by decide, tw_689⟩
theorem fw_X12_340_12 (nm : String) : fW RX12 nm 340 12 52 true := ⟨fl_X12_340_12, fun C T N h => by cases h; exact Or.inl rfl⟩
theorem fl_X12_337_12 : fL RX12 337 12 51 true := ⟨RX12, TX12, 60, rfl, fok_12, by decide, rfl, by decide, tw_690⟩
theorem fw_X12_337_12 (nm : String) : fW RX12 nm 337 12 51 true := ⟨fl_X12_337_12, fun C T N h => by cases h; exact Or.inl rfl⟩
theorem fl_X12_334_12 : fL RX12 334 12 50 true := ⟨RX12, TX12, 60, rfl, fok_12, by decide, rfl, by decide, tw_691⟩
theorem fw_X12_334_12 (nm : String) : fW RX12 nm 334 12 50 true := ⟨fl_X12_334_12, fun C T N h => by cases h; exact Or.inl rfl⟩
theorem fl_X12_330_12 : fL RX12 330 12 49 true := ⟨RX12, TX12, 60, rfl, fok_12, by decide, rfl, by decide, tw_692⟩
theorem fw_X12_330_12 (nm : String) : fW RX12 nm 330 12 49 true := ⟨fl_X12_330_12, fun C T N h => by cases h; exact Or.inl rfl⟩
theorem tg_M_67 : ((67, 14, 40) : Nat × Nat × Nat) ∈ tsM := by decide
theorem fl_X12_218_12 : fL RX12 218 12 59 false := ⟨RX12, TX12, 60, rfl, fok_12, by decide, rfl, by decide, tw_693⟩
theorem pt_M_37_59 : ((37, 59, 67) : Nat × Nat × Nat) ∈ psM := by decide
theorem ycl_12_X12_plate : ∀ q : vw_C, vwCl[12]? = some q → q.1 = yX12_plate.cls := fun q h => by cases h; rfl
theorem yw_X12_plate : yW yX12_plate cX12_plate 3 (some .int) 2 := ⟨tw_696, tw_467, by decide, by decide, by decide, by decide +kernel⟩
theorem yv_X12_plate : yV yX12_plate := ⟨tw_697, tw_698⟩
theorem yw_J0_coder_7d493 : yW yJ0_coder_7d493 cJ0_coder_7d493 1 (some .byte) 0 := ⟨tw_702, tw_703, by decide, by decide, by decide, by decide +kernel⟩
theorem yv_J0_coder_7d493 : yV yJ0_coder_7d493 := ⟨tw_704, tw_705⟩
theorem yw_J3_checkIndex_8e157 : yW yJ3_checkIndex_8e157 cJ3_checkIndex_8e157 3 (some .int) 3 := ⟨tw_708, tw_709, by decide, by decide, by decide, by decide +kernel⟩
theorem ys_J3_checkIndex_8e157 : yS yJ3_checkIndex_8e157 := tw_710
theorem yw_J0_checkIndex_df160 : yW yJ0_checkIndex_df160 cJ0_checkIndex_df160 2 none 2 := ⟨tw_712, tw_703, by decide, by decide, by decide, by decide +kernel⟩
theorem ys_J0_checkIndex_df160 : yS yJ0_checkIndex_df160 := tw_713
theorem yw_J0_isLatin1_aae02 : yW yJ0_isLatin1_aae02 cJ0_isLatin1_aae02 1 (some .boolean) 0 := ⟨tw_715, tw_703, by decide, by decide, by decide, by decide +kernel⟩
theorem yv_J0_isLatin1_aae02 : yV yJ0_isLatin1_aae02 := ⟨tw_716, tw_717⟩
theorem yw_J1_charAt_3b067 : yW yJ1_charAt_3b067 cJ1_charAt_3b067 2 (some .char) 2 := ⟨tw_719, tw_720, by decide, by decide, by decide, by decide +kernel⟩
theorem ys_J1_charAt_3b067 : yS yJ1_charAt_3b067 := tw_721
theorem yw_J0_length_8abf5 : yW yJ0_length_8abf5 cJ0_length_8abf5 1 (some .int) 0 := ⟨tw_723, tw_703, by decide, by decide, by decide, by decide +kernel⟩
theorem yv_J0_length_8abf5 : yV yJ0_length_8abf5 := ⟨tw_724, tw_725⟩
theorem yw_J0_charAt_5068e : yW yJ0_charAt_5068e cJ0_charAt_5068e 2 (some .char) 1 := ⟨tw_726, tw_703, by decide, by decide, by decide, by decide +kernel⟩
theorem yv_J0_charAt_5068e : yV yJ0_charAt_5068e := ⟨tw_727, tw_728⟩
theorem yw_X2_rank : yW yX2_rank cX2_rank 5 (some .int) 4 := ⟨tw_741, tw_57, by decide, by decide, by decide, by decide +kernel⟩
theorem yw_X3_rank : yW yX3_rank cX3_rank 5 (some .int) 4 := ⟨tw_732, tw_42, by decide, by decide, by decide, by decide +kernel⟩
theorem yw_X8_rank : yW yX8_rank cX8_rank 5 (some .int) 4 := ⟨tw_742, tw_71, by decide, by decide, by decide, by decide +kernel⟩
theorem yw_X10_rank : yW yX10_rank cX10_rank 5 (some .int) 4 := ⟨tw_743, tw_64, by decide, by decide, by decide, by decide +kernel⟩
theorem yw_X3_likes : yW yX3_likes cX3_likes 3 (some .boolean) 2 := ⟨tw_747, tw_42, by decide, by decide, by decide, by decide +kernel⟩
theorem yw_X8_likes : yW yX8_likes cX8_likes 3 (some .boolean) 2 := ⟨tw_755, tw_71, by decide, by decide, by decide, by decide +kernel⟩
theorem yw_X10_likes : yW yX10_likes cX10_likes 3 (some .boolean) 2 := ⟨tw_756, tw_64, by decide, by decide, by decide, by decide +kernel⟩
