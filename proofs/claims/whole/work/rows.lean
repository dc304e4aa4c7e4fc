section
-- ===== PART A: goes FIRST, ahead of the names: the tables' words, and 'selects' of the private methods out of them =====
/-- a private method of a class that the tables say can be made, by its rows of tables_1 -/
def lw_okq (q : MethodName × Nat) : Prop := (q.1.cls ≠ "java/lang/invoke/MethodHandle" ∧ q.1.cls ≠ "java/lang/invoke/VarHandle") ∧ Cond.instantiable q.1.cls q.2 ∈ tables_1 ∧ Cond.privateMethod q.1 ∈ tables_1 ∧ Cond.instanceMethod q.1 ∈ tables_1
theorem lw_p0 : lw_okq (⟨"GreaterPlates$Reader", "advance", "()V"⟩, 9) := ⟨⟨by decide +kernel, by decide +kernel⟩, List.mem_of_getElem? (i := 35) (by decide +kernel), List.mem_of_getElem? (i := 199) (by decide +kernel), List.mem_of_getElem? (i := 200) (by decide +kernel)⟩
theorem lw_p1 : lw_okq (⟨"GreaterPlates$Reader", "scanWord", "()V"⟩, 9) := ⟨⟨by decide +kernel, by decide +kernel⟩, List.mem_of_getElem? (i := 35) (by decide +kernel), List.mem_of_getElem? (i := 206) (by decide +kernel), List.mem_of_getElem? (i := 207) (by decide +kernel)⟩
theorem lw_p2 : lw_okq (⟨"GreaterPlates$Reader", "spells", "(Ljava/lang/String;)Z"⟩, 9) := ⟨⟨by decide +kernel, by decide +kernel⟩, List.mem_of_getElem? (i := 35) (by decide +kernel), List.mem_of_getElem? (i := 211) (by decide +kernel), List.mem_of_getElem? (i := 212) (by decide +kernel)⟩
theorem lw_p3 : lw_okq (⟨"GreaterPlates$Reader", "scanNumber", "()V"⟩, 9) := ⟨⟨by decide +kernel, by decide +kernel⟩, List.mem_of_getElem? (i := 35) (by decide +kernel), List.mem_of_getElem? (i := 231) (by decide +kernel), List.mem_of_getElem? (i := 232) (by decide +kernel)⟩
theorem lw_p4 : lw_okq (⟨"GreaterPlates$Reader", "readPart", "(I)V"⟩, 9) := ⟨⟨by decide +kernel, by decide +kernel⟩, List.mem_of_getElem? (i := 35) (by decide +kernel), List.mem_of_getElem? (i := 238) (by decide +kernel), List.mem_of_getElem? (i := 239) (by decide +kernel)⟩
theorem lw_p5 : lw_okq (⟨"GreaterPlates$Reader", "pass", "(I)V"⟩, 9) := ⟨⟨by decide +kernel, by decide +kernel⟩, List.mem_of_getElem? (i := 35) (by decide +kernel), List.mem_of_getElem? (i := 242) (by decide +kernel), List.mem_of_getElem? (i := 243) (by decide +kernel)⟩
theorem lw_p6 : lw_okq (⟨"GreaterPlates$Reader", "fail", "()V"⟩, 9) := ⟨⟨by decide +kernel, by decide +kernel⟩, List.mem_of_getElem? (i := 35) (by decide +kernel), List.mem_of_getElem? (i := 246) (by decide +kernel), List.mem_of_getElem? (i := 247) (by decide +kernel)⟩
theorem lw_p7 : lw_okq (⟨"GreaterPlates$Reader", "readE", "(I)V"⟩, 9) := ⟨⟨by decide +kernel, by decide +kernel⟩, List.mem_of_getElem? (i := 35) (by decide +kernel), List.mem_of_getElem? (i := 250) (by decide +kernel), List.mem_of_getElem? (i := 251) (by decide +kernel)⟩
theorem lw_p8 : lw_okq (⟨"GreaterPlates$Reader", "readAnd", "(I)V"⟩, 9) := ⟨⟨by decide +kernel, by decide +kernel⟩, List.mem_of_getElem? (i := 35) (by decide +kernel), List.mem_of_getElem? (i := 254) (by decide +kernel), List.mem_of_getElem? (i := 255) (by decide +kernel)⟩
theorem lw_p9 : lw_okq (⟨"GreaterPlates$Reader", "readNot", "(I)V"⟩, 9) := ⟨⟨by decide +kernel, by decide +kernel⟩, List.mem_of_getElem? (i := 35) (by decide +kernel), List.mem_of_getElem? (i := 258) (by decide +kernel), List.mem_of_getElem? (i := 259) (by decide +kernel)⟩
theorem lw_p10 : lw_okq (⟨"GreaterPlates$Reader", "opens", "(I)Z"⟩, 9) := ⟨⟨by decide +kernel, by decide +kernel⟩, List.mem_of_getElem? (i := 35) (by decide +kernel), List.mem_of_getElem? (i := 262) (by decide +kernel), List.mem_of_getElem? (i := 263) (by decide +kernel)⟩
theorem lw_p11 : lw_okq (⟨"GreaterPlates$Reader", "add", "(I)V"⟩, 9) := ⟨⟨by decide +kernel, by decide +kernel⟩, List.mem_of_getElem? (i := 35) (by decide +kernel), List.mem_of_getElem? (i := 266) (by decide +kernel), List.mem_of_getElem? (i := 267) (by decide +kernel)⟩
theorem lw_p12 : lw_okq (⟨"GreaterPlates$Reader", "readSum", "(I)V"⟩, 9) := ⟨⟨by decide +kernel, by decide +kernel⟩, List.mem_of_getElem? (i := 35) (by decide +kernel), List.mem_of_getElem? (i := 270) (by decide +kernel), List.mem_of_getElem? (i := 271) (by decide +kernel)⟩
theorem lw_p13 : lw_okq (⟨"GreaterPlates$Reader", "readTerm", "(I)V"⟩, 9) := ⟨⟨by decide +kernel, by decide +kernel⟩, List.mem_of_getElem? (i := 35) (by decide +kernel), List.mem_of_getElem? (i := 274) (by decide +kernel), List.mem_of_getElem? (i := 275) (by decide +kernel)⟩
theorem lw_p14 : lw_okq (⟨"GreaterPlates$Reader", "readOne", "(I)V"⟩, 9) := ⟨⟨by decide +kernel, by decide +kernel⟩, List.mem_of_getElem? (i := 35) (by decide +kernel), List.mem_of_getElem? (i := 278) (by decide +kernel), List.mem_of_getElem? (i := 279) (by decide +kernel)⟩
theorem lw_p15 : lw_okq (⟨"GreaterPlates", "setHighest", "(I)I"⟩, 19) := ⟨⟨by decide +kernel, by decide +kernel⟩, List.mem_of_getElem? (i := 23) (by decide +kernel), List.mem_of_getElem? (i := 460) (by decide +kernel), List.mem_of_getElem? (i := 461) (by decide +kernel)⟩
def lw_privs_1 : List (MethodName × Nat) := [(⟨"GreaterPlates$Reader", "advance", "()V"⟩, 9), (⟨"GreaterPlates$Reader", "scanWord", "()V"⟩, 9), (⟨"GreaterPlates$Reader", "spells", "(Ljava/lang/String;)Z"⟩, 9), (⟨"GreaterPlates$Reader", "scanNumber", "()V"⟩, 9), (⟨"GreaterPlates$Reader", "readPart", "(I)V"⟩, 9), (⟨"GreaterPlates$Reader", "pass", "(I)V"⟩, 9), (⟨"GreaterPlates$Reader", "fail", "()V"⟩, 9), (⟨"GreaterPlates$Reader", "readE", "(I)V"⟩, 9), (⟨"GreaterPlates$Reader", "readAnd", "(I)V"⟩, 9), (⟨"GreaterPlates$Reader", "readNot", "(I)V"⟩, 9), (⟨"GreaterPlates$Reader", "opens", "(I)Z"⟩, 9), (⟨"GreaterPlates$Reader", "add", "(I)V"⟩, 9), (⟨"GreaterPlates$Reader", "readSum", "(I)V"⟩, 9), (⟨"GreaterPlates$Reader", "readTerm", "(I)V"⟩, 9), (⟨"GreaterPlates$Reader", "readOne", "(I)V"⟩, 9), (⟨"GreaterPlates", "setHighest", "(I)I"⟩, 19)]
theorem lw_r1 : ∀ q ∈ lw_privs_1, lw_okq q := List.forall_mem_cons.mpr ⟨lw_p0, List.forall_mem_cons.mpr ⟨lw_p1, List.forall_mem_cons.mpr ⟨lw_p2, List.forall_mem_cons.mpr ⟨lw_p3, List.forall_mem_cons.mpr ⟨lw_p4, List.forall_mem_cons.mpr ⟨lw_p5, List.forall_mem_cons.mpr ⟨lw_p6, List.forall_mem_cons.mpr ⟨lw_p7, List.forall_mem_cons.mpr ⟨lw_p8, List.forall_mem_cons.mpr ⟨lw_p9, List.forall_mem_cons.mpr ⟨lw_p10, List.forall_mem_cons.mpr ⟨lw_p11, List.forall_mem_cons.mpr ⟨lw_p12, List.forall_mem_cons.mpr ⟨lw_p13, List.forall_mem_cons.mpr ⟨lw_p14, List.forall_mem_cons.mpr ⟨lw_p15, fun _ h => absurd h List.not_mem_nil⟩⟩⟩⟩⟩⟩⟩⟩⟩⟩⟩⟩⟩⟩⟩⟩
theorem lw_p16 : lw_okq (⟨"GreaterPlates", "isPlate", "(I)Z"⟩, 19) := ⟨⟨by decide +kernel, by decide +kernel⟩, List.mem_of_getElem? (i := 23) (by decide +kernel), List.mem_of_getElem? (i := 464) (by decide +kernel), List.mem_of_getElem? (i := 465) (by decide +kernel)⟩
theorem lw_p17 : lw_okq (⟨"GreaterPlates", "layerAt", "(I)LGreaterPlates$Layer;"⟩, 19) := ⟨⟨by decide +kernel, by decide +kernel⟩, List.mem_of_getElem? (i := 23) (by decide +kernel), List.mem_of_getElem? (i := 472) (by decide +kernel), List.mem_of_getElem? (i := 473) (by decide +kernel)⟩
theorem lw_p18 : lw_okq (⟨"GreaterPlates", "worth", "(IIIII)I"⟩, 19) := ⟨⟨by decide +kernel, by decide +kernel⟩, List.mem_of_getElem? (i := 23) (by decide +kernel), List.mem_of_getElem? (i := 476) (by decide +kernel), List.mem_of_getElem? (i := 477) (by decide +kernel)⟩
theorem lw_p19 : lw_okq (⟨"GreaterPlates", "orderOfNow", "()V"⟩, 19) := ⟨⟨by decide +kernel, by decide +kernel⟩, List.mem_of_getElem? (i := 23) (by decide +kernel), List.mem_of_getElem? (i := 515) (by decide +kernel), List.mem_of_getElem? (i := 516) (by decide +kernel)⟩
theorem lw_p20 : lw_okq (⟨"GreaterPlates", "layInOrder", "(LGreaterPlates$Layer;I)I"⟩, 19) := ⟨⟨by decide +kernel, by decide +kernel⟩, List.mem_of_getElem? (i := 23) (by decide +kernel), List.mem_of_getElem? (i := 519) (by decide +kernel), List.mem_of_getElem? (i := 520) (by decide +kernel)⟩
theorem lw_p21 : lw_okq (⟨"GreaterPlates", "chosenBy", "(LGreaterPlates$Layer;LGreaterPlates$Heaps;I)I"⟩, 19) := ⟨⟨by decide +kernel, by decide +kernel⟩, List.mem_of_getElem? (i := 23) (by decide +kernel), List.mem_of_getElem? (i := 527) (by decide +kernel), List.mem_of_getElem? (i := 528) (by decide +kernel)⟩
theorem lw_p22 : lw_okq (⟨"GreaterPlates", "mayLie", "(LGreaterPlates$Heaps;II)Z"⟩, 19) := ⟨⟨by decide +kernel, by decide +kernel⟩, List.mem_of_getElem? (i := 23) (by decide +kernel), List.mem_of_getElem? (i := 531) (by decide +kernel), List.mem_of_getElem? (i := 532) (by decide +kernel)⟩
theorem lw_p23 : lw_okq (⟨"GreaterPlates", "rankOf", "(LGreaterPlates$Layer;LGreaterPlates$Heaps;II)I"⟩, 19) := ⟨⟨by decide +kernel, by decide +kernel⟩, List.mem_of_getElem? (i := 23) (by decide +kernel), List.mem_of_getElem? (i := 548) (by decide +kernel), List.mem_of_getElem? (i := 549) (by decide +kernel)⟩
theorem lw_p24 : lw_okq (⟨"GreaterPlates", "priceOf", "(III)I"⟩, 19) := ⟨⟨by decide +kernel, by decide +kernel⟩, List.mem_of_getElem? (i := 23) (by decide +kernel), List.mem_of_getElem? (i := 595) (by decide +kernel), List.mem_of_getElem? (i := 596) (by decide +kernel)⟩
theorem lw_p25 : lw_okq (⟨"GreaterPlates", "leastOf", "(III)I"⟩, 19) := ⟨⟨by decide +kernel, by decide +kernel⟩, List.mem_of_getElem? (i := 23) (by decide +kernel), List.mem_of_getElem? (i := 613) (by decide +kernel), List.mem_of_getElem? (i := 614) (by decide +kernel)⟩
theorem lw_p26 : lw_okq (⟨"GreaterPlates", "seekLess", "(IIII)V"⟩, 19) := ⟨⟨by decide +kernel, by decide +kernel⟩, List.mem_of_getElem? (i := 23) (by decide +kernel), List.mem_of_getElem? (i := 617) (by decide +kernel), List.mem_of_getElem? (i := 618) (by decide +kernel)⟩
theorem lw_p27 : lw_okq (⟨"GreaterPlates", "fillCover", "()V"⟩, 19) := ⟨⟨by decide +kernel, by decide +kernel⟩, List.mem_of_getElem? (i := 23) (by decide +kernel), List.mem_of_getElem? (i := 633) (by decide +kernel), List.mem_of_getElem? (i := 634) (by decide +kernel)⟩
theorem lw_p28 : lw_okq (⟨"GreaterPlates", "isRow", "(I)Z"⟩, 19) := ⟨⟨by decide +kernel, by decide +kernel⟩, List.mem_of_getElem? (i := 23) (by decide +kernel), List.mem_of_getElem? (i := 637) (by decide +kernel), List.mem_of_getElem? (i := 638) (by decide +kernel)⟩
theorem lw_p29 : lw_okq (⟨"GreaterPlates", "rowsThatMake", "(I)I"⟩, 19) := ⟨⟨by decide +kernel, by decide +kernel⟩, List.mem_of_getElem? (i := 23) (by decide +kernel), List.mem_of_getElem? (i := 644) (by decide +kernel), List.mem_of_getElem? (i := 645) (by decide +kernel)⟩
theorem lw_p30 : lw_okq (⟨"GreaterPlates", "goThroughOrders", "(LGreaterPlates$Layer;)V"⟩, 19) := ⟨⟨by decide +kernel, by decide +kernel⟩, List.mem_of_getElem? (i := 23) (by decide +kernel), List.mem_of_getElem? (i := 662) (by decide +kernel), List.mem_of_getElem? (i := 663) (by decide +kernel)⟩
theorem lw_p31 : lw_okq (⟨"GreaterPlates", "goOn", "(LGreaterPlates$Layer;II)V"⟩, 19) := ⟨⟨by decide +kernel, by decide +kernel⟩, List.mem_of_getElem? (i := 23) (by decide +kernel), List.mem_of_getElem? (i := 670) (by decide +kernel), List.mem_of_getElem? (i := 671) (by decide +kernel)⟩
def lw_privs_2 : List (MethodName × Nat) := [(⟨"GreaterPlates", "isPlate", "(I)Z"⟩, 19), (⟨"GreaterPlates", "layerAt", "(I)LGreaterPlates$Layer;"⟩, 19), (⟨"GreaterPlates", "worth", "(IIIII)I"⟩, 19), (⟨"GreaterPlates", "orderOfNow", "()V"⟩, 19), (⟨"GreaterPlates", "layInOrder", "(LGreaterPlates$Layer;I)I"⟩, 19), (⟨"GreaterPlates", "chosenBy", "(LGreaterPlates$Layer;LGreaterPlates$Heaps;I)I"⟩, 19), (⟨"GreaterPlates", "mayLie", "(LGreaterPlates$Heaps;II)Z"⟩, 19), (⟨"GreaterPlates", "rankOf", "(LGreaterPlates$Layer;LGreaterPlates$Heaps;II)I"⟩, 19), (⟨"GreaterPlates", "priceOf", "(III)I"⟩, 19), (⟨"GreaterPlates", "leastOf", "(III)I"⟩, 19), (⟨"GreaterPlates", "seekLess", "(IIII)V"⟩, 19), (⟨"GreaterPlates", "fillCover", "()V"⟩, 19), (⟨"GreaterPlates", "isRow", "(I)Z"⟩, 19), (⟨"GreaterPlates", "rowsThatMake", "(I)I"⟩, 19), (⟨"GreaterPlates", "goThroughOrders", "(LGreaterPlates$Layer;)V"⟩, 19), (⟨"GreaterPlates", "goOn", "(LGreaterPlates$Layer;II)V"⟩, 19)]
theorem lw_r2 : ∀ q ∈ lw_privs_2, lw_okq q := List.forall_mem_cons.mpr ⟨lw_p16, List.forall_mem_cons.mpr ⟨lw_p17, List.forall_mem_cons.mpr ⟨lw_p18, List.forall_mem_cons.mpr ⟨lw_p19, List.forall_mem_cons.mpr ⟨lw_p20, List.forall_mem_cons.mpr ⟨lw_p21, List.forall_mem_cons.mpr ⟨lw_p22, List.forall_mem_cons.mpr ⟨lw_p23, List.forall_mem_cons.mpr ⟨lw_p24, List.forall_mem_cons.mpr ⟨lw_p25, List.forall_mem_cons.mpr ⟨lw_p26, List.forall_mem_cons.mpr ⟨lw_p27, List.forall_mem_cons.mpr ⟨lw_p28, List.forall_mem_cons.mpr ⟨lw_p29, List.forall_mem_cons.mpr ⟨lw_p30, List.forall_mem_cons.mpr ⟨lw_p31, fun _ h => absurd h List.not_mem_nil⟩⟩⟩⟩⟩⟩⟩⟩⟩⟩⟩⟩⟩⟩⟩⟩
theorem lw_p32 : lw_okq (⟨"GreaterPlates", "noteOrder", "()V"⟩, 19) := ⟨⟨by decide +kernel, by decide +kernel⟩, List.mem_of_getElem? (i := 23) (by decide +kernel), List.mem_of_getElem? (i := 674) (by decide +kernel), List.mem_of_getElem? (i := 675) (by decide +kernel)⟩
theorem lw_p33 : lw_okq (⟨"GreaterPlates", "firstOut", "(I)I"⟩, 19) := ⟨⟨by decide +kernel, by decide +kernel⟩, List.mem_of_getElem? (i := 23) (by decide +kernel), List.mem_of_getElem? (i := 701) (by decide +kernel), List.mem_of_getElem? (i := 702) (by decide +kernel)⟩
theorem lw_p34 : lw_okq (⟨"GreaterPlates", "firstSwap", "(I)I"⟩, 19) := ⟨⟨by decide +kernel, by decide +kernel⟩, List.mem_of_getElem? (i := 23) (by decide +kernel), List.mem_of_getElem? (i := 705) (by decide +kernel), List.mem_of_getElem? (i := 706) (by decide +kernel)⟩
theorem lw_p35 : lw_okq (⟨"GreaterPlates", "changeAbout", "(II)V"⟩, 19) := ⟨⟨by decide +kernel, by decide +kernel⟩, List.mem_of_getElem? (i := 23) (by decide +kernel), List.mem_of_getElem? (i := 709) (by decide +kernel), List.mem_of_getElem? (i := 710) (by decide +kernel)⟩
theorem lw_p36 : lw_okq (⟨"GreaterPlates", "riseBehind", "(II)I"⟩, 19) := ⟨⟨by decide +kernel, by decide +kernel⟩, List.mem_of_getElem? (i := 23) (by decide +kernel), List.mem_of_getElem? (i := 717) (by decide +kernel), List.mem_of_getElem? (i := 718) (by decide +kernel)⟩
theorem lw_p37 : lw_okq (⟨"GreaterPlates", "sheetAt", "(I)LGreaterPlates$Sheet;"⟩, 19) := ⟨⟨by decide +kernel, by decide +kernel⟩, List.mem_of_getElem? (i := 23) (by decide +kernel), List.mem_of_getElem? (i := 725) (by decide +kernel), List.mem_of_getElem? (i := 726) (by decide +kernel)⟩
theorem lw_p38 : lw_okq (⟨"GreaterPlates", "laysJustSo", "(LGreaterPlates$Layer;LGreaterPlates$Sheet;)Z"⟩, 19) := ⟨⟨by decide +kernel, by decide +kernel⟩, List.mem_of_getElem? (i := 23) (by decide +kernel), List.mem_of_getElem? (i := 737) (by decide +kernel), List.mem_of_getElem? (i := 738) (by decide +kernel)⟩
theorem lw_p39 : lw_okq (⟨"GreaterPlatesModel", "isPlate", "(I)Z"⟩, 60) := ⟨⟨by decide +kernel, by decide +kernel⟩, List.mem_of_getElem? (i := 845) (by decide +kernel), List.mem_of_getElem? (i := 843) (by decide +kernel), List.mem_of_getElem? (i := 844) (by decide +kernel)⟩
theorem lw_p40 : lw_okq (⟨"GreaterPlatesModel", "isLayer", "(I)Z"⟩, 60) := ⟨⟨by decide +kernel, by decide +kernel⟩, List.mem_of_getElem? (i := 845) (by decide +kernel), List.mem_of_getElem? (i := 852) (by decide +kernel), List.mem_of_getElem? (i := 853) (by decide +kernel)⟩
theorem lw_p41 : lw_okq (⟨"GreaterPlatesModel", "name", "(IIIII)V"⟩, 60) := ⟨⟨by decide +kernel, by decide +kernel⟩, List.mem_of_getElem? (i := 845) (by decide +kernel), List.mem_of_getElem? (i := 856) (by decide +kernel), List.mem_of_getElem? (i := 857) (by decide +kernel)⟩
theorem lw_p42 : lw_okq (⟨"GreaterPlatesModel", "worthOf", "(I)I"⟩, 60) := ⟨⟨by decide +kernel, by decide +kernel⟩, List.mem_of_getElem? (i := 845) (by decide +kernel), List.mem_of_getElem? (i := 860) (by decide +kernel), List.mem_of_getElem? (i := 861) (by decide +kernel)⟩
theorem lw_p43 : lw_okq (⟨"GreaterPlatesModel", "readAll", "(I)I"⟩, 60) := ⟨⟨by decide +kernel, by decide +kernel⟩, List.mem_of_getElem? (i := 845) (by decide +kernel), List.mem_of_getElem? (i := 878) (by decide +kernel), List.mem_of_getElem? (i := 879) (by decide +kernel)⟩
theorem lw_p44 : lw_okq (⟨"GreaterPlatesModel", "next", "()V"⟩, 60) := ⟨⟨by decide +kernel, by decide +kernel⟩, List.mem_of_getElem? (i := 845) (by decide +kernel), List.mem_of_getElem? (i := 882) (by decide +kernel), List.mem_of_getElem? (i := 883) (by decide +kernel)⟩
theorem lw_p45 : lw_okq (⟨"GreaterPlatesModel", "isLetter", "(I)Z"⟩, 60) := ⟨⟨by decide +kernel, by decide +kernel⟩, List.mem_of_getElem? (i := 845) (by decide +kernel), List.mem_of_getElem? (i := 886) (by decide +kernel), List.mem_of_getElem? (i := 887) (by decide +kernel)⟩
theorem lw_p46 : lw_okq (⟨"GreaterPlatesModel", "readWord", "()V"⟩, 60) := ⟨⟨by decide +kernel, by decide +kernel⟩, List.mem_of_getElem? (i := 845) (by decide +kernel), List.mem_of_getElem? (i := 890) (by decide +kernel), List.mem_of_getElem? (i := 891) (by decide +kernel)⟩
theorem lw_p47 : lw_okq (⟨"GreaterPlatesModel", "isDigit", "(I)Z"⟩, 60) := ⟨⟨by decide +kernel, by decide +kernel⟩, List.mem_of_getElem? (i := 845) (by decide +kernel), List.mem_of_getElem? (i := 894) (by decide +kernel), List.mem_of_getElem? (i := 895) (by decide +kernel)⟩
def lw_privs_3 : List (MethodName × Nat) := [(⟨"GreaterPlates", "noteOrder", "()V"⟩, 19), (⟨"GreaterPlates", "firstOut", "(I)I"⟩, 19), (⟨"GreaterPlates", "firstSwap", "(I)I"⟩, 19), (⟨"GreaterPlates", "changeAbout", "(II)V"⟩, 19), (⟨"GreaterPlates", "riseBehind", "(II)I"⟩, 19), (⟨"GreaterPlates", "sheetAt", "(I)LGreaterPlates$Sheet;"⟩, 19), (⟨"GreaterPlates", "laysJustSo", "(LGreaterPlates$Layer;LGreaterPlates$Sheet;)Z"⟩, 19), (⟨"GreaterPlatesModel", "isPlate", "(I)Z"⟩, 60), (⟨"GreaterPlatesModel", "isLayer", "(I)Z"⟩, 60), (⟨"GreaterPlatesModel", "name", "(IIIII)V"⟩, 60), (⟨"GreaterPlatesModel", "worthOf", "(I)I"⟩, 60), (⟨"GreaterPlatesModel", "readAll", "(I)I"⟩, 60), (⟨"GreaterPlatesModel", "next", "()V"⟩, 60), (⟨"GreaterPlatesModel", "isLetter", "(I)Z"⟩, 60), (⟨"GreaterPlatesModel", "readWord", "()V"⟩, 60), (⟨"GreaterPlatesModel", "isDigit", "(I)Z"⟩, 60)]
theorem lw_r3 : ∀ q ∈ lw_privs_3, lw_okq q := List.forall_mem_cons.mpr ⟨lw_p32, List.forall_mem_cons.mpr ⟨lw_p33, List.forall_mem_cons.mpr ⟨lw_p34, List.forall_mem_cons.mpr ⟨lw_p35, List.forall_mem_cons.mpr ⟨lw_p36, List.forall_mem_cons.mpr ⟨lw_p37, List.forall_mem_cons.mpr ⟨lw_p38, List.forall_mem_cons.mpr ⟨lw_p39, List.forall_mem_cons.mpr ⟨lw_p40, List.forall_mem_cons.mpr ⟨lw_p41, List.forall_mem_cons.mpr ⟨lw_p42, List.forall_mem_cons.mpr ⟨lw_p43, List.forall_mem_cons.mpr ⟨lw_p44, List.forall_mem_cons.mpr ⟨lw_p45, List.forall_mem_cons.mpr ⟨lw_p46, List.forall_mem_cons.mpr ⟨lw_p47, fun _ h => absurd h List.not_mem_nil⟩⟩⟩⟩⟩⟩⟩⟩⟩⟩⟩⟩⟩⟩⟩⟩
theorem lw_p48 : lw_okq (⟨"GreaterPlatesModel", "readNumber", "()V"⟩, 60) := ⟨⟨by decide +kernel, by decide +kernel⟩, List.mem_of_getElem? (i := 845) (by decide +kernel), List.mem_of_getElem? (i := 898) (by decide +kernel), List.mem_of_getElem? (i := 899) (by decide +kernel)⟩
theorem lw_p49 : lw_okq (⟨"GreaterPlatesModel", "isKey", "(I)Z"⟩, 60) := ⟨⟨by decide +kernel, by decide +kernel⟩, List.mem_of_getElem? (i := 845) (by decide +kernel), List.mem_of_getElem? (i := 902) (by decide +kernel), List.mem_of_getElem? (i := 903) (by decide +kernel)⟩
theorem lw_p50 : lw_okq (⟨"GreaterPlatesModel", "readE", "(I)Z"⟩, 60) := ⟨⟨by decide +kernel, by decide +kernel⟩, List.mem_of_getElem? (i := 845) (by decide +kernel), List.mem_of_getElem? (i := 906) (by decide +kernel), List.mem_of_getElem? (i := 907) (by decide +kernel)⟩
theorem lw_p51 : lw_okq (⟨"GreaterPlatesModel", "emit", "(I)V"⟩, 60) := ⟨⟨by decide +kernel, by decide +kernel⟩, List.mem_of_getElem? (i := 845) (by decide +kernel), List.mem_of_getElem? (i := 910) (by decide +kernel), List.mem_of_getElem? (i := 911) (by decide +kernel)⟩
theorem lw_p52 : lw_okq (⟨"GreaterPlatesModel", "doAll", "(I)V"⟩, 60) := ⟨⟨by decide +kernel, by decide +kernel⟩, List.mem_of_getElem? (i := 845) (by decide +kernel), List.mem_of_getElem? (i := 914) (by decide +kernel), List.mem_of_getElem? (i := 915) (by decide +kernel)⟩
theorem lw_p53 : lw_okq (⟨"GreaterPlatesModel", "isSign", "(I)Z"⟩, 60) := ⟨⟨by decide +kernel, by decide +kernel⟩, List.mem_of_getElem? (i := 845) (by decide +kernel), List.mem_of_getElem? (i := 921) (by decide +kernel), List.mem_of_getElem? (i := 922) (by decide +kernel)⟩
theorem lw_p54 : lw_okq (⟨"GreaterPlatesModel", "ahead", "(Z)Z"⟩, 60) := ⟨⟨by decide +kernel, by decide +kernel⟩, List.mem_of_getElem? (i := 845) (by decide +kernel), List.mem_of_getElem? (i := 925) (by decide +kernel), List.mem_of_getElem? (i := 926) (by decide +kernel)⟩
theorem lw_p55 : lw_okq (⟨"GreaterPlatesModel", "await", "(I)V"⟩, 60) := ⟨⟨by decide +kernel, by decide +kernel⟩, List.mem_of_getElem? (i := 845) (by decide +kernel), List.mem_of_getElem? (i := 929) (by decide +kernel), List.mem_of_getElem? (i := 930) (by decide +kernel)⟩
theorem lw_p56 : lw_okq (⟨"GreaterPlatesModel", "between", "()Z"⟩, 60) := ⟨⟨by decide +kernel, by decide +kernel⟩, List.mem_of_getElem? (i := 845) (by decide +kernel), List.mem_of_getElem? (i := 933) (by decide +kernel), List.mem_of_getElem? (i := 934) (by decide +kernel)⟩
theorem lw_p57 : lw_okq (⟨"GreaterPlatesModel", "closes", "()Z"⟩, 60) := ⟨⟨by decide +kernel, by decide +kernel⟩, List.mem_of_getElem? (i := 845) (by decide +kernel), List.mem_of_getElem? (i := 937) (by decide +kernel), List.mem_of_getElem? (i := 938) (by decide +kernel)⟩
theorem lw_p58 : lw_okq (⟨"GreaterPlatesModel", "layAll", "(I)V"⟩, 60) := ⟨⟨by decide +kernel, by decide +kernel⟩, List.mem_of_getElem? (i := 845) (by decide +kernel), List.mem_of_getElem? (i := 1137) (by decide +kernel), List.mem_of_getElem? (i := 1138) (by decide +kernel)⟩
theorem lw_p59 : lw_okq (⟨"GreaterPlatesModel", "choice", "(II)I"⟩, 60) := ⟨⟨by decide +kernel, by decide +kernel⟩, List.mem_of_getElem? (i := 845) (by decide +kernel), List.mem_of_getElem? (i := 1141) (by decide +kernel), List.mem_of_getElem? (i := 1142) (by decide +kernel)⟩
theorem lw_p60 : lw_okq (⟨"GreaterPlatesModel", "mayLie", "(II)Z"⟩, 60) := ⟨⟨by decide +kernel, by decide +kernel⟩, List.mem_of_getElem? (i := 845) (by decide +kernel), List.mem_of_getElem? (i := 1145) (by decide +kernel), List.mem_of_getElem? (i := 1146) (by decide +kernel)⟩
theorem lw_p61 : lw_okq (⟨"GreaterPlatesModel", "nameOn", "(II)V"⟩, 60) := ⟨⟨by decide +kernel, by decide +kernel⟩, List.mem_of_getElem? (i := 845) (by decide +kernel), List.mem_of_getElem? (i := 1149) (by decide +kernel), List.mem_of_getElem? (i := 1150) (by decide +kernel)⟩
theorem lw_p62 : lw_okq (⟨"GreaterPlatesModel", "rank", "(III)I"⟩, 60) := ⟨⟨by decide +kernel, by decide +kernel⟩, List.mem_of_getElem? (i := 845) (by decide +kernel), List.mem_of_getElem? (i := 1153) (by decide +kernel), List.mem_of_getElem? (i := 1154) (by decide +kernel)⟩
theorem lw_p63 : lw_okq (⟨"GreaterPlatesModel", "likes", "(II)Z"⟩, 60) := ⟨⟨by decide +kernel, by decide +kernel⟩, List.mem_of_getElem? (i := 845) (by decide +kernel), List.mem_of_getElem? (i := 1158) (by decide +kernel), List.mem_of_getElem? (i := 1159) (by decide +kernel)⟩
def lw_privs_4 : List (MethodName × Nat) := [(⟨"GreaterPlatesModel", "readNumber", "()V"⟩, 60), (⟨"GreaterPlatesModel", "isKey", "(I)Z"⟩, 60), (⟨"GreaterPlatesModel", "readE", "(I)Z"⟩, 60), (⟨"GreaterPlatesModel", "emit", "(I)V"⟩, 60), (⟨"GreaterPlatesModel", "doAll", "(I)V"⟩, 60), (⟨"GreaterPlatesModel", "isSign", "(I)Z"⟩, 60), (⟨"GreaterPlatesModel", "ahead", "(Z)Z"⟩, 60), (⟨"GreaterPlatesModel", "await", "(I)V"⟩, 60), (⟨"GreaterPlatesModel", "between", "()Z"⟩, 60), (⟨"GreaterPlatesModel", "closes", "()Z"⟩, 60), (⟨"GreaterPlatesModel", "layAll", "(I)V"⟩, 60), (⟨"GreaterPlatesModel", "choice", "(II)I"⟩, 60), (⟨"GreaterPlatesModel", "mayLie", "(II)Z"⟩, 60), (⟨"GreaterPlatesModel", "nameOn", "(II)V"⟩, 60), (⟨"GreaterPlatesModel", "rank", "(III)I"⟩, 60), (⟨"GreaterPlatesModel", "likes", "(II)Z"⟩, 60)]
theorem lw_r4 : ∀ q ∈ lw_privs_4, lw_okq q := List.forall_mem_cons.mpr ⟨lw_p48, List.forall_mem_cons.mpr ⟨lw_p49, List.forall_mem_cons.mpr ⟨lw_p50, List.forall_mem_cons.mpr ⟨lw_p51, List.forall_mem_cons.mpr ⟨lw_p52, List.forall_mem_cons.mpr ⟨lw_p53, List.forall_mem_cons.mpr ⟨lw_p54, List.forall_mem_cons.mpr ⟨lw_p55, List.forall_mem_cons.mpr ⟨lw_p56, List.forall_mem_cons.mpr ⟨lw_p57, List.forall_mem_cons.mpr ⟨lw_p58, List.forall_mem_cons.mpr ⟨lw_p59, List.forall_mem_cons.mpr ⟨lw_p60, List.forall_mem_cons.mpr ⟨lw_p61, List.forall_mem_cons.mpr ⟨lw_p62, List.forall_mem_cons.mpr ⟨lw_p63, fun _ h => absurd h List.not_mem_nil⟩⟩⟩⟩⟩⟩⟩⟩⟩⟩⟩⟩⟩⟩⟩⟩
theorem lw_p64 : lw_okq (⟨"GreaterPlatesModel", "put", "(II)V"⟩, 60) := ⟨⟨by decide +kernel, by decide +kernel⟩, List.mem_of_getElem? (i := 845) (by decide +kernel), List.mem_of_getElem? (i := 1162) (by decide +kernel), List.mem_of_getElem? (i := 1163) (by decide +kernel)⟩
theorem lw_p65 : lw_okq (⟨"GreaterPlatesModel", "goThrough", "(I)V"⟩, 60) := ⟨⟨by decide +kernel, by decide +kernel⟩, List.mem_of_getElem? (i := 845) (by decide +kernel), List.mem_of_getElem? (i := 1174) (by decide +kernel), List.mem_of_getElem? (i := 1175) (by decide +kernel)⟩
theorem lw_p66 : lw_okq (⟨"GreaterPlatesModel", "ways", "(III)V"⟩, 60) := ⟨⟨by decide +kernel, by decide +kernel⟩, List.mem_of_getElem? (i := 845) (by decide +kernel), List.mem_of_getElem? (i := 1178) (by decide +kernel), List.mem_of_getElem? (i := 1179) (by decide +kernel)⟩
theorem lw_p67 : lw_okq (⟨"GreaterPlatesModel", "putBack", "(I)V"⟩, 60) := ⟨⟨by decide +kernel, by decide +kernel⟩, List.mem_of_getElem? (i := 845) (by decide +kernel), List.mem_of_getElem? (i := 1182) (by decide +kernel), List.mem_of_getElem? (i := 1183) (by decide +kernel)⟩
theorem lw_p68 : lw_okq (⟨"GreaterPlatesModel", "asTheyCame", "()V"⟩, 60) := ⟨⟨by decide +kernel, by decide +kernel⟩, List.mem_of_getElem? (i := 845) (by decide +kernel), List.mem_of_getElem? (i := 1190) (by decide +kernel), List.mem_of_getElem? (i := 1191) (by decide +kernel)⟩
theorem lw_p69 : lw_okq (⟨"GreaterPlatesModel", "isRow", "(I)Z"⟩, 60) := ⟨⟨by decide +kernel, by decide +kernel⟩, List.mem_of_getElem? (i := 845) (by decide +kernel), List.mem_of_getElem? (i := 1201) (by decide +kernel), List.mem_of_getElem? (i := 1202) (by decide +kernel)⟩
theorem lw_p70 : lw_okq (⟨"GreaterPlatesModel", "couldLie", "(II)Z"⟩, 60) := ⟨⟨by decide +kernel, by decide +kernel⟩, List.mem_of_getElem? (i := 845) (by decide +kernel), List.mem_of_getElem? (i := 1205) (by decide +kernel), List.mem_of_getElem? (i := 1206) (by decide +kernel)⟩
theorem lw_p71 : lw_okq (⟨"GreaterPlatesModel", "mostFrom", "(II)I"⟩, 60) := ⟨⟨by decide +kernel, by decide +kernel⟩, List.mem_of_getElem? (i := 845) (by decide +kernel), List.mem_of_getElem? (i := 1213) (by decide +kernel), List.mem_of_getElem? (i := 1214) (by decide +kernel)⟩
theorem lw_p72 : lw_okq (⟨"GreaterPlatesModel", "allOrders", "(I)V"⟩, 60) := ⟨⟨by decide +kernel, by decide +kernel⟩, List.mem_of_getElem? (i := 845) (by decide +kernel), List.mem_of_getElem? (i := 1226) (by decide +kernel), List.mem_of_getElem? (i := 1227) (by decide +kernel)⟩
theorem lw_p73 : lw_okq (⟨"GreaterPlatesModel", "orders", "(III)V"⟩, 60) := ⟨⟨by decide +kernel, by decide +kernel⟩, List.mem_of_getElem? (i := 845) (by decide +kernel), List.mem_of_getElem? (i := 1230) (by decide +kernel), List.mem_of_getElem? (i := 1231) (by decide +kernel)⟩
def lw_privs_5 : List (MethodName × Nat) := [(⟨"GreaterPlatesModel", "put", "(II)V"⟩, 60), (⟨"GreaterPlatesModel", "goThrough", "(I)V"⟩, 60), (⟨"GreaterPlatesModel", "ways", "(III)V"⟩, 60), (⟨"GreaterPlatesModel", "putBack", "(I)V"⟩, 60), (⟨"GreaterPlatesModel", "asTheyCame", "()V"⟩, 60), (⟨"GreaterPlatesModel", "isRow", "(I)Z"⟩, 60), (⟨"GreaterPlatesModel", "couldLie", "(II)Z"⟩, 60), (⟨"GreaterPlatesModel", "mostFrom", "(II)I"⟩, 60), (⟨"GreaterPlatesModel", "allOrders", "(I)V"⟩, 60), (⟨"GreaterPlatesModel", "orders", "(III)V"⟩, 60)]
theorem lw_r5 : ∀ q ∈ lw_privs_5, lw_okq q := List.forall_mem_cons.mpr ⟨lw_p64, List.forall_mem_cons.mpr ⟨lw_p65, List.forall_mem_cons.mpr ⟨lw_p66, List.forall_mem_cons.mpr ⟨lw_p67, List.forall_mem_cons.mpr ⟨lw_p68, List.forall_mem_cons.mpr ⟨lw_p69, List.forall_mem_cons.mpr ⟨lw_p70, List.forall_mem_cons.mpr ⟨lw_p71, List.forall_mem_cons.mpr ⟨lw_p72, List.forall_mem_cons.mpr ⟨lw_p73, fun _ h => absurd h List.not_mem_nil⟩⟩⟩⟩⟩⟩⟩⟩⟩⟩
def lw_privs : List (MethodName × Nat) := lw_privs_1 ++ (lw_privs_2 ++ (lw_privs_3 ++ (lw_privs_4 ++ (lw_privs_5))))
def lw_tbl : List Cond := k2_sels lw_privs ++ tables_1
theorem lw_privs_ok : ∀ q ∈ lw_privs, lw_okq q := by
  show ∀ q ∈ lw_privs_1 ++ (lw_privs_2 ++ (lw_privs_3 ++ (lw_privs_4 ++ (lw_privs_5)))), lw_okq q
  exact List.forall_mem_append.mpr ⟨lw_r1, List.forall_mem_append.mpr ⟨lw_r2, List.forall_mem_append.mpr ⟨lw_r3, List.forall_mem_append.mpr ⟨lw_r4, lw_r5⟩⟩⟩⟩
-- ===== end of PART A; then your names; then what follows =====
end
section
/-! names: classes, fields, methods (by program out of the printed names) -/
def RX0 : String := "GreaterPlates$Free"
def TX0 : u_T := fun k => match k with
  | 0 => ("GreaterPlates$Layer", "kind", "I", true)
  | _ => ("GreaterPlates$Layer", "number", "I", true)
def tyX0 : Nat → FieldType := fun k => match k with
  | 0 => .int
  | _ => .int
theorem nmX0 : ∀ a, a < 2 → ∀ b, b < 2 → a ≠ b → (TX0 a).2.1 ≠ (TX0 b).2.1 := by decide +kernel
theorem tyX0_ok : ∀ k, k < 2 → parseFieldDescriptor (TX0 k).2.2.1 = some (tyX0 k) := by decide +kernel
abbrev cX0_init : ByteArray := prog_2_method_1_code
def yX0_init : MethodName := ⟨RX0, "<init>", "(II)V"⟩
abbrev cX0_rank : ByteArray := prog_2_method_2_code
def yX0_rank : MethodName := ⟨RX0, "rank", "(IIII)I"⟩
def RX1 : String := "GreaterPlates$Heaps"
def TX1 : u_T := fun k => match k with
  | 0 => ("GreaterPlates$Heaps", "rows", "[I", true)
  | 1 => ("GreaterPlates$Heaps", "heights", "[I", true)
  | 2 => ("GreaterPlates$Heaps", "many", "I", false)
  | 3 => ("GreaterPlates$Heaps", "whereIs", "[I", true)
  | _ => ("GreaterPlates$Heaps", "beneath", "[I", true)
def tyX1 : Nat → FieldType := fun k => match k with
  | 0 => .array .int
  | 1 => .array .int
  | 2 => .int
  | 3 => .array .int
  | _ => .array .int
theorem nmX1 : ∀ a, a < 5 → ∀ b, b < 5 → a ≠ b → (TX1 a).2.1 ≠ (TX1 b).2.1 := by decide +kernel
theorem tyX1_ok : ∀ k, k < 5 → parseFieldDescriptor (TX1 k).2.2.1 = some (tyX1 k) := by decide +kernel
abbrev cX1_init : ByteArray := prog_3_method_1_code
def yX1_init : MethodName := ⟨RX1, "<init>", "()V"⟩
abbrev cX1_clear : ByteArray := prog_3_method_2_code
def yX1_clear : MethodName := ⟨RX1, "clear", "()V"⟩
abbrev cX1_has : ByteArray := prog_3_method_3_code
def yX1_has : MethodName := ⟨RX1, "has", "(I)Z"⟩
abbrev cX1_heightOf : ByteArray := prog_3_method_4_code
def yX1_heightOf : MethodName := ⟨RX1, "heightOf", "(I)I"⟩
abbrev cX1_at : ByteArray := prog_3_method_5_code
def yX1_at : MethodName := ⟨RX1, "at", "(II)I"⟩
abbrev cX1_topOf : ByteArray := prog_3_method_6_code
def yX1_topOf : MethodName := ⟨RX1, "topOf", "(I)I"⟩
abbrev cX1_put : ByteArray := prog_3_method_7_code
def yX1_put : MethodName := ⟨RX1, "put", "(II)V"⟩
abbrev cX1_drop : ByteArray := prog_3_method_8_code
def yX1_drop : MethodName := ⟨RX1, "drop", "(I)I"⟩
abbrev cX1_undo : ByteArray := prog_3_method_9_code
def yX1_undo : MethodName := ⟨RX1, "undo", "(I)V"⟩
abbrev cX1_become : ByteArray := prog_3_method_10_code
def yX1_become : MethodName := ⟨RX1, "become", "(LGreaterPlates$Heaps;)V"⟩
def RX2 : String := "GreaterPlates$High"
def TX2 : u_T := fun k => match k with
  | 0 => ("GreaterPlates$Layer", "kind", "I", true)
  | _ => ("GreaterPlates$Layer", "number", "I", true)
def tyX2 : Nat → FieldType := fun k => match k with
  | 0 => .int
  | _ => .int
theorem nmX2 : ∀ a, a < 2 → ∀ b, b < 2 → a ≠ b → (TX2 a).2.1 ≠ (TX2 b).2.1 := by decide +kernel
theorem tyX2_ok : ∀ k, k < 2 → parseFieldDescriptor (TX2 k).2.2.1 = some (tyX2 k) := by decide +kernel
abbrev cX2_init : ByteArray := prog_4_method_1_code
def yX2_init : MethodName := ⟨RX2, "<init>", "(II)V"⟩
abbrev cX2_rank : ByteArray := prog_4_method_2_code
def yX2_rank : MethodName := ⟨RX2, "rank", "(IIII)I"⟩
def RX3 : String := "GreaterPlates$Layer"
def TX3 : u_T := fun k => match k with
  | 0 => ("GreaterPlates$Layer", "kind", "I", true)
  | _ => ("GreaterPlates$Layer", "number", "I", true)
def tyX3 : Nat → FieldType := fun k => match k with
  | 0 => .int
  | _ => .int
theorem nmX3 : ∀ a, a < 2 → ∀ b, b < 2 → a ≠ b → (TX3 a).2.1 ≠ (TX3 b).2.1 := by decide +kernel
theorem tyX3_ok : ∀ k, k < 2 → parseFieldDescriptor (TX3 k).2.2.1 = some (tyX3 k) := by decide +kernel
abbrev cX3_init : ByteArray := prog_5_method_1_code
def yX3_init : MethodName := ⟨RX3, "<init>", "(II)V"⟩
abbrev cX3_rank : ByteArray := prog_5_method_2_code
def yX3_rank : MethodName := ⟨RX3, "rank", "(IIII)I"⟩
abbrev cX3_likes : ByteArray := prog_5_method_3_code
def yX3_likes : MethodName := ⟨RX3, "likes", "(II)Z"⟩
def RX4 : String := "GreaterPlates$Near"
def TX4 : u_T := fun k => match k with
  | 0 => ("GreaterPlates$Layer", "kind", "I", true)
  | _ => ("GreaterPlates$Layer", "number", "I", true)
def tyX4 : Nat → FieldType := fun k => match k with
  | 0 => .int
  | _ => .int
theorem nmX4 : ∀ a, a < 2 → ∀ b, b < 2 → a ≠ b → (TX4 a).2.1 ≠ (TX4 b).2.1 := by decide +kernel
theorem tyX4_ok : ∀ k, k < 2 → parseFieldDescriptor (TX4 k).2.2.1 = some (tyX4 k) := by decide +kernel
abbrev cX4_init : ByteArray := prog_6_method_1_code
def yX4_init : MethodName := ⟨RX4, "<init>", "(II)V"⟩
abbrev cX4_rank : ByteArray := prog_6_method_2_code
def yX4_rank : MethodName := ⟨RX4, "rank", "(IIII)I"⟩
abbrev cX4_likes : ByteArray := prog_6_method_3_code
def yX4_likes : MethodName := ⟨RX4, "likes", "(II)Z"⟩
def RX5 : String := "GreaterPlates$Reader"
def TX5 : u_T := fun k => match k with
  | 0 => ("GreaterPlates$Reader", "tape", "[I", true)
  | 1 => ("GreaterPlates$Reader", "size", "I", false)
  | 2 => ("GreaterPlates$Reader", "fault", "I", false)
  | 3 => ("GreaterPlates$Reader", "kind", "I", false)
  | 4 => ("GreaterPlates$Reader", "place", "I", false)
  | 5 => ("GreaterPlates$Reader", "behind", "I", false)
  | 6 => ("GreaterPlates$Reader", "number", "I", false)
  | 7 => ("GreaterPlates$Reader", "steps", "[I", true)
  | _ => ("GreaterPlates$Reader", "stepCount", "I", false)
def tyX5 : Nat → FieldType := fun k => match k with
  | 0 => .array .int
  | 1 => .int
  | 2 => .int
  | 3 => .int
  | 4 => .int
  | 5 => .int
  | 6 => .int
  | 7 => .array .int
  | _ => .int
theorem nmX5 : ∀ a, a < 9 → ∀ b, b < 9 → a ≠ b → (TX5 a).2.1 ≠ (TX5 b).2.1 := by decide +kernel
theorem tyX5_ok : ∀ k, k < 9 → parseFieldDescriptor (TX5 k).2.2.1 = some (tyX5 k) := by decide +kernel
abbrev cX5_init : ByteArray := prog_7_method_1_code
def yX5_init : MethodName := ⟨RX5, "<init>", "()V"⟩
abbrev cX5_append : ByteArray := prog_7_method_2_code
def yX5_append : MethodName := ⟨RX5, "append", "(I)Z"⟩
abbrev cX5_read : ByteArray := prog_7_method_3_code
def yX5_read : MethodName := ⟨RX5, "read", "()LGreaterPlates$Rule;"⟩
abbrev cX5_readPart : ByteArray := prog_7_method_4_code
def yX5_readPart : MethodName := ⟨RX5, "readPart", "(I)V"⟩
abbrev cX5_readE : ByteArray := prog_7_method_5_code
def yX5_readE : MethodName := ⟨RX5, "readE", "(I)V"⟩
abbrev cX5_readAnd : ByteArray := prog_7_method_6_code
def yX5_readAnd : MethodName := ⟨RX5, "readAnd", "(I)V"⟩
abbrev cX5_readNot : ByteArray := prog_7_method_7_code
def yX5_readNot : MethodName := ⟨RX5, "readNot", "(I)V"⟩
abbrev cX5_readSum : ByteArray := prog_7_method_8_code
def yX5_readSum : MethodName := ⟨RX5, "readSum", "(I)V"⟩
abbrev cX5_readTerm : ByteArray := prog_7_method_9_code
def yX5_readTerm : MethodName := ⟨RX5, "readTerm", "(I)V"⟩
abbrev cX5_readOne : ByteArray := prog_7_method_10_code
def yX5_readOne : MethodName := ⟨RX5, "readOne", "(I)V"⟩
abbrev cX5_opens : ByteArray := prog_7_method_11_code
def yX5_opens : MethodName := ⟨RX5, "opens", "(I)Z"⟩
abbrev cX5_pass : ByteArray := prog_7_method_12_code
def yX5_pass : MethodName := ⟨RX5, "pass", "(I)V"⟩
abbrev cX5_fail : ByteArray := prog_7_method_13_code
def yX5_fail : MethodName := ⟨RX5, "fail", "()V"⟩
abbrev cX5_add : ByteArray := prog_7_method_14_code
def yX5_add : MethodName := ⟨RX5, "add", "(I)V"⟩
abbrev cX5_advance : ByteArray := prog_7_method_15_code
def yX5_advance : MethodName := ⟨RX5, "advance", "()V"⟩
abbrev cX5_scanNumber : ByteArray := prog_7_method_16_code
def yX5_scanNumber : MethodName := ⟨RX5, "scanNumber", "()V"⟩
abbrev cX5_scanWord : ByteArray := prog_7_method_17_code
def yX5_scanWord : MethodName := ⟨RX5, "scanWord", "()V"⟩
abbrev cX5_spells : ByteArray := prog_7_method_18_code
def yX5_spells : MethodName := ⟨RX5, "spells", "(Ljava/lang/String;)Z"⟩
abbrev cX5_isLetter : ByteArray := prog_7_method_19_code
def yX5_isLetter : MethodName := ⟨RX5, "isLetter", "(I)Z"⟩
abbrev cX5_isDigit : ByteArray := prog_7_method_20_code
def yX5_isDigit : MethodName := ⟨RX5, "isDigit", "(I)Z"⟩
abbrev cX5_isSign : ByteArray := prog_7_method_21_code
def yX5_isSign : MethodName := ⟨RX5, "isSign", "(I)Z"⟩
def RX6 : String := "GreaterPlates$Rule"
def TX6 : u_T := fun k => match k with
  | 0 => ("GreaterPlates$Rule", "steps", "[I", true)
  | 1 => ("GreaterPlates$Rule", "paysFrom", "I", true)
  | 2 => ("GreaterPlates$Rule", "weighsFrom", "I", true)
  | 3 => ("GreaterPlates$Rule", "names", "[I", true)
  | _ => ("GreaterPlates$Rule", "stack", "[I", true)
def tyX6 : Nat → FieldType := fun k => match k with
  | 0 => .array .int
  | 1 => .int
  | 2 => .int
  | 3 => .array .int
  | _ => .array .int
theorem nmX6 : ∀ a, a < 5 → ∀ b, b < 5 → a ≠ b → (TX6 a).2.1 ≠ (TX6 b).2.1 := by decide +kernel
theorem tyX6_ok : ∀ k, k < 5 → parseFieldDescriptor (TX6 k).2.2.1 = some (tyX6 k) := by decide +kernel
abbrev cX6_init : ByteArray := prog_8_method_1_code
def yX6_init : MethodName := ⟨RX6, "<init>", "([III)V"⟩
abbrev cX6_about : ByteArray := prog_8_method_2_code
def yX6_about : MethodName := ⟨RX6, "about", "(IIIIII)V"⟩
abbrev cX6_value : ByteArray := prog_8_method_3_code
def yX6_value : MethodName := ⟨RX6, "value", "(I)I"⟩
abbrev cX6_joined : ByteArray := prog_8_method_4_code
def yX6_joined : MethodName := ⟨RX6, "joined", "(III)I"⟩
def RX7 : String := "GreaterPlates$Sheet"
def TX7 : u_T := fun k => match k with
  | 0 => ("GreaterPlates$Sheet", "items", "[I", true)
  | 1 => ("GreaterPlates$Sheet", "sort", "I", false)
  | _ => ("GreaterPlates$Sheet", "size", "I", false)
def tyX7 : Nat → FieldType := fun k => match k with
  | 0 => .array .int
  | 1 => .int
  | _ => .int
theorem nmX7 : ∀ a, a < 3 → ∀ b, b < 3 → a ≠ b → (TX7 a).2.1 ≠ (TX7 b).2.1 := by decide +kernel
theorem tyX7_ok : ∀ k, k < 3 → parseFieldDescriptor (TX7 k).2.2.1 = some (tyX7 k) := by decide +kernel
abbrev cX7_init : ByteArray := prog_9_method_1_code
def yX7_init : MethodName := ⟨RX7, "<init>", "()V"⟩
abbrev cX7_isMissing : ByteArray := prog_9_method_2_code
def yX7_isMissing : MethodName := ⟨RX7, "isMissing", "()Z"⟩
abbrev cX7_has : ByteArray := prog_9_method_3_code
def yX7_has : MethodName := ⟨RX7, "has", "(I)Z"⟩
abbrev cX7_hasSpan : ByteArray := prog_9_method_4_code
def yX7_hasSpan : MethodName := ⟨RX7, "hasSpan", "(II)Z"⟩
abbrev cX7_become : ByteArray := prog_9_method_5_code
def yX7_become : MethodName := ⟨RX7, "become", "(II)V"⟩
abbrev cX7_put : ByteArray := prog_9_method_6_code
def yX7_put : MethodName := ⟨RX7, "put", "(II)V"⟩
def RX8 : String := "GreaterPlates$Sulky"
def TX8 : u_T := fun k => match k with
  | 0 => ("GreaterPlates$Layer", "kind", "I", true)
  | _ => ("GreaterPlates$Layer", "number", "I", true)
def tyX8 : Nat → FieldType := fun k => match k with
  | 0 => .int
  | _ => .int
theorem nmX8 : ∀ a, a < 2 → ∀ b, b < 2 → a ≠ b → (TX8 a).2.1 ≠ (TX8 b).2.1 := by decide +kernel
theorem tyX8_ok : ∀ k, k < 2 → parseFieldDescriptor (TX8 k).2.2.1 = some (tyX8 k) := by decide +kernel
abbrev cX8_init : ByteArray := prog_10_method_1_code
def yX8_init : MethodName := ⟨RX8, "<init>", "(II)V"⟩
abbrev cX8_rank : ByteArray := prog_10_method_2_code
def yX8_rank : MethodName := ⟨RX8, "rank", "(IIII)I"⟩
abbrev cX8_likes : ByteArray := prog_10_method_3_code
def yX8_likes : MethodName := ⟨RX8, "likes", "(II)Z"⟩
def RX9 : String := "GreaterPlates$Table"
def TX9 : u_T := fun k => match k with
  | 0 => ("GreaterPlates$Table", "heaps", "LGreaterPlates$Heaps;", true)
  | 1 => ("GreaterPlates$Table", "laid", "I", false)
  | 2 => ("GreaterPlates$Table", "highest", "I", false)
  | _ => ("GreaterPlates$Table", "rule", "I", false)
def tyX9 : Nat → FieldType := fun k => match k with
  | 0 => .object "GreaterPlates$Heaps"
  | 1 => .int
  | 2 => .int
  | _ => .int
theorem nmX9 : ∀ a, a < 4 → ∀ b, b < 4 → a ≠ b → (TX9 a).2.1 ≠ (TX9 b).2.1 := by decide +kernel
theorem tyX9_ok : ∀ k, k < 4 → parseFieldDescriptor (TX9 k).2.2.1 = some (tyX9 k) := by decide +kernel
abbrev cX9_init : ByteArray := prog_11_method_1_code
def yX9_init : MethodName := ⟨RX9, "<init>", "()V"⟩
abbrev cX9_become : ByteArray := prog_11_method_2_code
def yX9_become : MethodName := ⟨RX9, "become", "(LGreaterPlates$Table;)V"⟩
def RX10 : String := "GreaterPlates$Told"
def TX10 : u_T := fun k => match k with
  | 0 => ("GreaterPlates$Layer", "kind", "I", true)
  | _ => ("GreaterPlates$Layer", "number", "I", true)
def tyX10 : Nat → FieldType := fun k => match k with
  | 0 => .int
  | _ => .int
theorem nmX10 : ∀ a, a < 2 → ∀ b, b < 2 → a ≠ b → (TX10 a).2.1 ≠ (TX10 b).2.1 := by decide +kernel
theorem tyX10_ok : ∀ k, k < 2 → parseFieldDescriptor (TX10 k).2.2.1 = some (tyX10 k) := by decide +kernel
abbrev cX10_init : ByteArray := prog_12_method_1_code
def yX10_init : MethodName := ⟨RX10, "<init>", "(II)V"⟩
abbrev cX10_rank : ByteArray := prog_12_method_2_code
def yX10_rank : MethodName := ⟨RX10, "rank", "(IIII)I"⟩
abbrev cX10_likes : ByteArray := prog_12_method_3_code
def yX10_likes : MethodName := ⟨RX10, "likes", "(II)Z"⟩
def RX11 : String := "GreaterPlates"
def TX11 : u_T := fun k => match k with
  | 0 => ("GreaterPlates", "sizes", "[I", true)
  | 1 => ("GreaterPlates", "depths", "[I", true)
  | 2 => ("GreaterPlates", "plateCount", "I", false)
  | 3 => ("GreaterPlates", "layers", "[LGreaterPlates$Layer;", true)
  | 4 => ("GreaterPlates", "layerCount", "I", false)
  | 5 => ("GreaterPlates", "texts", "[LGreaterPlates$Rule;", true)
  | 6 => ("GreaterPlates", "textCount", "I", false)
  | 7 => ("GreaterPlates", "reader", "LGreaterPlates$Reader;", true)
  | 8 => ("GreaterPlates", "now", "LGreaterPlates$Table;", true)
  | 9 => ("GreaterPlates", "kept", "LGreaterPlates$Table;", false)
  | 10 => ("GreaterPlates", "sheets", "[LGreaterPlates$Sheet;", true)
  | 11 => ("GreaterPlates", "work", "LGreaterPlates$Heaps;", true)
  | 12 => ("GreaterPlates", "order", "[I", true)
  | 13 => ("GreaterPlates", "least", "I", false)
  | 14 => ("GreaterPlates", "bestFound", "[I", true)
  | 15 => ("GreaterPlates", "tally", "[I", true)
  | 16 => ("GreaterPlates", "alike", "I", false)
  | 17 => ("GreaterPlates", "beneathNow", "[I", true)
  | _ => ("GreaterPlates", "cover", "[I", true)
def tyX11 : Nat → FieldType := fun k => match k with
  | 0 => .array .int
  | 1 => .array .int
  | 2 => .int
  | 3 => .array (.object "GreaterPlates$Layer")
  | 4 => .int
  | 5 => .array (.object "GreaterPlates$Rule")
  | 6 => .int
  | 7 => .object "GreaterPlates$Reader"
  | 8 => .object "GreaterPlates$Table"
  | 9 => .object "GreaterPlates$Table"
  | 10 => .array (.object "GreaterPlates$Sheet")
  | 11 => .object "GreaterPlates$Heaps"
  | 12 => .array .int
  | 13 => .int
  | 14 => .array .int
  | 15 => .array .int
  | 16 => .int
  | 17 => .array .int
  | _ => .array .int
theorem nmX11 : ∀ a, a < 19 → ∀ b, b < 19 → a ≠ b → (TX11 a).2.1 ≠ (TX11 b).2.1 := by decide +kernel
theorem tyX11_ok : ∀ k, k < 19 → parseFieldDescriptor (TX11 k).2.2.1 = some (tyX11 k) := by decide +kernel
abbrev cX11_init : ByteArray := prog_1_method_1_code
def yX11_init : MethodName := ⟨RX11, "<init>", "()V"⟩
abbrev cX11_plate : ByteArray := prog_1_method_2_code
def yX11_plate : MethodName := ⟨RX11, "plate", "(II)I"⟩
abbrev cX11_layer : ByteArray := prog_1_method_3_code
def yX11_layer : MethodName := ⟨RX11, "layer", "(II)I"⟩
abbrev cX11_set : ByteArray := prog_1_method_4_code
def yX11_set : MethodName := ⟨RX11, "set", "(III)I"⟩
abbrev cX11_setHighest : ByteArray := prog_1_method_5_code
def yX11_setHighest : MethodName := ⟨RX11, "setHighest", "(I)I"⟩
abbrev cX11_told : ByteArray := prog_1_method_6_code
def yX11_told : MethodName := ⟨RX11, "told", "(II)I"⟩
abbrev cX11_isPlate : ByteArray := prog_1_method_7_code
def yX11_isPlate : MethodName := ⟨RX11, "isPlate", "(I)Z"⟩
abbrev cX11_isMeasure : ByteArray := prog_1_method_8_code
def yX11_isMeasure : MethodName := ⟨RX11, "isMeasure", "(I)Z"⟩
abbrev cX11_layerAt : ByteArray := prog_1_method_9_code
def yX11_layerAt : MethodName := ⟨RX11, "layerAt", "(I)LGreaterPlates$Layer;"⟩
abbrev cX11_newLayer : ByteArray := prog_1_method_10_code
def yX11_newLayer : MethodName := ⟨RX11, "newLayer", "(II)LGreaterPlates$Layer;"⟩
abbrev cX11_feed : ByteArray := prog_1_method_11_code
def yX11_feed : MethodName := ⟨RX11, "feed", "(I)I"⟩
abbrev cX11_text : ByteArray := prog_1_method_12_code
def yX11_text : MethodName := ⟨RX11, "text", "()I"⟩
abbrev cX11_force : ByteArray := prog_1_method_13_code
def yX11_force : MethodName := ⟨RX11, "force", "(I)I"⟩
abbrev cX11_worth : ByteArray := prog_1_method_14_code
def yX11_worth : MethodName := ⟨RX11, "worth", "(IIIII)I"⟩
abbrev cX11_bounded : ByteArray := prog_1_method_15_code
def yX11_bounded : MethodName := ⟨RX11, "bounded", "(I)I"⟩
abbrev cX11_by : ByteArray := prog_1_method_16_code
def yX11_by : MethodName := ⟨RX11, "by", "(II)I"⟩
abbrev cX11_heapOf : ByteArray := prog_1_method_17_code
def yX11_heapOf : MethodName := ⟨RX11, "heapOf", "(II)I"⟩
abbrev cX11_fewest : ByteArray := prog_1_method_18_code
def yX11_fewest : MethodName := ⟨RX11, "fewest", "(I)I"⟩
abbrev cX11_longest : ByteArray := prog_1_method_19_code
def yX11_longest : MethodName := ⟨RX11, "longest", "(I)I"⟩
abbrev cX11_several : ByteArray := prog_1_method_20_code
def yX11_several : MethodName := ⟨RX11, "several", "(I)I"⟩
abbrev cX11_orderOfNow : ByteArray := prog_1_method_21_code
def yX11_orderOfNow : MethodName := ⟨RX11, "orderOfNow", "()V"⟩
abbrev cX11_layInOrder : ByteArray := prog_1_method_22_code
def yX11_layInOrder : MethodName := ⟨RX11, "layInOrder", "(LGreaterPlates$Layer;I)I"⟩
abbrev cX11_chosenBy : ByteArray := prog_1_method_23_code
def yX11_chosenBy : MethodName := ⟨RX11, "chosenBy", "(LGreaterPlates$Layer;LGreaterPlates$Heaps;I)I"⟩
abbrev cX11_rankOf : ByteArray := prog_1_method_24_code
def yX11_rankOf : MethodName := ⟨RX11, "rankOf", "(LGreaterPlates$Layer;LGreaterPlates$Heaps;II)I"⟩
abbrev cX11_mayLie : ByteArray := prog_1_method_25_code
def yX11_mayLie : MethodName := ⟨RX11, "mayLie", "(LGreaterPlates$Heaps;II)Z"⟩
abbrev cX11_priceOf : ByteArray := prog_1_method_26_code
def yX11_priceOf : MethodName := ⟨RX11, "priceOf", "(III)I"⟩
abbrev cX11_leastOf : ByteArray := prog_1_method_27_code
def yX11_leastOf : MethodName := ⟨RX11, "leastOf", "(III)I"⟩
abbrev cX11_seekLess : ByteArray := prog_1_method_28_code
def yX11_seekLess : MethodName := ⟨RX11, "seekLess", "(IIII)V"⟩
abbrev cX11_fillCover : ByteArray := prog_1_method_29_code
def yX11_fillCover : MethodName := ⟨RX11, "fillCover", "()V"⟩
abbrev cX11_isRow : ByteArray := prog_1_method_30_code
def yX11_isRow : MethodName := ⟨RX11, "isRow", "(I)Z"⟩
abbrev cX11_rowsThatMake : ByteArray := prog_1_method_31_code
def yX11_rowsThatMake : MethodName := ⟨RX11, "rowsThatMake", "(I)I"⟩
abbrev cX11_lastOf : ByteArray := prog_1_method_32_code
def yX11_lastOf : MethodName := ⟨RX11, "lastOf", "(I)I"⟩
abbrev cX11_orders : ByteArray := prog_1_method_33_code
def yX11_orders : MethodName := ⟨RX11, "orders", "(II)I"⟩
abbrev cX11_mean : ByteArray := prog_1_method_34_code
def yX11_mean : MethodName := ⟨RX11, "mean", "(II)J"⟩
abbrev cX11_bestOrder : ByteArray := prog_1_method_35_code
def yX11_bestOrder : MethodName := ⟨RX11, "bestOrder", "(II)I"⟩
abbrev cX11_came : ByteArray := prog_1_method_36_code
def yX11_came : MethodName := ⟨RX11, "came", "(I)I"⟩
abbrev cX11_less : ByteArray := prog_1_method_37_code
def yX11_less : MethodName := ⟨RX11, "less", "(I)I"⟩
abbrev cX11_rises : ByteArray := prog_1_method_38_code
def yX11_rises : MethodName := ⟨RX11, "rises", "(I)I"⟩
abbrev cX11_judge : ByteArray := prog_1_method_39_code
def yX11_judge : MethodName := ⟨RX11, "judge", "(I)I"⟩
abbrev cX11_stranger : ByteArray := prog_1_method_40_code
def yX11_stranger : MethodName := ⟨RX11, "stranger", "(I)I"⟩
abbrev cX11_laysJustSo : ByteArray := prog_1_method_41_code
def yX11_laysJustSo : MethodName := ⟨RX11, "laysJustSo", "(LGreaterPlates$Layer;LGreaterPlates$Sheet;)Z"⟩
abbrev cX11_goThroughOrders : ByteArray := prog_1_method_42_code
def yX11_goThroughOrders : MethodName := ⟨RX11, "goThroughOrders", "(LGreaterPlates$Layer;)V"⟩
abbrev cX11_goOn : ByteArray := prog_1_method_43_code
def yX11_goOn : MethodName := ⟨RX11, "goOn", "(LGreaterPlates$Layer;II)V"⟩
abbrev cX11_noteOrder : ByteArray := prog_1_method_44_code
def yX11_noteOrder : MethodName := ⟨RX11, "noteOrder", "()V"⟩
abbrev cX11_sharedDivisor : ByteArray := prog_1_method_45_code
def yX11_sharedDivisor : MethodName := ⟨RX11, "sharedDivisor", "(JJ)J"⟩
abbrev cX11_firstOut : ByteArray := prog_1_method_46_code
def yX11_firstOut : MethodName := ⟨RX11, "firstOut", "(I)I"⟩
abbrev cX11_firstSwap : ByteArray := prog_1_method_47_code
def yX11_firstSwap : MethodName := ⟨RX11, "firstSwap", "(I)I"⟩
abbrev cX11_changeAbout : ByteArray := prog_1_method_48_code
def yX11_changeAbout : MethodName := ⟨RX11, "changeAbout", "(II)V"⟩
abbrev cX11_riseBehind : ByteArray := prog_1_method_49_code
def yX11_riseBehind : MethodName := ⟨RX11, "riseBehind", "(II)I"⟩
abbrev cX11_lay : ByteArray := prog_1_method_50_code
def yX11_lay : MethodName := ⟨RX11, "lay", "(I)I"⟩
abbrev cX11_take : ByteArray := prog_1_method_51_code
def yX11_take : MethodName := ⟨RX11, "take", "(I)I"⟩
abbrev cX11_on : ByteArray := prog_1_method_52_code
def yX11_on : MethodName := ⟨RX11, "on", "(II)I"⟩
abbrev cX11_drawn : ByteArray := prog_1_method_53_code
def yX11_drawn : MethodName := ⟨RX11, "drawn", "(II)I"⟩
abbrev cX11_image : ByteArray := prog_1_method_54_code
def yX11_image : MethodName := ⟨RX11, "image", "()I"⟩
abbrev cX11_back : ByteArray := prog_1_method_55_code
def yX11_back : MethodName := ⟨RX11, "back", "()I"⟩
abbrev cX11_count : ByteArray := prog_1_method_56_code
def yX11_count : MethodName := ⟨RX11, "count", "(I)I"⟩
abbrev cX11_sheet : ByteArray := prog_1_method_57_code
def yX11_sheet : MethodName := ⟨RX11, "sheet", "(III)I"⟩
abbrev cX11_cell : ByteArray := prog_1_method_58_code
def yX11_cell : MethodName := ⟨RX11, "cell", "(III)I"⟩
abbrev cX11_copy : ByteArray := prog_1_method_59_code
def yX11_copy : MethodName := ⟨RX11, "copy", "(IIIII)I"⟩
abbrev cX11_plates : ByteArray := prog_1_method_60_code
def yX11_plates : MethodName := ⟨RX11, "plates", "(IIII)I"⟩
abbrev cX11_taken : ByteArray := prog_1_method_61_code
def yX11_taken : MethodName := ⟨RX11, "taken", "(II)I"⟩
abbrev cX11_sheetAt : ByteArray := prog_1_method_62_code
def yX11_sheetAt : MethodName := ⟨RX11, "sheetAt", "(I)LGreaterPlates$Sheet;"⟩
abbrev cX11_isUnder : ByteArray := prog_1_method_63_code
def yX11_isUnder : MethodName := ⟨RX11, "isUnder", "(LGreaterPlates$Layer;I)Z"⟩
def RX12 : String := "GreaterPlatesModel"
def TX12 : u_T := fun k => match k with
  | 0 => ("GreaterPlatesModel", "plates", "I", false)
  | 1 => ("GreaterPlatesModel", "size", "[I", true)
  | 2 => ("GreaterPlatesModel", "depth", "[I", true)
  | 3 => ("GreaterPlatesModel", "layers", "I", false)
  | 4 => ("GreaterPlatesModel", "kind", "[I", true)
  | 5 => ("GreaterPlatesModel", "number", "[I", true)
  | 6 => ("GreaterPlatesModel", "highest", "I", false)
  | 7 => ("GreaterPlatesModel", "tape", "[I", true)
  | 8 => ("GreaterPlatesModel", "taped", "I", false)
  | 9 => ("GreaterPlatesModel", "texts", "I", false)
  | 10 => ("GreaterPlatesModel", "rule", "I", false)
  | 11 => ("GreaterPlatesModel", "codes", "[I", true)
  | 12 => ("GreaterPlatesModel", "codeMany", "[I", true)
  | 13 => ("GreaterPlatesModel", "at", "I", false)
  | 14 => ("GreaterPlatesModel", "token", "I", false)
  | 15 => ("GreaterPlatesModel", "worth", "I", false)
  | 16 => ("GreaterPlatesModel", "place", "I", false)
  | 17 => ("GreaterPlatesModel", "letters", "[C", true)
  | 18 => ("GreaterPlatesModel", "begins", "[I", true)
  | 19 => ("GreaterPlatesModel", "waits", "[I", true)
  | 20 => ("GreaterPlatesModel", "waiting", "I", false)
  | 21 => ("GreaterPlatesModel", "open", "I", false)
  | 22 => ("GreaterPlatesModel", "nested", "I", false)
  | 23 => ("GreaterPlatesModel", "compared", "[Z", true)
  | 24 => ("GreaterPlatesModel", "codeAt", "I", false)
  | 25 => ("GreaterPlatesModel", "made", "I", false)
  | 26 => ("GreaterPlatesModel", "stack", "[I", true)
  | 27 => ("GreaterPlatesModel", "names", "[I", true)
  | 28 => ("GreaterPlatesModel", "heaps", "I", false)
  | 29 => ("GreaterPlatesModel", "on", "[I", true)
  | 30 => ("GreaterPlatesModel", "lies", "[I", true)
  | 31 => ("GreaterPlatesModel", "turn", "[I", true)
  | 32 => ("GreaterPlatesModel", "heapBy", "[I", true)
  | 33 => ("GreaterPlatesModel", "belowBy", "[I", true)
  | 34 => ("GreaterPlatesModel", "paid", "I", false)
  | 35 => ("GreaterPlatesModel", "fewest", "I", false)
  | 36 => ("GreaterPlatesModel", "cheapest", "I", false)
  | 37 => ("GreaterPlatesModel", "ends", "[I", true)
  | 38 => ("GreaterPlatesModel", "byHeaps", "[I", true)
  | 39 => ("GreaterPlatesModel", "sum", "I", false)
  | 40 => ("GreaterPlatesModel", "all", "I", false)
  | 41 => ("GreaterPlatesModel", "alike", "I", false)
  | 42 => ("GreaterPlatesModel", "best", "I", false)
  | 43 => ("GreaterPlatesModel", "bestTurn", "[I", true)
  | 44 => ("GreaterPlatesModel", "belowNow", "[I", true)
  | 45 => ("GreaterPlatesModel", "laid", "I", false)
  | 46 => ("GreaterPlatesModel", "tableHeaps", "I", false)
  | 47 => ("GreaterPlatesModel", "tableOn", "[I", true)
  | 48 => ("GreaterPlatesModel", "tableLies", "[I", true)
  | 49 => ("GreaterPlatesModel", "kept", "Z", false)
  | 50 => ("GreaterPlatesModel", "laidThen", "I", false)
  | 51 => ("GreaterPlatesModel", "heapsThen", "I", false)
  | 52 => ("GreaterPlatesModel", "highestThen", "I", false)
  | 53 => ("GreaterPlatesModel", "ruleThen", "I", false)
  | 54 => ("GreaterPlatesModel", "onThen", "[I", true)
  | 55 => ("GreaterPlatesModel", "liesThen", "[I", true)
  | 56 => ("GreaterPlatesModel", "sorts", "[I", true)
  | 57 => ("GreaterPlatesModel", "sizes", "[I", true)
  | 58 => ("GreaterPlatesModel", "items", "[I", true)
  | _ => ("GreaterPlatesModel", "moved", "[I", true)
def tyX12 : Nat → FieldType := fun k => match k with
  | 0 => .int
  | 1 => .array .int
  | 2 => .array .int
  | 3 => .int
  | 4 => .array .int
  | 5 => .array .int
  | 6 => .int
  | 7 => .array .int
  | 8 => .int
  | 9 => .int
  | 10 => .int
  | 11 => .array .int
  | 12 => .array .int
  | 13 => .int
  | 14 => .int
  | 15 => .int
  | 16 => .int
  | 17 => .array .char
  | 18 => .array .int
  | 19 => .array .int
  | 20 => .int
  | 21 => .int
  | 22 => .int
  | 23 => .array .boolean
  | 24 => .int
  | 25 => .int
  | 26 => .array .int
  | 27 => .array .int
  | 28 => .int
  | 29 => .array .int
  | 30 => .array .int
  | 31 => .array .int
  | 32 => .array .int
  | 33 => .array .int
  | 34 => .int
  | 35 => .int
  | 36 => .int
  | 37 => .array .int
  | 38 => .array .int
  | 39 => .int
  | 40 => .int
  | 41 => .int
  | 42 => .int
  | 43 => .array .int
  | 44 => .array .int
  | 45 => .int
  | 46 => .int
  | 47 => .array .int
  | 48 => .array .int
  | 49 => .boolean
  | 50 => .int
  | 51 => .int
  | 52 => .int
  | 53 => .int
  | 54 => .array .int
  | 55 => .array .int
  | 56 => .array .int
  | 57 => .array .int
  | 58 => .array .int
  | _ => .array .int
theorem nmX12 : ∀ a, a < 60 → ∀ b, b < 60 → a ≠ b → (TX12 a).2.1 ≠ (TX12 b).2.1 := by decide +kernel
theorem tyX12_ok : ∀ k, k < 60 → parseFieldDescriptor (TX12 k).2.2.1 = some (tyX12 k) := by decide +kernel
abbrev cX12_isIn : ByteArray := prog_14_method_1_code
def yX12_isIn : MethodName := ⟨RX12, "isIn", "(III)Z"⟩
abbrev cX12_isPlate : ByteArray := prog_14_method_2_code
def yX12_isPlate : MethodName := ⟨RX12, "isPlate", "(I)Z"⟩
abbrev cX12_isLayer : ByteArray := prog_14_method_3_code
def yX12_isLayer : MethodName := ⟨RX12, "isLayer", "(I)Z"⟩
abbrev cX12_plate : ByteArray := prog_14_method_4_code
def yX12_plate : MethodName := ⟨RX12, "plate", "(II)I"⟩
abbrev cX12_layer : ByteArray := prog_14_method_5_code
def yX12_layer : MethodName := ⟨RX12, "layer", "(II)I"⟩
abbrev cX12_set : ByteArray := prog_14_method_6_code
def yX12_set : MethodName := ⟨RX12, "set", "(III)I"⟩
abbrev cX12_told : ByteArray := prog_14_method_7_code
def yX12_told : MethodName := ⟨RX12, "told", "(II)I"⟩
abbrev cX12_feed : ByteArray := prog_14_method_8_code
def yX12_feed : MethodName := ⟨RX12, "feed", "(I)I"⟩
abbrev cX12_isLetter : ByteArray := prog_14_method_9_code
def yX12_isLetter : MethodName := ⟨RX12, "isLetter", "(I)Z"⟩
abbrev cX12_isDigit : ByteArray := prog_14_method_10_code
def yX12_isDigit : MethodName := ⟨RX12, "isDigit", "(I)Z"⟩
abbrev cX12_readWord : ByteArray := prog_14_method_11_code
def yX12_readWord : MethodName := ⟨RX12, "readWord", "()V"⟩
abbrev cX12_readNumber : ByteArray := prog_14_method_12_code
def yX12_readNumber : MethodName := ⟨RX12, "readNumber", "()V"⟩
abbrev cX12_next : ByteArray := prog_14_method_13_code
def yX12_next : MethodName := ⟨RX12, "next", "()V"⟩
abbrev cX12_isSign : ByteArray := prog_14_method_14_code
def yX12_isSign : MethodName := ⟨RX12, "isSign", "(I)Z"⟩
abbrev cX12_isKey : ByteArray := prog_14_method_15_code
def yX12_isKey : MethodName := ⟨RX12, "isKey", "(I)Z"⟩
abbrev cX12_emit : ByteArray := prog_14_method_16_code
def yX12_emit : MethodName := ⟨RX12, "emit", "(I)V"⟩
abbrev cX12_rank : ByteArray := prog_14_method_17_code
def yX12_rank : MethodName := ⟨RX12, "rank", "(I)I"⟩
abbrev cX12_doAll : ByteArray := prog_14_method_18_code
def yX12_doAll : MethodName := ⟨RX12, "doAll", "(I)V"⟩
abbrev cX12_await : ByteArray := prog_14_method_19_code
def yX12_await : MethodName := ⟨RX12, "await", "(I)V"⟩
abbrev cX12_between : ByteArray := prog_14_method_20_code
def yX12_between : MethodName := ⟨RX12, "between", "()Z"⟩
abbrev cX12_closes : ByteArray := prog_14_method_21_code
def yX12_closes : MethodName := ⟨RX12, "closes", "()Z"⟩
abbrev cX12_ahead : ByteArray := prog_14_method_22_code
def yX12_ahead : MethodName := ⟨RX12, "ahead", "(Z)Z"⟩
abbrev cX12_readE : ByteArray := prog_14_method_23_code
def yX12_readE : MethodName := ⟨RX12, "readE", "(I)Z"⟩
abbrev cX12_readAll : ByteArray := prog_14_method_24_code
def yX12_readAll : MethodName := ⟨RX12, "readAll", "(I)I"⟩
abbrev cX12_text : ByteArray := prog_14_method_25_code
def yX12_text : MethodName := ⟨RX12, "text", "()I"⟩
abbrev cX12_force : ByteArray := prog_14_method_26_code
def yX12_force : MethodName := ⟨RX12, "force", "(I)I"⟩
abbrev cX12_init : ByteArray := prog_14_method_27_code
def yX12_init : MethodName := ⟨RX12, "<init>", "()V"⟩
abbrev cX12_done : ByteArray := prog_14_method_28_code
def yX12_done : MethodName := ⟨RX12, "done", "(III)I"⟩
abbrev cX12_worthOf : ByteArray := prog_14_method_29_code
def yX12_worthOf : MethodName := ⟨RX12, "worthOf", "(I)I"⟩
abbrev cX12_name : ByteArray := prog_14_method_30_code
def yX12_name : MethodName := ⟨RX12, "name", "(IIIII)V"⟩
abbrev cX12_bound : ByteArray := prog_14_method_31_code
def yX12_bound : MethodName := ⟨RX12, "bound", "(I)I"⟩
abbrev cX12_nameOn : ByteArray := prog_14_method_32_code
def yX12_nameOn : MethodName := ⟨RX12, "nameOn", "(II)V"⟩
abbrev cX12_mayLie : ByteArray := prog_14_method_33_code
def yX12_mayLie : MethodName := ⟨RX12, "mayLie", "(II)Z"⟩
abbrev cX12_put : ByteArray := prog_14_method_34_code
def yX12_put : MethodName := ⟨RX12, "put", "(II)V"⟩
abbrev cX12_putBack : ByteArray := prog_14_method_35_code
def yX12_putBack : MethodName := ⟨RX12, "putBack", "(I)V"⟩
abbrev cX12_rank_ : ByteArray := prog_14_method_36_code
def yX12_rank_ : MethodName := ⟨RX12, "rank", "(III)I"⟩
abbrev cX12_likes : ByteArray := prog_14_method_37_code
def yX12_likes : MethodName := ⟨RX12, "likes", "(II)Z"⟩
abbrev cX12_choice : ByteArray := prog_14_method_38_code
def yX12_choice : MethodName := ⟨RX12, "choice", "(II)I"⟩
abbrev cX12_layAll : ByteArray := prog_14_method_39_code
def yX12_layAll : MethodName := ⟨RX12, "layAll", "(I)V"⟩
abbrev cX12_asTheyCame : ByteArray := prog_14_method_40_code
def yX12_asTheyCame : MethodName := ⟨RX12, "asTheyCame", "()V"⟩
abbrev cX12_by : ByteArray := prog_14_method_41_code
def yX12_by : MethodName := ⟨RX12, "by", "(II)I"⟩
abbrev cX12_heapOf : ByteArray := prog_14_method_42_code
def yX12_heapOf : MethodName := ⟨RX12, "heapOf", "(II)I"⟩
abbrev cX12_ways : ByteArray := prog_14_method_43_code
def yX12_ways : MethodName := ⟨RX12, "ways", "(III)V"⟩
abbrev cX12_goThrough : ByteArray := prog_14_method_44_code
def yX12_goThrough : MethodName := ⟨RX12, "goThrough", "(I)V"⟩
abbrev cX12_fewest : ByteArray := prog_14_method_45_code
def yX12_fewest : MethodName := ⟨RX12, "fewest", "(I)I"⟩
abbrev cX12_less : ByteArray := prog_14_method_46_code
def yX12_less : MethodName := ⟨RX12, "less", "(I)I"⟩
abbrev cX12_couldLie : ByteArray := prog_14_method_47_code
def yX12_couldLie : MethodName := ⟨RX12, "couldLie", "(II)Z"⟩
abbrev cX12_isRow : ByteArray := prog_14_method_48_code
def yX12_isRow : MethodName := ⟨RX12, "isRow", "(I)Z"⟩
abbrev cX12_bits : ByteArray := prog_14_method_49_code
def yX12_bits : MethodName := ⟨RX12, "bits", "(I)I"⟩
abbrev cX12_longest : ByteArray := prog_14_method_50_code
def yX12_longest : MethodName := ⟨RX12, "longest", "(I)I"⟩
abbrev cX12_mostFrom : ByteArray := prog_14_method_51_code
def yX12_mostFrom : MethodName := ⟨RX12, "mostFrom", "(II)I"⟩
abbrev cX12_several : ByteArray := prog_14_method_52_code
def yX12_several : MethodName := ⟨RX12, "several", "(I)I"⟩
abbrev cX12_rises : ByteArray := prog_14_method_53_code
def yX12_rises : MethodName := ⟨RX12, "rises", "(I)I"⟩
abbrev cX12_orders : ByteArray := prog_14_method_54_code
def yX12_orders : MethodName := ⟨RX12, "orders", "(III)V"⟩
abbrev cX12_allOrders : ByteArray := prog_14_method_55_code
def yX12_allOrders : MethodName := ⟨RX12, "allOrders", "(I)V"⟩
abbrev cX12_orders_ : ByteArray := prog_14_method_56_code
def yX12_orders_ : MethodName := ⟨RX12, "orders", "(II)I"⟩
abbrev cX12_divisor : ByteArray := prog_14_method_57_code
def yX12_divisor : MethodName := ⟨RX12, "divisor", "(II)I"⟩
abbrev cX12_mean : ByteArray := prog_14_method_58_code
def yX12_mean : MethodName := ⟨RX12, "mean", "(II)J"⟩
abbrev cX12_bestOrder : ByteArray := prog_14_method_59_code
def yX12_bestOrder : MethodName := ⟨RX12, "bestOrder", "(II)I"⟩
abbrev cX12_came : ByteArray := prog_14_method_60_code
def yX12_came : MethodName := ⟨RX12, "came", "(I)I"⟩
abbrev cX12_drawn : ByteArray := prog_14_method_61_code
def yX12_drawn : MethodName := ⟨RX12, "drawn", "(II)I"⟩
abbrev cX12_judge : ByteArray := prog_14_method_62_code
def yX12_judge : MethodName := ⟨RX12, "judge", "(I)I"⟩
abbrev cX12_stranger : ByteArray := prog_14_method_63_code
def yX12_stranger : MethodName := ⟨RX12, "stranger", "(I)I"⟩
abbrev cX12_move : ByteArray := prog_14_method_64_code
def yX12_move : MethodName := ⟨RX12, "move", "([I[I)V"⟩
abbrev cX12_lay : ByteArray := prog_14_method_65_code
def yX12_lay : MethodName := ⟨RX12, "lay", "(I)I"⟩
abbrev cX12_take : ByteArray := prog_14_method_66_code
def yX12_take : MethodName := ⟨RX12, "take", "(I)I"⟩
abbrev cX12_on : ByteArray := prog_14_method_67_code
def yX12_on : MethodName := ⟨RX12, "on", "(II)I"⟩
abbrev cX12_image : ByteArray := prog_14_method_68_code
def yX12_image : MethodName := ⟨RX12, "image", "()I"⟩
abbrev cX12_back : ByteArray := prog_14_method_69_code
def yX12_back : MethodName := ⟨RX12, "back", "()I"⟩
abbrev cX12_count : ByteArray := prog_14_method_70_code
def yX12_count : MethodName := ⟨RX12, "count", "(I)I"⟩
abbrev cX12_isSheet : ByteArray := prog_14_method_71_code
def yX12_isSheet : MethodName := ⟨RX12, "isSheet", "(I)Z"⟩
abbrev cX12_sheet : ByteArray := prog_14_method_72_code
def yX12_sheet : MethodName := ⟨RX12, "sheet", "(III)I"⟩
abbrev cX12_cell : ByteArray := prog_14_method_73_code
def yX12_cell : MethodName := ⟨RX12, "cell", "(III)I"⟩
abbrev cX12_copy : ByteArray := prog_14_method_74_code
def yX12_copy : MethodName := ⟨RX12, "copy", "(IIIII)I"⟩
abbrev cX12_plates : ByteArray := prog_14_method_75_code
def yX12_plates : MethodName := ⟨RX12, "plates", "(IIII)I"⟩
abbrev cX12_taken : ByteArray := prog_14_method_76_code
def yX12_taken : MethodName := ⟨RX12, "taken", "(II)I"⟩
def RJ6 : String := "java/lang/Integer"
abbrev cJ6_bitCount_0f7a4 : ByteArray := prog_16_method_49_code
def yJ6_bitCount_0f7a4 : MethodName := ⟨RJ6, "bitCount", "(I)I"⟩
def RJ9 : String := "java/lang/Math"
abbrev cJ9_abs_0f7a4 : ByteArray := prog_17_method_59_code
def yJ9_abs_0f7a4 : MethodName := ⟨RJ9, "abs", "(I)I"⟩
abbrev cJ9_max_7cf53 : ByteArray := prog_17_method_65_code
def yJ9_max_7cf53 : MethodName := ⟨RJ9, "max", "(II)I"⟩
abbrev cJ9_max_f86c9 : ByteArray := prog_17_method_66_code
def yJ9_max_f86c9 : MethodName := ⟨RJ9, "max", "(JJ)J"⟩
abbrev cJ9_min_7cf53 : ByteArray := prog_17_method_69_code
def yJ9_min_7cf53 : MethodName := ⟨RJ9, "min", "(II)I"⟩
def RJ0 : String := "java/lang/String"
abbrev cJ0_length_8abf5 : ByteArray := prog_18_method_54_code
def yJ0_length_8abf5 : MethodName := ⟨RJ0, "length", "()I"⟩
abbrev cJ0_charAt_5068e : ByteArray := prog_18_method_56_code
def yJ0_charAt_5068e : MethodName := ⟨RJ0, "charAt", "(I)C"⟩
abbrev cJ0_coder_7d493 : ByteArray := prog_18_method_152_code
def yJ0_coder_7d493 : MethodName := ⟨RJ0, "coder", "()B"⟩
abbrev cJ0_isLatin1_aae02 : ByteArray := prog_18_method_154_code
def yJ0_isLatin1_aae02 : MethodName := ⟨RJ0, "isLatin1", "()Z"⟩
abbrev cJ0_checkIndex_df160 : ByteArray := prog_18_method_155_code
def yJ0_checkIndex_df160 : MethodName := ⟨RJ0, "checkIndex", "(II)V"⟩
def RJ1 : String := "java/lang/StringLatin1"
abbrev cJ1_charAt_3b067 : ByteArray := prog_19_method_2_code
def yJ1_charAt_3b067 : MethodName := ⟨RJ1, "charAt", "([BI)C"⟩
def RJ2 : String := "java/lang/StringUTF16"
abbrev cJ2_getChar_3b067 : ByteArray := prog_20_method_5_code
def yJ2_getChar_3b067 : MethodName := ⟨RJ2, "getChar", "([BI)C"⟩
abbrev cJ2_length_9d52b : ByteArray := prog_20_method_6_code
def yJ2_length_9d52b : MethodName := ⟨RJ2, "length", "([B)I"⟩
abbrev cJ2_charAt_3b067 : ByteArray := prog_20_method_83_code
def yJ2_charAt_3b067 : MethodName := ⟨RJ2, "charAt", "([BI)C"⟩
abbrev cJ2_checkIndex_2214a : ByteArray := prog_20_method_91_code
def yJ2_checkIndex_2214a : MethodName := ⟨RJ2, "checkIndex", "(I[B)V"⟩
def RJ10 : String := "java/lang/System"
def RJ7 : String := "java/util/Arrays"
abbrev cJ7_fill_53178 : ByteArray := prog_22_method_103_code
def yJ7_fill_53178 : MethodName := ⟨RJ7, "fill", "([II)V"⟩
abbrev cJ7_copyOf_59c91 : ByteArray := prog_22_method_123_code
def yJ7_copyOf_59c91 : MethodName := ⟨RJ7, "copyOf", "([II)[I"⟩
def RJ3 : String := "jdk/internal/util/Preconditions"
abbrev cJ3_checkIndex_8e157 : ByteArray := prog_23_method_11_code
def yJ3_checkIndex_8e157 : MethodName := ⟨RJ3, "checkIndex", "(IILjava/util/function/BiFunction;)I"⟩
def RL : String := "GreaterPlatesLaw"
abbrev cL_law : ByteArray := code
def yL_law : MethodName := ⟨RL, "law", "([I)Z"⟩
abbrev vwCl : List vw_C := [(RX0, TX0, 2), (RX1, TX1, 5), (RX2, TX2, 2), (RX3, TX3, 2), (RX4, TX4, 2), (RX5, TX5, 9), (RX6, TX6, 5), (RX7, TX7, 3), (RX8, TX8, 2), (RX9, TX9, 4), (RX10, TX10, 2), (RX11, TX11, 19), (RX12, TX12, 60)]
/-- of each class: which fields are numbers (the others are references) -/
def fkX : Nat → List Bool
  | 0 => [true, true]
  | 1 => [false, false, true, false, false]
  | 2 => [true, true]
  | 3 => [true, true]
  | 4 => [true, true]
  | 5 => [false, true, true, true, true, true, true, false, true]
  | 6 => [false, true, true, false, false]
  | 7 => [false, true, true]
  | 8 => [true, true]
  | 9 => [false, true, true, true]
  | 10 => [true, true]
  | 11 => [false, false, true, false, true, false, true, false, false, false, false, false, false, true, false, false, true, false, false]
  | 12 => [true, false, false, true, false, false, true, false, true, true, true, false, false, true, true, true, true, false, false, false, true, true, true, false, true, true, false, false, true, false, false, false, false, false, true, true, true, false, false, true, true, true, true, false, false, true, true, false, false, true, true, true, true, true, false, false, false, false, false, false]
  | _ => []
/-- the String constants: class, entry, text -/
def strX : List (String × Nat × String) := [("GreaterPlates", 71, "may size < top ; pays 1 - high ; weighs size ;"), ("GreaterPlates$Reader", 104, "may"), ("GreaterPlates$Reader", 110, "pays"), ("GreaterPlates$Reader", 112, "weighs"), ("GreaterPlates$Reader", 114, "or"), ("GreaterPlates$Reader", 116, "and"), ("GreaterPlates$Reader", 118, "not"), ("GreaterPlates$Reader", 120, "size"), ("GreaterPlates$Reader", 121, "top"), ("GreaterPlates$Reader", 123, "deep"), ("GreaterPlates$Reader", 125, "under"), ("GreaterPlates$Reader", 127, "high"), ("GreaterPlates$Reader", 129, "heap")]
def lenX : List Nat := [46, 3, 4, 6, 2, 3, 3, 4, 3, 4, 5, 4, 4]
def bytX : List (List Int32) := [[109, 97, 121, 32, 115, 105, 122, 101, 32, 60, 32, 116, 111, 112, 32, 59, 32, 112, 97, 121, 115, 32, 49, 32, 45, 32, 104, 105, 103, 104, 32, 59, 32, 119, 101, 105, 103, 104, 115, 32, 115, 105, 122, 101, 32, 59], [109, 97, 121], [112, 97, 121, 115], [119, 101, 105, 103, 104, 115], [111, 114], [97, 110, 100], [110, 111, 116], [115, 105, 122, 101], [116, 111, 112], [100, 101, 101, 112], [117, 110, 100, 101, 114], [104, 105, 103, 104], [104, 101, 97, 112]]
def tyX : Nat → Nat → FieldType
  | 0 => tyX0
  | 1 => tyX1
  | 2 => tyX2
  | 3 => tyX3
  | 4 => tyX4
  | 5 => tyX5
  | 6 => tyX6
  | 7 => tyX7
  | 8 => tyX8
  | 9 => tyX9
  | 10 => tyX10
  | 11 => tyX11
  | 12 => tyX12
  | _ => fun _ => .int
/-- which object may be taken for which class -/
def asgX : List (String × String × Bool) := [("GreaterPlates$Free", "GreaterPlates$Free", true), ("GreaterPlates$Free", "GreaterPlates$High", false), ("GreaterPlates$Free", "GreaterPlates$Layer", true), ("GreaterPlates$Free", "GreaterPlates$Near", false), ("GreaterPlates$Free", "GreaterPlates$Sulky", false), ("GreaterPlates$Free", "GreaterPlates$Told", false), ("GreaterPlates$High", "GreaterPlates$Free", false), ("GreaterPlates$High", "GreaterPlates$High", true), ("GreaterPlates$High", "GreaterPlates$Layer", true), ("GreaterPlates$High", "GreaterPlates$Near", true), ("GreaterPlates$High", "GreaterPlates$Sulky", false), ("GreaterPlates$High", "GreaterPlates$Told", false), ("GreaterPlates$Layer", "GreaterPlates$Free", false), ("GreaterPlates$Layer", "GreaterPlates$High", false), ("GreaterPlates$Layer", "GreaterPlates$Layer", true), ("GreaterPlates$Layer", "GreaterPlates$Near", false), ("GreaterPlates$Layer", "GreaterPlates$Sulky", false), ("GreaterPlates$Layer", "GreaterPlates$Told", false), ("GreaterPlates$Near", "GreaterPlates$Free", false), ("GreaterPlates$Near", "GreaterPlates$High", false), ("GreaterPlates$Near", "GreaterPlates$Layer", true), ("GreaterPlates$Near", "GreaterPlates$Near", true), ("GreaterPlates$Near", "GreaterPlates$Sulky", false), ("GreaterPlates$Near", "GreaterPlates$Told", false), ("GreaterPlates$Sulky", "GreaterPlates$Free", false), ("GreaterPlates$Sulky", "GreaterPlates$High", false), ("GreaterPlates$Sulky", "GreaterPlates$Layer", true), ("GreaterPlates$Sulky", "GreaterPlates$Near", true), ("GreaterPlates$Sulky", "GreaterPlates$Sulky", true), ("GreaterPlates$Sulky", "GreaterPlates$Told", false), ("GreaterPlates$Told", "GreaterPlates$Free", true), ("GreaterPlates$Told", "GreaterPlates$High", false), ("GreaterPlates$Told", "GreaterPlates$Layer", true), ("GreaterPlates$Told", "GreaterPlates$Near", false), ("GreaterPlates$Told", "GreaterPlates$Sulky", false), ("GreaterPlates$Told", "GreaterPlates$Told", true)]
/-- the same by their numbers -/
def subX : Nat → Nat → Bool
  | 0, 0 => true
  | 0, 3 => true
  | 2, 2 => true
  | 2, 4 => true
  | 2, 3 => true
  | 3, 3 => true
  | 4, 4 => true
  | 4, 3 => true
  | 8, 8 => true
  | 8, 4 => true
  | 8, 3 => true
  | 10, 10 => true
  | 10, 0 => true
  | 10, 3 => true
  | _, _ => false
def overX : List String := ["GreaterPlates$Layer", "GreaterPlates$Rule", "GreaterPlates$Sheet"]
end
section
/-! THE MEMORY: every number and every reference of the system's cells, by cell (counted from B on) and place; the kind and length of each cell -/
abbrev Mem : Type := (Nat → Nat → Int32) × (Nat → Nat → Option Nat) × List (Nat × Nat)
def mI (σ : Mem) (a k : Nat) : Int32 := σ.1 a k
def mP (σ : Mem) (a k : Nat) : Option Nat := σ.2.1 a k
def mT (σ : Mem) (a : Nat) : Option (Nat × Nat) := σ.2.2[a]?
def mL (σ : Mem) : Nat := σ.2.2.length
def sR (σ : Mem) (a : Nat) (f : Nat → Int32) : Mem := (fun b => if b = a then f else σ.1 b, σ.2)
def sI (σ : Mem) (a k : Nat) (v : Int32) : Mem := sR σ a (upd (σ.1 a) k v)
def sP (σ : Mem) (a k : Nat) (r : Option Nat) : Mem := (σ.1, fun b => if b = a then va_up (σ.2.1 a) k r else σ.2.1 b, σ.2.2)
def mN (σ : Mem) (t : Nat × Nat) : Mem := (fun b => if b = σ.2.2.length then (fun _ => 0) else σ.1 b, fun b => if b = σ.2.2.length then (fun _ => none) else σ.2.1 b, σ.2.2 ++ [t])
theorem mI_sR (σ : Mem) (a b k : Nat) (f : Nat → Int32) : mI (sR σ a f) b k = if b = a then f k else mI σ b k := by
  unfold mI sR
  by_cases h : b = a <;> simp [h]
theorem mI_sI (σ : Mem) (a k : Nat) (v : Int32) (b j : Nat) : mI (sI σ a k v) b j = if b = a then (if j = k then v else mI σ b j) else mI σ b j := by
  unfold mI sI sR upd
  by_cases h : b = a
  · subst h; simp
  · simp [h]
theorem mI_sI_s (σ : Mem) (a k : Nat) (v : Int32) : mI (sI σ a k v) a k = v := by rw [mI_sI, if_pos rfl, if_pos rfl]
theorem mI_sI_n (σ : Mem) {a k : Nat} (v : Int32) {b j : Nat} (h : b ≠ a) : mI (sI σ a k v) b j = mI σ b j := by rw [mI_sI, if_neg h]
theorem mI_sI_k (σ : Mem) {a k : Nat} (v : Int32) {b j : Nat} (h : j ≠ k) : mI (sI σ a k v) b j = mI σ b j := by rw [mI_sI]; split <;> simp [h]
theorem mP_sR (σ : Mem) (a b k : Nat) (f : Nat → Int32) : mP (sR σ a f) b k = mP σ b k := rfl
theorem mP_sI (σ : Mem) (a k : Nat) (v : Int32) (b j : Nat) : mP (sI σ a k v) b j = mP σ b j := rfl
theorem mT_sR (σ : Mem) (a b : Nat) (f : Nat → Int32) : mT (sR σ a f) b = mT σ b := rfl
theorem mT_sI (σ : Mem) (a k : Nat) (v : Int32) (b : Nat) : mT (sI σ a k v) b = mT σ b := rfl
theorem mL_sR (σ : Mem) (a : Nat) (f : Nat → Int32) : mL (sR σ a f) = mL σ := rfl
theorem mL_sI (σ : Mem) (a k : Nat) (v : Int32) : mL (sI σ a k v) = mL σ := rfl
theorem mI_sP (σ : Mem) (a k : Nat) (r : Option Nat) (b j : Nat) : mI (sP σ a k r) b j = mI σ b j := rfl
theorem mT_sP (σ : Mem) (a k : Nat) (r : Option Nat) (b : Nat) : mT (sP σ a k r) b = mT σ b := rfl
theorem mL_sP (σ : Mem) (a k : Nat) (r : Option Nat) : mL (sP σ a k r) = mL σ := rfl
theorem mP_sP (σ : Mem) (a k : Nat) (r : Option Nat) (b j : Nat) : mP (sP σ a k r) b j = if b = a then (if j = k then r else mP σ b j) else mP σ b j := by
  unfold mP sP va_up
  by_cases h : b = a
  · subst h; simp
  · simp [h]
theorem mT_lt {σ : Mem} {a : Nat} {t : Nat × Nat} (h : mT σ a = some t) : a < mL σ := (List.getElem?_eq_some_iff.mp h).1
theorem mI_mN (σ : Mem) (t : Nat × Nat) (b j : Nat) : mI (mN σ t) b j = if b = mL σ then 0 else mI σ b j := by
  unfold mI mN mL
  by_cases h : b = σ.2.2.length <;> simp [h]
theorem mP_mN (σ : Mem) (t : Nat × Nat) (b j : Nat) : mP (mN σ t) b j = if b = mL σ then none else mP σ b j := by
  unfold mP mN mL
  by_cases h : b = σ.2.2.length <;> simp [h]
theorem mL_mN (σ : Mem) (t : Nat × Nat) : mL (mN σ t) = mL σ + 1 := by simp [mL, mN]
theorem mT_mN (σ : Mem) (t : Nat × Nat) (b : Nat) : mT (mN σ t) b = if b = mL σ then some t else mT σ b := by
  unfold mT mN mL
  by_cases h : b = σ.2.2.length
  · subst h; simp
  · rw [if_neg h]
    rcases Nat.lt_or_ge b σ.2.2.length with q | q
    · exact List.getElem?_append_left q
    · rw [List.getElem?_eq_none (by simp; omega), List.getElem?_eq_none q]
/-- what is known for good: references that never change, kinds of cells -/
def mS (ps ts : List (Nat × Nat × Nat)) (σ : Mem) : Prop := (∀ e ∈ ps, mP σ e.1 e.2.1 = some e.2.2 ∧ e.1 < mL σ) ∧ ∀ e ∈ ts, mT σ e.1 = some e.2
theorem mS.sR {ps ts : List (Nat × Nat × Nat)} {σ : Mem} (h : mS ps ts σ) (a : Nat) (f : Nat → Int32) : mS ps ts (sR σ a f) := h
theorem mS.sI {ps ts : List (Nat × Nat × Nat)} {σ : Mem} (h : mS ps ts σ) (a k : Nat) (v : Int32) : mS ps ts (sI σ a k v) := h
theorem mS.mN {ps ts : List (Nat × Nat × Nat)} {σ : Mem} (h : mS ps ts σ) (t : Nat × Nat) : mS ps ts (mN σ t) := by
  refine ⟨fun e he => ⟨?_, ?_⟩, fun e he => ?_⟩
  · rw [mP_mN, if_neg (by have := (h.1 e he).2; omega)]; exact (h.1 e he).1
  · rw [mL_mN]; have := (h.1 e he).2; omega
  · have h1 := h.2 e he
    rw [mT_mN, if_neg (by have := mT_lt h1; omega)]; exact h1
theorem mS.sP {ps ts : List (Nat × Nat × Nat)} {σ : Mem} (h : mS ps ts σ) (a k : Nat) (r : Option Nat) (hn : ∀ e ∈ ps, ¬ (e.1 = a ∧ e.2.1 = k)) : mS ps ts (sP σ a k r) := by
  refine ⟨fun e he => ⟨?_, (h.1 e he).2⟩, fun e he => h.2 e he⟩
  rw [mP_sP]
  by_cases h1 : e.1 = a
  · rw [if_pos h1, if_neg (fun q => hn e he ⟨h1, q⟩)]; exact (h.1 e he).1
  · rw [if_neg h1]; exact (h.1 e he).1
theorem mS.sub {ps ts ps' ts' : List (Nat × Nat × Nat)} {σ : Mem} (h : mS ps ts σ) (hp : ∀ e ∈ ps', e ∈ ps) (ht : ∀ e ∈ ts', e ∈ ts) : mS ps' ts' σ := ⟨fun e he => h.1 e (hp e he), fun e he => h.2 e (ht e he)⟩
/-! its cells -/
def mF (B : Nat) (σ : Mem) (a : Nat) (ks : List Bool) : List Value := ks.mapIdx (fun k b => if b = true then Value.int (σ.1 a k) else va_rf ((σ.2.1 a k).map (fun r => B + r)))
def mE (cy : Nat → ClassId) (B : Nat) (σ : Mem) (a : Nat) (t : Nat × Nat) : va_E :=
  if t.1 < 13 then .inr (t.1, mF B σ a (fkX t.1))
  else if t.1 < 16 then .inl (cy t.1, t.2, .inl (σ.1 a))
  else .inl (cy t.1, t.2, .inr (.inr (.inr (.inr (fun j => (σ.2.1 a j).map (fun r => B + r))))))
def mW (cy : Nat → ClassId) (B : Nat) (σ : Mem) : va_W := σ.2.2.mapIdx (fun a t => (B + a, mE cy B σ a t))
theorem mW_at {cy : Nat → ClassId} {B : Nat} {σ : Mem} {a : Nat} {t : Nat × Nat} (h : mT σ a = some t) : (mW cy B σ)[a]? = some (B + a, mE cy B σ a t) := by
  unfold mW
  rw [List.getElem?_mapIdx]
  unfold mT at h
  rw [h]; rfl
theorem mE_o {cy : Nat → ClassId} {B : Nat} {σ : Mem} {a : Nat} {t : Nat × Nat} (h : t.1 < 13) : mE cy B σ a t = .inr (t.1, mF B σ a (fkX t.1)) := if_pos h
theorem mE_i {cy : Nat → ClassId} {B : Nat} {σ : Mem} {a : Nat} {t : Nat × Nat} (h : 13 ≤ t.1) (h2 : t.1 < 16) : mE cy B σ a t = .inl (cy t.1, t.2, .inl (σ.1 a)) := by
  unfold mE
  rw [if_neg (by omega), if_pos h2]
theorem mE_q {cy : Nat → ClassId} {B : Nat} {σ : Mem} {a : Nat} {t : Nat × Nat} (h : 16 ≤ t.1) : mE cy B σ a t = .inl (cy t.1, t.2, .inr (.inr (.inr (.inr (fun j => (σ.2.1 a j).map (fun r => B + r)))))) := by
  unfold mE
  rw [if_neg (by omega), if_neg (by omega)]
theorem mF_at {B : Nat} {σ : Mem} {a k : Nat} {ks : List Bool} (b : Bool) (h : ks[k]? = some b) : (mF B σ a ks)[k]? = some (if b = true then Value.int (mI σ a k) else va_rf ((mP σ a k).map (fun r => B + r))) := by
  unfold mF
  rw [List.getElem?_mapIdx, h]; rfl
theorem mF_len {B : Nat} {σ : Mem} {a : Nat} {ks : List Bool} : (mF B σ a ks).length = ks.length := by simp [mF]
theorem mF_sI {B : Nat} {σ : Mem} {a k : Nat} {v : Int32} {ks : List Bool} (h : ks[k]? = some true) : (mF B σ a ks).set k (.int v) = mF B (sI σ a k v) a ks := by
  apply List.ext_getElem?
  intro j
  by_cases hj : j = k
  · subst hj
    rw [List.getElem?_set_self (by rw [mF_len]; exact (List.getElem?_eq_some_iff.mp h).1), mF_at true h, mI_sI_s]; rfl
  · rw [List.getElem?_set_ne (Ne.symm hj)]
    unfold mF
    rw [List.getElem?_mapIdx, List.getElem?_mapIdx]
    have e : (sI σ a k v).1 a j = σ.1 a j := mI_sI_k σ v hj
    rw [e]; rfl
theorem mF_sP {B : Nat} {σ : Mem} {a k : Nat} {r : Option Nat} {ks : List Bool} (h : ks[k]? = some false) : (mF B σ a ks).set k (va_rf (r.map (fun r => B + r))) = mF B (sP σ a k r) a ks := by
  apply List.ext_getElem?
  intro j
  by_cases hj : j = k
  · subst hj
    rw [List.getElem?_set_self (by rw [mF_len]; exact (List.getElem?_eq_some_iff.mp h).1), mF_at false h, mP_sP, if_pos rfl, if_pos rfl]; rfl
  · rw [List.getElem?_set_ne (Ne.symm hj)]
    unfold mF
    rw [List.getElem?_mapIdx, List.getElem?_mapIdx]
    have e : (sP σ a k r).2.1 a j = σ.2.1 a j := by
      have := mP_sP σ a k r a j
      rw [if_pos rfl, if_neg hj] at this; exact this
    rw [e]; rfl
theorem mW_ext {cy : Nat → ClassId} {B : Nat} {σ τ : Mem} {a : Nat} {t : Nat × Nat} (hT : mT σ a = some t) (h2 : τ.2.2 = σ.2.2) (ho : ∀ b u, b ≠ a → mE cy B τ b u = mE cy B σ b u) : (mW cy B σ).set a (B + a, mE cy B τ a t) = mW cy B τ := by
  apply List.ext_getElem?
  intro j
  have hl : a < (mW cy B σ).length := (List.getElem?_eq_some_iff.mp (mW_at (cy := cy) (B := B) hT)).1
  by_cases hj : j = a
  · subst hj
    rw [List.getElem?_set_self hl, mW_at (t := t) (by unfold mT; rw [h2]; exact hT)]
  · rw [List.getElem?_set_ne (Ne.symm hj)]
    unfold mW
    rw [List.getElem?_mapIdx, List.getElem?_mapIdx, h2]
    cases σ.2.2[j]? with
    | none => rfl
    | some u => exact congrArg (fun e => some (B + j, e)) (ho j u hj).symm
theorem mE_sR {cy : Nat → ClassId} {B : Nat} {σ : Mem} {a b : Nat} {f : Nat → Int32} {u : Nat × Nat} (h : b ≠ a) : mE cy B (sR σ a f) b u = mE cy B σ b u := by
  have e : (sR σ a f).1 b = σ.1 b := if_neg h
  unfold mE mF
  rw [e]; rfl
theorem mE_sP {cy : Nat → ClassId} {B : Nat} {σ : Mem} {a b k : Nat} {r : Option Nat} {u : Nat × Nat} (h : b ≠ a) : mE cy B (sP σ a k r) b u = mE cy B σ b u := by
  have e : (sP σ a k r).2.1 b = σ.2.1 b := if_neg h
  unfold mE mF
  rw [e]; rfl
theorem mW_D {cy : Nat → ClassId} {B : Nat} {σ : Mem} : va_D (fun q => B ≤ q) (mW cy B σ) := by
  have key : ∀ (k : Nat) (q : Nat × va_E), (mW cy B σ)[k]? = some q → q.1 = B + k := by
    intro k q h
    unfold mW at h
    rw [List.getElem?_mapIdx] at h
    cases hk : σ.2.2[k]? with
    | none => rw [hk] at h; cases h
    | some u => rw [hk] at h; cases h; rfl
  exact ⟨fun i j x y hi hj h => by have := key i x hi; have := key j y hj; omega, fun k q h => by rw [key k q h]; exact Nat.le_add_right B k⟩
theorem mW_N {cy : Nat → ClassId} {B : Nat} {σ : Mem} {t : Nat × Nat} : mW cy B (mN σ t) = mW cy B σ ++ [(B + mL σ, mE cy B (mN σ t) (mL σ) t)] := by
  apply List.ext_getElem?
  intro j
  unfold mW
  rw [List.getElem?_mapIdx]
  have h1 : (mN σ t).2.2[j]? = mT (mN σ t) j := rfl
  rw [h1, mT_mN]
  have hlen : (σ.2.2.mapIdx (fun a t => (B + a, mE cy B σ a t))).length = mL σ := by simp [mL]
  by_cases h : j = mL σ
  · subst h
    rw [if_pos rfl, List.getElem?_append_right (by omega), hlen, Nat.sub_self]; rfl
  · rw [if_neg h]
    rcases Nat.lt_or_ge j (mL σ) with q | q
    · rw [List.getElem?_append_left (by omega), List.getElem?_mapIdx]
      have e1 : (mN σ t).1 j = σ.1 j := if_neg h
      have e2 : (mN σ t).2.1 j = σ.2.1 j := if_neg h
      have e3 : ∀ u, mE cy B (mN σ t) j u = mE cy B σ j u := by
        intro u
        unfold mE mF
        rw [e1, e2]
      show Option.map _ (mT σ j) = Option.map _ (mT σ j)
      congr 1
      funext u
      rw [e3]
    · have e0 : mT σ j = none := List.getElem?_eq_none q
      rw [e0, List.getElem?_eq_none (by simp [mL] at *; omega)]; rfl
end
section
/-! THE WALK OVER THE MEMORY: words, contexts, and a row an instruction -/
def TB : List Cond := lw_tbl.filter goodWord
theorem TB_of {w : Cond} (i : Nat) (h : lw_tbl[i]? = some w) (hg : goodWord w = true) : w ∈ TB := List.mem_filter.mpr ⟨List.mem_of_getElem? h, hg⟩
theorem TB_good {w : Cond} (h : w ∈ TB) : goodWord w = true := (List.mem_filter.mp h).2
theorem TB_goodIn {y : MethodName} {cc : ByteArray} {n : Nat} {ret : Option FieldType} (h : Cond.code y cc n ret ∈ TB) : GoodIn TB (Cond.code y cc n ret :: TB) := by
  intro w hw
  rcases List.mem_cons.mp hw with rfl | hw
  · exact ⟨h, good_of_word (TB_good h)⟩
  · exact ⟨hw, good_of_word (TB_good hw)⟩
/-- the arrays' classes -/
def mTys (cy : Nat → ClassId) : List (ClassId × FieldType) := [(cy 13, .char), (cy 14, .int), (cy 15, .boolean), (cy 16, .object "GreaterPlates$Layer"), (cy 17, .object "GreaterPlates$Rule"), (cy 18, .object "GreaterPlates$Sheet")]
/-- an object of class C may (b) be taken for one of T -/
def asg (C T : String) (b : Bool) (U : State) : Prop := ∃ c t : ClassId, U.vm.findClass C = some c ∧ U.vm.findClass T = some t ∧ U.vm.assignable c t = b
theorem asg.moved {C T : String} {b : Bool} {u U : State} (hvm : u.vm.Alike U.vm) (h : asg C T b u) : asg C T b U := by
  obtain ⟨c, t, h1, h2, h3⟩ := h
  exact ⟨c, t, by rw [hvm.findClass]; exact h1, by rw [hvm.findClass]; exact h2, by rw [hvm.assignable]; exact h3⟩
/-- what stays for good, seen from a state: classes, String constants -/
def mK (cy : Nat → ClassId) (D : va_G) (ad : (Nat → Nat) × (Nat → Nat)) (B : Nat) (U : State) : Prop := va_K D vwCl (mTys cy) U ∧ vk_S 13 lenX bytX ad.1 ad.2 (fun q => B ≤ q) U U.heap ∧ (∀ (i : Nat) (q : String × Nat × String), strX[i]? = some q → vk_R q.1 q.2.1 q.2.2 (ad.1 i) U) ∧ (∀ e ∈ asgX, asg e.1 e.2.1 e.2.2 U) ∧ (∀ C ∈ overX, va_AO C U) ∧ va_Z "java/lang/String" "COMPACT_STRINGS" "Z" (.int 1) (fun q => B ≤ q) U U.heap ∧ va_Zq "jdk/internal/util/Preconditions" "SIOOBE_FORMATTER" "Ljava/util/function/BiFunction;" (fun q => B ≤ q) U U.heap
theorem mK.warm {cy : Nat → ClassId} {D : va_G} {ad : (Nat → Nat) × (Nat → Nat)} {B : Nat} {s U : State} (h : mK cy D ad B s) (hW : s.WarmedH U.vm) (hq : ∀ a : Nat, a < s.heap.size → ¬ B ≤ a → U.heap[a]? = s.heap[a]?) : mK cy D ad B U :=
  ⟨va_K.moved hW.alike h.1, (h.2.1.moved hW.alike).kept hq, fun i q hi => (h.2.2.1 i q hi).warm hW, fun e he => (h.2.2.2.1 e he).moved hW.alike, fun C hc => (h.2.2.2.2.1 C hc).moved hW.alike, (h.2.2.2.2.2.1.moved hW.alike).kept hq, (h.2.2.2.2.2.2.moved hW.alike).kept hq⟩
theorem mK.same {cy : Nat → ClassId} {D : va_G} {ad : (Nat → Nat) × (Nat → Nat)} {B : Nat} {s U : State} (h : mK cy D ad B s) (hv : U.vm = s.vm) (hh : U.heap = s.heap) : mK cy D ad B U := by
  have hA : s.vm.Alike U.vm := by rw [hv]; exact Vm.Alike.refl _
  exact ⟨va_K.moved hA h.1, (h.2.1.moved hA).kept (fun a _ _ => by rw [hh]), fun i q hi => (h.2.2.1 i q hi).same hv, fun e he => (h.2.2.2.1 e he).moved hA, fun C hc => (h.2.2.2.2.1 C hc).moved hA, (h.2.2.2.2.2.1.moved hA).kept (fun a _ _ => by rw [hh]), (h.2.2.2.2.2.2.moved hA).kept (fun a _ _ => by rw [hh])⟩
/-- the heap holds the memory -/
def mV (cy : Nat → ClassId) (D : va_G) (B : Nat) (ps ts : List (Nat × Nat × Nat)) (σ : Mem) (H : Heap) : Prop := H.size = B + mL σ ∧ va_P D vwCl (mW cy B σ) H ∧ mS ps ts σ
/-- the place of a walk: (program, launch, env, room) (start, method, args, below) (method, code) (array classes, classes, strings) (base, locals) (what is known) -/
abbrev Cx : Type := (Program × Launch × Env × Room) × (State × MethodId × Array Value × List Frame) × (Method × Code) × ((Nat → ClassId) × va_G × ((Nat → Nat) × (Nat → Nat))) × (Nat × Nat) × (List (Nat × Nat × Nat) × List (Nat × Nat × Nat))
def mG (X : Cx) (pc : Nat) (lv : List (Nat × Value)) (st : List Value) (σ : Mem) (kc ks : Nat) (Q : State → Prop) : Prop :=
  ∀ (H : Heap) (locs : List Loc) (ls : Array Slot), mV X.2.2.2.1.1 X.2.2.2.1.2.1 X.2.2.2.2.1.1 X.2.2.2.2.2.1 X.2.2.2.2.2.2 σ H → va_S (fun q => X.2.2.2.2.1.1 ≤ q) X.2.1.1.heap H locs → lv_has ls X.2.2.2.2.1.2 lv →
    W X.1.1 X.1.2.1 X.1.2.2.1 X.1.2.2.2 X.2.1.1 X.2.1.2.1 X.2.1.2.2.1 X.2.1.2.2.2 X.2.2.1.1 X.2.2.1.2 H locs kc ks Q (F0 X.2.1.2.1 pc ls st)
abbrev xB (X : Cx) : Nat := X.2.2.2.2.1.1
abbrev xP (X : Cx) : List (Nat × Nat × Nat) := X.2.2.2.2.2.1
abbrev xT (X : Cx) : List (Nat × Nat × Nat) := X.2.2.2.2.2.2
abbrev xN (X : Cx) : Nat := X.2.2.2.2.1.2
/-- what holds all through a method's body -/
def mOK (X : Cx) (cc : ByteArray) (own : String) (nm : String) (ret : Option FieldType) (d mc ms : Nat) : Prop :=
  X.1.1.tables.exec = Jvm.exec ∧ X.2.2.1.2.code = cc ∧ X.2.2.1.2.maxLocals = xN X ∧ X.2.1.1.vm.findClass own = some X.2.1.2.1.cls ∧ (∀ w ∈ TB, w.before X.2.1.2.2.1 X.2.1.1 = true) ∧ mK X.2.2.2.1.1 X.2.2.2.1.2.1 X.2.2.2.1.2.2 (xB X) X.2.1.1 ∧ X.2.2.1.1.sig.returnType = ret ∧ X.2.2.1.1.locks = false ∧ X.2.2.1.1.name = nm ∧ (d ≤ X.1.2.2.2.frames ∧ X.1.2.2.2.cells = mc ∧ X.1.2.2.2.slots = ms ∧ 60 * d ≤ X.1.2.2.2.locals) ∧ xB X ≤ X.2.1.1.heap.size
theorem mG.widen {X : Cx} {pc : Nat} {lv : List (Nat × Value)} {st : List Value} {σ : Mem} {kc ks kc' ks' : Nat} {Q : State → Prop} (h1 : kc ≤ kc') (h2 : ks ≤ ks') (k : mG X pc lv st σ kc' ks' Q) : mG X pc lv st σ kc ks Q := fun H locs ls a b c => W.widen h1 h2 (k H locs ls a b c)
theorem mG.loc {X : Cx} {pc : Nat} {lv lv' : List (Nat × Value)} {st : List Value} {σ : Mem} {kc ks : Nat} {Q : State → Prop} (h : ∀ q ∈ lv', q ∈ lv) (k : mG X pc lv' st σ kc ks Q) : mG X pc lv st σ kc ks Q := fun H locs ls a b c => k H locs ls a b ⟨c.1, c.2.1, fun q hq => c.2.2 q (h q hq)⟩
/-- the value of a local -/
def lvG (lv : List (Nat × Value)) (i : Nat) : Option Value := match lv with
  | [] => none
  | q :: r => if q.1 = i then some q.2 else lvG r i
theorem lvG_mem : ∀ {lv : List (Nat × Value)} {i : Nat} {v : Value}, lvG lv i = some v → (i, v) ∈ lv
  | [], _, _, h => by cases h
  | q :: r, i, v, h => by
    unfold lvG at h
    by_cases c : q.1 = i
    · rw [if_pos c] at h
      cases h
      subst c
      exact List.mem_cons_self
    · rw [if_neg c] at h
      exact List.mem_cons_of_mem _ (lvG_mem h)
/-- a local is set -/
abbrev lvS (lv : List (Nat × Value)) (i : Nat) (v : Value) : List (Nat × Value) := (i, v) :: lv.filter (fun q => !(q.1 == i) && !(q.1 + 1 == i && q.2.category == 2))
abbrev lvS2 (lv : List (Nat × Value)) (i : Nat) (v : Value) : List (Nat × Value) := (i, v) :: lv.filter (fun q => !(q.1 == i) && (!(q.1 == i + 1) && !(q.1 + 1 == i && q.2.category == 2)))
section GW
variable {X : Cx} {cc : ByteArray} {own nm : String} {ret : Option FieldType} {d mc ms : Nat} {pc : Nat} {lv : List (Nat × Value)} {st : List Value} {σ : Mem} {kc ks : Nat} {Q : State → Prop}
theorem g_iconst (hC : mOK X cc own nm ret d mc ms) {n : Int} {v : Int32} (hd : decode cc pc = .ok (.iconst n, 1)) (hv : Int32.ofInt n = v) (k : mG X (pc + 1) lv (.int v :: st) σ kc ks Q) : mG X pc lv st σ kc ks Q :=
  fun H locs ls a b c => lv_iconst hC.1 hC.2.1 hd hv (k H locs ls a b c)
theorem g_bipush (hC : mOK X cc own nm ret d mc ms) {n : Int} {v : Int32} (hd : decode cc pc = .ok (.bipush n, 2)) (hv : (Int8.ofInt n).toInt32 = v) (k : mG X (pc + 2) lv (.int v :: st) σ kc ks Q) : mG X pc lv st σ kc ks Q :=
  fun H locs ls a b c => lv_bipush hC.1 hC.2.1 hd hv (k H locs ls a b c)
theorem g_sipush (hC : mOK X cc own nm ret d mc ms) {n : Int} {v : Int32} (hd : decode cc pc = .ok (.sipush n, 3)) (hv : (Int16.ofInt n).toInt32 = v) (k : mG X (pc + 3) lv (.int v :: st) σ kc ks Q) : mG X pc lv st σ kc ks Q :=
  fun H locs ls a b c => lv_sipush hC.1 hC.2.1 hd hv (k H locs ls a b c)
theorem g_lconst (hC : mOK X cc own nm ret d mc ms) {n : Fin 2} {v : Int64} (hd : decode cc pc = .ok (.lconst n, 1)) (hv : Int64.ofNat (n : Nat) = v) (k : mG X (pc + 1) lv (.long v :: st) σ kc ks Q) : mG X pc lv st σ kc ks Q :=
  fun H locs ls a b c => lv_lconst hC.1 hC.2.1 hd hv (k H locs ls a b c)
theorem g_ldc (hC : mOK X cc own nm ret d mc ms) {index : Nat} {v : Int32} (hw : Cond.constant own index v ∈ TB) (hd : decode cc pc = .ok (.ldc index, 2)) (k : mG X (pc + 2) lv (.int v :: st) σ kc ks Q) : mG X pc lv st σ kc ks Q :=
  fun H locs ls a b c => lv_ldc hC.1 hC.2.1 hC.2.2.2.1 (hC.2.2.2.2.1 _ hw) hd (k H locs ls a b c)
theorem g_ldcw (hC : mOK X cc own nm ret d mc ms) {index : Nat} {v : Int32} (hw : Cond.constant own index v ∈ TB) (hd : decode cc pc = .ok (.ldc_w index, 3)) (k : mG X (pc + 3) lv (.int v :: st) σ kc ks Q) : mG X pc lv st σ kc ks Q :=
  fun H locs ls a b c => lv_ldcw hC.1 hC.2.1 hC.2.2.2.1 (hC.2.2.2.2.1 _ hw) hd (k H locs ls a b c)
theorem g_ldc2 (hC : mOK X cc own nm ret d mc ms) {index : Nat} {v : Int64} (hw : Cond.constantLong own index v ∈ TB) (hd : decode cc pc = .ok (.ldc2_w index, 3)) (k : mG X (pc + 3) lv (.long v :: st) σ kc ks Q) : mG X pc lv st σ kc ks Q :=
  fun H locs ls a b c => lv_ldc2 hC.1 hC.2.1 hC.2.2.2.1 (hC.2.2.2.2.1 _ hw) hd (k H locs ls a b c)
theorem g_iload_n (hC : mOK X cc own nm ret d mc ms) {i : Fin 4} {x : Int32} (hd : decode cc pc = .ok (.iload_n i, 1)) (hv : lvG lv i = some (.int x)) (k : mG X (pc + 1) lv (.int x :: st) σ kc ks Q) : mG X pc lv st σ kc ks Q :=
  fun H locs ls a b c => lv_iload_n hC.1 hC.2.1 hd rfl (c.2.2 _ (lvG_mem hv)) (k H locs ls a b c)
theorem g_iload (hC : mOK X cc own nm ret d mc ms) {i : Nat} {x : Int32} (hd : decode cc pc = .ok (.iload i, 2)) (hv : lvG lv i = some (.int x)) (k : mG X (pc + 2) lv (.int x :: st) σ kc ks Q) : mG X pc lv st σ kc ks Q :=
  fun H locs ls a b c => lv_iload hC.1 hC.2.1 hd (c.2.2 _ (lvG_mem hv)) (k H locs ls a b c)
theorem g_lload_n (hC : mOK X cc own nm ret d mc ms) {i : Fin 4} {x : Int64} (hd : decode cc pc = .ok (.lload_n i, 1)) (hv : lvG lv i = some (.long x)) (k : mG X (pc + 1) lv (.long x :: st) σ kc ks Q) : mG X pc lv st σ kc ks Q :=
  fun H locs ls a b c => lv_lload_n hC.1 hC.2.1 hd rfl (c.2.2 _ (lvG_mem hv)) (k H locs ls a b c)
theorem g_lload (hC : mOK X cc own nm ret d mc ms) {i : Nat} {x : Int64} (hd : decode cc pc = .ok (.lload i, 2)) (hv : lvG lv i = some (.long x)) (k : mG X (pc + 2) lv (.long x :: st) σ kc ks Q) : mG X pc lv st σ kc ks Q :=
  fun H locs ls a b c => lv_lload hC.1 hC.2.1 hd (c.2.2 _ (lvG_mem hv)) (k H locs ls a b c)
theorem g_aload_n (hC : mOK X cc own nm ret d mc ms) {i : Fin 4} {x : Nat} (hd : decode cc pc = .ok (.aload_n i, 1)) (hv : lvG lv i = some (.ref x)) (k : mG X (pc + 1) lv (.ref x :: st) σ kc ks Q) : mG X pc lv st σ kc ks Q :=
  fun H locs ls a b c => lv_aload_n hC.1 hC.2.1 hd rfl (c.2.2 _ (lvG_mem hv)) (k H locs ls a b c)
theorem g_aload (hC : mOK X cc own nm ret d mc ms) {i : Nat} {x : Nat} (hd : decode cc pc = .ok (.aload i, 2)) (hv : lvG lv i = some (.ref x)) (k : mG X (pc + 2) lv (.ref x :: st) σ kc ks Q) : mG X pc lv st σ kc ks Q :=
  fun H locs ls a b c => lv_aload hC.1 hC.2.1 hd (c.2.2 _ (lvG_mem hv)) (k H locs ls a b c)
theorem g_aload_nN (hC : mOK X cc own nm ret d mc ms) {i : Fin 4} (hd : decode cc pc = .ok (.aload_n i, 1)) (hv : lvG lv i = some .null) (k : mG X (pc + 1) lv (.null :: st) σ kc ks Q) : mG X pc lv st σ kc ks Q :=
  fun H locs ls a b c => lv_aload_nN hC.1 hC.2.1 hd rfl (c.2.2 _ (lvG_mem hv)) (k H locs ls a b c)
theorem g_aloadN (hC : mOK X cc own nm ret d mc ms) {i : Nat} (hd : decode cc pc = .ok (.aload i, 2)) (hv : lvG lv i = some .null) (k : mG X (pc + 2) lv (.null :: st) σ kc ks Q) : mG X pc lv st σ kc ks Q :=
  fun H locs ls a b c => lv_aloadN hC.1 hC.2.1 hd (c.2.2 _ (lvG_mem hv)) (k H locs ls a b c)
/-- a reference that may be null, as it lies in a local -/
theorem g_aload_nQ (hC : mOK X cc own nm ret d mc ms) {i : Fin 4} {o : Option Nat} (hd : decode cc pc = .ok (.aload_n i, 1)) (hv : lvG lv i = some (va_rf o)) (k : mG X (pc + 1) lv (va_rf o :: st) σ kc ks Q) : mG X pc lv st σ kc ks Q := by
  cases o with
  | none => exact g_aload_nN hC hd hv k
  | some r => exact g_aload_n hC hd hv k
theorem g_aloadQ (hC : mOK X cc own nm ret d mc ms) {i : Nat} {o : Option Nat} (hd : decode cc pc = .ok (.aload i, 2)) (hv : lvG lv i = some (va_rf o)) (k : mG X (pc + 2) lv (va_rf o :: st) σ kc ks Q) : mG X pc lv st σ kc ks Q := by
  cases o with
  | none => exact g_aloadN hC hd hv k
  | some r => exact g_aload hC hd hv k
theorem g_istore_n (hC : mOK X cc own nm ret d mc ms) {i : Fin 4} {x : Int32} (hd : decode cc pc = .ok (.istore_n i, 1)) (hn : (i : Nat) < xN X) {lv' : List (Nat × Value)} (hl : lvS lv i (.int x) = lv') (k : mG X (pc + 1) lv' st σ kc ks Q) : mG X pc lv (.int x :: st) σ kc ks Q :=
  fun H locs ls a b c => lv_istore_n hC.1 hC.2.1 hd rfl c hn hl (fun ls hl => k H locs ls a b hl)
theorem g_istore (hC : mOK X cc own nm ret d mc ms) {i : Nat} {x : Int32} (hd : decode cc pc = .ok (.istore i, 2)) (hn : i < xN X) {lv' : List (Nat × Value)} (hl : lvS lv i (.int x) = lv') (k : mG X (pc + 2) lv' st σ kc ks Q) : mG X pc lv (.int x :: st) σ kc ks Q :=
  fun H locs ls a b c => lv_istore hC.1 hC.2.1 hd c hn hl (fun ls hl => k H locs ls a b hl)
theorem g_lstore_n (hC : mOK X cc own nm ret d mc ms) {i : Fin 4} {x : Int64} (hd : decode cc pc = .ok (.lstore_n i, 1)) (hn : (i : Nat) + 1 < xN X) {lv' : List (Nat × Value)} (hl : lvS2 lv i (.long x) = lv') (k : mG X (pc + 1) lv' st σ kc ks Q) : mG X pc lv (.long x :: st) σ kc ks Q :=
  fun H locs ls a b c => lv_lstore_n hC.1 hC.2.1 hd rfl c hn hl (fun ls hl => k H locs ls a b hl)
theorem g_lstore (hC : mOK X cc own nm ret d mc ms) {i : Nat} {x : Int64} (hd : decode cc pc = .ok (.lstore i, 2)) (hn : i + 1 < xN X) {lv' : List (Nat × Value)} (hl : lvS2 lv i (.long x) = lv') (k : mG X (pc + 2) lv' st σ kc ks Q) : mG X pc lv (.long x :: st) σ kc ks Q :=
  fun H locs ls a b c => lv_lstore hC.1 hC.2.1 hd c hn hl (fun ls hl => k H locs ls a b hl)
theorem g_astore_n (hC : mOK X cc own nm ret d mc ms) {i : Fin 4} {x : Nat} (hd : decode cc pc = .ok (.astore_n i, 1)) (hn : (i : Nat) < xN X) {lv' : List (Nat × Value)} (hl : lvS lv i (.ref x) = lv') (k : mG X (pc + 1) lv' st σ kc ks Q) : mG X pc lv (.ref x :: st) σ kc ks Q :=
  fun H locs ls a b c => lv_astore_n hC.1 hC.2.1 hd rfl c hn hl (fun ls hl => k H locs ls a b hl)
theorem g_astore (hC : mOK X cc own nm ret d mc ms) {i : Nat} {x : Nat} (hd : decode cc pc = .ok (.astore i, 2)) (hn : i < xN X) {lv' : List (Nat × Value)} (hl : lvS lv i (.ref x) = lv') (k : mG X (pc + 2) lv' st σ kc ks Q) : mG X pc lv (.ref x :: st) σ kc ks Q :=
  fun H locs ls a b c => lv_astore hC.1 hC.2.1 hd c hn hl (fun ls hl => k H locs ls a b hl)
theorem g_astore_nQ (hC : mOK X cc own nm ret d mc ms) {i : Fin 4} {o : Option Nat} (hd : decode cc pc = .ok (.astore_n i, 1)) (hn : (i : Nat) < xN X) {lv' : List (Nat × Value)} (hl : lvS lv i (va_rf o) = lv') (k : mG X (pc + 1) lv' st σ kc ks Q) : mG X pc lv (va_rf o :: st) σ kc ks Q := by
  cases o with
  | none => exact fun H locs ls a b c => lv_astore_nN hC.1 hC.2.1 hd rfl c hn hl (fun ls hl => k H locs ls a b hl)
  | some r => exact g_astore_n hC hd hn hl k
theorem g_astoreQ (hC : mOK X cc own nm ret d mc ms) {i : Nat} {o : Option Nat} (hd : decode cc pc = .ok (.astore i, 2)) (hn : i < xN X) {lv' : List (Nat × Value)} (hl : lvS lv i (va_rf o) = lv') (k : mG X (pc + 2) lv' st σ kc ks Q) : mG X pc lv (va_rf o :: st) σ kc ks Q := by
  cases o with
  | none => exact fun H locs ls a b c => lv_astoreN hC.1 hC.2.1 hd c hn hl (fun ls hl => k H locs ls a b hl)
  | some r => exact g_astore hC hd hn hl k
theorem g_iinc (hC : mOK X cc own nm ret d mc ms) {i : Nat} {n : Int} {x v : Int32} (hd : decode cc pc = .ok (.iinc i n, 3)) (hv : lvG lv i = some (.int x)) (he : x + Int32.ofInt n = v) (hn : i < xN X) {lv' : List (Nat × Value)} (hl : lvS lv i (.int v) = lv') (k : mG X (pc + 3) lv' st σ kc ks Q) : mG X pc lv st σ kc ks Q := by
  obtain ⟨j, hj⟩ := List.getElem?_of_mem (lvG_mem hv)
  exact fun H locs ls a b c => lv_iinc hC.1 hC.2.1 hd c hj he hn hl (fun ls hl => k H locs ls a b hl)
theorem g_goto (hC : mOK X cc own nm ret d mc ms) {off : Int} {tgt : Nat} (hd : decode cc pc = .ok (.goto off, 3)) (ht : (pc : Int) + off = (tgt : Int)) (k : mG X tgt lv st σ kc ks Q) : mG X pc lv st σ kc ks Q :=
  fun H locs ls a b c => lv_goto hC.1 hC.2.1 hd ht (k H locs ls a b c)
theorem g_dup (hC : mOK X cc own nm ret d mc ms) {v : Value} (hd : decode cc pc = .ok (.dup, 1)) (hv : v.category = 1) (k : mG X (pc + 1) lv (v :: v :: st) σ kc ks Q) : mG X pc lv (v :: st) σ kc ks Q :=
  fun H locs ls a b c => lv_dup hC.1 hC.2.1 hd hv (k H locs ls a b c)
theorem g_pop (hC : mOK X cc own nm ret d mc ms) {v : Value} (hd : decode cc pc = .ok (.pop, 1)) (hv : v.category = 1) (k : mG X (pc + 1) lv st σ kc ks Q) : mG X pc lv (v :: st) σ kc ks Q :=
  fun H locs ls a b c => lv_pop hC.1 hC.2.1 hd hv (k H locs ls a b c)
theorem g_dup_x1 (hC : mOK X cc own nm ret d mc ms) {v w : Value} (hd : decode cc pc = .ok (.dup_x1, 1)) (hv : v.category = 1) (hw : w.category = 1) (k : mG X (pc + 1) lv (v :: w :: v :: st) σ kc ks Q) : mG X pc lv (v :: w :: st) σ kc ks Q :=
  fun H locs ls a b c => lv_dup_x1 hC.1 hC.2.1 hd hv hw (k H locs ls a b c)
theorem g_dup2 (hC : mOK X cc own nm ret d mc ms) {v w : Value} (hd : decode cc pc = .ok (.dup2, 1)) (hv : v.category = 1) (hw : w.category = 1) (k : mG X (pc + 1) lv (v :: w :: v :: w :: st) σ kc ks Q) : mG X pc lv (v :: w :: st) σ kc ks Q :=
  fun H locs ls a b c => lv_dup2_11 hC.1 hC.2.1 hd hv hw (k H locs ls a b c)
theorem g_null (hC : mOK X cc own nm ret d mc ms) (hd : decode cc pc = .ok (.aconst_null, 1)) (k : mG X (pc + 1) lv (.null :: st) σ kc ks Q) : mG X pc lv st σ kc ks Q :=
  fun H locs ls a b c => lv_null hC.1 hC.2.1 hd (k H locs ls a b c)
theorem g_ifnull (hC : mOK X cc own nm ret d mc ms) {o : Option Nat} {off : Int} {tgt : Nat} (hd : decode cc pc = .ok (.ifnull off, 3)) (ht : (pc : Int) + off = (tgt : Int)) (k1 : o = none → mG X tgt lv st σ kc ks Q) (k2 : ∀ r, o = some r → mG X (pc + 3) lv st σ kc ks Q) : mG X pc lv (va_rf o :: st) σ kc ks Q := by
  cases o with
  | none => exact fun H locs ls a b c => lv_ifnullN hC.1 hC.2.1 hd ht (k1 rfl H locs ls a b c)
  | some r => exact fun H locs ls a b c => lv_ifnull hC.1 hC.2.1 hd (k2 r rfl H locs ls a b c)
theorem g_ifnonnull (hC : mOK X cc own nm ret d mc ms) {o : Option Nat} {off : Int} {tgt : Nat} (hd : decode cc pc = .ok (.ifnonnull off, 3)) (ht : (pc : Int) + off = (tgt : Int)) (k1 : ∀ r, o = some r → mG X tgt lv st σ kc ks Q) (k2 : o = none → mG X (pc + 3) lv st σ kc ks Q) : mG X pc lv (va_rf o :: st) σ kc ks Q := by
  cases o with
  | none => exact fun H locs ls a b c => lv_ifnonnullN hC.1 hC.2.1 hd (k2 rfl H locs ls a b c)
  | some r => exact fun H locs ls a b c => lv_ifnonnull hC.1 hC.2.1 hd ht (k1 r rfl H locs ls a b c)
theorem g_lcmp (hC : mOK X cc own nm ret d mc ms) {x y : Int64} (hd : decode cc pc = .ok (.lcmp, 1)) (k : mG X (pc + 1) lv (.int (lg_cmp x y) :: st) σ kc ks Q) : mG X pc lv (.long y :: .long x :: st) σ kc ks Q :=
  fun H locs ls a b c => W.lcmp hC.1 hC.2.1 hd (k H locs ls a b c)
theorem g_tableOut (hC : mOK X cc own nm ret d mc ms) {dflt lo hi : Int} {offs : Array Int} {len : Nat} {x : Int32} {tgt : Nat} (hd : decode cc pc = .ok (.tableswitch dflt lo hi offs, len)) (h : x.toInt < lo ∨ hi < x.toInt) (ht : (pc : Int) + dflt = (tgt : Int)) (k : mG X tgt lv st σ kc ks Q) : mG X pc lv (.int x :: st) σ kc ks Q :=
  fun H locs ls a b c => lv_tableOut hC.1 hC.2.1 hd h ht (k H locs ls a b c)
theorem g_tableIn (hC : mOK X cc own nm ret d mc ms) {dflt lo hi : Int} {offs : Array Int} {len : Nat} {x : Int32} {off : Int} {tgt : Nat} (hd : decode cc pc = .ok (.tableswitch dflt lo hi offs, len)) (v : Int32) (hx : x = v) (h1 : ¬ v.toInt < lo) (h2 : ¬ hi < v.toInt) (ho : offs[(v.toInt - lo).toNat]? = some off) (ht : (pc : Int) + off = (tgt : Int)) (k : mG X tgt lv st σ kc ks Q) : mG X pc lv (.int x :: st) σ kc ks Q := by
  subst hx
  exact fun H locs ls a b c => lv_tableIn hC.1 hC.2.1 hd h1 h2 ho ht (k H locs ls a b c)
theorem g_iadd (hC : mOK X cc own nm ret d mc ms) {x y : Int32} (hd : decode cc pc = .ok (.iadd, 1)) (k : mG X (pc + 1) lv (.int (x + y) :: st) σ kc ks Q) : mG X pc lv (.int y :: .int x :: st) σ kc ks Q :=
  fun H locs ls a b c => lv_iadd hC.1 hC.2.1 hd (k H locs ls a b c)
theorem g_isub (hC : mOK X cc own nm ret d mc ms) {x y : Int32} (hd : decode cc pc = .ok (.isub, 1)) (k : mG X (pc + 1) lv (.int (x - y) :: st) σ kc ks Q) : mG X pc lv (.int y :: .int x :: st) σ kc ks Q :=
  fun H locs ls a b c => lv_isub hC.1 hC.2.1 hd (k H locs ls a b c)
theorem g_imul (hC : mOK X cc own nm ret d mc ms) {x y : Int32} (hd : decode cc pc = .ok (.imul, 1)) (k : mG X (pc + 1) lv (.int (x * y) :: st) σ kc ks Q) : mG X pc lv (.int y :: .int x :: st) σ kc ks Q :=
  fun H locs ls a b c => lv_imul hC.1 hC.2.1 hd (k H locs ls a b c)
theorem g_iand (hC : mOK X cc own nm ret d mc ms) {x y : Int32} (hd : decode cc pc = .ok (.iand, 1)) (k : mG X (pc + 1) lv (.int (x &&& y) :: st) σ kc ks Q) : mG X pc lv (.int y :: .int x :: st) σ kc ks Q :=
  fun H locs ls a b c => lv_iand hC.1 hC.2.1 hd (k H locs ls a b c)
theorem g_ior (hC : mOK X cc own nm ret d mc ms) {x y : Int32} (hd : decode cc pc = .ok (.ior, 1)) (k : mG X (pc + 1) lv (.int (x ||| y) :: st) σ kc ks Q) : mG X pc lv (.int y :: .int x :: st) σ kc ks Q :=
  fun H locs ls a b c => lv_ior hC.1 hC.2.1 hd (k H locs ls a b c)
theorem g_ixor (hC : mOK X cc own nm ret d mc ms) {x y : Int32} (hd : decode cc pc = .ok (.ixor, 1)) (k : mG X (pc + 1) lv (.int (x ^^^ y) :: st) σ kc ks Q) : mG X pc lv (.int y :: .int x :: st) σ kc ks Q :=
  fun H locs ls a b c => lv_ixor hC.1 hC.2.1 hd (k H locs ls a b c)
theorem g_ladd (hC : mOK X cc own nm ret d mc ms) {x y : Int64} (hd : decode cc pc = .ok (.ladd, 1)) (k : mG X (pc + 1) lv (.long (x + y) :: st) σ kc ks Q) : mG X pc lv (.long y :: .long x :: st) σ kc ks Q :=
  fun H locs ls a b c => lv_ladd hC.1 hC.2.1 hd (k H locs ls a b c)
theorem g_lsub (hC : mOK X cc own nm ret d mc ms) {x y : Int64} (hd : decode cc pc = .ok (.lsub, 1)) (k : mG X (pc + 1) lv (.long (x - y) :: st) σ kc ks Q) : mG X pc lv (.long y :: .long x :: st) σ kc ks Q :=
  fun H locs ls a b c => lv_lsub hC.1 hC.2.1 hd (k H locs ls a b c)
theorem g_lmul (hC : mOK X cc own nm ret d mc ms) {x y : Int64} (hd : decode cc pc = .ok (.lmul, 1)) (k : mG X (pc + 1) lv (.long (x * y) :: st) σ kc ks Q) : mG X pc lv (.long y :: .long x :: st) σ kc ks Q :=
  fun H locs ls a b c => lv_lmul hC.1 hC.2.1 hd (k H locs ls a b c)
theorem g_land (hC : mOK X cc own nm ret d mc ms) {x y : Int64} (hd : decode cc pc = .ok (.land, 1)) (k : mG X (pc + 1) lv (.long (x &&& y) :: st) σ kc ks Q) : mG X pc lv (.long y :: .long x :: st) σ kc ks Q :=
  fun H locs ls a b c => lv_land hC.1 hC.2.1 hd (k H locs ls a b c)
theorem g_lor (hC : mOK X cc own nm ret d mc ms) {x y : Int64} (hd : decode cc pc = .ok (.lor, 1)) (k : mG X (pc + 1) lv (.long (x ||| y) :: st) σ kc ks Q) : mG X pc lv (.long y :: .long x :: st) σ kc ks Q :=
  fun H locs ls a b c => lv_lor hC.1 hC.2.1 hd (k H locs ls a b c)
theorem g_lxor (hC : mOK X cc own nm ret d mc ms) {x y : Int64} (hd : decode cc pc = .ok (.lxor, 1)) (k : mG X (pc + 1) lv (.long (x ^^^ y) :: st) σ kc ks Q) : mG X pc lv (.long y :: .long x :: st) σ kc ks Q :=
  fun H locs ls a b c => lv_lxor hC.1 hC.2.1 hd (k H locs ls a b c)
theorem g_idiv (hC : mOK X cc own nm ret d mc ms) {x y : Int32} (hd : decode cc pc = .ok (.idiv, 1)) (hne : ¬ y = 0) (k : mG X (pc + 1) lv (.int (x / y) :: st) σ kc ks Q) : mG X pc lv (.int y :: .int x :: st) σ kc ks Q :=
  fun H locs ls a b c => lv_idiv hC.1 hC.2.1 hd hne (k H locs ls a b c)
theorem g_irem (hC : mOK X cc own nm ret d mc ms) {x y : Int32} (hd : decode cc pc = .ok (.irem, 1)) (hne : ¬ y = 0) (k : mG X (pc + 1) lv (.int (x - x / y * y) :: st) σ kc ks Q) : mG X pc lv (.int y :: .int x :: st) σ kc ks Q :=
  fun H locs ls a b c => lv_irem hC.1 hC.2.1 hd hne (k H locs ls a b c)
theorem g_ldiv (hC : mOK X cc own nm ret d mc ms) {x y : Int64} (hd : decode cc pc = .ok (.ldiv, 1)) (hne : ¬ y = 0) (k : mG X (pc + 1) lv (.long (x / y) :: st) σ kc ks Q) : mG X pc lv (.long y :: .long x :: st) σ kc ks Q :=
  fun H locs ls a b c => lv_ldiv hC.1 hC.2.1 hd hne (k H locs ls a b c)
theorem g_lrem (hC : mOK X cc own nm ret d mc ms) {x y : Int64} (hd : decode cc pc = .ok (.lrem, 1)) (hne : ¬ y = 0) (k : mG X (pc + 1) lv (.long (x - x / y * y) :: st) σ kc ks Q) : mG X pc lv (.long y :: .long x :: st) σ kc ks Q :=
  fun H locs ls a b c => lv_lrem hC.1 hC.2.1 hd hne (k H locs ls a b c)
theorem g_ineg (hC : mOK X cc own nm ret d mc ms) {x : Int32} (hd : decode cc pc = .ok (.ineg, 1)) (k : mG X (pc + 1) lv (.int (0 - x) :: st) σ kc ks Q) : mG X pc lv (.int x :: st) σ kc ks Q :=
  fun H locs ls a b c => lv_ineg hC.1 hC.2.1 hd (k H locs ls a b c)
theorem g_ishl (hC : mOK X cc own nm ret d mc ms) {x y : Int32} (hd : decode cc pc = .ok (.ishl, 1)) (k : mG X (pc + 1) lv (.int (x <<< (y &&& 31)) :: st) σ kc ks Q) : mG X pc lv (.int y :: .int x :: st) σ kc ks Q :=
  fun H locs ls a b c => lv_ishl hC.1 hC.2.1 hd (k H locs ls a b c)
theorem g_ishr (hC : mOK X cc own nm ret d mc ms) {x y : Int32} (hd : decode cc pc = .ok (.ishr, 1)) (k : mG X (pc + 1) lv (.int (x >>> (y &&& 31)) :: st) σ kc ks Q) : mG X pc lv (.int y :: .int x :: st) σ kc ks Q :=
  fun H locs ls a b c => lv_ishr hC.1 hC.2.1 hd (k H locs ls a b c)
theorem g_iushr (hC : mOK X cc own nm ret d mc ms) {x y : Int32} (hd : decode cc pc = .ok (.iushr, 1)) (k : mG X (pc + 1) lv (.int (x.toUInt32 >>> (y.toUInt32 &&& Int32.toUInt32 31)).toInt32 :: st) σ kc ks Q) : mG X pc lv (.int y :: .int x :: st) σ kc ks Q :=
  fun H locs ls a b c => lv_iushr hC.1 hC.2.1 hd rfl (k H locs ls a b c)
theorem g_i2l (hC : mOK X cc own nm ret d mc ms) {x : Int32} (hd : decode cc pc = .ok (.i2l, 1)) (k : mG X (pc + 1) lv (.long (x.toInt64) :: st) σ kc ks Q) : mG X pc lv (.int x :: st) σ kc ks Q :=
  fun H locs ls a b c => lv_i2l hC.1 hC.2.1 hd rfl (k H locs ls a b c)
theorem g_l2i (hC : mOK X cc own nm ret d mc ms) {x : Int64} (hd : decode cc pc = .ok (.l2i, 1)) (k : mG X (pc + 1) lv (.int (x.toInt32) :: st) σ kc ks Q) : mG X pc lv (.long x :: st) σ kc ks Q :=
  fun H locs ls a b c => lv_l2i hC.1 hC.2.1 hd rfl (k H locs ls a b c)
theorem g_i2b (hC : mOK X cc own nm ret d mc ms) {x : Int32} (hd : decode cc pc = .ok (.i2b, 1)) (k : mG X (pc + 1) lv (.int (x.toInt8.toInt32) :: st) σ kc ks Q) : mG X pc lv (.int x :: st) σ kc ks Q :=
  fun H locs ls a b c => lv_i2b hC.1 hC.2.1 hd rfl (k H locs ls a b c)
theorem g_i2s (hC : mOK X cc own nm ret d mc ms) {x : Int32} (hd : decode cc pc = .ok (.i2s, 1)) (k : mG X (pc + 1) lv (.int (x.toInt16.toInt32) :: st) σ kc ks Q) : mG X pc lv (.int x :: st) σ kc ks Q :=
  fun H locs ls a b c => lv_i2s hC.1 hC.2.1 hd rfl (k H locs ls a b c)
theorem g_i2c (hC : mOK X cc own nm ret d mc ms) {x : Int32} (hd : decode cc pc = .ok (.i2c, 1)) (k : mG X (pc + 1) lv (.int ((x.toUInt32 % 65536).toInt32) :: st) σ kc ks Q) : mG X pc lv (.int x :: st) σ kc ks Q :=
  fun H locs ls a b c => lv_i2c hC.1 hC.2.1 hd rfl (k H locs ls a b c)
theorem g_if_eq (hC : mOK X cc own nm ret d mc ms) {x : Int32} {off : Int} {tgt : Nat} (hd : decode cc pc = .ok (.ifCond .eq off, 3)) (ht : (pc : Int) + off = (tgt : Int)) (k1 : x = 0 → mG X tgt lv st σ kc ks Q) (k2 : ¬ x = 0 → mG X (pc + 3) lv st σ kc ks Q) : mG X pc lv (.int x :: st) σ kc ks Q :=
  fun H locs ls a b c => lv_if_eq hC.1 hC.2.1 hd ht (fun z => k1 z H locs ls a b c) (fun z => k2 z H locs ls a b c)
theorem g_icmp_eq (hC : mOK X cc own nm ret d mc ms) {x y : Int32} {off : Int} {tgt : Nat} (hd : decode cc pc = .ok (.if_icmp .eq off, 3)) (ht : (pc : Int) + off = (tgt : Int)) (k1 : x = y → mG X tgt lv st σ kc ks Q) (k2 : ¬ x = y → mG X (pc + 3) lv st σ kc ks Q) : mG X pc lv (.int y :: .int x :: st) σ kc ks Q :=
  fun H locs ls a b c => lv_icmp_eq hC.1 hC.2.1 hd ht (fun z => k1 z H locs ls a b c) (fun z => k2 z H locs ls a b c)
theorem g_if_ne (hC : mOK X cc own nm ret d mc ms) {x : Int32} {off : Int} {tgt : Nat} (hd : decode cc pc = .ok (.ifCond .ne off, 3)) (ht : (pc : Int) + off = (tgt : Int)) (k1 : ¬ x = 0 → mG X tgt lv st σ kc ks Q) (k2 : x = 0 → mG X (pc + 3) lv st σ kc ks Q) : mG X pc lv (.int x :: st) σ kc ks Q :=
  fun H locs ls a b c => lv_if_ne hC.1 hC.2.1 hd ht (fun z => k1 z H locs ls a b c) (fun z => k2 z H locs ls a b c)
theorem g_icmp_ne (hC : mOK X cc own nm ret d mc ms) {x y : Int32} {off : Int} {tgt : Nat} (hd : decode cc pc = .ok (.if_icmp .ne off, 3)) (ht : (pc : Int) + off = (tgt : Int)) (k1 : ¬ x = y → mG X tgt lv st σ kc ks Q) (k2 : x = y → mG X (pc + 3) lv st σ kc ks Q) : mG X pc lv (.int y :: .int x :: st) σ kc ks Q :=
  fun H locs ls a b c => lv_icmp_ne hC.1 hC.2.1 hd ht (fun z => k1 z H locs ls a b c) (fun z => k2 z H locs ls a b c)
theorem g_if_lt (hC : mOK X cc own nm ret d mc ms) {x : Int32} {off : Int} {tgt : Nat} (hd : decode cc pc = .ok (.ifCond .lt off, 3)) (ht : (pc : Int) + off = (tgt : Int)) (k1 : x < 0 → mG X tgt lv st σ kc ks Q) (k2 : ¬ x < 0 → mG X (pc + 3) lv st σ kc ks Q) : mG X pc lv (.int x :: st) σ kc ks Q :=
  fun H locs ls a b c => lv_if_lt hC.1 hC.2.1 hd ht (fun z => k1 z H locs ls a b c) (fun z => k2 z H locs ls a b c)
theorem g_icmp_lt (hC : mOK X cc own nm ret d mc ms) {x y : Int32} {off : Int} {tgt : Nat} (hd : decode cc pc = .ok (.if_icmp .lt off, 3)) (ht : (pc : Int) + off = (tgt : Int)) (k1 : x < y → mG X tgt lv st σ kc ks Q) (k2 : ¬ x < y → mG X (pc + 3) lv st σ kc ks Q) : mG X pc lv (.int y :: .int x :: st) σ kc ks Q :=
  fun H locs ls a b c => lv_icmp_lt hC.1 hC.2.1 hd ht (fun z => k1 z H locs ls a b c) (fun z => k2 z H locs ls a b c)
theorem g_if_ge (hC : mOK X cc own nm ret d mc ms) {x : Int32} {off : Int} {tgt : Nat} (hd : decode cc pc = .ok (.ifCond .ge off, 3)) (ht : (pc : Int) + off = (tgt : Int)) (k1 : 0 ≤ x → mG X tgt lv st σ kc ks Q) (k2 : ¬ 0 ≤ x → mG X (pc + 3) lv st σ kc ks Q) : mG X pc lv (.int x :: st) σ kc ks Q :=
  fun H locs ls a b c => lv_if_ge hC.1 hC.2.1 hd ht (fun z => k1 z H locs ls a b c) (fun z => k2 z H locs ls a b c)
theorem g_icmp_ge (hC : mOK X cc own nm ret d mc ms) {x y : Int32} {off : Int} {tgt : Nat} (hd : decode cc pc = .ok (.if_icmp .ge off, 3)) (ht : (pc : Int) + off = (tgt : Int)) (k1 : y ≤ x → mG X tgt lv st σ kc ks Q) (k2 : ¬ y ≤ x → mG X (pc + 3) lv st σ kc ks Q) : mG X pc lv (.int y :: .int x :: st) σ kc ks Q :=
  fun H locs ls a b c => lv_icmp_ge hC.1 hC.2.1 hd ht (fun z => k1 z H locs ls a b c) (fun z => k2 z H locs ls a b c)
theorem g_if_gt (hC : mOK X cc own nm ret d mc ms) {x : Int32} {off : Int} {tgt : Nat} (hd : decode cc pc = .ok (.ifCond .gt off, 3)) (ht : (pc : Int) + off = (tgt : Int)) (k1 : 0 < x → mG X tgt lv st σ kc ks Q) (k2 : ¬ 0 < x → mG X (pc + 3) lv st σ kc ks Q) : mG X pc lv (.int x :: st) σ kc ks Q :=
  fun H locs ls a b c => lv_if_gt hC.1 hC.2.1 hd ht (fun z => k1 z H locs ls a b c) (fun z => k2 z H locs ls a b c)
theorem g_icmp_gt (hC : mOK X cc own nm ret d mc ms) {x y : Int32} {off : Int} {tgt : Nat} (hd : decode cc pc = .ok (.if_icmp .gt off, 3)) (ht : (pc : Int) + off = (tgt : Int)) (k1 : y < x → mG X tgt lv st σ kc ks Q) (k2 : ¬ y < x → mG X (pc + 3) lv st σ kc ks Q) : mG X pc lv (.int y :: .int x :: st) σ kc ks Q :=
  fun H locs ls a b c => lv_icmp_gt hC.1 hC.2.1 hd ht (fun z => k1 z H locs ls a b c) (fun z => k2 z H locs ls a b c)
theorem g_if_le (hC : mOK X cc own nm ret d mc ms) {x : Int32} {off : Int} {tgt : Nat} (hd : decode cc pc = .ok (.ifCond .le off, 3)) (ht : (pc : Int) + off = (tgt : Int)) (k1 : x ≤ 0 → mG X tgt lv st σ kc ks Q) (k2 : ¬ x ≤ 0 → mG X (pc + 3) lv st σ kc ks Q) : mG X pc lv (.int x :: st) σ kc ks Q :=
  fun H locs ls a b c => lv_if_le hC.1 hC.2.1 hd ht (fun z => k1 z H locs ls a b c) (fun z => k2 z H locs ls a b c)
theorem g_icmp_le (hC : mOK X cc own nm ret d mc ms) {x y : Int32} {off : Int} {tgt : Nat} (hd : decode cc pc = .ok (.if_icmp .le off, 3)) (ht : (pc : Int) + off = (tgt : Int)) (k1 : x ≤ y → mG X tgt lv st σ kc ks Q) (k2 : ¬ x ≤ y → mG X (pc + 3) lv st σ kc ks Q) : mG X pc lv (.int y :: .int x :: st) σ kc ks Q :=
  fun H locs ls a b c => lv_icmp_le hC.1 hC.2.1 hd ht (fun z => k1 z H locs ls a b c) (fun z => k2 z H locs ls a b c)
end GW
end
section
/-! stores, with the heap's size kept -/
section WS
variable {p : Program} {l : Launch} {e : Env} {R : Room} {s : State} {m : MethodId} {args : Array Value} {below : List Frame} {meth : Method} {c : Code} {H : Heap} {locs : List Loc} {cells slots : Nat} {Q : State → Prop}
variable {cc : ByteArray} {pc : Nat} {ls : Array Slot} {rest : List Value} {D : va_G} {cl : List vw_C} {A : Nat → Prop} {a : Nat} {tys : List (ClassId × FieldType)} {ws : va_W} {H0 : Heap}
theorem w_put (hexec : p.tables.exec = Jvm.exec) (hb : c.code = cc) {own C : String} {T : u_T} {N ci index : Nat} (hts : ∀ w ∈ TB, w.before args s = true) (hin : ∀ w ∈ u_ws C T N, w ∈ TB) (ty0 : Nat → FieldType) (hty : ∀ k, k < N → parseFieldDescriptor (T k).2.2.1 = some (ty0 k)) (hnm : ∀ a, a < N → ∀ b, b < N → a ≠ b → (T a).2.1 ≠ (T b).2.1) (hown : s.vm.findClass own = some m.cls) (hK : va_K D cl tys s) (hP : va_P D cl ws H) (hD : va_D A ws) (hS0 : va_S A H0 H locs) (q0 : Nat) {fs : List Value} (he : ws[q0]? = some (a, .inr (ci, fs))) (hc : cl[ci]? = some (C, T, N)) (k : Nat) (hk : k < N) (hlink : (Cond.fieldLink own index (T k).1 (T k).2.1 (T k).2.2.1).before args s = true) (hfin : (T k).2.2.2 = false ∨ ((T k).2.2.2 = true ∧ meth.name = "<init>" ∧ (T k).1 = own)) {v : Value} (hn : narrow (ty0 k) v = v) (hfit : fits (ty0 k) v = true) (hl : k < fs.length)
    (hdg : decode cc pc = .ok (.putfield index, 3)) (kk : ∀ (H1 : Heap) (locs1 : List Loc), H1.size = H.size → va_P D cl (ws.set q0 (a, .inr (ci, fs.set k v))) H1 → va_S A H0 H1 locs1 → W p l e R s m args below meth c H1 locs1 cells slots Q (F0 m (pc + 3) ls rest)) : W p l e R s m args below meth c H locs cells slots Q (F0 m pc ls (v :: .ref a :: rest)) := by
  have hap := va_apart (own := own) hts hin ty0 hty hnm hK hc
  obtain ⟨r, h1, cell, q1, q2, q3, q4⟩ := hP q0 _ he
  have hr : r = (C, T, N) := Option.some.inj (h1.symm.trans hc)
  subst hr
  obtain ⟨hS, hfc, kC, hkC, hkind⟩ := hK.1 ci _ hc
  obtain ⟨cf, kf, fi, f, hi, hsl⟩ := hS k hk
  have hlay := hts _ (hin _ (u_in_lay hk))
  unfold u_lay at hlay
  have hst := (u_facts hfc hkC (u_lays hts hin hk) hi).1
  rcases hfin with hfin | ⟨hfin, hin2, hdecl⟩
  · rw [if_neg (by rw [hfin]; decide)] at hlay
    have h6 := u_store hfc hkC hkind hlay hi (hty k hk) hn hfit
    refine W.putK hexec hb (f := f) ⟨hown, hlink, ⟨_, _, _, hi⟩, hst⟩ (by rw [q2]; exact h6) q1 q3 (by rw [hsl]; exact k2_hasslot (q4 k hk)) rfl rfl hdg fun H' e1 e2 e3 => ?_
    rw [hsl] at e1 ⊢
    exact kk H' _ e2 (hP.set hD he ⟨_, hc, t_OB.to (V := updV (vp_V fs) k v) ⟨_, e1, q2, q3, t_set q4 hap hk v⟩ (fun j _ => vp_updV_set hl v j)⟩ e3) (hS0.put e2 e3 (hD.2 q0 _ he))
  · rw [if_pos hfin] at hlay
    have hcf : m.cls = cf := by
      obtain ⟨_, _, c', _, _, _, -, -, hf', -, -, -, hown2, -⟩ := Cond.laysFinal_spec hlay
      have e1 : c' = cf := by have := hi.symm.trans hf'; simp at this; exact this.1.symm
      rw [hdecl] at hown2
      rw [← e1]; exact Option.some.inj (hown.symm.trans hown2)
    have h6 := u_fits hfc hkC hkind (Or.inr hlay) hi (hty k hk) hn hfit
    refine W.putFinK hexec hb hown hlink hi hst hcf hin2 (by rw [q2]; exact h6) q1 q3 (by rw [hsl]; exact k2_hasslot (q4 k hk)) rfl rfl hdg fun H' e1 e2 e3 => ?_
    rw [hsl] at e1 ⊢
    exact kk H' _ e2 (hP.set hD he ⟨_, hc, t_OB.to (V := updV (vp_V fs) k v) ⟨_, e1, q2, q3, t_set q4 hap hk v⟩ (fun j _ => vp_updV_set hl v j)⟩ e3) (hS0.put e2 e3 (hD.2 q0 _ he))
theorem w_iast (hexec : p.tables.exec = Jvm.exec) (hb : c.code = cc) (hK : va_K D cl tys s) (hP : va_P D cl ws H) (hD : va_D A ws) (hS : va_S A H0 H locs) (q0 t0 : Nat) {cA : ClassId} {n : Nat} {f : Nat → Int32} (ha : ws[q0]? = some (a, .inl (cA, n, .inl f))) (ht : tys[t0]? = some (cA, .int)) {i : Int32} {x : Int32} (hin : vp_in i n) (hdg : decode cc pc = .ok (.iastore, 1))
    (kk : ∀ (H1 : Heap) (locs1 : List Loc), H1.size = H.size → va_P D cl (ws.set q0 (a, .inl (cA, n, .inl (upd f i.toNatClampNeg x)))) H1 → va_S A H0 H1 locs1 → W p l e R s m args below meth c H1 locs1 cells slots Q (F0 m (pc + 1) ls rest)) : W p l e R s m args below meth c H locs cells slots Q (F0 m pc ls (.int x :: .int i :: .ref a :: rest)) := by
  refine W.iast hexec hb (hP q0 _ ha) ((hK.2 t0 _ ht).1 n (fun j => .int (f j))) (fun q => by cases q) (by show ¬ (i < 0 ∨ (arrV _ _ _).slots.size ≤ _); rw [arrV_size]; exact hin) rfl rfl hdg fun H1 e z oq => ?_
  refine kk H1 _ z (hP.set hD ha ?_ oq) (hS.put z oq (hD.2 q0 _ ha))
  show H1[a]? = some (vp_cell _ _)
  rw [e]
  rw [vp_cell_i, vp_cell_i, arrV_store]
  congr 2
  funext q
  by_cases hq : q = i.toNatClampNeg
  · subst hq
    simp [updV, upd]
    try rfl
  · simp [updV, upd, hq]
theorem w_zast (hexec : p.tables.exec = Jvm.exec) (hb : c.code = cc) (hK : va_K D cl tys s) (hP : va_P D cl ws H) (hD : va_D A ws) (hS : va_S A H0 H locs) (q0 t0 : Nat) {cA : ClassId} {n : Nat} {f : Nat → Int32} (ha : ws[q0]? = some (a, .inl (cA, n, .inl f))) (ht : tys[t0]? = some (cA, .boolean)) {i : Int32} {x : Int32} (hin : vp_in i n) (hdg : decode cc pc = .ok (.bastore, 1))
    (kk : ∀ (H1 : Heap) (locs1 : List Loc), H1.size = H.size → va_P D cl (ws.set q0 (a, .inl (cA, n, .inl (upd f i.toNatClampNeg (vp_nar .boolean x))))) H1 → va_S A H0 H1 locs1 → W p l e R s m args below meth c H1 locs1 cells slots Q (F0 m (pc + 1) ls rest)) : W p l e R s m args below meth c H locs cells slots Q (F0 m pc ls (.int x :: .int i :: .ref a :: rest)) := by
  refine W.zast hexec hb (hP q0 _ ha) ((hK.2 t0 _ ht).1 n (fun j => .int (f j))) (fun q => by cases q) (by show ¬ (i < 0 ∨ (arrV _ _ _).slots.size ≤ _); rw [arrV_size]; exact hin) rfl rfl hdg fun H1 e z oq => ?_
  refine kk H1 _ z (hP.set hD ha ?_ oq) (hS.put z oq (hD.2 q0 _ ha))
  show H1[a]? = some (vp_cell _ _)
  rw [e]
  rw [vp_cell_i, vp_cell_i, arrV_store]
  congr 2
  funext q
  by_cases hq : q = i.toNatClampNeg
  · subst hq
    simp [updV, upd, vp_nar]
    try rfl
  · simp [updV, upd, hq]
theorem w_cast (hexec : p.tables.exec = Jvm.exec) (hb : c.code = cc) (hK : va_K D cl tys s) (hP : va_P D cl ws H) (hD : va_D A ws) (hS : va_S A H0 H locs) (q0 t0 : Nat) {cA : ClassId} {n : Nat} {f : Nat → Int32} (ha : ws[q0]? = some (a, .inl (cA, n, .inl f))) (ht : tys[t0]? = some (cA, .char)) {i : Int32} {x : Int32} (hin : vp_in i n) (hdg : decode cc pc = .ok (.castore, 1))
    (kk : ∀ (H1 : Heap) (locs1 : List Loc), H1.size = H.size → va_P D cl (ws.set q0 (a, .inl (cA, n, .inl (upd f i.toNatClampNeg (vp_nar .char x))))) H1 → va_S A H0 H1 locs1 → W p l e R s m args below meth c H1 locs1 cells slots Q (F0 m (pc + 1) ls rest)) : W p l e R s m args below meth c H locs cells slots Q (F0 m pc ls (.int x :: .int i :: .ref a :: rest)) := by
  refine W.cast hexec hb (hP q0 _ ha) ((hK.2 t0 _ ht).1 n (fun j => .int (f j))) (fun q => by cases q) (by show ¬ (i < 0 ∨ (arrV _ _ _).slots.size ≤ _); rw [arrV_size]; exact hin) rfl rfl hdg fun H1 e z oq => ?_
  refine kk H1 _ z (hP.set hD ha ?_ oq) (hS.put z oq (hD.2 q0 _ ha))
  show H1[a]? = some (vp_cell _ _)
  rw [e]
  rw [vp_cell_i, vp_cell_i, arrV_store]
  congr 2
  funext q
  by_cases hq : q = i.toNatClampNeg
  · subst hq
    simp [updV, upd, vp_nar]
    try rfl
  · simp [updV, upd, hq]
theorem w_astq (hexec : p.tables.exec = Jvm.exec) (hb : c.code = cc) (hK : va_K D cl tys s) (hP : va_P D cl ws H) (hD : va_D A ws) (hS : va_S A H0 H locs) (q0 t0 : Nat) {E : String} {cA : ClassId} {n v : Nat} {f : Nat → Option Nat} (ha : ws[q0]? = some (a, .inl (cA, n, .inr (.inr (.inr (.inr f)))))) (ht : tys[t0]? = some (cA, .object E)) (hr : va_Any E s H v) {i : Int32} (hin : vp_in i n) (hdg : decode cc pc = .ok (.aastore, 1))
    (kk : ∀ (H1 : Heap) (locs1 : List Loc), H1.size = H.size → va_P D cl (ws.set q0 (a, .inl (cA, n, .inr (.inr (.inr (.inr (va_up f i.toNatClampNeg (some v)))))))) H1 → va_S A H0 H1 locs1 → W p l e R s m args below meth c H1 locs1 cells slots Q (F0 m (pc + 1) ls rest)) : W p l e R s m args below meth c H locs cells slots Q (F0 m pc ls (.ref v :: .int i :: .ref a :: rest)) := by
  have hlt : i.toNatClampNeg < n := Nat.not_le.mp fun q => hin (Or.inr q)
  have h0 : ¬ i < 0 := fun q => hin (Or.inl q)
  obtain ⟨cellV, g1, g3, ⟨kC, hkC⟩, hasg⟩ := hr
  obtain ⟨kA, comp, k1, k2, k3, -⟩ := (hK.2 t0 _ ht).2
  obtain ⟨kE, hkE, -⟩ := Vm.findClass_spec k3
  refine W.aast hexec hb (hP q0 _ ha) (fun q h => by cases h) (fun h => by cases h) k1 k2 rfl hkE ⟨h0, by show _ < (arrV _ _ _).slots.size; rw [arrV_size]; exact hlt⟩ g1 (fun q h => by rw [h] at g3; cases g3) hkC (hasg _ k3) rfl rfl hdg fun H1 e z oq => ?_
  refine kk H1 _ z (hP.set hD ha ?_ oq) (hS.put z oq (hD.2 q0 _ ha))
  show H1[a]? = some (vp_cell _ _)
  rw [e]
  rw [vp_cell_q, vp_cell_q, arrV_store]
  congr 2
  funext q
  by_cases hq : q = i.toNatClampNeg
  · subst hq
    simp [updV, va_up, va_rf]
  · simp [updV, va_up, hq]
theorem w_copyi {cc : ByteArray} (hexec : p.tables.exec = Jvm.exec) (hb : c.code = cc) (hml : c.maxLocals = ls.size) {own : String} {index : Nat} (hown : s.vm.findClass own = some m.cls) (hlink : (Cond.methodLink own index arraycopyName).before args s = true) (hnat : (Cond.native arraycopyName).before args s = true) (hstat : (Cond.static arraycopyName).before args s = true) (hini : (Cond.initialized "java/lang/System").before args s = true)
    (hK : va_K D cl tys s) (hP : va_P D cl ws H) (hD : va_D A ws) (hS : va_S A H0 H locs) (q0 q1 t0 t1 : Nat) {a0 : Nat} {c0 c1 : ClassId} {n0 n1 : Nat} {f g : Nat → Int32} (ha0 : ws[q0]? = some (a0, .inl (c0, n0, .inl f))) (ha1 : ws[q1]? = some (a, .inl (c1, n1, .inl g))) (ht0 : tys[t0]? = some (c0, .int)) (ht1 : tys[t1]? = some (c1, .int))
    {sp dp n : Int32} (h1 : ¬ sp < 0) (h2 : ¬ dp < 0) (h3 : ¬ n < 0) (h4 : sp.toNatClampNeg + n.toNatClampNeg ≤ n0) (h5 : dp.toNatClampNeg + n.toNatClampNeg ≤ n1)
    (hframes : 1 ≤ R.frames) (hlocals : (rest.map fun v => v.category).sum + (nativeFrameWords "java/lang/System" "arraycopy" 5 + 11) ≤ R.locals) (hdg : decode cc pc = .ok (.invokestatic index, 3))
    (kk : ∀ (H1 : Heap) (locs1 : List Loc), H1.size = H.size → va_P D cl (ws.set q1 (a, .inl (c1, n1, .inl (va_cpy f g sp.toNatClampNeg dp.toNatClampNeg n.toNatClampNeg)))) H1 → va_S A H0 H1 locs1 → W p l e R s m args below meth c H1 locs1 cells slots Q (F0 m (pc + 3) ls rest)) : W p l e R s m args below meth c H locs cells slots Q (F0 m pc ls (.int n :: .int dp :: .ref a :: .int sp :: .ref a0 :: rest)) := by
  have nn : ∀ z : Int32, ¬ z < 0 → z.toInt = (z.toNatClampNeg : Int) := by
    intro z hz
    have hz0 : (0 : Int) ≤ z.toInt := by
      have := Int32.not_lt.mp hz
      simpa using Int32.le_iff_toInt_le.mp this
    show z.toInt = ((z.toInt.toNat : Nat) : Int)
    omega
  intro T hT X
  have hc0 : H[a0]? = some (vp_cell c0 (n0, .inl f)) := hP q0 _ ha0
  have hc1 : H[a]? = some (vp_cell c1 (n1, .inl g)) := hP q1 _ ha1
  obtain ⟨-, k0, hk0, cm0, hkk0⟩ := (hK.2 t0 _ ht0).1 n0 (fun j => .int (f j))
  obtain ⟨-, k1, hk1, cm1, hkk1⟩ := (hK.2 t1 _ ht1).1 n1 (fun j => .int (g j))
  obtain ⟨vm', X', step⟩ := X.arraycopy hexec hown hlink hnat hstat hini (src := a0) (dst := a) (cs := vp_cell c0 (n0, .inl f)) (cd := vp_cell c1 (n1, .inl g)) (srcPos := sp) (destPos := dp) (n := n) (by rw [hT]; exact hc0) (by rw [hT]; exact hc1)
    (fun _ h => by cases h) (fun _ h => by cases h) (fun h => by cases h) (fun h => by cases h) hk0 hk1 hkk0 hkk1 (by simp [refKind]) h1 h2 h3
    (by rw [nn sp h1, nn n h3]; show ¬ _ > ((arrV c0 n0 (fun j => .int (f j))).slots.size : Int); rw [arrV_size]; omega)
    (by rw [nn dp h2, nn n h3]; show ¬ _ > ((arrV c1 n1 (fun j => .int (g j))).slots.size : Int); rw [arrV_size]; omega)
    (fun vm₁ _ i hi => by
      have e : (vp_cell c0 (n0, .inl f)).slots.getD (sp.toNatClampNeg + i) .null = .int (f (sp.toNatClampNeg + i)) := by
        show (arrV c0 n0 (fun j => .int (f j))).slots.getD _ _ = _
        rw [Array.getD_eq_getD_getElem?, arrV_read _ _ (by omega)]
        rfl
      refine ⟨?_, ?_⟩
      · rw [e]
        rfl
      · rw [e]
        exact trivial)
    (g := F0 m pc ls (.int n :: .int dp :: .ref a :: .int sp :: .ref a0 :: rest)) rfl (by rw [hml]) (rest := rest) rfl (by rw [hb]; exact hdg) hframes (by show 2 * 0 + _ + _ ≤ _; omega)
  have e1 : copied (vp_cell c0 (n0, .inl f)) (vp_cell c1 (n1, .inl g)) sp dp n = vp_cell c1 (n1, .inl (va_cpy f g sp.toNatClampNeg dp.toNatClampNeg n.toNatClampNeg)) := va_copied (fun z => .int z) c0 c1 f g h4
  rw [e1] at X' step
  have hl : a < H.size := (Array.getElem?_eq_some_iff.mp hc1).1
  have hheap : ((T.setVm vm').setCell a (vp_cell c1 (n1, .inl (va_cpy f g sp.toNatClampNeg dp.toNatClampNeg n.toNatClampNeg)))).heap = H.setIfInBounds a (vp_cell c1 (n1, .inl (va_cpy f g sp.toNatClampNeg dp.toNatClampNeg n.toNatClampNeg))) := by rw [← hT]; rfl
  have oq : ∀ q : Nat, q ≠ a → (H.setIfInBounds a (vp_cell c1 (n1, .inl (va_cpy f g sp.toNatClampNeg dp.toNatClampNeg n.toNatClampNeg))))[q]? = H[q]? := fun q hq => by simp [Array.getElem?_setIfInBounds, Ne.symm hq]
  obtain ⟨t, a1, b1⟩ := kk _ _ (by simp) (hP.set hD ha1 (show (H.setIfInBounds a _)[a]? = some _ by simp [Array.getElem?_setIfInBounds, hl]) oq) ⟨by simp; exact hS.1, fun q g1 g2 => by
      rw [oq q (fun e => g2 (by rw [e]; exact hD.2 q1 _ ha1))]
      exact hS.2.1 q g1 g2, fun q hq => by
      rcases List.mem_append.mp hq with h | h
      · exact hS.2.2 q h
      · obtain ⟨z, -, hz⟩ := List.mem_map.mp h
        rw [← hz]
        exact hD.2 q1 _ ha1⟩ _ hheap X'
  exact ⟨t, step t a1, b1⟩
theorem w_new {c0 : Code} (hexec : p.tables.exec = Jvm.exec) (hb : c0.code = cc) {own C : String} {T : u_T} {N ci index : Nat} (hts : ∀ w ∈ TB, w.before args s = true) (hin : ∀ w ∈ u_ws C T N, w ∈ TB) (ty : Nat → FieldType) (hty : ∀ k, k < N → parseFieldDescriptor (T k).2.2.1 = some (ty k)) (hown : s.vm.findClass own = some m.cls) (hcl : (Cond.classLink own index C).before args s = true) (hinst : (Cond.instantiable C N).before args s = true) (hini : (Cond.initialized C).before args s = true)
    (hK : va_K D cl tys s) (hP : va_P D cl ws H) (hS : va_S A H0 H locs) (hc : cl[ci]? = some (C, T, N)) {fs : List Value} (hfs : ∀ j, j < N → defaultValue (ty j) = vp_V fs j) (hcells : cells + 1 ≤ R.cells) (hslots : slots + N ≤ R.slots) (hdg : decode cc pc = .ok (.new index, 3))
    (kk : ∀ (H1 : Heap), H1.size = H.size + 1 → va_P D cl (ws ++ [(H.size, .inr (ci, fs))]) H1 → va_S A H0 H1 locs →
      W p l e R s m args below meth c0 H1 locs (cells + 1) (slots + N) Q (F0 m (pc + 3) ls (.ref H.size :: rest))) : W p l e R s m args below meth c0 H locs cells slots Q (F0 m pc ls rest) := by
  have hKn := hK.1 ci _ hc
  refine W.newcK hexec hb hown hcl hinst hini rfl hdg hcells hslots hKn.2.1 rfl fun H1 kC hkC e1 z1 o1 => ?_
  have hk : ∀ (k : Nat) (x : Nat × va_E), ws[k]? = some x → H1[x.1]? = H[x.1]? := fun k x hx => o1 x.1 ((hP k x hx).lt)
  refine kk H1 z1 ((hP.kept hk).app (fun k x hx => ?_)) ⟨Nat.le_trans hS.1 (by omega), fun x h1 h2 => (o1 x (Nat.lt_of_lt_of_le h1 hS.1)).trans (hS.2.1 x h1 h2), hS.2.2⟩
  have hz : k < 1 := (List.getElem?_eq_some_iff.mp hx).1
  rw [show k = 0 by omega] at hx
  cases hx
  exact ⟨_, hc, (u_born ty hts hin hKn hkC e1 hty).to hfs⟩
theorem w_newa (hexec : p.tables.exec = Jvm.exec) (hb : c.code = cc) {atype : ArrayType} (harr : (Cond.arrayClass (newarray.typeOf atype)).before args s = true) (hP : va_P D cl ws H) (hS : va_S A H0 H locs) {cA : ClassId} (hcA : s.vm.findClass ("[" ++ (newarray.typeOf atype).toString) = some cA)
    {n : Int32} {N' : Nat} {a0 : vp_A} (ha : vp_cell cA a0 = arrV cA N' (fun _ => defaultValue (newarray.typeOf atype))) (hn : ¬ n < 0) (hN : n.toNatClampNeg = N') (hbytes : N' * componentBytes (newarray.typeOf atype) ≤ 536870912) (hcells : cells + 1 ≤ R.cells) (hslots : slots + N' ≤ R.slots) (hdg : decode cc pc = .ok (.newarray atype, 2))
    (kk : ∀ (H1 : Heap), H1.size = H.size + 1 → va_P D cl (ws ++ [(H.size, .inl (cA, a0))]) H1 → va_S A H0 H1 locs →
      W p l e R s m args below meth c H1 locs (cells + 1) (slots + N') Q (F0 m (pc + 2) ls (.ref H.size :: rest))) : W p l e R s m args below meth c H locs cells slots Q (F0 m pc ls (.int n :: rest)) := by
  refine va_newaK hexec hb harr rfl hdg rfl hn hN hbytes hcells hslots rfl fun H1 cA' e1 z1 o1 hAr hNm => ?_
  have he : cA' = cA := Option.some.inj (hNm.symm.trans hcA)
  subst he
  have hk : ∀ (k : Nat) (x : Nat × va_E), ws[k]? = some x → H1[x.1]? = H[x.1]? := fun k x hx => o1 x.1 ((hP k x hx).lt)
  refine kk H1 z1 ((hP.kept hk).app (fun k x hx => ?_)) ⟨Nat.le_trans hS.1 (by omega), fun x h1 h2 => (o1 x (Nat.lt_of_lt_of_le h1 hS.1)).trans (hS.2.1 x h1 h2), hS.2.2⟩
  have hz : k < 1 := (List.getElem?_eq_some_iff.mp hx).1
  rw [show k = 0 by omega] at hx
  cases hx
  show H1[H.size]? = some (vp_cell _ _)
  rw [ha]
  exact e1
theorem w_newq (hexec : p.tables.exec = Jvm.exec) (hb : c.code = cc) {own C : String} {index : Nat} (hown : s.vm.findClass own = some m.cls) (hclink : (Cond.classLink own index C).before args s = true) (hover : va_AO C s) (hP : va_P D cl ws H) (hS : va_S A H0 H locs) {cA : ClassId} (hcA : va_RA s cA (.object C))
    {n : Int32} {N' : Nat} (hn : ¬ n < 0) (hN : n.toNatClampNeg = N') (hbytes : N' * 4 ≤ 536870912) (hcells : cells + 1 ≤ R.cells) (hslots : slots + N' ≤ R.slots) (hdg : decode cc pc = .ok (.anewarray index, 3))
    (kk : ∀ (H1 : Heap), H1.size = H.size + 1 → va_P D cl (ws ++ [(H.size, .inl (cA, N', .inr (.inr (.inr (.inr (fun _ => none))))))]) H1 → va_S A H0 H1 locs →
      W p l e R s m args below meth c H1 locs (cells + 1) (slots + N') Q (F0 m (pc + 3) ls (.ref H.size :: rest))) : W p l e R s m args below meth c H locs cells slots Q (F0 m pc ls (.int n :: rest)) := by
  subst hN
  refine W.anew hexec hb hown hclink (va_AO.use hover) rfl hdg rfl hn hbytes hcells hslots fun cA' kA comp f1 f2 f3 f4 => ?_
  obtain ⟨kA', comp', g1, g2, g3, g4⟩ := hcA
  have he : cA' = cA := Option.some.inj (f1.symm.trans g4)
  subst he
  generalize hH1 : H.push ({ cls := cA', slots := Array.replicate n.toNatClampNeg .null, vm := .none } : Cell) = H1
  have z1 : H1.size = H.size + 1 := by rw [← hH1, Array.size_push]
  have e1 : H1[H.size]? = some (arrV cA' n.toNatClampNeg (fun _ => .null)) := by rw [← hH1, Array.getElem?_push_size, ← arrV_new]
  have o1 : ∀ q : Nat, q < H.size → H1[q]? = H[q]? := fun q hq => by rw [← hH1, Array.getElem?_push, if_neg (Nat.ne_of_lt hq)]
  have hk : ∀ (k : Nat) (x : Nat × va_E), ws[k]? = some x → H1[x.1]? = H[x.1]? := fun k x hx => o1 x.1 ((hP k x hx).lt)
  refine kk H1 z1 ((hP.kept hk).app (fun k x hx => ?_)) ⟨Nat.le_trans hS.1 (by omega), fun x h1 h2 => (o1 x (Nat.lt_of_lt_of_le h1 hS.1)).trans (hS.2.1 x h1 h2), hS.2.2⟩
  have hz : k < 1 := (List.getElem?_eq_some_iff.mp hx).1
  rw [show k = 0 by omega] at hx
  cases hx
  show H1[H.size]? = some (vp_cell _ _)
  rw [vp_cell_q]
  exact e1
end WS
/-! ROWS OVER THE MEMORY: fields, arrays, makings -/
section GH
variable {X : Cx} {cc : ByteArray} {own nm : String} {ret : Option FieldType} {d mc ms : Nat} {pc : Nat} {lv : List (Nat × Value)} {st : List Value} {σ : Mem} {kc ks : Nat} {Q : State → Prop}
/-- a class's field words are among the tables' -/
def fOK (C : String) (T : u_T) (N : Nat) (ty : Nat → FieldType) : Prop := (∀ w ∈ u_ws C T N, w ∈ TB) ∧ (∀ k, k < N → parseFieldDescriptor (T k).2.2.1 = some (ty k)) ∧ (∀ a, a < N → ∀ b, b < N → a ≠ b → (T a).2.1 ≠ (T b).2.1)
/-- a field by its link: own's entry 'index' is field k of class ci, of the kind b (true: a number) -/
def fL (own : String) (index ci k : Nat) (b : Bool) : Prop := ∃ (C : String) (T : u_T) (N : Nat), vwCl[ci]? = some (C, T, N) ∧ fOK C T N (tyX ci) ∧ k < N ∧ (fkX ci)[k]? = some b ∧ ci < 13 ∧ Cond.fieldLink own index (T k).1 (T k).2.1 (T k).2.2.1 ∈ TB
/-- the same where the class that the link names isn't the one that declares it -/
def fLs (own : String) (index ci k : Nat) (b : Bool) : Prop := ∃ (C : String) (T : u_T) (N : Nat) (ref : String), vwCl[ci]? = some (C, T, N) ∧ fOK C T N (tyX ci) ∧ k < N ∧ (fkX ci)[k]? = some b ∧ ci < 13 ∧ Cond.fieldLink own index ref (T k).2.1 (T k).2.2.1 ∈ TB ∧ ∀ (A : Array Value) (s : State), (∀ w ∈ TB, w.before A s = true) → ∀ x, s.fieldFound? (T k).1 (T k).2.1 (T k).2.2.1 = some x → s.fieldFound? ref (T k).2.1 (T k).2.2.1 = some x
theorem fL.s {own : String} {index ci k : Nat} {b : Bool} (h : fL own index ci k b) : fLs own index ci k b := by
  obtain ⟨C, T, N, h1, h2, h3, h4, h5, h6⟩ := h
  exact ⟨C, T, N, _, h1, h2, h3, h4, h5, h6, fun _ _ _ _ q => q⟩
theorem g_getV (hC : mOK X cc own nm ret d mc ms) {index ci k n a : Nat} {b : Bool} (hL : fLs own index ci k b) (hT : mT σ a = some (ci, n)) (hd : decode cc pc = .ok (.getfield index, 3))
    (kk : mG X (pc + 3) lv ((if b = true then Value.int (mI σ a k) else va_rf ((mP σ a k).map (fun r => xB X + r))) :: st) σ kc ks Q) : mG X pc lv (.ref (xB X + a) :: st) σ kc ks Q := by
  obtain ⟨C, T, N, ref, h1, h2, h3, h4, h5, h6, h7⟩ := hL
  intro H locs ls hV hS hl
  have hw := mW_at (cy := X.2.2.2.1.1) (B := xB X) hT
  rw [mE_o h5] at hw
  exact va_get hC.1 hC.2.1 hC.2.2.2.2.1 h2.1 hC.2.2.2.1 hC.2.2.2.2.2.1.1 hV.2.1 a hw h1 k h3 (hC.2.2.2.2.1 _ h6) (h7 _ _ hC.2.2.2.2.1) (mF_at b h4) hd (kk H locs ls hV hS hl)
/-- a field that is a number -/
theorem g_geti (hC : mOK X cc own nm ret d mc ms) {index ci k n a : Nat} (hL : fLs own index ci k true) (hT : mT σ a = some (ci, n)) (hd : decode cc pc = .ok (.getfield index, 3))
    (kk : mG X (pc + 3) lv (.int (mI σ a k) :: st) σ kc ks Q) : mG X pc lv (.ref (xB X + a) :: st) σ kc ks Q := g_getV hC hL hT hd kk
/-- a field that is a reference, or null -/
theorem g_getq (hC : mOK X cc own nm ret d mc ms) {index ci k n a : Nat} (hL : fLs own index ci k false) (hT : mT σ a = some (ci, n)) (hd : decode cc pc = .ok (.getfield index, 3))
    (kk : mG X (pc + 3) lv (va_rf ((mP σ a k).map (fun r => xB X + r)) :: st) σ kc ks Q) : mG X pc lv (.ref (xB X + a) :: st) σ kc ks Q := g_getV hC hL hT hd kk
/-- a field that is a reference -/
theorem g_getr (hC : mOK X cc own nm ret d mc ms) {index ci k n a r : Nat} (hL : fLs own index ci k false) (hT : mT σ a = some (ci, n)) (hp : mP σ a k = some r) (hd : decode cc pc = .ok (.getfield index, 3))
    (kk : mG X (pc + 3) lv (.ref (xB X + r) :: st) σ kc ks Q) : mG X pc lv (.ref (xB X + a) :: st) σ kc ks Q :=
  g_getV hC hL hT hd (by rw [hp]; exact kk)
/-- what is known at every point -/
theorem g_known (kk : mS (xP X) (xT X) σ → mG X pc lv st σ kc ks Q) : mG X pc lv st σ kc ks Q := fun H locs ls hV hS hl => kk hV.2.2 H locs ls hV hS hl
/-- what a put of field k of class ci may be -/
def fW (own nm : String) (index ci k : Nat) (b : Bool) : Prop := fL own index ci k b ∧ ∀ C T N, vwCl[ci]? = some (C, T, N) → ((T k).2.2.2 = false ∨ ((T k).2.2.2 = true ∧ nm = "<init>" ∧ (T k).1 = own))
theorem g_putI (hC : mOK X cc own nm ret d mc ms) {index ci k n a : Nat} {v : Int32} (hL : fW own nm index ci k true) (hT : mT σ a = some (ci, n)) (hn : narrow (tyX ci k) (.int v) = .int v) (hfit : fits (tyX ci k) (.int v) = true) (hd : decode cc pc = .ok (.putfield index, 3))
    (kk : mG X (pc + 3) lv st (sI σ a k v) kc ks Q) : mG X pc lv (.int v :: .ref (xB X + a) :: st) σ kc ks Q := by
  obtain ⟨⟨C, T, N, h1, h2, h3, h4, h5, h6⟩, hf⟩ := hL
  intro H locs ls hV hS hl
  have hw := mW_at (cy := X.2.2.2.1.1) (B := xB X) hT
  have hset : (mW X.2.2.2.1.1 (xB X) σ).set a (xB X + a, .inr (ci, (mF (xB X) σ a (fkX ci)).set k (.int v))) = mW X.2.2.2.1.1 (xB X) (sI σ a k v) := by
    rw [mF_sI h4, ← mW_ext (τ := sI σ a k v) hT rfl (fun b u hb => mE_sR hb), mE_o h5]
  rw [mE_o h5] at hw
  have hlen : k < (mF (xB X) σ a (fkX ci)).length := by rw [mF_len]; exact (List.getElem?_eq_some_iff.mp h4).1
  exact w_put hC.1 hC.2.1 hC.2.2.2.2.1 h2.1 (tyX ci) h2.2.1 h2.2.2 hC.2.2.2.1 hC.2.2.2.2.2.1.1 hV.2.1 mW_D hS a hw h1 k h3 (hC.2.2.2.2.1 _ h6) (by rw [hC.2.2.2.2.2.2.2.2.1]; exact hf C T N h1) hn hfit hlen hd (fun H1 locs1 hz hP1 hS1 => by
      rw [hset] at hP1
      exact kk H1 locs1 ls ⟨hz.trans hV.1, hP1, hV.2.2.sI a k v⟩ hS1 hl)
theorem g_putR (hC : mOK X cc own nm ret d mc ms) {index ci k n a : Nat} {r : Option Nat} (hL : fW own nm index ci k false) (hT : mT σ a = some (ci, n)) (hn : ∀ v, narrow (tyX ci k) (va_rf v) = va_rf v) (hfit : ∀ v, fits (tyX ci k) (va_rf v) = true) (hs : ∀ e ∈ xP X, ¬ (e.1 = a ∧ e.2.1 = k)) (hd : decode cc pc = .ok (.putfield index, 3))
    (kk : mG X (pc + 3) lv st (sP σ a k r) kc ks Q) : mG X pc lv (va_rf (r.map (fun r => xB X + r)) :: .ref (xB X + a) :: st) σ kc ks Q := by
  obtain ⟨⟨C, T, N, h1, h2, h3, h4, h5, h6⟩, hf⟩ := hL
  intro H locs ls hV hS hl
  have hw := mW_at (cy := X.2.2.2.1.1) (B := xB X) hT
  have hset : (mW X.2.2.2.1.1 (xB X) σ).set a (xB X + a, .inr (ci, (mF (xB X) σ a (fkX ci)).set k (va_rf (r.map (fun r => xB X + r))))) = mW X.2.2.2.1.1 (xB X) (sP σ a k r) := by
    rw [mF_sP h4, ← mW_ext (τ := sP σ a k r) hT rfl (fun b u hb => mE_sP hb), mE_o h5]
  rw [mE_o h5] at hw
  have hlen : k < (mF (xB X) σ a (fkX ci)).length := by rw [mF_len]; exact (List.getElem?_eq_some_iff.mp h4).1
  exact w_put hC.1 hC.2.1 hC.2.2.2.2.1 h2.1 (tyX ci) h2.2.1 h2.2.2 hC.2.2.2.1 hC.2.2.2.2.2.1.1 hV.2.1 mW_D hS a hw h1 k h3 (hC.2.2.2.2.1 _ h6) (by rw [hC.2.2.2.2.2.2.2.2.1]; exact hf C T N h1) (hn _) (hfit _) hlen hd (fun H1 locs1 hz hP1 hS1 => by
      rw [hset] at hP1
      exact kk H1 locs1 ls ⟨hz.trans hV.1, hP1, hV.2.2.sP a k r hs⟩ hS1 hl)
theorem mTy_at {cy : Nat → ClassId} {t : Nat} {ty : FieldType} (h : (mTys cy)[t]? = some (cy (13 + t), ty)) : (mTys cy)[t]? = some (cy (13 + t), ty) := h
theorem mW_int {cy : Nat → ClassId} {B : Nat} {σ : Mem} {a t n : Nat} (h1 : 13 ≤ t) (h2 : t < 16) (h : mT σ a = some (t, n)) : (mW cy B σ)[a]? = some (B + a, .inl (cy t, n, .inl (σ.1 a))) := by
  rw [mW_at h, mE_i h1 h2]
theorem mW_ref {cy : Nat → ClassId} {B : Nat} {σ : Mem} {a t n : Nat} (h1 : 16 ≤ t) (h : mT σ a = some (t, n)) : (mW cy B σ)[a]? = some (B + a, .inl (cy t, n, .inr (.inr (.inr (.inr (fun j => (σ.2.1 a j).map (fun r => B + r))))))) := by
  rw [mW_at h, mE_q h1]
theorem g_iald (hC : mOK X cc own nm ret d mc ms) {a n : Nat} {i : Int32} (hT : mT σ a = some (14, n)) (hin : vp_in i n) (hd : decode cc pc = .ok (.iaload, 1)) (kk : mG X (pc + 1) lv (.int (mI σ a i.toNatClampNeg) :: st) σ kc ks Q) : mG X pc lv (.int i :: .ref (xB X + a) :: st) σ kc ks Q :=
  fun H locs ls hV hS hl => va_iald hC.1 hC.2.1 hC.2.2.2.2.2.1.1 hV.2.1 a 1 (mW_int (by decide) (by decide) hT) rfl hin hd (kk H locs ls hV hS hl)
theorem g_zald (hC : mOK X cc own nm ret d mc ms) {a n : Nat} {i : Int32} (hT : mT σ a = some (15, n)) (hin : vp_in i n) (hd : decode cc pc = .ok (.baload, 1)) (kk : mG X (pc + 1) lv (.int (mI σ a i.toNatClampNeg) :: st) σ kc ks Q) : mG X pc lv (.int i :: .ref (xB X + a) :: st) σ kc ks Q :=
  fun H locs ls hV hS hl => va_zald hC.1 hC.2.1 hC.2.2.2.2.2.1.1 hV.2.1 a 2 (mW_int (by decide) (by decide) hT) rfl hin hd (kk H locs ls hV hS hl)
theorem g_cald (hC : mOK X cc own nm ret d mc ms) {a n : Nat} {i : Int32} (hT : mT σ a = some (13, n)) (hin : vp_in i n) (hd : decode cc pc = .ok (.caload, 1)) (kk : mG X (pc + 1) lv (.int (mI σ a i.toNatClampNeg) :: st) σ kc ks Q) : mG X pc lv (.int i :: .ref (xB X + a) :: st) σ kc ks Q :=
  fun H locs ls hV hS hl => va_cald hC.1 hC.2.1 hC.2.2.2.2.2.1.1 hV.2.1 a 0 (mW_int (by decide) (by decide) hT) rfl hin hd (kk H locs ls hV hS hl)
theorem mW_setI {cy : Nat → ClassId} {B : Nat} {σ : Mem} {a t n : Nat} {f : Nat → Int32} (h1 : 13 ≤ t) (h2 : t < 16) (h : mT σ a = some (t, n)) : (mW cy B σ).set a (B + a, .inl (cy t, n, .inl f)) = mW cy B (sR σ a f) := by
  rw [← mW_ext (τ := sR σ a f) h rfl (fun b u hb => mE_sR hb), mE_i h1 h2]
  simp [sR]
theorem g_iast (hC : mOK X cc own nm ret d mc ms) {a n : Nat} {i x : Int32} (hT : mT σ a = some (14, n)) (hin : vp_in i n) (hd : decode cc pc = .ok (.iastore, 1)) (kk : mG X (pc + 1) lv st (sI σ a i.toNatClampNeg x) kc ks Q) : mG X pc lv (.int x :: .int i :: .ref (xB X + a) :: st) σ kc ks Q :=
  fun H locs ls hV hS hl => w_iast hC.1 hC.2.1 hC.2.2.2.2.2.1.1 hV.2.1 mW_D hS a 1 (mW_int (by decide) (by decide) hT) rfl hin hd (fun H1 locs1 hz hP1 hS1 => by
    rw [mW_setI (by decide) (by decide) hT] at hP1
    exact kk H1 locs1 ls ⟨hz.trans hV.1, hP1, hV.2.2.sR a _⟩ hS1 hl)
theorem g_zast (hC : mOK X cc own nm ret d mc ms) {a n : Nat} {i x : Int32} (hT : mT σ a = some (15, n)) (hin : vp_in i n) (hb : vp_nar .boolean x = x) (hd : decode cc pc = .ok (.bastore, 1)) (kk : mG X (pc + 1) lv st (sI σ a i.toNatClampNeg x) kc ks Q) : mG X pc lv (.int x :: .int i :: .ref (xB X + a) :: st) σ kc ks Q :=
  fun H locs ls hV hS hl => w_zast hC.1 hC.2.1 hC.2.2.2.2.2.1.1 hV.2.1 mW_D hS a 2 (mW_int (by decide) (by decide) hT) rfl hin hd (fun H1 locs1 hz hP1 hS1 => by
    rw [mW_setI (by decide) (by decide) hT, hb] at hP1
    exact kk H1 locs1 ls ⟨hz.trans hV.1, hP1, hV.2.2.sR a _⟩ hS1 hl)
theorem g_cast (hC : mOK X cc own nm ret d mc ms) {a n : Nat} {i x : Int32} (hT : mT σ a = some (13, n)) (hin : vp_in i n) (hb : vp_nar .char x = x) (hd : decode cc pc = .ok (.castore, 1)) (kk : mG X (pc + 1) lv st (sI σ a i.toNatClampNeg x) kc ks Q) : mG X pc lv (.int x :: .int i :: .ref (xB X + a) :: st) σ kc ks Q :=
  fun H locs ls hV hS hl => w_cast hC.1 hC.2.1 hC.2.2.2.2.2.1.1 hV.2.1 mW_D hS a 0 (mW_int (by decide) (by decide) hT) rfl hin hd (fun H1 locs1 hz hP1 hS1 => by
    rw [mW_setI (by decide) (by decide) hT, hb] at hP1
    exact kk H1 locs1 ls ⟨hz.trans hV.1, hP1, hV.2.2.sR a _⟩ hS1 hl)
/-- an array's length -/
theorem g_alen (hC : mOK X cc own nm ret d mc ms) {a t n : Nat} (hT : mT σ a = some (t, n)) (h1 : 13 ≤ t) (h2 : t < 19) (hd : decode cc pc = .ok (.arraylength, 1)) (kk : mG X (pc + 1) lv (.int (nI n) :: st) σ kc ks Q) : mG X pc lv (.ref (xB X + a) :: st) σ kc ks Q := by
  intro H locs ls hV hS hl
  by_cases h3 : t < 16
  · have hty : ∃ ty, (mTys X.2.2.2.1.1)[t - 13]? = some (X.2.2.2.1.1 t, ty) := by
      rcases (show t = 13 ∨ t = 14 ∨ t = 15 by omega) with rfl | rfl | rfl <;> exact ⟨_, rfl⟩
    obtain ⟨ty, hty⟩ := hty
    exact va_alen hC.1 hC.2.1 hC.2.2.2.2.2.1.1 hV.2.1 a (t - 13) (mW_int h1 h3 hT) hty rfl hd (kk H locs ls hV hS hl)
  · have hty : ∃ ty, (mTys X.2.2.2.1.1)[t - 13]? = some (X.2.2.2.1.1 t, ty) := by
      rcases (show t = 16 ∨ t = 17 ∨ t = 18 by omega) with rfl | rfl | rfl <;> exact ⟨_, rfl⟩
    obtain ⟨ty, hty⟩ := hty
    exact va_alen hC.1 hC.2.1 hC.2.2.2.2.2.1.1 hV.2.1 a (t - 13) (mW_ref (by omega) hT) hty rfl hd (kk H locs ls hV hS hl)
/-- a place of an array of references -/
theorem g_aald (hC : mOK X cc own nm ret d mc ms) {a t n : Nat} {i : Int32} (hT : mT σ a = some (t, n)) (h1 : 16 ≤ t) (h2 : t < 19) (hin : vp_in i n) (hd : decode cc pc = .ok (.aaload, 1)) (kk : mG X (pc + 1) lv (va_rf ((mP σ a i.toNatClampNeg).map (fun r => xB X + r)) :: st) σ kc ks Q) : mG X pc lv (.int i :: .ref (xB X + a) :: st) σ kc ks Q := by
  intro H locs ls hV hS hl
  have hty : ∃ C, (mTys X.2.2.2.1.1)[t - 13]? = some (X.2.2.2.1.1 t, .object C) := by
    rcases (show t = 16 ∨ t = 17 ∨ t = 18 by omega) with rfl | rfl | rfl <;> exact ⟨_, rfl⟩
  obtain ⟨C, hty⟩ := hty
  exact va_aldq hC.1 hC.2.1 hC.2.2.2.2.2.1.1 hV.2.1 a (t - 13) (mW_ref h1 hT) hty hin hd (kk H locs ls hV hS hl)
/-- an object of class ci may lie in a row of kind t -/
def aOK (ci t : Nat) : Prop := ∃ (q : vw_C) (E : String), vwCl[ci]? = some q ∧ (∀ cy, (mTys cy)[t - 13]? = some (cy t, .object E)) ∧ ((q.1 = E) ∨ (q.1, E, true) ∈ asgX)
theorem g_aast (hC : mOK X cc own nm ret d mc ms) {a t n r ci n' : Nat} {i : Int32} (hT : mT σ a = some (t, n)) (h1 : 16 ≤ t) (hin : vp_in i n) (hR : mT σ r = some (ci, n')) (h3 : ci < 13) (hA : aOK ci t) (hs : ∀ e ∈ xP X, ¬ (e.1 = a ∧ e.2.1 = i.toNatClampNeg)) (hd : decode cc pc = .ok (.aastore, 1)) (kk : mG X (pc + 1) lv st (sP σ a i.toNatClampNeg (some r)) kc ks Q) : mG X pc lv (.ref (xB X + r) :: .int i :: .ref (xB X + a) :: st) σ kc ks Q := by
  obtain ⟨q, E, g1, g2, g3⟩ := hA
  intro H locs ls hV hS hl
  have hwr := mW_at (cy := X.2.2.2.1.1) (B := xB X) hR
  rw [mE_o h3] at hwr
  refine w_astq hC.1 hC.2.1 hC.2.2.2.2.2.1.1 hV.2.1 mW_D hS a (t - 13) (mW_ref h1 hT) (g2 _) (va_rAny hC.2.2.2.2.2.1.1 hV.2.1 hwr g1 ?_) hin hd (fun H1 locs1 hz hP1 hS1 => ?_)
  · intro comp c0 f1 f2
    rcases g3 with g3 | g3
    · obtain ⟨hKn⟩ : Nonempty (ClassAt X.2.1.1 q.1 (X.2.2.2.1.2.1.1 ci)) := ⟨(hC.2.2.2.2.2.1.1.1 ci q g1).2⟩
      have e0 : c0 = X.2.2.2.1.2.1.1 ci := Option.some.inj (f2.symm.trans hKn.1)
      have e1 : comp = X.2.2.2.1.2.1.1 ci := Option.some.inj (f1.symm.trans (by rw [← g3]; exact hKn.1))
      rw [e0, e1]
      exact va_assign hKn
    · obtain ⟨c, t, f3, f4, f5⟩ := hC.2.2.2.2.2.1.2.2.2.1 _ g3
      rw [Option.some.inj (f2.symm.trans f3), Option.some.inj (f1.symm.trans f4)]
      exact f5
  · have e : (mW X.2.2.2.1.1 (xB X) σ).set a (xB X + a, .inl (X.2.2.2.1.1 t, n, .inr (.inr (.inr (.inr (va_up (fun j => (σ.2.1 a j).map (fun r => xB X + r)) i.toNatClampNeg (some (xB X + r)))))))) = mW X.2.2.2.1.1 (xB X) (sP σ a i.toNatClampNeg (some r)) := by
      rw [← mW_ext (τ := sP σ a i.toNatClampNeg (some r)) hT rfl (fun b u hb => mE_sP hb), mE_q h1]
      have hf : va_up (fun j => (σ.2.1 a j).map (fun r => xB X + r)) i.toNatClampNeg (some (xB X + r)) = (fun j => ((sP σ a i.toNatClampNeg (some r)).2.1 a j).map (fun r => xB X + r)) := by
        funext j
        by_cases hj : j = i.toNatClampNeg <;> simp [sP, va_up, hj]
      rw [hf]
    rw [e] at hP1
    exact kk H1 locs1 ls ⟨hz.trans hV.1, hP1, hV.2.2.sP a _ _ hs⟩ hS1 hl
theorem mV.new {X : Cx} {H H1 : Heap} {t : Nat × Nat} (hV : mV X.2.2.2.1.1 X.2.2.2.1.2.1 (xB X) (xP X) (xT X) σ H) (hz : H1.size = H.size + 1) (hP : va_P X.2.2.2.1.2.1 vwCl (mW X.2.2.2.1.1 (xB X) σ ++ [(H.size, mE X.2.2.2.1.1 (xB X) (mN σ t) (mL σ) t)]) H1) : mV X.2.2.2.1.1 X.2.2.2.1.2.1 (xB X) (xP X) (xT X) (mN σ t) H1 := by
  refine ⟨?_, ?_, hV.2.2.mN t⟩
  · rw [mL_mN, hz, hV.1]; omega
  · rw [mW_N, ← hV.1]; exact hP
/-- an object is made -/
def nOK (own : String) (index ci : Nat) : Prop := ∃ (C : String) (T : u_T) (N : Nat), vwCl[ci]? = some (C, T, N) ∧ fOK C T N (tyX ci) ∧ ci < 13 ∧ N = (fkX ci).length ∧ (∀ j, j < N → defaultValue (tyX ci j) = if (fkX ci)[j]? = some true then Value.int 0 else .null) ∧ Cond.classLink own index C ∈ TB ∧ Cond.instantiable C N ∈ TB ∧ Cond.initialized C ∈ TB
theorem g_new (hC : mOK X cc own nm ret d mc ms) {index ci : Nat} (hN : nOK own index ci) (hk : kc + 1 ≤ mc) (hs : ks + (fkX ci).length ≤ ms) (hd : decode cc pc = .ok (.new index, 3)) (kk : mG X (pc + 3) lv (.ref (xB X + mL σ) :: st) (mN σ (ci, 0)) (kc + 1) (ks + (fkX ci).length) Q) : mG X pc lv st σ kc ks Q := by
  obtain ⟨C, T, N, h1, h2, h3, h4, h5, h6, h7, h8⟩ := hN
  intro H locs ls hV hS hl
  have hR := hC.2.2.2.2.2.2.2.2.2.1
  subst h4
  refine w_new (fs := mF (xB X) (mN σ (ci, 0)) (mL σ) (fkX ci)) hC.1 hC.2.1 hC.2.2.2.2.1 h2.1 (tyX ci) h2.2.1 hC.2.2.2.1 (hC.2.2.2.2.1 _ h6) (hC.2.2.2.2.1 _ h7) (hC.2.2.2.2.1 _ h8) hC.2.2.2.2.2.1.1 hV.2.1 hS h1 (fun j hj => ?_) (by rw [hR.2.1]; exact hk) (by rw [hR.2.2.1]; exact hs) hd (fun H1 hz hP1 hS1 => ?_)
  · rw [h5 j hj]
    have hb : (fkX ci)[j]? = some (fkX ci)[j] := List.getElem?_eq_getElem hj
    unfold vp_V
    rw [List.getD_eq_getElem?_getD, mF_at _ hb, hb, mI_mN, mP_mN, if_pos rfl, if_pos rfl]
    cases (fkX ci)[j] <;> rfl
  · have e : (xB X + mL σ) = H.size := hV.1.symm
    have := kk H1 locs ls (hV.new hz (by rw [mE_o h3]; exact hP1)) hS1 hl
    rw [e] at this
    exact this
/-- an array of numbers is made -/
def naOK (at_ : ArrayType) (t : Nat) : Prop := 13 ≤ t ∧ t < 16 ∧ Cond.arrayClass (newarray.typeOf at_) ∈ TB ∧ (∀ cy, (mTys cy)[t - 13]? = some (cy t, newarray.typeOf at_)) ∧ defaultValue (newarray.typeOf at_) = .int 0 ∧ componentBytes (newarray.typeOf at_) ≤ 4 ∧ ∀ (s : State) (cA : ClassId), va_RA s cA (newarray.typeOf at_) → s.vm.findClass ("[" ++ (newarray.typeOf at_).toString) = some cA
theorem g_newa (hC : mOK X cc own nm ret d mc ms) {at_ : ArrayType} {t N : Nat} {n : Int32} (hA : naOK at_ t) (hn : ¬ n < 0) (hN : n.toNatClampNeg = N) (hNN : N ≤ 100000) (hk : kc + 1 ≤ mc) (hs : ks + N ≤ ms) (hd : decode cc pc = .ok (.newarray at_, 2)) (kk : mG X (pc + 2) lv (.ref (xB X + mL σ) :: st) (mN σ (t, N)) (kc + 1) (ks + N) Q) : mG X pc lv (.int n :: st) σ kc ks Q := by
  obtain ⟨h1, h2, h3, h4, h5, h6, h7⟩ := hA
  intro H locs ls hV hS hl
  have hR := hC.2.2.2.2.2.2.2.2.2.1
  have hcA := h7 _ _ (hC.2.2.2.2.2.1.1.2 _ _ (h4 X.2.2.2.1.1)).2
  refine w_newa (a0 := (N, .inl (fun _ => 0))) hC.1 hC.2.1 (hC.2.2.2.2.1 _ h3) hV.2.1 hS hcA (by rw [vp_cell_i, h5]) hn hN (Nat.le_trans (Nat.mul_le_mul hNN h6) (by decide)) (by rw [hR.2.1]; exact hk) (by rw [hR.2.2.1]; exact hs) hd (fun H1 hz hP1 hS1 => ?_)
  have e : (xB X + mL σ) = H.size := hV.1.symm
  have := kk H1 locs ls (hV.new hz (by rw [mE_i h1 h2]; simpa [mN, mL] using hP1)) hS1 hl
  rw [e] at this
  exact this
/-- an array of references is made -/
def nqOK (own : String) (index t : Nat) : Prop := ∃ C : String, 16 ≤ t ∧ C ∈ overX ∧ (∀ cy, (mTys cy)[t - 13]? = some (cy t, .object C)) ∧ Cond.classLink own index C ∈ TB
theorem g_newq (hC : mOK X cc own nm ret d mc ms) {index t N : Nat} {n : Int32} (hA : nqOK own index t) (hn : ¬ n < 0) (hN : n.toNatClampNeg = N) (hNN : N ≤ 100000) (hk : kc + 1 ≤ mc) (hs : ks + N ≤ ms) (hd : decode cc pc = .ok (.anewarray index, 3)) (kk : mG X (pc + 3) lv (.ref (xB X + mL σ) :: st) (mN σ (t, N)) (kc + 1) (ks + N) Q) : mG X pc lv (.int n :: st) σ kc ks Q := by
  obtain ⟨C, h1, h2, h3, h4⟩ := hA
  intro H locs ls hV hS hl
  have hR := hC.2.2.2.2.2.2.2.2.2.1
  refine w_newq hC.1 hC.2.1 hC.2.2.2.1 (hC.2.2.2.2.1 _ h4) (hC.2.2.2.2.2.1.2.2.2.2.1 C h2) hV.2.1 hS (hC.2.2.2.2.2.1.1.2 _ _ (h3 X.2.2.2.1.1)).2 hn hN (by omega) (by rw [hR.2.1]; exact hk) (by rw [hR.2.2.1]; exact hs) hd (fun H1 hz hP1 hS1 => ?_)
  have e : (xB X + mL σ) = H.size := hV.1.symm
  have := kk H1 locs ls (hV.new hz (by rw [mE_q h1]; simpa [mN, mL] using hP1)) hS1 hl
  rw [e] at this
  exact this
/-- instanceof -/
theorem g_inst (hC : mOK X cc own nm ret d mc ms) {index a ci n : Nat} {b : Bool} {T : String} (hT : mT σ a = some (ci, n)) (h3 : ci < 13) (hw : Cond.classLink own index T ∈ TB) (ha : ∀ q : vw_C, vwCl[ci]? = some q → (q.1, T, b) ∈ asgX) (hd : decode cc pc = .ok (.instanceof index, 3)) (kk : mG X (pc + 3) lv (.int (if b = true then 1 else 0) :: st) σ kc ks Q) : mG X pc lv (.ref (xB X + a) :: st) σ kc ks Q := by
  intro H locs ls hV hS hl
  have hwr := mW_at (cy := X.2.2.2.1.1) (B := xB X) hT
  rw [mE_o h3] at hwr
  obtain ⟨q, hq, -⟩ := hV.2.1 a _ hwr
  have hr := va_recv hC.2.2.2.2.2.1.1 hV.2.1 hq hwr
  have hg := hC.2.2.2.2.2.1.2.2.2.1 _ (ha q hq)
  cases b with
  | false => exact va_instNo hC.1 hC.2.1 hC.2.2.2.1 (hC.2.2.2.2.1 _ hw) hg hr hd (kk H locs ls hV hS hl)
  | true =>
    have hcast : va_Nw (.castable q.1 T) X.2.1.1 := by
      obtain ⟨c, t, f1, f2, f3⟩ := hg
      simp only [va_Nw, Cond.before, Cond.holds, Cond.value]
      simp [f1, f2, f3]
    exact va_instY hC.1 hC.2.1 hC.2.2.2.1 (hC.2.2.2.2.1 _ hw) hcast hr hd (kk H locs ls hV hS hl)
end GH
end
section
/-! CONTRACTS OVER THE MEMORY, calls, returns -/
/-- what a method leaves -/
def mR (cy : Nat → ClassId) (D : va_G) (B : Nat) (ps ts : List (Nat × Nat × Nat)) (Qp : Option Value → Mem → Prop) : Array Value → State → Outcome → State → Prop := fun _ st oc t => (∃ (rv : Option Value) (σ' : Mem), oc = .returned rv ∧ Qp rv σ' ∧ mV cy D B ps ts σ' t.heap) ∧ va_F (fun q => B ≤ q) st t
/-- what a method starts from -/
def mPc (cy : Nat → ClassId) (D : va_G) (ad : (Nat → Nat) × (Nat → Nat)) (B : Nat) (ps ts : List (Nat × Nat × Nat)) (av : List Value) (σ : Mem) : Array Value → State → Prop := va_Pc av (fun U => mV cy D B ps ts σ U.heap ∧ mK cy D ad B U)
abbrev mRm (d mc ms : Nat) : Room := { frames := d, cells := mc, slots := ms, locals := 60 * d }
/-- the fixed part of a run: launch, array classes, classes, strings, base -/
abbrev Fx : Type := Launch × ((Nat → ClassId) × va_G × ((Nat → Nat) × (Nat → Nat))) × Nat
/-- A CONTRACT: method y, called with these values over the memory σ, returns; of its answer and the memory behind it Qp holds -/
def mM (Z : Fx) (ps ts : List (Nat × Nat × Nat)) (y : MethodName) (cc : ByteArray) (maxL : Nat) (ret : Option FieldType) (d mc ms : Nat) (av : List Value) (σ : Mem) (Qp : Option Value → Mem → Prop) : Prop :=
  Met Z.1 y (Cond.code y cc maxL ret :: TB) (mRm d mc ms) (mPc Z.2.1.1 Z.2.1.2.1 Z.2.1.2.2 Z.2.2 ps ts av σ) (mR Z.2.1.1 Z.2.1.2.1 Z.2.2 ps ts Qp) mc ms (fun q => Z.2.2 ≤ q)
/-- the end of a method's walk -/
def mQ (X : Cx) (mc ms : Nat) (Qp : Option Value → Mem → Prop) : State → Prop := MQ X.2.1.2.2.2 (mR X.2.2.2.1.1 X.2.2.2.1.2.1 (xB X) (xP X) (xT X) Qp) X.2.1.2.2.1 X.2.1.1 mc ms (fun q => xB X ≤ q)
abbrev xZ (X : Cx) : Fx := (X.1.2.1, X.2.2.2.1, xB X)
theorem mPc_blind {cy : Nat → ClassId} {D : va_G} {ad : (Nat → Nat) × (Nat → Nat)} {B : Nat} {ps ts : List (Nat × Nat × Nat)} {av : List Value} {σ : Mem} : FrameBlind (mPc cy D ad B ps ts av σ) := fun a U g mk h => ⟨h.1, h.2.1, h.2.2.same (s := U) (U := U.calling g mk a) rfl rfl⟩
theorem mM.of {Z : Fx} {ps ts : List (Nat × Nat × Nat)} {y : MethodName} {cc : ByteArray} {maxL : Nat} {ret : Option FieldType} {d mc ms : Nat} {av : List Value} {σ : Mem} {Qp : Option Value → Mem → Prop} (hy : plainName y.cls = true) (hlen : (lg_sl av).length ≤ maxL) {lv : List (Nat × Value)} (hlv : lv_args 0 av = lv)
    (body : ∀ X : Cx, xZ X = Z → xP X = ps → xT X = ts → xN X = maxL → mOK X cc y.cls y.name ret d mc ms → mG X 0 lv [] σ 0 0 (mQ X mc ms Qp)) : mM Z ps ts y cc maxL ret d mc ms av σ Qp := by
  obtain ⟨l, ⟨cy, D, ad⟩, B⟩ := Z
  refine Met.ofW (cc := cc) (maxL := maxL) (ret := ret) hy rfl ?_
  intro p e s m args below meth c s₁ BL hml hv
  obtain ⟨hargs, hV, hK⟩ := hv
  subst hargs
  have hts : ∀ w ∈ TB, w.before av.toArray s = true := fun w hw => atoms_spec (ws := Cond.code y cc maxL ret :: TB) BL.pre w (List.mem_cons_of_mem _ hw)
  have hown : s.vm.findClass y.cls = some m.cls := findClass_of_methodNamed BL.named
  have hB : B ≤ s.heap.size := by rw [hV.1]; exact Nat.le_add_right _ _
  have hb := body ((p, l, e, mRm d mc ms), (s, m, av.toArray, below), (meth, c), (cy, D, ad), (B, maxL), (ps, ts)) rfl rfl rfl rfl ⟨BL.exec, BL.bytes, hml, hown, hts, hK, BL.returns, BL.notSynchronized, (name_of_methodNamed BL.named BL.method).1, ⟨Nat.le_refl _, rfl, rfl, Nat.le_refl _⟩, hB⟩
  rw [lg_entry_eq]
  have hl := lv_entry av (n := maxL) hlen
  rw [hlv] at hl
  exact hb s.heap [] _ hV va_S.rf hl
section GC
variable {X : Cx} {cc : ByteArray} {own nm : String} {ret : Option FieldType} {d mc ms : Nat} {pc : Nat} {lv : List (Nat × Value)} {st : List Value} {σ : Mem} {kc ks : Nat} {Q : State → Prop}
theorem g_vret {Qp : Option Value → Mem → Prop} (hC : mOK X cc own nm none d mc ms) (hk : kc ≤ mc) (hs : ks ≤ ms) (hd : decode cc pc = .ok (.return_, 1)) (h : mS (xP X) (xT X) σ → Qp none σ) : mG X pc lv [] σ kc ks (mQ X mc ms Qp) := by
  refine mG.widen hk hs ?_
  intro H locs ls hV hS hl
  exact W.vret hC.1 hC.2.1 hC.2.2.2.2.2.2.1 (fun t ht hW => ⟨⟨none, σ, rfl, h hV.2.2, by rw [ht]; exact hV⟩, hS.F ht⟩) hS.2.2 hd hC.2.2.2.2.2.2.2.1
theorem g_iret {Qp : Option Value → Mem → Prop} {ty : FieldType} {v : Int32} (hC : mOK X cc own nm (some ty) d mc ms) (hn : narrow ty (.int v) = .int v) (hk : kc ≤ mc) (hs : ks ≤ ms) (hd : decode cc pc = .ok (.ireturn, 1)) (h : mS (xP X) (xT X) σ → Qp (some (.int v)) σ) : mG X pc lv [.int v] σ kc ks (mQ X mc ms Qp) := by
  refine mG.widen hk hs ?_
  intro H locs ls hV hS hl
  exact W.zret hC.1 hC.2.1 hC.2.2.2.2.2.2.1 hn (fun t ht hW => ⟨⟨_, σ, rfl, h hV.2.2, by rw [ht]; exact hV⟩, hS.F ht⟩) hS.2.2 hd hC.2.2.2.2.2.2.2.1
theorem g_lret {Qp : Option Value → Mem → Prop} {v : Int64} (hC : mOK X cc own nm (some .long) d mc ms) (hk : kc ≤ mc) (hs : ks ≤ ms) (hd : decode cc pc = .ok (.lreturn, 1)) (h : mS (xP X) (xT X) σ → Qp (some (.long v)) σ) : mG X pc lv [.long v] σ kc ks (mQ X mc ms Qp) := by
  refine mG.widen hk hs ?_
  intro H locs ls hV hS hl
  exact W.lret hC.1 hC.2.1 hC.2.2.2.2.2.2.1 (fun t ht hW => ⟨⟨_, σ, rfl, h hV.2.2, by rw [ht]; exact hV⟩, hS.F ht⟩) hS.2.2 hd hC.2.2.2.2.2.2.2.1
theorem g_aret {Qp : Option Value → Mem → Prop} {rt : FieldType} {o : Option Nat} (hC : mOK X cc own nm (some rt) d mc ms) (hrt : (∃ n, rt = .object n) ∨ ∃ t, rt = .array t) (hk : kc ≤ mc) (hs : ks ≤ ms) (hd : decode cc pc = .ok (.areturn, 1)) (h : mS (xP X) (xT X) σ → Qp (some (va_rf o)) σ) : mG X pc lv [va_rf o] σ kc ks (mQ X mc ms Qp) := by
  refine mG.widen hk hs ?_
  intro H locs ls hV hS hl
  refine W.aret hC.1 hC.2.1 hC.2.2.2.2.2.2.1 hrt ?_ (fun t ht hW => ⟨⟨_, σ, rfl, h hV.2.2, by rw [ht]; exact hV⟩, hS.F ht⟩) hS.2.2 hd hC.2.2.2.2.2.2.2.1
  cases o with
  | none => exact Or.inl rfl
  | some r => exact Or.inr ⟨_, rfl⟩
/-- behind a call -/
theorem m_call {p : Program} {l : Launch} {e : Env} {R : Room} {s : State} {m : MethodId} {args : Array Value} {below : List Frame} {meth : Method} {c : Code} {H H0 : Heap} {locs : List Loc} {cells slots mc' ms' : Nat} {ls : Array Slot} {rest st0 : List Value} {a : Array Value} {cy : Nat → ClassId} {D : va_G} {B : Nat} {ps ts : List (Nat × Nat × Nat)} {Qp : Option Value → Mem → Prop}
    (hr : va_Run p l e R s m args below meth c H locs cells slots mc' ms' (F0 m pc ls st0) rest (mR cy D B ps ts Qp a) (fun q => B ≤ q)) (hS : va_S (fun q => B ≤ q) H0 H locs)
    (kk : ∀ (rv : Option Value) (σ' : Mem) (H1 : Heap) (locs1 : List Loc), Qp rv σ' → mV cy D B ps ts σ' H1 → va_S (fun q => B ≤ q) H0 H1 locs1 → W p l e R s m args below meth c H1 locs1 (cells + mc') (slots + ms') Q (F0 m (pc + 3) ls (rv.toList ++ rest))) : W p l e R s m args below meth c H locs cells slots Q (F0 m pc ls st0) := by
  intro T hT X
  obtain ⟨v, st₀, t, T', L, h0, X', hL, e1, e2, ⟨⟨rv, σ', hv, hp, hb⟩, hz, hk⟩, st⟩ := hr T hT X
  cases hv
  rw [h0] at hz hk
  obtain ⟨t2, a1, b1⟩ := kk v σ' T'.heap (locs ++ L) hp (by rw [e1]; exact hb)
    ⟨Nat.le_trans hS.1 (by rw [e1]; exact hz), fun q h1 h2 => by rw [e1, hk q (Nat.lt_of_lt_of_le h1 hS.1) h2]; exact hS.2.1 q h1 h2, fun q hq => by
      rcases List.mem_append.mp hq with h | h
      · exact hS.2.2 q h
      · exact hL q h⟩ T' rfl X'
  exact ⟨t2, st t2 a1, b1⟩
/-- a callee's own words -/
def yW (y : MethodName) (bytes : ByteArray) (maxL : Nat) (rt : Option FieldType) (n : Nat) : Prop := Cond.code y bytes maxL rt ∈ TB ∧ Cond.initialized y.cls ∈ TB ∧ maxL ≤ 41 ∧ y.cls ≠ "java/lang/invoke/MethodHandle" ∧ y.cls ≠ "java/lang/invoke/VarHandle" ∧ (parseMethodDescriptor y.desc).map (fun d => d.parameters.length) = some n
/-- of an instance method, called by itself -/
def yV (y : MethodName) : Prop := Cond.instanceMethod y ∈ TB ∧ Cond.selects y.cls y y ∈ TB
def yS (y : MethodName) : Prop := Cond.static y ∈ TB
def yI (y : MethodName) : Prop := Cond.instanceMethod y ∈ TB ∧ y.name = "<init>"
/-- of an instance method that a class C selects, where x is named -/
def yU (C : String) (x y : MethodName) : Prop := Cond.sameMethod x.cls x.cls x.name x.desc ∈ TB ∧ Cond.selects C x y ∈ TB ∧ Cond.instanceMethod y ∈ TB ∧ Cond.instanceMethod x ∈ TB ∧ (∃ b n r, Cond.code x b n r ∈ TB) ∧ x.desc = y.desc ∧ x.cls ≠ "java/lang/invoke/MethodHandle" ∧ x.cls ≠ "java/lang/invoke/VarHandle"
/-- of a superclass' method -/
def yP (own : String) (y : MethodName) : Prop := Cond.sameMethod y.cls y.cls y.name y.desc ∈ TB ∧ Cond.superclass own y.cls ∈ TB ∧ Cond.instanceMethod y ∈ TB ∧ y.name ≠ "<init>"
theorem m_B (hC : mOK X cc own nm ret d mc ms) {index n maxL d' mc' ms' : Nat} {y : MethodName} {bytes : ByteArray} {rt : Option FieldType} (hW : yW y bytes maxL rt n) (hL : Cond.methodLink own index y ∈ TB) (hd' : d' + 1 ≤ d) : CallB X.1.2.2.2 X.2.1.1 X.2.1.2.2.1 own index y bytes maxL rt (Cond.code y bytes maxL rt :: TB) (mRm d' mc' ms') mc' ms' n := by
  obtain ⟨w1, w2, w3, w4, w5, w6⟩ := hW
  have hR := hC.2.2.2.2.2.2.2.2.2.1
  refine callB_of n hC.2.2.2.2.1 (TB_goodIn w1) rfl rfl rfl (hC.2.2.2.2.1 _ w2) (hC.2.2.2.2.1 _ hL) ⟨w4, w5, w6⟩ ?_
  exact ⟨Nat.le_trans hd' hR.1, by have := hR.2.2.2; show 8 + (maxL + 11) + 60 * d' ≤ _; omega⟩
theorem m_pre {H : Heap} {locs : List Loc} {ps' ts' : List (Nat × Nat × Nat)} (hC : mOK X cc own nm ret d mc ms) (hV : mV X.2.2.2.1.1 X.2.2.2.1.2.1 (xB X) ps' ts' σ H) (hS : va_S (fun q => xB X ≤ q) X.2.1.1.heap H locs) (av : List Value) : ∀ U : State, U.heap = H → X.2.1.1.WarmedH U.vm → mPc X.2.2.2.1.1 X.2.2.2.1.2.1 X.2.2.2.1.2.2 (xB X) ps' ts' av σ av.toArray U :=
  fun U hU hW => ⟨rfl, by rw [hU]; exact hV, hC.2.2.2.2.2.1.warm hW (fun a h1 h2 => by rw [hU]; exact hS.2.1 a h1 h2)⟩
variable {index n maxL d' mc' ms' : Nat} {y : MethodName} {bytes : ByteArray} {rt : Option FieldType} {As : List Value} {ps' ts' : List (Nat × Nat × Nat)} {Qp : Option Value → Mem → Prop}
theorem g_callV (hC : mOK X cc own nm ret d mc ms) {a ci n0 : Nat} (hT : mT σ a = some (ci, n0)) (h13 : ci < 13) (hcl : ∀ q : vw_C, vwCl[ci]? = some q → q.1 = y.cls) (hW : yW y bytes maxL rt n) (hY : yV y) (hL : Cond.methodLink own index y ∈ TB) (hd : decode cc pc = .ok (.invokevirtual index, 3))
    (hp : ∀ e ∈ xP X, e ∈ ps') (ht : ∀ e ∈ xT X, e ∈ ts') (hσ : mS (xP X) (xT X) σ → mS ps' ts' σ) (hM : mM (xZ X) ps' ts' y bytes maxL rt d' mc' ms' (.ref (xB X + a) :: As) σ Qp)
    (hn : As.length = n) (hst : (st.map fun v => v.category).sum ≤ 8) (hd' : d' + 1 ≤ d) (hk : kc + mc' ≤ mc) (hs : ks + ms' ≤ ms)
    (kk : ∀ rv σ', Qp rv σ' → mG X (pc + 3) lv (rv.toList ++ st) σ' (kc + mc') (ks + ms') Q) : mG X pc lv (As.reverse ++ .ref (xB X + a) :: st) σ kc ks Q := by
  intro H locs ls hV hS hl
  have hR := hC.2.2.2.2.2.2.2.2.2.1
  have hwr := mW_at (cy := X.2.2.2.1.1) (B := xB X) hT
  rw [mE_o h13] at hwr
  obtain ⟨q, hq, -⟩ := hV.2.1 a _ hwr
  have hr := va_recv hC.2.2.2.2.2.1.1 hV.2.1 hq hwr
  rw [hcl q hq] at hr
  have hV' : mV X.2.2.2.1.1 X.2.2.2.1.2.1 (xB X) ps' ts' σ H := ⟨hV.1, hV.2.1, hσ hV.2.2⟩
  refine m_call (va_runV (As := As) (rest := st) ⟨hC.1, hC.2.1, hC.2.2.1, hC.2.2.2.1, hC.2.2.2.2.1⟩ hM ⟨m_B hC hW hL hd', hC.2.2.2.2.1 _ hY.1, hC.2.2.2.2.1 _ hY.2⟩ ⟨mPc_blind, hr, m_pre hC hV' hS _⟩ rfl hn hl.1 rfl (lv_room hst) hd (by rw [hR.2.1, hR.2.2.1]; exact ⟨hk, hs⟩)) hS (fun rv σ' H1 locs1 h1 h2 h3 => ?_)
  exact kk rv σ' h1 H1 locs1 ls ⟨h2.1, h2.2.1, h2.2.2.sub hp ht⟩ h3 hl
theorem g_callS (hC : mOK X cc own nm ret d mc ms) (hW : yW y bytes maxL rt n) (hY : yS y) (hL : Cond.methodLink own index y ∈ TB) (hd : decode cc pc = .ok (.invokestatic index, 3))
    (hp : ∀ e ∈ xP X, e ∈ ps') (ht : ∀ e ∈ xT X, e ∈ ts') (hσ : mS (xP X) (xT X) σ → mS ps' ts' σ) (hM : mM (xZ X) ps' ts' y bytes maxL rt d' mc' ms' As σ Qp)
    (hn : As.length = n) (hst : (st.map fun v => v.category).sum ≤ 8) (hd' : d' + 1 ≤ d) (hk : kc + mc' ≤ mc) (hs : ks + ms' ≤ ms)
    (kk : ∀ rv σ', Qp rv σ' → mG X (pc + 3) lv (rv.toList ++ st) σ' (kc + mc') (ks + ms') Q) : mG X pc lv (As.reverse ++ st) σ kc ks Q := by
  intro H locs ls hV hS hl
  have hR := hC.2.2.2.2.2.2.2.2.2.1
  have hV' : mV X.2.2.2.1.1 X.2.2.2.1.2.1 (xB X) ps' ts' σ H := ⟨hV.1, hV.2.1, hσ hV.2.2⟩
  refine m_call (va_runS (As := As) (rest := st) ⟨hC.1, hC.2.1, hC.2.2.1, hC.2.2.2.1, hC.2.2.2.2.1⟩ hM ⟨m_B hC hW hL hd', hC.2.2.2.2.1 _ hY⟩ ⟨mPc_blind, m_pre hC hV' hS _⟩ rfl hn hl.1 rfl (lv_room hst) hd (by rw [hR.2.1, hR.2.2.1]; exact ⟨hk, hs⟩)) hS (fun rv σ' H1 locs1 h1 h2 h3 => ?_)
  exact kk rv σ' h1 H1 locs1 ls ⟨h2.1, h2.2.1, h2.2.2.sub hp ht⟩ h3 hl
theorem g_callI (hC : mOK X cc own nm ret d mc ms) {a : Nat} (hW : yW y bytes maxL none n) (hY : yI y) (hL : Cond.methodLink own index y ∈ TB) (hd : decode cc pc = .ok (.invokespecial index, 3))
    (hp : ∀ e ∈ xP X, e ∈ ps') (ht : ∀ e ∈ xT X, e ∈ ts') (hσ : mS (xP X) (xT X) σ → mS ps' ts' σ) (hM : mM (xZ X) ps' ts' y bytes maxL none d' mc' ms' (.ref (xB X + a) :: As) σ Qp)
    (hn : As.length = n) (hst : (st.map fun v => v.category).sum ≤ 8) (hd' : d' + 1 ≤ d) (hk : kc + mc' ≤ mc) (hs : ks + ms' ≤ ms)
    (kk : ∀ rv σ', Qp rv σ' → mG X (pc + 3) lv (rv.toList ++ st) σ' (kc + mc') (ks + ms') Q) : mG X pc lv (As.reverse ++ .ref (xB X + a) :: st) σ kc ks Q := by
  intro H locs ls hV hS hl
  have hR := hC.2.2.2.2.2.2.2.2.2.1
  have hV' : mV X.2.2.2.1.1 X.2.2.2.1.2.1 (xB X) ps' ts' σ H := ⟨hV.1, hV.2.1, hσ hV.2.2⟩
  refine m_call (va_runI (As := As) (rest := st) ⟨hC.1, hC.2.1, hC.2.2.1, hC.2.2.2.1, hC.2.2.2.2.1⟩ hM ⟨m_B hC hW hL hd', hY.2, hC.2.2.2.2.1 _ hY.1⟩ ⟨mPc_blind, m_pre hC hV' hS _⟩ rfl hn hl.1 rfl (lv_room hst) hd (by rw [hR.2.1, hR.2.2.1]; exact ⟨hk, hs⟩)) hS (fun rv σ' H1 locs1 h1 h2 h3 => ?_)
  exact kk rv σ' h1 H1 locs1 ls ⟨h2.1, h2.2.1, h2.2.2.sub hp ht⟩ h3 hl
theorem g_callU (hC : mOK X cc own nm ret d mc ms) {a ci n0 : Nat} {C : String} {x : MethodName} (hT : mT σ a = some (ci, n0)) (h13 : ci < 13) (hcl : ∀ q : vw_C, vwCl[ci]? = some q → q.1 = C) (hW : yW y bytes maxL rt n) (hY : yU C x y) (hL : Cond.methodLink own index x ∈ TB) (hd : decode cc pc = .ok (.invokevirtual index, 3))
    (hp : ∀ e ∈ xP X, e ∈ ps') (ht : ∀ e ∈ xT X, e ∈ ts') (hσ : mS (xP X) (xT X) σ → mS ps' ts' σ) (hM : mM (xZ X) ps' ts' y bytes maxL rt d' mc' ms' (.ref (xB X + a) :: As) σ Qp)
    (hn : As.length = n) (hst : (st.map fun v => v.category).sum ≤ 8) (hd' : d' + 1 ≤ d) (hk : kc + mc' ≤ mc) (hs : ks + ms' ≤ ms)
    (kk : ∀ rv σ', Qp rv σ' → mG X (pc + 3) lv (rv.toList ++ st) σ' (kc + mc') (ks + ms') Q) : mG X pc lv (As.reverse ++ .ref (xB X + a) :: st) σ kc ks Q := by
  intro H locs ls hV hS hl
  have hR := hC.2.2.2.2.2.2.2.2.2.1
  have hts := hC.2.2.2.2.1
  have hwr := mW_at (cy := X.2.2.2.1.1) (B := xB X) hT
  rw [mE_o h13] at hwr
  obtain ⟨q, hq, -⟩ := hV.2.1 a _ hwr
  have hr := va_recv hC.2.2.2.2.2.1.1 hV.2.1 hq hwr
  rw [hcl q hq] at hr
  have hV' : mV X.2.2.2.1.1 X.2.2.2.1.2.1 (xB X) ps' ts' σ H := ⟨hV.1, hV.2.1, hσ hV.2.2⟩
  obtain ⟨u1, u2, u3, u4, ⟨b, nn, r, u5⟩, u6, u7, u8⟩ := hY
  obtain ⟨w1, w2, w3, w4, w5, w6⟩ := hW
  have cw : va_CU X.1.2.2.2 X.2.1.1 X.2.1.2.2.1 own C x.cls index x y bytes maxL rt (Cond.code y bytes maxL rt :: TB) (mRm d' mc' ms') mc' ms' n := by
    refine ⟨⟨rfl, rfl, Nat.le_trans hd' hR.1, by have := hR.2.2.2; show 8 + (maxL + 11) + 60 * d' ≤ _; omega, pay_in hts (TB_goodIn w1), List.mem_cons_self⟩, hts _ w1, hts _ w2, ⟨u7, u8⟩, fun sig h => ?_, hts _ hL, hts _ u1, va_Decl.of (hts _ u4) (hts _ u5), hts _ u2, hts _ u3⟩
    rw [u6] at h
    rw [h] at w6
    exact (Option.some.inj w6).symm
  refine m_call (va_runU (As := As) (rest := st) ⟨hC.1, hC.2.1, hC.2.2.1, hC.2.2.2.1, hts⟩ hM cw ⟨mPc_blind, hr, m_pre hC hV' hS _⟩ rfl hn hl.1 rfl (lv_room hst) hd (by rw [hR.2.1, hR.2.2.1]; exact ⟨hk, hs⟩)) hS (fun rv σ' H1 locs1 h1 h2 h3 => ?_)
  exact kk rv σ' h1 H1 locs1 ls ⟨h2.1, h2.2.1, h2.2.2.sub hp ht⟩ h3 hl
theorem g_callP (hC : mOK X cc own nm ret d mc ms) {a ci n0 : Nat} (hT : mT σ a = some (ci, n0)) (h13 : ci < 13) (hW : yW y bytes maxL rt n) (hY : yP own y) (hL : Cond.methodLink own index y ∈ TB) (hd : decode cc pc = .ok (.invokespecial index, 3))
    (hp : ∀ e ∈ xP X, e ∈ ps') (ht : ∀ e ∈ xT X, e ∈ ts') (hσ : mS (xP X) (xT X) σ → mS ps' ts' σ) (hM : mM (xZ X) ps' ts' y bytes maxL rt d' mc' ms' (.ref (xB X + a) :: As) σ Qp)
    (hn : As.length = n) (hst : (st.map fun v => v.category).sum ≤ 8) (hd' : d' + 1 ≤ d) (hk : kc + mc' ≤ mc) (hs : ks + ms' ≤ ms)
    (kk : ∀ rv σ', Qp rv σ' → mG X (pc + 3) lv (rv.toList ++ st) σ' (kc + mc') (ks + ms') Q) : mG X pc lv (As.reverse ++ .ref (xB X + a) :: st) σ kc ks Q := by
  intro H locs ls hV hS hl
  have hR := hC.2.2.2.2.2.2.2.2.2.1
  have hts := hC.2.2.2.2.1
  have hwr := mW_at (cy := X.2.2.2.1.1) (B := xB X) hT
  rw [mE_o h13] at hwr
  obtain ⟨q, hq, -⟩ := hV.2.1 a _ hwr
  have hr := va_recv hC.2.2.2.2.2.1.1 hV.2.1 hq hwr
  have hV' : mV X.2.2.2.1.1 X.2.2.2.1.2.1 (xB X) ps' ts' σ H := ⟨hV.1, hV.2.1, hσ hV.2.2⟩
  have cw := va_cwSU (R := X.1.2.2.2) (s := X.2.1.1) (args := X.2.1.2.2.1) (own := own) (index := index) (maxL := maxL) (mc := mc') (ms := ms') (y := y) (bytes := bytes) (ret := rt) (ws := Cond.code y bytes maxL rt :: TB) (rm := mRm d' mc' ms') n hts (fun w h => by
    rcases List.mem_append.mp h with h | h
    · simp only [List.mem_cons, List.not_mem_nil, or_false] at h
      have hm : w ∈ TB := by
        rcases h with rfl | rfl | rfl | rfl | rfl
        · exact hL
        · exact hY.1
        · exact hY.2.1
        · exact hY.2.2.1
        · exact hW.2.1
      exact ⟨hm, good_of_word (TB_good hm)⟩
    · exact TB_goodIn hW.1 w h) rfl rfl rfl ⟨hY.2.2.2, hW.2.2.2.2.2⟩ (by have := hW.2.2.1; have h9 := hR.2.2.2; exact ⟨Nat.le_trans hd' hR.1, by show 8 + (maxL + 11) + 60 * d' ≤ _; omega⟩)
  refine m_call (va_runSU (As := As) (rest := st) (hC.2.2.2.2.2.1.1.1 ci q hq).2 ⟨hC.1, hC.2.1, hC.2.2.1, hC.2.2.2.1, hts⟩ hM cw ⟨mPc_blind, hr, m_pre hC hV' hS _⟩ rfl hn hl.1 rfl (lv_room hst) hd (by rw [hR.2.1, hR.2.2.1]; exact ⟨hk, hs⟩)) hS (fun rv σ' H1 locs1 h1 h2 h3 => ?_)
  exact kk rv σ' h1 H1 locs1 ls ⟨h2.1, h2.2.1, h2.2.2.sub hp ht⟩ h3 hl
/-- Object's own <init> -/
theorem g_objInit (hC : mOK X cc own nm ret d mc ms) {a : Nat} (h1 : Cond.methodLink own index Lib.objectInit ∈ TB) (h2 : Cond.instanceMethod Lib.objectInit ∈ TB) (h3 : Cond.code Lib.objectInit ⟨#[0xb1]⟩ 1 none ∈ TB) (hst : (st.map fun v => v.category).sum ≤ 8) (hd1 : 1 ≤ d) (hd : decode cc pc = .ok (.invokespecial index, 3)) (kk : mG X (pc + 3) lv st σ kc ks Q) : mG X pc lv (.ref a :: st) σ kc ks Q := by
  intro H locs ls hV hS hl
  have hR := hC.2.2.2.2.2.2.2.2.2.1
  have hts := hC.2.2.2.2.1
  refine W.objInit hC.1 hC.2.1 hC.2.2.2.1 (hts _ h1) (hts _ h2) (hts _ h3) rfl (by rw [hC.2.2.1]; exact hl.1) rfl hd (Nat.le_trans hd1 hR.1) ?_ (W.eq (g2 := F0 X.2.1.2.1 (pc + 3) ls st) rfl (kk H locs ls hV hS hl))
  have := lv_room (m := X.2.1.2.1) (pc := pc) (ls := ls) (rest := (.ref a :: st)) hst
  have h9 := hR.2.2.2
  show _ + 12 ≤ _
  omega
end GC
/-! shapes for the generated rows -/
/-- a reference or null of the memory, as a value -/
abbrev rq (X : Cx) (o : Option Nat) : Value := va_rf (o.map (fun r => xB X + r))
def qV (Q : Mem → Prop) : Option Value → Mem → Prop := fun rv σ => rv = none ∧ Q σ
def qI (Q : Int32 → Mem → Prop) : Option Value → Mem → Prop := fun rv σ => ∃ v, rv = some (.int v) ∧ Q v σ
def qJ (Q : Int64 → Mem → Prop) : Option Value → Mem → Prop := fun rv σ => ∃ v, rv = some (.long v) ∧ Q v σ
def qA (B : Nat) (Q : Option Nat → Mem → Prop) : Option Value → Mem → Prop := fun rv σ => ∃ o : Option Nat, rv = some (va_rf (o.map (fun r => B + r))) ∧ Q o σ
/-- a number that a boolean may be -/
def bz (v : Int32) : Prop := narrow .boolean (.int v) = .int v
theorem bz0 : bz 0 := rfl
theorem bz1 : bz 1 := rfl
/-- the kinds of Layer -/
def lyK (ci : Nat) : Prop := ci = 0 ∨ ci = 2 ∨ ci = 3 ∨ ci = 4 ∨ ci = 8 ∨ ci = 10
section GS
variable {X : Cx} {cc : ByteArray} {own nm : String} {ret : Option FieldType} {d mc ms : Nat} {pc : Nat} {lv : List (Nat × Value)} {st : List Value} {σ : Mem} {kc ks : Nat} {Q : State → Prop}
theorem kV {P : Mem → Prop} (h : ∀ σ', P σ' → mG X pc lv st σ' kc ks Q) : ∀ rv σ', qV P rv σ' → mG X pc lv (rv.toList ++ st) σ' kc ks Q := by
  rintro _ σ' ⟨rfl, hq⟩; exact h σ' hq
theorem kI {P : Int32 → Mem → Prop} (h : ∀ v σ', P v σ' → mG X pc lv (.int v :: st) σ' kc ks Q) : ∀ rv σ', qI P rv σ' → mG X pc lv (rv.toList ++ st) σ' kc ks Q := by
  rintro _ σ' ⟨v, rfl, hq⟩; exact h v σ' hq
theorem kJ {P : Int64 → Mem → Prop} (h : ∀ v σ', P v σ' → mG X pc lv (.long v :: st) σ' kc ks Q) : ∀ rv σ', qJ P rv σ' → mG X pc lv (rv.toList ++ st) σ' kc ks Q := by
  rintro _ σ' ⟨v, rfl, hq⟩; exact h v σ' hq
theorem kA {P : Option Nat → Mem → Prop} (h : ∀ o σ', P o σ' → mG X pc lv (rq X o :: st) σ' kc ks Q) : ∀ rv σ', qA (xB X) P rv σ' → mG X pc lv (rv.toList ++ st) σ' kc ks Q := by
  rintro _ σ' ⟨o, rfl, hq⟩; exact h o σ' hq
theorem mG.pick {lv' : List (Nat × Value)} (is : List Nat) (h : lv_pick lv is = lv') (k : mG X pc lv' st σ kc ks Q) : mG X pc lv st σ kc ks Q := fun H locs ls a b c => k H locs ls a b (lv_sub c is h)
theorem g_topi {x : Int32} (k : ∀ y, y = x → mG X pc lv (.int y :: st) σ kc ks Q) : mG X pc lv (.int x :: st) σ kc ks Q := k x rfl
theorem g_topj {x : Int64} (k : ∀ y, y = x → mG X pc lv (.long y :: st) σ kc ks Q) : mG X pc lv (.long x :: st) σ kc ks Q := k x rfl
theorem g_topq {x : Option Nat} (k : ∀ y, y = x → mG X pc lv (rq X y :: st) σ kc ks Q) : mG X pc lv (rq X x :: st) σ kc ks Q := k x rfl
theorem g_ifnullR (hC : mOK X cc own nm ret d mc ms) {r : Nat} {off : Int} (hd : decode cc pc = .ok (.ifnull off, 3)) (k : mG X (pc + 3) lv st σ kc ks Q) : mG X pc lv (.ref r :: st) σ kc ks Q := fun H locs ls a b c => lv_ifnull hC.1 hC.2.1 hd (k H locs ls a b c)
theorem g_ifnullN (hC : mOK X cc own nm ret d mc ms) {off : Int} {tgt : Nat} (hd : decode cc pc = .ok (.ifnull off, 3)) (ht : (pc : Int) + off = (tgt : Int)) (k : mG X tgt lv st σ kc ks Q) : mG X pc lv (.null :: st) σ kc ks Q := fun H locs ls a b c => lv_ifnullN hC.1 hC.2.1 hd ht (k H locs ls a b c)
theorem g_ifnonnullR (hC : mOK X cc own nm ret d mc ms) {r : Nat} {off : Int} {tgt : Nat} (hd : decode cc pc = .ok (.ifnonnull off, 3)) (ht : (pc : Int) + off = (tgt : Int)) (k : mG X tgt lv st σ kc ks Q) : mG X pc lv (.ref r :: st) σ kc ks Q := fun H locs ls a b c => lv_ifnonnull hC.1 hC.2.1 hd ht (k H locs ls a b c)
theorem g_ifnonnullN (hC : mOK X cc own nm ret d mc ms) {off : Int} (hd : decode cc pc = .ok (.ifnonnull off, 3)) (k : mG X (pc + 3) lv st σ kc ks Q) : mG X pc lv (.null :: st) σ kc ks Q := fun H locs ls a b c => lv_ifnonnullN hC.1 hC.2.1 hd (k H locs ls a b c)
theorem g_aretR {Qp : Option Value → Mem → Prop} {rt : FieldType} {r : Nat} (hC : mOK X cc own nm (some rt) d mc ms) (hrt : (∃ n, rt = .object n) ∨ ∃ t, rt = .array t) (hk : kc ≤ mc) (hs : ks ≤ ms) (hd : decode cc pc = .ok (.areturn, 1)) (h : mS (xP X) (xT X) σ → Qp (some (.ref r)) σ) : mG X pc lv [.ref r] σ kc ks (mQ X mc ms Qp) := g_aret (o := some r) hC hrt hk hs hd h
theorem g_aretN {Qp : Option Value → Mem → Prop} {rt : FieldType} (hC : mOK X cc own nm (some rt) d mc ms) (hrt : (∃ n, rt = .object n) ∨ ∃ t, rt = .array t) (hk : kc ≤ mc) (hs : ks ≤ ms) (hd : decode cc pc = .ok (.areturn, 1)) (h : mS (xP X) (xT X) σ → Qp (some .null) σ) : mG X pc lv [.null] σ kc ks (mQ X mc ms Qp) := g_aret (o := none) hC hrt hk hs hd h
theorem g_getiS (hC : mOK X cc own nm ret d mc ms) {index ci k n a : Nat} (hL : fLs own index ci k true) (hT : (a, ci, n) ∈ xT X) (hd : decode cc pc = .ok (.getfield index, 3)) (kk : mG X (pc + 3) lv (.int (mI σ a k) :: st) σ kc ks Q) : mG X pc lv (.ref (xB X + a) :: st) σ kc ks Q := g_known fun hS => g_geti hC hL (hS.2 _ hT) hd kk
theorem g_getqS (hC : mOK X cc own nm ret d mc ms) {index ci k n a : Nat} (hL : fLs own index ci k false) (hT : (a, ci, n) ∈ xT X) (hd : decode cc pc = .ok (.getfield index, 3)) (kk : mG X (pc + 3) lv (rq X (mP σ a k) :: st) σ kc ks Q) : mG X pc lv (.ref (xB X + a) :: st) σ kc ks Q := g_known fun hS => g_getq hC hL (hS.2 _ hT) hd kk
theorem g_getrS (hC : mOK X cc own nm ret d mc ms) {index ci k n a r : Nat} (hL : fLs own index ci k false) (hT : (a, ci, n) ∈ xT X) (hp : (a, k, r) ∈ xP X) (hd : decode cc pc = .ok (.getfield index, 3)) (kk : mG X (pc + 3) lv (.ref (xB X + r) :: st) σ kc ks Q) : mG X pc lv (.ref (xB X + a) :: st) σ kc ks Q := g_known fun hS => g_getr hC hL (hS.2 _ hT) (hS.1 _ hp).1 hd kk
theorem g_putIS (hC : mOK X cc own nm ret d mc ms) {index ci k n a : Nat} {v : Int32} (hL : fW own nm index ci k true) (hT : (a, ci, n) ∈ xT X) (hn : narrow (tyX ci k) (.int v) = .int v) (hfit : fits (tyX ci k) (.int v) = true) (hd : decode cc pc = .ok (.putfield index, 3)) (kk : mG X (pc + 3) lv st (sI σ a k v) kc ks Q) : mG X pc lv (.int v :: .ref (xB X + a) :: st) σ kc ks Q := g_known fun hS => g_putI hC hL (hS.2 _ hT) hn hfit hd kk
theorem g_ialdK (hC : mOK X cc own nm ret d mc ms) {a n k : Nat} {i : Int32} (hT : mT σ a = some (14, n)) (hk : i.toNatClampNeg = k) (hin : vp_in i n) (hd : decode cc pc = .ok (.iaload, 1)) (kk : mG X (pc + 1) lv (.int (mI σ a k) :: st) σ kc ks Q) : mG X pc lv (.int i :: .ref (xB X + a) :: st) σ kc ks Q := by subst hk; exact g_iald hC hT hin hd kk
theorem g_ialdS (hC : mOK X cc own nm ret d mc ms) {a n k : Nat} {i : Int32} (hT : (a, 14, n) ∈ xT X) (hk : i.toNatClampNeg = k) (hin : vp_in i n) (hd : decode cc pc = .ok (.iaload, 1)) (kk : mG X (pc + 1) lv (.int (mI σ a k) :: st) σ kc ks Q) : mG X pc lv (.int i :: .ref (xB X + a) :: st) σ kc ks Q := g_known fun hS => g_ialdK hC (hS.2 _ hT) hk hin hd kk
theorem g_iastK (hC : mOK X cc own nm ret d mc ms) {a n k : Nat} {i x : Int32} (hT : mT σ a = some (14, n)) (hk : i.toNatClampNeg = k) (hin : vp_in i n) (hd : decode cc pc = .ok (.iastore, 1)) (kk : mG X (pc + 1) lv st (sI σ a k x) kc ks Q) : mG X pc lv (.int x :: .int i :: .ref (xB X + a) :: st) σ kc ks Q := by subst hk; exact g_iast hC hT hin hd kk
theorem g_iastS (hC : mOK X cc own nm ret d mc ms) {a n k : Nat} {i x : Int32} (hT : (a, 14, n) ∈ xT X) (hk : i.toNatClampNeg = k) (hin : vp_in i n) (hd : decode cc pc = .ok (.iastore, 1)) (kk : mG X (pc + 1) lv st (sI σ a k x) kc ks Q) : mG X pc lv (.int x :: .int i :: .ref (xB X + a) :: st) σ kc ks Q := g_known fun hS => g_iastK hC (hS.2 _ hT) hk hin hd kk
theorem g_zaldK (hC : mOK X cc own nm ret d mc ms) {a n k : Nat} {i : Int32} (hT : mT σ a = some (15, n)) (hk : i.toNatClampNeg = k) (hin : vp_in i n) (hd : decode cc pc = .ok (.baload, 1)) (kk : mG X (pc + 1) lv (.int (mI σ a k) :: st) σ kc ks Q) : mG X pc lv (.int i :: .ref (xB X + a) :: st) σ kc ks Q := by subst hk; exact g_zald hC hT hin hd kk
theorem g_zaldS (hC : mOK X cc own nm ret d mc ms) {a n k : Nat} {i : Int32} (hT : (a, 15, n) ∈ xT X) (hk : i.toNatClampNeg = k) (hin : vp_in i n) (hd : decode cc pc = .ok (.baload, 1)) (kk : mG X (pc + 1) lv (.int (mI σ a k) :: st) σ kc ks Q) : mG X pc lv (.int i :: .ref (xB X + a) :: st) σ kc ks Q := g_known fun hS => g_zaldK hC (hS.2 _ hT) hk hin hd kk
theorem bz_nar {x : Int32} (h : bz x) : vp_nar .boolean x = x := by unfold vp_nar; rw [h]
theorem g_zastK (hC : mOK X cc own nm ret d mc ms) {a n k : Nat} {i x : Int32} (hT : mT σ a = some (15, n)) (hk : i.toNatClampNeg = k) (hin : vp_in i n) (hb : bz x) (hd : decode cc pc = .ok (.bastore, 1)) (kk : mG X (pc + 1) lv st (sI σ a k x) kc ks Q) : mG X pc lv (.int x :: .int i :: .ref (xB X + a) :: st) σ kc ks Q := by subst hk; exact g_zast hC hT hin (bz_nar hb) hd kk
theorem g_zastS (hC : mOK X cc own nm ret d mc ms) {a n k : Nat} {i x : Int32} (hT : (a, 15, n) ∈ xT X) (hk : i.toNatClampNeg = k) (hin : vp_in i n) (hb : bz x) (hd : decode cc pc = .ok (.bastore, 1)) (kk : mG X (pc + 1) lv st (sI σ a k x) kc ks Q) : mG X pc lv (.int x :: .int i :: .ref (xB X + a) :: st) σ kc ks Q := g_known fun hS => g_zastK hC (hS.2 _ hT) hk hin hb hd kk
theorem g_caldK (hC : mOK X cc own nm ret d mc ms) {a n k : Nat} {i : Int32} (hT : mT σ a = some (13, n)) (hk : i.toNatClampNeg = k) (hin : vp_in i n) (hd : decode cc pc = .ok (.caload, 1)) (kk : mG X (pc + 1) lv (.int (mI σ a k) :: st) σ kc ks Q) : mG X pc lv (.int i :: .ref (xB X + a) :: st) σ kc ks Q := by subst hk; exact g_cald hC hT hin hd kk
theorem g_caldS (hC : mOK X cc own nm ret d mc ms) {a n k : Nat} {i : Int32} (hT : (a, 13, n) ∈ xT X) (hk : i.toNatClampNeg = k) (hin : vp_in i n) (hd : decode cc pc = .ok (.caload, 1)) (kk : mG X (pc + 1) lv (.int (mI σ a k) :: st) σ kc ks Q) : mG X pc lv (.int i :: .ref (xB X + a) :: st) σ kc ks Q := g_known fun hS => g_caldK hC (hS.2 _ hT) hk hin hd kk
theorem g_castK (hC : mOK X cc own nm ret d mc ms) {a n k : Nat} {i x : Int32} (hT : mT σ a = some (13, n)) (hk : i.toNatClampNeg = k) (hin : vp_in i n) (hb : vp_nar .char x = x) (hd : decode cc pc = .ok (.castore, 1)) (kk : mG X (pc + 1) lv st (sI σ a k x) kc ks Q) : mG X pc lv (.int x :: .int i :: .ref (xB X + a) :: st) σ kc ks Q := by subst hk; exact g_cast hC hT hin hb hd kk
theorem g_aaldS (hC : mOK X cc own nm ret d mc ms) {a t n k : Nat} {i : Int32} (hT : (a, t, n) ∈ xT X) (h1 : 16 ≤ t) (h2 : t < 19) (hk : i.toNatClampNeg = k) (hin : vp_in i n) (hd : decode cc pc = .ok (.aaload, 1)) (kk : mG X (pc + 1) lv (rq X (mP σ a k) :: st) σ kc ks Q) : mG X pc lv (.int i :: .ref (xB X + a) :: st) σ kc ks Q := by subst hk; exact g_known fun hS => g_aald hC (hS.2 _ hT) h1 h2 hin hd kk
theorem g_alenS (hC : mOK X cc own nm ret d mc ms) {a t n : Nat} (hT : (a, t, n) ∈ xT X) (h1 : 13 ≤ t) (h2 : t < 19) (hd : decode cc pc = .ok (.arraylength, 1)) (kk : mG X (pc + 1) lv (.int (nI n) :: st) σ kc ks Q) : mG X pc lv (.ref (xB X + a) :: st) σ kc ks Q := g_known fun hS => g_alen hC (hS.2 _ hT) h1 h2 hd kk
/-- System.arraycopy of ints -/
theorem g_copy (hC : mOK X cc own nm ret d mc ms) {index a0 a1 n0 n1 : Nat} {sp dp n : Int32} (hT0 : mT σ a0 = some (14, n0)) (hT1 : mT σ a1 = some (14, n1)) (w1 : Cond.methodLink own index arraycopyName ∈ TB) (w2 : Cond.native arraycopyName ∈ TB) (w3 : Cond.static arraycopyName ∈ TB) (w4 : Cond.initialized "java/lang/System" ∈ TB)
    (h1 : ¬ sp < 0) (h2 : ¬ dp < 0) (h3 : ¬ n < 0) (h4 : sp.toNatClampNeg + n.toNatClampNeg ≤ n0) (h5 : dp.toNatClampNeg + n.toNatClampNeg ≤ n1) (hd1 : 1 ≤ d) (hst : (st.map fun v => v.category).sum + (nativeFrameWords "java/lang/System" "arraycopy" 5 + 11) ≤ 60) (hd : decode cc pc = .ok (.invokestatic index, 3))
    (kk : mG X (pc + 3) lv st (sR σ a1 (va_cpy (σ.1 a0) (σ.1 a1) sp.toNatClampNeg dp.toNatClampNeg n.toNatClampNeg)) kc ks Q) : mG X pc lv (.int n :: .int dp :: .ref (xB X + a1) :: .int sp :: .ref (xB X + a0) :: st) σ kc ks Q := by
  intro H locs ls hV hS hl
  have hR := hC.2.2.2.2.2.2.2.2.2.1
  have hts := hC.2.2.2.2.1
  refine w_copyi hC.1 hC.2.1 (by rw [hC.2.2.1]; exact hl.1.symm) hC.2.2.2.1 (hts _ w1) (hts _ w2) (hts _ w3) (hts _ w4) hC.2.2.2.2.2.1.1 hV.2.1 mW_D hS a0 a1 1 1 (mW_int (by decide) (by decide) hT0) (mW_int (by decide) (by decide) hT1) rfl rfl h1 h2 h3 h4 h5 (Nat.le_trans hd1 hR.1) (by have := hR.2.2.2; omega) hd (fun H1 locs1 hz hP1 hS1 => ?_)
  rw [mW_setI (by decide) (by decide) hT1] at hP1
  exact kk H1 locs1 ls ⟨hz.trans hV.1, hP1, hV.2.2.sR a1 _⟩ hS1 hl
end GS
theorem vpl {i : Int32} {n : Nat} (h : (decide (i < 0) || decide (n ≤ i.toNatClampNeg)) = false) : vp_in i n := by
  simp only [Bool.or_eq_false_iff, decide_eq_false_iff_not] at h
  exact fun q => q.elim h.1 h.2
theorem mG.st {X : Cx} {pc : Nat} {lv : List (Nat × Value)} {st st1 : List Value} {σ : Mem} {kc ks : Nat} {Q : State → Prop} (h : st = st1) (k : mG X pc lv st1 σ kc ks Q) : mG X pc lv st σ kc ks Q := h ▸ k
/-- no key of a switch -/
theorem sw_out (lo hi : Int) (x : Int32) (h : lo ≤ hi) (ks : List Int32) (hk : ks.map Int32.toInt = (List.range (hi - lo + 1).toNat).map (fun i : Nat => lo + (i : Int))) (hn : ∀ k ∈ ks, ¬ x = k) : x.toInt < lo ∨ hi < x.toInt := by
  rcases Int.lt_or_le x.toInt lo with q | q
  · exact Or.inl q
  · rcases Int.lt_or_le hi x.toInt with q2 | q2
    · exact Or.inr q2
    · exfalso
      have hm : x.toInt ∈ (List.range (hi - lo + 1).toNat).map (fun i : Nat => lo + (i : Int)) := List.mem_map.mpr ⟨(x.toInt - lo).toNat, List.mem_range.mpr (by omega), by omega⟩
      rw [← hk] at hm
      obtain ⟨k, h1, h2⟩ := List.mem_map.mp hm
      exact hn k h1 (Int32.toInt_inj.mp h2.symm)
/-- a field by a subclass' name -/
theorem sf_same {A : Array Value} {s : State} {ref decl nm ds : String} {x : ClassId × Class × Nat × Field} (h : (Cond.sameField ref decl nm ds).before A s = true) (hx : s.fieldFound? decl nm ds = some x) : s.fieldFound? ref nm ds = some x := by
  exact u_same h x hx
theorem mI_sR_n (σ : Mem) {a : Nat} (f : Nat → Int32) {b j : Nat} (h : b ≠ a) : mI (sR σ a f) b j = mI σ b j := by rw [mI_sR, if_neg h]
section GV
variable {X : Cx} {cc : ByteArray} {own nm : String} {ret : Option FieldType} {d mc ms : Nat} {pc : Nat} {lv : List (Nat × Value)} {st : List Value} {σ : Mem} {kc ks : Nat} {Q : State → Prop}
theorem g_getiSv (hC : mOK X cc own nm ret d mc ms) {index ci k n a : Nat} {v : Int32} (hL : fLs own index ci k true) (hT : (a, ci, n) ∈ xT X) (hv : mI σ a k = v) (hd : decode cc pc = .ok (.getfield index, 3)) (kk : mG X (pc + 3) lv (.int v :: st) σ kc ks Q) : mG X pc lv (.ref (xB X + a) :: st) σ kc ks Q := by subst hv; exact g_getiS hC hL hT hd kk
theorem g_getiv (hC : mOK X cc own nm ret d mc ms) {index ci k n a : Nat} {v : Int32} (hL : fLs own index ci k true) (hT : mT σ a = some (ci, n)) (hv : mI σ a k = v) (hd : decode cc pc = .ok (.getfield index, 3)) (kk : mG X (pc + 3) lv (.int v :: st) σ kc ks Q) : mG X pc lv (.ref (xB X + a) :: st) σ kc ks Q := by subst hv; exact g_geti hC hL hT hd kk
theorem g_ialdKv (hC : mOK X cc own nm ret d mc ms) {a n k : Nat} {i v : Int32} (hT : mT σ a = some (14, n)) (hk : i.toNatClampNeg = k) (hin : vp_in i n) (hv : mI σ a k = v) (hd : decode cc pc = .ok (.iaload, 1)) (kk : mG X (pc + 1) lv (.int v :: st) σ kc ks Q) : mG X pc lv (.int i :: .ref (xB X + a) :: st) σ kc ks Q := by subst hv; exact g_ialdK hC hT hk hin hd kk
theorem g_ialdSv (hC : mOK X cc own nm ret d mc ms) {a n k : Nat} {i v : Int32} (hT : (a, 14, n) ∈ xT X) (hk : i.toNatClampNeg = k) (hin : vp_in i n) (hv : mI σ a k = v) (hd : decode cc pc = .ok (.iaload, 1)) (kk : mG X (pc + 1) lv (.int v :: st) σ kc ks Q) : mG X pc lv (.int i :: .ref (xB X + a) :: st) σ kc ks Q := by subst hv; exact g_ialdS hC hT hk hin hd kk
theorem g_zaldKv (hC : mOK X cc own nm ret d mc ms) {a n k : Nat} {i v : Int32} (hT : mT σ a = some (15, n)) (hk : i.toNatClampNeg = k) (hin : vp_in i n) (hv : mI σ a k = v) (hd : decode cc pc = .ok (.baload, 1)) (kk : mG X (pc + 1) lv (.int v :: st) σ kc ks Q) : mG X pc lv (.int i :: .ref (xB X + a) :: st) σ kc ks Q := by subst hv; exact g_zaldK hC hT hk hin hd kk
theorem g_zaldSv (hC : mOK X cc own nm ret d mc ms) {a n k : Nat} {i v : Int32} (hT : (a, 15, n) ∈ xT X) (hk : i.toNatClampNeg = k) (hin : vp_in i n) (hv : mI σ a k = v) (hd : decode cc pc = .ok (.baload, 1)) (kk : mG X (pc + 1) lv (.int v :: st) σ kc ks Q) : mG X pc lv (.int i :: .ref (xB X + a) :: st) σ kc ks Q := by subst hv; exact g_zaldS hC hT hk hin hd kk
theorem g_caldKv (hC : mOK X cc own nm ret d mc ms) {a n k : Nat} {i v : Int32} (hT : mT σ a = some (13, n)) (hk : i.toNatClampNeg = k) (hin : vp_in i n) (hv : mI σ a k = v) (hd : decode cc pc = .ok (.caload, 1)) (kk : mG X (pc + 1) lv (.int v :: st) σ kc ks Q) : mG X pc lv (.int i :: .ref (xB X + a) :: st) σ kc ks Q := by subst hv; exact g_caldK hC hT hk hin hd kk
theorem g_caldSv (hC : mOK X cc own nm ret d mc ms) {a n k : Nat} {i v : Int32} (hT : (a, 13, n) ∈ xT X) (hk : i.toNatClampNeg = k) (hin : vp_in i n) (hv : mI σ a k = v) (hd : decode cc pc = .ok (.caload, 1)) (kk : mG X (pc + 1) lv (.int v :: st) σ kc ks Q) : mG X pc lv (.int i :: .ref (xB X + a) :: st) σ kc ks Q := by subst hv; exact g_caldS hC hT hk hin hd kk
end GV
section GM
variable {X : Cx} {cc : ByteArray} {own nm : String} {ret : Option FieldType} {d mc ms : Nat} {pc : Nat} {lv : List (Nat × Value)} {st : List Value} {σ : Mem} {kc ks : Nat} {Q : State → Prop} {index : Nat}
theorem g_mmax (hC : mOK X cc own nm ret d mc ms) {x y : Int32} (w1 : Cond.methodLink own index Lib.Math.max.name ∈ TB) (w2 : Cond.static Lib.Math.max.name ∈ TB) (w3 : Cond.initialized "java/lang/Math" ∈ TB) (w4 : Cond.code Lib.Math.max.name Lib.Math.max.code 2 (some .int) ∈ TB) (hst : (st.map fun v => v.category).sum ≤ 8) (hd1 : 1 ≤ d) (hk : kc ≤ mc) (hs : ks ≤ ms) (hd : decode cc pc = .ok (.invokestatic index, 3)) (kk : mG X (pc + 3) lv (.int (if x < y then y else x) :: st) σ kc ks Q) : mG X pc lv (.int y :: .int x :: st) σ kc ks Q := by
  intro H locs ls hV hS hl
  have hR := hC.2.2.2.2.2.2.2.2.2.1
  have hts := hC.2.2.2.2.1
  exact va_mmax hC.1 hC.2.1 (by rw [hC.2.2.1]; exact hl.1.symm) hC.2.2.2.1 (hts _ w1) (hts _ w2) (hts _ w3) (hts _ w4) (Nat.le_trans hd1 hR.1) (by have := hR.2.2.2; omega) (by rw [hR.2.1]; exact hk) (by rw [hR.2.2.1]; exact hs) hd (kk H locs ls hV hS hl)
theorem g_mmin (hC : mOK X cc own nm ret d mc ms) {x y : Int32} (w1 : Cond.methodLink own index Lib.Math.min.name ∈ TB) (w2 : Cond.static Lib.Math.min.name ∈ TB) (w3 : Cond.initialized "java/lang/Math" ∈ TB) (w4 : Cond.code Lib.Math.min.name Lib.Math.min.code 2 (some .int) ∈ TB) (hst : (st.map fun v => v.category).sum ≤ 8) (hd1 : 1 ≤ d) (hk : kc ≤ mc) (hs : ks ≤ ms) (hd : decode cc pc = .ok (.invokestatic index, 3)) (kk : mG X (pc + 3) lv (.int (if y < x then y else x) :: st) σ kc ks Q) : mG X pc lv (.int y :: .int x :: st) σ kc ks Q := by
  intro H locs ls hV hS hl
  have hR := hC.2.2.2.2.2.2.2.2.2.1
  have hts := hC.2.2.2.2.1
  exact va_mmin hC.1 hC.2.1 (by rw [hC.2.2.1]; exact hl.1.symm) hC.2.2.2.1 (hts _ w1) (hts _ w2) (hts _ w3) (hts _ w4) (Nat.le_trans hd1 hR.1) (by have := hR.2.2.2; omega) (by rw [hR.2.1]; exact hk) (by rw [hR.2.2.1]; exact hs) hd (kk H locs ls hV hS hl)
theorem g_mabs (hC : mOK X cc own nm ret d mc ms) {x : Int32} (w1 : Cond.methodLink own index Lib.Math.abs.name ∈ TB) (w2 : Cond.static Lib.Math.abs.name ∈ TB) (w3 : Cond.initialized "java/lang/Math" ∈ TB) (w4 : Cond.code Lib.Math.abs.name Lib.Math.abs.code 1 (some .int) ∈ TB) (hst : (st.map fun v => v.category).sum ≤ 8) (hd1 : 1 ≤ d) (hk : kc ≤ mc) (hs : ks ≤ ms) (hd : decode cc pc = .ok (.invokestatic index, 3)) (kk : mG X (pc + 3) lv (.int (if 0 ≤ x then x else 0 - x) :: st) σ kc ks Q) : mG X pc lv (.int x :: st) σ kc ks Q := by
  intro H locs ls hV hS hl
  have hR := hC.2.2.2.2.2.2.2.2.2.1
  have hts := hC.2.2.2.2.1
  exact va_mabs hC.1 hC.2.1 (by rw [hC.2.2.1]; exact hl.1.symm) hC.2.2.2.1 (hts _ w1) (hts _ w2) (hts _ w3) (hts _ w4) (Nat.le_trans hd1 hR.1) (by have := hR.2.2.2; omega) (by rw [hR.2.1]; exact hk) (by rw [hR.2.2.1]; exact hs) hd (kk H locs ls hV hS hl)
theorem g_mmaxl (hC : mOK X cc own nm ret d mc ms) {x y : Int64} (w1 : Cond.methodLink own index Lib.MathLoose.max_long.x ∈ TB) (w2 : Cond.static Lib.MathLoose.max_long.x ∈ TB) (w3 : Cond.initialized "java/lang/Math" ∈ TB) (w4 : Cond.code Lib.MathLoose.max_long.x Lib.MathLoose.max_long.code 4 (some .long) ∈ TB) (hst : (st.map fun v => v.category).sum ≤ 8) (hd1 : 1 ≤ d) (hk : kc ≤ mc) (hs : ks ≤ ms) (hd : decode cc pc = .ok (.invokestatic index, 3)) (kk : mG X (pc + 3) lv (.long (if y < x then x else y) :: st) σ kc ks Q) : mG X pc lv (.long y :: .long x :: st) σ kc ks Q := by
  intro H locs ls hV hS hl
  have hR := hC.2.2.2.2.2.2.2.2.2.1
  have hts := hC.2.2.2.2.1
  exact va_mmax_long hC.1 hC.2.1 (by rw [hC.2.2.1]; exact hl.1.symm) hC.2.2.2.1 (hts _ w1) (hts _ w2) (hts _ w3) (hts _ w4) (Nat.le_trans hd1 hR.1) (by have := hR.2.2.2; omega) (by rw [hR.2.1]; exact hk) (by rw [hR.2.2.1]; exact hs) hd (kk H locs ls hV hS hl)
end GM
/-! String constants -/
section GStr
variable {X : Cx} {cc : ByteArray} {own nm : String} {ret : Option FieldType} {d mc ms : Nat} {pc : Nat} {lv : List (Nat × Value)} {st : List Value} {σ : Mem} {kc ks : Nat} {Q : State → Prop} {index : Nat}
/-- the address of a String constant, and of its bytes -/
abbrev xK (X : Cx) (k : Nat) : Nat := X.2.2.2.1.2.2.1 k
abbrev xV (X : Cx) (k : Nat) : Nat := X.2.2.2.1.2.2.2 k
theorem g_ldcS (hC : mOK X cc own nm ret d mc ms) {tx : String} (k : Nat) (hk : strX[k]? = some (own, index, tx)) (hd : decode cc pc = .ok (.ldc index, 2)) (kk : mG X (pc + 2) lv (.ref (xK X k) :: st) σ kc ks Q) : mG X pc lv st σ kc ks Q :=
  fun H locs ls hV hS hl => va_ldcS hC.1 hC.2.1 hC.2.2.2.1 (hC.2.2.2.2.2.1.2.2.1 k _ hk) hd (kk H locs ls hV hS hl)
theorem g_getst (hC : mOK X cc own nm ret d mc ms) (hw : Cond.fieldLink own index "java/lang/String" "COMPACT_STRINGS" "Z" ∈ TB) (hd : decode cc pc = .ok (.getstatic index, 3)) (kk : mG X (pc + 3) lv (.int 1 :: st) σ kc ks Q) : mG X pc lv st σ kc ks Q :=
  fun H locs ls hV hS hl => va_gets hC.1 hC.2.1 hC.2.2.2.2.2.1.2.2.2.2.2.1 hS hC.2.2.2.1 (hC.2.2.2.2.1 _ hw) (fun _ h => h) hd (kk H locs ls hV hS hl)
theorem g_getfmt (hC : mOK X cc own nm ret d mc ms) (hw : Cond.fieldLink own index "jdk/internal/util/Preconditions" "SIOOBE_FORMATTER" "Ljava/util/function/BiFunction;" ∈ TB) (hd : decode cc pc = .ok (.getstatic index, 3)) (kk : ∀ o : Option Nat, mG X (pc + 3) lv (va_rf o :: st) σ kc ks Q) : mG X pc lv st σ kc ks Q := by
  intro H locs ls hV hS hl
  rcases hC.2.2.2.2.2.1.2.2.2.2.2.2 with h | ⟨t, h⟩
  · exact va_gets hC.1 hC.2.1 h hS hC.2.2.2.1 (hC.2.2.2.2.1 _ hw) (fun _ h => h) hd (kk none H locs ls hV hS hl)
  · exact va_gets hC.1 hC.2.1 h hS hC.2.2.2.1 (hC.2.2.2.2.1 _ hw) (fun _ h => h) hd (kk (some t) H locs ls hV hS hl)
theorem g_getcoder (hC : mOK X cc own nm ret d mc ms) {k : Nat} (hk : k < 13) (hw : Cond.fieldLink own index "java/lang/String" "coder" "B" ∈ TB) (hd : decode cc pc = .ok (.getfield index, 3)) (kk : mG X (pc + 3) lv (.int 0 :: st) σ kc ks Q) : mG X pc lv (.ref (xK X k) :: st) σ kc ks Q :=
  fun H locs ls hV hS hl => vk_getf hC.1 hC.2.1 (hC.2.2.2.2.2.1.2.1.1 k hk).2.1 hS hC.2.2.2.1 (hC.2.2.2.2.1 _ hw) (fun _ h => h) hd (kk H locs ls hV hS hl)
theorem g_getvalue (hC : mOK X cc own nm ret d mc ms) {k : Nat} (hk : k < 13) (hw : Cond.fieldLink own index "java/lang/String" "value" "[B" ∈ TB) (hd : decode cc pc = .ok (.getfield index, 3)) (kk : mG X (pc + 3) lv (.ref (xV X k) :: st) σ kc ks Q) : mG X pc lv (.ref (xK X k) :: st) σ kc ks Q :=
  fun H locs ls hV hS hl => vk_getf hC.1 hC.2.1 (hC.2.2.2.2.2.1.2.1.1 k hk).2.2.1 hS hC.2.2.2.1 (hC.2.2.2.2.1 _ hw) (fun _ h => h) hd (kk H locs ls hV hS hl)
theorem g_bytlen (hC : mOK X cc own nm ret d mc ms) {k : Nat} (hk : k < 13) (hd : decode cc pc = .ok (.arraylength, 1)) (kk : mG X (pc + 1) lv (.int (nI (lenX.getD k 0)) :: st) σ kc ks Q) : mG X pc lv (.ref (xV X k) :: st) σ kc ks Q :=
  fun H locs ls hV hS hl => va_tlen hC.1 hC.2.1 (hC.2.2.2.2.2.1.2.1.1 k hk).2.2.2 hS rfl hd (kk H locs ls hV hS hl)
theorem g_bytat (hC : mOK X cc own nm ret d mc ms) {k : Nat} {i : Int32} (hk : k < 13) (hin : vp_in i (lenX.getD k 0)) (hd : decode cc pc = .ok (.baload, 1)) (kk : mG X (pc + 1) lv (.int ((bytX.getD k []).getD i.toNatClampNeg 0) :: st) σ kc ks Q) : mG X pc lv (.int i :: .ref (xV X k) :: st) σ kc ks Q :=
  fun H locs ls hV hS hl => va_tb hC.1 hC.2.1 (hC.2.2.2.2.2.1.2.1.1 k hk).2.2.2 hS hin rfl hd (kk H locs ls hV hS hl)
variable {n maxL d' mc' ms' : Nat} {y : MethodName} {bytes : ByteArray} {rt : Option FieldType} {As : List Value} {Qp : Option Value → Mem → Prop}
/-- a call on a String constant -/
theorem g_callX (hC : mOK X cc own nm ret d mc ms) {k : Nat} (hk : k < 13) (hcl : y.cls = "java/lang/String") (hW : yW y bytes maxL rt n) (hY : yV y) (hL : Cond.methodLink own index y ∈ TB) (hd : decode cc pc = .ok (.invokevirtual index, 3)) (hM : mM (xZ X) (xP X) (xT X) y bytes maxL rt d' mc' ms' (.ref (xK X k) :: As) σ Qp)
    (hn : As.length = n) (hst : (st.map fun v => v.category).sum ≤ 8) (hd' : d' + 1 ≤ d) (hkc : kc + mc' ≤ mc) (hs : ks + ms' ≤ ms)
    (kk : ∀ rv σ', Qp rv σ' → mG X (pc + 3) lv (rv.toList ++ st) σ' (kc + mc') (ks + ms') Q) : mG X pc lv (As.reverse ++ .ref (xK X k) :: st) σ kc ks Q := by
  intro H locs ls hV hS hl
  have hR := hC.2.2.2.2.2.2.2.2.2.1
  have hr := vk_recv hC.2.2.2.2.2.1.2.1 hk hS
  rw [← hcl] at hr
  refine m_call (va_runV (As := As) (rest := st) ⟨hC.1, hC.2.1, hC.2.2.1, hC.2.2.2.1, hC.2.2.2.2.1⟩ hM ⟨m_B hC hW hL hd', hC.2.2.2.2.1 _ hY.1, hC.2.2.2.2.1 _ hY.2⟩ ⟨mPc_blind, hr, m_pre hC hV hS _⟩ rfl hn hl.1 rfl (lv_room hst) hd (by rw [hR.2.1, hR.2.2.1]; exact ⟨hkc, hs⟩)) hS (fun rv σ' H1 locs1 h1 h2 h3 => ?_)
  exact kk rv σ' h1 H1 locs1 ls ⟨h2.1, h2.2.1, h2.2.2⟩ h3 hl
end GStr
end
section
/-! what is known for good -/
def psR : List (Nat × Nat × Nat) := [(5, 0, 6), (5, 7, 7)]
def tsR : List (Nat × Nat × Nat) := [(5, 5, 0), (6, 14, 160), (7, 14, 160)]
def psG : List (Nat × Nat × Nat) := [(0, 0, 1), (0, 1, 2), (0, 3, 3), (0, 5, 4), (0, 7, 5), (0, 8, 8), (0, 10, 14), (0, 11, 15), (0, 12, 20), (0, 14, 21), (0, 15, 22), (0, 17, 23), (0, 18, 24), (5, 0, 6), (5, 7, 7), (8, 0, 9), (9, 0, 10), (9, 1, 11), (9, 3, 12), (9, 4, 13), (14, 0, 25), (14, 1, 27), (14, 2, 29), (14, 3, 31), (15, 0, 16), (15, 1, 17), (15, 3, 18), (15, 4, 19), (25, 0, 26), (27, 0, 28), (29, 0, 30), (31, 0, 32)]
def tsG : List (Nat × Nat × Nat) := [(0, 11, 0), (1, 14, 8), (2, 14, 8), (3, 16, 5), (4, 17, 6), (5, 5, 0), (6, 14, 160), (7, 14, 160), (8, 9, 0), (9, 1, 0), (10, 14, 64), (11, 14, 8), (12, 14, 8), (13, 14, 8), (14, 18, 4), (15, 1, 0), (16, 14, 64), (17, 14, 8), (18, 14, 8), (19, 14, 8), (20, 14, 8), (21, 14, 8), (22, 14, 9), (23, 14, 8), (24, 14, 256), (25, 7, 0), (26, 14, 40), (27, 7, 0), (28, 14, 40), (29, 7, 0), (30, 14, 40), (31, 7, 0), (32, 14, 40)]
def psM : List (Nat × Nat × Nat) := [(37, 1, 38), (37, 2, 39), (37, 4, 40), (37, 5, 41), (37, 7, 42), (37, 11, 43), (37, 12, 44), (37, 17, 45), (37, 18, 46), (37, 19, 47), (37, 23, 48), (37, 26, 49), (37, 27, 50), (37, 29, 51), (37, 30, 52), (37, 31, 53), (37, 32, 54), (37, 33, 55), (37, 37, 56), (37, 38, 57), (37, 43, 58), (37, 44, 59), (37, 47, 60), (37, 48, 61), (37, 54, 62), (37, 55, 63), (37, 56, 64), (37, 57, 65), (37, 58, 66), (37, 59, 67)]
def tsM : List (Nat × Nat × Nat) := [(37, 12, 0), (38, 14, 8), (39, 14, 8), (40, 14, 5), (41, 14, 5), (42, 14, 160), (43, 14, 2880), (44, 14, 18), (45, 13, 45), (46, 14, 13), (47, 14, 170), (48, 15, 8), (49, 14, 170), (50, 14, 6), (51, 14, 8), (52, 14, 64), (53, 14, 8), (54, 14, 8), (55, 14, 8), (56, 14, 3), (57, 14, 9), (58, 14, 8), (59, 14, 8), (60, 14, 8), (61, 14, 64), (62, 14, 8), (63, 14, 64), (64, 14, 4), (65, 14, 4), (66, 14, 160), (67, 14, 40)]
def psA : List (Nat × Nat × Nat) := psG ++ psM
def tsA : List (Nat × Nat × Nat) := tsG ++ tsM
theorem psR_G : ∀ e ∈ psR, e ∈ psG := by decide
theorem tsR_G : ∀ e ∈ tsR, e ∈ tsG := by decide
end
