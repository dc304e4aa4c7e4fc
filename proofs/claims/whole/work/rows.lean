section
-- ===== PART A: goes FIRST, ahead of the names: the tables' words, and 'selects' of the private methods out of them =====
/-- a private method of a class that the tables say can be made, by its rows of tables_1 -/
def lw_okq (q : MethodName × Nat) : Prop := (q.1.cls ≠ "java/lang/invoke/MethodHandle" ∧ q.1.cls ≠ "java/lang/invoke/VarHandle") ∧ Cond.instantiable q.1.cls q.2 ∈ tables_1 ∧ Cond.privateMethod q.1 ∈ tables_1 ∧ Cond.instanceMethod q.1 ∈ tables_1
theorem lw_p0 : lw_okq (⟨"GreaterPlates$Reader", "advance", "()V"⟩, 9) := ⟨⟨by decide +kernel, by decide +kernel⟩, List.mem_of_getElem? (i := 35) (by decide +kernel), List.mem_of_getElem? (i := 199) (by decide +kernel), List.mem_of_getElem? (i := 200) (by decide +kernel)⟩
theorem lw_p1 : lw_okq (⟨"GreaterPlates$Reader", "scanWord", "()V"⟩, 9) := ⟨⟨by decide +kernel, by decide +kernel⟩, List.mem_of_getElem? (i := 35) (by decide +kernel), List.mem_of_getElem? (i := 206) (by decide +kernel), List.mem_of_getElem? (i := 207) (by decide +kernel)⟩
theorem lw_p2 : lw_okq (⟨"GreaterPlates$Reader", "spells", "(Ljava/lang/String;)Z"⟩, 9) := ⟨⟨by decide +kernel, by decide +kernel⟩, List.mem_of_getElem? (i := 35) (by decide +kernel), List.mem_of_getElem? (i := 211) (by decide +kernel), List.mem_of_getElem? (i := 212) (by decide +kernel)⟩
theorem lw_p3 : lw_okq (⟨"GreaterPlates$Reader", "scanNumber", "()V"⟩, 9) := ⟨⟨by decide +kernel, by decide +kernel⟩, List.mem_of_getElem? (i := 35) (by decide +kernel), List.mem_of_getElem? (i := 231) (by decide +kernel), List.mem_of_getElem? (i := 232) (by decide +kernel)⟩
theorem lw_p4 : lw_okq (⟨"GreaterPlates$Reader", "readPart", "(I)V"⟩, 9) := ⟨⟨by decide +kernel, by decide +kernel⟩, List.mem_of_getElem? (i := 35) (by decide +kernel), List.mem_of_getElem? (i := 238) (by decide +kernel), List.mem_of_getElem? (i := 239) (by decide +kernel)⟩
theorem lw_p5 : lw_okq (⟨"GreaterPlates$Reader", "pass", "(I)V"⟩, 9) := ⟨⟨by decide +kernel, by decide +kernel⟩, List.mem_of_getElem? (i := 35) (by decide +kernel), List.mem_of_getElem? (i := 242) (by decide +kernel), List.mem_of_getElem? (i := 243) (by decide +kernel)⟩
theorem lw_p6 : lw_okq (⟨"GreaterPlates$Reader", "fail", "()V"⟩, 9) := ⟨⟨by decide +kernel, by decide +kernel⟩, List.mem_of_getElem? (i := 35) (by decide +kernel), List.mem_of_getElem? (i := 246) (by decide +kernel), List.mem_of_getElem? (i := 247) (by decide +kernel)⟩
theorem lw_p7 : lw_okq (⟨"GreaterPlates$Reader", "readE", "(I)V"⟩, 9) := ⟨⟨by decide +kernel, by decide +kernel⟩, List.mem_of_getElem? (i := 35) (by decide +kernel), List.mem_of_getElem? (i := 250) (by decide +kernel), List.mem_of_getElem? (i := 251) (by decide +kernel)⟩
theorem lw_p8 : lw_okq (⟨"GreaterPlates$Reader", "readAnd", "(I)V"⟩, 9) := ⟨⟨by decide +kernel, by decide +kernel⟩, List.mem_of_getElem? (i := 35) (by decide +kernel), List.mem_of_getElem? (i := 254) (by decide +kernel), List.mem_of_getElem? (i := 255) (by decide +kernel)⟩
theorem lw_p9 : lw_okq (⟨"GreaterPlates$Reader", "readNot", "(I)V"⟩, 9) := ⟨⟨by decide +kernel, by decide +kernel⟩, List.mem_of_getElem? (i := 35) (by decide +kernel), List.mem_of_getElem? (i := 258) (by decide +kernel), List.mem_of_getElem? (i := 259) (by decide +kernel)⟩
theorem lw_p10 : lw_okq (⟨"GreaterPlates$Reader", "opens", "(I)Z"⟩, 9) := ⟨⟨by decide +kernel, by decide +kernel⟩, List.mem_of_getElem? (i := 35) (by decide +kernel), List.mem_of_getElem? (i := 262) (by decide +kernel), List.mem_of_getElem? (i := 263) (by decide +kernel)⟩
theorem lw_p11 : lw_okq (⟨"GreaterPlates$Reader", "add", "(I)V"⟩, 9) := ⟨⟨by decide +kernel, by decide +kernel⟩, List.mem_of_getElem? (i := 35) (by decide +kernel), List.mem_of_getElem? (i := 266) (by decide +kernel), List.mem_of_getElem? (i := 267) (by decide +kernel)⟩
theorem lw_p12 : lw_okq (⟨"GreaterPlates$Reader", "readSum", "(I)V"⟩, 9) := ⟨⟨by decide +kernel, by decide +kernel⟩, List.mem_of_getElem? (i := 35) (by decide +kernel), List.mem_of_getElem? (i := 270) (by decide +kernel), List.mem_of_getElem? (i := 271) (by decide +kernel)⟩
theorem lw_p13 : lw_okq (⟨"GreaterPlates$Reader", "readTerm", "(I)V"⟩, 9) := ⟨⟨by decide +kernel, by decide +kernel⟩, List.mem_of_getElem? (i := 35) (by decide +kernel), List.mem_of_getElem? (i := 274) (by decide +kernel), List.mem_of_getElem? (i := 275) (by decide +kernel)⟩
theorem lw_p14 : lw_okq (⟨"GreaterPlates$Reader", "readOne", "(I)V"⟩, 9) := ⟨⟨by decide +kernel, by decide +kernel⟩, List.mem_of_getElem? (i := 35) (by decide +kernel), List.mem_of_getElem? (i := 278) (by decide +kernel), List.mem_of_getElem? (i := 279) (by decide +kernel)⟩
theorem lw_p15 : lw_okq (⟨"GreaterPlates", "setHighest", "(I)I"⟩, 19) := ⟨⟨by decide +kernel, by decide +kernel⟩, List.mem_of_getElem? (i := 23) (by decide +kernel), List.mem_of_getElem? (i := 460) (by decide +kernel), List.mem_of_getElem? (i := 461) (by decide +kernel)⟩
def lw_privs_1 : List (MethodName × Nat) := [(⟨"GreaterPlates$Reader", "advance", "()V"⟩, 9), (⟨"GreaterPlates$Reader", "scanWord", "()V"⟩, 9), (⟨"GreaterPlates$Reader", "spells", "(Ljava/lang/String;)Z"⟩, 9), (⟨"GreaterPlates$Reader", "scanNumber", "()V"⟩, 9), (⟨"GreaterPlates$Reader", "readPart", "(I)V"⟩, 9), (⟨"GreaterPlates$Reader", "pass", "(I)V"⟩, 9), (⟨"GreaterPlates$Reader", "fail", "()V"⟩, 9), (⟨"GreaterPlates$Reader", "readE", "(I)V"⟩, 9), (⟨"GreaterPlates$Reader", "readAnd", "(I)V"⟩, 9), (⟨"GreaterPlates$Reader", "readNot", "(I)V"⟩, 9), (⟨"GreaterPlates$Reader", "opens", "(I)Z"⟩, 9), (⟨"GreaterPlates$Reader", "add", "(I)V"⟩, 9), (⟨"GreaterPlates$Reader", "readSum", "(I)V"⟩, 9), (⟨"GreaterPlates$Reader", "readTerm", "(I)V"⟩, 9), (⟨"GreaterPlates$Reader", "readOne", "(I)V"⟩, 9), (⟨"GreaterPlates", "setHighest", "(I)I"⟩, 19)]
theorem lw_r1 : ∀ q ∈ lw_privs_1, lw_okq q := List.forall_mem_cons.mpr ⟨lw_p0, List.forall_mem_cons.mpr ⟨lw_p1, List.forall_mem_cons.mpr ⟨lw_p2, List.forall_mem_cons.mpr ⟨lw_p3, List.forall_mem_cons.mpr ⟨lw_p4, List.forall_mem_cons.mpr ⟨lw_p5, List.forall_mem_cons.mpr ⟨lw_p6, List.forall_mem_cons.mpr ⟨lw_p7, List.forall_mem_cons.mpr ⟨lw_p8, List.forall_mem_cons.mpr ⟨lw_p9, List.forall_mem_cons.mpr ⟨lw_p10, List.forall_mem_cons.mpr ⟨lw_p11, List.forall_mem_cons.mpr ⟨lw_p12, List.forall_mem_cons.mpr ⟨lw_p13, List.forall_mem_cons.mpr ⟨lw_p14, List.forall_mem_cons.mpr ⟨lw_p15, fun _ h => absurd h List.not_mem_nil⟩⟩⟩⟩⟩⟩⟩⟩⟩⟩⟩⟩⟩⟩⟩⟩
theorem lw_p16 : lw_okq (⟨"GreaterPlates", "isPlate", "(I)Z"⟩, 19) := ⟨⟨by decide +kernel, by decide +kernel⟩, List.mem_of_getElem? (i := 23) (by decide +kernel), List.mem_of_getElem? (i := 464) (by decide +kernel), List.mem_of_getElem? (i := 465) (by decide +kernel)⟩
theorem lw_p17 : lw_okq (⟨"GreaterPlates", "layerAt", "(I)LGreaterPlates$Layer;"⟩, 19) := ⟨⟨by decide +kernel, by decide +kernel⟩, List.mem_of_getElem? (i := 23) (by decide +kernel), List.mem_of_getElem? (i := 472) (by decide +kernel), List.mem_of_getElem? (i := 473) (by decide +kernel)⟩
theorem lw_p18 : lw_okq (⟨"GreaterPlates", "worth", "(IIIII)I"⟩, 19) := ⟨⟨by decide +kernel, by decide +kernel⟩, List.mem_of_getElem? (i := 23) (by decide +kernel), List.mem_of_getElem? (i := 476) (by decide +kernel), List.mem_of_getElem? (i := 477) (by decide +kernel)⟩
theorem lw_p19 : lw_okq (⟨"GreaterPlates", "orderOfNow", "()V"⟩, 19) := ⟨⟨by decide +kernel, by decide +kernel⟩, List.mem_of_getElem? (i := 23) (by decide +kernel), List.mem_of_getElem? (i := 515) (by decide +kernel), List.mem_of_getElem? (i := 516) (by decide +kernel)⟩
theorem lw_p20 : lw_okq (⟨"GreaterPlates", "layInOrder", "(LGreaterPlates$Layer;I)I"⟩, 19) := ⟨⟨by decide +kernel, by decide +kernel⟩, List.mem_of_getElem? (i := 23) (by decide +kernel), List.mem_of_getElem? (i := 519) (by decide +kernel), List.mem_of_getElem? (i := 520) (by decide +kernel)⟩
theorem lw_p21 : lw_okq (⟨"GreaterPlates", "chosenBy", "(LGreaterPlates$Layer;LGreaterPlates$Heaps;I)I"⟩, 19) := ⟨⟨by decide +kernel, by decide +kernel⟩, List.mem_of_getElem? (i := 23) (by decide +kernel), List.mem_of_getElem? (i := 527) (by decide +kernel), List.mem_of_getElem? (i := 528) (by decide +kernel)⟩
theorem lw_p22 : lw_okq (⟨"GreaterPlates", "mayLie", "(LGreaterPlates$Heaps;II)Z"⟩, 19) := ⟨⟨by decide +kernel, by decide +kernel⟩, List.mem_of_getElem? (i := 23) (by decide +kernel), List.mem_of_getElem? (i := 531) (by decide +kernel), List.mem_of_getElem? (i := 532) (by decide +kernel)⟩
theorem lw_p23 : lw_okq (⟨"GreaterPlates", "rankOf", "(LGreaterPlates$Layer;LGreaterPlates$Heaps;II)I"⟩, 19) := ⟨⟨by decide +kernel, by decide +kernel⟩, List.mem_of_getElem? (i := 23) (by decide +kernel), List.mem_of_getElem? (i := 548) (by decide +kernel), List.mem_of_getElem? (i := 549) (by decide +kernel)⟩
theorem lw_p24 : lw_okq (⟨"GreaterPlates", "priceOf", "(III)I"⟩, 19) := ⟨⟨by decide +kernel, by decide +kernel⟩, List.mem_of_getElem? (i := 23) (by decide +kernel), List.mem_of_getElem? (i := 595) (by decide +kernel), List.mem_of_getElem? (i := 596) (by decide +kernel)⟩
theorem lw_p25 : lw_okq (⟨"GreaterPlates", "leastOf", "(III)I"⟩, 19) := ⟨⟨by decide +kernel, by decide +kernel⟩, List.mem_of_getElem? (i := 23) (by decide +kernel), List.mem_of_getElem? (i := 613) (by decide +kernel), List.mem_of_getElem? (i := 614) (by decide +kernel)⟩
theorem lw_p26 : lw_okq (⟨"GreaterPlates", "seekLess", "(IIII)V"⟩, 19) := ⟨⟨by decide +kernel, by decide +kernel⟩, List.mem_of_getElem? (i := 23) (by decide +kernel), List.mem_of_getElem? (i := 617) (by decide +kernel), List.mem_of_getElem? (i := 618) (by decide +kernel)⟩
theorem lw_p27 : lw_okq (⟨"GreaterPlates", "fillCover", "()V"⟩, 19) := ⟨⟨by decide +kernel, by decide +kernel⟩, List.mem_of_getElem? (i := 23) (by decide +kernel), List.mem_of_getElem? (i := 633) (by decide +kernel), List.mem_of_getElem? (i := 634) (by decide +kernel)⟩
theorem lw_p28 : lw_okq (⟨"GreaterPlates", "isRow", "(I)Z"⟩, 19) := ⟨⟨by decide +kernel, by decide +kernel⟩, List.mem_of_getElem? (i := 23) (by decide +kernel), List.mem_of_getElem? (i := 637) (by decide +kernel), List.mem_of_getElem? (i := 638) (by decide +kernel)⟩
theorem lw_p29 : lw_okq (⟨"GreaterPlates", "rowsThatMake", "(I)I"⟩, 19) := ⟨⟨by decide +kernel, by decide +kernel⟩, List.mem_of_getElem? (i := 23) (by decide +kernel), List.mem_of_getElem? (i := 644) (by decide +kernel), List.mem_of_getElem? (i := 645) (by decide +kernel)⟩
theorem lw_p30 : lw_okq (⟨"GreaterPlates", "goThroughOrders", "(LGreaterPlates$Layer;)V"⟩, 19) := ⟨⟨by decide +kernel, by decide +kernel⟩, List.mem_of_getElem? (i := 23) (by decide +kernel), List.mem_of_getElem? (i := 662) (by decide +kernel), List.mem_of_getElem? (i := 663) (by decide +kernel)⟩
theorem lw_p31 : lw_okq (⟨"GreaterPlates", "goOn", "(LGreaterPlates$Layer;II)V"⟩, 19) := ⟨⟨by decide +kernel, by decide +kernel⟩, List.mem_of_getElem? (i := 23) (by decide +kernel), List.mem_of_getElem? (i := 670) (by decide +kernel), List.mem_of_getElem? (i := 671) (by decide +kernel)⟩
def lw_privs_2 : List (MethodName × Nat) := [(⟨"GreaterPlates", "isPlate", "(I)Z"⟩, 19), (⟨"GreaterPlates", "layerAt", "(I)LGreaterPlates$Layer;"⟩, 19), (⟨"GreaterPlates", "worth", "(IIIII)I"⟩, 19), (⟨"GreaterPlates", "orderOfNow", "()V"⟩, 19), (⟨"GreaterPlates", "layInOrder", "(LGreaterPlates$Layer;I)I"⟩, 19), (⟨"GreaterPlates", "chosenBy", "(LGreaterPlates$Layer;LGreaterPlates$Heaps;I)I"⟩, 19), (⟨"GreaterPlates", "mayLie", "(LGreaterPlates$Heaps;II)Z"⟩, 19), (⟨"GreaterPlates", "rankOf", "(LGreaterPlates$Layer;LGreaterPlates$Heaps;II)I"⟩, 19), (⟨"GreaterPlates", "priceOf", "(III)I"⟩, 19), (⟨"GreaterPlates", "leastOf", "(III)I"⟩, 19), (⟨"GreaterPlates", "seekLess", "(IIII)V"⟩, 19), (⟨"GreaterPlates", "fillCover", "()V"⟩, 19), (⟨"GreaterPlates", "isRow", "(I)Z"⟩, 19), (⟨"GreaterPlates", "rowsThatMake", "(I)I"⟩, 19), (⟨"GreaterPlates", "goThroughOrders", "(LGreaterPlates$Layer;)V"⟩, 19), (⟨"GreaterPlates", "goOn", "(LGreaterPlates$Layer;II)V"⟩, 19)]
theorem lw_r2 : ∀ q ∈ lw_privs_2, lw_okq q := List.forall_mem_cons.mpr ⟨lw_p16, List.forall_mem_cons.mpr ⟨lw_p17, List.forall_mem_cons.mpr ⟨lw_p18, List.forall_mem_cons.mpr ⟨lw_p19, List.forall_mem_cons.mpr ⟨lw_p20, List.forall_mem_cons.mpr ⟨lw_p21, List.forall_mem_cons.mpr ⟨lw_p22, List.forall_mem_cons.mpr ⟨lw_p23, List.forall_mem_cons.mpr ⟨lw_p24, List.forall_mem_cons.mpr ⟨lw_p25, List.forall_mem_cons.mpr ⟨lw_p26, List.forall_mem_cons.mpr ⟨lw_p27, List.forall_mem_cons.mpr ⟨lw_p28, List.forall_mem_cons.mpr ⟨lw_p29, List.forall_mem_cons.mpr ⟨lw_p30, List.forall_mem_cons.mpr ⟨lw_p31, fun _ h => absurd h List.not_mem_nil⟩⟩⟩⟩⟩⟩⟩⟩⟩⟩⟩⟩⟩⟩⟩⟩
theorem lw_p32 : lw_okq (⟨"GreaterPlates", "noteOrder", "()V"⟩, 19) := ⟨⟨by decide +kernel, by decide +kernel⟩, List.mem_of_getElem? (i := 23) (by decide +kernel), List.mem_of_getElem? (i := 674) (by decide +kernel), List.mem_of_getElem? (i := 675) (by decide +kernel)⟩
theorem lw_p33 : lw_okq (⟨"GreaterPlates", "firstOut", "(I)I"⟩, 19) := ⟨⟨by decide +kernel, by decide +kernel⟩, List.mem_of_getElem? (i := 23) (by decide +kernel), List.mem_of_getElem? (i := 701) (by decide +kernel), List.mem_of_getElem? (i := 702) (by decide +kernel)⟩
theorem lw_p34 : lw_okq (⟨"GreaterPlates", "firstSwap", "(I)I"⟩, 19) := ⟨⟨by decide +kernel, by decide +kernel⟩, List.mem_of_getElem? (i := 23) (by decide +kernel), List.mem_of_getElem? (i := 705) (by decide +kernel), List.mem_of_getElem? (i := 706) (by decide +kernel)⟩
theorem lw_p35 : lw_okq (⟨"GreaterPlates", "changeAbout", "(II)V"⟩, 19) := ⟨⟨by decide +kernel, by decide +kernel⟩, List.mem_of_getElem? (i := 23) (by decide +kernel), List.mem_of_getElem? (i := 709) (by decide +kernel), List.mem_of_getElem? (i := 710) (by decide +kernel)⟩
theorem lw_p36 : lw_okq (⟨"GreaterPlates", "riseBehind", "(II)I"⟩, 19) := ⟨⟨by decide +kernel, by decide +kernel⟩, List.mem_of_getElem? (i := 23) (by decide +kernel), List.mem_of_getElem? (i := 717) (by decide +kernel), List.mem_of_getElem? (i := 718) (by decide +kernel)⟩
theorem lw_p37 : lw_okq (⟨"GreaterPlates", "sheetAt", "(I)LGreaterPlates$Sheet;"⟩, 19) := ⟨⟨by decide +kernel, by decide +kernel⟩, List.mem_of_getElem? (i := 23) (by decide +kernel), List.mem_of_getElem? (i := 725) (by decide +kernel), List.mem_of_getElem? (i := 726) (by decide +kernel)⟩
theorem lw_p38 : lw_okq (⟨"GreaterPlates", "laysJustSo", "(LGreaterPlates$Layer;LGreaterPlates$Sheet;)Z"⟩, 19) := ⟨⟨by decide +kernel, by decide +kernel⟩, List.mem_of_getElem? (i := 23) (by decide +kernel), List.mem_of_getElem? (i := 737) (by decide +kernel), List.mem_of_getElem? (i := 738) (by decide +kernel)⟩
theorem lw_p39 : lw_okq (⟨"GreaterPlatesModel", "isPlate", "(I)Z"⟩, 60) := ⟨⟨by decide +kernel, by decide +kernel⟩, List.mem_of_getElem? (i := 845) (by decide +kernel), List.mem_of_getElem? (i := 843) (by decide +kernel), List.mem_of_getElem? (i := 844) (by decide +kernel)⟩
theorem lw_p40 : lw_okq (⟨"GreaterPlatesModel", "isLayer", "(I)Z"⟩, 60) := ⟨⟨by decide +kernel, by decide +kernel⟩, List.mem_of_getElem? (i := 845) (by decide +kernel), List.mem_of_getElem? (i := 852) (by decide +kernel), List.mem_of_getElem? (i := 853) (by decide +kernel)⟩
theorem lw_p41 : lw_okq (⟨"GreaterPlatesModel", "name", "(IIIII)V"⟩, 60) := ⟨⟨by decide +kernel, by decide +kernel⟩, List.mem_of_getElem? (i := 845) (by decide +kernel), List.mem_of_getElem? (i := 856) (by decide +kernel), List.mem_of_getElem? (i := 857) (by decide +kernel)⟩
theorem lw_p42 : lw_okq (⟨"GreaterPlatesModel", "worthOf", "(I)I"⟩, 60) := ⟨⟨by decide +kernel, by decide +kernel⟩, List.mem_of_getElem? (i := 845) (by decide +kernel), List.mem_of_getElem? (i := 860) (by decide +kernel), List.mem_of_getElem? (i := 861) (by decide +kernel)⟩
theorem lw_p43 : lw_okq (⟨"GreaterPlatesModel", "readAll", "(I)I"⟩, 60) := ⟨⟨by decide +kernel, by decide +kernel⟩, List.mem_of_getElem? (i := 845) (by decide +kernel), List.mem_of_getElem? (i := 878) (by decide +kernel), List.mem_of_getElem? (i := 879) (by decide +kernel)⟩
theorem lw_p44 : lw_okq (⟨"GreaterPlatesModel", "next", "()V"⟩, 60) := ⟨⟨by decide +kernel, by decide +kernel⟩, List.mem_of_getElem? (i := 845) (by decide +kernel), List.mem_of_getElem? (i := 882) (by decide +kernel), List.mem_of_getElem? (i := 883) (by decide +kernel)⟩
theorem lw_p45 : lw_okq (⟨"GreaterPlatesModel", "isLetter", "(I)Z"⟩, 60) := ⟨⟨by decide +kernel, by decide +kernel⟩, List.mem_of_getElem? (i := 845) (by decide +kernel), List.mem_of_getElem? (i := 886) (by decide +kernel), List.mem_of_getElem? (i := 887) (by decide +kernel)⟩
theorem lw_p46 : lw_okq (⟨"GreaterPlatesModel", "readWord", "()V"⟩, 60) := ⟨⟨by decide +kernel, by decide +kernel⟩, List.mem_of_getElem? (i := 845) (by decide +kernel), List.mem_of_getElem? (i := 890) (by decide +kernel), List.mem_of_getElem? (i := 891) (by decide +kernel)⟩
theorem lw_p47 : lw_okq (⟨"GreaterPlatesModel", "isDigit", "(I)Z"⟩, 60) := ⟨⟨by decide +kernel, by decide +kernel⟩, List.mem_of_getElem? (i := 845) (by decide +kernel), List.mem_of_getElem? (i := 894) (by decide +kernel), List.mem_of_getElem? (i := 895) (by decide +kernel)⟩
def lw_privs_3 : List (MethodName × Nat) := [(⟨"GreaterPlates", "noteOrder", "()V"⟩, 19), (⟨"GreaterPlates", "firstOut", "(I)I"⟩, 19), (⟨"GreaterPlates", "firstSwap", "(I)I"⟩, 19), (⟨"GreaterPlates", "changeAbout", "(II)V"⟩, 19), (⟨"GreaterPlates", "riseBehind", "(II)I"⟩, 19), (⟨"GreaterPlates", "sheetAt", "(I)LGreaterPlates$Sheet;"⟩, 19), (⟨"GreaterPlates", "laysJustSo", "(LGreaterPlates$Layer;LGreaterPlates$Sheet;)Z"⟩, 19), (⟨"GreaterPlatesModel", "isPlate", "(I)Z"⟩, 60), (⟨"GreaterPlatesModel", "isLayer", "(I)Z"⟩, 60), (⟨"GreaterPlatesModel", "name", "(IIIII)V"⟩, 60), (⟨"GreaterPlatesModel", "worthOf", "(I)I"⟩, 60), (⟨"GreaterPlatesModel", "readAll", "(I)I"⟩, 60), (⟨"GreaterPlatesModel", "next", "()V"⟩, 60), (⟨"GreaterPlatesModel", "isLetter", "(I)Z"⟩, 60), (⟨"GreaterPlatesModel", "readWord", "()V"⟩, 60), (⟨"GreaterPlatesModel", "isDigit", "(I)Z"⟩, 60)]
theorem lw_r3 : ∀ q ∈ lw_privs_3, lw_okq q := List.forall_mem_cons.mpr ⟨lw_p32, List.forall_mem_cons.mpr ⟨lw_p33, List.forall_mem_cons.mpr ⟨lw_p34, List.forall_mem_cons.mpr ⟨lw_p35, List.forall_mem_cons.mpr ⟨lw_p36, List.forall_mem_cons.mpr ⟨lw_p37, List.forall_mem_cons.mpr ⟨lw_p38, List.forall_mem_cons.mpr ⟨lw_p39, List.forall_mem_cons.mpr ⟨lw_p40, List.forall_mem_cons.mpr ⟨lw_p41, List.forall_mem_cons.mpr ⟨lw_p42, List.forall_mem_cons.mpr ⟨lw_p43, List.forall_mem_cons.mpr ⟨lw_p44, List.forall_mem_cons.mpr ⟨lw_p45, List.forall_mem_cons.mpr ⟨lw_p46, List.forall_mem_cons.mpr ⟨lw_p47, fun _ h => absurd h List.not_mem_nil⟩⟩⟩⟩⟩⟩⟩⟩⟩⟩⟩⟩⟩⟩⟩⟩
theorem lw_p48 : lw_okq (⟨"GreaterPlatesModel", "readNumber", "()V"⟩, 60) := ⟨⟨by decide +kernel, by decide +kernel⟩, List.mem_of_getElem? (i := 845) (by decide +kernel), List.mem_of_getElem? (i := 898) (by decide +kernel), List.mem_of_getElem? (i := 899) (by decide +kernel)⟩
theorem lw_p49 : lw_okq (⟨"GreaterPlatesModel", "isKey", "(I)Z"⟩, 60) := ⟨⟨by decide +kernel, by decide +kernel⟩, List.mem_of_getElem? (i := 845) (by decide +kernel), List.mem_of_getElem? (i := 902) (by decide +kernel), List.mem_of_getElem? (i := 903) (by decide +kernel)⟩
theorem lw_p50 : lw_okq (⟨"GreaterPlatesModel", "readE", "(I)Z"⟩, 60) := ⟨⟨by decide +kernel, by decide +kernel⟩, List.mem_of_getElem? (i := 845) (by decide +kernel), List.mem_of_getElem? (i := 906) (by decide +kernel), List.mem_of_getElem? (i := 907) (by decide +kernel)⟩
theorem lw_p51 : lw_okq (⟨"GreaterPlatesModel", "emit", "(I)V"⟩, 60) := ⟨⟨by decide +kernel, by decide +kernel⟩, List.mem_of_getElem? (i := 845) (by decide +kernel), List.mem_of_getElem? (i := 910) (by decide +kernel), List.mem_of_getElem? (i := 911) (by decide +kernel)⟩
theorem lw_p52 : lw_okq (⟨"GreaterPlatesModel", "doAll", "(I)V"⟩, 60) := ⟨⟨by decide +kernel, by decide +kernel⟩, List.mem_of_getElem? (i := 845) (by decide +kernel), List.mem_of_getElem? (i := 914) (by decide +kernel), List.mem_of_getElem? (i := 915) (by decide +kernel)⟩
theorem lw_p53 : lw_okq (⟨"GreaterPlatesModel", "isSign", "(I)Z"⟩, 60) := ⟨⟨by decide +kernel, by decide +kernel⟩, List.mem_of_getElem? (i := 845) (by decide +kernel), List.mem_of_getElem? (i := 921) (by decide +kernel), List.mem_of_getElem? (i := 922) (by decide +kernel)⟩
theorem lw_p54 : lw_okq (⟨"GreaterPlatesModel", "ahead", "(Z)Z"⟩, 60) := ⟨⟨by decide +kernel, by decide +kernel⟩, List.mem_of_getElem? (i := 845) (by decide +kernel), List.mem_of_getElem? (i := 925) (by decide +kernel), List.mem_of_getElem? (i := 926) (by decide +kernel)⟩
theorem lw_p55 : lw_okq (⟨"GreaterPlatesModel", "await", "(I)V"⟩, 60) := ⟨⟨by decide +kernel, by decide +kernel⟩, List.mem_of_getElem? (i := 845) (by decide +kernel), List.mem_of_getElem? (i := 929) (by decide +kernel), List.mem_of_getElem? (i := 930) (by decide +kernel)⟩
theorem lw_p56 : lw_okq (⟨"GreaterPlatesModel", "between", "()Z"⟩, 60) := ⟨⟨by decide +kernel, by decide +kernel⟩, List.mem_of_getElem? (i := 845) (by decide +kernel), List.mem_of_getElem? (i := 933) (by decide +kernel), List.mem_of_getElem? (i := 934) (by decide +kernel)⟩
theorem lw_p57 : lw_okq (⟨"GreaterPlatesModel", "closes", "()Z"⟩, 60) := ⟨⟨by decide +kernel, by decide +kernel⟩, List.mem_of_getElem? (i := 845) (by decide +kernel), List.mem_of_getElem? (i := 937) (by decide +kernel), List.mem_of_getElem? (i := 938) (by decide +kernel)⟩
theorem lw_p58 : lw_okq (⟨"GreaterPlatesModel", "layAll", "(I)V"⟩, 60) := ⟨⟨by decide +kernel, by decide +kernel⟩, List.mem_of_getElem? (i := 845) (by decide +kernel), List.mem_of_getElem? (i := 1137) (by decide +kernel), List.mem_of_getElem? (i := 1138) (by decide +kernel)⟩
theorem lw_p59 : lw_okq (⟨"GreaterPlatesModel", "choice", "(II)I"⟩, 60) := ⟨⟨by decide +kernel, by decide +kernel⟩, List.mem_of_getElem? (i := 845) (by decide +kernel), List.mem_of_getElem? (i := 1141) (by decide +kernel), List.mem_of_getElem? (i := 1142) (by decide +kernel)⟩
theorem lw_p60 : lw_okq (⟨"GreaterPlatesModel", "mayLie", "(II)Z"⟩, 60) := ⟨⟨by decide +kernel, by decide +kernel⟩, List.mem_of_getElem? (i := 845) (by decide +kernel), List.mem_of_getElem? (i := 1145) (by decide +kernel), List.mem_of_getElem? (i := 1146) (by decide +kernel)⟩
theorem lw_p61 : lw_okq (⟨"GreaterPlatesModel", "nameOn", "(II)V"⟩, 60) := ⟨⟨by decide +kernel, by decide +kernel⟩, List.mem_of_getElem? (i := 845) (by decide +kernel), List.mem_of_getElem? (i := 1149) (by decide +kernel), List.mem_of_getElem? (i := 1150) (by decide +kernel)⟩
theorem lw_p62 : lw_okq (⟨"GreaterPlatesModel", "rank", "(III)I"⟩, 60) := ⟨⟨by decide +kernel, by decide +kernel⟩, List.mem_of_getElem? (i := 845) (by decide +kernel), List.mem_of_getElem? (i := 1153) (by decide +kernel), List.mem_of_getElem? (i := 1154) (by decide +kernel)⟩
theorem lw_p63 : lw_okq (⟨"GreaterPlatesModel", "likes", "(II)Z"⟩, 60) := ⟨⟨by decide +kernel, by decide +kernel⟩, List.mem_of_getElem? (i := 845) (by decide +kernel), List.mem_of_getElem? (i := 1158) (by decide +kernel), List.mem_of_getElem? (i := 1159) (by decide +kernel)⟩
def lw_privs_4 : List (MethodName × Nat) := [(⟨"GreaterPlatesModel", "readNumber", "()V"⟩, 60), (⟨"GreaterPlatesModel", "isKey", "(I)Z"⟩, 60), (⟨"GreaterPlatesModel", "readE", "(I)Z"⟩, 60), (⟨"GreaterPlatesModel", "emit", "(I)V"⟩, 60), (⟨"GreaterPlatesModel", "doAll", "(I)V"⟩, 60), (⟨"GreaterPlatesModel", "isSign", "(I)Z"⟩, 60), (⟨"GreaterPlatesModel", "ahead", "(Z)Z"⟩, 60), (⟨"GreaterPlatesModel", "await", "(I)V"⟩, 60), (⟨"GreaterPlatesModel", "between", "()Z"⟩, 60), (⟨"GreaterPlatesModel", "closes", "()Z"⟩, 60), (⟨"GreaterPlatesModel", "layAll", "(I)V"⟩, 60), (⟨"GreaterPlatesModel", "choice", "(II)I"⟩, 60), (⟨"GreaterPlatesModel", "mayLie", "(II)Z"⟩, 60), (⟨"GreaterPlatesModel", "nameOn", "(II)V"⟩, 60), (⟨"GreaterPlatesModel", "rank", "(III)I"⟩, 60), (⟨"GreaterPlatesModel", "likes", "(II)Z"⟩, 60)]
theorem lw_r4 : ∀ q ∈ lw_privs_4, lw_okq q := List.forall_mem_cons.mpr ⟨lw_p48, List.forall_mem_cons.mpr ⟨lw_p49, List.forall_mem_cons.mpr ⟨lw_p50, List.forall_mem_cons.mpr ⟨lw_p51, List.forall_mem_cons.mpr ⟨lw_p52, List.forall_mem_cons.mpr ⟨lw_p53, List.forall_mem_cons.mpr ⟨lw_p54, List.forall_mem_cons.mpr ⟨lw_p55, List.forall_mem_cons.mpr ⟨lw_p56, List.forall_mem_cons.mpr ⟨lw_p57, List.forall_mem_cons.mpr ⟨lw_p58, List.forall_mem_cons.mpr ⟨lw_p59, List.forall_mem_cons.mpr ⟨lw_p60, List.forall_mem_cons.mpr ⟨lw_p61, List.forall_mem_cons.mpr ⟨lw_p62, List.forall_mem_cons.mpr ⟨lw_p63, fun _ h => absurd h List.not_mem_nil⟩⟩⟩⟩⟩⟩⟩⟩⟩⟩⟩⟩⟩⟩⟩⟩
theorem lw_p64 : lw_okq (⟨"GreaterPlatesModel", "put", "(II)V"⟩, 60) := ⟨⟨by decide +kernel, by decide +kernel⟩, List.mem_of_getElem? (i := 845) (by decide +kernel), List.mem_of_getElem? (i := 1162) (by decide +kernel), List.mem_of_getElem? (i := 1163) (by decide +kernel)⟩
theorem lw_p65 : lw_okq (⟨"GreaterPlatesModel", "goThrough", "(I)V"⟩, 60) := ⟨⟨by decide +kernel, by decide +kernel⟩, List.mem_of_getElem? (i := 845) (by decide +kernel), List.mem_of_getElem? (i := 1174) (by decide +kernel), List.mem_of_getElem? (i := 1175) (by decide +kernel)⟩
theorem lw_p66 : lw_okq (⟨"GreaterPlatesModel", "ways", "(III)V"⟩, 60) := ⟨⟨by decide +kernel, by decide +kernel⟩, List.mem_of_getElem? (i := 845) (by decide +kernel), List.mem_of_getElem? (i := 1178) (by decide +kernel), List.mem_of_getElem? (i := 1179) (by decide +kernel)⟩
theorem lw_p67 : lw_okq (⟨"GreaterPlatesModel", "putBack", "(I)V"⟩, 60) := ⟨⟨by decide +kernel, by decide +kernel⟩, List.mem_of_getElem? (i := 845) (by decide +kernel), List.mem_of_getElem? (i := 1182) (by decide +kernel), List.mem_of_getElem? (i := 1183) (by decide +kernel)⟩
theorem lw_p68 : lw_okq (⟨"GreaterPlatesModel", "asTheyCame", "()V"⟩, 60) := ⟨⟨by decide +kernel, by decide +kernel⟩, List.mem_of_getElem? (i := 845) (by decide +kernel), List.mem_of_getElem? (i := 1190) (by decide +kernel), List.mem_of_getElem? (i := 1191) (by decide +kernel)⟩
theorem lw_p69 : lw_okq (⟨"GreaterPlatesModel", "isRow", "(I)Z"⟩, 60) := ⟨⟨by decide +kernel, by decide +kernel⟩, List.mem_of_getElem? (i := 845) (by decide +kernel), List.mem_of_getElem? (i := 1201) (by decide +kernel), List.mem_of_getElem? (i := 1202) (by decide +kernel)⟩
theorem lw_p70 : lw_okq (⟨"GreaterPlatesModel", "couldLie", "(II)Z"⟩, 60) := ⟨⟨by decide +kernel, by decide +kernel⟩, List.mem_of_getElem? (i := 845) (by decide +kernel), List.mem_of_getElem? (i := 1205) (by decide +kernel), List.mem_of_getElem? (i := 1206) (by decide +kernel)⟩
theorem lw_p71 : lw_okq (⟨"GreaterPlatesModel", "mostFrom", "(II)I"⟩, 60) := ⟨⟨by decide +kernel, by decide +kernel⟩, List.mem_of_getElem? (i := 845) (by decide +kernel), List.mem_of_getElem? (i := 1213) (by decide +kernel), List.mem_of_getElem? (i := 1214) (by decide +kernel)⟩
theorem lw_p72 : lw_okq (⟨"GreaterPlatesModel", "allOrders", "(I)V"⟩, 60) := ⟨⟨by decide +kernel, by decide +kernel⟩, List.mem_of_getElem? (i := 845) (by decide +kernel), List.mem_of_getElem? (i := 1226) (by decide +kernel), List.mem_of_getElem? (i := 1227) (by decide +kernel)⟩
theorem lw_p73 : lw_okq (⟨"GreaterPlatesModel", "orders", "(III)V"⟩, 60) := ⟨⟨by decide +kernel, by decide +kernel⟩, List.mem_of_getElem? (i := 845) (by decide +kernel), List.mem_of_getElem? (i := 1230) (by decide +kernel), List.mem_of_getElem? (i := 1231) (by decide +kernel)⟩
def lw_privs_5 : List (MethodName × Nat) := [(⟨"GreaterPlatesModel", "put", "(II)V"⟩, 60), (⟨"GreaterPlatesModel", "goThrough", "(I)V"⟩, 60), (⟨"GreaterPlatesModel", "ways", "(III)V"⟩, 60), (⟨"GreaterPlatesModel", "putBack", "(I)V"⟩, 60), (⟨"GreaterPlatesModel", "asTheyCame", "()V"⟩, 60), (⟨"GreaterPlatesModel", "isRow", "(I)Z"⟩, 60), (⟨"GreaterPlatesModel", "couldLie", "(II)Z"⟩, 60), (⟨"GreaterPlatesModel", "mostFrom", "(II)I"⟩, 60), (⟨"GreaterPlatesModel", "allOrders", "(I)V"⟩, 60), (⟨"GreaterPlatesModel", "orders", "(III)V"⟩, 60)]
theorem lw_r5 : ∀ q ∈ lw_privs_5, lw_okq q := List.forall_mem_cons.mpr ⟨lw_p64, List.forall_mem_cons.mpr ⟨lw_p65, List.forall_mem_cons.mpr ⟨lw_p66, List.forall_mem_cons.mpr ⟨lw_p67, List.forall_mem_cons.mpr ⟨lw_p68, List.forall_mem_cons.mpr ⟨lw_p69, List.forall_mem_cons.mpr ⟨lw_p70, List.forall_mem_cons.mpr ⟨lw_p71, List.forall_mem_cons.mpr ⟨lw_p72, List.forall_mem_cons.mpr ⟨lw_p73, fun _ h => absurd h List.not_mem_nil⟩⟩⟩⟩⟩⟩⟩⟩⟩⟩
def lw_privs : List (MethodName × Nat) := lw_privs_1 ++ (lw_privs_2 ++ (lw_privs_3 ++ (lw_privs_4 ++ (lw_privs_5))))
def lw_tbl : List Cond := k2_sels lw_privs ++ tables_1
theorem lw_privs_ok : ∀ q ∈ lw_privs, lw_okq q := by
  show ∀ q ∈ lw_privs_1 ++ (lw_privs_2 ++ (lw_privs_3 ++ (lw_privs_4 ++ (lw_privs_5)))), lw_okq q
  exact List.forall_mem_append.mpr ⟨lw_r1, List.forall_mem_append.mpr ⟨lw_r2, List.forall_mem_append.mpr ⟨lw_r3, List.forall_mem_append.mpr ⟨lw_r4, lw_r5⟩⟩⟩⟩
-- ===== end of PART A; then your names; then what follows =====
end
section
/-! names: classes, fields, methods (by program out of the printed names) -/
def RX0 : String := "GreaterPlates$Free"
def TX0 : u_T := fun k => match k with
  | 0 => ("GreaterPlates$Layer", "kind", "I", true)
  | _ => ("GreaterPlates$Layer", "number", "I", true)
def tyX0 : Nat → FieldType := fun k => match k with
  | 0 => .int
  | _ => .int
theorem nmX0 : ∀ a, a < 2 → ∀ b, b < 2 → a ≠ b → (TX0 a).2.1 ≠ (TX0 b).2.1 := by decide +kernel
theorem tyX0_ok : ∀ k, k < 2 → parseFieldDescriptor (TX0 k).2.2.1 = some (tyX0 k) := by decide +kernel
abbrev cX0_init : ByteArray := prog_2_method_1_code
def yX0_init : MethodName := ⟨RX0, "<init>", "(II)V"⟩
abbrev cX0_rank : ByteArray := prog_2_method_2_code
def yX0_rank : MethodName := ⟨RX0, "rank", "(IIII)I"⟩
def RX1 : String := "GreaterPlates$Heaps"
def TX1 : u_T := fun k => match k with
  | 0 => ("GreaterPlates$Heaps", "rows", "[I", true)
  | 1 => ("GreaterPlates$Heaps", "heights", "[I", true)
  | 2 => ("GreaterPlates$Heaps", "many", "I", false)
  | 3 => ("GreaterPlates$Heaps", "whereIs", "[I", true)
  | _ => ("GreaterPlates$Heaps", "beneath", "[I", true)
def tyX1 : Nat → FieldType := fun k => match k with
  | 0 => .array .int
  | 1 => .array .int
  | 2 => .int
  | 3 => .array .int
  | _ => .array .int
theorem nmX1 : ∀ a, a < 5 → ∀ b, b < 5 → a ≠ b → (TX1 a).2.1 ≠ (TX1 b).2.1 := by decide +kernel
theorem tyX1_ok : ∀ k, k < 5 → parseFieldDescriptor (TX1 k).2.2.1 = some (tyX1 k) := by decide +kernel
abbrev cX1_init : ByteArray := prog_3_method_1_code
def yX1_init : MethodName := ⟨RX1, "<init>", "()V"⟩
abbrev cX1_clear : ByteArray := prog_3_method_2_code
def yX1_clear : MethodName := ⟨RX1, "clear", "()V"⟩
abbrev cX1_has : ByteArray := prog_3_method_3_code
def yX1_has : MethodName := ⟨RX1, "has", "(I)Z"⟩
abbrev cX1_heightOf : ByteArray := prog_3_method_4_code
def yX1_heightOf : MethodName := ⟨RX1, "heightOf", "(I)I"⟩
abbrev cX1_at : ByteArray := prog_3_method_5_code
def yX1_at : MethodName := ⟨RX1, "at", "(II)I"⟩
abbrev cX1_topOf : ByteArray := prog_3_method_6_code
def yX1_topOf : MethodName := ⟨RX1, "topOf", "(I)I"⟩
abbrev cX1_put : ByteArray := prog_3_method_7_code
def yX1_put : MethodName := ⟨RX1, "put", "(II)V"⟩
abbrev cX1_drop : ByteArray := prog_3_method_8_code
def yX1_drop : MethodName := ⟨RX1, "drop", "(I)I"⟩
abbrev cX1_undo : ByteArray := prog_3_method_9_code
def yX1_undo : MethodName := ⟨RX1, "undo", "(I)V"⟩
abbrev cX1_become : ByteArray := prog_3_method_10_code
def yX1_become : MethodName := ⟨RX1, "become", "(LGreaterPlates$Heaps;)V"⟩
def RX2 : String := "GreaterPlates$High"
def TX2 : u_T := fun k => match k with
  | 0 => ("GreaterPlates$Layer", "kind", "I", true)
  | _ => ("GreaterPlates$Layer", "number", "I", true)
def tyX2 : Nat → FieldType := fun k => match k with
  | 0 => .int
  | _ => .int
theorem nmX2 : ∀ a, a < 2 → ∀ b, b < 2 → a ≠ b → (TX2 a).2.1 ≠ (TX2 b).2.1 := by decide +kernel
theorem tyX2_ok : ∀ k, k < 2 → parseFieldDescriptor (TX2 k).2.2.1 = some (tyX2 k) := by decide +kernel
abbrev cX2_init : ByteArray := prog_4_method_1_code
def yX2_init : MethodName := ⟨RX2, "<init>", "(II)V"⟩
abbrev cX2_rank : ByteArray := prog_4_method_2_code
def yX2_rank : MethodName := ⟨RX2, "rank", "(IIII)I"⟩
def RX3 : String := "GreaterPlates$Layer"
def TX3 : u_T := fun k => match k with
  | 0 => ("GreaterPlates$Layer", "kind", "I", true)
  | _ => ("GreaterPlates$Layer", "number", "I", true)
def tyX3 : Nat → FieldType := fun k => match k with
  | 0 => .int
  | _ => .int
theorem nmX3 : ∀ a, a < 2 → ∀ b, b < 2 → a ≠ b → (TX3 a).2.1 ≠ (TX3 b).2.1 := by decide +kernel
theorem tyX3_ok : ∀ k, k < 2 → parseFieldDescriptor (TX3 k).2.2.1 = some (tyX3 k) := by decide +kernel
abbrev cX3_init : ByteArray := prog_5_method_1_code
def yX3_init : MethodName := ⟨RX3, "<init>", "(II)V"⟩
abbrev cX3_rank : ByteArray := prog_5_method_2_code
def yX3_rank : MethodName := ⟨RX3, "rank", "(IIII)I"⟩
abbrev cX3_likes : ByteArray := prog_5_method_3_code
def yX3_likes : MethodName := ⟨RX3, "likes", "(II)Z"⟩
def RX4 : String := "GreaterPlates$Near"
def TX4 : u_T := fun k => match k with
  | 0 => ("GreaterPlates$Layer", "kind", "I", true)
  | _ => ("GreaterPlates$Layer", "number", "I", true)
def tyX4 : Nat → FieldType := fun k => match k with
  | 0 => .int
  | _ => .int
theorem nmX4 : ∀ a, a < 2 → ∀ b, b < 2 → a ≠ b → (TX4 a).2.1 ≠ (TX4 b).2.1 := by decide +kernel
theorem tyX4_ok : ∀ k, k < 2 → parseFieldDescriptor (TX4 k).2.2.1 = some (tyX4 k) := by decide +kernel
abbrev cX4_init : ByteArray := prog_6_method_1_code
def yX4_init : MethodName := ⟨RX4, "<init>", "(II)V"⟩
abbrev cX4_rank : ByteArray := prog_6_method_2_code
def yX4_rank : MethodName := ⟨RX4, "rank", "(IIII)I"⟩
abbrev cX4_likes : ByteArray := prog_6_method_3_code
def yX4_likes : MethodName := ⟨RX4, "likes", "(II)Z"⟩
def RX5 : String := "GreaterPlates$Reader"
def TX5 : u_T := fun k => match k with
  | 0 => ("GreaterPlates$Reader", "tape", "[I", true)
  | 1 => ("GreaterPlates$Reader", "size", "I", false)
  | 2 => ("GreaterPlates$Reader", "fault", "I", false)
  | 3 => ("GreaterPlates$Reader", "kind", "I", false)
  | 4 => ("GreaterPlates$Reader", "place", "I", false)
  | 5 => ("GreaterPlates$Reader", "behind", "I", false)
  | 6 => ("GreaterPlates$Reader", "number", "I", false)
  | 7 => ("GreaterPlates$Reader", "steps", "[I", true)
  | _ => ("GreaterPlates$Reader", "stepCount", "I", false)
def tyX5 : Nat → FieldType := fun k => match k with
  | 0 => .array .int
  | 1 => .int
  | 2 => .int
  | 3 => .int
  | 4 => .int
  | 5 => .int
  | 6 => .int
  | 7 => .array .int
  | _ => .int
theorem nmX5 : ∀ a, a < 9 → ∀ b, b < 9 → a ≠ b → (TX5 a).2.1 ≠ (TX5 b).2.1 := by decide +kernel
theorem tyX5_ok : ∀ k, k < 9 → parseFieldDescriptor (TX5 k).2.2.1 = some (tyX5 k) := by decide +kernel
abbrev cX5_init : ByteArray := prog_7_method_1_code
def yX5_init : MethodName := ⟨RX5, "<init>", "()V"⟩
abbrev cX5_append : ByteArray := prog_7_method_2_code
def yX5_append : MethodName := ⟨RX5, "append", "(I)Z"⟩
abbrev cX5_read : ByteArray := prog_7_method_3_code
def yX5_read : MethodName := ⟨RX5, "read", "()LGreaterPlates$Rule;"⟩
abbrev cX5_readPart : ByteArray := prog_7_method_4_code
def yX5_readPart : MethodName := ⟨RX5, "readPart", "(I)V"⟩
abbrev cX5_readE : ByteArray := prog_7_method_5_code
def yX5_readE : MethodName := ⟨RX5, "readE", "(I)V"⟩
abbrev cX5_readAnd : ByteArray := prog_7_method_6_code
def yX5_readAnd : MethodName := ⟨RX5, "readAnd", "(I)V"⟩
abbrev cX5_readNot : ByteArray := prog_7_method_7_code
def yX5_readNot : MethodName := ⟨RX5, "readNot", "(I)V"⟩
abbrev cX5_readSum : ByteArray := prog_7_method_8_code
def yX5_readSum : MethodName := ⟨RX5, "readSum", "(I)V"⟩
abbrev cX5_readTerm : ByteArray := prog_7_method_9_code
def yX5_readTerm : MethodName := ⟨RX5, "readTerm", "(I)V"⟩
abbrev cX5_readOne : ByteArray := prog_7_method_10_code
def yX5_readOne : MethodName := ⟨RX5, "readOne", "(I)V"⟩
abbrev cX5_opens : ByteArray := prog_7_method_11_code
def yX5_opens : MethodName := ⟨RX5, "opens", "(I)Z"⟩
abbrev cX5_pass : ByteArray := prog_7_method_12_code
def yX5_pass : MethodName := ⟨RX5, "pass", "(I)V"⟩
abbrev cX5_fail : ByteArray := prog_7_method_13_code
def yX5_fail : MethodName := ⟨RX5, "fail", "()V"⟩
abbrev cX5_add : ByteArray := prog_7_method_14_code
def yX5_add : MethodName := ⟨RX5, "add", "(I)V"⟩
abbrev cX5_advance : ByteArray := prog_7_method_15_code
def yX5_advance : MethodName := ⟨RX5, "advance", "()V"⟩
abbrev cX5_scanNumber : ByteArray := prog_7_method_16_code
def yX5_scanNumber : MethodName := ⟨RX5, "scanNumber", "()V"⟩
abbrev cX5_scanWord : ByteArray := prog_7_method_17_code
def yX5_scanWord : MethodName := ⟨RX5, "scanWord", "()V"⟩
abbrev cX5_spells : ByteArray := prog_7_method_18_code
def yX5_spells : MethodName := ⟨RX5, "spells", "(Ljava/lang/String;)Z"⟩
abbrev cX5_isLetter : ByteArray := prog_7_method_19_code
def yX5_isLetter : MethodName := ⟨RX5, "isLetter", "(I)Z"⟩
abbrev cX5_isDigit : ByteArray := prog_7_method_20_code
def yX5_isDigit : MethodName := ⟨RX5, "isDigit", "(I)Z"⟩
abbrev cX5_isSign : ByteArray := prog_7_method_21_code
def yX5_isSign : MethodName := ⟨RX5, "isSign", "(I)Z"⟩
def RX6 : String := "GreaterPlates$Rule"
def TX6 : u_T := fun k => match k with
  | 0 => ("GreaterPlates$Rule", "steps", "[I", true)
  | 1 => ("GreaterPlates$Rule", "paysFrom", "I", true)
  | 2 => ("GreaterPlates$Rule", "weighsFrom", "I", true)
  | 3 => ("GreaterPlates$Rule", "names", "[I", true)
  | _ => ("GreaterPlates$Rule", "stack", "[I", true)
def tyX6 : Nat → FieldType := fun k => match k with
  | 0 => .array .int
  | 1 => .int
  | 2 => .int
  | 3 => .array .int
  | _ => .array .int
theorem nmX6 : ∀ a, a < 5 → ∀ b, b < 5 → a ≠ b → (TX6 a).2.1 ≠ (TX6 b).2.1 := by decide +kernel
theorem tyX6_ok : ∀ k, k < 5 → parseFieldDescriptor (TX6 k).2.2.1 = some (tyX6 k) := by decide +kernel
abbrev cX6_init : ByteArray := prog_8_method_1_code
def yX6_init : MethodName := ⟨RX6, "<init>", "([III)V"⟩
abbrev cX6_about : ByteArray := prog_8_method_2_code
def yX6_about : MethodName := ⟨RX6, "about", "(IIIIII)V"⟩
abbrev cX6_value : ByteArray := prog_8_method_3_code
def yX6_value : MethodName := ⟨RX6, "value", "(I)I"⟩
abbrev cX6_joined : ByteArray := prog_8_method_4_code
def yX6_joined : MethodName := ⟨RX6, "joined", "(III)I"⟩
def RX7 : String := "GreaterPlates$Sheet"
def TX7 : u_T := fun k => match k with
  | 0 => ("GreaterPlates$Sheet", "items", "[I", true)
  | 1 => ("GreaterPlates$Sheet", "sort", "I", false)
  | _ => ("GreaterPlates$Sheet", "size", "I", false)
def tyX7 : Nat → FieldType := fun k => match k with
  | 0 => .array .int
  | 1 => .int
  | _ => .int
theorem nmX7 : ∀ a, a < 3 → ∀ b, b < 3 → a ≠ b → (TX7 a).2.1 ≠ (TX7 b).2.1 := by decide +kernel
theorem tyX7_ok : ∀ k, k < 3 → parseFieldDescriptor (TX7 k).2.2.1 = some (tyX7 k) := by decide +kernel
abbrev cX7_init : ByteArray := prog_9_method_1_code
def yX7_init : MethodName := ⟨RX7, "<init>", "()V"⟩
abbrev cX7_isMissing : ByteArray := prog_9_method_2_code
def yX7_isMissing : MethodName := ⟨RX7, "isMissing", "()Z"⟩
abbrev cX7_has : ByteArray := prog_9_method_3_code
def yX7_has : MethodName := ⟨RX7, "has", "(I)Z"⟩
abbrev cX7_hasSpan : ByteArray := prog_9_method_4_code
def yX7_hasSpan : MethodName := ⟨RX7, "hasSpan", "(II)Z"⟩
abbrev cX7_become : ByteArray := prog_9_method_5_code
def yX7_become : MethodName := ⟨RX7, "become", "(II)V"⟩
abbrev cX7_put : ByteArray := prog_9_method_6_code
def yX7_put : MethodName := ⟨RX7, "put", "(II)V"⟩
def RX8 : String := "GreaterPlates$Sulky"
def TX8 : u_T := fun k => match k with
  | 0 => ("GreaterPlates$Layer", "kind", "I", true)
  | _ => ("GreaterPlates$Layer", "number", "I", true)
def tyX8 : Nat → FieldType := fun k => match k with
  | 0 => .int
  | _ => .int
theorem nmX8 : ∀ a, a < 2 → ∀ b, b < 2 → a ≠ b → (TX8 a).2.1 ≠ (TX8 b).2.1 := by decide +kernel
theorem tyX8_ok : ∀ k, k < 2 → parseFieldDescriptor (TX8 k).2.2.1 = some (tyX8 k) := by decide +kernel
abbrev cX8_init : ByteArray := prog_10_method_1_code
def yX8_init : MethodName := ⟨RX8, "<init>", "(II)V"⟩
abbrev cX8_rank : ByteArray := prog_10_method_2_code
def yX8_rank : MethodName := ⟨RX8, "rank", "(IIII)I"⟩
abbrev cX8_likes : ByteArray := prog_10_method_3_code
def yX8_likes : MethodName := ⟨RX8, "likes", "(II)Z"⟩
def RX9 : String := "GreaterPlates$Table"
def TX9 : u_T := fun k => match k with
  | 0 => ("GreaterPlates$Table", "heaps", "LGreaterPlates$Heaps;", true)
  | 1 => ("GreaterPlates$Table", "laid", "I", false)
  | 2 => ("GreaterPlates$Table", "highest", "I", false)
  | _ => ("GreaterPlates$Table", "rule", "I", false)
def tyX9 : Nat → FieldType := fun k => match k with
  | 0 => .object "GreaterPlates$Heaps"
  | 1 => .int
  | 2 => .int
  | _ => .int
theorem nmX9 : ∀ a, a < 4 → ∀ b, b < 4 → a ≠ b → (TX9 a).2.1 ≠ (TX9 b).2.1 := by decide +kernel
theorem tyX9_ok : ∀ k, k < 4 → parseFieldDescriptor (TX9 k).2.2.1 = some (tyX9 k) := by decide +kernel
abbrev cX9_init : ByteArray := prog_11_method_1_code
def yX9_init : MethodName := ⟨RX9, "<init>", "()V"⟩
abbrev cX9_become : ByteArray := prog_11_method_2_code
def yX9_become : MethodName := ⟨RX9, "become", "(LGreaterPlates$Table;)V"⟩
def RX10 : String := "GreaterPlates$Told"
def TX10 : u_T := fun k => match k with
  | 0 => ("GreaterPlates$Layer", "kind", "I", true)
  | _ => ("GreaterPlates$Layer", "number", "I", true)
def tyX10 : Nat → FieldType := fun k => match k with
  | 0 => .int
  | _ => .int
theorem nmX10 : ∀ a, a < 2 → ∀ b, b < 2 → a ≠ b → (TX10 a).2.1 ≠ (TX10 b).2.1 := by decide +kernel
theorem tyX10_ok : ∀ k, k < 2 → parseFieldDescriptor (TX10 k).2.2.1 = some (tyX10 k) := by decide +kernel
abbrev cX10_init : ByteArray := prog_12_method_1_code
def yX10_init : MethodName := ⟨RX10, "<init>", "(II)V"⟩
abbrev cX10_rank : ByteArray := prog_12_method_2_code
def yX10_rank : MethodName := ⟨RX10, "rank", "(IIII)I"⟩
abbrev cX10_likes : ByteArray := prog_12_method_3_code
def yX10_likes : MethodName := ⟨RX10, "likes", "(II)Z"⟩
def RX11 : String := "GreaterPlates"
def TX11 : u_T := fun k => match k with
  | 0 => ("GreaterPlates", "sizes", "[I", true)
  | 1 => ("GreaterPlates", "depths", "[I", true)
  | 2 => ("GreaterPlates", "plateCount", "I", false)
  | 3 => ("GreaterPlates", "layers", "[LGreaterPlates$Layer;", true)
  | 4 => ("GreaterPlates", "layerCount", "I", false)
  | 5 => ("GreaterPlates", "texts", "[LGreaterPlates$Rule;", true)
  | 6 => ("GreaterPlates", "textCount", "I", false)
  | 7 => ("GreaterPlates", "reader", "LGreaterPlates$Reader;", true)
  | 8 => ("GreaterPlates", "now", "LGreaterPlates$Table;", true)
  | 9 => ("GreaterPlates", "kept", "LGreaterPlates$Table;", false)
  | 10 => ("GreaterPlates", "sheets", "[LGreaterPlates$Sheet;", true)
  | 11 => ("GreaterPlates", "work", "LGreaterPlates$Heaps;", true)
  | 12 => ("GreaterPlates", "order", "[I", true)
  | 13 => ("GreaterPlates", "least", "I", false)
  | 14 => ("GreaterPlates", "bestFound", "[I", true)
  | 15 => ("GreaterPlates", "tally", "[I", true)
  | 16 => ("GreaterPlates", "alike", "I", false)
  | 17 => ("GreaterPlates", "beneathNow", "[I", true)
  | _ => ("GreaterPlates", "cover", "[I", true)
def tyX11 : Nat → FieldType := fun k => match k with
  | 0 => .array .int
  | 1 => .array .int
  | 2 => .int
  | 3 => .array (.object "GreaterPlates$Layer")
  | 4 => .int
  | 5 => .array (.object "GreaterPlates$Rule")
  | 6 => .int
  | 7 => .object "GreaterPlates$Reader"
  | 8 => .object "GreaterPlates$Table"
  | 9 => .object "GreaterPlates$Table"
  | 10 => .array (.object "GreaterPlates$Sheet")
  | 11 => .object "GreaterPlates$Heaps"
  | 12 => .array .int
  | 13 => .int
  | 14 => .array .int
  | 15 => .array .int
  | 16 => .int
  | 17 => .array .int
  | _ => .array .int
theorem nmX11 : ∀ a, a < 19 → ∀ b, b < 19 → a ≠ b → (TX11 a).2.1 ≠ (TX11 b).2.1 := by decide +kernel
theorem tyX11_ok : ∀ k, k < 19 → parseFieldDescriptor (TX11 k).2.2.1 = some (tyX11 k) := by decide +kernel
abbrev cX11_init : ByteArray := prog_1_method_1_code
def yX11_init : MethodName := ⟨RX11, "<init>", "()V"⟩
abbrev cX11_plate : ByteArray := prog_1_method_2_code
def yX11_plate : MethodName := ⟨RX11, "plate", "(II)I"⟩
abbrev cX11_layer : ByteArray := prog_1_method_3_code
def yX11_layer : MethodName := ⟨RX11, "layer", "(II)I"⟩
abbrev cX11_set : ByteArray := prog_1_method_4_code
def yX11_set : MethodName := ⟨RX11, "set", "(III)I"⟩
abbrev cX11_setHighest : ByteArray := prog_1_method_5_code
def yX11_setHighest : MethodName := ⟨RX11, "setHighest", "(I)I"⟩
abbrev cX11_told : ByteArray := prog_1_method_6_code
def yX11_told : MethodName := ⟨RX11, "told", "(II)I"⟩
abbrev cX11_isPlate : ByteArray := prog_1_method_7_code
def yX11_isPlate : MethodName := ⟨RX11, "isPlate", "(I)Z"⟩
abbrev cX11_isMeasure : ByteArray := prog_1_method_8_code
def yX11_isMeasure : MethodName := ⟨RX11, "isMeasure", "(I)Z"⟩
abbrev cX11_layerAt : ByteArray := prog_1_method_9_code
def yX11_layerAt : MethodName := ⟨RX11, "layerAt", "(I)LGreaterPlates$Layer;"⟩
abbrev cX11_newLayer : ByteArray := prog_1_method_10_code
def yX11_newLayer : MethodName := ⟨RX11, "newLayer", "(II)LGreaterPlates$Layer;"⟩
abbrev cX11_feed : ByteArray := prog_1_method_11_code
def yX11_feed : MethodName := ⟨RX11, "feed", "(I)I"⟩
abbrev cX11_text : ByteArray := prog_1_method_12_code
def yX11_text : MethodName := ⟨RX11, "text", "()I"⟩
abbrev cX11_force : ByteArray := prog_1_method_13_code
def yX11_force : MethodName := ⟨RX11, "force", "(I)I"⟩
abbrev cX11_worth : ByteArray := prog_1_method_14_code
def yX11_worth : MethodName := ⟨RX11, "worth", "(IIIII)I"⟩
abbrev cX11_bounded : ByteArray := prog_1_method_15_code
def yX11_bounded : MethodName := ⟨RX11, "bounded", "(I)I"⟩
abbrev cX11_by : ByteArray := prog_1_method_16_code
def yX11_by : MethodName := ⟨RX11, "by", "(II)I"⟩
abbrev cX11_heapOf : ByteArray := prog_1_method_17_code
def yX11_heapOf : MethodName := ⟨RX11, "heapOf", "(II)I"⟩
abbrev cX11_fewest : ByteArray := prog_1_method_18_code
def yX11_fewest : MethodName := ⟨RX11, "fewest", "(I)I"⟩
abbrev cX11_longest : ByteArray := prog_1_method_19_code
def yX11_longest : MethodName := ⟨RX11, "longest", "(I)I"⟩
abbrev cX11_several : ByteArray := prog_1_method_20_code
def yX11_several : MethodName := ⟨RX11, "several", "(I)I"⟩
abbrev cX11_orderOfNow : ByteArray := prog_1_method_21_code
def yX11_orderOfNow : MethodName := ⟨RX11, "orderOfNow", "()V"⟩
abbrev cX11_layInOrder : ByteArray := prog_1_method_22_code
def yX11_layInOrder : MethodName := ⟨RX11, "layInOrder", "(LGreaterPlates$Layer;I)I"⟩
abbrev cX11_chosenBy : ByteArray := prog_1_method_23_code
def yX11_chosenBy : MethodName := ⟨RX11, "chosenBy", "(LGreaterPlates$Layer;LGreaterPlates$Heaps;I)I"⟩
abbrev cX11_rankOf : ByteArray := prog_1_method_24_code
def yX11_rankOf : MethodName := ⟨RX11, "rankOf", "(LGreaterPlates$Layer;LGreaterPlates$Heaps;II)I"⟩
abbrev cX11_mayLie : ByteArray := prog_1_method_25_code
def yX11_mayLie : MethodName := ⟨RX11, "mayLie", "(LGreaterPlates$Heaps;II)Z"⟩
abbrev cX11_priceOf : ByteArray := prog_1_method_26_code
def yX11_priceOf : MethodName := ⟨RX11, "priceOf", "(III)I"⟩
abbrev cX11_leastOf : ByteArray := prog_1_method_27_code
def yX11_leastOf : MethodName := ⟨RX11, "leastOf", "(III)I"⟩
abbrev cX11_seekLess : ByteArray := prog_1_method_28_code
def yX11_seekLess : MethodName := ⟨RX11, "seekLess", "(IIII)V"⟩
abbrev cX11_fillCover : ByteArray := prog_1_method_29_code
def yX11_fillCover : MethodName := ⟨RX11, "fillCover", "()V"⟩
abbrev cX11_isRow : ByteArray := prog_1_method_30_code
def yX11_isRow : MethodName := ⟨RX11, "isRow", "(I)Z"⟩
abbrev cX11_rowsThatMake : ByteArray := prog_1_method_31_code
def yX11_rowsThatMake : MethodName := ⟨RX11, "rowsThatMake", "(I)I"⟩
abbrev cX11_lastOf : ByteArray := prog_1_method_32_code
def yX11_lastOf : MethodName := ⟨RX11, "lastOf", "(I)I"⟩
abbrev cX11_orders : ByteArray := prog_1_method_33_code
def yX11_orders : MethodName := ⟨RX11, "orders", "(II)I"⟩
abbrev cX11_mean : ByteArray := prog_1_method_34_code
def yX11_mean : MethodName := ⟨RX11, "mean", "(II)J"⟩
abbrev cX11_bestOrder : ByteArray := prog_1_method_35_code
def yX11_bestOrder : MethodName := ⟨RX11, "bestOrder", "(II)I"⟩
abbrev cX11_came : ByteArray := prog_1_method_36_code
def yX11_came : MethodName := ⟨RX11, "came", "(I)I"⟩
abbrev cX11_less : ByteArray := prog_1_method_37_code
def yX11_less : MethodName := ⟨RX11, "less", "(I)I"⟩
abbrev cX11_rises : ByteArray := prog_1_method_38_code
def yX11_rises : MethodName := ⟨RX11, "rises", "(I)I"⟩
abbrev cX11_judge : ByteArray := prog_1_method_39_code
def yX11_judge : MethodName := ⟨RX11, "judge", "(I)I"⟩
abbrev cX11_stranger : ByteArray := prog_1_method_40_code
def yX11_stranger : MethodName := ⟨RX11, "stranger", "(I)I"⟩
abbrev cX11_laysJustSo : ByteArray := prog_1_method_41_code
def yX11_laysJustSo : MethodName := ⟨RX11, "laysJustSo", "(LGreaterPlates$Layer;LGreaterPlates$Sheet;)Z"⟩
abbrev cX11_goThroughOrders : ByteArray := prog_1_method_42_code
def yX11_goThroughOrders : MethodName := ⟨RX11, "goThroughOrders", "(LGreaterPlates$Layer;)V"⟩
abbrev cX11_goOn : ByteArray := prog_1_method_43_code
def yX11_goOn : MethodName := ⟨RX11, "goOn", "(LGreaterPlates$Layer;II)V"⟩
abbrev cX11_noteOrder : ByteArray := prog_1_method_44_code
def yX11_noteOrder : MethodName := ⟨RX11, "noteOrder", "()V"⟩
abbrev cX11_sharedDivisor : ByteArray := prog_1_method_45_code
def yX11_sharedDivisor : MethodName := ⟨RX11, "sharedDivisor", "(JJ)J"⟩
abbrev cX11_firstOut : ByteArray := prog_1_method_46_code
def yX11_firstOut : MethodName := ⟨RX11, "firstOut", "(I)I"⟩
abbrev cX11_firstSwap : ByteArray := prog_1_method_47_code
def yX11_firstSwap : MethodName := ⟨RX11, "firstSwap", "(I)I"⟩
abbrev cX11_changeAbout : ByteArray := prog_1_method_48_code
def yX11_changeAbout : MethodName := ⟨RX11, "changeAbout", "(II)V"⟩
abbrev cX11_riseBehind : ByteArray := prog_1_method_49_code
def yX11_riseBehind : MethodName := ⟨RX11, "riseBehind", "(II)I"⟩
abbrev cX11_lay : ByteArray := prog_1_method_50_code
def yX11_lay : MethodName := ⟨RX11, "lay", "(I)I"⟩
abbrev cX11_take : ByteArray := prog_1_method_51_code
def yX11_take : MethodName := ⟨RX11, "take", "(I)I"⟩
abbrev cX11_on : ByteArray := prog_1_method_52_code
def yX11_on : MethodName := ⟨RX11, "on", "(II)I"⟩
abbrev cX11_drawn : ByteArray := prog_1_method_53_code
def yX11_drawn : MethodName := ⟨RX11, "drawn", "(II)I"⟩
abbrev cX11_image : ByteArray := prog_1_method_54_code
def yX11_image : MethodName := ⟨RX11, "image", "()I"⟩
abbrev cX11_back : ByteArray := prog_1_method_55_code
def yX11_back : MethodName := ⟨RX11, "back", "()I"⟩
abbrev cX11_count : ByteArray := prog_1_method_56_code
def yX11_count : MethodName := ⟨RX11, "count", "(I)I"⟩
abbrev cX11_sheet : ByteArray := prog_1_method_57_code
def yX11_sheet : MethodName := ⟨RX11, "sheet", "(III)I"⟩
abbrev cX11_cell : ByteArray := prog_1_method_58_code
def yX11_cell : MethodName := ⟨RX11, "cell", "(III)I"⟩
abbrev cX11_copy : ByteArray := prog_1_method_59_code
def yX11_copy : MethodName := ⟨RX11, "copy", "(IIIII)I"⟩
abbrev cX11_plates : ByteArray := prog_1_method_60_code
def yX11_plates : MethodName := ⟨RX11, "plates", "(IIII)I"⟩
abbrev cX11_taken : ByteArray := prog_1_method_61_code
def yX11_taken : MethodName := ⟨RX11, "taken", "(II)I"⟩
abbrev cX11_sheetAt : ByteArray := prog_1_method_62_code
def yX11_sheetAt : MethodName := ⟨RX11, "sheetAt", "(I)LGreaterPlates$Sheet;"⟩
abbrev cX11_isUnder : ByteArray := prog_1_method_63_code
def yX11_isUnder : MethodName := ⟨RX11, "isUnder", "(LGreaterPlates$Layer;I)Z"⟩
def RX12 : String := "GreaterPlatesModel"
def TX12 : u_T := fun k => match k with
  | 0 => ("GreaterPlatesModel", "plates", "I", false)
  | 1 => ("GreaterPlatesModel", "size", "[I", true)
  | 2 => ("GreaterPlatesModel", "depth", "[I", true)
  | 3 => ("GreaterPlatesModel", "layers", "I", false)
  | 4 => ("GreaterPlatesModel", "kind", "[I", true)
  | 5 => ("GreaterPlatesModel", "number", "[I", true)
  | 6 => ("GreaterPlatesModel", "highest", "I", false)
  | 7 => ("GreaterPlatesModel", "tape", "[I", true)
  | 8 => ("GreaterPlatesModel", "taped", "I", false)
  | 9 => ("GreaterPlatesModel", "texts", "I", false)
  | 10 => ("GreaterPlatesModel", "rule", "I", false)
  | 11 => ("GreaterPlatesModel", "codes", "[I", true)
  | 12 => ("GreaterPlatesModel", "codeMany", "[I", true)
  | 13 => ("GreaterPlatesModel", "at", "I", false)
  | 14 => ("GreaterPlatesModel", "token", "I", false)
  | 15 => ("GreaterPlatesModel", "worth", "I", false)
  | 16 => ("GreaterPlatesModel", "place", "I", false)
  | 17 => ("GreaterPlatesModel", "letters", "[C", true)
  | 18 => ("GreaterPlatesModel", "begins", "[I", true)
  | 19 => ("GreaterPlatesModel", "waits", "[I", true)
  | 20 => ("GreaterPlatesModel", "waiting", "I", false)
  | 21 => ("GreaterPlatesModel", "open", "I", false)
  | 22 => ("GreaterPlatesModel", "nested", "I", false)
  | 23 => ("GreaterPlatesModel", "compared", "[Z", true)
  | 24 => ("GreaterPlatesModel", "codeAt", "I", false)
  | 25 => ("GreaterPlatesModel", "made", "I", false)
  | 26 => ("GreaterPlatesModel", "stack", "[I", true)
  | 27 => ("GreaterPlatesModel", "names", "[I", true)
  | 28 => ("GreaterPlatesModel", "heaps", "I", false)
  | 29 => ("GreaterPlatesModel", "on", "[I", true)
  | 30 => ("GreaterPlatesModel", "lies", "[I", true)
  | 31 => ("GreaterPlatesModel", "turn", "[I", true)
  | 32 => ("GreaterPlatesModel", "heapBy", "[I", true)
  | 33 => ("GreaterPlatesModel", "belowBy", "[I", true)
  | 34 => ("GreaterPlatesModel", "paid", "I", false)
  | 35 => ("GreaterPlatesModel", "fewest", "I", false)
  | 36 => ("GreaterPlatesModel", "cheapest", "I", false)
  | 37 => ("GreaterPlatesModel", "ends", "[I", true)
  | 38 => ("GreaterPlatesModel", "byHeaps", "[I", true)
  | 39 => ("GreaterPlatesModel", "sum", "I", false)
  | 40 => ("GreaterPlatesModel", "all", "I", false)
  | 41 => ("GreaterPlatesModel", "alike", "I", false)
  | 42 => ("GreaterPlatesModel", "best", "I", false)
  | 43 => ("GreaterPlatesModel", "bestTurn", "[I", true)
  | 44 => ("GreaterPlatesModel", "belowNow", "[I", true)
  | 45 => ("GreaterPlatesModel", "laid", "I", false)
  | 46 => ("GreaterPlatesModel", "tableHeaps", "I", false)
  | 47 => ("GreaterPlatesModel", "tableOn", "[I", true)
  | 48 => ("GreaterPlatesModel", "tableLies", "[I", true)
  | 49 => ("GreaterPlatesModel", "kept", "Z", false)
  | 50 => ("GreaterPlatesModel", "laidThen", "I", false)
  | 51 => ("GreaterPlatesModel", "heapsThen", "I", false)
  | 52 => ("GreaterPlatesModel", "highestThen", "I", false)
  | 53 => ("GreaterPlatesModel", "ruleThen", "I", false)
  | 54 => ("GreaterPlatesModel", "onThen", "[I", true)
  | 55 => ("GreaterPlatesModel", "liesThen", "[I", true)
  | 56 => ("GreaterPlatesModel", "sorts", "[I", true)
  | 57 => ("GreaterPlatesModel", "sizes", "[I", true)
  | 58 => ("GreaterPlatesModel", "items", "[I", true)
  | _ => ("GreaterPlatesModel", "moved", "[I", true)
def tyX12 : Nat → FieldType := fun k => match k with
  | 0 => .int
  | 1 => .array .int
  | 2 => .array .int
  | 3 => .int
  | 4 => .array .int
  | 5 => .array .int
  | 6 => .int
  | 7 => .array .int
  | 8 => .int
  | 9 => .int
  | 10 => .int
  | 11 => .array .int
  | 12 => .array .int
  | 13 => .int
  | 14 => .int
  | 15 => .int
  | 16 => .int
  | 17 => .array .char
  | 18 => .array .int
  | 19 => .array .int
  | 20 => .int
  | 21 => .int
  | 22 => .int
  | 23 => .array .boolean
  | 24 => .int
  | 25 => .int
  | 26 => .array .int
  | 27 => .array .int
  | 28 => .int
  | 29 => .array .int
  | 30 => .array .int
  | 31 => .array .int
  | 32 => .array .int
  | 33 => .array .int
  | 34 => .int
  | 35 => .int
  | 36 => .int
  | 37 => .array .int
  | 38 => .array .int
  | 39 => .int
  | 40 => .int
  | 41 => .int
  | 42 => .int
  | 43 => .array .int
  | 44 => .array .int
  | 45 => .int
  | 46 => .int
  | 47 => .array .int
  | 48 => .array .int
  | 49 => .boolean
  | 50 => .int
  | 51 => .int
  | 52 => .int
  | 53 => .int
  | 54 => .array .int
  | 55 => .array .int
  | 56 => .array .int
  | 57 => .array .int
  | 58 => .array .int
  | _ => .array .int
theorem nmX12 : ∀ a, a < 60 → ∀ b, b < 60 → a ≠ b → (TX12 a).2.1 ≠ (TX12 b).2.1 := by decide +kernel
theorem tyX12_ok : ∀ k, k < 60 → parseFieldDescriptor (TX12 k).2.2.1 = some (tyX12 k) := by decide +kernel
abbrev cX12_isIn : ByteArray := prog_14_method_1_code
def yX12_isIn : MethodName := ⟨RX12, "isIn", "(III)Z"⟩
abbrev cX12_isPlate : ByteArray := prog_14_method_2_code
def yX12_isPlate : MethodName := ⟨RX12, "isPlate", "(I)Z"⟩
abbrev cX12_isLayer : ByteArray := prog_14_method_3_code
def yX12_isLayer : MethodName := ⟨RX12, "isLayer", "(I)Z"⟩
abbrev cX12_plate : ByteArray := prog_14_method_4_code
def yX12_plate : MethodName := ⟨RX12, "plate", "(II)I"⟩
abbrev cX12_layer : ByteArray := prog_14_method_5_code
def yX12_layer : MethodName := ⟨RX12, "layer", "(II)I"⟩
abbrev cX12_set : ByteArray := prog_14_method_6_code
def yX12_set : MethodName := ⟨RX12, "set", "(III)I"⟩
abbrev cX12_told : ByteArray := prog_14_method_7_code
def yX12_told : MethodName := ⟨RX12, "told", "(II)I"⟩
abbrev cX12_feed : ByteArray := prog_14_method_8_code
def yX12_feed : MethodName := ⟨RX12, "feed", "(I)I"⟩
abbrev cX12_isLetter : ByteArray := prog_14_method_9_code
def yX12_isLetter : MethodName := ⟨RX12, "isLetter", "(I)Z"⟩
abbrev cX12_isDigit : ByteArray := prog_14_method_10_code
def yX12_isDigit : MethodName := ⟨RX12, "isDigit", "(I)Z"⟩
abbrev cX12_readWord : ByteArray := prog_14_method_11_code
def yX12_readWord : MethodName := ⟨RX12, "readWord", "()V"⟩
abbrev cX12_readNumber : ByteArray := prog_14_method_12_code
def yX12_readNumber : MethodName := ⟨RX12, "readNumber", "()V"⟩
abbrev cX12_next : ByteArray := prog_14_method_13_code
def yX12_next : MethodName := ⟨RX12, "next", "()V"⟩
abbrev cX12_isSign : ByteArray := prog_14_method_14_code
def yX12_isSign : MethodName := ⟨RX12, "isSign", "(I)Z"⟩
abbrev cX12_isKey : ByteArray := prog_14_method_15_code
def yX12_isKey : MethodName := ⟨RX12, "isKey", "(I)Z"⟩
abbrev cX12_emit : ByteArray := prog_14_method_16_code
def yX12_emit : MethodName := ⟨RX12, "emit", "(I)V"⟩
abbrev cX12_rank : ByteArray := prog_14_method_17_code
def yX12_rank : MethodName := ⟨RX12, "rank", "(I)I"⟩
abbrev cX12_doAll : ByteArray := prog_14_method_18_code
def yX12_doAll : MethodName := ⟨RX12, "doAll", "(I)V"⟩
abbrev cX12_await : ByteArray := prog_14_method_19_code
def yX12_await : MethodName := ⟨RX12, "await", "(I)V"⟩
abbrev cX12_between : ByteArray := prog_14_method_20_code
def yX12_between : MethodName := ⟨RX12, "between", "()Z"⟩
abbrev cX12_closes : ByteArray := prog_14_method_21_code
def yX12_closes : MethodName := ⟨RX12, "closes", "()Z"⟩
abbrev cX12_ahead : ByteArray := prog_14_method_22_code
def yX12_ahead : MethodName := ⟨RX12, "ahead", "(Z)Z"⟩
abbrev cX12_readE : ByteArray := prog_14_method_23_code
def yX12_readE : MethodName := ⟨RX12, "readE", "(I)Z"⟩
abbrev cX12_readAll : ByteArray := prog_14_method_24_code
def yX12_readAll : MethodName := ⟨RX12, "readAll", "(I)I"⟩
abbrev cX12_text : ByteArray := prog_14_method_25_code
def yX12_text : MethodName := ⟨RX12, "text", "()I"⟩
abbrev cX12_force : ByteArray := prog_14_method_26_code
def yX12_force : MethodName := ⟨RX12, "force", "(I)I"⟩
abbrev cX12_init : ByteArray := prog_14_method_27_code
def yX12_init : MethodName := ⟨RX12, "<init>", "()V"⟩
abbrev cX12_done : ByteArray := prog_14_method_28_code
def yX12_done : MethodName := ⟨RX12, "done", "(III)I"⟩
abbrev cX12_worthOf : ByteArray := prog_14_method_29_code
def yX12_worthOf : MethodName := ⟨RX12, "worthOf", "(I)I"⟩
abbrev cX12_name : ByteArray := prog_14_method_30_code
def yX12_name : MethodName := ⟨RX12, "name", "(IIIII)V"⟩
abbrev cX12_bound : ByteArray := prog_14_method_31_code
def yX12_bound : MethodName := ⟨RX12, "bound", "(I)I"⟩
abbrev cX12_nameOn : ByteArray := prog_14_method_32_code
def yX12_nameOn : MethodName := ⟨RX12, "nameOn", "(II)V"⟩
abbrev cX12_mayLie : ByteArray := prog_14_method_33_code
def yX12_mayLie : MethodName := ⟨RX12, "mayLie", "(II)Z"⟩
abbrev cX12_put : ByteArray := prog_14_method_34_code
def yX12_put : MethodName := ⟨RX12, "put", "(II)V"⟩
abbrev cX12_putBack : ByteArray := prog_14_method_35_code
def yX12_putBack : MethodName := ⟨RX12, "putBack", "(I)V"⟩
abbrev cX12_rank_ : ByteArray := prog_14_method_36_code
def yX12_rank_ : MethodName := ⟨RX12, "rank", "(III)I"⟩
abbrev cX12_likes : ByteArray := prog_14_method_37_code
def yX12_likes : MethodName := ⟨RX12, "likes", "(II)Z"⟩
abbrev cX12_choice : ByteArray := prog_14_method_38_code
def yX12_choice : MethodName := ⟨RX12, "choice", "(II)I"⟩
abbrev cX12_layAll : ByteArray := prog_14_method_39_code
def yX12_layAll : MethodName := ⟨RX12, "layAll", "(I)V"⟩
abbrev cX12_asTheyCame : ByteArray := prog_14_method_40_code
def yX12_asTheyCame : MethodName := ⟨RX12, "asTheyCame", "()V"⟩
abbrev cX12_by : ByteArray := prog_14_method_41_code
def yX12_by : MethodName := ⟨RX12, "by", "(II)I"⟩
abbrev cX12_heapOf : ByteArray := prog_14_method_42_code
def yX12_heapOf : MethodName := ⟨RX12, "heapOf", "(II)I"⟩
abbrev cX12_ways : ByteArray := prog_14_method_43_code
def yX12_ways : MethodName := ⟨RX12, "ways", "(III)V"⟩
abbrev cX12_goThrough : ByteArray := prog_14_method_44_code
def yX12_goThrough : MethodName := ⟨RX12, "goThrough", "(I)V"⟩
abbrev cX12_fewest : ByteArray := prog_14_method_45_code
def yX12_fewest : MethodName := ⟨RX12, "fewest", "(I)I"⟩
abbrev cX12_less : ByteArray := prog_14_method_46_code
def yX12_less : MethodName := ⟨RX12, "less", "(I)I"⟩
abbrev cX12_couldLie : ByteArray := prog_14_method_47_code
def yX12_couldLie : MethodName := ⟨RX12, "couldLie", "(II)Z"⟩
abbrev cX12_isRow : ByteArray := prog_14_method_48_code
def yX12_isRow : MethodName := ⟨RX12, "isRow", "(I)Z"⟩
abbrev cX12_bits : ByteArray := prog_14_method_49_code
def yX12_bits : MethodName := ⟨RX12, "bits", "(I)I"⟩
abbrev cX12_longest : ByteArray := prog_14_method_50_code
def yX12_longest : MethodName := ⟨RX12, "longest", "(I)I"⟩
abbrev cX12_mostFrom : ByteArray := prog_14_method_51_code
def yX12_mostFrom : MethodName := ⟨RX12, "mostFrom", "(II)I"⟩
abbrev cX12_several : ByteArray := prog_14_method_52_code
def yX12_several : MethodName := ⟨RX12, "several", "(I)I"⟩
abbrev cX12_rises : ByteArray := prog_14_method_53_code
def yX12_rises : MethodName := ⟨RX12, "rises", "(I)I"⟩
abbrev cX12_orders : ByteArray := prog_14_method_54_code
def yX12_orders : MethodName := ⟨RX12, "orders", "(III)V"⟩
abbrev cX12_allOrders : ByteArray := prog_14_method_55_code
def yX12_allOrders : MethodName := ⟨RX12, "allOrders", "(I)V"⟩
abbrev cX12_orders_ : ByteArray := prog_14_method_56_code
def yX12_orders_ : MethodName := ⟨RX12, "orders", "(II)I"⟩
abbrev cX12_divisor : ByteArray := prog_14_method_57_code
def yX12_divisor : MethodName := ⟨RX12, "divisor", "(II)I"⟩
abbrev cX12_mean : ByteArray := prog_14_method_58_code
def yX12_mean : MethodName := ⟨RX12, "mean", "(II)J"⟩
abbrev cX12_bestOrder : ByteArray := prog_14_method_59_code
def yX12_bestOrder : MethodName := ⟨RX12, "bestOrder", "(II)I"⟩
abbrev cX12_came : ByteArray := prog_14_method_60_code
def yX12_came : MethodName := ⟨RX12, "came", "(I)I"⟩
abbrev cX12_drawn : ByteArray := prog_14_method_61_code
def yX12_drawn : MethodName := ⟨RX12, "drawn", "(II)I"⟩
abbrev cX12_judge : ByteArray := prog_14_method_62_code
def yX12_judge : MethodName := ⟨RX12, "judge", "(I)I"⟩
abbrev cX12_stranger : ByteArray := prog_14_method_63_code
def yX12_stranger : MethodName := ⟨RX12, "stranger", "(I)I"⟩
abbrev cX12_move : ByteArray := prog_14_method_64_code
def yX12_move : MethodName := ⟨RX12, "move", "([I[I)V"⟩
abbrev cX12_lay : ByteArray := prog_14_method_65_code
def yX12_lay : MethodName := ⟨RX12, "lay", "(I)I"⟩
abbrev cX12_take : ByteArray := prog_14_method_66_code
def yX12_take : MethodName := ⟨RX12, "take", "(I)I"⟩
abbrev cX12_on : ByteArray := prog_14_method_67_code
def yX12_on : MethodName := ⟨RX12, "on", "(II)I"⟩
abbrev cX12_image : ByteArray := prog_14_method_68_code
def yX12_image : MethodName := ⟨RX12, "image", "()I"⟩
abbrev cX12_back : ByteArray := prog_14_method_69_code
def yX12_back : MethodName := ⟨RX12, "back", "()I"⟩
abbrev cX12_count : ByteArray := prog_14_method_70_code
def yX12_count : MethodName := ⟨RX12, "count", "(I)I"⟩
abbrev cX12_isSheet : ByteArray := prog_14_method_71_code
def yX12_isSheet : MethodName := ⟨RX12, "isSheet", "(I)Z"⟩
abbrev cX12_sheet : ByteArray := prog_14_method_72_code
def yX12_sheet : MethodName := ⟨RX12, "sheet", "(III)I"⟩
abbrev cX12_cell : ByteArray := prog_14_method_73_code
def yX12_cell : MethodName := ⟨RX12, "cell", "(III)I"⟩
abbrev cX12_copy : ByteArray := prog_14_method_74_code
def yX12_copy : MethodName := ⟨RX12, "copy", "(IIIII)I"⟩
abbrev cX12_plates : ByteArray := prog_14_method_75_code
def yX12_plates : MethodName := ⟨RX12, "plates", "(IIII)I"⟩
abbrev cX12_taken : ByteArray := prog_14_method_76_code
def yX12_taken : MethodName := ⟨RX12, "taken", "(II)I"⟩
def RJ6 : String := "java/lang/Integer"
abbrev cJ6_bitCount_0f7a4 : ByteArray := prog_16_method_49_code
def yJ6_bitCount_0f7a4 : MethodName := ⟨RJ6, "bitCount", "(I)I"⟩
def RJ9 : String := "java/lang/Math"
abbrev cJ9_abs_0f7a4 : ByteArray := prog_17_method_59_code
def yJ9_abs_0f7a4 : MethodName := ⟨RJ9, "abs", "(I)I"⟩
abbrev cJ9_max_7cf53 : ByteArray := prog_17_method_65_code
def yJ9_max_7cf53 : MethodName := ⟨RJ9, "max", "(II)I"⟩
abbrev cJ9_max_f86c9 : ByteArray := prog_17_method_66_code
def yJ9_max_f86c9 : MethodName := ⟨RJ9, "max", "(JJ)J"⟩
abbrev cJ9_min_7cf53 : ByteArray := prog_17_method_69_code
def yJ9_min_7cf53 : MethodName := ⟨RJ9, "min", "(II)I"⟩
def RJ0 : String := "java/lang/String"
abbrev cJ0_length_8abf5 : ByteArray := prog_18_method_54_code
def yJ0_length_8abf5 : MethodName := ⟨RJ0, "length", "()I"⟩
abbrev cJ0_charAt_5068e : ByteArray := prog_18_method_56_code
def yJ0_charAt_5068e : MethodName := ⟨RJ0, "charAt", "(I)C"⟩
abbrev cJ0_coder_7d493 : ByteArray := prog_18_method_152_code
def yJ0_coder_7d493 : MethodName := ⟨RJ0, "coder", "()B"⟩
abbrev cJ0_isLatin1_aae02 : ByteArray := prog_18_method_154_code
def yJ0_isLatin1_aae02 : MethodName := ⟨RJ0, "isLatin1", "()Z"⟩
abbrev cJ0_checkIndex_df160 : ByteArray := prog_18_method_155_code
def yJ0_checkIndex_df160 : MethodName := ⟨RJ0, "checkIndex", "(II)V"⟩
def RJ1 : String := "java/lang/StringLatin1"
abbrev cJ1_charAt_3b067 : ByteArray := prog_19_method_2_code
def yJ1_charAt_3b067 : MethodName := ⟨RJ1, "charAt", "([BI)C"⟩
def RJ2 : String := "java/lang/StringUTF16"
abbrev cJ2_getChar_3b067 : ByteArray := prog_20_method_5_code
def yJ2_getChar_3b067 : MethodName := ⟨RJ2, "getChar", "([BI)C"⟩
abbrev cJ2_length_9d52b : ByteArray := prog_20_method_6_code
def yJ2_length_9d52b : MethodName := ⟨RJ2, "length", "([B)I"⟩
abbrev cJ2_charAt_3b067 : ByteArray := prog_20_method_83_code
def yJ2_charAt_3b067 : MethodName := ⟨RJ2, "charAt", "([BI)C"⟩
abbrev cJ2_checkIndex_2214a : ByteArray := prog_20_method_91_code
def yJ2_checkIndex_2214a : MethodName := ⟨RJ2, "checkIndex", "(I[B)V"⟩
def RJ10 : String := "java/lang/System"
def RJ7 : String := "java/util/Arrays"
abbrev cJ7_fill_53178 : ByteArray := prog_22_method_103_code
def yJ7_fill_53178 : MethodName := ⟨RJ7, "fill", "([II)V"⟩
abbrev cJ7_copyOf_59c91 : ByteArray := prog_22_method_123_code
def yJ7_copyOf_59c91 : MethodName := ⟨RJ7, "copyOf", "([II)[I"⟩
def RJ3 : String := "jdk/internal/util/Preconditions"
abbrev cJ3_checkIndex_8e157 : ByteArray := prog_23_method_11_code
def yJ3_checkIndex_8e157 : MethodName := ⟨RJ3, "checkIndex", "(IILjava/util/function/BiFunction;)I"⟩
def RL : String := "GreaterPlatesLaw"
abbrev cL_law : ByteArray := code
def yL_law : MethodName := ⟨RL, "law", "([I)Z"⟩
abbrev vwCl : List vw_C := [(RX0, TX0, 2), (RX1, TX1, 5), (RX2, TX2, 2), (RX3, TX3, 2), (RX4, TX4, 2), (RX5, TX5, 9), (RX6, TX6, 5), (RX7, TX7, 3), (RX8, TX8, 2), (RX9, TX9, 4), (RX10, TX10, 2), (RX11, TX11, 19), (RX12, TX12, 60)]
/-- of each class: which fields are numbers (the others are references) -/
def fkX : Nat → List Bool
  | 0 => [true, true]
  | 1 => [false, false, true, false, false]
  | 2 => [true, true]
  | 3 => [true, true]
  | 4 => [true, true]
  | 5 => [false, true, true, true, true, true, true, false, true]
  | 6 => [false, true, true, false, false]
  | 7 => [false, true, true]
  | 8 => [true, true]
  | 9 => [false, true, true, true]
  | 10 => [true, true]
  | 11 => [false, false, true, false, true, false, true, false, false, false, false, false, false, true, false, false, true, false, false]
  | 12 => [true, false, false, true, false, false, true, false, true, true, true, false, false, true, true, true, true, false, false, false, true, true, true, false, true, true, false, false, true, false, false, false, false, false, true, true, true, false, false, true, true, true, true, false, false, true, true, false, false, true, true, true, true, true, false, false, false, false, false, false]
  | _ => []
/-- the String constants: class, entry, text -/
def strX : List (String × Nat × String) := [("GreaterPlates", 71, "may size < top ; pays 1 - high ; weighs size ;"), ("GreaterPlates$Reader", 104, "may"), ("GreaterPlates$Reader", 110, "pays"), ("GreaterPlates$Reader", 112, "weighs"), ("GreaterPlates$Reader", 114, "or"), ("GreaterPlates$Reader", 116, "and"), ("GreaterPlates$Reader", 118, "not"), ("GreaterPlates$Reader", 120, "size"), ("GreaterPlates$Reader", 121, "top"), ("GreaterPlates$Reader", 123, "deep"), ("GreaterPlates$Reader", 125, "under"), ("GreaterPlates$Reader", 127, "high"), ("GreaterPlates$Reader", 129, "heap")]
def lenX : List Nat := [46, 3, 4, 6, 2, 3, 3, 4, 3, 4, 5, 4, 4]
def bytX : List (List Int32) := [[109, 97, 121, 32, 115, 105, 122, 101, 32, 60, 32, 116, 111, 112, 32, 59, 32, 112, 97, 121, 115, 32, 49, 32, 45, 32, 104, 105, 103, 104, 32, 59, 32, 119, 101, 105, 103, 104, 115, 32, 115, 105, 122, 101, 32, 59], [109, 97, 121], [112, 97, 121, 115], [119, 101, 105, 103, 104, 115], [111, 114], [97, 110, 100], [110, 111, 116], [115, 105, 122, 101], [116, 111, 112], [100, 101, 101, 112], [117, 110, 100, 101, 114], [104, 105, 103, 104], [104, 101, 97, 112]]
def tyX : Nat → Nat → FieldType
  | 0 => tyX0
  | 1 => tyX1
  | 2 => tyX2
  | 3 => tyX3
  | 4 => tyX4
  | 5 => tyX5
  | 6 => tyX6
  | 7 => tyX7
  | 8 => tyX8
  | 9 => tyX9
  | 10 => tyX10
  | 11 => tyX11
  | 12 => tyX12
  | _ => fun _ => .int
/-- which object may be taken for which class -/
def asgX : List (String × String × Bool) := [("GreaterPlates$Free", "GreaterPlates$Free", true), ("GreaterPlates$Free", "GreaterPlates$High", false), ("GreaterPlates$Free", "GreaterPlates$Layer", true), ("GreaterPlates$Free", "GreaterPlates$Near", false), ("GreaterPlates$Free", "GreaterPlates$Sulky", false), ("GreaterPlates$Free", "GreaterPlates$Told", false), ("GreaterPlates$High", "GreaterPlates$Free", false), ("GreaterPlates$High", "GreaterPlates$High", true), ("GreaterPlates$High", "GreaterPlates$Layer", true), ("GreaterPlates$High", "GreaterPlates$Near", true), ("GreaterPlates$High", "GreaterPlates$Sulky", false), ("GreaterPlates$High", "GreaterPlates$Told", false), ("GreaterPlates$Layer", "GreaterPlates$Free", false), ("GreaterPlates$Layer", "GreaterPlates$High", false), ("GreaterPlates$Layer", "GreaterPlates$Layer", true), ("GreaterPlates$Layer", "GreaterPlates$Near", false), ("GreaterPlates$Layer", "GreaterPlates$Sulky", false), ("GreaterPlates$Layer", "GreaterPlates$Told", false), ("GreaterPlates$Near", "GreaterPlates$Free", false), ("GreaterPlates$Near", "GreaterPlates$High", false), ("GreaterPlates$Near", "GreaterPlates$Layer", true), ("GreaterPlates$Near", "GreaterPlates$Near", true), ("GreaterPlates$Near", "GreaterPlates$Sulky", false), ("GreaterPlates$Near", "GreaterPlates$Told", false), ("GreaterPlates$Sulky", "GreaterPlates$Free", false), ("GreaterPlates$Sulky", "GreaterPlates$High", false), ("GreaterPlates$Sulky", "GreaterPlates$Layer", true), ("GreaterPlates$Sulky", "GreaterPlates$Near", true), ("GreaterPlates$Sulky", "GreaterPlates$Sulky", true), ("GreaterPlates$Sulky", "GreaterPlates$Told", false), ("GreaterPlates$Told", "GreaterPlates$Free", true), ("GreaterPlates$Told", "GreaterPlates$High", false), ("GreaterPlates$Told", "GreaterPlates$Layer", true), ("GreaterPlates$Told", "GreaterPlates$Near", false), ("GreaterPlates$Told", "GreaterPlates$Sulky", false), ("GreaterPlates$Told", "GreaterPlates$Told", true)]
/-- the same by their numbers -/
def subX : Nat → Nat → Bool
  | 0, 0 => true
  | 0, 3 => true
  | 2, 2 => true
  | 2, 4 => true
  | 2, 3 => true
  | 3, 3 => true
  | 4, 4 => true
  | 4, 3 => true
  | 8, 8 => true
  | 8, 4 => true
  | 8, 3 => true
  | 10, 10 => true
  | 10, 0 => true
  | 10, 3 => true
  | _, _ => false
def overX : List String := ["GreaterPlates$Layer", "GreaterPlates$Rule", "GreaterPlates$Sheet"]
end
section
/-! THE MEMORY: every number and every reference of the system's cells, by cell (counted from B on) and place; the kind and length of each cell -/
abbrev Mem : Type := (Nat → Nat → Int32) × (Nat → Nat → Option Nat) × List (Nat × Nat)
def mI (σ : Mem) (a k : Nat) : Int32 := σ.1 a k
def mP (σ : Mem) (a k : Nat) : Option Nat := σ.2.1 a k
def mT (σ : Mem) (a : Nat) : Option (Nat × Nat) := σ.2.2[a]?
def mL (σ : Mem) : Nat := σ.2.2.length
def sR (σ : Mem) (a : Nat) (f : Nat → Int32) : Mem := (fun b => if b = a then f else σ.1 b, σ.2)
def sI (σ : Mem) (a k : Nat) (v : Int32) : Mem := sR σ a (upd (σ.1 a) k v)
def sP (σ : Mem) (a k : Nat) (r : Option Nat) : Mem := (σ.1, fun b => if b = a then va_up (σ.2.1 a) k r else σ.2.1 b, σ.2.2)
def mN (σ : Mem) (t : Nat × Nat) : Mem := (fun b => if b = σ.2.2.length then (fun _ => 0) else σ.1 b, fun b => if b = σ.2.2.length then (fun _ => none) else σ.2.1 b, σ.2.2 ++ [t])
theorem mI_sR (σ : Mem) (a b k : Nat) (f : Nat → Int32) : mI (sR σ a f) b k = if b = a then f k else mI σ b k := by
  unfold mI sR
  by_cases h : b = a <;> simp [h]
theorem mI_sI (σ : Mem) (a k : Nat) (v : Int32) (b j : Nat) : mI (sI σ a k v) b j = if b = a then (if j = k then v else mI σ b j) else mI σ b j := by
  unfold mI sI sR upd
  by_cases h : b = a
  · subst h; simp
  · simp [h]
theorem mI_sI_s (σ : Mem) (a k : Nat) (v : Int32) : mI (sI σ a k v) a k = v := by rw [mI_sI, if_pos rfl, if_pos rfl]
theorem mI_sI_n (σ : Mem) {a k : Nat} (v : Int32) {b j : Nat} (h : b ≠ a) : mI (sI σ a k v) b j = mI σ b j := by rw [mI_sI, if_neg h]
theorem mI_sI_k (σ : Mem) {a k : Nat} (v : Int32) {b j : Nat} (h : j ≠ k) : mI (sI σ a k v) b j = mI σ b j := by rw [mI_sI]; split <;> simp [h]
theorem mP_sR (σ : Mem) (a b k : Nat) (f : Nat → Int32) : mP (sR σ a f) b k = mP σ b k := rfl
theorem mP_sI (σ : Mem) (a k : Nat) (v : Int32) (b j : Nat) : mP (sI σ a k v) b j = mP σ b j := rfl
theorem mT_sR (σ : Mem) (a b : Nat) (f : Nat → Int32) : mT (sR σ a f) b = mT σ b := rfl
theorem mT_sI (σ : Mem) (a k : Nat) (v : Int32) (b : Nat) : mT (sI σ a k v) b = mT σ b := rfl
theorem mL_sR (σ : Mem) (a : Nat) (f : Nat → Int32) : mL (sR σ a f) = mL σ := rfl
theorem mL_sI (σ : Mem) (a k : Nat) (v : Int32) : mL (sI σ a k v) = mL σ := rfl
theorem mI_sP (σ : Mem) (a k : Nat) (r : Option Nat) (b j : Nat) : mI (sP σ a k r) b j = mI σ b j := rfl
theorem mT_sP (σ : Mem) (a k : Nat) (r : Option Nat) (b : Nat) : mT (sP σ a k r) b = mT σ b := rfl
theorem mL_sP (σ : Mem) (a k : Nat) (r : Option Nat) : mL (sP σ a k r) = mL σ := rfl
theorem mP_sP (σ : Mem) (a k : Nat) (r : Option Nat) (b j : Nat) : mP (sP σ a k r) b j = if b = a then (if j = k then r else mP σ b j) else mP σ b j := by
  unfold mP sP va_up
  by_cases h : b = a
  · subst h; simp
  · simp [h]
theorem mT_lt {σ : Mem} {a : Nat} {t : Nat × Nat} (h : mT σ a = some t) : a < mL σ := (List.getElem?_eq_some_iff.mp h).1
theorem mI_mN (σ : Mem) (t : Nat × Nat) (b j : Nat) : mI (mN σ t) b j = if b = mL σ then 0 else mI σ b j := by
  unfold mI mN mL
  by_cases h : b = σ.2.2.length <;> simp [h]
theorem mP_mN (σ : Mem) (t : Nat × Nat) (b j : Nat) : mP (mN σ t) b j = if b = mL σ then none else mP σ b j := by
  unfold mP mN mL
  by_cases h : b = σ.2.2.length <;> simp [h]
theorem mL_mN (σ : Mem) (t : Nat × Nat) : mL (mN σ t) = mL σ + 1 := by simp [mL, mN]
theorem mT_mN (σ : Mem) (t : Nat × Nat) (b : Nat) : mT (mN σ t) b = if b = mL σ then some t else mT σ b := by
  unfold mT mN mL
  by_cases h : b = σ.2.2.length
  · subst h; simp
  · rw [if_neg h]
    rcases Nat.lt_or_ge b σ.2.2.length with q | q
    · exact List.getElem?_append_left q
    · rw [List.getElem?_eq_none (by simp; omega), List.getElem?_eq_none q]
/-- what is known for good: references that never change, kinds of cells -/
def mS (ps ts : List (Nat × Nat × Nat)) (σ : Mem) : Prop := (∀ e ∈ ps, mP σ e.1 e.2.1 = some e.2.2 ∧ e.1 < mL σ) ∧ ∀ e ∈ ts, mT σ e.1 = some e.2
theorem mS.sR {ps ts : List (Nat × Nat × Nat)} {σ : Mem} (h : mS ps ts σ) (a : Nat) (f : Nat → Int32) : mS ps ts (sR σ a f) := h
theorem mS.sI {ps ts : List (Nat × Nat × Nat)} {σ : Mem} (h : mS ps ts σ) (a k : Nat) (v : Int32) : mS ps ts (sI σ a k v) := h
theorem mS.mN {ps ts : List (Nat × Nat × Nat)} {σ : Mem} (h : mS ps ts σ) (t : Nat × Nat) : mS ps ts (mN σ t) := by
  refine ⟨fun e he => ⟨?_, ?_⟩, fun e he => ?_⟩
  · rw [mP_mN, if_neg (by have := (h.1 e he).2; omega)]; exact (h.1 e he).1
  · rw [mL_mN]; have := (h.1 e he).2; omega
  · have h1 := h.2 e he
    rw [mT_mN, if_neg (by have := mT_lt h1; omega)]; exact h1
theorem mS.sP {ps ts : List (Nat × Nat × Nat)} {σ : Mem} (h : mS ps ts σ) (a k : Nat) (r : Option Nat) (hn : ∀ e ∈ ps, ¬ (e.1 = a ∧ e.2.1 = k)) : mS ps ts (sP σ a k r) := by
  refine ⟨fun e he => ⟨?_, (h.1 e he).2⟩, fun e he => h.2 e he⟩
  rw [mP_sP]
  by_cases h1 : e.1 = a
  · rw [if_pos h1, if_neg (fun q => hn e he ⟨h1, q⟩)]; exact (h.1 e he).1
  · rw [if_neg h1]; exact (h.1 e he).1
theorem mS.sub {ps ts ps' ts' : List (Nat × Nat × Nat)} {σ : Mem} (h : mS ps ts σ) (hp : ∀ e ∈ ps', e ∈ ps) (ht : ∀ e ∈ ts', e ∈ ts) : mS ps' ts' σ := ⟨fun e he => h.1 e (hp e he), fun e he => h.2 e (ht e he)⟩
/-! its cells -/
def mF (B : Nat) (σ : Mem) (a : Nat) (ks : List Bool) : List Value := ks.mapIdx (fun k b => if b = true then Value.int (σ.1 a k) else va_rf ((σ.2.1 a k).map (fun r => B + r)))
def mE (cy : Nat → ClassId) (B : Nat) (σ : Mem) (a : Nat) (t : Nat × Nat) : va_E :=
  if t.1 < 13 then .inr (t.1, mF B σ a (fkX t.1))
  else if t.1 < 16 then .inl (cy t.1, t.2, .inl (σ.1 a))
  else .inl (cy t.1, t.2, .inr (.inr (.inr (.inr (fun j => (σ.2.1 a j).map (fun r => B + r))))))
def mW (cy : Nat → ClassId) (B : Nat) (σ : Mem) : va_W := σ.2.2.mapIdx (fun a t => (B + a, mE cy B σ a t))
theorem mW_at {cy : Nat → ClassId} {B : Nat} {σ : Mem} {a : Nat} {t : Nat × Nat} (h : mT σ a = some t) : (mW cy B σ)[a]? = some (B + a, mE cy B σ a t) := by
  unfold mW
  rw [List.getElem?_mapIdx]
  unfold mT at h
  rw [h]; rfl
theorem mE_o {cy : Nat → ClassId} {B : Nat} {σ : Mem} {a : Nat} {t : Nat × Nat} (h : t.1 < 13) : mE cy B σ a t = .inr (t.1, mF B σ a (fkX t.1)) := if_pos h
theorem mE_i {cy : Nat → ClassId} {B : Nat} {σ : Mem} {a : Nat} {t : Nat × Nat} (h : 13 ≤ t.1) (h2 : t.1 < 16) : mE cy B σ a t = .inl (cy t.1, t.2, .inl (σ.1 a)) := by
  unfold mE
  rw [if_neg (by omega), if_pos h2]
theorem mE_q {cy : Nat → ClassId} {B : Nat} {σ : Mem} {a : Nat} {t : Nat × Nat} (h : 16 ≤ t.1) : mE cy B σ a t = .inl (cy t.1, t.2, .inr (.inr (.inr (.inr (fun j => (σ.2.1 a j).map (fun r => B + r)))))) := by
  unfold mE
  rw [if_neg (by omega), if_neg (by omega)]
theorem mF_at {B : Nat} {σ : Mem} {a k : Nat} {ks : List Bool} (b : Bool) (h : ks[k]? = some b) : (mF B σ a ks)[k]? = some (if b = true then Value.int (mI σ a k) else va_rf ((mP σ a k).map (fun r => B + r))) := by
  unfold mF
  rw [List.getElem?_mapIdx, h]; rfl
theorem mF_len {B : Nat} {σ : Mem} {a : Nat} {ks : List Bool} : (mF B σ a ks).length = ks.length := by simp [mF]
theorem mF_sI {B : Nat} {σ : Mem} {a k : Nat} {v : Int32} {ks : List Bool} (h : ks[k]? = some true) : (mF B σ a ks).set k (.int v) = mF B (sI σ a k v) a ks := by
  apply List.ext_getElem?
  intro j
  by_cases hj : j = k
  · subst hj
    rw [List.getElem?_set_self (by rw [mF_len]; exact (List.getElem?_eq_some_iff.mp h).1), mF_at true h, mI_sI_s]; rfl
  · rw [List.getElem?_set_ne (Ne.symm hj)]
    unfold mF
    rw [List.getElem?_mapIdx, List.getElem?_mapIdx]
    have e : (sI σ a k v).1 a j = σ.1 a j := mI_sI_k σ v hj
    rw [e]; rfl
theorem mF_sP {B : Nat} {σ : Mem} {a k : Nat} {r : Option Nat} {ks : List Bool} (h : ks[k]? = some false) : (mF B σ a ks).set k (va_rf (r.map (fun r => B + r))) = mF B (sP σ a k r) a ks := by
  apply List.ext_getElem?
  intro j
  by_cases hj : j = k
  · subst hj
    rw [List.getElem?_set_self (by rw [mF_len]; exact (List.getElem?_eq_some_iff.mp h).1), mF_at false h, mP_sP, if_pos rfl, if_pos rfl]; rfl
  · rw [List.getElem?_set_ne (Ne.symm hj)]
    unfold mF
    rw [List.getElem?_mapIdx, List.getElem?_mapIdx]
    have e : (sP σ a k r).2.1 a j = σ.2.1 a j := by
      have := mP_sP σ a k r a j
      rw [if_pos rfl, if_neg hj] at this; exact this
    rw [e]; rfl
theorem mW_ext {cy : Nat → ClassId} {B : Nat} {σ τ : Mem} {a : Nat} {t : Nat × Nat} (hT : mT σ a = some t) (h2 : τ.2.2 = σ.2.2) (ho : ∀ b u, b ≠ a → mE cy B τ b u = mE cy B σ b u) : (mW cy B σ).set a (B + a, mE cy B τ a t) = mW cy B τ := by
  apply List.ext_getElem?
  intro j
  have hl : a < (mW cy B σ).length := (List.getElem?_eq_some_iff.mp (mW_at (cy := cy) (B := B) hT)).1
  by_cases hj : j = a
  · subst hj
    rw [List.getElem?_set_self hl, mW_at (t := t) (by unfold mT; rw [h2]; exact hT)]
  · rw [List.getElem?_set_ne (Ne.symm hj)]
    unfold mW
    rw [List.getElem?_mapIdx, List.getElem?_mapIdx, h2]
    cases σ.2.2[j]? with
    | none => rfl
    | some u => exact congrArg (fun e => some (B + j, e)) (ho j u hj).symm
theorem mE_sR {cy : Nat → ClassId} {B : Nat} {σ : Mem} {a b : Nat} {f : Nat → Int32} {u : Nat × Nat} (h : b ≠ a) : mE cy B (sR σ a f) b u = mE cy B σ b u := by
  have e : (sR σ a f).1 b = σ.1 b := if_neg h
  unfold mE mF
  rw [e]; rfl
theorem mE_sP {cy : Nat → ClassId} {B : Nat} {σ : Mem} {a b k : Nat} {r : Option Nat} {u : Nat × Nat} (h : b ≠ a) : mE cy B (sP σ a k r) b u = mE cy B σ b u := by
  have e : (sP σ a k r).2.1 b = σ.2.1 b := if_neg h
  unfold mE mF
  rw [e]; rfl
theorem mW_D {cy : Nat → ClassId} {B : Nat} {σ : Mem} : va_D (fun q => B ≤ q) (mW cy B σ) := by
  have key : ∀ (k : Nat) (q : Nat × va_E), (mW cy B σ)[k]? = some q → q.1 = B + k := by
    intro k q h
    unfold mW at h
    rw [List.getElem?_mapIdx] at h
    cases hk : σ.2.2[k]? with
    | none => rw [hk] at h; cases h
    | some u => rw [hk] at h; cases h; rfl
  exact ⟨fun i j x y hi hj h => by have := key i x hi; have := key j y hj; omega, fun k q h => by rw [key k q h]; exact Nat.le_add_right B k⟩
theorem mW_N {cy : Nat → ClassId} {B : Nat} {σ : Mem} {t : Nat × Nat} : mW cy B (mN σ t) = mW cy B σ ++ [(B + mL σ, mE cy B (mN σ t) (mL σ) t)] := by
  apply List.ext_getElem?
  intro j
  unfold mW
  rw [List.getElem?_mapIdx]
  have h1 : (mN σ t).2.2[j]? = mT (mN σ t) j := rfl
  rw [h1, mT_mN]
  have hlen : (σ.2.2.mapIdx (fun a t => (B + a, mE cy B σ a t))).length = mL σ := by simp [mL]
  by_cases h : j = mL σ
  · subst h
    rw [if_pos rfl, List.getElem?_append_right (by omega), hlen, Nat.sub_self]; rfl
  · rw [if_neg h]
    rcases Nat.lt_or_ge j (mL σ) with q | q
    · rw [List.getElem?_append_left (by omega), List.getElem?_mapIdx]
      have e1 : (mN σ t).1 j = σ.1 j := if_neg h
      have e2 : (mN σ t).2.1 j = σ.2.1 j := if_neg h
      have e3 : ∀ u, mE cy B (mN σ t) j u = mE cy B σ j u := by
        intro u
        unfold mE mF
        rw [e1, e2]
      show Option.map _ (mT σ j) = Option.map _ (mT σ j)
      congr 1
      funext u
      rw [e3]
    · have e0 : mT σ j = none := List.getElem?_eq_none q
      rw [e0, List.getElem?_eq_none (by simp [mL] at *; omega)]; rfl
end
section
/-! THE WALK OVER THE MEMORY: words, contexts, and a row an instruction -/
def TB : List Cond := lw_tbl.filter goodWord
theorem TB_of {w : Cond} (i : Nat) (h : lw_tbl[i]? = some w) (hg : goodWord w = true) : w ∈ TB := List.mem_filter.mpr ⟨List.mem_of_getElem? h, hg⟩
theorem TB_good {w : Cond} (h : w ∈ TB) : goodWord w = true := (List.mem_filter.mp h).2
theorem TB_goodIn {y : MethodName} {cc : ByteArray} {n : Nat} {ret : Option FieldType} (h : Cond.code y cc n ret ∈ TB) : GoodIn TB (Cond.code y cc n ret :: TB) := by
  intro w hw
  rcases List.mem_cons.mp hw with rfl | hw
  · exact ⟨h, good_of_word (TB_good h)⟩
  · exact ⟨hw, good_of_word (TB_good hw)⟩
/-- the arrays' classes -/
def mTys (cy : Nat → ClassId) : List (ClassId × FieldType) := [(cy 13, .char), (cy 14, .int), (cy 15, .boolean), (cy 16, .object "GreaterPlates$Layer"), (cy 17, .object "GreaterPlates$Rule"), (cy 18, .object "GreaterPlates$Sheet")]
/-- an object of class C may (b) be taken for one of T -/
def asg (C T : String) (b : Bool) (U : State) : Prop := ∃ c t : ClassId, U.vm.findClass C = some c ∧ U.vm.findClass T = some t ∧ U.vm.assignable c t = b
theorem asg.moved {C T : String} {b : Bool} {u U : State} (hvm : u.vm.Alike U.vm) (h : asg C T b u) : asg C T b U := by
  obtain ⟨c, t, h1, h2, h3⟩ := h
  exact ⟨c, t, by rw [hvm.findClass]; exact h1, by rw [hvm.findClass]; exact h2, by rw [hvm.assignable]; exact h3⟩
/-- what stays for good, seen from a state: classes, String constants -/
def mK (cy : Nat → ClassId) (D : va_G) (ad : (Nat → Nat) × (Nat → Nat)) (B : Nat) (U : State) : Prop := va_K D vwCl (mTys cy) U ∧ vk_S 13 lenX bytX ad.1 ad.2 (fun q => B ≤ q) U U.heap ∧ (∀ (i : Nat) (q : String × Nat × String), strX[i]? = some q → vk_R q.1 q.2.1 q.2.2 (ad.1 i) U) ∧ (∀ e ∈ asgX, asg e.1 e.2.1 e.2.2 U) ∧ ∀ C ∈ overX, va_AO C U
theorem mK.warm {cy : Nat → ClassId} {D : va_G} {ad : (Nat → Nat) × (Nat → Nat)} {B : Nat} {s U : State} (h : mK cy D ad B s) (hW : s.WarmedH U.vm) (hq : ∀ a : Nat, a < s.heap.size → ¬ B ≤ a → U.heap[a]? = s.heap[a]?) : mK cy D ad B U :=
  ⟨va_K.moved hW.alike h.1, (h.2.1.moved hW.alike).kept hq, fun i q hi => (h.2.2.1 i q hi).warm hW, fun e he => (h.2.2.2.1 e he).moved hW.alike, fun C hc => (h.2.2.2.2 C hc).moved hW.alike⟩
theorem mK.same {cy : Nat → ClassId} {D : va_G} {ad : (Nat → Nat) × (Nat → Nat)} {B : Nat} {s U : State} (h : mK cy D ad B s) (hv : U.vm = s.vm) (hh : U.heap = s.heap) : mK cy D ad B U := by
  have hA : s.vm.Alike U.vm := by rw [hv]; exact Vm.Alike.refl _
  exact ⟨va_K.moved hA h.1, (h.2.1.moved hA).kept (fun a _ _ => by rw [hh]), fun i q hi => (h.2.2.1 i q hi).same hv, fun e he => (h.2.2.2.1 e he).moved hA, fun C hc => (h.2.2.2.2 C hc).moved hA⟩
/-- the heap holds the memory -/
def mV (cy : Nat → ClassId) (D : va_G) (B : Nat) (ps ts : List (Nat × Nat × Nat)) (σ : Mem) (H : Heap) : Prop := H.size = B + mL σ ∧ va_P D vwCl (mW cy B σ) H ∧ mS ps ts σ
/-- the place of a walk: (program, launch, env, room) (start, method, args, below) (method, code) (array classes, classes, strings) (base, locals) (what is known) -/
abbrev Cx : Type := (Program × Launch × Env × Room) × (State × MethodId × Array Value × List Frame) × (Method × Code) × ((Nat → ClassId) × va_G × ((Nat → Nat) × (Nat → Nat))) × (Nat × Nat) × (List (Nat × Nat × Nat) × List (Nat × Nat × Nat))
def mG (X : Cx) (pc : Nat) (lv : List (Nat × Value)) (st : List Value) (σ : Mem) (kc ks : Nat) (Q : State → Prop) : Prop :=
  ∀ (H : Heap) (locs : List Loc) (ls : Array Slot), mV X.2.2.2.1.1 X.2.2.2.1.2.1 X.2.2.2.2.1.1 X.2.2.2.2.2.1 X.2.2.2.2.2.2 σ H → va_S (fun q => X.2.2.2.2.1.1 ≤ q) X.2.1.1.heap H locs → lv_has ls X.2.2.2.2.1.2 lv →
    W X.1.1 X.1.2.1 X.1.2.2.1 X.1.2.2.2 X.2.1.1 X.2.1.2.1 X.2.1.2.2.1 X.2.1.2.2.2 X.2.2.1.1 X.2.2.1.2 H locs kc ks Q (F0 X.2.1.2.1 pc ls st)
abbrev xB (X : Cx) : Nat := X.2.2.2.2.1.1
abbrev xP (X : Cx) : List (Nat × Nat × Nat) := X.2.2.2.2.2.1
abbrev xT (X : Cx) : List (Nat × Nat × Nat) := X.2.2.2.2.2.2
abbrev xN (X : Cx) : Nat := X.2.2.2.2.1.2
/-- what holds all through a method's body -/
def mOK (X : Cx) (cc : ByteArray) (own : String) (nm : String) (ret : Option FieldType) (d mc ms : Nat) : Prop :=
  X.1.1.tables.exec = Jvm.exec ∧ X.2.2.1.2.code = cc ∧ X.2.2.1.2.maxLocals = xN X ∧ X.2.1.1.vm.findClass own = some X.2.1.2.1.cls ∧ (∀ w ∈ TB, w.before X.2.1.2.2.1 X.2.1.1 = true) ∧ mK X.2.2.2.1.1 X.2.2.2.1.2.1 X.2.2.2.1.2.2 (xB X) X.2.1.1 ∧ X.2.2.1.1.sig.returnType = ret ∧ X.2.2.1.1.locks = false ∧ X.2.2.1.1.name = nm ∧ X.1.2.2.2 = ({ frames := d, cells := mc, slots := ms, locals := 60 * d } : Room) ∧ xB X ≤ X.2.1.1.heap.size
theorem mG.widen {X : Cx} {pc : Nat} {lv : List (Nat × Value)} {st : List Value} {σ : Mem} {kc ks kc' ks' : Nat} {Q : State → Prop} (h1 : kc ≤ kc') (h2 : ks ≤ ks') (k : mG X pc lv st σ kc' ks' Q) : mG X pc lv st σ kc ks Q := fun H locs ls a b c => W.widen h1 h2 (k H locs ls a b c)
theorem mG.loc {X : Cx} {pc : Nat} {lv lv' : List (Nat × Value)} {st : List Value} {σ : Mem} {kc ks : Nat} {Q : State → Prop} (h : ∀ q ∈ lv', q ∈ lv) (k : mG X pc lv' st σ kc ks Q) : mG X pc lv st σ kc ks Q := fun H locs ls a b c => k H locs ls a b ⟨c.1, c.2.1, fun q hq => c.2.2 q (h q hq)⟩
/-- the value of a local -/
def lvG (lv : List (Nat × Value)) (i : Nat) : Option Value := match lv with
  | [] => none
  | q :: r => if q.1 = i then some q.2 else lvG r i
theorem lvG_mem : ∀ {lv : List (Nat × Value)} {i : Nat} {v : Value}, lvG lv i = some v → (i, v) ∈ lv
  | [], _, _, h => by cases h
  | q :: r, i, v, h => by
    unfold lvG at h
    by_cases c : q.1 = i
    · rw [if_pos c] at h
      cases h
      subst c
      exact List.mem_cons_self
    · rw [if_neg c] at h
      exact List.mem_cons_of_mem _ (lvG_mem h)
/-- a local is set -/
abbrev lvS (lv : List (Nat × Value)) (i : Nat) (v : Value) : List (Nat × Value) := (i, v) :: lv.filter (fun q => !(q.1 == i) && !(q.1 + 1 == i && q.2.category == 2))
abbrev lvS2 (lv : List (Nat × Value)) (i : Nat) (v : Value) : List (Nat × Value) := (i, v) :: lv.filter (fun q => !(q.1 == i) && (!(q.1 == i + 1) && !(q.1 + 1 == i && q.2.category == 2)))
section GW
variable {X : Cx} {cc : ByteArray} {own nm : String} {ret : Option FieldType} {d mc ms : Nat} {pc : Nat} {lv : List (Nat × Value)} {st : List Value} {σ : Mem} {kc ks : Nat} {Q : State → Prop}
theorem g_iconst (hC : mOK X cc own nm ret d mc ms) {n : Int} {v : Int32} (hd : decode cc pc = .ok (.iconst n, 1)) (hv : Int32.ofInt n = v) (k : mG X (pc + 1) lv (.int v :: st) σ kc ks Q) : mG X pc lv st σ kc ks Q :=
  fun H locs ls a b c => lv_iconst hC.1 hC.2.1 hd hv (k H locs ls a b c)
theorem g_bipush (hC : mOK X cc own nm ret d mc ms) {n : Int} {v : Int32} (hd : decode cc pc = .ok (.bipush n, 2)) (hv : (Int8.ofInt n).toInt32 = v) (k : mG X (pc + 2) lv (.int v :: st) σ kc ks Q) : mG X pc lv st σ kc ks Q :=
  fun H locs ls a b c => lv_bipush hC.1 hC.2.1 hd hv (k H locs ls a b c)
theorem g_sipush (hC : mOK X cc own nm ret d mc ms) {n : Int} {v : Int32} (hd : decode cc pc = .ok (.sipush n, 3)) (hv : (Int16.ofInt n).toInt32 = v) (k : mG X (pc + 3) lv (.int v :: st) σ kc ks Q) : mG X pc lv st σ kc ks Q :=
  fun H locs ls a b c => lv_sipush hC.1 hC.2.1 hd hv (k H locs ls a b c)
theorem g_lconst (hC : mOK X cc own nm ret d mc ms) {n : Fin 2} {v : Int64} (hd : decode cc pc = .ok (.lconst n, 1)) (hv : Int64.ofNat (n : Nat) = v) (k : mG X (pc + 1) lv (.long v :: st) σ kc ks Q) : mG X pc lv st σ kc ks Q :=
  fun H locs ls a b c => lv_lconst hC.1 hC.2.1 hd hv (k H locs ls a b c)
theorem g_ldc (hC : mOK X cc own nm ret d mc ms) {index : Nat} {v : Int32} (hw : Cond.constant own index v ∈ TB) (hd : decode cc pc = .ok (.ldc index, 2)) (k : mG X (pc + 2) lv (.int v :: st) σ kc ks Q) : mG X pc lv st σ kc ks Q :=
  fun H locs ls a b c => lv_ldc hC.1 hC.2.1 hC.2.2.2.1 (hC.2.2.2.2.1 _ hw) hd (k H locs ls a b c)
theorem g_ldcw (hC : mOK X cc own nm ret d mc ms) {index : Nat} {v : Int32} (hw : Cond.constant own index v ∈ TB) (hd : decode cc pc = .ok (.ldc_w index, 3)) (k : mG X (pc + 3) lv (.int v :: st) σ kc ks Q) : mG X pc lv st σ kc ks Q :=
  fun H locs ls a b c => lv_ldcw hC.1 hC.2.1 hC.2.2.2.1 (hC.2.2.2.2.1 _ hw) hd (k H locs ls a b c)
theorem g_ldc2 (hC : mOK X cc own nm ret d mc ms) {index : Nat} {v : Int64} (hw : Cond.constantLong own index v ∈ TB) (hd : decode cc pc = .ok (.ldc2_w index, 3)) (k : mG X (pc + 3) lv (.long v :: st) σ kc ks Q) : mG X pc lv st σ kc ks Q :=
  fun H locs ls a b c => lv_ldc2 hC.1 hC.2.1 hC.2.2.2.1 (hC.2.2.2.2.1 _ hw) hd (k H locs ls a b c)
theorem g_iload_n (hC : mOK X cc own nm ret d mc ms) {i : Fin 4} {x : Int32} (hd : decode cc pc = .ok (.iload_n i, 1)) (hv : lvG lv i = some (.int x)) (k : mG X (pc + 1) lv (.int x :: st) σ kc ks Q) : mG X pc lv st σ kc ks Q :=
  fun H locs ls a b c => lv_iload_n hC.1 hC.2.1 hd rfl (c.2.2 _ (lvG_mem hv)) (k H locs ls a b c)
theorem g_iload (hC : mOK X cc own nm ret d mc ms) {i : Nat} {x : Int32} (hd : decode cc pc = .ok (.iload i, 2)) (hv : lvG lv i = some (.int x)) (k : mG X (pc + 2) lv (.int x :: st) σ kc ks Q) : mG X pc lv st σ kc ks Q :=
  fun H locs ls a b c => lv_iload hC.1 hC.2.1 hd (c.2.2 _ (lvG_mem hv)) (k H locs ls a b c)
theorem g_lload_n (hC : mOK X cc own nm ret d mc ms) {i : Fin 4} {x : Int64} (hd : decode cc pc = .ok (.lload_n i, 1)) (hv : lvG lv i = some (.long x)) (k : mG X (pc + 1) lv (.long x :: st) σ kc ks Q) : mG X pc lv st σ kc ks Q :=
  fun H locs ls a b c => lv_lload_n hC.1 hC.2.1 hd rfl (c.2.2 _ (lvG_mem hv)) (k H locs ls a b c)
theorem g_lload (hC : mOK X cc own nm ret d mc ms) {i : Nat} {x : Int64} (hd : decode cc pc = .ok (.lload i, 2)) (hv : lvG lv i = some (.long x)) (k : mG X (pc + 2) lv (.long x :: st) σ kc ks Q) : mG X pc lv st σ kc ks Q :=
  fun H locs ls a b c => lv_lload hC.1 hC.2.1 hd (c.2.2 _ (lvG_mem hv)) (k H locs ls a b c)
theorem g_aload_n (hC : mOK X cc own nm ret d mc ms) {i : Fin 4} {x : Nat} (hd : decode cc pc = .ok (.aload_n i, 1)) (hv : lvG lv i = some (.ref x)) (k : mG X (pc + 1) lv (.ref x :: st) σ kc ks Q) : mG X pc lv st σ kc ks Q :=
  fun H locs ls a b c => lv_aload_n hC.1 hC.2.1 hd rfl (c.2.2 _ (lvG_mem hv)) (k H locs ls a b c)
theorem g_aload (hC : mOK X cc own nm ret d mc ms) {i : Nat} {x : Nat} (hd : decode cc pc = .ok (.aload i, 2)) (hv : lvG lv i = some (.ref x)) (k : mG X (pc + 2) lv (.ref x :: st) σ kc ks Q) : mG X pc lv st σ kc ks Q :=
  fun H locs ls a b c => lv_aload hC.1 hC.2.1 hd (c.2.2 _ (lvG_mem hv)) (k H locs ls a b c)
theorem g_aload_nN (hC : mOK X cc own nm ret d mc ms) {i : Fin 4} (hd : decode cc pc = .ok (.aload_n i, 1)) (hv : lvG lv i = some .null) (k : mG X (pc + 1) lv (.null :: st) σ kc ks Q) : mG X pc lv st σ kc ks Q :=
  fun H locs ls a b c => lv_aload_nN hC.1 hC.2.1 hd rfl (c.2.2 _ (lvG_mem hv)) (k H locs ls a b c)
theorem g_aloadN (hC : mOK X cc own nm ret d mc ms) {i : Nat} (hd : decode cc pc = .ok (.aload i, 2)) (hv : lvG lv i = some .null) (k : mG X (pc + 2) lv (.null :: st) σ kc ks Q) : mG X pc lv st σ kc ks Q :=
  fun H locs ls a b c => lv_aloadN hC.1 hC.2.1 hd (c.2.2 _ (lvG_mem hv)) (k H locs ls a b c)
/-- a reference that may be null, as it lies in a local -/
theorem g_aload_nQ (hC : mOK X cc own nm ret d mc ms) {i : Fin 4} {o : Option Nat} (hd : decode cc pc = .ok (.aload_n i, 1)) (hv : lvG lv i = some (va_rf o)) (k : mG X (pc + 1) lv (va_rf o :: st) σ kc ks Q) : mG X pc lv st σ kc ks Q := by
  cases o with
  | none => exact g_aload_nN hC hd hv k
  | some r => exact g_aload_n hC hd hv k
theorem g_aloadQ (hC : mOK X cc own nm ret d mc ms) {i : Nat} {o : Option Nat} (hd : decode cc pc = .ok (.aload i, 2)) (hv : lvG lv i = some (va_rf o)) (k : mG X (pc + 2) lv (va_rf o :: st) σ kc ks Q) : mG X pc lv st σ kc ks Q := by
  cases o with
  | none => exact g_aloadN hC hd hv k
  | some r => exact g_aload hC hd hv k
theorem g_istore_n (hC : mOK X cc own nm ret d mc ms) {i : Fin 4} {x : Int32} (hd : decode cc pc = .ok (.istore_n i, 1)) (hn : (i : Nat) < xN X) {lv' : List (Nat × Value)} (hl : lvS lv i (.int x) = lv') (k : mG X (pc + 1) lv' st σ kc ks Q) : mG X pc lv (.int x :: st) σ kc ks Q :=
  fun H locs ls a b c => lv_istore_n hC.1 hC.2.1 hd rfl c hn hl (fun ls hl => k H locs ls a b hl)
theorem g_istore (hC : mOK X cc own nm ret d mc ms) {i : Nat} {x : Int32} (hd : decode cc pc = .ok (.istore i, 2)) (hn : i < xN X) {lv' : List (Nat × Value)} (hl : lvS lv i (.int x) = lv') (k : mG X (pc + 2) lv' st σ kc ks Q) : mG X pc lv (.int x :: st) σ kc ks Q :=
  fun H locs ls a b c => lv_istore hC.1 hC.2.1 hd c hn hl (fun ls hl => k H locs ls a b hl)
theorem g_lstore_n (hC : mOK X cc own nm ret d mc ms) {i : Fin 4} {x : Int64} (hd : decode cc pc = .ok (.lstore_n i, 1)) (hn : (i : Nat) + 1 < xN X) {lv' : List (Nat × Value)} (hl : lvS2 lv i (.long x) = lv') (k : mG X (pc + 1) lv' st σ kc ks Q) : mG X pc lv (.long x :: st) σ kc ks Q :=
  fun H locs ls a b c => lv_lstore_n hC.1 hC.2.1 hd rfl c hn hl (fun ls hl => k H locs ls a b hl)
theorem g_lstore (hC : mOK X cc own nm ret d mc ms) {i : Nat} {x : Int64} (hd : decode cc pc = .ok (.lstore i, 2)) (hn : i + 1 < xN X) {lv' : List (Nat × Value)} (hl : lvS2 lv i (.long x) = lv') (k : mG X (pc + 2) lv' st σ kc ks Q) : mG X pc lv (.long x :: st) σ kc ks Q :=
  fun H locs ls a b c => lv_lstore hC.1 hC.2.1 hd c hn hl (fun ls hl => k H locs ls a b hl)
theorem g_astore_n (hC : mOK X cc own nm ret d mc ms) {i : Fin 4} {x : Nat} (hd : decode cc pc = .ok (.astore_n i, 1)) (hn : (i : Nat) < xN X) {lv' : List (Nat × Value)} (hl : lvS lv i (.ref x) = lv') (k : mG X (pc + 1) lv' st σ kc ks Q) : mG X pc lv (.ref x :: st) σ kc ks Q :=
  fun H locs ls a b c => lv_astore_n hC.1 hC.2.1 hd rfl c hn hl (fun ls hl => k H locs ls a b hl)
theorem g_astore (hC : mOK X cc own nm ret d mc ms) {i : Nat} {x : Nat} (hd : decode cc pc = .ok (.astore i, 2)) (hn : i < xN X) {lv' : List (Nat × Value)} (hl : lvS lv i (.ref x) = lv') (k : mG X (pc + 2) lv' st σ kc ks Q) : mG X pc lv (.ref x :: st) σ kc ks Q :=
  fun H locs ls a b c => lv_astore hC.1 hC.2.1 hd c hn hl (fun ls hl => k H locs ls a b hl)
theorem g_astore_nQ (hC : mOK X cc own nm ret d mc ms) {i : Fin 4} {o : Option Nat} (hd : decode cc pc = .ok (.astore_n i, 1)) (hn : (i : Nat) < xN X) {lv' : List (Nat × Value)} (hl : lvS lv i (va_rf o) = lv') (k : mG X (pc + 1) lv' st σ kc ks Q) : mG X pc lv (va_rf o :: st) σ kc ks Q := by
  cases o with
  | none => exact fun H locs ls a b c => lv_astore_nN hC.1 hC.2.1 hd rfl c hn hl (fun ls hl => k H locs ls a b hl)
  | some r => exact g_astore_n hC hd hn hl k
theorem g_astoreQ (hC : mOK X cc own nm ret d mc ms) {i : Nat} {o : Option Nat} (hd : decode cc pc = .ok (.astore i, 2)) (hn : i < xN X) {lv' : List (Nat × Value)} (hl : lvS lv i (va_rf o) = lv') (k : mG X (pc + 2) lv' st σ kc ks Q) : mG X pc lv (va_rf o :: st) σ kc ks Q := by
  cases o with
  | none => exact fun H locs ls a b c => lv_astoreN hC.1 hC.2.1 hd c hn hl (fun ls hl => k H locs ls a b hl)
  | some r => exact g_astore hC hd hn hl k
theorem g_iinc (hC : mOK X cc own nm ret d mc ms) {i : Nat} {n : Int} {x v : Int32} (hd : decode cc pc = .ok (.iinc i n, 3)) (hv : lvG lv i = some (.int x)) (he : x + Int32.ofInt n = v) (hn : i < xN X) {lv' : List (Nat × Value)} (hl : lvS lv i (.int v) = lv') (k : mG X (pc + 3) lv' st σ kc ks Q) : mG X pc lv st σ kc ks Q := by
  obtain ⟨j, hj⟩ := List.getElem?_of_mem (lvG_mem hv)
  exact fun H locs ls a b c => lv_iinc hC.1 hC.2.1 hd c hj he hn hl (fun ls hl => k H locs ls a b hl)
theorem g_goto (hC : mOK X cc own nm ret d mc ms) {off : Int} {tgt : Nat} (hd : decode cc pc = .ok (.goto off, 3)) (ht : (pc : Int) + off = (tgt : Int)) (k : mG X tgt lv st σ kc ks Q) : mG X pc lv st σ kc ks Q :=
  fun H locs ls a b c => lv_goto hC.1 hC.2.1 hd ht (k H locs ls a b c)
theorem g_dup (hC : mOK X cc own nm ret d mc ms) {v : Value} (hd : decode cc pc = .ok (.dup, 1)) (hv : v.category = 1) (k : mG X (pc + 1) lv (v :: v :: st) σ kc ks Q) : mG X pc lv (v :: st) σ kc ks Q :=
  fun H locs ls a b c => lv_dup hC.1 hC.2.1 hd hv (k H locs ls a b c)
theorem g_pop (hC : mOK X cc own nm ret d mc ms) {v : Value} (hd : decode cc pc = .ok (.pop, 1)) (hv : v.category = 1) (k : mG X (pc + 1) lv st σ kc ks Q) : mG X pc lv (v :: st) σ kc ks Q :=
  fun H locs ls a b c => lv_pop hC.1 hC.2.1 hd hv (k H locs ls a b c)
theorem g_dup_x1 (hC : mOK X cc own nm ret d mc ms) {v w : Value} (hd : decode cc pc = .ok (.dup_x1, 1)) (hv : v.category = 1) (hw : w.category = 1) (k : mG X (pc + 1) lv (v :: w :: v :: st) σ kc ks Q) : mG X pc lv (v :: w :: st) σ kc ks Q :=
  fun H locs ls a b c => lv_dup_x1 hC.1 hC.2.1 hd hv hw (k H locs ls a b c)
theorem g_dup2 (hC : mOK X cc own nm ret d mc ms) {v w : Value} (hd : decode cc pc = .ok (.dup2, 1)) (hv : v.category = 1) (hw : w.category = 1) (k : mG X (pc + 1) lv (v :: w :: v :: w :: st) σ kc ks Q) : mG X pc lv (v :: w :: st) σ kc ks Q :=
  fun H locs ls a b c => lv_dup2_11 hC.1 hC.2.1 hd hv hw (k H locs ls a b c)
theorem g_null (hC : mOK X cc own nm ret d mc ms) (hd : decode cc pc = .ok (.aconst_null, 1)) (k : mG X (pc + 1) lv (.null :: st) σ kc ks Q) : mG X pc lv st σ kc ks Q :=
  fun H locs ls a b c => lv_null hC.1 hC.2.1 hd (k H locs ls a b c)
theorem g_ifnull (hC : mOK X cc own nm ret d mc ms) {o : Option Nat} {off : Int} {tgt : Nat} (hd : decode cc pc = .ok (.ifnull off, 3)) (ht : (pc : Int) + off = (tgt : Int)) (k1 : o = none → mG X tgt lv st σ kc ks Q) (k2 : ∀ r, o = some r → mG X (pc + 3) lv st σ kc ks Q) : mG X pc lv (va_rf o :: st) σ kc ks Q := by
  cases o with
  | none => exact fun H locs ls a b c => lv_ifnullN hC.1 hC.2.1 hd ht (k1 rfl H locs ls a b c)
  | some r => exact fun H locs ls a b c => lv_ifnull hC.1 hC.2.1 hd (k2 r rfl H locs ls a b c)
theorem g_ifnonnull (hC : mOK X cc own nm ret d mc ms) {o : Option Nat} {off : Int} {tgt : Nat} (hd : decode cc pc = .ok (.ifnonnull off, 3)) (ht : (pc : Int) + off = (tgt : Int)) (k1 : ∀ r, o = some r → mG X tgt lv st σ kc ks Q) (k2 : o = none → mG X (pc + 3) lv st σ kc ks Q) : mG X pc lv (va_rf o :: st) σ kc ks Q := by
  cases o with
  | none => exact fun H locs ls a b c => lv_ifnonnullN hC.1 hC.2.1 hd (k2 rfl H locs ls a b c)
  | some r => exact fun H locs ls a b c => lv_ifnonnull hC.1 hC.2.1 hd ht (k1 r rfl H locs ls a b c)
theorem g_lcmp (hC : mOK X cc own nm ret d mc ms) {x y : Int64} (hd : decode cc pc = .ok (.lcmp, 1)) (k : mG X (pc + 1) lv (.int (lg_cmp x y) :: st) σ kc ks Q) : mG X pc lv (.long y :: .long x :: st) σ kc ks Q :=
  fun H locs ls a b c => W.lcmp hC.1 hC.2.1 hd (k H locs ls a b c)
theorem g_tableOut (hC : mOK X cc own nm ret d mc ms) {dflt lo hi : Int} {offs : Array Int} {len : Nat} {x : Int32} {tgt : Nat} (hd : decode cc pc = .ok (.tableswitch dflt lo hi offs, len)) (h : x.toInt < lo ∨ hi < x.toInt) (ht : (pc : Int) + dflt = (tgt : Int)) (k : mG X tgt lv st σ kc ks Q) : mG X pc lv (.int x :: st) σ kc ks Q :=
  fun H locs ls a b c => lv_tableOut hC.1 hC.2.1 hd h ht (k H locs ls a b c)
theorem g_tableIn (hC : mOK X cc own nm ret d mc ms) {dflt lo hi : Int} {offs : Array Int} {len : Nat} {x : Int32} {off : Int} {tgt : Nat} (hd : decode cc pc = .ok (.tableswitch dflt lo hi offs, len)) (v : Int32) (hx : x = v) (h1 : ¬ v.toInt < lo) (h2 : ¬ hi < v.toInt) (ho : offs[(v.toInt - lo).toNat]? = some off) (ht : (pc : Int) + off = (tgt : Int)) (k : mG X tgt lv st σ kc ks Q) : mG X pc lv (.int x :: st) σ kc ks Q := by
  subst hx
  exact fun H locs ls a b c => lv_tableIn hC.1 hC.2.1 hd h1 h2 ho ht (k H locs ls a b c)
theorem g_iadd (hC : mOK X cc own nm ret d mc ms) {x y : Int32} (hd : decode cc pc = .ok (.iadd, 1)) (k : mG X (pc + 1) lv (.int (x + y) :: st) σ kc ks Q) : mG X pc lv (.int y :: .int x :: st) σ kc ks Q :=
  fun H locs ls a b c => lv_iadd hC.1 hC.2.1 hd (k H locs ls a b c)
theorem g_isub (hC : mOK X cc own nm ret d mc ms) {x y : Int32} (hd : decode cc pc = .ok (.isub, 1)) (k : mG X (pc + 1) lv (.int (x - y) :: st) σ kc ks Q) : mG X pc lv (.int y :: .int x :: st) σ kc ks Q :=
  fun H locs ls a b c => lv_isub hC.1 hC.2.1 hd (k H locs ls a b c)
theorem g_imul (hC : mOK X cc own nm ret d mc ms) {x y : Int32} (hd : decode cc pc = .ok (.imul, 1)) (k : mG X (pc + 1) lv (.int (x * y) :: st) σ kc ks Q) : mG X pc lv (.int y :: .int x :: st) σ kc ks Q :=
  fun H locs ls a b c => lv_imul hC.1 hC.2.1 hd (k H locs ls a b c)
theorem g_iand (hC : mOK X cc own nm ret d mc ms) {x y : Int32} (hd : decode cc pc = .ok (.iand, 1)) (k : mG X (pc + 1) lv (.int (x &&& y) :: st) σ kc ks Q) : mG X pc lv (.int y :: .int x :: st) σ kc ks Q :=
  fun H locs ls a b c => lv_iand hC.1 hC.2.1 hd (k H locs ls a b c)
theorem g_ior (hC : mOK X cc own nm ret d mc ms) {x y : Int32} (hd : decode cc pc = .ok (.ior, 1)) (k : mG X (pc + 1) lv (.int (x ||| y) :: st) σ kc ks Q) : mG X pc lv (.int y :: .int x :: st) σ kc ks Q :=
  fun H locs ls a b c => lv_ior hC.1 hC.2.1 hd (k H locs ls a b c)
theorem g_ixor (hC : mOK X cc own nm ret d mc ms) {x y : Int32} (hd : decode cc pc = .ok (.ixor, 1)) (k : mG X (pc + 1) lv (.int (x ^^^ y) :: st) σ kc ks Q) : mG X pc lv (.int y :: .int x :: st) σ kc ks Q :=
  fun H locs ls a b c => lv_ixor hC.1 hC.2.1 hd (k H locs ls a b c)
theorem g_ladd (hC : mOK X cc own nm ret d mc ms) {x y : Int64} (hd : decode cc pc = .ok (.ladd, 1)) (k : mG X (pc + 1) lv (.long (x + y) :: st) σ kc ks Q) : mG X pc lv (.long y :: .long x :: st) σ kc ks Q :=
  fun H locs ls a b c => lv_ladd hC.1 hC.2.1 hd (k H locs ls a b c)
theorem g_lsub (hC : mOK X cc own nm ret d mc ms) {x y : Int64} (hd : decode cc pc = .ok (.lsub, 1)) (k : mG X (pc + 1) lv (.long (x - y) :: st) σ kc ks Q) : mG X pc lv (.long y :: .long x :: st) σ kc ks Q :=
  fun H locs ls a b c => lv_lsub hC.1 hC.2.1 hd (k H locs ls a b c)
theorem g_lmul (hC : mOK X cc own nm ret d mc ms) {x y : Int64} (hd : decode cc pc = .ok (.lmul, 1)) (k : mG X (pc + 1) lv (.long (x * y) :: st) σ kc ks Q) : mG X pc lv (.long y :: .long x :: st) σ kc ks Q :=
  fun H locs ls a b c => lv_lmul hC.1 hC.2.1 hd (k H locs ls a b c)
theorem g_land (hC : mOK X cc own nm ret d mc ms) {x y : Int64} (hd : decode cc pc = .ok (.land, 1)) (k : mG X (pc + 1) lv (.long (x &&& y) :: st) σ kc ks Q) : mG X pc lv (.long y :: .long x :: st) σ kc ks Q :=
  fun H locs ls a b c => lv_land hC.1 hC.2.1 hd (k H locs ls a b c)
theorem g_lor (hC : mOK X cc own nm ret d mc ms) {x y : Int64} (hd : decode cc pc = .ok (.lor, 1)) (k : mG X (pc + 1) lv (.long (x ||| y) :: st) σ kc ks Q) : mG X pc lv (.long y :: .long x :: st) σ kc ks Q :=
  fun H locs ls a b c => lv_lor hC.1 hC.2.1 hd (k H locs ls a b c)
theorem g_lxor (hC : mOK X cc own nm ret d mc ms) {x y : Int64} (hd : decode cc pc = .ok (.lxor, 1)) (k : mG X (pc + 1) lv (.long (x ^^^ y) :: st) σ kc ks Q) : mG X pc lv (.long y :: .long x :: st) σ kc ks Q :=
  fun H locs ls a b c => lv_lxor hC.1 hC.2.1 hd (k H locs ls a b c)
theorem g_idiv (hC : mOK X cc own nm ret d mc ms) {x y : Int32} (hd : decode cc pc = .ok (.idiv, 1)) (hne : ¬ y = 0) (k : mG X (pc + 1) lv (.int (x / y) :: st) σ kc ks Q) : mG X pc lv (.int y :: .int x :: st) σ kc ks Q :=
  fun H locs ls a b c => lv_idiv hC.1 hC.2.1 hd hne (k H locs ls a b c)
theorem g_irem (hC : mOK X cc own nm ret d mc ms) {x y : Int32} (hd : decode cc pc = .ok (.irem, 1)) (hne : ¬ y = 0) (k : mG X (pc + 1) lv (.int (x - x / y * y) :: st) σ kc ks Q) : mG X pc lv (.int y :: .int x :: st) σ kc ks Q :=
  fun H locs ls a b c => lv_irem hC.1 hC.2.1 hd hne (k H locs ls a b c)
theorem g_ldiv (hC : mOK X cc own nm ret d mc ms) {x y : Int64} (hd : decode cc pc = .ok (.ldiv, 1)) (hne : ¬ y = 0) (k : mG X (pc + 1) lv (.long (x / y) :: st) σ kc ks Q) : mG X pc lv (.long y :: .long x :: st) σ kc ks Q :=
  fun H locs ls a b c => lv_ldiv hC.1 hC.2.1 hd hne (k H locs ls a b c)
theorem g_lrem (hC : mOK X cc own nm ret d mc ms) {x y : Int64} (hd : decode cc pc = .ok (.lrem, 1)) (hne : ¬ y = 0) (k : mG X (pc + 1) lv (.long (x - x / y * y) :: st) σ kc ks Q) : mG X pc lv (.long y :: .long x :: st) σ kc ks Q :=
  fun H locs ls a b c => lv_lrem hC.1 hC.2.1 hd hne (k H locs ls a b c)
theorem g_ineg (hC : mOK X cc own nm ret d mc ms) {x : Int32} (hd : decode cc pc = .ok (.ineg, 1)) (k : mG X (pc + 1) lv (.int (0 - x) :: st) σ kc ks Q) : mG X pc lv (.int x :: st) σ kc ks Q :=
  fun H locs ls a b c => lv_ineg hC.1 hC.2.1 hd (k H locs ls a b c)
theorem g_ishl (hC : mOK X cc own nm ret d mc ms) {x y : Int32} (hd : decode cc pc = .ok (.ishl, 1)) (k : mG X (pc + 1) lv (.int (x <<< (y &&& 31)) :: st) σ kc ks Q) : mG X pc lv (.int y :: .int x :: st) σ kc ks Q :=
  fun H locs ls a b c => lv_ishl hC.1 hC.2.1 hd (k H locs ls a b c)
theorem g_ishr (hC : mOK X cc own nm ret d mc ms) {x y : Int32} (hd : decode cc pc = .ok (.ishr, 1)) (k : mG X (pc + 1) lv (.int (x >>> (y &&& 31)) :: st) σ kc ks Q) : mG X pc lv (.int y :: .int x :: st) σ kc ks Q :=
  fun H locs ls a b c => lv_ishr hC.1 hC.2.1 hd (k H locs ls a b c)
theorem g_iushr (hC : mOK X cc own nm ret d mc ms) {x y : Int32} (hd : decode cc pc = .ok (.iushr, 1)) (k : mG X (pc + 1) lv (.int (x.toUInt32 >>> (y.toUInt32 &&& Int32.toUInt32 31)).toInt32 :: st) σ kc ks Q) : mG X pc lv (.int y :: .int x :: st) σ kc ks Q :=
  fun H locs ls a b c => lv_iushr hC.1 hC.2.1 hd rfl (k H locs ls a b c)
theorem g_i2l (hC : mOK X cc own nm ret d mc ms) {x : Int32} (hd : decode cc pc = .ok (.i2l, 1)) (k : mG X (pc + 1) lv (.long (x.toInt64) :: st) σ kc ks Q) : mG X pc lv (.int x :: st) σ kc ks Q :=
  fun H locs ls a b c => lv_i2l hC.1 hC.2.1 hd rfl (k H locs ls a b c)
theorem g_l2i (hC : mOK X cc own nm ret d mc ms) {x : Int64} (hd : decode cc pc = .ok (.l2i, 1)) (k : mG X (pc + 1) lv (.int (x.toInt32) :: st) σ kc ks Q) : mG X pc lv (.long x :: st) σ kc ks Q :=
  fun H locs ls a b c => lv_l2i hC.1 hC.2.1 hd rfl (k H locs ls a b c)
theorem g_i2b (hC : mOK X cc own nm ret d mc ms) {x : Int32} (hd : decode cc pc = .ok (.i2b, 1)) (k : mG X (pc + 1) lv (.int (x.toInt8.toInt32) :: st) σ kc ks Q) : mG X pc lv (.int x :: st) σ kc ks Q :=
  fun H locs ls a b c => lv_i2b hC.1 hC.2.1 hd rfl (k H locs ls a b c)
theorem g_i2s (hC : mOK X cc own nm ret d mc ms) {x : Int32} (hd : decode cc pc = .ok (.i2s, 1)) (k : mG X (pc + 1) lv (.int (x.toInt16.toInt32) :: st) σ kc ks Q) : mG X pc lv (.int x :: st) σ kc ks Q :=
  fun H locs ls a b c => lv_i2s hC.1 hC.2.1 hd rfl (k H locs ls a b c)
theorem g_i2c (hC : mOK X cc own nm ret d mc ms) {x : Int32} (hd : decode cc pc = .ok (.i2c, 1)) (k : mG X (pc + 1) lv (.int ((x.toUInt32 % 65536).toInt32) :: st) σ kc ks Q) : mG X pc lv (.int x :: st) σ kc ks Q :=
  fun H locs ls a b c => lv_i2c hC.1 hC.2.1 hd rfl (k H locs ls a b c)
theorem g_if_eq (hC : mOK X cc own nm ret d mc ms) {x : Int32} {off : Int} {tgt : Nat} (hd : decode cc pc = .ok (.ifCond .eq off, 3)) (ht : (pc : Int) + off = (tgt : Int)) (k1 : x = 0 → mG X tgt lv st σ kc ks Q) (k2 : ¬ x = 0 → mG X (pc + 3) lv st σ kc ks Q) : mG X pc lv (.int x :: st) σ kc ks Q :=
  fun H locs ls a b c => lv_if_eq hC.1 hC.2.1 hd ht (fun z => k1 z H locs ls a b c) (fun z => k2 z H locs ls a b c)
theorem g_icmp_eq (hC : mOK X cc own nm ret d mc ms) {x y : Int32} {off : Int} {tgt : Nat} (hd : decode cc pc = .ok (.if_icmp .eq off, 3)) (ht : (pc : Int) + off = (tgt : Int)) (k1 : x = y → mG X tgt lv st σ kc ks Q) (k2 : ¬ x = y → mG X (pc + 3) lv st σ kc ks Q) : mG X pc lv (.int y :: .int x :: st) σ kc ks Q :=
  fun H locs ls a b c => lv_icmp_eq hC.1 hC.2.1 hd ht (fun z => k1 z H locs ls a b c) (fun z => k2 z H locs ls a b c)
theorem g_if_ne (hC : mOK X cc own nm ret d mc ms) {x : Int32} {off : Int} {tgt : Nat} (hd : decode cc pc = .ok (.ifCond .ne off, 3)) (ht : (pc : Int) + off = (tgt : Int)) (k1 : ¬ x = 0 → mG X tgt lv st σ kc ks Q) (k2 : x = 0 → mG X (pc + 3) lv st σ kc ks Q) : mG X pc lv (.int x :: st) σ kc ks Q :=
  fun H locs ls a b c => lv_if_ne hC.1 hC.2.1 hd ht (fun z => k1 z H locs ls a b c) (fun z => k2 z H locs ls a b c)
theorem g_icmp_ne (hC : mOK X cc own nm ret d mc ms) {x y : Int32} {off : Int} {tgt : Nat} (hd : decode cc pc = .ok (.if_icmp .ne off, 3)) (ht : (pc : Int) + off = (tgt : Int)) (k1 : ¬ x = y → mG X tgt lv st σ kc ks Q) (k2 : x = y → mG X (pc + 3) lv st σ kc ks Q) : mG X pc lv (.int y :: .int x :: st) σ kc ks Q :=
  fun H locs ls a b c => lv_icmp_ne hC.1 hC.2.1 hd ht (fun z => k1 z H locs ls a b c) (fun z => k2 z H locs ls a b c)
theorem g_if_lt (hC : mOK X cc own nm ret d mc ms) {x : Int32} {off : Int} {tgt : Nat} (hd : decode cc pc = .ok (.ifCond .lt off, 3)) (ht : (pc : Int) + off = (tgt : Int)) (k1 : x < 0 → mG X tgt lv st σ kc ks Q) (k2 : ¬ x < 0 → mG X (pc + 3) lv st σ kc ks Q) : mG X pc lv (.int x :: st) σ kc ks Q :=
  fun H locs ls a b c => lv_if_lt hC.1 hC.2.1 hd ht (fun z => k1 z H locs ls a b c) (fun z => k2 z H locs ls a b c)
theorem g_icmp_lt (hC : mOK X cc own nm ret d mc ms) {x y : Int32} {off : Int} {tgt : Nat} (hd : decode cc pc = .ok (.if_icmp .lt off, 3)) (ht : (pc : Int) + off = (tgt : Int)) (k1 : x < y → mG X tgt lv st σ kc ks Q) (k2 : ¬ x < y → mG X (pc + 3) lv st σ kc ks Q) : mG X pc lv (.int y :: .int x :: st) σ kc ks Q :=
  fun H locs ls a b c => lv_icmp_lt hC.1 hC.2.1 hd ht (fun z => k1 z H locs ls a b c) (fun z => k2 z H locs ls a b c)
theorem g_if_ge (hC : mOK X cc own nm ret d mc ms) {x : Int32} {off : Int} {tgt : Nat} (hd : decode cc pc = .ok (.ifCond .ge off, 3)) (ht : (pc : Int) + off = (tgt : Int)) (k1 : 0 ≤ x → mG X tgt lv st σ kc ks Q) (k2 : ¬ 0 ≤ x → mG X (pc + 3) lv st σ kc ks Q) : mG X pc lv (.int x :: st) σ kc ks Q :=
  fun H locs ls a b c => lv_if_ge hC.1 hC.2.1 hd ht (fun z => k1 z H locs ls a b c) (fun z => k2 z H locs ls a b c)
theorem g_icmp_ge (hC : mOK X cc own nm ret d mc ms) {x y : Int32} {off : Int} {tgt : Nat} (hd : decode cc pc = .ok (.if_icmp .ge off, 3)) (ht : (pc : Int) + off = (tgt : Int)) (k1 : y ≤ x → mG X tgt lv st σ kc ks Q) (k2 : ¬ y ≤ x → mG X (pc + 3) lv st σ kc ks Q) : mG X pc lv (.int y :: .int x :: st) σ kc ks Q :=
  fun H locs ls a b c => lv_icmp_ge hC.1 hC.2.1 hd ht (fun z => k1 z H locs ls a b c) (fun z => k2 z H locs ls a b c)
theorem g_if_gt (hC : mOK X cc own nm ret d mc ms) {x : Int32} {off : Int} {tgt : Nat} (hd : decode cc pc = .ok (.ifCond .gt off, 3)) (ht : (pc : Int) + off = (tgt : Int)) (k1 : 0 < x → mG X tgt lv st σ kc ks Q) (k2 : ¬ 0 < x → mG X (pc + 3) lv st σ kc ks Q) : mG X pc lv (.int x :: st) σ kc ks Q :=
  fun H locs ls a b c => lv_if_gt hC.1 hC.2.1 hd ht (fun z => k1 z H locs ls a b c) (fun z => k2 z H locs ls a b c)
theorem g_icmp_gt (hC : mOK X cc own nm ret d mc ms) {x y : Int32} {off : Int} {tgt : Nat} (hd : decode cc pc = .ok (.if_icmp .gt off, 3)) (ht : (pc : Int) + off = (tgt : Int)) (k1 : y < x → mG X tgt lv st σ kc ks Q) (k2 : ¬ y < x → mG X (pc + 3) lv st σ kc ks Q) : mG X pc lv (.int y :: .int x :: st) σ kc ks Q :=
  fun H locs ls a b c => lv_icmp_gt hC.1 hC.2.1 hd ht (fun z => k1 z H locs ls a b c) (fun z => k2 z H locs ls a b c)
theorem g_if_le (hC : mOK X cc own nm ret d mc ms) {x : Int32} {off : Int} {tgt : Nat} (hd : decode cc pc = .ok (.ifCond .le off, 3)) (ht : (pc : Int) + off = (tgt : Int)) (k1 : x ≤ 0 → mG X tgt lv st σ kc ks Q) (k2 : ¬ x ≤ 0 → mG X (pc + 3) lv st σ kc ks Q) : mG X pc lv (.int x :: st) σ kc ks Q :=
  fun H locs ls a b c => lv_if_le hC.1 hC.2.1 hd ht (fun z => k1 z H locs ls a b c) (fun z => k2 z H locs ls a b c)
theorem g_icmp_le (hC : mOK X cc own nm ret d mc ms) {x y : Int32} {off : Int} {tgt : Nat} (hd : decode cc pc = .ok (.if_icmp .le off, 3)) (ht : (pc : Int) + off = (tgt : Int)) (k1 : x ≤ y → mG X tgt lv st σ kc ks Q) (k2 : ¬ x ≤ y → mG X (pc + 3) lv st σ kc ks Q) : mG X pc lv (.int y :: .int x :: st) σ kc ks Q :=
  fun H locs ls a b c => lv_icmp_le hC.1 hC.2.1 hd ht (fun z => k1 z H locs ls a b c) (fun z => k2 z H locs ls a b c)
end GW
end
section
/-! stores, with the heap's size kept -/
section WS
variable {p : Program} {l : Launch} {e : Env} {R : Room} {s : State} {m : MethodId} {args : Array Value} {below : List Frame} {meth : Method} {c : Code} {H : Heap} {locs : List Loc} {cells slots : Nat} {Q : State → Prop}
variable {cc : ByteArray} {pc : Nat} {ls : Array Slot} {rest : List Value} {D : va_G} {cl : List vw_C} {A : Nat → Prop} {a : Nat} {tys : List (ClassId × FieldType)} {ws : va_W} {H0 : Heap}
theorem w_put (hexec : p.tables.exec = Jvm.exec) (hb : c.code = cc) {own C : String} {T : u_T} {N ci index : Nat} (hts : ∀ w ∈ TB, w.before args s = true) (hin : ∀ w ∈ u_ws C T N, w ∈ TB) (ty0 : Nat → FieldType) (hty : ∀ k, k < N → parseFieldDescriptor (T k).2.2.1 = some (ty0 k)) (hnm : ∀ a, a < N → ∀ b, b < N → a ≠ b → (T a).2.1 ≠ (T b).2.1) (hown : s.vm.findClass own = some m.cls) (hK : va_K D cl tys s) (hP : va_P D cl ws H) (hD : va_D A ws) (hS0 : va_S A H0 H locs) (q0 : Nat) {fs : List Value} (he : ws[q0]? = some (a, .inr (ci, fs))) (hc : cl[ci]? = some (C, T, N)) (k : Nat) (hk : k < N) (hlink : (Cond.fieldLink own index (T k).1 (T k).2.1 (T k).2.2.1).before args s = true) (hfin : (T k).2.2.2 = false ∨ ((T k).2.2.2 = true ∧ meth.name = "<init>" ∧ (T k).1 = own)) {v : Value} (hn : narrow (ty0 k) v = v) (hfit : fits (ty0 k) v = true) (hl : k < fs.length)
    (hdg : decode cc pc = .ok (.putfield index, 3)) (kk : ∀ (H1 : Heap) (locs1 : List Loc), H1.size = H.size → va_P D cl (ws.set q0 (a, .inr (ci, fs.set k v))) H1 → va_S A H0 H1 locs1 → W p l e R s m args below meth c H1 locs1 cells slots Q (F0 m (pc + 3) ls rest)) : W p l e R s m args below meth c H locs cells slots Q (F0 m pc ls (v :: .ref a :: rest)) := by
  have hap := va_apart (own := own) hts hin ty0 hty hnm hK hc
  obtain ⟨r, h1, cell, q1, q2, q3, q4⟩ := hP q0 _ he
  have hr : r = (C, T, N) := Option.some.inj (h1.symm.trans hc)
  subst hr
  obtain ⟨hS, hfc, kC, hkC, hkind⟩ := hK.1 ci _ hc
  obtain ⟨cf, kf, fi, f, hi, hsl⟩ := hS k hk
  have hlay := hts _ (hin _ (u_in_lay hk))
  unfold u_lay at hlay
  have hst := (u_facts hfc hkC (u_lays hts hin hk) hi).1
  rcases hfin with hfin | ⟨hfin, hin2, hdecl⟩
  · rw [if_neg (by rw [hfin]; decide)] at hlay
    have h6 := u_store hfc hkC hkind hlay hi (hty k hk) hn hfit
    refine W.putK hexec hb (f := f) ⟨hown, hlink, ⟨_, _, _, hi⟩, hst⟩ (by rw [q2]; exact h6) q1 q3 (by rw [hsl]; exact k2_hasslot (q4 k hk)) rfl rfl hdg fun H' e1 e2 e3 => ?_
    rw [hsl] at e1 ⊢
    exact kk H' _ e2 (hP.set hD he ⟨_, hc, t_OB.to (V := updV (vp_V fs) k v) ⟨_, e1, q2, q3, t_set q4 hap hk v⟩ (fun j _ => vp_updV_set hl v j)⟩ e3) (hS0.put e2 e3 (hD.2 q0 _ he))
  · rw [if_pos hfin] at hlay
    have hcf : m.cls = cf := by
      obtain ⟨_, _, c', _, _, _, -, -, hf', -, -, -, hown2, -⟩ := Cond.laysFinal_spec hlay
      have e1 : c' = cf := by have := hi.symm.trans hf'; simp at this; exact this.1.symm
      rw [hdecl] at hown2
      rw [← e1]; exact Option.some.inj (hown.symm.trans hown2)
    have h6 := u_fits hfc hkC hkind (Or.inr hlay) hi (hty k hk) hn hfit
    refine W.putFinK hexec hb hown hlink hi hst hcf hin2 (by rw [q2]; exact h6) q1 q3 (by rw [hsl]; exact k2_hasslot (q4 k hk)) rfl rfl hdg fun H' e1 e2 e3 => ?_
    rw [hsl] at e1 ⊢
    exact kk H' _ e2 (hP.set hD he ⟨_, hc, t_OB.to (V := updV (vp_V fs) k v) ⟨_, e1, q2, q3, t_set q4 hap hk v⟩ (fun j _ => vp_updV_set hl v j)⟩ e3) (hS0.put e2 e3 (hD.2 q0 _ he))
theorem w_iast (hexec : p.tables.exec = Jvm.exec) (hb : c.code = cc) (hK : va_K D cl tys s) (hP : va_P D cl ws H) (hD : va_D A ws) (hS : va_S A H0 H locs) (q0 t0 : Nat) {cA : ClassId} {n : Nat} {f : Nat → Int32} (ha : ws[q0]? = some (a, .inl (cA, n, .inl f))) (ht : tys[t0]? = some (cA, .int)) {i : Int32} {x : Int32} (hin : vp_in i n) (hdg : decode cc pc = .ok (.iastore, 1))
    (kk : ∀ (H1 : Heap) (locs1 : List Loc), H1.size = H.size → va_P D cl (ws.set q0 (a, .inl (cA, n, .inl (upd f i.toNatClampNeg x)))) H1 → va_S A H0 H1 locs1 → W p l e R s m args below meth c H1 locs1 cells slots Q (F0 m (pc + 1) ls rest)) : W p l e R s m args below meth c H locs cells slots Q (F0 m pc ls (.int x :: .int i :: .ref a :: rest)) := by
  refine W.iast hexec hb (hP q0 _ ha) ((hK.2 t0 _ ht).1 n (fun j => .int (f j))) (fun q => by cases q) (by show ¬ (i < 0 ∨ (arrV _ _ _).slots.size ≤ _); rw [arrV_size]; exact hin) rfl rfl hdg fun H1 e z oq => ?_
  refine kk H1 _ z (hP.set hD ha ?_ oq) (hS.put z oq (hD.2 q0 _ ha))
  show H1[a]? = some (vp_cell _ _)
  rw [e]
  rw [vp_cell_i, vp_cell_i, arrV_store]
  congr 2
  funext q
  by_cases hq : q = i.toNatClampNeg
  · subst hq
    simp [updV, upd]
    try rfl
  · simp [updV, upd, hq]
theorem w_zast (hexec : p.tables.exec = Jvm.exec) (hb : c.code = cc) (hK : va_K D cl tys s) (hP : va_P D cl ws H) (hD : va_D A ws) (hS : va_S A H0 H locs) (q0 t0 : Nat) {cA : ClassId} {n : Nat} {f : Nat → Int32} (ha : ws[q0]? = some (a, .inl (cA, n, .inl f))) (ht : tys[t0]? = some (cA, .boolean)) {i : Int32} {x : Int32} (hin : vp_in i n) (hdg : decode cc pc = .ok (.bastore, 1))
    (kk : ∀ (H1 : Heap) (locs1 : List Loc), H1.size = H.size → va_P D cl (ws.set q0 (a, .inl (cA, n, .inl (upd f i.toNatClampNeg (vp_nar .boolean x))))) H1 → va_S A H0 H1 locs1 → W p l e R s m args below meth c H1 locs1 cells slots Q (F0 m (pc + 1) ls rest)) : W p l e R s m args below meth c H locs cells slots Q (F0 m pc ls (.int x :: .int i :: .ref a :: rest)) := by
  refine W.zast hexec hb (hP q0 _ ha) ((hK.2 t0 _ ht).1 n (fun j => .int (f j))) (fun q => by cases q) (by show ¬ (i < 0 ∨ (arrV _ _ _).slots.size ≤ _); rw [arrV_size]; exact hin) rfl rfl hdg fun H1 e z oq => ?_
  refine kk H1 _ z (hP.set hD ha ?_ oq) (hS.put z oq (hD.2 q0 _ ha))
  show H1[a]? = some (vp_cell _ _)
  rw [e]
  rw [vp_cell_i, vp_cell_i, arrV_store]
  congr 2
  funext q
  by_cases hq : q = i.toNatClampNeg
  · subst hq
    simp [updV, upd, vp_nar]
    try rfl
  · simp [updV, upd, hq]
theorem w_cast (hexec : p.tables.exec = Jvm.exec) (hb : c.code = cc) (hK : va_K D cl tys s) (hP : va_P D cl ws H) (hD : va_D A ws) (hS : va_S A H0 H locs) (q0 t0 : Nat) {cA : ClassId} {n : Nat} {f : Nat → Int32} (ha : ws[q0]? = some (a, .inl (cA, n, .inl f))) (ht : tys[t0]? = some (cA, .char)) {i : Int32} {x : Int32} (hin : vp_in i n) (hdg : decode cc pc = .ok (.castore, 1))
    (kk : ∀ (H1 : Heap) (locs1 : List Loc), H1.size = H.size → va_P D cl (ws.set q0 (a, .inl (cA, n, .inl (upd f i.toNatClampNeg (vp_nar .char x))))) H1 → va_S A H0 H1 locs1 → W p l e R s m args below meth c H1 locs1 cells slots Q (F0 m (pc + 1) ls rest)) : W p l e R s m args below meth c H locs cells slots Q (F0 m pc ls (.int x :: .int i :: .ref a :: rest)) := by
  refine W.cast hexec hb (hP q0 _ ha) ((hK.2 t0 _ ht).1 n (fun j => .int (f j))) (fun q => by cases q) (by show ¬ (i < 0 ∨ (arrV _ _ _).slots.size ≤ _); rw [arrV_size]; exact hin) rfl rfl hdg fun H1 e z oq => ?_
  refine kk H1 _ z (hP.set hD ha ?_ oq) (hS.put z oq (hD.2 q0 _ ha))
  show H1[a]? = some (vp_cell _ _)
  rw [e]
  rw [vp_cell_i, vp_cell_i, arrV_store]
  congr 2
  funext q
  by_cases hq : q = i.toNatClampNeg
  · subst hq
    simp [updV, upd, vp_nar]
    try rfl
  · simp [updV, upd, hq]
theorem w_astq (hexec : p.tables.exec = Jvm.exec) (hb : c.code = cc) (hK : va_K D cl tys s) (hP : va_P D cl ws H) (hD : va_D A ws) (hS : va_S A H0 H locs) (q0 t0 : Nat) {E : String} {cA : ClassId} {n v : Nat} {f : Nat → Option Nat} (ha : ws[q0]? = some (a, .inl (cA, n, .inr (.inr (.inr (.inr f)))))) (ht : tys[t0]? = some (cA, .object E)) (hr : va_Any E s H v) {i : Int32} (hin : vp_in i n) (hdg : decode cc pc = .ok (.aastore, 1))
    (kk : ∀ (H1 : Heap) (locs1 : List Loc), H1.size = H.size → va_P D cl (ws.set q0 (a, .inl (cA, n, .inr (.inr (.inr (.inr (va_up f i.toNatClampNeg (some v)))))))) H1 → va_S A H0 H1 locs1 → W p l e R s m args below meth c H1 locs1 cells slots Q (F0 m (pc + 1) ls rest)) : W p l e R s m args below meth c H locs cells slots Q (F0 m pc ls (.ref v :: .int i :: .ref a :: rest)) := by
  have hlt : i.toNatClampNeg < n := Nat.not_le.mp fun q => hin (Or.inr q)
  have h0 : ¬ i < 0 := fun q => hin (Or.inl q)
  obtain ⟨cellV, g1, g3, ⟨kC, hkC⟩, hasg⟩ := hr
  obtain ⟨kA, comp, k1, k2, k3, -⟩ := (hK.2 t0 _ ht).2
  obtain ⟨kE, hkE, -⟩ := Vm.findClass_spec k3
  refine W.aast hexec hb (hP q0 _ ha) (fun q h => by cases h) (fun h => by cases h) k1 k2 rfl hkE ⟨h0, by show _ < (arrV _ _ _).slots.size; rw [arrV_size]; exact hlt⟩ g1 (fun q h => by rw [h] at g3; cases g3) hkC (hasg _ k3) rfl rfl hdg fun H1 e z oq => ?_
  refine kk H1 _ z (hP.set hD ha ?_ oq) (hS.put z oq (hD.2 q0 _ ha))
  show H1[a]? = some (vp_cell _ _)
  rw [e]
  rw [vp_cell_q, vp_cell_q, arrV_store]
  congr 2
  funext q
  by_cases hq : q = i.toNatClampNeg
  · subst hq
    simp [updV, va_up, va_rf]
  · simp [updV, va_up, hq]
theorem w_copyi {cc : ByteArray} (hexec : p.tables.exec = Jvm.exec) (hb : c.code = cc) (hml : c.maxLocals = ls.size) {own : String} {index : Nat} (hown : s.vm.findClass own = some m.cls) (hlink : (Cond.methodLink own index arraycopyName).before args s = true) (hnat : (Cond.native arraycopyName).before args s = true) (hstat : (Cond.static arraycopyName).before args s = true) (hini : (Cond.initialized "java/lang/System").before args s = true)
    (hK : va_K D cl tys s) (hP : va_P D cl ws H) (hD : va_D A ws) (hS : va_S A H0 H locs) (q0 q1 t0 t1 : Nat) {a0 : Nat} {c0 c1 : ClassId} {n0 n1 : Nat} {f g : Nat → Int32} (ha0 : ws[q0]? = some (a0, .inl (c0, n0, .inl f))) (ha1 : ws[q1]? = some (a, .inl (c1, n1, .inl g))) (ht0 : tys[t0]? = some (c0, .int)) (ht1 : tys[t1]? = some (c1, .int))
    {sp dp n : Int32} (h1 : ¬ sp < 0) (h2 : ¬ dp < 0) (h3 : ¬ n < 0) (h4 : sp.toNatClampNeg + n.toNatClampNeg ≤ n0) (h5 : dp.toNatClampNeg + n.toNatClampNeg ≤ n1)
    (hframes : 1 ≤ R.frames) (hlocals : (rest.map fun v => v.category).sum + (nativeFrameWords "java/lang/System" "arraycopy" 5 + 11) ≤ R.locals) (hdg : decode cc pc = .ok (.invokestatic index, 3))
    (kk : ∀ (H1 : Heap) (locs1 : List Loc), H1.size = H.size → va_P D cl (ws.set q1 (a, .inl (c1, n1, .inl (va_cpy f g sp.toNatClampNeg dp.toNatClampNeg n.toNatClampNeg)))) H1 → va_S A H0 H1 locs1 → W p l e R s m args below meth c H1 locs1 cells slots Q (F0 m (pc + 3) ls rest)) : W p l e R s m args below meth c H locs cells slots Q (F0 m pc ls (.int n :: .int dp :: .ref a :: .int sp :: .ref a0 :: rest)) := by
  have nn : ∀ z : Int32, ¬ z < 0 → z.toInt = (z.toNatClampNeg : Int) := by
    intro z hz
    have hz0 : (0 : Int) ≤ z.toInt := by
      have := Int32.not_lt.mp hz
      simpa using Int32.le_iff_toInt_le.mp this
    show z.toInt = ((z.toInt.toNat : Nat) : Int)
    omega
  intro T hT X
  have hc0 : H[a0]? = some (vp_cell c0 (n0, .inl f)) := hP q0 _ ha0
  have hc1 : H[a]? = some (vp_cell c1 (n1, .inl g)) := hP q1 _ ha1
  obtain ⟨-, k0, hk0, cm0, hkk0⟩ := (hK.2 t0 _ ht0).1 n0 (fun j => .int (f j))
  obtain ⟨-, k1, hk1, cm1, hkk1⟩ := (hK.2 t1 _ ht1).1 n1 (fun j => .int (g j))
  obtain ⟨vm', X', step⟩ := X.arraycopy hexec hown hlink hnat hstat hini (src := a0) (dst := a) (cs := vp_cell c0 (n0, .inl f)) (cd := vp_cell c1 (n1, .inl g)) (srcPos := sp) (destPos := dp) (n := n) (by rw [hT]; exact hc0) (by rw [hT]; exact hc1)
    (fun _ h => by cases h) (fun _ h => by cases h) (fun h => by cases h) (fun h => by cases h) hk0 hk1 hkk0 hkk1 (by simp [refKind]) h1 h2 h3
    (by rw [nn sp h1, nn n h3]; show ¬ _ > ((arrV c0 n0 (fun j => .int (f j))).slots.size : Int); rw [arrV_size]; omega)
    (by rw [nn dp h2, nn n h3]; show ¬ _ > ((arrV c1 n1 (fun j => .int (g j))).slots.size : Int); rw [arrV_size]; omega)
    (fun vm₁ _ i hi => by
      have e : (vp_cell c0 (n0, .inl f)).slots.getD (sp.toNatClampNeg + i) .null = .int (f (sp.toNatClampNeg + i)) := by
        show (arrV c0 n0 (fun j => .int (f j))).slots.getD _ _ = _
        rw [Array.getD_eq_getD_getElem?, arrV_read _ _ (by omega)]
        rfl
      refine ⟨?_, ?_⟩
      · rw [e]
        rfl
      · rw [e]
        exact trivial)
    (g := F0 m pc ls (.int n :: .int dp :: .ref a :: .int sp :: .ref a0 :: rest)) rfl (by rw [hml]) (rest := rest) rfl (by rw [hb]; exact hdg) hframes (by show 2 * 0 + _ + _ ≤ _; omega)
  have e1 : copied (vp_cell c0 (n0, .inl f)) (vp_cell c1 (n1, .inl g)) sp dp n = vp_cell c1 (n1, .inl (va_cpy f g sp.toNatClampNeg dp.toNatClampNeg n.toNatClampNeg)) := va_copied (fun z => .int z) c0 c1 f g h4
  rw [e1] at X' step
  have hl : a < H.size := (Array.getElem?_eq_some_iff.mp hc1).1
  have hheap : ((T.setVm vm').setCell a (vp_cell c1 (n1, .inl (va_cpy f g sp.toNatClampNeg dp.toNatClampNeg n.toNatClampNeg)))).heap = H.setIfInBounds a (vp_cell c1 (n1, .inl (va_cpy f g sp.toNatClampNeg dp.toNatClampNeg n.toNatClampNeg))) := by rw [← hT]; rfl
  have oq : ∀ q : Nat, q ≠ a → (H.setIfInBounds a (vp_cell c1 (n1, .inl (va_cpy f g sp.toNatClampNeg dp.toNatClampNeg n.toNatClampNeg))))[q]? = H[q]? := fun q hq => by simp [Array.getElem?_setIfInBounds, Ne.symm hq]
  obtain ⟨t, a1, b1⟩ := kk _ _ (by simp) (hP.set hD ha1 (show (H.setIfInBounds a _)[a]? = some _ by simp [Array.getElem?_setIfInBounds, hl]) oq) ⟨by simp; exact hS.1, fun q g1 g2 => by
      rw [oq q (fun e => g2 (by rw [e]; exact hD.2 q1 _ ha1))]
      exact hS.2.1 q g1 g2, fun q hq => by
      rcases List.mem_append.mp hq with h | h
      · exact hS.2.2 q h
      · obtain ⟨z, -, hz⟩ := List.mem_map.mp h
        rw [← hz]
        exact hD.2 q1 _ ha1⟩ _ hheap X'
  exact ⟨t, step t a1, b1⟩
theorem w_new {c0 : Code} (hexec : p.tables.exec = Jvm.exec) (hb : c0.code = cc) {own C : String} {T : u_T} {N ci index : Nat} (hts : ∀ w ∈ TB, w.before args s = true) (hin : ∀ w ∈ u_ws C T N, w ∈ TB) (ty : Nat → FieldType) (hty : ∀ k, k < N → parseFieldDescriptor (T k).2.2.1 = some (ty k)) (hown : s.vm.findClass own = some m.cls) (hcl : (Cond.classLink own index C).before args s = true) (hinst : (Cond.instantiable C N).before args s = true) (hini : (Cond.initialized C).before args s = true)
    (hK : va_K D cl tys s) (hP : va_P D cl ws H) (hS : va_S A H0 H locs) (hc : cl[ci]? = some (C, T, N)) {fs : List Value} (hfs : ∀ j, j < N → defaultValue (ty j) = vp_V fs j) (hcells : cells + 1 ≤ R.cells) (hslots : slots + N ≤ R.slots) (hdg : decode cc pc = .ok (.new index, 3))
    (kk : ∀ (H1 : Heap), H1.size = H.size + 1 → va_P D cl (ws ++ [(H.size, .inr (ci, fs))]) H1 → va_S A H0 H1 locs →
      W p l e R s m args below meth c0 H1 locs (cells + 1) (slots + N) Q (F0 m (pc + 3) ls (.ref H.size :: rest))) : W p l e R s m args below meth c0 H locs cells slots Q (F0 m pc ls rest) := by
  have hKn := hK.1 ci _ hc
  refine W.newcK hexec hb hown hcl hinst hini rfl hdg hcells hslots hKn.2.1 rfl fun H1 kC hkC e1 z1 o1 => ?_
  have hk : ∀ (k : Nat) (x : Nat × va_E), ws[k]? = some x → H1[x.1]? = H[x.1]? := fun k x hx => o1 x.1 ((hP k x hx).lt)
  refine kk H1 z1 ((hP.kept hk).app (fun k x hx => ?_)) ⟨Nat.le_trans hS.1 (by omega), fun x h1 h2 => (o1 x (Nat.lt_of_lt_of_le h1 hS.1)).trans (hS.2.1 x h1 h2), hS.2.2⟩
  have hz : k < 1 := (List.getElem?_eq_some_iff.mp hx).1
  rw [show k = 0 by omega] at hx
  cases hx
  exact ⟨_, hc, (u_born ty hts hin hKn hkC e1 hty).to hfs⟩
theorem w_newa (hexec : p.tables.exec = Jvm.exec) (hb : c.code = cc) {atype : ArrayType} (harr : (Cond.arrayClass (newarray.typeOf atype)).before args s = true) (hP : va_P D cl ws H) (hS : va_S A H0 H locs) {cA : ClassId} (hcA : s.vm.findClass ("[" ++ (newarray.typeOf atype).toString) = some cA)
    {n : Int32} {N' : Nat} {a0 : vp_A} (ha : vp_cell cA a0 = arrV cA N' (fun _ => defaultValue (newarray.typeOf atype))) (hn : ¬ n < 0) (hN : n.toNatClampNeg = N') (hbytes : N' * componentBytes (newarray.typeOf atype) ≤ 536870912) (hcells : cells + 1 ≤ R.cells) (hslots : slots + N' ≤ R.slots) (hdg : decode cc pc = .ok (.newarray atype, 2))
    (kk : ∀ (H1 : Heap), H1.size = H.size + 1 → va_P D cl (ws ++ [(H.size, .inl (cA, a0))]) H1 → va_S A H0 H1 locs →
      W p l e R s m args below meth c H1 locs (cells + 1) (slots + N') Q (F0 m (pc + 2) ls (.ref H.size :: rest))) : W p l e R s m args below meth c H locs cells slots Q (F0 m pc ls (.int n :: rest)) := by
  refine va_newaK hexec hb harr rfl hdg rfl hn hN hbytes hcells hslots rfl fun H1 cA' e1 z1 o1 hAr hNm => ?_
  have he : cA' = cA := Option.some.inj (hNm.symm.trans hcA)
  subst he
  have hk : ∀ (k : Nat) (x : Nat × va_E), ws[k]? = some x → H1[x.1]? = H[x.1]? := fun k x hx => o1 x.1 ((hP k x hx).lt)
  refine kk H1 z1 ((hP.kept hk).app (fun k x hx => ?_)) ⟨Nat.le_trans hS.1 (by omega), fun x h1 h2 => (o1 x (Nat.lt_of_lt_of_le h1 hS.1)).trans (hS.2.1 x h1 h2), hS.2.2⟩
  have hz : k < 1 := (List.getElem?_eq_some_iff.mp hx).1
  rw [show k = 0 by omega] at hx
  cases hx
  show H1[H.size]? = some (vp_cell _ _)
  rw [ha]
  exact e1
theorem w_newq (hexec : p.tables.exec = Jvm.exec) (hb : c.code = cc) {own C : String} {index : Nat} (hown : s.vm.findClass own = some m.cls) (hclink : (Cond.classLink own index C).before args s = true) (hover : va_AO C s) (hP : va_P D cl ws H) (hS : va_S A H0 H locs) {cA : ClassId} (hcA : va_RA s cA (.object C))
    {n : Int32} {N' : Nat} (hn : ¬ n < 0) (hN : n.toNatClampNeg = N') (hbytes : N' * 4 ≤ 536870912) (hcells : cells + 1 ≤ R.cells) (hslots : slots + N' ≤ R.slots) (hdg : decode cc pc = .ok (.anewarray index, 3))
    (kk : ∀ (H1 : Heap), H1.size = H.size + 1 → va_P D cl (ws ++ [(H.size, .inl (cA, N', .inr (.inr (.inr (.inr (fun _ => none))))))]) H1 → va_S A H0 H1 locs →
      W p l e R s m args below meth c H1 locs (cells + 1) (slots + N') Q (F0 m (pc + 3) ls (.ref H.size :: rest))) : W p l e R s m args below meth c H locs cells slots Q (F0 m pc ls (.int n :: rest)) := by
  subst hN
  refine W.anew hexec hb hown hclink (va_AO.use hover) rfl hdg rfl hn hbytes hcells hslots fun cA' kA comp f1 f2 f3 f4 => ?_
  obtain ⟨kA', comp', g1, g2, g3, g4⟩ := hcA
  have he : cA' = cA := Option.some.inj (f1.symm.trans g4)
  subst he
  generalize hH1 : H.push ({ cls := cA', slots := Array.replicate n.toNatClampNeg .null, vm := .none } : Cell) = H1
  have z1 : H1.size = H.size + 1 := by rw [← hH1, Array.size_push]
  have e1 : H1[H.size]? = some (arrV cA' n.toNatClampNeg (fun _ => .null)) := by rw [← hH1, Array.getElem?_push_size, ← arrV_new]
  have o1 : ∀ q : Nat, q < H.size → H1[q]? = H[q]? := fun q hq => by rw [← hH1, Array.getElem?_push, if_neg (Nat.ne_of_lt hq)]
  have hk : ∀ (k : Nat) (x : Nat × va_E), ws[k]? = some x → H1[x.1]? = H[x.1]? := fun k x hx => o1 x.1 ((hP k x hx).lt)
  refine kk H1 z1 ((hP.kept hk).app (fun k x hx => ?_)) ⟨Nat.le_trans hS.1 (by omega), fun x h1 h2 => (o1 x (Nat.lt_of_lt_of_le h1 hS.1)).trans (hS.2.1 x h1 h2), hS.2.2⟩
  have hz : k < 1 := (List.getElem?_eq_some_iff.mp hx).1
  rw [show k = 0 by omega] at hx
  cases hx
  show H1[H.size]? = some (vp_cell _ _)
  rw [vp_cell_q]
  exact e1
end WS
/-! ROWS OVER THE MEMORY: fields, arrays, makings -/
section GH
variable {X : Cx} {cc : ByteArray} {own nm : String} {ret : Option FieldType} {d mc ms : Nat} {pc : Nat} {lv : List (Nat × Value)} {st : List Value} {σ : Mem} {kc ks : Nat} {Q : State → Prop}
/-- a class's field words are among the tables' -/
def fOK (C : String) (T : u_T) (N : Nat) (ty : Nat → FieldType) : Prop := (∀ w ∈ u_ws C T N, w ∈ TB) ∧ (∀ k, k < N → parseFieldDescriptor (T k).2.2.1 = some (ty k)) ∧ (∀ a, a < N → ∀ b, b < N → a ≠ b → (T a).2.1 ≠ (T b).2.1)
/-- a field by its link: own's entry 'index' is field k of class ci, of the kind b (true: a number) -/
def fL (own : String) (index ci k : Nat) (b : Bool) : Prop := ∃ (C : String) (T : u_T) (N : Nat), vwCl[ci]? = some (C, T, N) ∧ fOK C T N (tyX ci) ∧ k < N ∧ (fkX ci)[k]? = some b ∧ ci < 13 ∧ Cond.fieldLink own index (T k).1 (T k).2.1 (T k).2.2.1 ∈ TB
/-- the same where the class that the link names isn't the one that declares it -/
def fLs (own : String) (index ci k : Nat) (b : Bool) : Prop := ∃ (C : String) (T : u_T) (N : Nat) (ref : String), vwCl[ci]? = some (C, T, N) ∧ fOK C T N (tyX ci) ∧ k < N ∧ (fkX ci)[k]? = some b ∧ ci < 13 ∧ Cond.fieldLink own index ref (T k).2.1 (T k).2.2.1 ∈ TB ∧ ∀ (A : Array Value) (s : State), (∀ w ∈ TB, w.before A s = true) → ∀ x, s.fieldFound? (T k).1 (T k).2.1 (T k).2.2.1 = some x → s.fieldFound? ref (T k).2.1 (T k).2.2.1 = some x
theorem fL.s {own : String} {index ci k : Nat} {b : Bool} (h : fL own index ci k b) : fLs own index ci k b := by
  obtain ⟨C, T, N, h1, h2, h3, h4, h5, h6⟩ := h
  exact ⟨C, T, N, _, h1, h2, h3, h4, h5, h6, fun _ _ _ _ q => q⟩
theorem g_getV (hC : mOK X cc own nm ret d mc ms) {index ci k n a : Nat} {b : Bool} (hL : fLs own index ci k b) (hT : mT σ a = some (ci, n)) (hd : decode cc pc = .ok (.getfield index, 3))
    (kk : mG X (pc + 3) lv ((if b = true then Value.int (mI σ a k) else va_rf ((mP σ a k).map (fun r => xB X + r))) :: st) σ kc ks Q) : mG X pc lv (.ref (xB X + a) :: st) σ kc ks Q := by
  obtain ⟨C, T, N, ref, h1, h2, h3, h4, h5, h6, h7⟩ := hL
  intro H locs ls hV hS hl
  have hw := mW_at (cy := X.2.2.2.1.1) (B := xB X) hT
  rw [mE_o h5] at hw
  exact va_get hC.1 hC.2.1 hC.2.2.2.2.1 h2.1 hC.2.2.2.1 hC.2.2.2.2.2.1.1 hV.2.1 a hw h1 k h3 (hC.2.2.2.2.1 _ h6) (h7 _ _ hC.2.2.2.2.1) (mF_at b h4) hd (kk H locs ls hV hS hl)
/-- a field that is a number -/
theorem g_geti (hC : mOK X cc own nm ret d mc ms) {index ci k n a : Nat} (hL : fLs own index ci k true) (hT : mT σ a = some (ci, n)) (hd : decode cc pc = .ok (.getfield index, 3))
    (kk : mG X (pc + 3) lv (.int (mI σ a k) :: st) σ kc ks Q) : mG X pc lv (.ref (xB X + a) :: st) σ kc ks Q := g_getV hC hL hT hd kk
/-- a field that is a reference, or null -/
theorem g_getq (hC : mOK X cc own nm ret d mc ms) {index ci k n a : Nat} (hL : fLs own index ci k false) (hT : mT σ a = some (ci, n)) (hd : decode cc pc = .ok (.getfield index, 3))
    (kk : mG X (pc + 3) lv (va_rf ((mP σ a k).map (fun r => xB X + r)) :: st) σ kc ks Q) : mG X pc lv (.ref (xB X + a) :: st) σ kc ks Q := g_getV hC hL hT hd kk
/-- a field that is a reference -/
theorem g_getr (hC : mOK X cc own nm ret d mc ms) {index ci k n a r : Nat} (hL : fLs own index ci k false) (hT : mT σ a = some (ci, n)) (hp : mP σ a k = some r) (hd : decode cc pc = .ok (.getfield index, 3))
    (kk : mG X (pc + 3) lv (.ref (xB X + r) :: st) σ kc ks Q) : mG X pc lv (.ref (xB X + a) :: st) σ kc ks Q :=
  g_getV hC hL hT hd (by rw [hp]; exact kk)
/-- what is known at every point -/
theorem g_known (kk : mS (xP X) (xT X) σ → mG X pc lv st σ kc ks Q) : mG X pc lv st σ kc ks Q := fun H locs ls hV hS hl => kk hV.2.2 H locs ls hV hS hl
/-- what a put of field k of class ci may be -/
def fW (own nm : String) (index ci k : Nat) (b : Bool) : Prop := fL own index ci k b ∧ ∀ C T N, vwCl[ci]? = some (C, T, N) → ((T k).2.2.2 = false ∨ ((T k).2.2.2 = true ∧ nm = "<init>" ∧ (T k).1 = own))
theorem g_putI (hC : mOK X cc own nm ret d mc ms) {index ci k n a : Nat} {v : Int32} (hL : fW own nm index ci k true) (hT : mT σ a = some (ci, n)) (hn : narrow (tyX ci k) (.int v) = .int v) (hfit : fits (tyX ci k) (.int v) = true) (hd : decode cc pc = .ok (.putfield index, 3))
    (kk : mG X (pc + 3) lv st (sI σ a k v) kc ks Q) : mG X pc lv (.int v :: .ref (xB X + a) :: st) σ kc ks Q := by
  obtain ⟨⟨C, T, N, h1, h2, h3, h4, h5, h6⟩, hf⟩ := hL
  intro H locs ls hV hS hl
  have hw := mW_at (cy := X.2.2.2.1.1) (B := xB X) hT
  have hset : (mW X.2.2.2.1.1 (xB X) σ).set a (xB X + a, .inr (ci, (mF (xB X) σ a (fkX ci)).set k (.int v))) = mW X.2.2.2.1.1 (xB X) (sI σ a k v) := by
    rw [mF_sI h4, ← mW_ext (τ := sI σ a k v) hT rfl (fun b u hb => mE_sR hb), mE_o h5]
  rw [mE_o h5] at hw
  have hlen : k < (mF (xB X) σ a (fkX ci)).length := by rw [mF_len]; exact (List.getElem?_eq_some_iff.mp h4).1
  exact w_put hC.1 hC.2.1 hC.2.2.2.2.1 h2.1 (tyX ci) h2.2.1 h2.2.2 hC.2.2.2.1 hC.2.2.2.2.2.1.1 hV.2.1 mW_D hS a hw h1 k h3 (hC.2.2.2.2.1 _ h6) (by rw [hC.2.2.2.2.2.2.2.2.1]; exact hf C T N h1) hn hfit hlen hd (fun H1 locs1 hz hP1 hS1 => by
      rw [hset] at hP1
      exact kk H1 locs1 ls ⟨hz.trans hV.1, hP1, hV.2.2.sI a k v⟩ hS1 hl)
theorem g_putR (hC : mOK X cc own nm ret d mc ms) {index ci k n a : Nat} {r : Option Nat} (hL : fW own nm index ci k false) (hT : mT σ a = some (ci, n)) (hn : ∀ v, narrow (tyX ci k) (va_rf v) = va_rf v) (hfit : ∀ v, fits (tyX ci k) (va_rf v) = true) (hs : ∀ e ∈ xP X, ¬ (e.1 = a ∧ e.2.1 = k)) (hd : decode cc pc = .ok (.putfield index, 3))
    (kk : mG X (pc + 3) lv st (sP σ a k r) kc ks Q) : mG X pc lv (va_rf (r.map (fun r => xB X + r)) :: .ref (xB X + a) :: st) σ kc ks Q := by
  obtain ⟨⟨C, T, N, h1, h2, h3, h4, h5, h6⟩, hf⟩ := hL
  intro H locs ls hV hS hl
  have hw := mW_at (cy := X.2.2.2.1.1) (B := xB X) hT
  have hset : (mW X.2.2.2.1.1 (xB X) σ).set a (xB X + a, .inr (ci, (mF (xB X) σ a (fkX ci)).set k (va_rf (r.map (fun r => xB X + r))))) = mW X.2.2.2.1.1 (xB X) (sP σ a k r) := by
    rw [mF_sP h4, ← mW_ext (τ := sP σ a k r) hT rfl (fun b u hb => mE_sP hb), mE_o h5]
  rw [mE_o h5] at hw
  have hlen : k < (mF (xB X) σ a (fkX ci)).length := by rw [mF_len]; exact (List.getElem?_eq_some_iff.mp h4).1
  exact w_put hC.1 hC.2.1 hC.2.2.2.2.1 h2.1 (tyX ci) h2.2.1 h2.2.2 hC.2.2.2.1 hC.2.2.2.2.2.1.1 hV.2.1 mW_D hS a hw h1 k h3 (hC.2.2.2.2.1 _ h6) (by rw [hC.2.2.2.2.2.2.2.2.1]; exact hf C T N h1) (hn _) (hfit _) hlen hd (fun H1 locs1 hz hP1 hS1 => by
      rw [hset] at hP1
      exact kk H1 locs1 ls ⟨hz.trans hV.1, hP1, hV.2.2.sP a k r hs⟩ hS1 hl)
theorem mTy_at {cy : Nat → ClassId} {t : Nat} {ty : FieldType} (h : (mTys cy)[t]? = some (cy (13 + t), ty)) : (mTys cy)[t]? = some (cy (13 + t), ty) := h
theorem mW_int {cy : Nat → ClassId} {B : Nat} {σ : Mem} {a t n : Nat} (h1 : 13 ≤ t) (h2 : t < 16) (h : mT σ a = some (t, n)) : (mW cy B σ)[a]? = some (B + a, .inl (cy t, n, .inl (σ.1 a))) := by
  rw [mW_at h, mE_i h1 h2]
theorem mW_ref {cy : Nat → ClassId} {B : Nat} {σ : Mem} {a t n : Nat} (h1 : 16 ≤ t) (h : mT σ a = some (t, n)) : (mW cy B σ)[a]? = some (B + a, .inl (cy t, n, .inr (.inr (.inr (.inr (fun j => (σ.2.1 a j).map (fun r => B + r))))))) := by
  rw [mW_at h, mE_q h1]
theorem g_iald (hC : mOK X cc own nm ret d mc ms) {a n : Nat} {i : Int32} (hT : mT σ a = some (14, n)) (hin : vp_in i n) (hd : decode cc pc = .ok (.iaload, 1)) (kk : mG X (pc + 1) lv (.int (mI σ a i.toNatClampNeg) :: st) σ kc ks Q) : mG X pc lv (.int i :: .ref (xB X + a) :: st) σ kc ks Q :=
  fun H locs ls hV hS hl => va_iald hC.1 hC.2.1 hC.2.2.2.2.2.1.1 hV.2.1 a 1 (mW_int (by decide) (by decide) hT) rfl hin hd (kk H locs ls hV hS hl)
theorem g_zald (hC : mOK X cc own nm ret d mc ms) {a n : Nat} {i : Int32} (hT : mT σ a = some (15, n)) (hin : vp_in i n) (hd : decode cc pc = .ok (.baload, 1)) (kk : mG X (pc + 1) lv (.int (mI σ a i.toNatClampNeg) :: st) σ kc ks Q) : mG X pc lv (.int i :: .ref (xB X + a) :: st) σ kc ks Q :=
  fun H locs ls hV hS hl => va_zald hC.1 hC.2.1 hC.2.2.2.2.2.1.1 hV.2.1 a 2 (mW_int (by decide) (by decide) hT) rfl hin hd (kk H locs ls hV hS hl)
theorem g_cald (hC : mOK X cc own nm ret d mc ms) {a n : Nat} {i : Int32} (hT : mT σ a = some (13, n)) (hin : vp_in i n) (hd : decode cc pc = .ok (.caload, 1)) (kk : mG X (pc + 1) lv (.int (mI σ a i.toNatClampNeg) :: st) σ kc ks Q) : mG X pc lv (.int i :: .ref (xB X + a) :: st) σ kc ks Q :=
  fun H locs ls hV hS hl => va_cald hC.1 hC.2.1 hC.2.2.2.2.2.1.1 hV.2.1 a 0 (mW_int (by decide) (by decide) hT) rfl hin hd (kk H locs ls hV hS hl)
theorem mW_setI {cy : Nat → ClassId} {B : Nat} {σ : Mem} {a t n : Nat} {f : Nat → Int32} (h1 : 13 ≤ t) (h2 : t < 16) (h : mT σ a = some (t, n)) : (mW cy B σ).set a (B + a, .inl (cy t, n, .inl f)) = mW cy B (sR σ a f) := by
  rw [← mW_ext (τ := sR σ a f) h rfl (fun b u hb => mE_sR hb), mE_i h1 h2]
  simp [sR]
theorem g_iast (hC : mOK X cc own nm ret d mc ms) {a n : Nat} {i x : Int32} (hT : mT σ a = some (14, n)) (hin : vp_in i n) (hd : decode cc pc = .ok (.iastore, 1)) (kk : mG X (pc + 1) lv st (sI σ a i.toNatClampNeg x) kc ks Q) : mG X pc lv (.int x :: .int i :: .ref (xB X + a) :: st) σ kc ks Q :=
  fun H locs ls hV hS hl => w_iast hC.1 hC.2.1 hC.2.2.2.2.2.1.1 hV.2.1 mW_D hS a 1 (mW_int (by decide) (by decide) hT) rfl hin hd (fun H1 locs1 hz hP1 hS1 => by
    rw [mW_setI (by decide) (by decide) hT] at hP1
    exact kk H1 locs1 ls ⟨hz.trans hV.1, hP1, hV.2.2.sR a _⟩ hS1 hl)
theorem g_zast (hC : mOK X cc own nm ret d mc ms) {a n : Nat} {i x : Int32} (hT : mT σ a = some (15, n)) (hin : vp_in i n) (hb : vp_nar .boolean x = x) (hd : decode cc pc = .ok (.bastore, 1)) (kk : mG X (pc + 1) lv st (sI σ a i.toNatClampNeg x) kc ks Q) : mG X pc lv (.int x :: .int i :: .ref (xB X + a) :: st) σ kc ks Q :=
  fun H locs ls hV hS hl => w_zast hC.1 hC.2.1 hC.2.2.2.2.2.1.1 hV.2.1 mW_D hS a 2 (mW_int (by decide) (by decide) hT) rfl hin hd (fun H1 locs1 hz hP1 hS1 => by
    rw [mW_setI (by decide) (by decide) hT, hb] at hP1
    exact kk H1 locs1 ls ⟨hz.trans hV.1, hP1, hV.2.2.sR a _⟩ hS1 hl)
theorem g_cast (hC : mOK X cc own nm ret d mc ms) {a n : Nat} {i x : Int32} (hT : mT σ a = some (13, n)) (hin : vp_in i n) (hb : vp_nar .char x = x) (hd : decode cc pc = .ok (.castore, 1)) (kk : mG X (pc + 1) lv st (sI σ a i.toNatClampNeg x) kc ks Q) : mG X pc lv (.int x :: .int i :: .ref (xB X + a) :: st) σ kc ks Q :=
  fun H locs ls hV hS hl => w_cast hC.1 hC.2.1 hC.2.2.2.2.2.1.1 hV.2.1 mW_D hS a 0 (mW_int (by decide) (by decide) hT) rfl hin hd (fun H1 locs1 hz hP1 hS1 => by
    rw [mW_setI (by decide) (by decide) hT, hb] at hP1
    exact kk H1 locs1 ls ⟨hz.trans hV.1, hP1, hV.2.2.sR a _⟩ hS1 hl)
/-- an array's length -/
theorem g_alen (hC : mOK X cc own nm ret d mc ms) {a t n : Nat} (hT : mT σ a = some (t, n)) (h1 : 13 ≤ t) (h2 : t < 19) (hd : decode cc pc = .ok (.arraylength, 1)) (kk : mG X (pc + 1) lv (.int (nI n) :: st) σ kc ks Q) : mG X pc lv (.ref (xB X + a) :: st) σ kc ks Q := by
  intro H locs ls hV hS hl
  by_cases h3 : t < 16
  · have hty : ∃ ty, (mTys X.2.2.2.1.1)[t - 13]? = some (X.2.2.2.1.1 t, ty) := by
      rcases (show t = 13 ∨ t = 14 ∨ t = 15 by omega) with rfl | rfl | rfl <;> exact ⟨_, rfl⟩
    obtain ⟨ty, hty⟩ := hty
    exact va_alen hC.1 hC.2.1 hC.2.2.2.2.2.1.1 hV.2.1 a (t - 13) (mW_int h1 h3 hT) hty rfl hd (kk H locs ls hV hS hl)
  · have hty : ∃ ty, (mTys X.2.2.2.1.1)[t - 13]? = some (X.2.2.2.1.1 t, ty) := by
      rcases (show t = 16 ∨ t = 17 ∨ t = 18 by omega) with rfl | rfl | rfl <;> exact ⟨_, rfl⟩
    obtain ⟨ty, hty⟩ := hty
    exact va_alen hC.1 hC.2.1 hC.2.2.2.2.2.1.1 hV.2.1 a (t - 13) (mW_ref (by omega) hT) hty rfl hd (kk H locs ls hV hS hl)
/-- a place of an array of references -/
theorem g_aald (hC : mOK X cc own nm ret d mc ms) {a t n : Nat} {i : Int32} (hT : mT σ a = some (t, n)) (h1 : 16 ≤ t) (h2 : t < 19) (hin : vp_in i n) (hd : decode cc pc = .ok (.aaload, 1)) (kk : mG X (pc + 1) lv (va_rf ((mP σ a i.toNatClampNeg).map (fun r => xB X + r)) :: st) σ kc ks Q) : mG X pc lv (.int i :: .ref (xB X + a) :: st) σ kc ks Q := by
  intro H locs ls hV hS hl
  have hty : ∃ C, (mTys X.2.2.2.1.1)[t - 13]? = some (X.2.2.2.1.1 t, .object C) := by
    rcases (show t = 16 ∨ t = 17 ∨ t = 18 by omega) with rfl | rfl | rfl <;> exact ⟨_, rfl⟩
  obtain ⟨C, hty⟩ := hty
  exact va_aldq hC.1 hC.2.1 hC.2.2.2.2.2.1.1 hV.2.1 a (t - 13) (mW_ref h1 hT) hty hin hd (kk H locs ls hV hS hl)
/-- an object of class ci may lie in a row of kind t -/
def aOK (ci t : Nat) : Prop := ∃ (q : vw_C) (E : String), vwCl[ci]? = some q ∧ (∀ cy, (mTys cy)[t - 13]? = some (cy t, .object E)) ∧ ((q.1 = E) ∨ (q.1, E, true) ∈ asgX)
theorem g_aast (hC : mOK X cc own nm ret d mc ms) {a t n r ci n' : Nat} {i : Int32} (hT : mT σ a = some (t, n)) (h1 : 16 ≤ t) (hin : vp_in i n) (hR : mT σ r = some (ci, n')) (h3 : ci < 13) (hA : aOK ci t) (hs : ∀ e ∈ xP X, ¬ (e.1 = a ∧ e.2.1 = i.toNatClampNeg)) (hd : decode cc pc = .ok (.aastore, 1)) (kk : mG X (pc + 1) lv st (sP σ a i.toNatClampNeg (some r)) kc ks Q) : mG X pc lv (.ref (xB X + r) :: .int i :: .ref (xB X + a) :: st) σ kc ks Q := by
  obtain ⟨q, E, g1, g2, g3⟩ := hA
  intro H locs ls hV hS hl
  have hwr := mW_at (cy := X.2.2.2.1.1) (B := xB X) hR
  rw [mE_o h3] at hwr
  refine w_astq hC.1 hC.2.1 hC.2.2.2.2.2.1.1 hV.2.1 mW_D hS a (t - 13) (mW_ref h1 hT) (g2 _) (va_rAny hC.2.2.2.2.2.1.1 hV.2.1 hwr g1 ?_) hin hd (fun H1 locs1 hz hP1 hS1 => ?_)
  · intro comp c0 f1 f2
    rcases g3 with g3 | g3
    · obtain ⟨hKn⟩ : Nonempty (ClassAt X.2.1.1 q.1 (X.2.2.2.1.2.1.1 ci)) := ⟨(hC.2.2.2.2.2.1.1.1 ci q g1).2⟩
      have e0 : c0 = X.2.2.2.1.2.1.1 ci := Option.some.inj (f2.symm.trans hKn.1)
      have e1 : comp = X.2.2.2.1.2.1.1 ci := Option.some.inj (f1.symm.trans (by rw [← g3]; exact hKn.1))
      rw [e0, e1]
      exact va_assign hKn
    · obtain ⟨c, t, f3, f4, f5⟩ := hC.2.2.2.2.2.1.2.2.2.1 _ g3
      rw [Option.some.inj (f2.symm.trans f3), Option.some.inj (f1.symm.trans f4)]
      exact f5
  · have e : (mW X.2.2.2.1.1 (xB X) σ).set a (xB X + a, .inl (X.2.2.2.1.1 t, n, .inr (.inr (.inr (.inr (va_up (fun j => (σ.2.1 a j).map (fun r => xB X + r)) i.toNatClampNeg (some (xB X + r)))))))) = mW X.2.2.2.1.1 (xB X) (sP σ a i.toNatClampNeg (some r)) := by
      rw [← mW_ext (τ := sP σ a i.toNatClampNeg (some r)) hT rfl (fun b u hb => mE_sP hb), mE_q h1]
      have hf : va_up (fun j => (σ.2.1 a j).map (fun r => xB X + r)) i.toNatClampNeg (some (xB X + r)) = (fun j => ((sP σ a i.toNatClampNeg (some r)).2.1 a j).map (fun r => xB X + r)) := by
        funext j
        by_cases hj : j = i.toNatClampNeg <;> simp [sP, va_up, hj]
      rw [hf]
    rw [e] at hP1
    exact kk H1 locs1 ls ⟨hz.trans hV.1, hP1, hV.2.2.sP a _ _ hs⟩ hS1 hl
theorem mV.new {X : Cx} {H H1 : Heap} {t : Nat × Nat} (hV : mV X.2.2.2.1.1 X.2.2.2.1.2.1 (xB X) (xP X) (xT X) σ H) (hz : H1.size = H.size + 1) (hP : va_P X.2.2.2.1.2.1 vwCl (mW X.2.2.2.1.1 (xB X) σ ++ [(H.size, mE X.2.2.2.1.1 (xB X) (mN σ t) (mL σ) t)]) H1) : mV X.2.2.2.1.1 X.2.2.2.1.2.1 (xB X) (xP X) (xT X) (mN σ t) H1 := by
  refine ⟨?_, ?_, hV.2.2.mN t⟩
  · rw [mL_mN, hz, hV.1]; omega
  · rw [mW_N, ← hV.1]; exact hP
/-- an object is made -/
def nOK (own : String) (index ci : Nat) : Prop := ∃ (C : String) (T : u_T) (N : Nat), vwCl[ci]? = some (C, T, N) ∧ fOK C T N (tyX ci) ∧ ci < 13 ∧ N = (fkX ci).length ∧ (∀ j, j < N → defaultValue (tyX ci j) = if (fkX ci)[j]? = some true then Value.int 0 else .null) ∧ Cond.classLink own index C ∈ TB ∧ Cond.instantiable C N ∈ TB ∧ Cond.initialized C ∈ TB
theorem g_new (hC : mOK X cc own nm ret d mc ms) {index ci : Nat} (hN : nOK own index ci) (hk : kc + 1 ≤ mc) (hs : ks + (fkX ci).length ≤ ms) (hd : decode cc pc = .ok (.new index, 3)) (kk : mG X (pc + 3) lv (.ref (xB X + mL σ) :: st) (mN σ (ci, 0)) (kc + 1) (ks + (fkX ci).length) Q) : mG X pc lv st σ kc ks Q := by
  obtain ⟨C, T, N, h1, h2, h3, h4, h5, h6, h7, h8⟩ := hN
  intro H locs ls hV hS hl
  have hR := hC.2.2.2.2.2.2.2.2.2.1
  subst h4
  refine w_new (fs := mF (xB X) (mN σ (ci, 0)) (mL σ) (fkX ci)) hC.1 hC.2.1 hC.2.2.2.2.1 h2.1 (tyX ci) h2.2.1 hC.2.2.2.1 (hC.2.2.2.2.1 _ h6) (hC.2.2.2.2.1 _ h7) (hC.2.2.2.2.1 _ h8) hC.2.2.2.2.2.1.1 hV.2.1 hS h1 (fun j hj => ?_) (by rw [hR]; exact hk) (by rw [hR]; exact hs) hd (fun H1 hz hP1 hS1 => ?_)
  · rw [h5 j hj]
    have hb : (fkX ci)[j]? = some (fkX ci)[j] := List.getElem?_eq_getElem hj
    unfold vp_V
    rw [List.getD_eq_getElem?_getD, mF_at _ hb, hb, mI_mN, mP_mN, if_pos rfl, if_pos rfl]
    cases (fkX ci)[j] <;> rfl
  · have e : (xB X + mL σ) = H.size := hV.1.symm
    have := kk H1 locs ls (hV.new hz (by rw [mE_o h3]; exact hP1)) hS1 hl
    rw [e] at this
    exact this
/-- an array of numbers is made -/
def naOK (at_ : ArrayType) (t : Nat) : Prop := 13 ≤ t ∧ t < 16 ∧ Cond.arrayClass (newarray.typeOf at_) ∈ TB ∧ (∀ cy, (mTys cy)[t - 13]? = some (cy t, newarray.typeOf at_)) ∧ defaultValue (newarray.typeOf at_) = .int 0 ∧ componentBytes (newarray.typeOf at_) ≤ 4 ∧ ∀ (s : State) (cA : ClassId), va_RA s cA (newarray.typeOf at_) → s.vm.findClass ("[" ++ (newarray.typeOf at_).toString) = some cA
theorem g_newa (hC : mOK X cc own nm ret d mc ms) {at_ : ArrayType} {t N : Nat} {n : Int32} (hA : naOK at_ t) (hn : ¬ n < 0) (hN : n.toNatClampNeg = N) (hNN : N ≤ 100000) (hk : kc + 1 ≤ mc) (hs : ks + N ≤ ms) (hd : decode cc pc = .ok (.newarray at_, 2)) (kk : mG X (pc + 2) lv (.ref (xB X + mL σ) :: st) (mN σ (t, N)) (kc + 1) (ks + N) Q) : mG X pc lv (.int n :: st) σ kc ks Q := by
  obtain ⟨h1, h2, h3, h4, h5, h6, h7⟩ := hA
  intro H locs ls hV hS hl
  have hR := hC.2.2.2.2.2.2.2.2.2.1
  have hcA := h7 _ _ (hC.2.2.2.2.2.1.1.2 _ _ (h4 X.2.2.2.1.1)).2
  refine w_newa (a0 := (N, .inl (fun _ => 0))) hC.1 hC.2.1 (hC.2.2.2.2.1 _ h3) hV.2.1 hS hcA (by rw [vp_cell_i, h5]) hn hN (Nat.le_trans (Nat.mul_le_mul hNN h6) (by decide)) (by rw [hR]; exact hk) (by rw [hR]; exact hs) hd (fun H1 hz hP1 hS1 => ?_)
  have e : (xB X + mL σ) = H.size := hV.1.symm
  have := kk H1 locs ls (hV.new hz (by rw [mE_i h1 h2]; simpa [mN, mL] using hP1)) hS1 hl
  rw [e] at this
  exact this
/-- an array of references is made -/
def nqOK (own : String) (index t : Nat) : Prop := ∃ C : String, 16 ≤ t ∧ C ∈ overX ∧ (∀ cy, (mTys cy)[t - 13]? = some (cy t, .object C)) ∧ Cond.classLink own index C ∈ TB
theorem g_newq (hC : mOK X cc own nm ret d mc ms) {index t N : Nat} {n : Int32} (hA : nqOK own index t) (hn : ¬ n < 0) (hN : n.toNatClampNeg = N) (hNN : N ≤ 100000) (hk : kc + 1 ≤ mc) (hs : ks + N ≤ ms) (hd : decode cc pc = .ok (.anewarray index, 3)) (kk : mG X (pc + 3) lv (.ref (xB X + mL σ) :: st) (mN σ (t, N)) (kc + 1) (ks + N) Q) : mG X pc lv (.int n :: st) σ kc ks Q := by
  obtain ⟨C, h1, h2, h3, h4⟩ := hA
  intro H locs ls hV hS hl
  have hR := hC.2.2.2.2.2.2.2.2.2.1
  refine w_newq hC.1 hC.2.1 hC.2.2.2.1 (hC.2.2.2.2.1 _ h4) (hC.2.2.2.2.2.1.2.2.2.2 C h2) hV.2.1 hS (hC.2.2.2.2.2.1.1.2 _ _ (h3 X.2.2.2.1.1)).2 hn hN (by omega) (by rw [hR]; exact hk) (by rw [hR]; exact hs) hd (fun H1 hz hP1 hS1 => ?_)
  have e : (xB X + mL σ) = H.size := hV.1.symm
  have := kk H1 locs ls (hV.new hz (by rw [mE_q h1]; simpa [mN, mL] using hP1)) hS1 hl
  rw [e] at this
  exact this
/-- instanceof -/
theorem g_inst (hC : mOK X cc own nm ret d mc ms) {index a ci n : Nat} {b : Bool} {T : String} (hT : mT σ a = some (ci, n)) (h3 : ci < 13) (hw : Cond.classLink own index T ∈ TB) (ha : ∀ q : vw_C, vwCl[ci]? = some q → (q.1, T, b) ∈ asgX) (hd : decode cc pc = .ok (.instanceof index, 3)) (kk : mG X (pc + 3) lv (.int (if b = true then 1 else 0) :: st) σ kc ks Q) : mG X pc lv (.ref (xB X + a) :: st) σ kc ks Q := by
  intro H locs ls hV hS hl
  have hwr := mW_at (cy := X.2.2.2.1.1) (B := xB X) hT
  rw [mE_o h3] at hwr
  obtain ⟨q, hq, -⟩ := hV.2.1 a _ hwr
  have hr := va_recv hC.2.2.2.2.2.1.1 hV.2.1 hq hwr
  have hg := hC.2.2.2.2.2.1.2.2.2.1 _ (ha q hq)
  cases b with
  | false => exact va_instNo hC.1 hC.2.1 hC.2.2.2.1 (hC.2.2.2.2.1 _ hw) hg hr hd (kk H locs ls hV hS hl)
  | true =>
    have hcast : va_Nw (.castable q.1 T) X.2.1.1 := by
      obtain ⟨c, t, f1, f2, f3⟩ := hg
      simp only [va_Nw, Cond.before, Cond.holds, Cond.value]
      simp [f1, f2, f3]
    exact va_instY hC.1 hC.2.1 hC.2.2.2.1 (hC.2.2.2.2.1 _ hw) hcast hr hd (kk H locs ls hV hS hl)
end GH
end
section
/-! CONTRACTS OVER THE MEMORY, calls, returns -/
/-- what a method leaves -/
def mR (cy : Nat → ClassId) (D : va_G) (B : Nat) (ps ts : List (Nat × Nat × Nat)) (Qp : Option Value → Mem → Prop) : Array Value → State → Outcome → State → Prop := fun _ st oc t => (∃ (rv : Option Value) (σ' : Mem), oc = .returned rv ∧ Qp rv σ' ∧ mV cy D B ps ts σ' t.heap) ∧ va_F (fun q => B ≤ q) st t
/-- what a method starts from -/
def mPc (cy : Nat → ClassId) (D : va_G) (ad : (Nat → Nat) × (Nat → Nat)) (B : Nat) (ps ts : List (Nat × Nat × Nat)) (av : List Value) (σ : Mem) : Array Value → State → Prop := va_Pc av (fun U => mV cy D B ps ts σ U.heap ∧ mK cy D ad B U)
abbrev mRm (d mc ms : Nat) : Room := { frames := d, cells := mc, slots := ms, locals := 60 * d }
/-- the fixed part of a run: launch, array classes, classes, strings, base -/
abbrev Fx : Type := Launch × ((Nat → ClassId) × va_G × ((Nat → Nat) × (Nat → Nat))) × Nat
/-- A CONTRACT: method y, called with these values over the memory σ, returns; of its answer and the memory behind it Qp holds -/
def mM (Z : Fx) (ps ts : List (Nat × Nat × Nat)) (y : MethodName) (cc : ByteArray) (maxL : Nat) (ret : Option FieldType) (d mc ms : Nat) (av : List Value) (σ : Mem) (Qp : Option Value → Mem → Prop) : Prop :=
  Met Z.1 y (Cond.code y cc maxL ret :: TB) (mRm d mc ms) (mPc Z.2.1.1 Z.2.1.2.1 Z.2.1.2.2 Z.2.2 ps ts av σ) (mR Z.2.1.1 Z.2.1.2.1 Z.2.2 ps ts Qp) mc ms (fun q => Z.2.2 ≤ q)
/-- the end of a method's walk -/
def mQ (X : Cx) (mc ms : Nat) (Qp : Option Value → Mem → Prop) : State → Prop := MQ X.2.1.2.2.2 (mR X.2.2.2.1.1 X.2.2.2.1.2.1 (xB X) (xP X) (xT X) Qp) X.2.1.2.2.1 X.2.1.1 mc ms (fun q => xB X ≤ q)
abbrev xZ (X : Cx) : Fx := (X.1.2.1, X.2.2.2.1, xB X)
theorem mPc_blind {cy : Nat → ClassId} {D : va_G} {ad : (Nat → Nat) × (Nat → Nat)} {B : Nat} {ps ts : List (Nat × Nat × Nat)} {av : List Value} {σ : Mem} : FrameBlind (mPc cy D ad B ps ts av σ) := fun a U g mk h => ⟨h.1, h.2.1, h.2.2.same (s := U) (U := U.calling g mk a) rfl rfl⟩
theorem mM.of {Z : Fx} {ps ts : List (Nat × Nat × Nat)} {y : MethodName} {cc : ByteArray} {maxL : Nat} {ret : Option FieldType} {d mc ms : Nat} {av : List Value} {σ : Mem} {Qp : Option Value → Mem → Prop} (hy : plainName y.cls = true) (hlen : (lg_sl av).length ≤ maxL) {lv : List (Nat × Value)} (hlv : lv_args 0 av = lv)
    (body : ∀ X : Cx, xZ X = Z → xP X = ps → xT X = ts → xN X = maxL → mOK X cc y.cls y.name ret d mc ms → mG X 0 lv [] σ 0 0 (mQ X mc ms Qp)) : mM Z ps ts y cc maxL ret d mc ms av σ Qp := by
  obtain ⟨l, ⟨cy, D, ad⟩, B⟩ := Z
  refine Met.ofW (cc := cc) (maxL := maxL) (ret := ret) hy rfl ?_
  intro p e s m args below meth c s₁ BL hml hv
  obtain ⟨hargs, hV, hK⟩ := hv
  subst hargs
  have hts : ∀ w ∈ TB, w.before av.toArray s = true := fun w hw => atoms_spec (ws := Cond.code y cc maxL ret :: TB) BL.pre w (List.mem_cons_of_mem _ hw)
  have hown : s.vm.findClass y.cls = some m.cls := findClass_of_methodNamed BL.named
  have hB : B ≤ s.heap.size := by rw [hV.1]; exact Nat.le_add_right _ _
  have hb := body ((p, l, e, mRm d mc ms), (s, m, av.toArray, below), (meth, c), (cy, D, ad), (B, maxL), (ps, ts)) rfl rfl rfl rfl ⟨BL.exec, BL.bytes, hml, hown, hts, hK, BL.returns, BL.notSynchronized, (name_of_methodNamed BL.named BL.method).1, rfl, hB⟩
  rw [lg_entry_eq]
  have hl := lv_entry av (n := maxL) hlen
  rw [hlv] at hl
  exact hb s.heap [] _ hV va_S.rf hl
section GC
variable {X : Cx} {cc : ByteArray} {own nm : String} {ret : Option FieldType} {d mc ms : Nat} {pc : Nat} {lv : List (Nat × Value)} {st : List Value} {σ : Mem} {kc ks : Nat} {Q : State → Prop}
theorem g_vret {Qp : Option Value → Mem → Prop} (hC : mOK X cc own nm none d mc ms) (hk : kc ≤ mc) (hs : ks ≤ ms) (hd : decode cc pc = .ok (.return_, 1)) (h : mS (xP X) (xT X) σ → Qp none σ) : mG X pc lv [] σ kc ks (mQ X mc ms Qp) := by
  refine mG.widen hk hs ?_
  intro H locs ls hV hS hl
  exact W.vret hC.1 hC.2.1 hC.2.2.2.2.2.2.1 (fun t ht hW => ⟨⟨none, σ, rfl, h hV.2.2, by rw [ht]; exact hV⟩, hS.F ht⟩) hS.2.2 hd hC.2.2.2.2.2.2.2.1
theorem g_iret {Qp : Option Value → Mem → Prop} {ty : FieldType} {v : Int32} (hC : mOK X cc own nm (some ty) d mc ms) (hn : narrow ty (.int v) = .int v) (hk : kc ≤ mc) (hs : ks ≤ ms) (hd : decode cc pc = .ok (.ireturn, 1)) (h : mS (xP X) (xT X) σ → Qp (some (.int v)) σ) : mG X pc lv [.int v] σ kc ks (mQ X mc ms Qp) := by
  refine mG.widen hk hs ?_
  intro H locs ls hV hS hl
  exact W.zret hC.1 hC.2.1 hC.2.2.2.2.2.2.1 hn (fun t ht hW => ⟨⟨_, σ, rfl, h hV.2.2, by rw [ht]; exact hV⟩, hS.F ht⟩) hS.2.2 hd hC.2.2.2.2.2.2.2.1
theorem g_lret {Qp : Option Value → Mem → Prop} {v : Int64} (hC : mOK X cc own nm (some .long) d mc ms) (hk : kc ≤ mc) (hs : ks ≤ ms) (hd : decode cc pc = .ok (.lreturn, 1)) (h : mS (xP X) (xT X) σ → Qp (some (.long v)) σ) : mG X pc lv [.long v] σ kc ks (mQ X mc ms Qp) := by
  refine mG.widen hk hs ?_
  intro H locs ls hV hS hl
  exact W.lret hC.1 hC.2.1 hC.2.2.2.2.2.2.1 (fun t ht hW => ⟨⟨_, σ, rfl, h hV.2.2, by rw [ht]; exact hV⟩, hS.F ht⟩) hS.2.2 hd hC.2.2.2.2.2.2.2.1
theorem g_aret {Qp : Option Value → Mem → Prop} {rt : FieldType} {o : Option Nat} (hC : mOK X cc own nm (some rt) d mc ms) (hrt : (∃ n, rt = .object n) ∨ ∃ t, rt = .array t) (hk : kc ≤ mc) (hs : ks ≤ ms) (hd : decode cc pc = .ok (.areturn, 1)) (h : mS (xP X) (xT X) σ → Qp (some (va_rf o)) σ) : mG X pc lv [va_rf o] σ kc ks (mQ X mc ms Qp) := by
  refine mG.widen hk hs ?_
  intro H locs ls hV hS hl
  refine W.aret hC.1 hC.2.1 hC.2.2.2.2.2.2.1 hrt ?_ (fun t ht hW => ⟨⟨_, σ, rfl, h hV.2.2, by rw [ht]; exact hV⟩, hS.F ht⟩) hS.2.2 hd hC.2.2.2.2.2.2.2.1
  cases o with
  | none => exact Or.inl rfl
  | some r => exact Or.inr ⟨_, rfl⟩
/-- behind a call -/
theorem m_call {p : Program} {l : Launch} {e : Env} {R : Room} {s : State} {m : MethodId} {args : Array Value} {below : List Frame} {meth : Method} {c : Code} {H H0 : Heap} {locs : List Loc} {cells slots mc' ms' : Nat} {ls : Array Slot} {rest st0 : List Value} {a : Array Value} {cy : Nat → ClassId} {D : va_G} {B : Nat} {ps ts : List (Nat × Nat × Nat)} {Qp : Option Value → Mem → Prop}
    (hr : va_Run p l e R s m args below meth c H locs cells slots mc' ms' (F0 m pc ls st0) rest (mR cy D B ps ts Qp a) (fun q => B ≤ q)) (hS : va_S (fun q => B ≤ q) H0 H locs)
    (kk : ∀ (rv : Option Value) (σ' : Mem) (H1 : Heap) (locs1 : List Loc), Qp rv σ' → mV cy D B ps ts σ' H1 → va_S (fun q => B ≤ q) H0 H1 locs1 → W p l e R s m args below meth c H1 locs1 (cells + mc') (slots + ms') Q (F0 m (pc + 3) ls (rv.toList ++ rest))) : W p l e R s m args below meth c H locs cells slots Q (F0 m pc ls st0) := by
  intro T hT X
  obtain ⟨v, st₀, t, T', L, h0, X', hL, e1, e2, ⟨⟨rv, σ', hv, hp, hb⟩, hz, hk⟩, st⟩ := hr T hT X
  cases hv
  rw [h0] at hz hk
  obtain ⟨t2, a1, b1⟩ := kk v σ' T'.heap (locs ++ L) hp (by rw [e1]; exact hb)
    ⟨Nat.le_trans hS.1 (by rw [e1]; exact hz), fun q h1 h2 => by rw [e1, hk q (Nat.lt_of_lt_of_le h1 hS.1) h2]; exact hS.2.1 q h1 h2, fun q hq => by
      rcases List.mem_append.mp hq with h | h
      · exact hS.2.2 q h
      · exact hL q h⟩ T' rfl X'
  exact ⟨t2, st t2 a1, b1⟩
/-- a callee's own words -/
def yW (y : MethodName) (bytes : ByteArray) (maxL : Nat) (rt : Option FieldType) (n : Nat) : Prop := Cond.code y bytes maxL rt ∈ TB ∧ Cond.initialized y.cls ∈ TB ∧ maxL ≤ 41 ∧ y.cls ≠ "java/lang/invoke/MethodHandle" ∧ y.cls ≠ "java/lang/invoke/VarHandle" ∧ (parseMethodDescriptor y.desc).map (fun d => d.parameters.length) = some n
/-- of an instance method, called by itself -/
def yV (y : MethodName) : Prop := Cond.instanceMethod y ∈ TB ∧ Cond.selects y.cls y y ∈ TB
def yS (y : MethodName) : Prop := Cond.static y ∈ TB
def yI (y : MethodName) : Prop := Cond.instanceMethod y ∈ TB ∧ y.name = "<init>"
/-- of an instance method that a class C selects, where x is named -/
def yU (C : String) (x y : MethodName) : Prop := Cond.sameMethod x.cls x.cls x.name x.desc ∈ TB ∧ Cond.selects C x y ∈ TB ∧ Cond.instanceMethod y ∈ TB ∧ Cond.instanceMethod x ∈ TB ∧ (∃ b n r, Cond.code x b n r ∈ TB) ∧ x.desc = y.desc ∧ x.cls ≠ "java/lang/invoke/MethodHandle" ∧ x.cls ≠ "java/lang/invoke/VarHandle"
/-- of a superclass' method -/
def yP (own : String) (y : MethodName) : Prop := Cond.sameMethod y.cls y.cls y.name y.desc ∈ TB ∧ Cond.superclass own y.cls ∈ TB ∧ Cond.instanceMethod y ∈ TB ∧ y.name ≠ "<init>"
theorem m_B (hC : mOK X cc own nm ret d mc ms) {index n maxL d' mc' ms' : Nat} {y : MethodName} {bytes : ByteArray} {rt : Option FieldType} (hW : yW y bytes maxL rt n) (hL : Cond.methodLink own index y ∈ TB) (hd' : d' + 1 ≤ d) : CallB X.1.2.2.2 X.2.1.1 X.2.1.2.2.1 own index y bytes maxL rt (Cond.code y bytes maxL rt :: TB) (mRm d' mc' ms') mc' ms' n := by
  obtain ⟨w1, w2, w3, w4, w5, w6⟩ := hW
  have hR := hC.2.2.2.2.2.2.2.2.2.1
  refine callB_of n hC.2.2.2.2.1 (TB_goodIn w1) rfl rfl rfl (hC.2.2.2.2.1 _ w2) (hC.2.2.2.2.1 _ hL) ⟨w4, w5, w6⟩ ?_
  rw [hR]
  exact ⟨hd', by show 8 + (maxL + 11) + 60 * d' ≤ 60 * d; omega⟩
theorem m_pre {H : Heap} {locs : List Loc} {ps' ts' : List (Nat × Nat × Nat)} (hC : mOK X cc own nm ret d mc ms) (hV : mV X.2.2.2.1.1 X.2.2.2.1.2.1 (xB X) ps' ts' σ H) (hS : va_S (fun q => xB X ≤ q) X.2.1.1.heap H locs) (av : List Value) : ∀ U : State, U.heap = H → X.2.1.1.WarmedH U.vm → mPc X.2.2.2.1.1 X.2.2.2.1.2.1 X.2.2.2.1.2.2 (xB X) ps' ts' av σ av.toArray U :=
  fun U hU hW => ⟨rfl, by rw [hU]; exact hV, hC.2.2.2.2.2.1.warm hW (fun a h1 h2 => by rw [hU]; exact hS.2.1 a h1 h2)⟩
variable {index n maxL d' mc' ms' : Nat} {y : MethodName} {bytes : ByteArray} {rt : Option FieldType} {As : List Value} {ps' ts' : List (Nat × Nat × Nat)} {Qp : Option Value → Mem → Prop}
theorem g_callV (hC : mOK X cc own nm ret d mc ms) {a ci n0 : Nat} (hT : mT σ a = some (ci, n0)) (h13 : ci < 13) (hcl : ∀ q : vw_C, vwCl[ci]? = some q → q.1 = y.cls) (hW : yW y bytes maxL rt n) (hY : yV y) (hL : Cond.methodLink own index y ∈ TB) (hd : decode cc pc = .ok (.invokevirtual index, 3))
    (hp : ∀ e ∈ xP X, e ∈ ps') (ht : ∀ e ∈ xT X, e ∈ ts') (hσ : mS (xP X) (xT X) σ → mS ps' ts' σ) (hM : mM (xZ X) ps' ts' y bytes maxL rt d' mc' ms' (.ref (xB X + a) :: As) σ Qp)
    (hn : As.length = n) (hst : (st.map fun v => v.category).sum ≤ 8) (hd' : d' + 1 ≤ d) (hk : kc + mc' ≤ mc) (hs : ks + ms' ≤ ms)
    (kk : ∀ rv σ', Qp rv σ' → mG X (pc + 3) lv (rv.toList ++ st) σ' (kc + mc') (ks + ms') Q) : mG X pc lv (As.reverse ++ .ref (xB X + a) :: st) σ kc ks Q := by
  intro H locs ls hV hS hl
  have hR := hC.2.2.2.2.2.2.2.2.2.1
  have hwr := mW_at (cy := X.2.2.2.1.1) (B := xB X) hT
  rw [mE_o h13] at hwr
  obtain ⟨q, hq, -⟩ := hV.2.1 a _ hwr
  have hr := va_recv hC.2.2.2.2.2.1.1 hV.2.1 hq hwr
  rw [hcl q hq] at hr
  have hV' : mV X.2.2.2.1.1 X.2.2.2.1.2.1 (xB X) ps' ts' σ H := ⟨hV.1, hV.2.1, hσ hV.2.2⟩
  refine m_call (va_runV (As := As) (rest := st) ⟨hC.1, hC.2.1, hC.2.2.1, hC.2.2.2.1, hC.2.2.2.2.1⟩ hM ⟨m_B hC hW hL hd', hC.2.2.2.2.1 _ hY.1, hC.2.2.2.2.1 _ hY.2⟩ ⟨mPc_blind, hr, m_pre hC hV' hS _⟩ rfl hn hl.1 rfl (lv_room hst) hd (by rw [hR]; exact ⟨hk, hs⟩)) hS (fun rv σ' H1 locs1 h1 h2 h3 => ?_)
  exact kk rv σ' h1 H1 locs1 ls ⟨h2.1, h2.2.1, h2.2.2.sub hp ht⟩ h3 hl
theorem g_callS (hC : mOK X cc own nm ret d mc ms) (hW : yW y bytes maxL rt n) (hY : yS y) (hL : Cond.methodLink own index y ∈ TB) (hd : decode cc pc = .ok (.invokestatic index, 3))
    (hp : ∀ e ∈ xP X, e ∈ ps') (ht : ∀ e ∈ xT X, e ∈ ts') (hσ : mS (xP X) (xT X) σ → mS ps' ts' σ) (hM : mM (xZ X) ps' ts' y bytes maxL rt d' mc' ms' As σ Qp)
    (hn : As.length = n) (hst : (st.map fun v => v.category).sum ≤ 8) (hd' : d' + 1 ≤ d) (hk : kc + mc' ≤ mc) (hs : ks + ms' ≤ ms)
    (kk : ∀ rv σ', Qp rv σ' → mG X (pc + 3) lv (rv.toList ++ st) σ' (kc + mc') (ks + ms') Q) : mG X pc lv (As.reverse ++ st) σ kc ks Q := by
  intro H locs ls hV hS hl
  have hR := hC.2.2.2.2.2.2.2.2.2.1
  have hV' : mV X.2.2.2.1.1 X.2.2.2.1.2.1 (xB X) ps' ts' σ H := ⟨hV.1, hV.2.1, hσ hV.2.2⟩
  refine m_call (va_runS (As := As) (rest := st) ⟨hC.1, hC.2.1, hC.2.2.1, hC.2.2.2.1, hC.2.2.2.2.1⟩ hM ⟨m_B hC hW hL hd', hC.2.2.2.2.1 _ hY⟩ ⟨mPc_blind, m_pre hC hV' hS _⟩ rfl hn hl.1 rfl (lv_room hst) hd (by rw [hR]; exact ⟨hk, hs⟩)) hS (fun rv σ' H1 locs1 h1 h2 h3 => ?_)
  exact kk rv σ' h1 H1 locs1 ls ⟨h2.1, h2.2.1, h2.2.2.sub hp ht⟩ h3 hl
theorem g_callI (hC : mOK X cc own nm ret d mc ms) {a : Nat} (hW : yW y bytes maxL none n) (hY : yI y) (hL : Cond.methodLink own index y ∈ TB) (hd : decode cc pc = .ok (.invokespecial index, 3))
    (hp : ∀ e ∈ xP X, e ∈ ps') (ht : ∀ e ∈ xT X, e ∈ ts') (hσ : mS (xP X) (xT X) σ → mS ps' ts' σ) (hM : mM (xZ X) ps' ts' y bytes maxL none d' mc' ms' (.ref (xB X + a) :: As) σ Qp)
    (hn : As.length = n) (hst : (st.map fun v => v.category).sum ≤ 8) (hd' : d' + 1 ≤ d) (hk : kc + mc' ≤ mc) (hs : ks + ms' ≤ ms)
    (kk : ∀ rv σ', Qp rv σ' → mG X (pc + 3) lv (rv.toList ++ st) σ' (kc + mc') (ks + ms') Q) : mG X pc lv (As.reverse ++ .ref (xB X + a) :: st) σ kc ks Q := by
  intro H locs ls hV hS hl
  have hR := hC.2.2.2.2.2.2.2.2.2.1
  have hV' : mV X.2.2.2.1.1 X.2.2.2.1.2.1 (xB X) ps' ts' σ H := ⟨hV.1, hV.2.1, hσ hV.2.2⟩
  refine m_call (va_runI (As := As) (rest := st) ⟨hC.1, hC.2.1, hC.2.2.1, hC.2.2.2.1, hC.2.2.2.2.1⟩ hM ⟨m_B hC hW hL hd', hY.2, hC.2.2.2.2.1 _ hY.1⟩ ⟨mPc_blind, m_pre hC hV' hS _⟩ rfl hn hl.1 rfl (lv_room hst) hd (by rw [hR]; exact ⟨hk, hs⟩)) hS (fun rv σ' H1 locs1 h1 h2 h3 => ?_)
  exact kk rv σ' h1 H1 locs1 ls ⟨h2.1, h2.2.1, h2.2.2.sub hp ht⟩ h3 hl
theorem g_callU (hC : mOK X cc own nm ret d mc ms) {a ci n0 : Nat} {C : String} {x : MethodName} (hT : mT σ a = some (ci, n0)) (h13 : ci < 13) (hcl : ∀ q : vw_C, vwCl[ci]? = some q → q.1 = C) (hW : yW y bytes maxL rt n) (hY : yU C x y) (hL : Cond.methodLink own index x ∈ TB) (hd : decode cc pc = .ok (.invokevirtual index, 3))
    (hp : ∀ e ∈ xP X, e ∈ ps') (ht : ∀ e ∈ xT X, e ∈ ts') (hσ : mS (xP X) (xT X) σ → mS ps' ts' σ) (hM : mM (xZ X) ps' ts' y bytes maxL rt d' mc' ms' (.ref (xB X + a) :: As) σ Qp)
    (hn : As.length = n) (hst : (st.map fun v => v.category).sum ≤ 8) (hd' : d' + 1 ≤ d) (hk : kc + mc' ≤ mc) (hs : ks + ms' ≤ ms)
    (kk : ∀ rv σ', Qp rv σ' → mG X (pc + 3) lv (rv.toList ++ st) σ' (kc + mc') (ks + ms') Q) : mG X pc lv (As.reverse ++ .ref (xB X + a) :: st) σ kc ks Q := by
  intro H locs ls hV hS hl
  have hR := hC.2.2.2.2.2.2.2.2.2.1
  have hts := hC.2.2.2.2.1
  have hwr := mW_at (cy := X.2.2.2.1.1) (B := xB X) hT
  rw [mE_o h13] at hwr
  obtain ⟨q, hq, -⟩ := hV.2.1 a _ hwr
  have hr := va_recv hC.2.2.2.2.2.1.1 hV.2.1 hq hwr
  rw [hcl q hq] at hr
  have hV' : mV X.2.2.2.1.1 X.2.2.2.1.2.1 (xB X) ps' ts' σ H := ⟨hV.1, hV.2.1, hσ hV.2.2⟩
  obtain ⟨u1, u2, u3, u4, ⟨b, nn, r, u5⟩, u6, u7, u8⟩ := hY
  obtain ⟨w1, w2, w3, w4, w5, w6⟩ := hW
  have cw : va_CU X.1.2.2.2 X.2.1.1 X.2.1.2.2.1 own C x.cls index x y bytes maxL rt (Cond.code y bytes maxL rt :: TB) (mRm d' mc' ms') mc' ms' n := by
    refine ⟨⟨rfl, rfl, by rw [hR]; exact hd', by rw [hR]; show 8 + (maxL + 11) + 60 * d' ≤ 60 * d; omega, pay_in hts (TB_goodIn w1), List.mem_cons_self⟩, hts _ w1, hts _ w2, ⟨u7, u8⟩, fun sig h => ?_, hts _ hL, hts _ u1, va_Decl.of (hts _ u4) (hts _ u5), hts _ u2, hts _ u3⟩
    rw [u6] at h
    rw [h] at w6
    exact (Option.some.inj w6).symm
  refine m_call (va_runU (As := As) (rest := st) ⟨hC.1, hC.2.1, hC.2.2.1, hC.2.2.2.1, hts⟩ hM cw ⟨mPc_blind, hr, m_pre hC hV' hS _⟩ rfl hn hl.1 rfl (lv_room hst) hd (by rw [hR]; exact ⟨hk, hs⟩)) hS (fun rv σ' H1 locs1 h1 h2 h3 => ?_)
  exact kk rv σ' h1 H1 locs1 ls ⟨h2.1, h2.2.1, h2.2.2.sub hp ht⟩ h3 hl
theorem g_callP (hC : mOK X cc own nm ret d mc ms) {a ci n0 : Nat} (hT : mT σ a = some (ci, n0)) (h13 : ci < 13) (hW : yW y bytes maxL rt n) (hY : yP own y) (hL : Cond.methodLink own index y ∈ TB) (hd : decode cc pc = .ok (.invokespecial index, 3))
    (hp : ∀ e ∈ xP X, e ∈ ps') (ht : ∀ e ∈ xT X, e ∈ ts') (hσ : mS (xP X) (xT X) σ → mS ps' ts' σ) (hM : mM (xZ X) ps' ts' y bytes maxL rt d' mc' ms' (.ref (xB X + a) :: As) σ Qp)
    (hn : As.length = n) (hst : (st.map fun v => v.category).sum ≤ 8) (hd' : d' + 1 ≤ d) (hk : kc + mc' ≤ mc) (hs : ks + ms' ≤ ms)
    (kk : ∀ rv σ', Qp rv σ' → mG X (pc + 3) lv (rv.toList ++ st) σ' (kc + mc') (ks + ms') Q) : mG X pc lv (As.reverse ++ .ref (xB X + a) :: st) σ kc ks Q := by
  intro H locs ls hV hS hl
  have hR := hC.2.2.2.2.2.2.2.2.2.1
  have hts := hC.2.2.2.2.1
  have hwr := mW_at (cy := X.2.2.2.1.1) (B := xB X) hT
  rw [mE_o h13] at hwr
  obtain ⟨q, hq, -⟩ := hV.2.1 a _ hwr
  have hr := va_recv hC.2.2.2.2.2.1.1 hV.2.1 hq hwr
  have hV' : mV X.2.2.2.1.1 X.2.2.2.1.2.1 (xB X) ps' ts' σ H := ⟨hV.1, hV.2.1, hσ hV.2.2⟩
  have cw := va_cwSU (R := X.1.2.2.2) (s := X.2.1.1) (args := X.2.1.2.2.1) (own := own) (index := index) (maxL := maxL) (mc := mc') (ms := ms') (y := y) (bytes := bytes) (ret := rt) (ws := Cond.code y bytes maxL rt :: TB) (rm := mRm d' mc' ms') n hts (fun w h => by
    rcases List.mem_append.mp h with h | h
    · simp only [List.mem_cons, List.not_mem_nil, or_false] at h
      have hm : w ∈ TB := by
        rcases h with rfl | rfl | rfl | rfl | rfl
        · exact hL
        · exact hY.1
        · exact hY.2.1
        · exact hY.2.2.1
        · exact hW.2.1
      exact ⟨hm, good_of_word (TB_good hm)⟩
    · exact TB_goodIn hW.1 w h) rfl rfl rfl ⟨hY.2.2.2, hW.2.2.2.2.2⟩ (by rw [hR]; have := hW.2.2.1; exact ⟨hd', by show 8 + (maxL + 11) + 60 * d' ≤ 60 * d; omega⟩)
  refine m_call (va_runSU (As := As) (rest := st) (hC.2.2.2.2.2.1.1.1 ci q hq).2 ⟨hC.1, hC.2.1, hC.2.2.1, hC.2.2.2.1, hts⟩ hM cw ⟨mPc_blind, hr, m_pre hC hV' hS _⟩ rfl hn hl.1 rfl (lv_room hst) hd (by rw [hR]; exact ⟨hk, hs⟩)) hS (fun rv σ' H1 locs1 h1 h2 h3 => ?_)
  exact kk rv σ' h1 H1 locs1 ls ⟨h2.1, h2.2.1, h2.2.2.sub hp ht⟩ h3 hl
/-- Object's own <init> -/
theorem g_objInit (hC : mOK X cc own nm ret d mc ms) {a : Nat} (h1 : Cond.methodLink own index Lib.objectInit ∈ TB) (h2 : Cond.instanceMethod Lib.objectInit ∈ TB) (h3 : Cond.code Lib.objectInit ⟨#[0xb1]⟩ 1 none ∈ TB) (hst : (st.map fun v => v.category).sum ≤ 8) (hd1 : 1 ≤ d) (hd : decode cc pc = .ok (.invokespecial index, 3)) (kk : mG X (pc + 3) lv st σ kc ks Q) : mG X pc lv (.ref a :: st) σ kc ks Q := by
  intro H locs ls hV hS hl
  have hR := hC.2.2.2.2.2.2.2.2.2.1
  have hts := hC.2.2.2.2.1
  refine W.objInit hC.1 hC.2.1 hC.2.2.2.1 (hts _ h1) (hts _ h2) (hts _ h3) rfl (by rw [hC.2.2.1]; exact hl.1) rfl hd (by rw [hR]; exact hd1) ?_ (W.eq (g2 := F0 X.2.1.2.1 (pc + 3) ls st) rfl (kk H locs ls hV hS hl))
  rw [hR]
  have := lv_room (m := X.2.1.2.1) (pc := pc) (ls := ls) (rest := (.ref a :: st)) hst
  show _ + 12 ≤ 60 * d
  omega
end GC
/-! shapes for the generated rows -/
/-- a reference or null of the memory, as a value -/
abbrev rq (X : Cx) (o : Option Nat) : Value := va_rf (o.map (fun r => xB X + r))
def qV (Q : Mem → Prop) : Option Value → Mem → Prop := fun rv σ => rv = none ∧ Q σ
def qI (Q : Int32 → Mem → Prop) : Option Value → Mem → Prop := fun rv σ => ∃ v, rv = some (.int v) ∧ Q v σ
def qJ (Q : Int64 → Mem → Prop) : Option Value → Mem → Prop := fun rv σ => ∃ v, rv = some (.long v) ∧ Q v σ
def qA (B : Nat) (Q : Option Nat → Mem → Prop) : Option Value → Mem → Prop := fun rv σ => ∃ o : Option Nat, rv = some (va_rf (o.map (fun r => B + r))) ∧ Q o σ
/-- a number that a boolean may be -/
def bz (v : Int32) : Prop := narrow .boolean (.int v) = .int v
theorem bz0 : bz 0 := rfl
theorem bz1 : bz 1 := rfl
/-- the kinds of Layer -/
def lyK (ci : Nat) : Prop := ci = 0 ∨ ci = 2 ∨ ci = 3 ∨ ci = 4 ∨ ci = 8 ∨ ci = 10
section GS
variable {X : Cx} {cc : ByteArray} {own nm : String} {ret : Option FieldType} {d mc ms : Nat} {pc : Nat} {lv : List (Nat × Value)} {st : List Value} {σ : Mem} {kc ks : Nat} {Q : State → Prop}
theorem kV {P : Mem → Prop} (h : ∀ σ', P σ' → mG X pc lv st σ' kc ks Q) : ∀ rv σ', qV P rv σ' → mG X pc lv (rv.toList ++ st) σ' kc ks Q := by
  rintro _ σ' ⟨rfl, hq⟩; exact h σ' hq
theorem kI {P : Int32 → Mem → Prop} (h : ∀ v σ', P v σ' → mG X pc lv (.int v :: st) σ' kc ks Q) : ∀ rv σ', qI P rv σ' → mG X pc lv (rv.toList ++ st) σ' kc ks Q := by
  rintro _ σ' ⟨v, rfl, hq⟩; exact h v σ' hq
theorem kJ {P : Int64 → Mem → Prop} (h : ∀ v σ', P v σ' → mG X pc lv (.long v :: st) σ' kc ks Q) : ∀ rv σ', qJ P rv σ' → mG X pc lv (rv.toList ++ st) σ' kc ks Q := by
  rintro _ σ' ⟨v, rfl, hq⟩; exact h v σ' hq
theorem kA {P : Option Nat → Mem → Prop} (h : ∀ o σ', P o σ' → mG X pc lv (rq X o :: st) σ' kc ks Q) : ∀ rv σ', qA (xB X) P rv σ' → mG X pc lv (rv.toList ++ st) σ' kc ks Q := by
  rintro _ σ' ⟨o, rfl, hq⟩; exact h o σ' hq
theorem mG.pick {lv' : List (Nat × Value)} (is : List Nat) (h : lv_pick lv is = lv') (k : mG X pc lv' st σ kc ks Q) : mG X pc lv st σ kc ks Q := fun H locs ls a b c => k H locs ls a b (lv_sub c is h)
theorem g_topi {x : Int32} (k : ∀ y, y = x → mG X pc lv (.int y :: st) σ kc ks Q) : mG X pc lv (.int x :: st) σ kc ks Q := k x rfl
theorem g_topj {x : Int64} (k : ∀ y, y = x → mG X pc lv (.long y :: st) σ kc ks Q) : mG X pc lv (.long x :: st) σ kc ks Q := k x rfl
theorem g_topq {x : Option Nat} (k : ∀ y, y = x → mG X pc lv (rq X y :: st) σ kc ks Q) : mG X pc lv (rq X x :: st) σ kc ks Q := k x rfl
theorem g_ifnullR (hC : mOK X cc own nm ret d mc ms) {r : Nat} {off : Int} (hd : decode cc pc = .ok (.ifnull off, 3)) (k : mG X (pc + 3) lv st σ kc ks Q) : mG X pc lv (.ref r :: st) σ kc ks Q := fun H locs ls a b c => lv_ifnull hC.1 hC.2.1 hd (k H locs ls a b c)
theorem g_ifnullN (hC : mOK X cc own nm ret d mc ms) {off : Int} {tgt : Nat} (hd : decode cc pc = .ok (.ifnull off, 3)) (ht : (pc : Int) + off = (tgt : Int)) (k : mG X tgt lv st σ kc ks Q) : mG X pc lv (.null :: st) σ kc ks Q := fun H locs ls a b c => lv_ifnullN hC.1 hC.2.1 hd ht (k H locs ls a b c)
theorem g_ifnonnullR (hC : mOK X cc own nm ret d mc ms) {r : Nat} {off : Int} {tgt : Nat} (hd : decode cc pc = .ok (.ifnonnull off, 3)) (ht : (pc : Int) + off = (tgt : Int)) (k : mG X tgt lv st σ kc ks Q) : mG X pc lv (.ref r :: st) σ kc ks Q := fun H locs ls a b c => lv_ifnonnull hC.1 hC.2.1 hd ht (k H locs ls a b c)
theorem g_ifnonnullN (hC : mOK X cc own nm ret d mc ms) {off : Int} (hd : decode cc pc = .ok (.ifnonnull off, 3)) (k : mG X (pc + 3) lv st σ kc ks Q) : mG X pc lv (.null :: st) σ kc ks Q := fun H locs ls a b c => lv_ifnonnullN hC.1 hC.2.1 hd (k H locs ls a b c)
theorem g_aretR {Qp : Option Value → Mem → Prop} {rt : FieldType} {r : Nat} (hC : mOK X cc own nm (some rt) d mc ms) (hrt : (∃ n, rt = .object n) ∨ ∃ t, rt = .array t) (hk : kc ≤ mc) (hs : ks ≤ ms) (hd : decode cc pc = .ok (.areturn, 1)) (h : mS (xP X) (xT X) σ → Qp (some (.ref r)) σ) : mG X pc lv [.ref r] σ kc ks (mQ X mc ms Qp) := g_aret (o := some r) hC hrt hk hs hd h
theorem g_aretN {Qp : Option Value → Mem → Prop} {rt : FieldType} (hC : mOK X cc own nm (some rt) d mc ms) (hrt : (∃ n, rt = .object n) ∨ ∃ t, rt = .array t) (hk : kc ≤ mc) (hs : ks ≤ ms) (hd : decode cc pc = .ok (.areturn, 1)) (h : mS (xP X) (xT X) σ → Qp (some .null) σ) : mG X pc lv [.null] σ kc ks (mQ X mc ms Qp) := g_aret (o := none) hC hrt hk hs hd h
theorem g_getiS (hC : mOK X cc own nm ret d mc ms) {index ci k n a : Nat} (hL : fLs own index ci k true) (hT : (a, ci, n) ∈ xT X) (hd : decode cc pc = .ok (.getfield index, 3)) (kk : mG X (pc + 3) lv (.int (mI σ a k) :: st) σ kc ks Q) : mG X pc lv (.ref (xB X + a) :: st) σ kc ks Q := g_known fun hS => g_geti hC hL (hS.2 _ hT) hd kk
theorem g_getqS (hC : mOK X cc own nm ret d mc ms) {index ci k n a : Nat} (hL : fLs own index ci k false) (hT : (a, ci, n) ∈ xT X) (hd : decode cc pc = .ok (.getfield index, 3)) (kk : mG X (pc + 3) lv (rq X (mP σ a k) :: st) σ kc ks Q) : mG X pc lv (.ref (xB X + a) :: st) σ kc ks Q := g_known fun hS => g_getq hC hL (hS.2 _ hT) hd kk
theorem g_getrS (hC : mOK X cc own nm ret d mc ms) {index ci k n a r : Nat} (hL : fLs own index ci k false) (hT : (a, ci, n) ∈ xT X) (hp : (a, k, r) ∈ xP X) (hd : decode cc pc = .ok (.getfield index, 3)) (kk : mG X (pc + 3) lv (.ref (xB X + r) :: st) σ kc ks Q) : mG X pc lv (.ref (xB X + a) :: st) σ kc ks Q := g_known fun hS => g_getr hC hL (hS.2 _ hT) (hS.1 _ hp).1 hd kk
theorem g_putIS (hC : mOK X cc own nm ret d mc ms) {index ci k n a : Nat} {v : Int32} (hL : fW own nm index ci k true) (hT : (a, ci, n) ∈ xT X) (hn : narrow (tyX ci k) (.int v) = .int v) (hfit : fits (tyX ci k) (.int v) = true) (hd : decode cc pc = .ok (.putfield index, 3)) (kk : mG X (pc + 3) lv st (sI σ a k v) kc ks Q) : mG X pc lv (.int v :: .ref (xB X + a) :: st) σ kc ks Q := g_known fun hS => g_putI hC hL (hS.2 _ hT) hn hfit hd kk
theorem g_ialdK (hC : mOK X cc own nm ret d mc ms) {a n k : Nat} {i : Int32} (hT : mT σ a = some (14, n)) (hk : i.toNatClampNeg = k) (hin : vp_in i n) (hd : decode cc pc = .ok (.iaload, 1)) (kk : mG X (pc + 1) lv (.int (mI σ a k) :: st) σ kc ks Q) : mG X pc lv (.int i :: .ref (xB X + a) :: st) σ kc ks Q := by subst hk; exact g_iald hC hT hin hd kk
theorem g_ialdS (hC : mOK X cc own nm ret d mc ms) {a n k : Nat} {i : Int32} (hT : (a, 14, n) ∈ xT X) (hk : i.toNatClampNeg = k) (hin : vp_in i n) (hd : decode cc pc = .ok (.iaload, 1)) (kk : mG X (pc + 1) lv (.int (mI σ a k) :: st) σ kc ks Q) : mG X pc lv (.int i :: .ref (xB X + a) :: st) σ kc ks Q := g_known fun hS => g_ialdK hC (hS.2 _ hT) hk hin hd kk
theorem g_iastK (hC : mOK X cc own nm ret d mc ms) {a n k : Nat} {i x : Int32} (hT : mT σ a = some (14, n)) (hk : i.toNatClampNeg = k) (hin : vp_in i n) (hd : decode cc pc = .ok (.iastore, 1)) (kk : mG X (pc + 1) lv st (sI σ a k x) kc ks Q) : mG X pc lv (.int x :: .int i :: .ref (xB X + a) :: st) σ kc ks Q := by subst hk; exact g_iast hC hT hin hd kk
theorem g_iastS (hC : mOK X cc own nm ret d mc ms) {a n k : Nat} {i x : Int32} (hT : (a, 14, n) ∈ xT X) (hk : i.toNatClampNeg = k) (hin : vp_in i n) (hd : decode cc pc = .ok (.iastore, 1)) (kk : mG X (pc + 1) lv st (sI σ a k x) kc ks Q) : mG X pc lv (.int x :: .int i :: .ref (xB X + a) :: st) σ kc ks Q := g_known fun hS => g_iastK hC (hS.2 _ hT) hk hin hd kk
theorem g_zaldK (hC : mOK X cc own nm ret d mc ms) {a n k : Nat} {i : Int32} (hT : mT σ a = some (15, n)) (hk : i.toNatClampNeg = k) (hin : vp_in i n) (hd : decode cc pc = .ok (.baload, 1)) (kk : mG X (pc + 1) lv (.int (mI σ a k) :: st) σ kc ks Q) : mG X pc lv (.int i :: .ref (xB X + a) :: st) σ kc ks Q := by subst hk; exact g_zald hC hT hin hd kk
theorem g_zaldS (hC : mOK X cc own nm ret d mc ms) {a n k : Nat} {i : Int32} (hT : (a, 15, n) ∈ xT X) (hk : i.toNatClampNeg = k) (hin : vp_in i n) (hd : decode cc pc = .ok (.baload, 1)) (kk : mG X (pc + 1) lv (.int (mI σ a k) :: st) σ kc ks Q) : mG X pc lv (.int i :: .ref (xB X + a) :: st) σ kc ks Q := g_known fun hS => g_zaldK hC (hS.2 _ hT) hk hin hd kk
theorem bz_nar {x : Int32} (h : bz x) : vp_nar .boolean x = x := by unfold vp_nar; rw [h]
theorem g_zastK (hC : mOK X cc own nm ret d mc ms) {a n k : Nat} {i x : Int32} (hT : mT σ a = some (15, n)) (hk : i.toNatClampNeg = k) (hin : vp_in i n) (hb : bz x) (hd : decode cc pc = .ok (.bastore, 1)) (kk : mG X (pc + 1) lv st (sI σ a k x) kc ks Q) : mG X pc lv (.int x :: .int i :: .ref (xB X + a) :: st) σ kc ks Q := by subst hk; exact g_zast hC hT hin (bz_nar hb) hd kk
theorem g_zastS (hC : mOK X cc own nm ret d mc ms) {a n k : Nat} {i x : Int32} (hT : (a, 15, n) ∈ xT X) (hk : i.toNatClampNeg = k) (hin : vp_in i n) (hb : bz x) (hd : decode cc pc = .ok (.bastore, 1)) (kk : mG X (pc + 1) lv st (sI σ a k x) kc ks Q) : mG X pc lv (.int x :: .int i :: .ref (xB X + a) :: st) σ kc ks Q := g_known fun hS => g_zastK hC (hS.2 _ hT) hk hin hb hd kk
theorem g_caldK (hC : mOK X cc own nm ret d mc ms) {a n k : Nat} {i : Int32} (hT : mT σ a = some (13, n)) (hk : i.toNatClampNeg = k) (hin : vp_in i n) (hd : decode cc pc = .ok (.caload, 1)) (kk : mG X (pc + 1) lv (.int (mI σ a k) :: st) σ kc ks Q) : mG X pc lv (.int i :: .ref (xB X + a) :: st) σ kc ks Q := by subst hk; exact g_cald hC hT hin hd kk
theorem g_caldS (hC : mOK X cc own nm ret d mc ms) {a n k : Nat} {i : Int32} (hT : (a, 13, n) ∈ xT X) (hk : i.toNatClampNeg = k) (hin : vp_in i n) (hd : decode cc pc = .ok (.caload, 1)) (kk : mG X (pc + 1) lv (.int (mI σ a k) :: st) σ kc ks Q) : mG X pc lv (.int i :: .ref (xB X + a) :: st) σ kc ks Q := g_known fun hS => g_caldK hC (hS.2 _ hT) hk hin hd kk
theorem g_castK (hC : mOK X cc own nm ret d mc ms) {a n k : Nat} {i x : Int32} (hT : mT σ a = some (13, n)) (hk : i.toNatClampNeg = k) (hin : vp_in i n) (hb : vp_nar .char x = x) (hd : decode cc pc = .ok (.castore, 1)) (kk : mG X (pc + 1) lv st (sI σ a k x) kc ks Q) : mG X pc lv (.int x :: .int i :: .ref (xB X + a) :: st) σ kc ks Q := by subst hk; exact g_cast hC hT hin hb hd kk
theorem g_aaldS (hC : mOK X cc own nm ret d mc ms) {a t n k : Nat} {i : Int32} (hT : (a, t, n) ∈ xT X) (h1 : 16 ≤ t) (h2 : t < 19) (hk : i.toNatClampNeg = k) (hin : vp_in i n) (hd : decode cc pc = .ok (.aaload, 1)) (kk : mG X (pc + 1) lv (rq X (mP σ a k) :: st) σ kc ks Q) : mG X pc lv (.int i :: .ref (xB X + a) :: st) σ kc ks Q := by subst hk; exact g_known fun hS => g_aald hC (hS.2 _ hT) h1 h2 hin hd kk
theorem g_alenS (hC : mOK X cc own nm ret d mc ms) {a t n : Nat} (hT : (a, t, n) ∈ xT X) (h1 : 13 ≤ t) (h2 : t < 19) (hd : decode cc pc = .ok (.arraylength, 1)) (kk : mG X (pc + 1) lv (.int (nI n) :: st) σ kc ks Q) : mG X pc lv (.ref (xB X + a) :: st) σ kc ks Q := g_known fun hS => g_alen hC (hS.2 _ hT) h1 h2 hd kk
/-- System.arraycopy of ints -/
theorem g_copy (hC : mOK X cc own nm ret d mc ms) {index a0 a1 n0 n1 : Nat} {sp dp n : Int32} (hT0 : mT σ a0 = some (14, n0)) (hT1 : mT σ a1 = some (14, n1)) (w1 : Cond.methodLink own index arraycopyName ∈ TB) (w2 : Cond.native arraycopyName ∈ TB) (w3 : Cond.static arraycopyName ∈ TB) (w4 : Cond.initialized "java/lang/System" ∈ TB)
    (h1 : ¬ sp < 0) (h2 : ¬ dp < 0) (h3 : ¬ n < 0) (h4 : sp.toNatClampNeg + n.toNatClampNeg ≤ n0) (h5 : dp.toNatClampNeg + n.toNatClampNeg ≤ n1) (hd1 : 1 ≤ d) (hst : (st.map fun v => v.category).sum + (nativeFrameWords "java/lang/System" "arraycopy" 5 + 11) ≤ 60) (hd : decode cc pc = .ok (.invokestatic index, 3))
    (kk : mG X (pc + 3) lv st (sR σ a1 (va_cpy (σ.1 a0) (σ.1 a1) sp.toNatClampNeg dp.toNatClampNeg n.toNatClampNeg)) kc ks Q) : mG X pc lv (.int n :: .int dp :: .ref (xB X + a1) :: .int sp :: .ref (xB X + a0) :: st) σ kc ks Q := by
  intro H locs ls hV hS hl
  have hR := hC.2.2.2.2.2.2.2.2.2.1
  have hts := hC.2.2.2.2.1
  refine w_copyi hC.1 hC.2.1 (by rw [hC.2.2.1]; exact hl.1.symm) hC.2.2.2.1 (hts _ w1) (hts _ w2) (hts _ w3) (hts _ w4) hC.2.2.2.2.2.1.1 hV.2.1 mW_D hS a0 a1 1 1 (mW_int (by decide) (by decide) hT0) (mW_int (by decide) (by decide) hT1) rfl rfl h1 h2 h3 h4 h5 (by rw [hR]; exact hd1) (by rw [hR]; show _ ≤ 60 * d; omega) hd (fun H1 locs1 hz hP1 hS1 => ?_)
  rw [mW_setI (by decide) (by decide) hT1] at hP1
  exact kk H1 locs1 ls ⟨hz.trans hV.1, hP1, hV.2.2.sR a1 _⟩ hS1 hl
end GS
theorem mG.st {X : Cx} {pc : Nat} {lv : List (Nat × Value)} {st st1 : List Value} {σ : Mem} {kc ks : Nat} {Q : State → Prop} (h : st = st1) (k : mG X pc lv st1 σ kc ks Q) : mG X pc lv st σ kc ks Q := h ▸ k
/-- no key of a switch -/
theorem sw_out (lo hi : Int) (x : Int32) (h : lo ≤ hi) (ks : List Int32) (hk : ks.map Int32.toInt = (List.range (hi - lo + 1).toNat).map (fun i : Nat => lo + (i : Int))) (hn : ∀ k ∈ ks, ¬ x = k) : x.toInt < lo ∨ hi < x.toInt := by
  rcases Int.lt_or_le x.toInt lo with q | q
  · exact Or.inl q
  · rcases Int.lt_or_le hi x.toInt with q2 | q2
    · exact Or.inr q2
    · exfalso
      have hm : x.toInt ∈ (List.range (hi - lo + 1).toNat).map (fun i : Nat => lo + (i : Int)) := List.mem_map.mpr ⟨(x.toInt - lo).toNat, List.mem_range.mpr (by omega), by omega⟩
      rw [← hk] at hm
      obtain ⟨k, h1, h2⟩ := List.mem_map.mp hm
      exact hn k h1 (Int32.toInt_inj.mp h2.symm)
/-- a field by a subclass' name -/
theorem sf_same {A : Array Value} {s : State} {ref decl nm ds : String} {x : ClassId × Class × Nat × Field} (h : (Cond.sameField ref decl nm ds).before A s = true) (hx : s.fieldFound? decl nm ds = some x) : s.fieldFound? ref nm ds = some x := by
  exact u_same h x hx
theorem mI_sR_n (σ : Mem) {a : Nat} (f : Nat → Int32) {b j : Nat} (h : b ≠ a) : mI (sR σ a f) b j = mI σ b j := by rw [mI_sR, if_neg h]
section GV
variable {X : Cx} {cc : ByteArray} {own nm : String} {ret : Option FieldType} {d mc ms : Nat} {pc : Nat} {lv : List (Nat × Value)} {st : List Value} {σ : Mem} {kc ks : Nat} {Q : State → Prop}
theorem g_getiSv (hC : mOK X cc own nm ret d mc ms) {index ci k n a : Nat} {v : Int32} (hL : fLs own index ci k true) (hT : (a, ci, n) ∈ xT X) (hv : mI σ a k = v) (hd : decode cc pc = .ok (.getfield index, 3)) (kk : mG X (pc + 3) lv (.int v :: st) σ kc ks Q) : mG X pc lv (.ref (xB X + a) :: st) σ kc ks Q := by subst hv; exact g_getiS hC hL hT hd kk
theorem g_getiv (hC : mOK X cc own nm ret d mc ms) {index ci k n a : Nat} {v : Int32} (hL : fLs own index ci k true) (hT : mT σ a = some (ci, n)) (hv : mI σ a k = v) (hd : decode cc pc = .ok (.getfield index, 3)) (kk : mG X (pc + 3) lv (.int v :: st) σ kc ks Q) : mG X pc lv (.ref (xB X + a) :: st) σ kc ks Q := by subst hv; exact g_geti hC hL hT hd kk
theorem g_ialdKv (hC : mOK X cc own nm ret d mc ms) {a n k : Nat} {i v : Int32} (hT : mT σ a = some (14, n)) (hk : i.toNatClampNeg = k) (hin : vp_in i n) (hv : mI σ a k = v) (hd : decode cc pc = .ok (.iaload, 1)) (kk : mG X (pc + 1) lv (.int v :: st) σ kc ks Q) : mG X pc lv (.int i :: .ref (xB X + a) :: st) σ kc ks Q := by subst hv; exact g_ialdK hC hT hk hin hd kk
theorem g_ialdSv (hC : mOK X cc own nm ret d mc ms) {a n k : Nat} {i v : Int32} (hT : (a, 14, n) ∈ xT X) (hk : i.toNatClampNeg = k) (hin : vp_in i n) (hv : mI σ a k = v) (hd : decode cc pc = .ok (.iaload, 1)) (kk : mG X (pc + 1) lv (.int v :: st) σ kc ks Q) : mG X pc lv (.int i :: .ref (xB X + a) :: st) σ kc ks Q := by subst hv; exact g_ialdS hC hT hk hin hd kk
theorem g_zaldKv (hC : mOK X cc own nm ret d mc ms) {a n k : Nat} {i v : Int32} (hT : mT σ a = some (15, n)) (hk : i.toNatClampNeg = k) (hin : vp_in i n) (hv : mI σ a k = v) (hd : decode cc pc = .ok (.baload, 1)) (kk : mG X (pc + 1) lv (.int v :: st) σ kc ks Q) : mG X pc lv (.int i :: .ref (xB X + a) :: st) σ kc ks Q := by subst hv; exact g_zaldK hC hT hk hin hd kk
theorem g_zaldSv (hC : mOK X cc own nm ret d mc ms) {a n k : Nat} {i v : Int32} (hT : (a, 15, n) ∈ xT X) (hk : i.toNatClampNeg = k) (hin : vp_in i n) (hv : mI σ a k = v) (hd : decode cc pc = .ok (.baload, 1)) (kk : mG X (pc + 1) lv (.int v :: st) σ kc ks Q) : mG X pc lv (.int i :: .ref (xB X + a) :: st) σ kc ks Q := by subst hv; exact g_zaldS hC hT hk hin hd kk
theorem g_caldKv (hC : mOK X cc own nm ret d mc ms) {a n k : Nat} {i v : Int32} (hT : mT σ a = some (13, n)) (hk : i.toNatClampNeg = k) (hin : vp_in i n) (hv : mI σ a k = v) (hd : decode cc pc = .ok (.caload, 1)) (kk : mG X (pc + 1) lv (.int v :: st) σ kc ks Q) : mG X pc lv (.int i :: .ref (xB X + a) :: st) σ kc ks Q := by subst hv; exact g_caldK hC hT hk hin hd kk
theorem g_caldSv (hC : mOK X cc own nm ret d mc ms) {a n k : Nat} {i v : Int32} (hT : (a, 13, n) ∈ xT X) (hk : i.toNatClampNeg = k) (hin : vp_in i n) (hv : mI σ a k = v) (hd : decode cc pc = .ok (.caload, 1)) (kk : mG X (pc + 1) lv (.int v :: st) σ kc ks Q) : mG X pc lv (.int i :: .ref (xB X + a) :: st) σ kc ks Q := by subst hv; exact g_caldS hC hT hk hin hd kk
end GV
end
section
/-! what is known for good -/
def psR : List (Nat × Nat × Nat) := [(5, 0, 6), (5, 7, 7)]
def tsR : List (Nat × Nat × Nat) := [(5, 5, 0), (6, 14, 160), (7, 14, 160)]
def psG : List (Nat × Nat × Nat) := [(0, 0, 1), (0, 1, 2), (0, 3, 3), (0, 5, 4), (0, 7, 5), (0, 8, 8), (0, 10, 14), (0, 11, 15), (0, 12, 20), (0, 14, 21), (0, 15, 22), (0, 17, 23), (0, 18, 24), (5, 0, 6), (5, 7, 7), (8, 0, 9), (9, 0, 10), (9, 1, 11), (9, 3, 12), (9, 4, 13), (14, 0, 25), (14, 1, 27), (14, 2, 29), (14, 3, 31), (15, 0, 16), (15, 1, 17), (15, 3, 18), (15, 4, 19), (25, 0, 26), (27, 0, 28), (29, 0, 30), (31, 0, 32)]
def tsG : List (Nat × Nat × Nat) := [(0, 11, 0), (1, 14, 8), (2, 14, 8), (3, 16, 5), (4, 17, 6), (5, 5, 0), (6, 14, 160), (7, 14, 160), (8, 9, 0), (9, 1, 0), (10, 14, 64), (11, 14, 8), (12, 14, 8), (13, 14, 8), (14, 18, 4), (15, 1, 0), (16, 14, 64), (17, 14, 8), (18, 14, 8), (19, 14, 8), (20, 14, 8), (21, 14, 8), (22, 14, 9), (23, 14, 8), (24, 14, 256), (25, 7, 0), (26, 14, 40), (27, 7, 0), (28, 14, 40), (29, 7, 0), (30, 14, 40), (31, 7, 0), (32, 14, 40)]
def psM : List (Nat × Nat × Nat) := [(37, 1, 38), (37, 2, 39), (37, 4, 40), (37, 5, 41), (37, 7, 42), (37, 11, 43), (37, 12, 44), (37, 17, 45), (37, 18, 46), (37, 19, 47), (37, 23, 48), (37, 26, 49), (37, 27, 50), (37, 29, 51), (37, 30, 52), (37, 31, 53), (37, 32, 54), (37, 33, 55), (37, 37, 56), (37, 38, 57), (37, 43, 58), (37, 44, 59), (37, 47, 60), (37, 48, 61), (37, 54, 62), (37, 55, 63), (37, 56, 64), (37, 57, 65), (37, 58, 66), (37, 59, 67)]
def tsM : List (Nat × Nat × Nat) := [(37, 12, 0), (38, 14, 8), (39, 14, 8), (40, 14, 5), (41, 14, 5), (42, 14, 160), (43, 14, 2880), (44, 14, 18), (45, 13, 45), (46, 14, 13), (47, 14, 170), (48, 15, 8), (49, 14, 170), (50, 14, 6), (51, 14, 8), (52, 14, 64), (53, 14, 8), (54, 14, 8), (55, 14, 8), (56, 14, 3), (57, 14, 9), (58, 14, 8), (59, 14, 8), (60, 14, 8), (61, 14, 64), (62, 14, 8), (63, 14, 64), (64, 14, 4), (65, 14, 4), (66, 14, 160), (67, 14, 40)]
def psA : List (Nat × Nat × Nat) := psG ++ psM
def tsA : List (Nat × Nat × Nat) := tsG ++ tsM
theorem psR_G : ∀ e ∈ psR, e ∈ psG := by decide
theorem tsR_G : ∀ e ∈ tsR, e ∈ tsG := by decide
end
section
theorem dX12_isIn_0 : decode cX12_isIn 0 = .ok (.iload_n 0, 1) := by decide +kernel
theorem dX12_isIn_1 : decode cX12_isIn 1 = .ok (.iload_n 1, 1) := by decide +kernel
theorem dX12_isIn_2 : decode cX12_isIn 2 = .ok (.if_icmp .lt 12, 3) := by decide +kernel
theorem dX12_isIn_5 : decode cX12_isIn 5 = .ok (.iload_n 0, 1) := by decide +kernel
theorem dX12_isIn_6 : decode cX12_isIn 6 = .ok (.iload_n 2, 1) := by decide +kernel
theorem dX12_isIn_7 : decode cX12_isIn 7 = .ok (.if_icmp .gt 7, 3) := by decide +kernel
theorem dX12_isIn_10 : decode cX12_isIn 10 = .ok (.iconst 1, 1) := by decide +kernel
theorem dX12_isIn_11 : decode cX12_isIn 11 = .ok (.goto 4, 3) := by decide +kernel
theorem dX12_isIn_14 : decode cX12_isIn 14 = .ok (.iconst 0, 1) := by decide +kernel
theorem dX12_isIn_15 : decode cX12_isIn 15 = .ok (.ireturn, 1) := by decide +kernel
theorem dX12_isPlate_0 : decode cX12_isPlate 0 = .ok (.iload_n 1, 1) := by decide +kernel
theorem dX12_isPlate_1 : decode cX12_isPlate 1 = .ok (.iconst 0, 1) := by decide +kernel
theorem dX12_isPlate_2 : decode cX12_isPlate 2 = .ok (.aload_n 0, 1) := by decide +kernel
theorem dX12_isPlate_3 : decode cX12_isPlate 3 = .ok (.getfield 1, 3) := by decide +kernel
theorem dX12_isPlate_6 : decode cX12_isPlate 6 = .ok (.iconst 1, 1) := by decide +kernel
theorem dX12_isPlate_7 : decode cX12_isPlate 7 = .ok (.isub, 1) := by decide +kernel
theorem dX12_isPlate_8 : decode cX12_isPlate 8 = .ok (.invokestatic 7, 3) := by decide +kernel
theorem dX12_isPlate_11 : decode cX12_isPlate 11 = .ok (.ireturn, 1) := by decide +kernel
theorem dX12_isLayer_0 : decode cX12_isLayer 0 = .ok (.iload_n 1, 1) := by decide +kernel
theorem dX12_isLayer_1 : decode cX12_isLayer 1 = .ok (.iconst 0, 1) := by decide +kernel
theorem dX12_isLayer_2 : decode cX12_isLayer 2 = .ok (.aload_n 0, 1) := by decide +kernel
theorem dX12_isLayer_3 : decode cX12_isLayer 3 = .ok (.getfield 11, 3) := by decide +kernel
theorem dX12_isLayer_6 : decode cX12_isLayer 6 = .ok (.iconst 1, 1) := by decide +kernel
theorem dX12_isLayer_7 : decode cX12_isLayer 7 = .ok (.isub, 1) := by decide +kernel
theorem dX12_isLayer_8 : decode cX12_isLayer 8 = .ok (.invokestatic 7, 3) := by decide +kernel
theorem dX12_isLayer_11 : decode cX12_isLayer 11 = .ok (.ireturn, 1) := by decide +kernel
theorem dX12_plate_0 : decode cX12_plate 0 = .ok (.iload_n 1, 1) := by decide +kernel
theorem dX12_plate_1 : decode cX12_plate 1 = .ok (.iconst 0, 1) := by decide +kernel
theorem dX12_plate_2 : decode cX12_plate 2 = .ok (.bipush 99, 2) := by decide +kernel
theorem dX12_plate_4 : decode cX12_plate 4 = .ok (.invokestatic 7, 3) := by decide +kernel
theorem dX12_plate_7 : decode cX12_plate 7 = .ok (.ifCond .eq 13, 3) := by decide +kernel
theorem dX12_plate_10 : decode cX12_plate 10 = .ok (.iload_n 2, 1) := by decide +kernel
theorem dX12_plate_11 : decode cX12_plate 11 = .ok (.iconst 0, 1) := by decide +kernel
theorem dX12_plate_12 : decode cX12_plate 12 = .ok (.bipush 99, 2) := by decide +kernel
theorem dX12_plate_14 : decode cX12_plate 14 = .ok (.invokestatic 7, 3) := by decide +kernel
theorem dX12_plate_17 : decode cX12_plate 17 = .ok (.ifCond .ne 6, 3) := by decide +kernel
theorem dX12_plate_20 : decode cX12_plate 20 = .ok (.bipush (-2), 2) := by decide +kernel
theorem dX12_plate_22 : decode cX12_plate 22 = .ok (.ireturn, 1) := by decide +kernel
theorem dX12_plate_23 : decode cX12_plate 23 = .ok (.aload_n 0, 1) := by decide +kernel
theorem dX12_plate_24 : decode cX12_plate 24 = .ok (.getfield 1, 3) := by decide +kernel
theorem dX12_plate_27 : decode cX12_plate 27 = .ok (.bipush 8, 2) := by decide +kernel
theorem dX12_plate_29 : decode cX12_plate 29 = .ok (.if_icmp .ne 6, 3) := by decide +kernel
theorem dX12_plate_32 : decode cX12_plate 32 = .ok (.bipush (-4), 2) := by decide +kernel
theorem dX12_plate_34 : decode cX12_plate 34 = .ok (.ireturn, 1) := by decide +kernel
theorem dX12_plate_35 : decode cX12_plate 35 = .ok (.aload_n 0, 1) := by decide +kernel
theorem dX12_plate_36 : decode cX12_plate 36 = .ok (.getfield 14, 3) := by decide +kernel
theorem dX12_plate_39 : decode cX12_plate 39 = .ok (.aload_n 0, 1) := by decide +kernel
theorem dX12_plate_40 : decode cX12_plate 40 = .ok (.getfield 1, 3) := by decide +kernel
theorem dX12_plate_43 : decode cX12_plate 43 = .ok (.iload_n 1, 1) := by decide +kernel
theorem dX12_plate_44 : decode cX12_plate 44 = .ok (.iastore, 1) := by decide +kernel
theorem dX12_plate_45 : decode cX12_plate 45 = .ok (.aload_n 0, 1) := by decide +kernel
theorem dX12_plate_46 : decode cX12_plate 46 = .ok (.getfield 18, 3) := by decide +kernel
theorem dX12_plate_49 : decode cX12_plate 49 = .ok (.aload_n 0, 1) := by decide +kernel
theorem dX12_plate_50 : decode cX12_plate 50 = .ok (.getfield 1, 3) := by decide +kernel
theorem dX12_plate_53 : decode cX12_plate 53 = .ok (.iload_n 2, 1) := by decide +kernel
theorem dX12_plate_54 : decode cX12_plate 54 = .ok (.iastore, 1) := by decide +kernel
theorem dX12_plate_55 : decode cX12_plate 55 = .ok (.aload_n 0, 1) := by decide +kernel
theorem dX12_plate_56 : decode cX12_plate 56 = .ok (.dup, 1) := by decide +kernel
theorem dX12_plate_57 : decode cX12_plate 57 = .ok (.getfield 1, 3) := by decide +kernel
theorem dX12_plate_60 : decode cX12_plate 60 = .ok (.iconst 1, 1) := by decide +kernel
theorem dX12_plate_61 : decode cX12_plate 61 = .ok (.iadd, 1) := by decide +kernel
theorem dX12_plate_62 : decode cX12_plate 62 = .ok (.putfield 1, 3) := by decide +kernel
theorem dX12_plate_65 : decode cX12_plate 65 = .ok (.aload_n 0, 1) := by decide +kernel
theorem dX12_plate_66 : decode cX12_plate 66 = .ok (.getfield 1, 3) := by decide +kernel
theorem dX12_plate_69 : decode cX12_plate 69 = .ok (.iconst 1, 1) := by decide +kernel
theorem dX12_plate_70 : decode cX12_plate 70 = .ok (.isub, 1) := by decide +kernel
theorem dX12_plate_71 : decode cX12_plate 71 = .ok (.ireturn, 1) := by decide +kernel
theorem dX12_layer_0 : decode cX12_layer 0 = .ok (.iload_n 1, 1) := by decide +kernel
theorem dX12_layer_1 : decode cX12_layer 1 = .ok (.iconst 0, 1) := by decide +kernel
theorem dX12_layer_2 : decode cX12_layer 2 = .ok (.iconst 5, 1) := by decide +kernel
theorem dX12_layer_3 : decode cX12_layer 3 = .ok (.invokestatic 7, 3) := by decide +kernel
theorem dX12_layer_6 : decode cX12_layer 6 = .ok (.ifCond .eq 13, 3) := by decide +kernel
theorem dX12_layer_9 : decode cX12_layer 9 = .ok (.iload_n 2, 1) := by decide +kernel
theorem dX12_layer_10 : decode cX12_layer 10 = .ok (.iconst 0, 1) := by decide +kernel
theorem dX12_layer_11 : decode cX12_layer 11 = .ok (.bipush 9, 2) := by decide +kernel
theorem dX12_layer_13 : decode cX12_layer 13 = .ok (.invokestatic 7, 3) := by decide +kernel
theorem dX12_layer_16 : decode cX12_layer 16 = .ok (.ifCond .ne 6, 3) := by decide +kernel
theorem dX12_layer_19 : decode cX12_layer 19 = .ok (.bipush (-2), 2) := by decide +kernel
theorem dX12_layer_21 : decode cX12_layer 21 = .ok (.ireturn, 1) := by decide +kernel
theorem dX12_layer_22 : decode cX12_layer 22 = .ok (.aload_n 0, 1) := by decide +kernel
theorem dX12_layer_23 : decode cX12_layer 23 = .ok (.getfield 11, 3) := by decide +kernel
theorem dX12_layer_26 : decode cX12_layer 26 = .ok (.iconst 5, 1) := by decide +kernel
theorem dX12_layer_27 : decode cX12_layer 27 = .ok (.if_icmp .ne 6, 3) := by decide +kernel
theorem dX12_layer_30 : decode cX12_layer 30 = .ok (.bipush (-4), 2) := by decide +kernel
theorem dX12_layer_32 : decode cX12_layer 32 = .ok (.ireturn, 1) := by decide +kernel
theorem dX12_layer_33 : decode cX12_layer 33 = .ok (.aload_n 0, 1) := by decide +kernel
theorem dX12_layer_34 : decode cX12_layer 34 = .ok (.getfield 21, 3) := by decide +kernel
theorem dX12_layer_37 : decode cX12_layer 37 = .ok (.aload_n 0, 1) := by decide +kernel
theorem dX12_layer_38 : decode cX12_layer 38 = .ok (.getfield 11, 3) := by decide +kernel
theorem dX12_layer_41 : decode cX12_layer 41 = .ok (.iload_n 1, 1) := by decide +kernel
theorem dX12_layer_42 : decode cX12_layer 42 = .ok (.iastore, 1) := by decide +kernel
theorem dX12_layer_43 : decode cX12_layer 43 = .ok (.aload_n 0, 1) := by decide +kernel
theorem dX12_layer_44 : decode cX12_layer 44 = .ok (.getfield 24, 3) := by decide +kernel
theorem dX12_layer_47 : decode cX12_layer 47 = .ok (.aload_n 0, 1) := by decide +kernel
theorem dX12_layer_48 : decode cX12_layer 48 = .ok (.getfield 11, 3) := by decide +kernel
theorem dX12_layer_51 : decode cX12_layer 51 = .ok (.iload_n 2, 1) := by decide +kernel
theorem dX12_layer_52 : decode cX12_layer 52 = .ok (.iastore, 1) := by decide +kernel
theorem dX12_layer_53 : decode cX12_layer 53 = .ok (.aload_n 0, 1) := by decide +kernel
theorem dX12_layer_54 : decode cX12_layer 54 = .ok (.dup, 1) := by decide +kernel
theorem dX12_layer_55 : decode cX12_layer 55 = .ok (.getfield 11, 3) := by decide +kernel
theorem dX12_layer_58 : decode cX12_layer 58 = .ok (.iconst 1, 1) := by decide +kernel
theorem dX12_layer_59 : decode cX12_layer 59 = .ok (.iadd, 1) := by decide +kernel
theorem dX12_layer_60 : decode cX12_layer 60 = .ok (.putfield 11, 3) := by decide +kernel
theorem dX12_layer_63 : decode cX12_layer 63 = .ok (.aload_n 0, 1) := by decide +kernel
theorem dX12_layer_64 : decode cX12_layer 64 = .ok (.getfield 11, 3) := by decide +kernel
theorem dX12_layer_67 : decode cX12_layer 67 = .ok (.iconst 1, 1) := by decide +kernel
theorem dX12_layer_68 : decode cX12_layer 68 = .ok (.isub, 1) := by decide +kernel
theorem dX12_layer_69 : decode cX12_layer 69 = .ok (.ireturn, 1) := by decide +kernel
theorem dX12_set_0 : decode cX12_set 0 = .ok (.iconst 0, 1) := by decide +kernel
theorem dX12_set_1 : decode cX12_set 1 = .ok (.istore 4, 2) := by decide +kernel
theorem dX12_set_3 : decode cX12_set 3 = .ok (.iload_n 1, 1) := by decide +kernel
theorem dX12_set_4 : decode cX12_set 4 = .ok (.tableswitch 133 0 2 #[28, 67, 106], 28) := by decide +kernel
theorem dX12_set_32 : decode cX12_set 32 = .ok (.aload_n 0, 1) := by decide +kernel
theorem dX12_set_33 : decode cX12_set 33 = .ok (.iload_n 2, 1) := by decide +kernel
theorem dX12_set_34 : decode cX12_set 34 = .ok (.invokevirtual 27, 3) := by decide +kernel
theorem dX12_set_37 : decode cX12_set 37 = .ok (.ifCond .eq 13, 3) := by decide +kernel
theorem dX12_set_40 : decode cX12_set 40 = .ok (.iload_n 3, 1) := by decide +kernel
theorem dX12_set_41 : decode cX12_set 41 = .ok (.iconst 0, 1) := by decide +kernel
theorem dX12_set_42 : decode cX12_set 42 = .ok (.bipush 99, 2) := by decide +kernel
theorem dX12_set_44 : decode cX12_set 44 = .ok (.invokestatic 7, 3) := by decide +kernel
theorem dX12_set_47 : decode cX12_set 47 = .ok (.ifCond .ne 6, 3) := by decide +kernel
theorem dX12_set_50 : decode cX12_set 50 = .ok (.bipush (-2), 2) := by decide +kernel
theorem dX12_set_52 : decode cX12_set 52 = .ok (.ireturn, 1) := by decide +kernel
theorem dX12_set_53 : decode cX12_set 53 = .ok (.aload_n 0, 1) := by decide +kernel
theorem dX12_set_54 : decode cX12_set 54 = .ok (.getfield 14, 3) := by decide +kernel
theorem dX12_set_57 : decode cX12_set 57 = .ok (.iload_n 2, 1) := by decide +kernel
theorem dX12_set_58 : decode cX12_set 58 = .ok (.iaload, 1) := by decide +kernel
theorem dX12_set_59 : decode cX12_set 59 = .ok (.istore 4, 2) := by decide +kernel
theorem dX12_set_61 : decode cX12_set 61 = .ok (.aload_n 0, 1) := by decide +kernel
theorem dX12_set_62 : decode cX12_set 62 = .ok (.getfield 14, 3) := by decide +kernel
theorem dX12_set_65 : decode cX12_set 65 = .ok (.iload_n 2, 1) := by decide +kernel
theorem dX12_set_66 : decode cX12_set 66 = .ok (.iload_n 3, 1) := by decide +kernel
theorem dX12_set_67 : decode cX12_set 67 = .ok (.iastore, 1) := by decide +kernel
theorem dX12_set_68 : decode cX12_set 68 = .ok (.iload 4, 2) := by decide +kernel
theorem dX12_set_70 : decode cX12_set 70 = .ok (.ireturn, 1) := by decide +kernel
theorem dX12_set_71 : decode cX12_set 71 = .ok (.aload_n 0, 1) := by decide +kernel
theorem dX12_set_72 : decode cX12_set 72 = .ok (.iload_n 2, 1) := by decide +kernel
theorem dX12_set_73 : decode cX12_set 73 = .ok (.invokevirtual 27, 3) := by decide +kernel
theorem dX12_set_76 : decode cX12_set 76 = .ok (.ifCond .eq 13, 3) := by decide +kernel
theorem dX12_set_79 : decode cX12_set 79 = .ok (.iload_n 3, 1) := by decide +kernel
theorem dX12_set_80 : decode cX12_set 80 = .ok (.iconst 0, 1) := by decide +kernel
theorem dX12_set_81 : decode cX12_set 81 = .ok (.bipush 99, 2) := by decide +kernel
theorem dX12_set_83 : decode cX12_set 83 = .ok (.invokestatic 7, 3) := by decide +kernel
theorem dX12_set_86 : decode cX12_set 86 = .ok (.ifCond .ne 6, 3) := by decide +kernel
theorem dX12_set_89 : decode cX12_set 89 = .ok (.bipush (-2), 2) := by decide +kernel
theorem dX12_set_91 : decode cX12_set 91 = .ok (.ireturn, 1) := by decide +kernel
theorem dX12_set_92 : decode cX12_set 92 = .ok (.aload_n 0, 1) := by decide +kernel
theorem dX12_set_93 : decode cX12_set 93 = .ok (.getfield 18, 3) := by decide +kernel
theorem dX12_set_96 : decode cX12_set 96 = .ok (.iload_n 2, 1) := by decide +kernel
theorem dX12_set_97 : decode cX12_set 97 = .ok (.iaload, 1) := by decide +kernel
theorem dX12_set_98 : decode cX12_set 98 = .ok (.istore 4, 2) := by decide +kernel
theorem dX12_set_100 : decode cX12_set 100 = .ok (.aload_n 0, 1) := by decide +kernel
theorem dX12_set_101 : decode cX12_set 101 = .ok (.getfield 18, 3) := by decide +kernel
theorem dX12_set_104 : decode cX12_set 104 = .ok (.iload_n 2, 1) := by decide +kernel
theorem dX12_set_105 : decode cX12_set 105 = .ok (.iload_n 3, 1) := by decide +kernel
theorem dX12_set_106 : decode cX12_set 106 = .ok (.iastore, 1) := by decide +kernel
theorem dX12_set_107 : decode cX12_set 107 = .ok (.iload 4, 2) := by decide +kernel
theorem dX12_set_109 : decode cX12_set 109 = .ok (.ireturn, 1) := by decide +kernel
theorem dX12_set_110 : decode cX12_set 110 = .ok (.iload_n 3, 1) := by decide +kernel
theorem dX12_set_111 : decode cX12_set 111 = .ok (.iconst 1, 1) := by decide +kernel
theorem dX12_set_112 : decode cX12_set 112 = .ok (.bipush 9, 2) := by decide +kernel
theorem dX12_set_114 : decode cX12_set 114 = .ok (.invokestatic 7, 3) := by decide +kernel
theorem dX12_set_117 : decode cX12_set 117 = .ok (.ifCond .ne 6, 3) := by decide +kernel
theorem dX12_set_120 : decode cX12_set 120 = .ok (.bipush (-2), 2) := by decide +kernel
theorem dX12_set_122 : decode cX12_set 122 = .ok (.ireturn, 1) := by decide +kernel
theorem dX12_set_123 : decode cX12_set 123 = .ok (.aload_n 0, 1) := by decide +kernel
theorem dX12_set_124 : decode cX12_set 124 = .ok (.getfield 31, 3) := by decide +kernel
theorem dX12_set_127 : decode cX12_set 127 = .ok (.istore 4, 2) := by decide +kernel
theorem dX12_set_129 : decode cX12_set 129 = .ok (.aload_n 0, 1) := by decide +kernel
theorem dX12_set_130 : decode cX12_set 130 = .ok (.iload_n 3, 1) := by decide +kernel
theorem dX12_set_131 : decode cX12_set 131 = .ok (.putfield 31, 3) := by decide +kernel
theorem dX12_set_134 : decode cX12_set 134 = .ok (.iload 4, 2) := by decide +kernel
theorem dX12_set_136 : decode cX12_set 136 = .ok (.ireturn, 1) := by decide +kernel
theorem dX12_set_137 : decode cX12_set 137 = .ok (.bipush (-2), 2) := by decide +kernel
theorem dX12_set_139 : decode cX12_set 139 = .ok (.ireturn, 1) := by decide +kernel
theorem dX12_name_0 : decode cX12_name 0 = .ok (.aload_n 0, 1) := by decide +kernel
theorem dX12_name_1 : decode cX12_name 1 = .ok (.getfield 167, 3) := by decide +kernel
theorem dX12_name_4 : decode cX12_name 4 = .ok (.iconst 0, 1) := by decide +kernel
theorem dX12_name_5 : decode cX12_name 5 = .ok (.aload_n 0, 1) := by decide +kernel
theorem dX12_name_6 : decode cX12_name 6 = .ok (.getfield 14, 3) := by decide +kernel
theorem dX12_name_9 : decode cX12_name 9 = .ok (.iload_n 1, 1) := by decide +kernel
theorem dX12_name_10 : decode cX12_name 10 = .ok (.iaload, 1) := by decide +kernel
theorem dX12_name_11 : decode cX12_name 11 = .ok (.iastore, 1) := by decide +kernel
theorem dX12_name_12 : decode cX12_name 12 = .ok (.aload_n 0, 1) := by decide +kernel
theorem dX12_name_13 : decode cX12_name 13 = .ok (.getfield 167, 3) := by decide +kernel
theorem dX12_name_16 : decode cX12_name 16 = .ok (.iconst 1, 1) := by decide +kernel
theorem dX12_name_17 : decode cX12_name 17 = .ok (.iload_n 2, 1) := by decide +kernel
theorem dX12_name_18 : decode cX12_name 18 = .ok (.iastore, 1) := by decide +kernel
theorem dX12_name_19 : decode cX12_name 19 = .ok (.aload_n 0, 1) := by decide +kernel
theorem dX12_name_20 : decode cX12_name 20 = .ok (.getfield 167, 3) := by decide +kernel
theorem dX12_name_23 : decode cX12_name 23 = .ok (.iconst 2, 1) := by decide +kernel
theorem dX12_name_24 : decode cX12_name 24 = .ok (.aload_n 0, 1) := by decide +kernel
theorem dX12_name_25 : decode cX12_name 25 = .ok (.getfield 18, 3) := by decide +kernel
theorem dX12_name_28 : decode cX12_name 28 = .ok (.iload_n 1, 1) := by decide +kernel
theorem dX12_name_29 : decode cX12_name 29 = .ok (.iaload, 1) := by decide +kernel
theorem dX12_name_30 : decode cX12_name 30 = .ok (.iastore, 1) := by decide +kernel
theorem dX12_name_31 : decode cX12_name 31 = .ok (.aload_n 0, 1) := by decide +kernel
theorem dX12_name_32 : decode cX12_name 32 = .ok (.getfield 167, 3) := by decide +kernel
theorem dX12_name_35 : decode cX12_name 35 = .ok (.iconst 3, 1) := by decide +kernel
theorem dX12_name_36 : decode cX12_name 36 = .ok (.iload_n 3, 1) := by decide +kernel
theorem dX12_name_37 : decode cX12_name 37 = .ok (.iastore, 1) := by decide +kernel
theorem dX12_name_38 : decode cX12_name 38 = .ok (.aload_n 0, 1) := by decide +kernel
theorem dX12_name_39 : decode cX12_name 39 = .ok (.getfield 167, 3) := by decide +kernel
theorem dX12_name_42 : decode cX12_name 42 = .ok (.iconst 4, 1) := by decide +kernel
theorem dX12_name_43 : decode cX12_name 43 = .ok (.iload 4, 2) := by decide +kernel
theorem dX12_name_45 : decode cX12_name 45 = .ok (.iastore, 1) := by decide +kernel
theorem dX12_name_46 : decode cX12_name 46 = .ok (.aload_n 0, 1) := by decide +kernel
theorem dX12_name_47 : decode cX12_name 47 = .ok (.getfield 167, 3) := by decide +kernel
theorem dX12_name_50 : decode cX12_name 50 = .ok (.iconst 5, 1) := by decide +kernel
theorem dX12_name_51 : decode cX12_name 51 = .ok (.iload 5, 2) := by decide +kernel
theorem dX12_name_53 : decode cX12_name 53 = .ok (.iastore, 1) := by decide +kernel
theorem dX12_name_54 : decode cX12_name 54 = .ok (.return_, 1) := by decide +kernel
theorem dX12_done_0 : decode cX12_done 0 = .ok (.iload_n 0, 1) := by decide +kernel
theorem dX12_done_1 : decode cX12_done 1 = .ok (.tableswitch 91 11 17 #[77, 91, 55, 66, 43, 47, 51], 43) := by decide +kernel
theorem dX12_done_44 : decode cX12_done 44 = .ok (.iload_n 1, 1) := by decide +kernel
theorem dX12_done_45 : decode cX12_done 45 = .ok (.iload_n 2, 1) := by decide +kernel
theorem dX12_done_46 : decode cX12_done 46 = .ok (.iadd, 1) := by decide +kernel
theorem dX12_done_47 : decode cX12_done 47 = .ok (.ireturn, 1) := by decide +kernel
theorem dX12_done_48 : decode cX12_done 48 = .ok (.iload_n 1, 1) := by decide +kernel
theorem dX12_done_49 : decode cX12_done 49 = .ok (.iload_n 2, 1) := by decide +kernel
theorem dX12_done_50 : decode cX12_done 50 = .ok (.isub, 1) := by decide +kernel
theorem dX12_done_51 : decode cX12_done 51 = .ok (.ireturn, 1) := by decide +kernel
theorem dX12_done_52 : decode cX12_done 52 = .ok (.iload_n 1, 1) := by decide +kernel
theorem dX12_done_53 : decode cX12_done 53 = .ok (.iload_n 2, 1) := by decide +kernel
theorem dX12_done_54 : decode cX12_done 54 = .ok (.imul, 1) := by decide +kernel
theorem dX12_done_55 : decode cX12_done 55 = .ok (.ireturn, 1) := by decide +kernel
theorem dX12_done_56 : decode cX12_done 56 = .ok (.iload_n 1, 1) := by decide +kernel
theorem dX12_done_57 : decode cX12_done 57 = .ok (.iload_n 2, 1) := by decide +kernel
theorem dX12_done_58 : decode cX12_done 58 = .ok (.if_icmp .ge 7, 3) := by decide +kernel
theorem dX12_done_61 : decode cX12_done 61 = .ok (.iconst 1, 1) := by decide +kernel
theorem dX12_done_62 : decode cX12_done 62 = .ok (.goto 4, 3) := by decide +kernel
theorem dX12_done_65 : decode cX12_done 65 = .ok (.iconst 0, 1) := by decide +kernel
theorem dX12_done_66 : decode cX12_done 66 = .ok (.ireturn, 1) := by decide +kernel
theorem dX12_done_67 : decode cX12_done 67 = .ok (.iload_n 1, 1) := by decide +kernel
theorem dX12_done_68 : decode cX12_done 68 = .ok (.iload_n 2, 1) := by decide +kernel
theorem dX12_done_69 : decode cX12_done 69 = .ok (.if_icmp .ne 7, 3) := by decide +kernel
theorem dX12_done_72 : decode cX12_done 72 = .ok (.iconst 1, 1) := by decide +kernel
theorem dX12_done_73 : decode cX12_done 73 = .ok (.goto 4, 3) := by decide +kernel
theorem dX12_done_76 : decode cX12_done 76 = .ok (.iconst 0, 1) := by decide +kernel
theorem dX12_done_77 : decode cX12_done 77 = .ok (.ireturn, 1) := by decide +kernel
theorem dX12_done_78 : decode cX12_done 78 = .ok (.iload_n 1, 1) := by decide +kernel
theorem dX12_done_79 : decode cX12_done 79 = .ok (.ifCond .eq 11, 3) := by decide +kernel
theorem dX12_done_82 : decode cX12_done 82 = .ok (.iload_n 2, 1) := by decide +kernel
theorem dX12_done_83 : decode cX12_done 83 = .ok (.ifCond .eq 7, 3) := by decide +kernel
theorem dX12_done_86 : decode cX12_done 86 = .ok (.iconst 1, 1) := by decide +kernel
theorem dX12_done_87 : decode cX12_done 87 = .ok (.goto 4, 3) := by decide +kernel
theorem dX12_done_90 : decode cX12_done 90 = .ok (.iconst 0, 1) := by decide +kernel
theorem dX12_done_91 : decode cX12_done 91 = .ok (.ireturn, 1) := by decide +kernel
theorem dX12_done_92 : decode cX12_done 92 = .ok (.iload_n 1, 1) := by decide +kernel
theorem dX12_done_93 : decode cX12_done 93 = .ok (.ifCond .ne 7, 3) := by decide +kernel
theorem dX12_done_96 : decode cX12_done 96 = .ok (.iload_n 2, 1) := by decide +kernel
theorem dX12_done_97 : decode cX12_done 97 = .ok (.ifCond .eq 7, 3) := by decide +kernel
theorem dX12_done_100 : decode cX12_done 100 = .ok (.iconst 1, 1) := by decide +kernel
theorem dX12_done_101 : decode cX12_done 101 = .ok (.goto 4, 3) := by decide +kernel
theorem dX12_done_104 : decode cX12_done 104 = .ok (.iconst 0, 1) := by decide +kernel
theorem dX12_done_105 : decode cX12_done 105 = .ok (.ireturn, 1) := by decide +kernel
theorem dX12_worthOf_0 : decode cX12_worthOf 0 = .ok (.iconst 3, 1) := by decide +kernel
theorem dX12_worthOf_1 : decode cX12_worthOf 1 = .ok (.aload_n 0, 1) := by decide +kernel
theorem dX12_worthOf_2 : decode cX12_worthOf 2 = .ok (.getfield 156, 3) := by decide +kernel
theorem dX12_worthOf_5 : decode cX12_worthOf 5 = .ok (.imul, 1) := by decide +kernel
theorem dX12_worthOf_6 : decode cX12_worthOf 6 = .ok (.iload_n 1, 1) := by decide +kernel
theorem dX12_worthOf_7 : decode cX12_worthOf 7 = .ok (.iadd, 1) := by decide +kernel
theorem dX12_worthOf_8 : decode cX12_worthOf 8 = .ok (.istore_n 2, 1) := by decide +kernel
theorem dX12_worthOf_9 : decode cX12_worthOf 9 = .ok (.iconst 0, 1) := by decide +kernel
theorem dX12_worthOf_10 : decode cX12_worthOf 10 = .ok (.istore_n 3, 1) := by decide +kernel
theorem dX12_worthOf_11 : decode cX12_worthOf 11 = .ok (.iconst 0, 1) := by decide +kernel
theorem dX12_worthOf_12 : decode cX12_worthOf 12 = .ok (.istore 4, 2) := by decide +kernel
theorem dX12_worthOf_14 : decode cX12_worthOf 14 = .ok (.iload 4, 2) := by decide +kernel
theorem dX12_worthOf_16 : decode cX12_worthOf 16 = .ok (.aload_n 0, 1) := by decide +kernel
theorem dX12_worthOf_17 : decode cX12_worthOf 17 = .ok (.getfield 134, 3) := by decide +kernel
theorem dX12_worthOf_20 : decode cX12_worthOf 20 = .ok (.iload_n 2, 1) := by decide +kernel
theorem dX12_worthOf_21 : decode cX12_worthOf 21 = .ok (.iaload, 1) := by decide +kernel
theorem dX12_worthOf_22 : decode cX12_worthOf 22 = .ok (.if_icmp .ge 162, 3) := by decide +kernel
theorem dX12_worthOf_25 : decode cX12_worthOf 25 = .ok (.aload_n 0, 1) := by decide +kernel
theorem dX12_worthOf_26 : decode cX12_worthOf 26 = .ok (.getfield 86, 3) := by decide +kernel
theorem dX12_worthOf_29 : decode cX12_worthOf 29 = .ok (.sipush 160, 3) := by decide +kernel
theorem dX12_worthOf_32 : decode cX12_worthOf 32 = .ok (.iload_n 2, 1) := by decide +kernel
theorem dX12_worthOf_33 : decode cX12_worthOf 33 = .ok (.imul, 1) := by decide +kernel
theorem dX12_worthOf_34 : decode cX12_worthOf 34 = .ok (.iload 4, 2) := by decide +kernel
theorem dX12_worthOf_36 : decode cX12_worthOf 36 = .ok (.iadd, 1) := by decide +kernel
theorem dX12_worthOf_37 : decode cX12_worthOf 37 = .ok (.iaload, 1) := by decide +kernel
theorem dX12_worthOf_38 : decode cX12_worthOf 38 = .ok (.istore 5, 2) := by decide +kernel
theorem dX12_worthOf_40 : decode cX12_worthOf 40 = .ok (.iload 5, 2) := by decide +kernel
theorem dX12_worthOf_42 : decode cX12_worthOf 42 = .ok (.ifCond .ge 19, 3) := by decide +kernel
theorem dX12_worthOf_45 : decode cX12_worthOf 45 = .ok (.aload_n 0, 1) := by decide +kernel
theorem dX12_worthOf_46 : decode cX12_worthOf 46 = .ok (.getfield 164, 3) := by decide +kernel
theorem dX12_worthOf_49 : decode cX12_worthOf 49 = .ok (.iload_n 3, 1) := by decide +kernel
theorem dX12_worthOf_50 : decode cX12_worthOf 50 = .ok (.iconst (-1), 1) := by decide +kernel
theorem dX12_worthOf_51 : decode cX12_worthOf 51 = .ok (.iload 5, 2) := by decide +kernel
theorem dX12_worthOf_53 : decode cX12_worthOf 53 = .ok (.isub, 1) := by decide +kernel
theorem dX12_worthOf_54 : decode cX12_worthOf 54 = .ok (.iastore, 1) := by decide +kernel
theorem dX12_worthOf_55 : decode cX12_worthOf 55 = .ok (.iinc 3 1, 3) := by decide +kernel
theorem dX12_worthOf_58 : decode cX12_worthOf 58 = .ok (.goto 120, 3) := by decide +kernel
theorem dX12_worthOf_61 : decode cX12_worthOf 61 = .ok (.iload 5, 2) := by decide +kernel
theorem dX12_worthOf_63 : decode cX12_worthOf 63 = .ok (.bipush 6, 2) := by decide +kernel
theorem dX12_worthOf_65 : decode cX12_worthOf 65 = .ok (.if_icmp .ge 22, 3) := by decide +kernel
theorem dX12_worthOf_68 : decode cX12_worthOf 68 = .ok (.aload_n 0, 1) := by decide +kernel
theorem dX12_worthOf_69 : decode cX12_worthOf 69 = .ok (.getfield 164, 3) := by decide +kernel
theorem dX12_worthOf_72 : decode cX12_worthOf 72 = .ok (.iload_n 3, 1) := by decide +kernel
theorem dX12_worthOf_73 : decode cX12_worthOf 73 = .ok (.aload_n 0, 1) := by decide +kernel
theorem dX12_worthOf_74 : decode cX12_worthOf 74 = .ok (.getfield 167, 3) := by decide +kernel
theorem dX12_worthOf_77 : decode cX12_worthOf 77 = .ok (.iload 5, 2) := by decide +kernel
theorem dX12_worthOf_79 : decode cX12_worthOf 79 = .ok (.iaload, 1) := by decide +kernel
theorem dX12_worthOf_80 : decode cX12_worthOf 80 = .ok (.iastore, 1) := by decide +kernel
theorem dX12_worthOf_81 : decode cX12_worthOf 81 = .ok (.iinc 3 1, 3) := by decide +kernel
theorem dX12_worthOf_84 : decode cX12_worthOf 84 = .ok (.goto 94, 3) := by decide +kernel
theorem dX12_worthOf_87 : decode cX12_worthOf 87 = .ok (.iload 5, 2) := by decide +kernel
theorem dX12_worthOf_89 : decode cX12_worthOf 89 = .ok (.bipush 12, 2) := by decide +kernel
theorem dX12_worthOf_91 : decode cX12_worthOf 91 = .ok (.if_icmp .ne 30, 3) := by decide +kernel
theorem dX12_worthOf_94 : decode cX12_worthOf 94 = .ok (.aload_n 0, 1) := by decide +kernel
theorem dX12_worthOf_95 : decode cX12_worthOf 95 = .ok (.getfield 164, 3) := by decide +kernel
theorem dX12_worthOf_98 : decode cX12_worthOf 98 = .ok (.iload_n 3, 1) := by decide +kernel
theorem dX12_worthOf_99 : decode cX12_worthOf 99 = .ok (.iconst 1, 1) := by decide +kernel
theorem dX12_worthOf_100 : decode cX12_worthOf 100 = .ok (.isub, 1) := by decide +kernel
theorem dX12_worthOf_101 : decode cX12_worthOf 101 = .ok (.aload_n 0, 1) := by decide +kernel
theorem dX12_worthOf_102 : decode cX12_worthOf 102 = .ok (.getfield 164, 3) := by decide +kernel
theorem dX12_worthOf_105 : decode cX12_worthOf 105 = .ok (.iload_n 3, 1) := by decide +kernel
theorem dX12_worthOf_106 : decode cX12_worthOf 106 = .ok (.iconst 1, 1) := by decide +kernel
theorem dX12_worthOf_107 : decode cX12_worthOf 107 = .ok (.isub, 1) := by decide +kernel
theorem dX12_worthOf_108 : decode cX12_worthOf 108 = .ok (.iaload, 1) := by decide +kernel
theorem dX12_worthOf_109 : decode cX12_worthOf 109 = .ok (.ifCond .ne 7, 3) := by decide +kernel
theorem dX12_worthOf_112 : decode cX12_worthOf 112 = .ok (.iconst 1, 1) := by decide +kernel
theorem dX12_worthOf_113 : decode cX12_worthOf 113 = .ok (.goto 4, 3) := by decide +kernel
theorem dX12_worthOf_116 : decode cX12_worthOf 116 = .ok (.iconst 0, 1) := by decide +kernel
theorem dX12_worthOf_117 : decode cX12_worthOf 117 = .ok (.iastore, 1) := by decide +kernel
theorem dX12_worthOf_118 : decode cX12_worthOf 118 = .ok (.goto 60, 3) := by decide +kernel
theorem dX12_worthOf_121 : decode cX12_worthOf 121 = .ok (.iload 5, 2) := by decide +kernel
theorem dX12_worthOf_123 : decode cX12_worthOf 123 = .ok (.bipush 18, 2) := by decide +kernel
theorem dX12_worthOf_125 : decode cX12_worthOf 125 = .ok (.if_icmp .ne 23, 3) := by decide +kernel
theorem dX12_worthOf_128 : decode cX12_worthOf 128 = .ok (.aload_n 0, 1) := by decide +kernel
theorem dX12_worthOf_129 : decode cX12_worthOf 129 = .ok (.getfield 164, 3) := by decide +kernel
theorem dX12_worthOf_132 : decode cX12_worthOf 132 = .ok (.iload_n 3, 1) := by decide +kernel
theorem dX12_worthOf_133 : decode cX12_worthOf 133 = .ok (.iconst 1, 1) := by decide +kernel
theorem dX12_worthOf_134 : decode cX12_worthOf 134 = .ok (.isub, 1) := by decide +kernel
theorem dX12_worthOf_135 : decode cX12_worthOf 135 = .ok (.aload_n 0, 1) := by decide +kernel
theorem dX12_worthOf_136 : decode cX12_worthOf 136 = .ok (.getfield 164, 3) := by decide +kernel
theorem dX12_worthOf_139 : decode cX12_worthOf 139 = .ok (.iload_n 3, 1) := by decide +kernel
theorem dX12_worthOf_140 : decode cX12_worthOf 140 = .ok (.iconst 1, 1) := by decide +kernel
theorem dX12_worthOf_141 : decode cX12_worthOf 141 = .ok (.isub, 1) := by decide +kernel
theorem dX12_worthOf_142 : decode cX12_worthOf 142 = .ok (.iaload, 1) := by decide +kernel
theorem dX12_worthOf_143 : decode cX12_worthOf 143 = .ok (.ineg, 1) := by decide +kernel
theorem dX12_worthOf_144 : decode cX12_worthOf 144 = .ok (.iastore, 1) := by decide +kernel
theorem dX12_worthOf_145 : decode cX12_worthOf 145 = .ok (.goto 33, 3) := by decide +kernel
theorem dX12_worthOf_148 : decode cX12_worthOf 148 = .ok (.iinc 3 (-1), 3) := by decide +kernel
theorem dX12_worthOf_151 : decode cX12_worthOf 151 = .ok (.aload_n 0, 1) := by decide +kernel
theorem dX12_worthOf_152 : decode cX12_worthOf 152 = .ok (.getfield 164, 3) := by decide +kernel
theorem dX12_worthOf_155 : decode cX12_worthOf 155 = .ok (.iload_n 3, 1) := by decide +kernel
theorem dX12_worthOf_156 : decode cX12_worthOf 156 = .ok (.iconst 1, 1) := by decide +kernel
theorem dX12_worthOf_157 : decode cX12_worthOf 157 = .ok (.isub, 1) := by decide +kernel
theorem dX12_worthOf_158 : decode cX12_worthOf 158 = .ok (.iload 5, 2) := by decide +kernel
theorem dX12_worthOf_160 : decode cX12_worthOf 160 = .ok (.aload_n 0, 1) := by decide +kernel
theorem dX12_worthOf_161 : decode cX12_worthOf 161 = .ok (.getfield 164, 3) := by decide +kernel
theorem dX12_worthOf_164 : decode cX12_worthOf 164 = .ok (.iload_n 3, 1) := by decide +kernel
theorem dX12_worthOf_165 : decode cX12_worthOf 165 = .ok (.iconst 1, 1) := by decide +kernel
theorem dX12_worthOf_166 : decode cX12_worthOf 166 = .ok (.isub, 1) := by decide +kernel
theorem dX12_worthOf_167 : decode cX12_worthOf 167 = .ok (.iaload, 1) := by decide +kernel
theorem dX12_worthOf_168 : decode cX12_worthOf 168 = .ok (.aload_n 0, 1) := by decide +kernel
theorem dX12_worthOf_169 : decode cX12_worthOf 169 = .ok (.getfield 164, 3) := by decide +kernel
theorem dX12_worthOf_172 : decode cX12_worthOf 172 = .ok (.iload_n 3, 1) := by decide +kernel
theorem dX12_worthOf_173 : decode cX12_worthOf 173 = .ok (.iaload, 1) := by decide +kernel
theorem dX12_worthOf_174 : decode cX12_worthOf 174 = .ok (.invokestatic 221, 3) := by decide +kernel
theorem dX12_worthOf_177 : decode cX12_worthOf 177 = .ok (.iastore, 1) := by decide +kernel
theorem dX12_worthOf_178 : decode cX12_worthOf 178 = .ok (.iinc 4 1, 3) := by decide +kernel
theorem dX12_worthOf_181 : decode cX12_worthOf 181 = .ok (.goto (-167), 3) := by decide +kernel
theorem dX12_worthOf_184 : decode cX12_worthOf 184 = .ok (.aload_n 0, 1) := by decide +kernel
theorem dX12_worthOf_185 : decode cX12_worthOf 185 = .ok (.getfield 164, 3) := by decide +kernel
theorem dX12_worthOf_188 : decode cX12_worthOf 188 = .ok (.iconst 0, 1) := by decide +kernel
theorem dX12_worthOf_189 : decode cX12_worthOf 189 = .ok (.iaload, 1) := by decide +kernel
theorem dX12_worthOf_190 : decode cX12_worthOf 190 = .ok (.ireturn, 1) := by decide +kernel
theorem dX12_bound_0 : decode cX12_bound 0 = .ok (.iload_n 0, 1) := by decide +kernel
theorem dX12_bound_1 : decode cX12_bound 1 = .ok (.ifCond .ge 7, 3) := by decide +kernel
theorem dX12_bound_4 : decode cX12_bound 4 = .ok (.iconst 0, 1) := by decide +kernel
theorem dX12_bound_5 : decode cX12_bound 5 = .ok (.goto 15, 3) := by decide +kernel
theorem dX12_bound_8 : decode cX12_bound 8 = .ok (.iload_n 0, 1) := by decide +kernel
theorem dX12_bound_9 : decode cX12_bound 9 = .ok (.bipush 99, 2) := by decide +kernel
theorem dX12_bound_11 : decode cX12_bound 11 = .ok (.if_icmp .le 8, 3) := by decide +kernel
theorem dX12_bound_14 : decode cX12_bound 14 = .ok (.bipush 99, 2) := by decide +kernel
theorem dX12_bound_16 : decode cX12_bound 16 = .ok (.goto 4, 3) := by decide +kernel
theorem dX12_bound_19 : decode cX12_bound 19 = .ok (.iload_n 0, 1) := by decide +kernel
theorem dX12_bound_20 : decode cX12_bound 20 = .ok (.ireturn, 1) := by decide +kernel
theorem dX12_told_0 : decode cX12_told 0 = .ok (.iload_n 2, 1) := by decide +kernel
theorem dX12_told_1 : decode cX12_told 1 = .ok (.iconst 0, 1) := by decide +kernel
theorem dX12_told_2 : decode cX12_told 2 = .ok (.iconst 4, 1) := by decide +kernel
theorem dX12_told_3 : decode cX12_told 3 = .ok (.invokestatic 7, 3) := by decide +kernel
theorem dX12_told_6 : decode cX12_told 6 = .ok (.ifCond .eq 27, 3) := by decide +kernel
theorem dX12_told_9 : decode cX12_told 9 = .ok (.iload_n 2, 1) := by decide +kernel
theorem dX12_told_10 : decode cX12_told 10 = .ok (.iconst 3, 1) := by decide +kernel
theorem dX12_told_11 : decode cX12_told 11 = .ok (.if_icmp .ge 14, 3) := by decide +kernel
theorem dX12_told_14 : decode cX12_told 14 = .ok (.aload_n 0, 1) := by decide +kernel
theorem dX12_told_15 : decode cX12_told 15 = .ok (.iload_n 1, 1) := by decide +kernel
theorem dX12_told_16 : decode cX12_told 16 = .ok (.invokevirtual 27, 3) := by decide +kernel
theorem dX12_told_19 : decode cX12_told 19 = .ok (.ifCond .ne 17, 3) := by decide +kernel
theorem dX12_told_22 : decode cX12_told 22 = .ok (.goto 11, 3) := by decide +kernel
theorem dX12_told_25 : decode cX12_told 25 = .ok (.aload_n 0, 1) := by decide +kernel
theorem dX12_told_26 : decode cX12_told 26 = .ok (.iload_n 1, 1) := by decide +kernel
theorem dX12_told_27 : decode cX12_told 27 = .ok (.invokevirtual 34, 3) := by decide +kernel
theorem dX12_told_30 : decode cX12_told 30 = .ok (.ifCond .ne 6, 3) := by decide +kernel
theorem dX12_told_33 : decode cX12_told 33 = .ok (.bipush (-2), 2) := by decide +kernel
theorem dX12_told_35 : decode cX12_told 35 = .ok (.ireturn, 1) := by decide +kernel
theorem dX12_told_36 : decode cX12_told 36 = .ok (.iload_n 2, 1) := by decide +kernel
theorem dX12_told_37 : decode cX12_told 37 = .ok (.tableswitch 70 0 3 #[31, 38, 45, 63], 31) := by decide +kernel
theorem dX12_told_68 : decode cX12_told 68 = .ok (.aload_n 0, 1) := by decide +kernel
theorem dX12_told_69 : decode cX12_told 69 = .ok (.getfield 14, 3) := by decide +kernel
theorem dX12_told_72 : decode cX12_told 72 = .ok (.iload_n 1, 1) := by decide +kernel
theorem dX12_told_73 : decode cX12_told 73 = .ok (.iaload, 1) := by decide +kernel
theorem dX12_told_74 : decode cX12_told 74 = .ok (.ireturn, 1) := by decide +kernel
theorem dX12_told_75 : decode cX12_told 75 = .ok (.aload_n 0, 1) := by decide +kernel
theorem dX12_told_76 : decode cX12_told 76 = .ok (.getfield 18, 3) := by decide +kernel
theorem dX12_told_79 : decode cX12_told 79 = .ok (.iload_n 1, 1) := by decide +kernel
theorem dX12_told_80 : decode cX12_told 80 = .ok (.iaload, 1) := by decide +kernel
theorem dX12_told_81 : decode cX12_told 81 = .ok (.ireturn, 1) := by decide +kernel
theorem dX12_told_82 : decode cX12_told 82 = .ok (.aload_n 0, 1) := by decide +kernel
theorem dX12_told_83 : decode cX12_told 83 = .ok (.iload_n 1, 1) := by decide +kernel
theorem dX12_told_84 : decode cX12_told 84 = .ok (.iconst 0, 1) := by decide +kernel
theorem dX12_told_85 : decode cX12_told 85 = .ok (.iconst 0, 1) := by decide +kernel
theorem dX12_told_86 : decode cX12_told 86 = .ok (.iconst 0, 1) := by decide +kernel
theorem dX12_told_87 : decode cX12_told 87 = .ok (.iconst 0, 1) := by decide +kernel
theorem dX12_told_88 : decode cX12_told 88 = .ok (.invokevirtual 37, 3) := by decide +kernel
theorem dX12_told_91 : decode cX12_told 91 = .ok (.aload_n 0, 1) := by decide +kernel
theorem dX12_told_92 : decode cX12_told 92 = .ok (.iconst 2, 1) := by decide +kernel
theorem dX12_told_93 : decode cX12_told 93 = .ok (.invokevirtual 41, 3) := by decide +kernel
theorem dX12_told_96 : decode cX12_told 96 = .ok (.invokestatic 45, 3) := by decide +kernel
theorem dX12_told_99 : decode cX12_told 99 = .ok (.ireturn, 1) := by decide +kernel
theorem dX12_told_100 : decode cX12_told 100 = .ok (.aload_n 0, 1) := by decide +kernel
theorem dX12_told_101 : decode cX12_told 101 = .ok (.getfield 21, 3) := by decide +kernel
theorem dX12_told_104 : decode cX12_told 104 = .ok (.iload_n 1, 1) := by decide +kernel
theorem dX12_told_105 : decode cX12_told 105 = .ok (.iaload, 1) := by decide +kernel
theorem dX12_told_106 : decode cX12_told 106 = .ok (.ireturn, 1) := by decide +kernel
theorem dX12_told_107 : decode cX12_told 107 = .ok (.aload_n 0, 1) := by decide +kernel
theorem dX12_told_108 : decode cX12_told 108 = .ok (.getfield 24, 3) := by decide +kernel
theorem dX12_told_111 : decode cX12_told 111 = .ok (.iload_n 1, 1) := by decide +kernel
theorem dX12_told_112 : decode cX12_told 112 = .ok (.iaload, 1) := by decide +kernel
theorem dX12_told_113 : decode cX12_told 113 = .ok (.ireturn, 1) := by decide +kernel
theorem dX12_feed_0 : decode cX12_feed 0 = .ok (.iload_n 1, 1) := by decide +kernel
theorem dX12_feed_1 : decode cX12_feed 1 = .ok (.iconst 0, 1) := by decide +kernel
theorem dX12_feed_2 : decode cX12_feed 2 = .ok (.sipush 255, 3) := by decide +kernel
theorem dX12_feed_5 : decode cX12_feed 5 = .ok (.invokestatic 7, 3) := by decide +kernel
theorem dX12_feed_8 : decode cX12_feed 8 = .ok (.ifCond .ne 6, 3) := by decide +kernel
theorem dX12_feed_11 : decode cX12_feed 11 = .ok (.bipush (-2), 2) := by decide +kernel
theorem dX12_feed_13 : decode cX12_feed 13 = .ok (.ireturn, 1) := by decide +kernel
theorem dX12_feed_14 : decode cX12_feed 14 = .ok (.aload_n 0, 1) := by decide +kernel
theorem dX12_feed_15 : decode cX12_feed 15 = .ok (.getfield 48, 3) := by decide +kernel
theorem dX12_feed_18 : decode cX12_feed 18 = .ok (.sipush 160, 3) := by decide +kernel
theorem dX12_feed_21 : decode cX12_feed 21 = .ok (.if_icmp .ne 6, 3) := by decide +kernel
theorem dX12_feed_24 : decode cX12_feed 24 = .ok (.bipush (-4), 2) := by decide +kernel
theorem dX12_feed_26 : decode cX12_feed 26 = .ok (.ireturn, 1) := by decide +kernel
theorem dX12_feed_27 : decode cX12_feed 27 = .ok (.aload_n 0, 1) := by decide +kernel
theorem dX12_feed_28 : decode cX12_feed 28 = .ok (.getfield 51, 3) := by decide +kernel
theorem dX12_feed_31 : decode cX12_feed 31 = .ok (.aload_n 0, 1) := by decide +kernel
theorem dX12_feed_32 : decode cX12_feed 32 = .ok (.getfield 48, 3) := by decide +kernel
theorem dX12_feed_35 : decode cX12_feed 35 = .ok (.iload_n 1, 1) := by decide +kernel
theorem dX12_feed_36 : decode cX12_feed 36 = .ok (.iastore, 1) := by decide +kernel
theorem dX12_feed_37 : decode cX12_feed 37 = .ok (.aload_n 0, 1) := by decide +kernel
theorem dX12_feed_38 : decode cX12_feed 38 = .ok (.dup, 1) := by decide +kernel
theorem dX12_feed_39 : decode cX12_feed 39 = .ok (.getfield 48, 3) := by decide +kernel
theorem dX12_feed_42 : decode cX12_feed 42 = .ok (.iconst 1, 1) := by decide +kernel
theorem dX12_feed_43 : decode cX12_feed 43 = .ok (.iadd, 1) := by decide +kernel
theorem dX12_feed_44 : decode cX12_feed 44 = .ok (.putfield 48, 3) := by decide +kernel
theorem dX12_feed_47 : decode cX12_feed 47 = .ok (.aload_n 0, 1) := by decide +kernel
theorem dX12_feed_48 : decode cX12_feed 48 = .ok (.getfield 48, 3) := by decide +kernel
theorem dX12_feed_51 : decode cX12_feed 51 = .ok (.ireturn, 1) := by decide +kernel
theorem dX12_isLetter_0 : decode cX12_isLetter 0 = .ok (.iload_n 1, 1) := by decide +kernel
theorem dX12_isLetter_1 : decode cX12_isLetter 1 = .ok (.aload_n 0, 1) := by decide +kernel
theorem dX12_isLetter_2 : decode cX12_isLetter 2 = .ok (.getfield 48, 3) := by decide +kernel
theorem dX12_isLetter_5 : decode cX12_isLetter 5 = .ok (.if_icmp .ge 29, 3) := by decide +kernel
theorem dX12_isLetter_8 : decode cX12_isLetter 8 = .ok (.aload_n 0, 1) := by decide +kernel
theorem dX12_isLetter_9 : decode cX12_isLetter 9 = .ok (.getfield 51, 3) := by decide +kernel
theorem dX12_isLetter_12 : decode cX12_isLetter 12 = .ok (.iload_n 1, 1) := by decide +kernel
theorem dX12_isLetter_13 : decode cX12_isLetter 13 = .ok (.iaload, 1) := by decide +kernel
theorem dX12_isLetter_14 : decode cX12_isLetter 14 = .ok (.bipush 97, 2) := by decide +kernel
theorem dX12_isLetter_16 : decode cX12_isLetter 16 = .ok (.if_icmp .lt 18, 3) := by decide +kernel
theorem dX12_isLetter_19 : decode cX12_isLetter 19 = .ok (.aload_n 0, 1) := by decide +kernel
theorem dX12_isLetter_20 : decode cX12_isLetter 20 = .ok (.getfield 51, 3) := by decide +kernel
theorem dX12_isLetter_23 : decode cX12_isLetter 23 = .ok (.iload_n 1, 1) := by decide +kernel
theorem dX12_isLetter_24 : decode cX12_isLetter 24 = .ok (.iaload, 1) := by decide +kernel
theorem dX12_isLetter_25 : decode cX12_isLetter 25 = .ok (.bipush 122, 2) := by decide +kernel
theorem dX12_isLetter_27 : decode cX12_isLetter 27 = .ok (.if_icmp .gt 7, 3) := by decide +kernel
theorem dX12_isLetter_30 : decode cX12_isLetter 30 = .ok (.iconst 1, 1) := by decide +kernel
theorem dX12_isLetter_31 : decode cX12_isLetter 31 = .ok (.goto 4, 3) := by decide +kernel
theorem dX12_isLetter_34 : decode cX12_isLetter 34 = .ok (.iconst 0, 1) := by decide +kernel
theorem dX12_isLetter_35 : decode cX12_isLetter 35 = .ok (.ireturn, 1) := by decide +kernel
theorem dX12_isDigit_0 : decode cX12_isDigit 0 = .ok (.iload_n 1, 1) := by decide +kernel
theorem dX12_isDigit_1 : decode cX12_isDigit 1 = .ok (.aload_n 0, 1) := by decide +kernel
theorem dX12_isDigit_2 : decode cX12_isDigit 2 = .ok (.getfield 48, 3) := by decide +kernel
theorem dX12_isDigit_5 : decode cX12_isDigit 5 = .ok (.if_icmp .ge 29, 3) := by decide +kernel
theorem dX12_isDigit_8 : decode cX12_isDigit 8 = .ok (.aload_n 0, 1) := by decide +kernel
theorem dX12_isDigit_9 : decode cX12_isDigit 9 = .ok (.getfield 51, 3) := by decide +kernel
theorem dX12_isDigit_12 : decode cX12_isDigit 12 = .ok (.iload_n 1, 1) := by decide +kernel
theorem dX12_isDigit_13 : decode cX12_isDigit 13 = .ok (.iaload, 1) := by decide +kernel
theorem dX12_isDigit_14 : decode cX12_isDigit 14 = .ok (.bipush 48, 2) := by decide +kernel
theorem dX12_isDigit_16 : decode cX12_isDigit 16 = .ok (.if_icmp .lt 18, 3) := by decide +kernel
theorem dX12_isDigit_19 : decode cX12_isDigit 19 = .ok (.aload_n 0, 1) := by decide +kernel
theorem dX12_isDigit_20 : decode cX12_isDigit 20 = .ok (.getfield 51, 3) := by decide +kernel
theorem dX12_isDigit_23 : decode cX12_isDigit 23 = .ok (.iload_n 1, 1) := by decide +kernel
theorem dX12_isDigit_24 : decode cX12_isDigit 24 = .ok (.iaload, 1) := by decide +kernel
theorem dX12_isDigit_25 : decode cX12_isDigit 25 = .ok (.bipush 57, 2) := by decide +kernel
theorem dX12_isDigit_27 : decode cX12_isDigit 27 = .ok (.if_icmp .gt 7, 3) := by decide +kernel
theorem dX12_isDigit_30 : decode cX12_isDigit 30 = .ok (.iconst 1, 1) := by decide +kernel
theorem dX12_isDigit_31 : decode cX12_isDigit 31 = .ok (.goto 4, 3) := by decide +kernel
theorem dX12_isDigit_34 : decode cX12_isDigit 34 = .ok (.iconst 0, 1) := by decide +kernel
theorem dX12_isDigit_35 : decode cX12_isDigit 35 = .ok (.ireturn, 1) := by decide +kernel
theorem dX12_readWord_0 : decode cX12_readWord 0 = .ok (.aload_n 0, 1) := by decide +kernel
theorem dX12_readWord_1 : decode cX12_readWord 1 = .ok (.aload_n 0, 1) := by decide +kernel
theorem dX12_readWord_2 : decode cX12_readWord 2 = .ok (.getfield 54, 3) := by decide +kernel
theorem dX12_readWord_5 : decode cX12_readWord 5 = .ok (.invokevirtual 57, 3) := by decide +kernel
theorem dX12_readWord_8 : decode cX12_readWord 8 = .ok (.ifCond .eq 16, 3) := by decide +kernel
theorem dX12_readWord_11 : decode cX12_readWord 11 = .ok (.aload_n 0, 1) := by decide +kernel
theorem dX12_readWord_12 : decode cX12_readWord 12 = .ok (.dup, 1) := by decide +kernel
theorem dX12_readWord_13 : decode cX12_readWord 13 = .ok (.getfield 54, 3) := by decide +kernel
theorem dX12_readWord_16 : decode cX12_readWord 16 = .ok (.iconst 1, 1) := by decide +kernel
theorem dX12_readWord_17 : decode cX12_readWord 17 = .ok (.iadd, 1) := by decide +kernel
theorem dX12_readWord_18 : decode cX12_readWord 18 = .ok (.putfield 54, 3) := by decide +kernel
theorem dX12_readWord_21 : decode cX12_readWord 21 = .ok (.goto (-21), 3) := by decide +kernel
theorem dX12_readWord_24 : decode cX12_readWord 24 = .ok (.aload_n 0, 1) := by decide +kernel
theorem dX12_readWord_25 : decode cX12_readWord 25 = .ok (.bipush 6, 2) := by decide +kernel
theorem dX12_readWord_27 : decode cX12_readWord 27 = .ok (.putfield 60, 3) := by decide +kernel
theorem dX12_readWord_30 : decode cX12_readWord 30 = .ok (.iconst 0, 1) := by decide +kernel
theorem dX12_readWord_31 : decode cX12_readWord 31 = .ok (.istore_n 1, 1) := by decide +kernel
theorem dX12_readWord_32 : decode cX12_readWord 32 = .ok (.iload_n 1, 1) := by decide +kernel
theorem dX12_readWord_33 : decode cX12_readWord 33 = .ok (.bipush 12, 2) := by decide +kernel
theorem dX12_readWord_35 : decode cX12_readWord 35 = .ok (.if_icmp .ge 135, 3) := by decide +kernel
theorem dX12_readWord_38 : decode cX12_readWord 38 = .ok (.aload_n 0, 1) := by decide +kernel
theorem dX12_readWord_39 : decode cX12_readWord 39 = .ok (.getfield 63, 3) := by decide +kernel
theorem dX12_readWord_42 : decode cX12_readWord 42 = .ok (.iload_n 1, 1) := by decide +kernel
theorem dX12_readWord_43 : decode cX12_readWord 43 = .ok (.iconst 1, 1) := by decide +kernel
theorem dX12_readWord_44 : decode cX12_readWord 44 = .ok (.iadd, 1) := by decide +kernel
theorem dX12_readWord_45 : decode cX12_readWord 45 = .ok (.iaload, 1) := by decide +kernel
theorem dX12_readWord_46 : decode cX12_readWord 46 = .ok (.aload_n 0, 1) := by decide +kernel
theorem dX12_readWord_47 : decode cX12_readWord 47 = .ok (.getfield 63, 3) := by decide +kernel
theorem dX12_readWord_50 : decode cX12_readWord 50 = .ok (.iload_n 1, 1) := by decide +kernel
theorem dX12_readWord_51 : decode cX12_readWord 51 = .ok (.iaload, 1) := by decide +kernel
theorem dX12_readWord_52 : decode cX12_readWord 52 = .ok (.isub, 1) := by decide +kernel
theorem dX12_readWord_53 : decode cX12_readWord 53 = .ok (.istore_n 2, 1) := by decide +kernel
theorem dX12_readWord_54 : decode cX12_readWord 54 = .ok (.iload_n 2, 1) := by decide +kernel
theorem dX12_readWord_55 : decode cX12_readWord 55 = .ok (.aload_n 0, 1) := by decide +kernel
theorem dX12_readWord_56 : decode cX12_readWord 56 = .ok (.getfield 54, 3) := by decide +kernel
theorem dX12_readWord_59 : decode cX12_readWord 59 = .ok (.aload_n 0, 1) := by decide +kernel
theorem dX12_readWord_60 : decode cX12_readWord 60 = .ok (.getfield 66, 3) := by decide +kernel
theorem dX12_readWord_63 : decode cX12_readWord 63 = .ok (.isub, 1) := by decide +kernel
theorem dX12_readWord_64 : decode cX12_readWord 64 = .ok (.if_icmp .ne 7, 3) := by decide +kernel
theorem dX12_readWord_67 : decode cX12_readWord 67 = .ok (.iconst 1, 1) := by decide +kernel
theorem dX12_readWord_68 : decode cX12_readWord 68 = .ok (.goto 4, 3) := by decide +kernel
theorem dX12_readWord_71 : decode cX12_readWord 71 = .ok (.iconst 0, 1) := by decide +kernel
theorem dX12_readWord_72 : decode cX12_readWord 72 = .ok (.istore_n 3, 1) := by decide +kernel
theorem dX12_readWord_73 : decode cX12_readWord 73 = .ok (.iconst 0, 1) := by decide +kernel
theorem dX12_readWord_74 : decode cX12_readWord 74 = .ok (.istore 4, 2) := by decide +kernel
theorem dX12_readWord_76 : decode cX12_readWord 76 = .ok (.iload 4, 2) := by decide +kernel
theorem dX12_readWord_78 : decode cX12_readWord 78 = .ok (.iload_n 2, 1) := by decide +kernel
theorem dX12_readWord_79 : decode cX12_readWord 79 = .ok (.if_icmp .ge 48, 3) := by decide +kernel
theorem dX12_readWord_82 : decode cX12_readWord 82 = .ok (.iload_n 3, 1) := by decide +kernel
theorem dX12_readWord_83 : decode cX12_readWord 83 = .ok (.ifCond .eq 44, 3) := by decide +kernel
theorem dX12_readWord_86 : decode cX12_readWord 86 = .ok (.aload_n 0, 1) := by decide +kernel
theorem dX12_readWord_87 : decode cX12_readWord 87 = .ok (.getfield 51, 3) := by decide +kernel
theorem dX12_readWord_90 : decode cX12_readWord 90 = .ok (.aload_n 0, 1) := by decide +kernel
theorem dX12_readWord_91 : decode cX12_readWord 91 = .ok (.getfield 66, 3) := by decide +kernel
theorem dX12_readWord_94 : decode cX12_readWord 94 = .ok (.iload 4, 2) := by decide +kernel
theorem dX12_readWord_96 : decode cX12_readWord 96 = .ok (.iadd, 1) := by decide +kernel
theorem dX12_readWord_97 : decode cX12_readWord 97 = .ok (.iaload, 1) := by decide +kernel
theorem dX12_readWord_98 : decode cX12_readWord 98 = .ok (.aload_n 0, 1) := by decide +kernel
theorem dX12_readWord_99 : decode cX12_readWord 99 = .ok (.getfield 69, 3) := by decide +kernel
theorem dX12_readWord_102 : decode cX12_readWord 102 = .ok (.aload_n 0, 1) := by decide +kernel
theorem dX12_readWord_103 : decode cX12_readWord 103 = .ok (.getfield 63, 3) := by decide +kernel
theorem dX12_readWord_106 : decode cX12_readWord 106 = .ok (.iload_n 1, 1) := by decide +kernel
theorem dX12_readWord_107 : decode cX12_readWord 107 = .ok (.iaload, 1) := by decide +kernel
theorem dX12_readWord_108 : decode cX12_readWord 108 = .ok (.iload 4, 2) := by decide +kernel
theorem dX12_readWord_110 : decode cX12_readWord 110 = .ok (.iadd, 1) := by decide +kernel
theorem dX12_readWord_111 : decode cX12_readWord 111 = .ok (.caload, 1) := by decide +kernel
theorem dX12_readWord_112 : decode cX12_readWord 112 = .ok (.if_icmp .ne 7, 3) := by decide +kernel
theorem dX12_readWord_115 : decode cX12_readWord 115 = .ok (.iconst 1, 1) := by decide +kernel
theorem dX12_readWord_116 : decode cX12_readWord 116 = .ok (.goto 4, 3) := by decide +kernel
theorem dX12_readWord_119 : decode cX12_readWord 119 = .ok (.iconst 0, 1) := by decide +kernel
theorem dX12_readWord_120 : decode cX12_readWord 120 = .ok (.istore_n 3, 1) := by decide +kernel
theorem dX12_readWord_121 : decode cX12_readWord 121 = .ok (.iinc 4 1, 3) := by decide +kernel
theorem dX12_readWord_124 : decode cX12_readWord 124 = .ok (.goto (-48), 3) := by decide +kernel
theorem dX12_readWord_127 : decode cX12_readWord 127 = .ok (.iload_n 3, 1) := by decide +kernel
theorem dX12_readWord_128 : decode cX12_readWord 128 = .ok (.ifCond .eq 36, 3) := by decide +kernel
theorem dX12_readWord_131 : decode cX12_readWord 131 = .ok (.aload_n 0, 1) := by decide +kernel
theorem dX12_readWord_132 : decode cX12_readWord 132 = .ok (.iload_n 1, 1) := by decide +kernel
theorem dX12_readWord_133 : decode cX12_readWord 133 = .ok (.bipush 6, 2) := by decide +kernel
theorem dX12_readWord_135 : decode cX12_readWord 135 = .ok (.if_icmp .ge 7, 3) := by decide +kernel
theorem dX12_readWord_138 : decode cX12_readWord 138 = .ok (.iconst 2, 1) := by decide +kernel
theorem dX12_readWord_139 : decode cX12_readWord 139 = .ok (.goto 4, 3) := by decide +kernel
theorem dX12_readWord_142 : decode cX12_readWord 142 = .ok (.iconst 3, 1) := by decide +kernel
theorem dX12_readWord_143 : decode cX12_readWord 143 = .ok (.putfield 60, 3) := by decide +kernel
theorem dX12_readWord_146 : decode cX12_readWord 146 = .ok (.aload_n 0, 1) := by decide +kernel
theorem dX12_readWord_147 : decode cX12_readWord 147 = .ok (.iload_n 1, 1) := by decide +kernel
theorem dX12_readWord_148 : decode cX12_readWord 148 = .ok (.bipush 6, 2) := by decide +kernel
theorem dX12_readWord_150 : decode cX12_readWord 150 = .ok (.if_icmp .ge 7, 3) := by decide +kernel
theorem dX12_readWord_153 : decode cX12_readWord 153 = .ok (.iload_n 1, 1) := by decide +kernel
theorem dX12_readWord_154 : decode cX12_readWord 154 = .ok (.goto 7, 3) := by decide +kernel
theorem dX12_readWord_157 : decode cX12_readWord 157 = .ok (.iload_n 1, 1) := by decide +kernel
theorem dX12_readWord_158 : decode cX12_readWord 158 = .ok (.bipush 6, 2) := by decide +kernel
theorem dX12_readWord_160 : decode cX12_readWord 160 = .ok (.isub, 1) := by decide +kernel
theorem dX12_readWord_161 : decode cX12_readWord 161 = .ok (.putfield 73, 3) := by decide +kernel
theorem dX12_readWord_164 : decode cX12_readWord 164 = .ok (.iinc 1 1, 3) := by decide +kernel
theorem dX12_readWord_167 : decode cX12_readWord 167 = .ok (.goto (-135), 3) := by decide +kernel
theorem dX12_readWord_170 : decode cX12_readWord 170 = .ok (.return_, 1) := by decide +kernel
theorem dX12_readNumber_0 : decode cX12_readNumber 0 = .ok (.aload_n 0, 1) := by decide +kernel
theorem dX12_readNumber_1 : decode cX12_readNumber 1 = .ok (.iconst 0, 1) := by decide +kernel
theorem dX12_readNumber_2 : decode cX12_readNumber 2 = .ok (.putfield 73, 3) := by decide +kernel
theorem dX12_readNumber_5 : decode cX12_readNumber 5 = .ok (.aload_n 0, 1) := by decide +kernel
theorem dX12_readNumber_6 : decode cX12_readNumber 6 = .ok (.aload_n 0, 1) := by decide +kernel
theorem dX12_readNumber_7 : decode cX12_readNumber 7 = .ok (.getfield 54, 3) := by decide +kernel
theorem dX12_readNumber_10 : decode cX12_readNumber 10 = .ok (.invokevirtual 76, 3) := by decide +kernel
theorem dX12_readNumber_13 : decode cX12_readNumber 13 = .ok (.ifCond .eq 60, 3) := by decide +kernel
theorem dX12_readNumber_16 : decode cX12_readNumber 16 = .ok (.aload_n 0, 1) := by decide +kernel
theorem dX12_readNumber_17 : decode cX12_readNumber 17 = .ok (.aload_n 0, 1) := by decide +kernel
theorem dX12_readNumber_18 : decode cX12_readNumber 18 = .ok (.getfield 54, 3) := by decide +kernel
theorem dX12_readNumber_21 : decode cX12_readNumber 21 = .ok (.aload_n 0, 1) := by decide +kernel
theorem dX12_readNumber_22 : decode cX12_readNumber 22 = .ok (.getfield 66, 3) := by decide +kernel
theorem dX12_readNumber_25 : decode cX12_readNumber 25 = .ok (.isub, 1) := by decide +kernel
theorem dX12_readNumber_26 : decode cX12_readNumber 26 = .ok (.iconst 4, 1) := by decide +kernel
theorem dX12_readNumber_27 : decode cX12_readNumber 27 = .ok (.if_icmp .ge 26, 3) := by decide +kernel
theorem dX12_readNumber_30 : decode cX12_readNumber 30 = .ok (.bipush 10, 2) := by decide +kernel
theorem dX12_readNumber_32 : decode cX12_readNumber 32 = .ok (.aload_n 0, 1) := by decide +kernel
theorem dX12_readNumber_33 : decode cX12_readNumber 33 = .ok (.getfield 73, 3) := by decide +kernel
theorem dX12_readNumber_36 : decode cX12_readNumber 36 = .ok (.imul, 1) := by decide +kernel
theorem dX12_readNumber_37 : decode cX12_readNumber 37 = .ok (.aload_n 0, 1) := by decide +kernel
theorem dX12_readNumber_38 : decode cX12_readNumber 38 = .ok (.getfield 51, 3) := by decide +kernel
theorem dX12_readNumber_41 : decode cX12_readNumber 41 = .ok (.aload_n 0, 1) := by decide +kernel
theorem dX12_readNumber_42 : decode cX12_readNumber 42 = .ok (.getfield 54, 3) := by decide +kernel
theorem dX12_readNumber_45 : decode cX12_readNumber 45 = .ok (.iaload, 1) := by decide +kernel
theorem dX12_readNumber_46 : decode cX12_readNumber 46 = .ok (.iadd, 1) := by decide +kernel
theorem dX12_readNumber_47 : decode cX12_readNumber 47 = .ok (.bipush 48, 2) := by decide +kernel
theorem dX12_readNumber_49 : decode cX12_readNumber 49 = .ok (.isub, 1) := by decide +kernel
theorem dX12_readNumber_50 : decode cX12_readNumber 50 = .ok (.goto 7, 3) := by decide +kernel
theorem dX12_readNumber_53 : decode cX12_readNumber 53 = .ok (.aload_n 0, 1) := by decide +kernel
theorem dX12_readNumber_54 : decode cX12_readNumber 54 = .ok (.getfield 73, 3) := by decide +kernel
theorem dX12_readNumber_57 : decode cX12_readNumber 57 = .ok (.putfield 73, 3) := by decide +kernel
theorem dX12_readNumber_60 : decode cX12_readNumber 60 = .ok (.aload_n 0, 1) := by decide +kernel
theorem dX12_readNumber_61 : decode cX12_readNumber 61 = .ok (.dup, 1) := by decide +kernel
theorem dX12_readNumber_62 : decode cX12_readNumber 62 = .ok (.getfield 54, 3) := by decide +kernel
theorem dX12_readNumber_65 : decode cX12_readNumber 65 = .ok (.iconst 1, 1) := by decide +kernel
theorem dX12_readNumber_66 : decode cX12_readNumber 66 = .ok (.iadd, 1) := by decide +kernel
theorem dX12_readNumber_67 : decode cX12_readNumber 67 = .ok (.putfield 54, 3) := by decide +kernel
theorem dX12_readNumber_70 : decode cX12_readNumber 70 = .ok (.goto (-65), 3) := by decide +kernel
theorem dX12_readNumber_73 : decode cX12_readNumber 73 = .ok (.aload_n 0, 1) := by decide +kernel
theorem dX12_readNumber_74 : decode cX12_readNumber 74 = .ok (.aload_n 0, 1) := by decide +kernel
theorem dX12_readNumber_75 : decode cX12_readNumber 75 = .ok (.getfield 54, 3) := by decide +kernel
theorem dX12_readNumber_78 : decode cX12_readNumber 78 = .ok (.aload_n 0, 1) := by decide +kernel
theorem dX12_readNumber_79 : decode cX12_readNumber 79 = .ok (.getfield 66, 3) := by decide +kernel
theorem dX12_readNumber_82 : decode cX12_readNumber 82 = .ok (.isub, 1) := by decide +kernel
theorem dX12_readNumber_83 : decode cX12_readNumber 83 = .ok (.iconst 4, 1) := by decide +kernel
theorem dX12_readNumber_84 : decode cX12_readNumber 84 = .ok (.if_icmp .le 8, 3) := by decide +kernel
theorem dX12_readNumber_87 : decode cX12_readNumber 87 = .ok (.bipush 6, 2) := by decide +kernel
theorem dX12_readNumber_89 : decode cX12_readNumber 89 = .ok (.goto 4, 3) := by decide +kernel
theorem dX12_readNumber_92 : decode cX12_readNumber 92 = .ok (.iconst 1, 1) := by decide +kernel
theorem dX12_readNumber_93 : decode cX12_readNumber 93 = .ok (.putfield 60, 3) := by decide +kernel
theorem dX12_readNumber_96 : decode cX12_readNumber 96 = .ok (.return_, 1) := by decide +kernel
theorem dX12_next_0 : decode cX12_next 0 = .ok (.aload_n 0, 1) := by decide +kernel
theorem dX12_next_1 : decode cX12_next 1 = .ok (.getfield 54, 3) := by decide +kernel
theorem dX12_next_4 : decode cX12_next 4 = .ok (.aload_n 0, 1) := by decide +kernel
theorem dX12_next_5 : decode cX12_next 5 = .ok (.getfield 48, 3) := by decide +kernel
theorem dX12_next_8 : decode cX12_next 8 = .ok (.if_icmp .ge 44, 3) := by decide +kernel
theorem dX12_next_11 : decode cX12_next 11 = .ok (.aload_n 0, 1) := by decide +kernel
theorem dX12_next_12 : decode cX12_next 12 = .ok (.getfield 51, 3) := by decide +kernel
theorem dX12_next_15 : decode cX12_next 15 = .ok (.aload_n 0, 1) := by decide +kernel
theorem dX12_next_16 : decode cX12_next 16 = .ok (.getfield 54, 3) := by decide +kernel
theorem dX12_next_19 : decode cX12_next 19 = .ok (.iaload, 1) := by decide +kernel
theorem dX12_next_20 : decode cX12_next 20 = .ok (.bipush 32, 2) := by decide +kernel
theorem dX12_next_22 : decode cX12_next 22 = .ok (.if_icmp .eq 17, 3) := by decide +kernel
theorem dX12_next_25 : decode cX12_next 25 = .ok (.aload_n 0, 1) := by decide +kernel
theorem dX12_next_26 : decode cX12_next 26 = .ok (.getfield 51, 3) := by decide +kernel
theorem dX12_next_29 : decode cX12_next 29 = .ok (.aload_n 0, 1) := by decide +kernel
theorem dX12_next_30 : decode cX12_next 30 = .ok (.getfield 54, 3) := by decide +kernel
theorem dX12_next_33 : decode cX12_next 33 = .ok (.iaload, 1) := by decide +kernel
theorem dX12_next_34 : decode cX12_next 34 = .ok (.bipush 10, 2) := by decide +kernel
theorem dX12_next_36 : decode cX12_next 36 = .ok (.if_icmp .ne 16, 3) := by decide +kernel
theorem dX12_next_39 : decode cX12_next 39 = .ok (.aload_n 0, 1) := by decide +kernel
theorem dX12_next_40 : decode cX12_next 40 = .ok (.dup, 1) := by decide +kernel
theorem dX12_next_41 : decode cX12_next 41 = .ok (.getfield 54, 3) := by decide +kernel
theorem dX12_next_44 : decode cX12_next 44 = .ok (.iconst 1, 1) := by decide +kernel
theorem dX12_next_45 : decode cX12_next 45 = .ok (.iadd, 1) := by decide +kernel
theorem dX12_next_46 : decode cX12_next 46 = .ok (.putfield 54, 3) := by decide +kernel
theorem dX12_next_49 : decode cX12_next 49 = .ok (.goto (-49), 3) := by decide +kernel
theorem dX12_next_52 : decode cX12_next 52 = .ok (.aload_n 0, 1) := by decide +kernel
theorem dX12_next_53 : decode cX12_next 53 = .ok (.aload_n 0, 1) := by decide +kernel
theorem dX12_next_54 : decode cX12_next 54 = .ok (.getfield 54, 3) := by decide +kernel
theorem dX12_next_57 : decode cX12_next 57 = .ok (.putfield 66, 3) := by decide +kernel
theorem dX12_next_60 : decode cX12_next 60 = .ok (.aload_n 0, 1) := by decide +kernel
theorem dX12_next_61 : decode cX12_next 61 = .ok (.getfield 54, 3) := by decide +kernel
theorem dX12_next_64 : decode cX12_next 64 = .ok (.aload_n 0, 1) := by decide +kernel
theorem dX12_next_65 : decode cX12_next 65 = .ok (.getfield 48, 3) := by decide +kernel
theorem dX12_next_68 : decode cX12_next 68 = .ok (.if_icmp .ne 11, 3) := by decide +kernel
theorem dX12_next_71 : decode cX12_next 71 = .ok (.aload_n 0, 1) := by decide +kernel
theorem dX12_next_72 : decode cX12_next 72 = .ok (.iconst 5, 1) := by decide +kernel
theorem dX12_next_73 : decode cX12_next 73 = .ok (.putfield 60, 3) := by decide +kernel
theorem dX12_next_76 : decode cX12_next 76 = .ok (.goto 154, 3) := by decide +kernel
theorem dX12_next_79 : decode cX12_next 79 = .ok (.aload_n 0, 1) := by decide +kernel
theorem dX12_next_80 : decode cX12_next 80 = .ok (.aload_n 0, 1) := by decide +kernel
theorem dX12_next_81 : decode cX12_next 81 = .ok (.getfield 54, 3) := by decide +kernel
theorem dX12_next_84 : decode cX12_next 84 = .ok (.invokevirtual 57, 3) := by decide +kernel
theorem dX12_next_87 : decode cX12_next 87 = .ok (.ifCond .eq 10, 3) := by decide +kernel
theorem dX12_next_90 : decode cX12_next 90 = .ok (.aload_n 0, 1) := by decide +kernel
theorem dX12_next_91 : decode cX12_next 91 = .ok (.invokevirtual 79, 3) := by decide +kernel
theorem dX12_next_94 : decode cX12_next 94 = .ok (.goto 136, 3) := by decide +kernel
theorem dX12_next_97 : decode cX12_next 97 = .ok (.aload_n 0, 1) := by decide +kernel
theorem dX12_next_98 : decode cX12_next 98 = .ok (.aload_n 0, 1) := by decide +kernel
theorem dX12_next_99 : decode cX12_next 99 = .ok (.getfield 54, 3) := by decide +kernel
theorem dX12_next_102 : decode cX12_next 102 = .ok (.invokevirtual 76, 3) := by decide +kernel
theorem dX12_next_105 : decode cX12_next 105 = .ok (.ifCond .eq 10, 3) := by decide +kernel
theorem dX12_next_108 : decode cX12_next 108 = .ok (.aload_n 0, 1) := by decide +kernel
theorem dX12_next_109 : decode cX12_next 109 = .ok (.invokevirtual 83, 3) := by decide +kernel
theorem dX12_next_112 : decode cX12_next 112 = .ok (.goto 118, 3) := by decide +kernel
theorem dX12_next_115 : decode cX12_next 115 = .ok (.aload_n 0, 1) := by decide +kernel
theorem dX12_next_116 : decode cX12_next 116 = .ok (.aload_n 0, 1) := by decide +kernel
theorem dX12_next_117 : decode cX12_next 117 = .ok (.getfield 51, 3) := by decide +kernel
theorem dX12_next_120 : decode cX12_next 120 = .ok (.aload_n 0, 1) := by decide +kernel
theorem dX12_next_121 : decode cX12_next 121 = .ok (.getfield 54, 3) := by decide +kernel
theorem dX12_next_124 : decode cX12_next 124 = .ok (.iaload, 1) := by decide +kernel
theorem dX12_next_125 : decode cX12_next 125 = .ok (.putfield 73, 3) := by decide +kernel
theorem dX12_next_128 : decode cX12_next 128 = .ok (.aload_n 0, 1) := by decide +kernel
theorem dX12_next_129 : decode cX12_next 129 = .ok (.getfield 73, 3) := by decide +kernel
theorem dX12_next_132 : decode cX12_next 132 = .ok (.bipush 40, 2) := by decide +kernel
theorem dX12_next_134 : decode cX12_next 134 = .ok (.if_icmp .eq 66, 3) := by decide +kernel
theorem dX12_next_137 : decode cX12_next 137 = .ok (.aload_n 0, 1) := by decide +kernel
theorem dX12_next_138 : decode cX12_next 138 = .ok (.getfield 73, 3) := by decide +kernel
theorem dX12_next_141 : decode cX12_next 141 = .ok (.bipush 41, 2) := by decide +kernel
theorem dX12_next_143 : decode cX12_next 143 = .ok (.if_icmp .eq 57, 3) := by decide +kernel
theorem dX12_next_146 : decode cX12_next 146 = .ok (.aload_n 0, 1) := by decide +kernel
theorem dX12_next_147 : decode cX12_next 147 = .ok (.getfield 73, 3) := by decide +kernel
theorem dX12_next_150 : decode cX12_next 150 = .ok (.bipush 59, 2) := by decide +kernel
theorem dX12_next_152 : decode cX12_next 152 = .ok (.if_icmp .eq 48, 3) := by decide +kernel
theorem dX12_next_155 : decode cX12_next 155 = .ok (.aload_n 0, 1) := by decide +kernel
theorem dX12_next_156 : decode cX12_next 156 = .ok (.getfield 73, 3) := by decide +kernel
theorem dX12_next_159 : decode cX12_next 159 = .ok (.bipush 43, 2) := by decide +kernel
theorem dX12_next_161 : decode cX12_next 161 = .ok (.if_icmp .eq 39, 3) := by decide +kernel
theorem dX12_next_164 : decode cX12_next 164 = .ok (.aload_n 0, 1) := by decide +kernel
theorem dX12_next_165 : decode cX12_next 165 = .ok (.getfield 73, 3) := by decide +kernel
theorem dX12_next_168 : decode cX12_next 168 = .ok (.bipush 45, 2) := by decide +kernel
theorem dX12_next_170 : decode cX12_next 170 = .ok (.if_icmp .eq 30, 3) := by decide +kernel
theorem dX12_next_173 : decode cX12_next 173 = .ok (.aload_n 0, 1) := by decide +kernel
theorem dX12_next_174 : decode cX12_next 174 = .ok (.getfield 73, 3) := by decide +kernel
theorem dX12_next_177 : decode cX12_next 177 = .ok (.bipush 42, 2) := by decide +kernel
theorem dX12_next_179 : decode cX12_next 179 = .ok (.if_icmp .eq 21, 3) := by decide +kernel
theorem dX12_next_182 : decode cX12_next 182 = .ok (.aload_n 0, 1) := by decide +kernel
theorem dX12_next_183 : decode cX12_next 183 = .ok (.getfield 73, 3) := by decide +kernel
theorem dX12_next_186 : decode cX12_next 186 = .ok (.bipush 60, 2) := by decide +kernel
theorem dX12_next_188 : decode cX12_next 188 = .ok (.if_icmp .eq 12, 3) := by decide +kernel
theorem dX12_next_191 : decode cX12_next 191 = .ok (.aload_n 0, 1) := by decide +kernel
theorem dX12_next_192 : decode cX12_next 192 = .ok (.getfield 73, 3) := by decide +kernel
theorem dX12_next_195 : decode cX12_next 195 = .ok (.bipush 61, 2) := by decide +kernel
theorem dX12_next_197 : decode cX12_next 197 = .ok (.if_icmp .ne 7, 3) := by decide +kernel
theorem dX12_next_200 : decode cX12_next 200 = .ok (.iconst 1, 1) := by decide +kernel
theorem dX12_next_201 : decode cX12_next 201 = .ok (.goto 4, 3) := by decide +kernel
theorem dX12_next_204 : decode cX12_next 204 = .ok (.iconst 0, 1) := by decide +kernel
theorem dX12_next_205 : decode cX12_next 205 = .ok (.istore_n 1, 1) := by decide +kernel
theorem dX12_next_206 : decode cX12_next 206 = .ok (.aload_n 0, 1) := by decide +kernel
theorem dX12_next_207 : decode cX12_next 207 = .ok (.iload_n 1, 1) := by decide +kernel
theorem dX12_next_208 : decode cX12_next 208 = .ok (.ifCond .eq 7, 3) := by decide +kernel
theorem dX12_next_211 : decode cX12_next 211 = .ok (.iconst 4, 1) := by decide +kernel
theorem dX12_next_212 : decode cX12_next 212 = .ok (.goto 5, 3) := by decide +kernel
theorem dX12_next_215 : decode cX12_next 215 = .ok (.bipush 6, 2) := by decide +kernel
theorem dX12_next_217 : decode cX12_next 217 = .ok (.putfield 60, 3) := by decide +kernel
theorem dX12_next_220 : decode cX12_next 220 = .ok (.aload_n 0, 1) := by decide +kernel
theorem dX12_next_221 : decode cX12_next 221 = .ok (.dup, 1) := by decide +kernel
theorem dX12_next_222 : decode cX12_next 222 = .ok (.getfield 54, 3) := by decide +kernel
theorem dX12_next_225 : decode cX12_next 225 = .ok (.iconst 1, 1) := by decide +kernel
theorem dX12_next_226 : decode cX12_next 226 = .ok (.iadd, 1) := by decide +kernel
theorem dX12_next_227 : decode cX12_next 227 = .ok (.putfield 54, 3) := by decide +kernel
theorem dX12_next_230 : decode cX12_next 230 = .ok (.return_, 1) := by decide +kernel
theorem dX12_isSign_0 : decode cX12_isSign 0 = .ok (.aload_n 0, 1) := by decide +kernel
theorem dX12_isSign_1 : decode cX12_isSign 1 = .ok (.getfield 60, 3) := by decide +kernel
theorem dX12_isSign_4 : decode cX12_isSign 4 = .ok (.iconst 4, 1) := by decide +kernel
theorem dX12_isSign_5 : decode cX12_isSign 5 = .ok (.if_icmp .ne 15, 3) := by decide +kernel
theorem dX12_isSign_8 : decode cX12_isSign 8 = .ok (.aload_n 0, 1) := by decide +kernel
theorem dX12_isSign_9 : decode cX12_isSign 9 = .ok (.getfield 73, 3) := by decide +kernel
theorem dX12_isSign_12 : decode cX12_isSign 12 = .ok (.iload_n 1, 1) := by decide +kernel
theorem dX12_isSign_13 : decode cX12_isSign 13 = .ok (.if_icmp .ne 7, 3) := by decide +kernel
theorem dX12_isSign_16 : decode cX12_isSign 16 = .ok (.iconst 1, 1) := by decide +kernel
theorem dX12_isSign_17 : decode cX12_isSign 17 = .ok (.goto 4, 3) := by decide +kernel
theorem dX12_isSign_20 : decode cX12_isSign 20 = .ok (.iconst 0, 1) := by decide +kernel
theorem dX12_isSign_21 : decode cX12_isSign 21 = .ok (.ireturn, 1) := by decide +kernel
theorem dX12_isKey_0 : decode cX12_isKey 0 = .ok (.aload_n 0, 1) := by decide +kernel
theorem dX12_isKey_1 : decode cX12_isKey 1 = .ok (.getfield 60, 3) := by decide +kernel
theorem dX12_isKey_4 : decode cX12_isKey 4 = .ok (.iconst 3, 1) := by decide +kernel
theorem dX12_isKey_5 : decode cX12_isKey 5 = .ok (.if_icmp .ne 15, 3) := by decide +kernel
theorem dX12_isKey_8 : decode cX12_isKey 8 = .ok (.aload_n 0, 1) := by decide +kernel
theorem dX12_isKey_9 : decode cX12_isKey 9 = .ok (.getfield 73, 3) := by decide +kernel
theorem dX12_isKey_12 : decode cX12_isKey 12 = .ok (.iload_n 1, 1) := by decide +kernel
theorem dX12_isKey_13 : decode cX12_isKey 13 = .ok (.if_icmp .ne 7, 3) := by decide +kernel
theorem dX12_isKey_16 : decode cX12_isKey 16 = .ok (.iconst 1, 1) := by decide +kernel
theorem dX12_isKey_17 : decode cX12_isKey 17 = .ok (.goto 4, 3) := by decide +kernel
theorem dX12_isKey_20 : decode cX12_isKey 20 = .ok (.iconst 0, 1) := by decide +kernel
theorem dX12_isKey_21 : decode cX12_isKey 21 = .ok (.ireturn, 1) := by decide +kernel
theorem dX12_emit_0 : decode cX12_emit 0 = .ok (.aload_n 0, 1) := by decide +kernel
theorem dX12_emit_1 : decode cX12_emit 1 = .ok (.getfield 86, 3) := by decide +kernel
theorem dX12_emit_4 : decode cX12_emit 4 = .ok (.aload_n 0, 1) := by decide +kernel
theorem dX12_emit_5 : decode cX12_emit 5 = .ok (.getfield 89, 3) := by decide +kernel
theorem dX12_emit_8 : decode cX12_emit 8 = .ok (.aload_n 0, 1) := by decide +kernel
theorem dX12_emit_9 : decode cX12_emit 9 = .ok (.getfield 92, 3) := by decide +kernel
theorem dX12_emit_12 : decode cX12_emit 12 = .ok (.iadd, 1) := by decide +kernel
theorem dX12_emit_13 : decode cX12_emit 13 = .ok (.iload_n 1, 1) := by decide +kernel
theorem dX12_emit_14 : decode cX12_emit 14 = .ok (.iastore, 1) := by decide +kernel
theorem dX12_emit_15 : decode cX12_emit 15 = .ok (.aload_n 0, 1) := by decide +kernel
theorem dX12_emit_16 : decode cX12_emit 16 = .ok (.dup, 1) := by decide +kernel
theorem dX12_emit_17 : decode cX12_emit 17 = .ok (.getfield 92, 3) := by decide +kernel
theorem dX12_emit_20 : decode cX12_emit 20 = .ok (.iconst 1, 1) := by decide +kernel
theorem dX12_emit_21 : decode cX12_emit 21 = .ok (.iadd, 1) := by decide +kernel
theorem dX12_emit_22 : decode cX12_emit 22 = .ok (.putfield 92, 3) := by decide +kernel
theorem dX12_emit_25 : decode cX12_emit 25 = .ok (.return_, 1) := by decide +kernel
theorem dX12_rank_0 : decode cX12_rank 0 = .ok (.iload_n 0, 1) := by decide +kernel
theorem dX12_rank_1 : decode cX12_rank 1 = .ok (.bipush 10, 2) := by decide +kernel
theorem dX12_rank_3 : decode cX12_rank 3 = .ok (.if_icmp .ne 7, 3) := by decide +kernel
theorem dX12_rank_6 : decode cX12_rank 6 = .ok (.iconst 1, 1) := by decide +kernel
theorem dX12_rank_7 : decode cX12_rank 7 = .ok (.goto 78, 3) := by decide +kernel
theorem dX12_rank_10 : decode cX12_rank 10 = .ok (.iload_n 0, 1) := by decide +kernel
theorem dX12_rank_11 : decode cX12_rank 11 = .ok (.bipush 11, 2) := by decide +kernel
theorem dX12_rank_13 : decode cX12_rank 13 = .ok (.if_icmp .ne 7, 3) := by decide +kernel
theorem dX12_rank_16 : decode cX12_rank 16 = .ok (.iconst 2, 1) := by decide +kernel
theorem dX12_rank_17 : decode cX12_rank 17 = .ok (.goto 68, 3) := by decide +kernel
theorem dX12_rank_20 : decode cX12_rank 20 = .ok (.iload_n 0, 1) := by decide +kernel
theorem dX12_rank_21 : decode cX12_rank 21 = .ok (.bipush 12, 2) := by decide +kernel
theorem dX12_rank_23 : decode cX12_rank 23 = .ok (.if_icmp .ne 7, 3) := by decide +kernel
theorem dX12_rank_26 : decode cX12_rank 26 = .ok (.iconst 3, 1) := by decide +kernel
theorem dX12_rank_27 : decode cX12_rank 27 = .ok (.goto 58, 3) := by decide +kernel
theorem dX12_rank_30 : decode cX12_rank 30 = .ok (.iload_n 0, 1) := by decide +kernel
theorem dX12_rank_31 : decode cX12_rank 31 = .ok (.bipush 13, 2) := by decide +kernel
theorem dX12_rank_33 : decode cX12_rank 33 = .ok (.if_icmp .eq 9, 3) := by decide +kernel
theorem dX12_rank_36 : decode cX12_rank 36 = .ok (.iload_n 0, 1) := by decide +kernel
theorem dX12_rank_37 : decode cX12_rank 37 = .ok (.bipush 14, 2) := by decide +kernel
theorem dX12_rank_39 : decode cX12_rank 39 = .ok (.if_icmp .ne 7, 3) := by decide +kernel
theorem dX12_rank_42 : decode cX12_rank 42 = .ok (.iconst 4, 1) := by decide +kernel
theorem dX12_rank_43 : decode cX12_rank 43 = .ok (.goto 42, 3) := by decide +kernel
theorem dX12_rank_46 : decode cX12_rank 46 = .ok (.iload_n 0, 1) := by decide +kernel
theorem dX12_rank_47 : decode cX12_rank 47 = .ok (.bipush 15, 2) := by decide +kernel
theorem dX12_rank_49 : decode cX12_rank 49 = .ok (.if_icmp .eq 9, 3) := by decide +kernel
theorem dX12_rank_52 : decode cX12_rank 52 = .ok (.iload_n 0, 1) := by decide +kernel
theorem dX12_rank_53 : decode cX12_rank 53 = .ok (.bipush 16, 2) := by decide +kernel
theorem dX12_rank_55 : decode cX12_rank 55 = .ok (.if_icmp .ne 7, 3) := by decide +kernel
theorem dX12_rank_58 : decode cX12_rank 58 = .ok (.iconst 5, 1) := by decide +kernel
theorem dX12_rank_59 : decode cX12_rank 59 = .ok (.goto 26, 3) := by decide +kernel
theorem dX12_rank_62 : decode cX12_rank 62 = .ok (.iload_n 0, 1) := by decide +kernel
theorem dX12_rank_63 : decode cX12_rank 63 = .ok (.bipush 17, 2) := by decide +kernel
theorem dX12_rank_65 : decode cX12_rank 65 = .ok (.if_icmp .ne 8, 3) := by decide +kernel
theorem dX12_rank_68 : decode cX12_rank 68 = .ok (.bipush 6, 2) := by decide +kernel
theorem dX12_rank_70 : decode cX12_rank 70 = .ok (.goto 15, 3) := by decide +kernel
theorem dX12_rank_73 : decode cX12_rank 73 = .ok (.iload_n 0, 1) := by decide +kernel
theorem dX12_rank_74 : decode cX12_rank 74 = .ok (.bipush 18, 2) := by decide +kernel
theorem dX12_rank_76 : decode cX12_rank 76 = .ok (.if_icmp .ne 8, 3) := by decide +kernel
theorem dX12_rank_79 : decode cX12_rank 79 = .ok (.bipush 7, 2) := by decide +kernel
theorem dX12_rank_81 : decode cX12_rank 81 = .ok (.goto 4, 3) := by decide +kernel
theorem dX12_rank_84 : decode cX12_rank 84 = .ok (.iconst 0, 1) := by decide +kernel
theorem dX12_rank_85 : decode cX12_rank 85 = .ok (.ireturn, 1) := by decide +kernel
theorem dX12_doAll_0 : decode cX12_doAll 0 = .ok (.aload_n 0, 1) := by decide +kernel
theorem dX12_doAll_1 : decode cX12_doAll 1 = .ok (.getfield 95, 3) := by decide +kernel
theorem dX12_doAll_4 : decode cX12_doAll 4 = .ok (.ifCond .le 105, 3) := by decide +kernel
theorem dX12_doAll_7 : decode cX12_doAll 7 = .ok (.aload_n 0, 1) := by decide +kernel
theorem dX12_doAll_8 : decode cX12_doAll 8 = .ok (.getfield 98, 3) := by decide +kernel
theorem dX12_doAll_11 : decode cX12_doAll 11 = .ok (.aload_n 0, 1) := by decide +kernel
theorem dX12_doAll_12 : decode cX12_doAll 12 = .ok (.getfield 95, 3) := by decide +kernel
theorem dX12_doAll_15 : decode cX12_doAll 15 = .ok (.iconst 1, 1) := by decide +kernel
theorem dX12_doAll_16 : decode cX12_doAll 16 = .ok (.isub, 1) := by decide +kernel
theorem dX12_doAll_17 : decode cX12_doAll 17 = .ok (.iaload, 1) := by decide +kernel
theorem dX12_doAll_18 : decode cX12_doAll 18 = .ok (.bipush 30, 2) := by decide +kernel
theorem dX12_doAll_20 : decode cX12_doAll 20 = .ok (.if_icmp .eq 89, 3) := by decide +kernel
theorem dX12_doAll_23 : decode cX12_doAll 23 = .ok (.aload_n 0, 1) := by decide +kernel
theorem dX12_doAll_24 : decode cX12_doAll 24 = .ok (.getfield 98, 3) := by decide +kernel
theorem dX12_doAll_27 : decode cX12_doAll 27 = .ok (.aload_n 0, 1) := by decide +kernel
theorem dX12_doAll_28 : decode cX12_doAll 28 = .ok (.getfield 95, 3) := by decide +kernel
theorem dX12_doAll_31 : decode cX12_doAll 31 = .ok (.iconst 1, 1) := by decide +kernel
theorem dX12_doAll_32 : decode cX12_doAll 32 = .ok (.isub, 1) := by decide +kernel
theorem dX12_doAll_33 : decode cX12_doAll 33 = .ok (.iaload, 1) := by decide +kernel
theorem dX12_doAll_34 : decode cX12_doAll 34 = .ok (.invokestatic 101, 3) := by decide +kernel
theorem dX12_doAll_37 : decode cX12_doAll 37 = .ok (.iload_n 1, 1) := by decide +kernel
theorem dX12_doAll_38 : decode cX12_doAll 38 = .ok (.if_icmp .lt 71, 3) := by decide +kernel
theorem dX12_doAll_41 : decode cX12_doAll 41 = .ok (.aload_n 0, 1) := by decide +kernel
theorem dX12_doAll_42 : decode cX12_doAll 42 = .ok (.dup, 1) := by decide +kernel
theorem dX12_doAll_43 : decode cX12_doAll 43 = .ok (.getfield 95, 3) := by decide +kernel
theorem dX12_doAll_46 : decode cX12_doAll 46 = .ok (.iconst 1, 1) := by decide +kernel
theorem dX12_doAll_47 : decode cX12_doAll 47 = .ok (.isub, 1) := by decide +kernel
theorem dX12_doAll_48 : decode cX12_doAll 48 = .ok (.putfield 95, 3) := by decide +kernel
theorem dX12_doAll_51 : decode cX12_doAll 51 = .ok (.aload_n 0, 1) := by decide +kernel
theorem dX12_doAll_52 : decode cX12_doAll 52 = .ok (.dup, 1) := by decide +kernel
theorem dX12_doAll_53 : decode cX12_doAll 53 = .ok (.getfield 104, 3) := by decide +kernel
theorem dX12_doAll_56 : decode cX12_doAll 56 = .ok (.aload_n 0, 1) := by decide +kernel
theorem dX12_doAll_57 : decode cX12_doAll 57 = .ok (.getfield 98, 3) := by decide +kernel
theorem dX12_doAll_60 : decode cX12_doAll 60 = .ok (.aload_n 0, 1) := by decide +kernel
theorem dX12_doAll_61 : decode cX12_doAll 61 = .ok (.getfield 95, 3) := by decide +kernel
theorem dX12_doAll_64 : decode cX12_doAll 64 = .ok (.iaload, 1) := by decide +kernel
theorem dX12_doAll_65 : decode cX12_doAll 65 = .ok (.bipush 12, 2) := by decide +kernel
theorem dX12_doAll_67 : decode cX12_doAll 67 = .ok (.if_icmp .eq 17, 3) := by decide +kernel
theorem dX12_doAll_70 : decode cX12_doAll 70 = .ok (.aload_n 0, 1) := by decide +kernel
theorem dX12_doAll_71 : decode cX12_doAll 71 = .ok (.getfield 98, 3) := by decide +kernel
theorem dX12_doAll_74 : decode cX12_doAll 74 = .ok (.aload_n 0, 1) := by decide +kernel
theorem dX12_doAll_75 : decode cX12_doAll 75 = .ok (.getfield 95, 3) := by decide +kernel
theorem dX12_doAll_78 : decode cX12_doAll 78 = .ok (.iaload, 1) := by decide +kernel
theorem dX12_doAll_79 : decode cX12_doAll 79 = .ok (.bipush 18, 2) := by decide +kernel
theorem dX12_doAll_81 : decode cX12_doAll 81 = .ok (.if_icmp .ne 7, 3) := by decide +kernel
theorem dX12_doAll_84 : decode cX12_doAll 84 = .ok (.iconst 1, 1) := by decide +kernel
theorem dX12_doAll_85 : decode cX12_doAll 85 = .ok (.goto 4, 3) := by decide +kernel
theorem dX12_doAll_88 : decode cX12_doAll 88 = .ok (.iconst 0, 1) := by decide +kernel
theorem dX12_doAll_89 : decode cX12_doAll 89 = .ok (.isub, 1) := by decide +kernel
theorem dX12_doAll_90 : decode cX12_doAll 90 = .ok (.putfield 104, 3) := by decide +kernel
theorem dX12_doAll_93 : decode cX12_doAll 93 = .ok (.aload_n 0, 1) := by decide +kernel
theorem dX12_doAll_94 : decode cX12_doAll 94 = .ok (.aload_n 0, 1) := by decide +kernel
theorem dX12_doAll_95 : decode cX12_doAll 95 = .ok (.getfield 98, 3) := by decide +kernel
theorem dX12_doAll_98 : decode cX12_doAll 98 = .ok (.aload_n 0, 1) := by decide +kernel
theorem dX12_doAll_99 : decode cX12_doAll 99 = .ok (.getfield 95, 3) := by decide +kernel
theorem dX12_doAll_102 : decode cX12_doAll 102 = .ok (.iaload, 1) := by decide +kernel
theorem dX12_doAll_103 : decode cX12_doAll 103 = .ok (.invokevirtual 107, 3) := by decide +kernel
theorem dX12_doAll_106 : decode cX12_doAll 106 = .ok (.goto (-106), 3) := by decide +kernel
theorem dX12_doAll_109 : decode cX12_doAll 109 = .ok (.return_, 1) := by decide +kernel
theorem dX12_await_0 : decode cX12_await 0 = .ok (.aload_n 0, 1) := by decide +kernel
theorem dX12_await_1 : decode cX12_await 1 = .ok (.getfield 98, 3) := by decide +kernel
theorem dX12_await_4 : decode cX12_await 4 = .ok (.aload_n 0, 1) := by decide +kernel
theorem dX12_await_5 : decode cX12_await 5 = .ok (.getfield 95, 3) := by decide +kernel
theorem dX12_await_8 : decode cX12_await 8 = .ok (.iload_n 1, 1) := by decide +kernel
theorem dX12_await_9 : decode cX12_await 9 = .ok (.iastore, 1) := by decide +kernel
theorem dX12_await_10 : decode cX12_await 10 = .ok (.aload_n 0, 1) := by decide +kernel
theorem dX12_await_11 : decode cX12_await 11 = .ok (.dup, 1) := by decide +kernel
theorem dX12_await_12 : decode cX12_await 12 = .ok (.getfield 95, 3) := by decide +kernel
theorem dX12_await_15 : decode cX12_await 15 = .ok (.iconst 1, 1) := by decide +kernel
theorem dX12_await_16 : decode cX12_await 16 = .ok (.iadd, 1) := by decide +kernel
theorem dX12_await_17 : decode cX12_await 17 = .ok (.putfield 95, 3) := by decide +kernel
theorem dX12_await_20 : decode cX12_await 20 = .ok (.return_, 1) := by decide +kernel
theorem dX12_between_0 : decode cX12_between 0 = .ok (.aload_n 0, 1) := by decide +kernel
theorem dX12_between_1 : decode cX12_between 1 = .ok (.bipush 43, 2) := by decide +kernel
theorem dX12_between_3 : decode cX12_between 3 = .ok (.invokevirtual 111, 3) := by decide +kernel
theorem dX12_between_6 : decode cX12_between 6 = .ok (.ifCond .eq 8, 3) := by decide +kernel
theorem dX12_between_9 : decode cX12_between 9 = .ok (.bipush 15, 2) := by decide +kernel
theorem dX12_between_11 : decode cX12_between 11 = .ok (.goto 86, 3) := by decide +kernel
theorem dX12_between_14 : decode cX12_between 14 = .ok (.aload_n 0, 1) := by decide +kernel
theorem dX12_between_15 : decode cX12_between 15 = .ok (.bipush 45, 2) := by decide +kernel
theorem dX12_between_17 : decode cX12_between 17 = .ok (.invokevirtual 111, 3) := by decide +kernel
theorem dX12_between_20 : decode cX12_between 20 = .ok (.ifCond .eq 8, 3) := by decide +kernel
theorem dX12_between_23 : decode cX12_between 23 = .ok (.bipush 16, 2) := by decide +kernel
theorem dX12_between_25 : decode cX12_between 25 = .ok (.goto 72, 3) := by decide +kernel
theorem dX12_between_28 : decode cX12_between 28 = .ok (.aload_n 0, 1) := by decide +kernel
theorem dX12_between_29 : decode cX12_between 29 = .ok (.bipush 42, 2) := by decide +kernel
theorem dX12_between_31 : decode cX12_between 31 = .ok (.invokevirtual 111, 3) := by decide +kernel
theorem dX12_between_34 : decode cX12_between 34 = .ok (.ifCond .eq 8, 3) := by decide +kernel
theorem dX12_between_37 : decode cX12_between 37 = .ok (.bipush 17, 2) := by decide +kernel
theorem dX12_between_39 : decode cX12_between 39 = .ok (.goto 58, 3) := by decide +kernel
theorem dX12_between_42 : decode cX12_between 42 = .ok (.aload_n 0, 1) := by decide +kernel
theorem dX12_between_43 : decode cX12_between 43 = .ok (.bipush 60, 2) := by decide +kernel
theorem dX12_between_45 : decode cX12_between 45 = .ok (.invokevirtual 111, 3) := by decide +kernel
theorem dX12_between_48 : decode cX12_between 48 = .ok (.ifCond .eq 8, 3) := by decide +kernel
theorem dX12_between_51 : decode cX12_between 51 = .ok (.bipush 13, 2) := by decide +kernel
theorem dX12_between_53 : decode cX12_between 53 = .ok (.goto 44, 3) := by decide +kernel
theorem dX12_between_56 : decode cX12_between 56 = .ok (.aload_n 0, 1) := by decide +kernel
theorem dX12_between_57 : decode cX12_between 57 = .ok (.bipush 61, 2) := by decide +kernel
theorem dX12_between_59 : decode cX12_between 59 = .ok (.invokevirtual 111, 3) := by decide +kernel
theorem dX12_between_62 : decode cX12_between 62 = .ok (.ifCond .eq 8, 3) := by decide +kernel
theorem dX12_between_65 : decode cX12_between 65 = .ok (.bipush 14, 2) := by decide +kernel
theorem dX12_between_67 : decode cX12_between 67 = .ok (.goto 30, 3) := by decide +kernel
theorem dX12_between_70 : decode cX12_between 70 = .ok (.aload_n 0, 1) := by decide +kernel
theorem dX12_between_71 : decode cX12_between 71 = .ok (.iconst 4, 1) := by decide +kernel
theorem dX12_between_72 : decode cX12_between 72 = .ok (.invokevirtual 114, 3) := by decide +kernel
theorem dX12_between_75 : decode cX12_between 75 = .ok (.ifCond .eq 8, 3) := by decide +kernel
theorem dX12_between_78 : decode cX12_between 78 = .ok (.bipush 11, 2) := by decide +kernel
theorem dX12_between_80 : decode cX12_between 80 = .ok (.goto 17, 3) := by decide +kernel
theorem dX12_between_83 : decode cX12_between 83 = .ok (.aload_n 0, 1) := by decide +kernel
theorem dX12_between_84 : decode cX12_between 84 = .ok (.iconst 3, 1) := by decide +kernel
theorem dX12_between_85 : decode cX12_between 85 = .ok (.invokevirtual 114, 3) := by decide +kernel
theorem dX12_between_88 : decode cX12_between 88 = .ok (.ifCond .eq 8, 3) := by decide +kernel
theorem dX12_between_91 : decode cX12_between 91 = .ok (.bipush 10, 2) := by decide +kernel
theorem dX12_between_93 : decode cX12_between 93 = .ok (.goto 4, 3) := by decide +kernel
theorem dX12_between_96 : decode cX12_between 96 = .ok (.iconst (-1), 1) := by decide +kernel
theorem dX12_between_97 : decode cX12_between 97 = .ok (.istore_n 1, 1) := by decide +kernel
theorem dX12_between_98 : decode cX12_between 98 = .ok (.iload_n 1, 1) := by decide +kernel
theorem dX12_between_99 : decode cX12_between 99 = .ok (.iconst (-1), 1) := by decide +kernel
theorem dX12_between_100 : decode cX12_between 100 = .ok (.if_icmp .eq 23, 3) := by decide +kernel
theorem dX12_between_103 : decode cX12_between 103 = .ok (.iload_n 1, 1) := by decide +kernel
theorem dX12_between_104 : decode cX12_between 104 = .ok (.invokestatic 101, 3) := by decide +kernel
theorem dX12_between_107 : decode cX12_between 107 = .ok (.iconst 4, 1) := by decide +kernel
theorem dX12_between_108 : decode cX12_between 108 = .ok (.if_icmp .ne 17, 3) := by decide +kernel
theorem dX12_between_111 : decode cX12_between 111 = .ok (.aload_n 0, 1) := by decide +kernel
theorem dX12_between_112 : decode cX12_between 112 = .ok (.getfield 117, 3) := by decide +kernel
theorem dX12_between_115 : decode cX12_between 115 = .ok (.aload_n 0, 1) := by decide +kernel
theorem dX12_between_116 : decode cX12_between 116 = .ok (.getfield 121, 3) := by decide +kernel
theorem dX12_between_119 : decode cX12_between 119 = .ok (.baload, 1) := by decide +kernel
theorem dX12_between_120 : decode cX12_between 120 = .ok (.ifCond .eq 5, 3) := by decide +kernel
theorem dX12_between_123 : decode cX12_between 123 = .ok (.iconst 0, 1) := by decide +kernel
theorem dX12_between_124 : decode cX12_between 124 = .ok (.ireturn, 1) := by decide +kernel
theorem dX12_between_125 : decode cX12_between 125 = .ok (.aload_n 0, 1) := by decide +kernel
theorem dX12_between_126 : decode cX12_between 126 = .ok (.iload_n 1, 1) := by decide +kernel
theorem dX12_between_127 : decode cX12_between 127 = .ok (.invokestatic 101, 3) := by decide +kernel
theorem dX12_between_130 : decode cX12_between 130 = .ok (.invokevirtual 124, 3) := by decide +kernel
theorem dX12_between_133 : decode cX12_between 133 = .ok (.aload_n 0, 1) := by decide +kernel
theorem dX12_between_134 : decode cX12_between 134 = .ok (.iload_n 1, 1) := by decide +kernel
theorem dX12_between_135 : decode cX12_between 135 = .ok (.invokevirtual 127, 3) := by decide +kernel
theorem dX12_between_138 : decode cX12_between 138 = .ok (.aload_n 0, 1) := by decide +kernel
theorem dX12_between_139 : decode cX12_between 139 = .ok (.getfield 117, 3) := by decide +kernel
theorem dX12_between_142 : decode cX12_between 142 = .ok (.aload_n 0, 1) := by decide +kernel
theorem dX12_between_143 : decode cX12_between 143 = .ok (.getfield 121, 3) := by decide +kernel
theorem dX12_between_146 : decode cX12_between 146 = .ok (.iload_n 1, 1) := by decide +kernel
theorem dX12_between_147 : decode cX12_between 147 = .ok (.invokestatic 101, 3) := by decide +kernel
theorem dX12_between_150 : decode cX12_between 150 = .ok (.iconst 4, 1) := by decide +kernel
theorem dX12_between_151 : decode cX12_between 151 = .ok (.if_icmp .eq 23, 3) := by decide +kernel
theorem dX12_between_154 : decode cX12_between 154 = .ok (.iload_n 1, 1) := by decide +kernel
theorem dX12_between_155 : decode cX12_between 155 = .ok (.invokestatic 101, 3) := by decide +kernel
theorem dX12_between_158 : decode cX12_between 158 = .ok (.iconst 4, 1) := by decide +kernel
theorem dX12_between_159 : decode cX12_between 159 = .ok (.if_icmp .le 19, 3) := by decide +kernel
theorem dX12_between_162 : decode cX12_between 162 = .ok (.aload_n 0, 1) := by decide +kernel
theorem dX12_between_163 : decode cX12_between 163 = .ok (.getfield 117, 3) := by decide +kernel
theorem dX12_between_166 : decode cX12_between 166 = .ok (.aload_n 0, 1) := by decide +kernel
theorem dX12_between_167 : decode cX12_between 167 = .ok (.getfield 121, 3) := by decide +kernel
theorem dX12_between_170 : decode cX12_between 170 = .ok (.baload, 1) := by decide +kernel
theorem dX12_between_171 : decode cX12_between 171 = .ok (.ifCond .eq 7, 3) := by decide +kernel
theorem dX12_between_174 : decode cX12_between 174 = .ok (.iconst 1, 1) := by decide +kernel
theorem dX12_between_175 : decode cX12_between 175 = .ok (.goto 4, 3) := by decide +kernel
theorem dX12_between_178 : decode cX12_between 178 = .ok (.iconst 0, 1) := by decide +kernel
theorem dX12_between_179 : decode cX12_between 179 = .ok (.bastore, 1) := by decide +kernel
theorem dX12_between_180 : decode cX12_between 180 = .ok (.iconst 1, 1) := by decide +kernel
theorem dX12_between_181 : decode cX12_between 181 = .ok (.ireturn, 1) := by decide +kernel
theorem dX12_closes_0 : decode cX12_closes 0 = .ok (.aload_n 0, 1) := by decide +kernel
theorem dX12_closes_1 : decode cX12_closes 1 = .ok (.bipush 41, 2) := by decide +kernel
theorem dX12_closes_3 : decode cX12_closes 3 = .ok (.invokevirtual 111, 3) := by decide +kernel
theorem dX12_closes_6 : decode cX12_closes 6 = .ok (.ifCond .eq 10, 3) := by decide +kernel
theorem dX12_closes_9 : decode cX12_closes 9 = .ok (.aload_n 0, 1) := by decide +kernel
theorem dX12_closes_10 : decode cX12_closes 10 = .ok (.getfield 121, 3) := by decide +kernel
theorem dX12_closes_13 : decode cX12_closes 13 = .ok (.ifCond .ne 5, 3) := by decide +kernel
theorem dX12_closes_16 : decode cX12_closes 16 = .ok (.iconst 0, 1) := by decide +kernel
theorem dX12_closes_17 : decode cX12_closes 17 = .ok (.ireturn, 1) := by decide +kernel
theorem dX12_closes_18 : decode cX12_closes 18 = .ok (.aload_n 0, 1) := by decide +kernel
theorem dX12_closes_19 : decode cX12_closes 19 = .ok (.iconst 1, 1) := by decide +kernel
theorem dX12_closes_20 : decode cX12_closes 20 = .ok (.invokevirtual 124, 3) := by decide +kernel
theorem dX12_closes_23 : decode cX12_closes 23 = .ok (.aload_n 0, 1) := by decide +kernel
theorem dX12_closes_24 : decode cX12_closes 24 = .ok (.dup, 1) := by decide +kernel
theorem dX12_closes_25 : decode cX12_closes 25 = .ok (.getfield 95, 3) := by decide +kernel
theorem dX12_closes_28 : decode cX12_closes 28 = .ok (.iconst 1, 1) := by decide +kernel
theorem dX12_closes_29 : decode cX12_closes 29 = .ok (.isub, 1) := by decide +kernel
theorem dX12_closes_30 : decode cX12_closes 30 = .ok (.putfield 95, 3) := by decide +kernel
theorem dX12_closes_33 : decode cX12_closes 33 = .ok (.aload_n 0, 1) := by decide +kernel
theorem dX12_closes_34 : decode cX12_closes 34 = .ok (.dup, 1) := by decide +kernel
theorem dX12_closes_35 : decode cX12_closes 35 = .ok (.getfield 121, 3) := by decide +kernel
theorem dX12_closes_38 : decode cX12_closes 38 = .ok (.iconst 1, 1) := by decide +kernel
theorem dX12_closes_39 : decode cX12_closes 39 = .ok (.isub, 1) := by decide +kernel
theorem dX12_closes_40 : decode cX12_closes 40 = .ok (.putfield 121, 3) := by decide +kernel
theorem dX12_closes_43 : decode cX12_closes 43 = .ok (.aload_n 0, 1) := by decide +kernel
theorem dX12_closes_44 : decode cX12_closes 44 = .ok (.dup, 1) := by decide +kernel
theorem dX12_closes_45 : decode cX12_closes 45 = .ok (.getfield 104, 3) := by decide +kernel
theorem dX12_closes_48 : decode cX12_closes 48 = .ok (.iconst 1, 1) := by decide +kernel
theorem dX12_closes_49 : decode cX12_closes 49 = .ok (.isub, 1) := by decide +kernel
theorem dX12_closes_50 : decode cX12_closes 50 = .ok (.putfield 104, 3) := by decide +kernel
theorem dX12_closes_53 : decode cX12_closes 53 = .ok (.aload_n 0, 1) := by decide +kernel
theorem dX12_closes_54 : decode cX12_closes 54 = .ok (.bipush 7, 2) := by decide +kernel
theorem dX12_closes_56 : decode cX12_closes 56 = .ok (.invokevirtual 124, 3) := by decide +kernel
theorem dX12_closes_59 : decode cX12_closes 59 = .ok (.iconst 1, 1) := by decide +kernel
theorem dX12_closes_60 : decode cX12_closes 60 = .ok (.ireturn, 1) := by decide +kernel
theorem dX12_ahead_0 : decode cX12_ahead 0 = .ok (.aload_n 0, 1) := by decide +kernel
theorem dX12_ahead_1 : decode cX12_ahead 1 = .ok (.bipush 40, 2) := by decide +kernel
theorem dX12_ahead_3 : decode cX12_ahead 3 = .ok (.invokevirtual 111, 3) := by decide +kernel
theorem dX12_ahead_6 : decode cX12_ahead 6 = .ok (.ifCond .ne 24, 3) := by decide +kernel
theorem dX12_ahead_9 : decode cX12_ahead 9 = .ok (.aload_n 0, 1) := by decide +kernel
theorem dX12_ahead_10 : decode cX12_ahead 10 = .ok (.bipush 45, 2) := by decide +kernel
theorem dX12_ahead_12 : decode cX12_ahead 12 = .ok (.invokevirtual 111, 3) := by decide +kernel
theorem dX12_ahead_15 : decode cX12_ahead 15 = .ok (.ifCond .ne 15, 3) := by decide +kernel
theorem dX12_ahead_18 : decode cX12_ahead 18 = .ok (.iload_n 1, 1) := by decide +kernel
theorem dX12_ahead_19 : decode cX12_ahead 19 = .ok (.ifCond .eq 15, 3) := by decide +kernel
theorem dX12_ahead_22 : decode cX12_ahead 22 = .ok (.aload_n 0, 1) := by decide +kernel
theorem dX12_ahead_23 : decode cX12_ahead 23 = .ok (.iconst 5, 1) := by decide +kernel
theorem dX12_ahead_24 : decode cX12_ahead 24 = .ok (.invokevirtual 114, 3) := by decide +kernel
theorem dX12_ahead_27 : decode cX12_ahead 27 = .ok (.ifCond .eq 7, 3) := by decide +kernel
theorem dX12_ahead_30 : decode cX12_ahead 30 = .ok (.iconst 1, 1) := by decide +kernel
theorem dX12_ahead_31 : decode cX12_ahead 31 = .ok (.goto 4, 3) := by decide +kernel
theorem dX12_ahead_34 : decode cX12_ahead 34 = .ok (.iconst 0, 1) := by decide +kernel
theorem dX12_ahead_35 : decode cX12_ahead 35 = .ok (.istore_n 2, 1) := by decide +kernel
theorem dX12_ahead_36 : decode cX12_ahead 36 = .ok (.iload_n 2, 1) := by decide +kernel
theorem dX12_ahead_37 : decode cX12_ahead 37 = .ok (.ifCond .eq 11, 3) := by decide +kernel
theorem dX12_ahead_40 : decode cX12_ahead 40 = .ok (.aload_n 0, 1) := by decide +kernel
theorem dX12_ahead_41 : decode cX12_ahead 41 = .ok (.getfield 104, 3) := by decide +kernel
theorem dX12_ahead_44 : decode cX12_ahead 44 = .ok (.iconst 5, 1) := by decide +kernel
theorem dX12_ahead_45 : decode cX12_ahead 45 = .ok (.if_icmp .ne 5, 3) := by decide +kernel
theorem dX12_ahead_48 : decode cX12_ahead 48 = .ok (.iconst 0, 1) := by decide +kernel
theorem dX12_ahead_49 : decode cX12_ahead 49 = .ok (.ireturn, 1) := by decide +kernel
theorem dX12_ahead_50 : decode cX12_ahead 50 = .ok (.aload_n 0, 1) := by decide +kernel
theorem dX12_ahead_51 : decode cX12_ahead 51 = .ok (.dup, 1) := by decide +kernel
theorem dX12_ahead_52 : decode cX12_ahead 52 = .ok (.getfield 104, 3) := by decide +kernel
theorem dX12_ahead_55 : decode cX12_ahead 55 = .ok (.iconst 1, 1) := by decide +kernel
theorem dX12_ahead_56 : decode cX12_ahead 56 = .ok (.iadd, 1) := by decide +kernel
theorem dX12_ahead_57 : decode cX12_ahead 57 = .ok (.putfield 104, 3) := by decide +kernel
theorem dX12_ahead_60 : decode cX12_ahead 60 = .ok (.aload_n 0, 1) := by decide +kernel
theorem dX12_ahead_61 : decode cX12_ahead 61 = .ok (.bipush 40, 2) := by decide +kernel
theorem dX12_ahead_63 : decode cX12_ahead 63 = .ok (.invokevirtual 111, 3) := by decide +kernel
theorem dX12_ahead_66 : decode cX12_ahead 66 = .ok (.ifCond .eq 32, 3) := by decide +kernel
theorem dX12_ahead_69 : decode cX12_ahead 69 = .ok (.aload_n 0, 1) := by decide +kernel
theorem dX12_ahead_70 : decode cX12_ahead 70 = .ok (.bipush 30, 2) := by decide +kernel
theorem dX12_ahead_72 : decode cX12_ahead 72 = .ok (.invokevirtual 127, 3) := by decide +kernel
theorem dX12_ahead_75 : decode cX12_ahead 75 = .ok (.aload_n 0, 1) := by decide +kernel
theorem dX12_ahead_76 : decode cX12_ahead 76 = .ok (.dup, 1) := by decide +kernel
theorem dX12_ahead_77 : decode cX12_ahead 77 = .ok (.getfield 121, 3) := by decide +kernel
theorem dX12_ahead_80 : decode cX12_ahead 80 = .ok (.iconst 1, 1) := by decide +kernel
theorem dX12_ahead_81 : decode cX12_ahead 81 = .ok (.iadd, 1) := by decide +kernel
theorem dX12_ahead_82 : decode cX12_ahead 82 = .ok (.putfield 121, 3) := by decide +kernel
theorem dX12_ahead_85 : decode cX12_ahead 85 = .ok (.aload_n 0, 1) := by decide +kernel
theorem dX12_ahead_86 : decode cX12_ahead 86 = .ok (.getfield 117, 3) := by decide +kernel
theorem dX12_ahead_89 : decode cX12_ahead 89 = .ok (.aload_n 0, 1) := by decide +kernel
theorem dX12_ahead_90 : decode cX12_ahead 90 = .ok (.getfield 121, 3) := by decide +kernel
theorem dX12_ahead_93 : decode cX12_ahead 93 = .ok (.iconst 0, 1) := by decide +kernel
theorem dX12_ahead_94 : decode cX12_ahead 94 = .ok (.bastore, 1) := by decide +kernel
theorem dX12_ahead_95 : decode cX12_ahead 95 = .ok (.goto 22, 3) := by decide +kernel
theorem dX12_ahead_98 : decode cX12_ahead 98 = .ok (.aload_n 0, 1) := by decide +kernel
theorem dX12_ahead_99 : decode cX12_ahead 99 = .ok (.aload_n 0, 1) := by decide +kernel
theorem dX12_ahead_100 : decode cX12_ahead 100 = .ok (.getfield 60, 3) := by decide +kernel
theorem dX12_ahead_103 : decode cX12_ahead 103 = .ok (.iconst 3, 1) := by decide +kernel
theorem dX12_ahead_104 : decode cX12_ahead 104 = .ok (.if_icmp .ne 8, 3) := by decide +kernel
theorem dX12_ahead_107 : decode cX12_ahead 107 = .ok (.bipush 12, 2) := by decide +kernel
theorem dX12_ahead_109 : decode cX12_ahead 109 = .ok (.goto 5, 3) := by decide +kernel
theorem dX12_ahead_112 : decode cX12_ahead 112 = .ok (.bipush 18, 2) := by decide +kernel
theorem dX12_ahead_114 : decode cX12_ahead 114 = .ok (.invokevirtual 127, 3) := by decide +kernel
theorem dX12_ahead_117 : decode cX12_ahead 117 = .ok (.iconst 1, 1) := by decide +kernel
theorem dX12_ahead_118 : decode cX12_ahead 118 = .ok (.ireturn, 1) := by decide +kernel
theorem dX12_readE_0 : decode cX12_readE 0 = .ok (.aload_n 0, 1) := by decide +kernel
theorem dX12_readE_1 : decode cX12_readE 1 = .ok (.sipush 160, 3) := by decide +kernel
theorem dX12_readE_4 : decode cX12_readE 4 = .ok (.iload_n 1, 1) := by decide +kernel
theorem dX12_readE_5 : decode cX12_readE 5 = .ok (.imul, 1) := by decide +kernel
theorem dX12_readE_6 : decode cX12_readE 6 = .ok (.putfield 89, 3) := by decide +kernel
theorem dX12_readE_9 : decode cX12_readE 9 = .ok (.aload_n 0, 1) := by decide +kernel
theorem dX12_readE_10 : decode cX12_readE 10 = .ok (.iconst 0, 1) := by decide +kernel
theorem dX12_readE_11 : decode cX12_readE 11 = .ok (.putfield 92, 3) := by decide +kernel
theorem dX12_readE_14 : decode cX12_readE 14 = .ok (.aload_n 0, 1) := by decide +kernel
theorem dX12_readE_15 : decode cX12_readE 15 = .ok (.iconst 0, 1) := by decide +kernel
theorem dX12_readE_16 : decode cX12_readE 16 = .ok (.putfield 95, 3) := by decide +kernel
theorem dX12_readE_19 : decode cX12_readE 19 = .ok (.aload_n 0, 1) := by decide +kernel
theorem dX12_readE_20 : decode cX12_readE 20 = .ok (.iconst 0, 1) := by decide +kernel
theorem dX12_readE_21 : decode cX12_readE 21 = .ok (.putfield 104, 3) := by decide +kernel
theorem dX12_readE_24 : decode cX12_readE 24 = .ok (.aload_n 0, 1) := by decide +kernel
theorem dX12_readE_25 : decode cX12_readE 25 = .ok (.iconst 0, 1) := by decide +kernel
theorem dX12_readE_26 : decode cX12_readE 26 = .ok (.putfield 121, 3) := by decide +kernel
theorem dX12_readE_29 : decode cX12_readE 29 = .ok (.aload_n 0, 1) := by decide +kernel
theorem dX12_readE_30 : decode cX12_readE 30 = .ok (.getfield 117, 3) := by decide +kernel
theorem dX12_readE_33 : decode cX12_readE 33 = .ok (.iconst 0, 1) := by decide +kernel
theorem dX12_readE_34 : decode cX12_readE 34 = .ok (.iconst 0, 1) := by decide +kernel
theorem dX12_readE_35 : decode cX12_readE 35 = .ok (.bastore, 1) := by decide +kernel
theorem dX12_readE_36 : decode cX12_readE 36 = .ok (.iconst 1, 1) := by decide +kernel
theorem dX12_readE_37 : decode cX12_readE 37 = .ok (.istore_n 2, 1) := by decide +kernel
theorem dX12_readE_38 : decode cX12_readE 38 = .ok (.iconst 1, 1) := by decide +kernel
theorem dX12_readE_39 : decode cX12_readE 39 = .ok (.istore_n 3, 1) := by decide +kernel
theorem dX12_readE_40 : decode cX12_readE 40 = .ok (.iload_n 2, 1) := by decide +kernel
theorem dX12_readE_41 : decode cX12_readE 41 = .ok (.ifCond .eq 55, 3) := by decide +kernel
theorem dX12_readE_44 : decode cX12_readE 44 = .ok (.aload_n 0, 1) := by decide +kernel
theorem dX12_readE_45 : decode cX12_readE 45 = .ok (.getfield 60, 3) := by decide +kernel
theorem dX12_readE_48 : decode cX12_readE 48 = .ok (.iconst 1, 1) := by decide +kernel
theorem dX12_readE_49 : decode cX12_readE 49 = .ok (.if_icmp .eq 11, 3) := by decide +kernel
theorem dX12_readE_52 : decode cX12_readE 52 = .ok (.aload_n 0, 1) := by decide +kernel
theorem dX12_readE_53 : decode cX12_readE 53 = .ok (.getfield 60, 3) := by decide +kernel
theorem dX12_readE_56 : decode cX12_readE 56 = .ok (.iconst 2, 1) := by decide +kernel
theorem dX12_readE_57 : decode cX12_readE 57 = .ok (.if_icmp .ne 39, 3) := by decide +kernel
theorem dX12_readE_60 : decode cX12_readE 60 = .ok (.aload_n 0, 1) := by decide +kernel
theorem dX12_readE_61 : decode cX12_readE 61 = .ok (.aload_n 0, 1) := by decide +kernel
theorem dX12_readE_62 : decode cX12_readE 62 = .ok (.getfield 60, 3) := by decide +kernel
theorem dX12_readE_65 : decode cX12_readE 65 = .ok (.iconst 1, 1) := by decide +kernel
theorem dX12_readE_66 : decode cX12_readE 66 = .ok (.if_icmp .ne 12, 3) := by decide +kernel
theorem dX12_readE_69 : decode cX12_readE 69 = .ok (.iconst (-1), 1) := by decide +kernel
theorem dX12_readE_70 : decode cX12_readE 70 = .ok (.aload_n 0, 1) := by decide +kernel
theorem dX12_readE_71 : decode cX12_readE 71 = .ok (.getfield 73, 3) := by decide +kernel
theorem dX12_readE_74 : decode cX12_readE 74 = .ok (.isub, 1) := by decide +kernel
theorem dX12_readE_75 : decode cX12_readE 75 = .ok (.goto 7, 3) := by decide +kernel
theorem dX12_readE_78 : decode cX12_readE 78 = .ok (.aload_n 0, 1) := by decide +kernel
theorem dX12_readE_79 : decode cX12_readE 79 = .ok (.getfield 73, 3) := by decide +kernel
theorem dX12_readE_82 : decode cX12_readE 82 = .ok (.invokevirtual 107, 3) := by decide +kernel
theorem dX12_readE_85 : decode cX12_readE 85 = .ok (.aload_n 0, 1) := by decide +kernel
theorem dX12_readE_86 : decode cX12_readE 86 = .ok (.bipush 7, 2) := by decide +kernel
theorem dX12_readE_88 : decode cX12_readE 88 = .ok (.invokevirtual 124, 3) := by decide +kernel
theorem dX12_readE_91 : decode cX12_readE 91 = .ok (.iconst 0, 1) := by decide +kernel
theorem dX12_readE_92 : decode cX12_readE 92 = .ok (.istore_n 2, 1) := by decide +kernel
theorem dX12_readE_93 : decode cX12_readE 93 = .ok (.goto 115, 3) := by decide +kernel
theorem dX12_readE_96 : decode cX12_readE 96 = .ok (.iload_n 2, 1) := by decide +kernel
theorem dX12_readE_97 : decode cX12_readE 97 = .ok (.ifCond .eq 35, 3) := by decide +kernel
theorem dX12_readE_100 : decode cX12_readE 100 = .ok (.aload_n 0, 1) := by decide +kernel
theorem dX12_readE_101 : decode cX12_readE 101 = .ok (.bipush 45, 2) := by decide +kernel
theorem dX12_readE_103 : decode cX12_readE 103 = .ok (.invokevirtual 111, 3) := by decide +kernel
theorem dX12_readE_106 : decode cX12_readE 106 = .ok (.istore 4, 2) := by decide +kernel
theorem dX12_readE_108 : decode cX12_readE 108 = .ok (.aload_n 0, 1) := by decide +kernel
theorem dX12_readE_109 : decode cX12_readE 109 = .ok (.iload_n 3, 1) := by decide +kernel
theorem dX12_readE_110 : decode cX12_readE 110 = .ok (.invokevirtual 130, 3) := by decide +kernel
theorem dX12_readE_113 : decode cX12_readE 113 = .ok (.ifCond .ne 5, 3) := by decide +kernel
theorem dX12_readE_116 : decode cX12_readE 116 = .ok (.iconst 0, 1) := by decide +kernel
theorem dX12_readE_117 : decode cX12_readE 117 = .ok (.ireturn, 1) := by decide +kernel
theorem dX12_readE_118 : decode cX12_readE 118 = .ok (.iload 4, 2) := by decide +kernel
theorem dX12_readE_120 : decode cX12_readE 120 = .ok (.ifCond .ne 7, 3) := by decide +kernel
theorem dX12_readE_123 : decode cX12_readE 123 = .ok (.iconst 1, 1) := by decide +kernel
theorem dX12_readE_124 : decode cX12_readE 124 = .ok (.goto 4, 3) := by decide +kernel
theorem dX12_readE_127 : decode cX12_readE 127 = .ok (.iconst 0, 1) := by decide +kernel
theorem dX12_readE_128 : decode cX12_readE 128 = .ok (.istore_n 3, 1) := by decide +kernel
theorem dX12_readE_129 : decode cX12_readE 129 = .ok (.goto 79, 3) := by decide +kernel
theorem dX12_readE_132 : decode cX12_readE 132 = .ok (.aload_n 0, 1) := by decide +kernel
theorem dX12_readE_133 : decode cX12_readE 133 = .ok (.bipush 59, 2) := by decide +kernel
theorem dX12_readE_135 : decode cX12_readE 135 = .ok (.invokevirtual 111, 3) := by decide +kernel
theorem dX12_readE_138 : decode cX12_readE 138 = .ok (.ifCond .eq 27, 3) := by decide +kernel
theorem dX12_readE_141 : decode cX12_readE 141 = .ok (.aload_n 0, 1) := by decide +kernel
theorem dX12_readE_142 : decode cX12_readE 142 = .ok (.getfield 121, 3) := by decide +kernel
theorem dX12_readE_145 : decode cX12_readE 145 = .ok (.ifCond .ne 20, 3) := by decide +kernel
theorem dX12_readE_148 : decode cX12_readE 148 = .ok (.aload_n 0, 1) := by decide +kernel
theorem dX12_readE_149 : decode cX12_readE 149 = .ok (.iconst 1, 1) := by decide +kernel
theorem dX12_readE_150 : decode cX12_readE 150 = .ok (.invokevirtual 124, 3) := by decide +kernel
theorem dX12_readE_153 : decode cX12_readE 153 = .ok (.aload_n 0, 1) := by decide +kernel
theorem dX12_readE_154 : decode cX12_readE 154 = .ok (.getfield 134, 3) := by decide +kernel
theorem dX12_readE_157 : decode cX12_readE 157 = .ok (.iload_n 1, 1) := by decide +kernel
theorem dX12_readE_158 : decode cX12_readE 158 = .ok (.aload_n 0, 1) := by decide +kernel
theorem dX12_readE_159 : decode cX12_readE 159 = .ok (.getfield 92, 3) := by decide +kernel
theorem dX12_readE_162 : decode cX12_readE 162 = .ok (.iastore, 1) := by decide +kernel
theorem dX12_readE_163 : decode cX12_readE 163 = .ok (.iconst 1, 1) := by decide +kernel
theorem dX12_readE_164 : decode cX12_readE 164 = .ok (.ireturn, 1) := by decide +kernel
theorem dX12_readE_165 : decode cX12_readE 165 = .ok (.aload_n 0, 1) := by decide +kernel
theorem dX12_readE_166 : decode cX12_readE 166 = .ok (.invokevirtual 137, 3) := by decide +kernel
theorem dX12_readE_169 : decode cX12_readE 169 = .ok (.ifCond .eq 30, 3) := by decide +kernel
theorem dX12_readE_172 : decode cX12_readE 172 = .ok (.iconst 1, 1) := by decide +kernel
theorem dX12_readE_173 : decode cX12_readE 173 = .ok (.istore_n 2, 1) := by decide +kernel
theorem dX12_readE_174 : decode cX12_readE 174 = .ok (.aload_n 0, 1) := by decide +kernel
theorem dX12_readE_175 : decode cX12_readE 175 = .ok (.iconst 4, 1) := by decide +kernel
theorem dX12_readE_176 : decode cX12_readE 176 = .ok (.invokevirtual 114, 3) := by decide +kernel
theorem dX12_readE_179 : decode cX12_readE 179 = .ok (.ifCond .ne 11, 3) := by decide +kernel
theorem dX12_readE_182 : decode cX12_readE 182 = .ok (.aload_n 0, 1) := by decide +kernel
theorem dX12_readE_183 : decode cX12_readE 183 = .ok (.iconst 3, 1) := by decide +kernel
theorem dX12_readE_184 : decode cX12_readE 184 = .ok (.invokevirtual 114, 3) := by decide +kernel
theorem dX12_readE_187 : decode cX12_readE 187 = .ok (.ifCond .eq 7, 3) := by decide +kernel
theorem dX12_readE_190 : decode cX12_readE 190 = .ok (.iconst 1, 1) := by decide +kernel
theorem dX12_readE_191 : decode cX12_readE 191 = .ok (.goto 4, 3) := by decide +kernel
theorem dX12_readE_194 : decode cX12_readE 194 = .ok (.iconst 0, 1) := by decide +kernel
theorem dX12_readE_195 : decode cX12_readE 195 = .ok (.istore_n 3, 1) := by decide +kernel
theorem dX12_readE_196 : decode cX12_readE 196 = .ok (.goto 12, 3) := by decide +kernel
theorem dX12_readE_199 : decode cX12_readE 199 = .ok (.aload_n 0, 1) := by decide +kernel
theorem dX12_readE_200 : decode cX12_readE 200 = .ok (.invokevirtual 141, 3) := by decide +kernel
theorem dX12_readE_203 : decode cX12_readE 203 = .ok (.ifCond .ne 5, 3) := by decide +kernel
theorem dX12_readE_206 : decode cX12_readE 206 = .ok (.iconst 0, 1) := by decide +kernel
theorem dX12_readE_207 : decode cX12_readE 207 = .ok (.ireturn, 1) := by decide +kernel
theorem dX12_readE_208 : decode cX12_readE 208 = .ok (.aload_n 0, 1) := by decide +kernel
theorem dX12_readE_209 : decode cX12_readE 209 = .ok (.invokevirtual 144, 3) := by decide +kernel
theorem dX12_readE_212 : decode cX12_readE 212 = .ok (.goto (-172), 3) := by decide +kernel
theorem dX12_readAll_0 : decode cX12_readAll 0 = .ok (.aload_n 0, 1) := by decide +kernel
theorem dX12_readAll_1 : decode cX12_readAll 1 = .ok (.iconst 0, 1) := by decide +kernel
theorem dX12_readAll_2 : decode cX12_readAll 2 = .ok (.putfield 54, 3) := by decide +kernel
theorem dX12_readAll_5 : decode cX12_readAll 5 = .ok (.iconst 0, 1) := by decide +kernel
theorem dX12_readAll_6 : decode cX12_readAll 6 = .ok (.istore_n 2, 1) := by decide +kernel
theorem dX12_readAll_7 : decode cX12_readAll 7 = .ok (.iload_n 2, 1) := by decide +kernel
theorem dX12_readAll_8 : decode cX12_readAll 8 = .ok (.iconst 3, 1) := by decide +kernel
theorem dX12_readAll_9 : decode cX12_readAll 9 = .ok (.if_icmp .ge 47, 3) := by decide +kernel
theorem dX12_readAll_12 : decode cX12_readAll 12 = .ok (.aload_n 0, 1) := by decide +kernel
theorem dX12_readAll_13 : decode cX12_readAll 13 = .ok (.invokevirtual 144, 3) := by decide +kernel
theorem dX12_readAll_16 : decode cX12_readAll 16 = .ok (.aload_n 0, 1) := by decide +kernel
theorem dX12_readAll_17 : decode cX12_readAll 17 = .ok (.iload_n 2, 1) := by decide +kernel
theorem dX12_readAll_18 : decode cX12_readAll 18 = .ok (.invokevirtual 114, 3) := by decide +kernel
theorem dX12_readAll_21 : decode cX12_readAll 21 = .ok (.ifCond .ne 8, 3) := by decide +kernel
theorem dX12_readAll_24 : decode cX12_readAll 24 = .ok (.aload_n 0, 1) := by decide +kernel
theorem dX12_readAll_25 : decode cX12_readAll 25 = .ok (.getfield 66, 3) := by decide +kernel
theorem dX12_readAll_28 : decode cX12_readAll 28 = .ok (.ireturn, 1) := by decide +kernel
theorem dX12_readAll_29 : decode cX12_readAll 29 = .ok (.aload_n 0, 1) := by decide +kernel
theorem dX12_readAll_30 : decode cX12_readAll 30 = .ok (.invokevirtual 144, 3) := by decide +kernel
theorem dX12_readAll_33 : decode cX12_readAll 33 = .ok (.aload_n 0, 1) := by decide +kernel
theorem dX12_readAll_34 : decode cX12_readAll 34 = .ok (.iconst 3, 1) := by decide +kernel
theorem dX12_readAll_35 : decode cX12_readAll 35 = .ok (.iload_n 1, 1) := by decide +kernel
theorem dX12_readAll_36 : decode cX12_readAll 36 = .ok (.imul, 1) := by decide +kernel
theorem dX12_readAll_37 : decode cX12_readAll 37 = .ok (.iload_n 2, 1) := by decide +kernel
theorem dX12_readAll_38 : decode cX12_readAll 38 = .ok (.iadd, 1) := by decide +kernel
theorem dX12_readAll_39 : decode cX12_readAll 39 = .ok (.invokevirtual 147, 3) := by decide +kernel
theorem dX12_readAll_42 : decode cX12_readAll 42 = .ok (.ifCond .ne 8, 3) := by decide +kernel
theorem dX12_readAll_45 : decode cX12_readAll 45 = .ok (.aload_n 0, 1) := by decide +kernel
theorem dX12_readAll_46 : decode cX12_readAll 46 = .ok (.getfield 66, 3) := by decide +kernel
theorem dX12_readAll_49 : decode cX12_readAll 49 = .ok (.ireturn, 1) := by decide +kernel
theorem dX12_readAll_50 : decode cX12_readAll 50 = .ok (.iinc 2 1, 3) := by decide +kernel
theorem dX12_readAll_53 : decode cX12_readAll 53 = .ok (.goto (-46), 3) := by decide +kernel
theorem dX12_readAll_56 : decode cX12_readAll 56 = .ok (.aload_n 0, 1) := by decide +kernel
theorem dX12_readAll_57 : decode cX12_readAll 57 = .ok (.invokevirtual 144, 3) := by decide +kernel
theorem dX12_readAll_60 : decode cX12_readAll 60 = .ok (.aload_n 0, 1) := by decide +kernel
theorem dX12_readAll_61 : decode cX12_readAll 61 = .ok (.getfield 60, 3) := by decide +kernel
theorem dX12_readAll_64 : decode cX12_readAll 64 = .ok (.iconst 5, 1) := by decide +kernel
theorem dX12_readAll_65 : decode cX12_readAll 65 = .ok (.if_icmp .ne 7, 3) := by decide +kernel
theorem dX12_readAll_68 : decode cX12_readAll 68 = .ok (.iconst (-1), 1) := by decide +kernel
theorem dX12_readAll_69 : decode cX12_readAll 69 = .ok (.goto 7, 3) := by decide +kernel
theorem dX12_readAll_72 : decode cX12_readAll 72 = .ok (.aload_n 0, 1) := by decide +kernel
theorem dX12_readAll_73 : decode cX12_readAll 73 = .ok (.getfield 66, 3) := by decide +kernel
theorem dX12_readAll_76 : decode cX12_readAll 76 = .ok (.ireturn, 1) := by decide +kernel
theorem dX12_text_0 : decode cX12_text 0 = .ok (.aload_n 0, 1) := by decide +kernel
theorem dX12_text_1 : decode cX12_text 1 = .ok (.getfield 150, 3) := by decide +kernel
theorem dX12_text_4 : decode cX12_text 4 = .ok (.bipush 6, 2) := by decide +kernel
theorem dX12_text_6 : decode cX12_text 6 = .ok (.if_icmp .ne 6, 3) := by decide +kernel
theorem dX12_text_9 : decode cX12_text 9 = .ok (.bipush (-4), 2) := by decide +kernel
theorem dX12_text_11 : decode cX12_text 11 = .ok (.ireturn, 1) := by decide +kernel
theorem dX12_text_12 : decode cX12_text 12 = .ok (.aload_n 0, 1) := by decide +kernel
theorem dX12_text_13 : decode cX12_text 13 = .ok (.aload_n 0, 1) := by decide +kernel
theorem dX12_text_14 : decode cX12_text 14 = .ok (.getfield 150, 3) := by decide +kernel
theorem dX12_text_17 : decode cX12_text 17 = .ok (.invokevirtual 153, 3) := by decide +kernel
theorem dX12_text_20 : decode cX12_text 20 = .ok (.istore_n 1, 1) := by decide +kernel
theorem dX12_text_21 : decode cX12_text 21 = .ok (.aload_n 0, 1) := by decide +kernel
theorem dX12_text_22 : decode cX12_text 22 = .ok (.iconst 0, 1) := by decide +kernel
theorem dX12_text_23 : decode cX12_text 23 = .ok (.putfield 48, 3) := by decide +kernel
theorem dX12_text_26 : decode cX12_text 26 = .ok (.iload_n 1, 1) := by decide +kernel
theorem dX12_text_27 : decode cX12_text 27 = .ok (.iconst (-1), 1) := by decide +kernel
theorem dX12_text_28 : decode cX12_text 28 = .ok (.if_icmp .eq 8, 3) := by decide +kernel
theorem dX12_text_31 : decode cX12_text 31 = .ok (.bipush (-100), 2) := by decide +kernel
theorem dX12_text_33 : decode cX12_text 33 = .ok (.iload_n 1, 1) := by decide +kernel
theorem dX12_text_34 : decode cX12_text 34 = .ok (.isub, 1) := by decide +kernel
theorem dX12_text_35 : decode cX12_text 35 = .ok (.ireturn, 1) := by decide +kernel
theorem dX12_text_36 : decode cX12_text 36 = .ok (.aload_n 0, 1) := by decide +kernel
theorem dX12_text_37 : decode cX12_text 37 = .ok (.dup, 1) := by decide +kernel
theorem dX12_text_38 : decode cX12_text 38 = .ok (.getfield 150, 3) := by decide +kernel
theorem dX12_text_41 : decode cX12_text 41 = .ok (.iconst 1, 1) := by decide +kernel
theorem dX12_text_42 : decode cX12_text 42 = .ok (.iadd, 1) := by decide +kernel
theorem dX12_text_43 : decode cX12_text 43 = .ok (.putfield 150, 3) := by decide +kernel
theorem dX12_text_46 : decode cX12_text 46 = .ok (.aload_n 0, 1) := by decide +kernel
theorem dX12_text_47 : decode cX12_text 47 = .ok (.getfield 150, 3) := by decide +kernel
theorem dX12_text_50 : decode cX12_text 50 = .ok (.iconst 1, 1) := by decide +kernel
theorem dX12_text_51 : decode cX12_text 51 = .ok (.isub, 1) := by decide +kernel
theorem dX12_text_52 : decode cX12_text 52 = .ok (.ireturn, 1) := by decide +kernel
theorem dX12_force_0 : decode cX12_force 0 = .ok (.iload_n 1, 1) := by decide +kernel
theorem dX12_force_1 : decode cX12_force 1 = .ok (.iconst 0, 1) := by decide +kernel
theorem dX12_force_2 : decode cX12_force 2 = .ok (.aload_n 0, 1) := by decide +kernel
theorem dX12_force_3 : decode cX12_force 3 = .ok (.getfield 150, 3) := by decide +kernel
theorem dX12_force_6 : decode cX12_force 6 = .ok (.iconst 1, 1) := by decide +kernel
theorem dX12_force_7 : decode cX12_force 7 = .ok (.isub, 1) := by decide +kernel
theorem dX12_force_8 : decode cX12_force 8 = .ok (.invokestatic 7, 3) := by decide +kernel
theorem dX12_force_11 : decode cX12_force 11 = .ok (.ifCond .ne 6, 3) := by decide +kernel
theorem dX12_force_14 : decode cX12_force 14 = .ok (.bipush (-2), 2) := by decide +kernel
theorem dX12_force_16 : decode cX12_force 16 = .ok (.ireturn, 1) := by decide +kernel
theorem dX12_force_17 : decode cX12_force 17 = .ok (.aload_n 0, 1) := by decide +kernel
theorem dX12_force_18 : decode cX12_force 18 = .ok (.getfield 156, 3) := by decide +kernel
theorem dX12_force_21 : decode cX12_force 21 = .ok (.istore_n 2, 1) := by decide +kernel
theorem dX12_force_22 : decode cX12_force 22 = .ok (.aload_n 0, 1) := by decide +kernel
theorem dX12_force_23 : decode cX12_force 23 = .ok (.iload_n 1, 1) := by decide +kernel
theorem dX12_force_24 : decode cX12_force 24 = .ok (.putfield 156, 3) := by decide +kernel
theorem dX12_force_27 : decode cX12_force 27 = .ok (.iload_n 2, 1) := by decide +kernel
theorem dX12_force_28 : decode cX12_force 28 = .ok (.ireturn, 1) := by decide +kernel
theorem dX12_nameOn_0 : decode cX12_nameOn 0 = .ok (.iload_n 2, 1) := by decide +kernel
theorem dX12_nameOn_1 : decode cX12_nameOn 1 = .ok (.aload_n 0, 1) := by decide +kernel
theorem dX12_nameOn_2 : decode cX12_nameOn 2 = .ok (.getfield 225, 3) := by decide +kernel
theorem dX12_nameOn_5 : decode cX12_nameOn 5 = .ok (.if_icmp .eq 12, 3) := by decide +kernel
theorem dX12_nameOn_8 : decode cX12_nameOn 8 = .ok (.aload_n 0, 1) := by decide +kernel
theorem dX12_nameOn_9 : decode cX12_nameOn 9 = .ok (.getfield 170, 3) := by decide +kernel
theorem dX12_nameOn_12 : decode cX12_nameOn 12 = .ok (.iload_n 2, 1) := by decide +kernel
theorem dX12_nameOn_13 : decode cX12_nameOn 13 = .ok (.iaload, 1) := by decide +kernel
theorem dX12_nameOn_14 : decode cX12_nameOn 14 = .ok (.ifCond .ne 7, 3) := by decide +kernel
theorem dX12_nameOn_17 : decode cX12_nameOn 17 = .ok (.iconst 1, 1) := by decide +kernel
theorem dX12_nameOn_18 : decode cX12_nameOn 18 = .ok (.goto 4, 3) := by decide +kernel
theorem dX12_nameOn_21 : decode cX12_nameOn 21 = .ok (.iconst 0, 1) := by decide +kernel
theorem dX12_nameOn_22 : decode cX12_nameOn 22 = .ok (.istore_n 3, 1) := by decide +kernel
theorem dX12_nameOn_23 : decode cX12_nameOn 23 = .ok (.iload_n 3, 1) := by decide +kernel
theorem dX12_nameOn_24 : decode cX12_nameOn 24 = .ok (.ifCond .eq 7, 3) := by decide +kernel
theorem dX12_nameOn_27 : decode cX12_nameOn 27 = .ok (.iconst 0, 1) := by decide +kernel
theorem dX12_nameOn_28 : decode cX12_nameOn 28 = .ok (.goto 21, 3) := by decide +kernel
theorem dX12_nameOn_31 : decode cX12_nameOn 31 = .ok (.aload_n 0, 1) := by decide +kernel
theorem dX12_nameOn_32 : decode cX12_nameOn 32 = .ok (.getfield 173, 3) := by decide +kernel
theorem dX12_nameOn_35 : decode cX12_nameOn 35 = .ok (.bipush 8, 2) := by decide +kernel
theorem dX12_nameOn_37 : decode cX12_nameOn 37 = .ok (.iload_n 2, 1) := by decide +kernel
theorem dX12_nameOn_38 : decode cX12_nameOn 38 = .ok (.imul, 1) := by decide +kernel
theorem dX12_nameOn_39 : decode cX12_nameOn 39 = .ok (.aload_n 0, 1) := by decide +kernel
theorem dX12_nameOn_40 : decode cX12_nameOn 40 = .ok (.getfield 170, 3) := by decide +kernel
theorem dX12_nameOn_43 : decode cX12_nameOn 43 = .ok (.iload_n 2, 1) := by decide +kernel
theorem dX12_nameOn_44 : decode cX12_nameOn 44 = .ok (.iaload, 1) := by decide +kernel
theorem dX12_nameOn_45 : decode cX12_nameOn 45 = .ok (.iadd, 1) := by decide +kernel
theorem dX12_nameOn_46 : decode cX12_nameOn 46 = .ok (.iconst 1, 1) := by decide +kernel
theorem dX12_nameOn_47 : decode cX12_nameOn 47 = .ok (.isub, 1) := by decide +kernel
theorem dX12_nameOn_48 : decode cX12_nameOn 48 = .ok (.iaload, 1) := by decide +kernel
theorem dX12_nameOn_49 : decode cX12_nameOn 49 = .ok (.istore 4, 2) := by decide +kernel
theorem dX12_nameOn_51 : decode cX12_nameOn 51 = .ok (.aload_n 0, 1) := by decide +kernel
theorem dX12_nameOn_52 : decode cX12_nameOn 52 = .ok (.iload_n 1, 1) := by decide +kernel
theorem dX12_nameOn_53 : decode cX12_nameOn 53 = .ok (.iload_n 3, 1) := by decide +kernel
theorem dX12_nameOn_54 : decode cX12_nameOn 54 = .ok (.ifCond .eq 7, 3) := by decide +kernel
theorem dX12_nameOn_57 : decode cX12_nameOn 57 = .ok (.iconst 0, 1) := by decide +kernel
theorem dX12_nameOn_58 : decode cX12_nameOn 58 = .ok (.goto 10, 3) := by decide +kernel
theorem dX12_nameOn_61 : decode cX12_nameOn 61 = .ok (.aload_n 0, 1) := by decide +kernel
theorem dX12_nameOn_62 : decode cX12_nameOn 62 = .ok (.getfield 14, 3) := by decide +kernel
theorem dX12_nameOn_65 : decode cX12_nameOn 65 = .ok (.iload 4, 2) := by decide +kernel
theorem dX12_nameOn_67 : decode cX12_nameOn 67 = .ok (.iaload, 1) := by decide +kernel
theorem dX12_nameOn_68 : decode cX12_nameOn 68 = .ok (.iload_n 3, 1) := by decide +kernel
theorem dX12_nameOn_69 : decode cX12_nameOn 69 = .ok (.ifCond .eq 7, 3) := by decide +kernel
theorem dX12_nameOn_72 : decode cX12_nameOn 72 = .ok (.iconst 0, 1) := by decide +kernel
theorem dX12_nameOn_73 : decode cX12_nameOn 73 = .ok (.goto 10, 3) := by decide +kernel
theorem dX12_nameOn_76 : decode cX12_nameOn 76 = .ok (.aload_n 0, 1) := by decide +kernel
theorem dX12_nameOn_77 : decode cX12_nameOn 77 = .ok (.getfield 18, 3) := by decide +kernel
theorem dX12_nameOn_80 : decode cX12_nameOn 80 = .ok (.iload 4, 2) := by decide +kernel
theorem dX12_nameOn_82 : decode cX12_nameOn 82 = .ok (.iaload, 1) := by decide +kernel
theorem dX12_nameOn_83 : decode cX12_nameOn 83 = .ok (.iload_n 3, 1) := by decide +kernel
theorem dX12_nameOn_84 : decode cX12_nameOn 84 = .ok (.ifCond .eq 7, 3) := by decide +kernel
theorem dX12_nameOn_87 : decode cX12_nameOn 87 = .ok (.iconst 0, 1) := by decide +kernel
theorem dX12_nameOn_88 : decode cX12_nameOn 88 = .ok (.goto 9, 3) := by decide +kernel
theorem dX12_nameOn_91 : decode cX12_nameOn 91 = .ok (.aload_n 0, 1) := by decide +kernel
theorem dX12_nameOn_92 : decode cX12_nameOn 92 = .ok (.getfield 170, 3) := by decide +kernel
theorem dX12_nameOn_95 : decode cX12_nameOn 95 = .ok (.iload_n 2, 1) := by decide +kernel
theorem dX12_nameOn_96 : decode cX12_nameOn 96 = .ok (.iaload, 1) := by decide +kernel
theorem dX12_nameOn_97 : decode cX12_nameOn 97 = .ok (.iload_n 2, 1) := by decide +kernel
theorem dX12_nameOn_98 : decode cX12_nameOn 98 = .ok (.invokevirtual 37, 3) := by decide +kernel
theorem dX12_nameOn_101 : decode cX12_nameOn 101 = .ok (.return_, 1) := by decide +kernel
theorem dX12_mayLie_0 : decode cX12_mayLie 0 = .ok (.aload_n 0, 1) := by decide +kernel
theorem dX12_mayLie_1 : decode cX12_mayLie 1 = .ok (.getfield 170, 3) := by decide +kernel
theorem dX12_mayLie_4 : decode cX12_mayLie 4 = .ok (.iload_n 2, 1) := by decide +kernel
theorem dX12_mayLie_5 : decode cX12_mayLie 5 = .ok (.iaload, 1) := by decide +kernel
theorem dX12_mayLie_6 : decode cX12_mayLie 6 = .ok (.aload_n 0, 1) := by decide +kernel
theorem dX12_mayLie_7 : decode cX12_mayLie 7 = .ok (.getfield 31, 3) := by decide +kernel
theorem dX12_mayLie_10 : decode cX12_mayLie 10 = .ok (.if_icmp .lt 5, 3) := by decide +kernel
theorem dX12_mayLie_13 : decode cX12_mayLie 13 = .ok (.iconst 0, 1) := by decide +kernel
theorem dX12_mayLie_14 : decode cX12_mayLie 14 = .ok (.ireturn, 1) := by decide +kernel
theorem dX12_mayLie_15 : decode cX12_mayLie 15 = .ok (.aload_n 0, 1) := by decide +kernel
theorem dX12_mayLie_16 : decode cX12_mayLie 16 = .ok (.iload_n 1, 1) := by decide +kernel
theorem dX12_mayLie_17 : decode cX12_mayLie 17 = .ok (.iload_n 2, 1) := by decide +kernel
theorem dX12_mayLie_18 : decode cX12_mayLie 18 = .ok (.invokevirtual 228, 3) := by decide +kernel
theorem dX12_mayLie_21 : decode cX12_mayLie 21 = .ok (.aload_n 0, 1) := by decide +kernel
theorem dX12_mayLie_22 : decode cX12_mayLie 22 = .ok (.getfield 170, 3) := by decide +kernel
theorem dX12_mayLie_25 : decode cX12_mayLie 25 = .ok (.iload_n 2, 1) := by decide +kernel
theorem dX12_mayLie_26 : decode cX12_mayLie 26 = .ok (.iaload, 1) := by decide +kernel
theorem dX12_mayLie_27 : decode cX12_mayLie 27 = .ok (.ifCond .eq 11, 3) := by decide +kernel
theorem dX12_mayLie_30 : decode cX12_mayLie 30 = .ok (.aload_n 0, 1) := by decide +kernel
theorem dX12_mayLie_31 : decode cX12_mayLie 31 = .ok (.iconst 0, 1) := by decide +kernel
theorem dX12_mayLie_32 : decode cX12_mayLie 32 = .ok (.invokevirtual 41, 3) := by decide +kernel
theorem dX12_mayLie_35 : decode cX12_mayLie 35 = .ok (.ifCond .eq 7, 3) := by decide +kernel
theorem dX12_mayLie_38 : decode cX12_mayLie 38 = .ok (.iconst 1, 1) := by decide +kernel
theorem dX12_mayLie_39 : decode cX12_mayLie 39 = .ok (.goto 4, 3) := by decide +kernel
theorem dX12_mayLie_42 : decode cX12_mayLie 42 = .ok (.iconst 0, 1) := by decide +kernel
theorem dX12_mayLie_43 : decode cX12_mayLie 43 = .ok (.ireturn, 1) := by decide +kernel
theorem dX12_put_0 : decode cX12_put 0 = .ok (.iload_n 2, 1) := by decide +kernel
theorem dX12_put_1 : decode cX12_put 1 = .ok (.aload_n 0, 1) := by decide +kernel
theorem dX12_put_2 : decode cX12_put 2 = .ok (.getfield 225, 3) := by decide +kernel
theorem dX12_put_5 : decode cX12_put 5 = .ok (.if_icmp .ne 20, 3) := by decide +kernel
theorem dX12_put_8 : decode cX12_put 8 = .ok (.aload_n 0, 1) := by decide +kernel
theorem dX12_put_9 : decode cX12_put 9 = .ok (.getfield 170, 3) := by decide +kernel
theorem dX12_put_12 : decode cX12_put 12 = .ok (.iload_n 2, 1) := by decide +kernel
theorem dX12_put_13 : decode cX12_put 13 = .ok (.iconst 0, 1) := by decide +kernel
theorem dX12_put_14 : decode cX12_put 14 = .ok (.iastore, 1) := by decide +kernel
theorem dX12_put_15 : decode cX12_put 15 = .ok (.aload_n 0, 1) := by decide +kernel
theorem dX12_put_16 : decode cX12_put 16 = .ok (.dup, 1) := by decide +kernel
theorem dX12_put_17 : decode cX12_put 17 = .ok (.getfield 225, 3) := by decide +kernel
theorem dX12_put_20 : decode cX12_put 20 = .ok (.iconst 1, 1) := by decide +kernel
theorem dX12_put_21 : decode cX12_put 21 = .ok (.iadd, 1) := by decide +kernel
theorem dX12_put_22 : decode cX12_put 22 = .ok (.putfield 225, 3) := by decide +kernel
theorem dX12_put_25 : decode cX12_put 25 = .ok (.aload_n 0, 1) := by decide +kernel
theorem dX12_put_26 : decode cX12_put 26 = .ok (.getfield 173, 3) := by decide +kernel
theorem dX12_put_29 : decode cX12_put 29 = .ok (.bipush 8, 2) := by decide +kernel
theorem dX12_put_31 : decode cX12_put 31 = .ok (.iload_n 2, 1) := by decide +kernel
theorem dX12_put_32 : decode cX12_put 32 = .ok (.imul, 1) := by decide +kernel
theorem dX12_put_33 : decode cX12_put 33 = .ok (.aload_n 0, 1) := by decide +kernel
theorem dX12_put_34 : decode cX12_put 34 = .ok (.getfield 170, 3) := by decide +kernel
theorem dX12_put_37 : decode cX12_put 37 = .ok (.iload_n 2, 1) := by decide +kernel
theorem dX12_put_38 : decode cX12_put 38 = .ok (.iaload, 1) := by decide +kernel
theorem dX12_put_39 : decode cX12_put 39 = .ok (.iadd, 1) := by decide +kernel
theorem dX12_put_40 : decode cX12_put 40 = .ok (.iload_n 1, 1) := by decide +kernel
theorem dX12_put_41 : decode cX12_put 41 = .ok (.iastore, 1) := by decide +kernel
theorem dX12_put_42 : decode cX12_put 42 = .ok (.aload_n 0, 1) := by decide +kernel
theorem dX12_put_43 : decode cX12_put 43 = .ok (.getfield 170, 3) := by decide +kernel
theorem dX12_put_46 : decode cX12_put 46 = .ok (.iload_n 2, 1) := by decide +kernel
theorem dX12_put_47 : decode cX12_put 47 = .ok (.dup2, 1) := by decide +kernel
theorem dX12_put_48 : decode cX12_put 48 = .ok (.iaload, 1) := by decide +kernel
theorem dX12_put_49 : decode cX12_put 49 = .ok (.iconst 1, 1) := by decide +kernel
theorem dX12_put_50 : decode cX12_put 50 = .ok (.iadd, 1) := by decide +kernel
theorem dX12_put_51 : decode cX12_put 51 = .ok (.iastore, 1) := by decide +kernel
theorem dX12_put_52 : decode cX12_put 52 = .ok (.return_, 1) := by decide +kernel
theorem dX12_putBack_0 : decode cX12_putBack 0 = .ok (.aload_n 0, 1) := by decide +kernel
theorem dX12_putBack_1 : decode cX12_putBack 1 = .ok (.getfield 170, 3) := by decide +kernel
theorem dX12_putBack_4 : decode cX12_putBack 4 = .ok (.iload_n 1, 1) := by decide +kernel
theorem dX12_putBack_5 : decode cX12_putBack 5 = .ok (.dup2, 1) := by decide +kernel
theorem dX12_putBack_6 : decode cX12_putBack 6 = .ok (.iaload, 1) := by decide +kernel
theorem dX12_putBack_7 : decode cX12_putBack 7 = .ok (.iconst 1, 1) := by decide +kernel
theorem dX12_putBack_8 : decode cX12_putBack 8 = .ok (.isub, 1) := by decide +kernel
theorem dX12_putBack_9 : decode cX12_putBack 9 = .ok (.iastore, 1) := by decide +kernel
theorem dX12_putBack_10 : decode cX12_putBack 10 = .ok (.aload_n 0, 1) := by decide +kernel
theorem dX12_putBack_11 : decode cX12_putBack 11 = .ok (.dup, 1) := by decide +kernel
theorem dX12_putBack_12 : decode cX12_putBack 12 = .ok (.getfield 225, 3) := by decide +kernel
theorem dX12_putBack_15 : decode cX12_putBack 15 = .ok (.iload_n 1, 1) := by decide +kernel
theorem dX12_putBack_16 : decode cX12_putBack 16 = .ok (.aload_n 0, 1) := by decide +kernel
theorem dX12_putBack_17 : decode cX12_putBack 17 = .ok (.getfield 225, 3) := by decide +kernel
theorem dX12_putBack_20 : decode cX12_putBack 20 = .ok (.iconst 1, 1) := by decide +kernel
theorem dX12_putBack_21 : decode cX12_putBack 21 = .ok (.isub, 1) := by decide +kernel
theorem dX12_putBack_22 : decode cX12_putBack 22 = .ok (.if_icmp .ne 16, 3) := by decide +kernel
theorem dX12_putBack_25 : decode cX12_putBack 25 = .ok (.aload_n 0, 1) := by decide +kernel
theorem dX12_putBack_26 : decode cX12_putBack 26 = .ok (.getfield 170, 3) := by decide +kernel
theorem dX12_putBack_29 : decode cX12_putBack 29 = .ok (.iload_n 1, 1) := by decide +kernel
theorem dX12_putBack_30 : decode cX12_putBack 30 = .ok (.iaload, 1) := by decide +kernel
theorem dX12_putBack_31 : decode cX12_putBack 31 = .ok (.ifCond .ne 7, 3) := by decide +kernel
theorem dX12_putBack_34 : decode cX12_putBack 34 = .ok (.iconst 1, 1) := by decide +kernel
theorem dX12_putBack_35 : decode cX12_putBack 35 = .ok (.goto 4, 3) := by decide +kernel
theorem dX12_putBack_38 : decode cX12_putBack 38 = .ok (.iconst 0, 1) := by decide +kernel
theorem dX12_putBack_39 : decode cX12_putBack 39 = .ok (.isub, 1) := by decide +kernel
theorem dX12_putBack_40 : decode cX12_putBack 40 = .ok (.putfield 225, 3) := by decide +kernel
theorem dX12_putBack_43 : decode cX12_putBack 43 = .ok (.return_, 1) := by decide +kernel
theorem dJ9_abs_0f7a4_0 : decode cJ9_abs_0f7a4 0 = .ok (.iload_n 0, 1) := by decide +kernel
theorem dJ9_abs_0f7a4_1 : decode cJ9_abs_0f7a4 1 = .ok (.ifCond .ge 8, 3) := by decide +kernel
theorem dJ9_abs_0f7a4_4 : decode cJ9_abs_0f7a4 4 = .ok (.iload_n 0, 1) := by decide +kernel
theorem dJ9_abs_0f7a4_5 : decode cJ9_abs_0f7a4 5 = .ok (.ineg, 1) := by decide +kernel
theorem dJ9_abs_0f7a4_6 : decode cJ9_abs_0f7a4 6 = .ok (.goto 4, 3) := by decide +kernel
theorem dJ9_abs_0f7a4_9 : decode cJ9_abs_0f7a4 9 = .ok (.iload_n 0, 1) := by decide +kernel
theorem dJ9_abs_0f7a4_10 : decode cJ9_abs_0f7a4 10 = .ok (.ireturn, 1) := by decide +kernel
theorem dX12_rank__0 : decode cX12_rank_ 0 = .ok (.aload_n 0, 1) := by decide +kernel
theorem dX12_rank__1 : decode cX12_rank_ 1 = .ok (.getfield 170, 3) := by decide +kernel
theorem dX12_rank__4 : decode cX12_rank_ 4 = .ok (.iload_n 3, 1) := by decide +kernel
theorem dX12_rank__5 : decode cX12_rank_ 5 = .ok (.iaload, 1) := by decide +kernel
theorem dX12_rank__6 : decode cX12_rank_ 6 = .ok (.ifCond .ne 7, 3) := by decide +kernel
theorem dX12_rank__9 : decode cX12_rank_ 9 = .ok (.sipush 1000, 3) := by decide +kernel
theorem dX12_rank__12 : decode cX12_rank_ 12 = .ok (.ireturn, 1) := by decide +kernel
theorem dX12_rank__13 : decode cX12_rank_ 13 = .ok (.aload_n 0, 1) := by decide +kernel
theorem dX12_rank__14 : decode cX12_rank_ 14 = .ok (.getfield 14, 3) := by decide +kernel
theorem dX12_rank__17 : decode cX12_rank_ 17 = .ok (.aload_n 0, 1) := by decide +kernel
theorem dX12_rank__18 : decode cX12_rank_ 18 = .ok (.getfield 173, 3) := by decide +kernel
theorem dX12_rank__21 : decode cX12_rank_ 21 = .ok (.bipush 8, 2) := by decide +kernel
theorem dX12_rank__23 : decode cX12_rank_ 23 = .ok (.iload_n 3, 1) := by decide +kernel
theorem dX12_rank__24 : decode cX12_rank_ 24 = .ok (.imul, 1) := by decide +kernel
theorem dX12_rank__25 : decode cX12_rank_ 25 = .ok (.aload_n 0, 1) := by decide +kernel
theorem dX12_rank__26 : decode cX12_rank_ 26 = .ok (.getfield 170, 3) := by decide +kernel
theorem dX12_rank__29 : decode cX12_rank_ 29 = .ok (.iload_n 3, 1) := by decide +kernel
theorem dX12_rank__30 : decode cX12_rank_ 30 = .ok (.iaload, 1) := by decide +kernel
theorem dX12_rank__31 : decode cX12_rank_ 31 = .ok (.iadd, 1) := by decide +kernel
theorem dX12_rank__32 : decode cX12_rank_ 32 = .ok (.iconst 1, 1) := by decide +kernel
theorem dX12_rank__33 : decode cX12_rank_ 33 = .ok (.isub, 1) := by decide +kernel
theorem dX12_rank__34 : decode cX12_rank_ 34 = .ok (.iaload, 1) := by decide +kernel
theorem dX12_rank__35 : decode cX12_rank_ 35 = .ok (.iaload, 1) := by decide +kernel
theorem dX12_rank__36 : decode cX12_rank_ 36 = .ok (.istore 4, 2) := by decide +kernel
theorem dX12_rank__38 : decode cX12_rank_ 38 = .ok (.iload 4, 2) := by decide +kernel
theorem dX12_rank__40 : decode cX12_rank_ 40 = .ok (.aload_n 0, 1) := by decide +kernel
theorem dX12_rank__41 : decode cX12_rank_ 41 = .ok (.getfield 14, 3) := by decide +kernel
theorem dX12_rank__44 : decode cX12_rank_ 44 = .ok (.iload_n 2, 1) := by decide +kernel
theorem dX12_rank__45 : decode cX12_rank_ 45 = .ok (.iaload, 1) := by decide +kernel
theorem dX12_rank__46 : decode cX12_rank_ 46 = .ok (.isub, 1) := by decide +kernel
theorem dX12_rank__47 : decode cX12_rank_ 47 = .ok (.invokestatic 232, 3) := by decide +kernel
theorem dX12_rank__50 : decode cX12_rank_ 50 = .ok (.aload_n 0, 1) := by decide +kernel
theorem dX12_rank__51 : decode cX12_rank_ 51 = .ok (.getfield 24, 3) := by decide +kernel
theorem dX12_rank__54 : decode cX12_rank_ 54 = .ok (.iload_n 1, 1) := by decide +kernel
theorem dX12_rank__55 : decode cX12_rank_ 55 = .ok (.iaload, 1) := by decide +kernel
theorem dX12_rank__56 : decode cX12_rank_ 56 = .ok (.iadd, 1) := by decide +kernel
theorem dX12_rank__57 : decode cX12_rank_ 57 = .ok (.istore 5, 2) := by decide +kernel
theorem dX12_rank__59 : decode cX12_rank_ 59 = .ok (.aload_n 0, 1) := by decide +kernel
theorem dX12_rank__60 : decode cX12_rank_ 60 = .ok (.getfield 21, 3) := by decide +kernel
theorem dX12_rank__63 : decode cX12_rank_ 63 = .ok (.iload_n 1, 1) := by decide +kernel
theorem dX12_rank__64 : decode cX12_rank_ 64 = .ok (.iaload, 1) := by decide +kernel
theorem dX12_rank__65 : decode cX12_rank_ 65 = .ok (.tableswitch 67 0 4 #[35, 38, 41, 43, 56], 35) := by decide +kernel
theorem dX12_rank__100 : decode cX12_rank_ 100 = .ok (.iload 4, 2) := by decide +kernel
theorem dX12_rank__102 : decode cX12_rank_ 102 = .ok (.ireturn, 1) := by decide +kernel
theorem dX12_rank__103 : decode cX12_rank_ 103 = .ok (.iload 5, 2) := by decide +kernel
theorem dX12_rank__105 : decode cX12_rank_ 105 = .ok (.ireturn, 1) := by decide +kernel
theorem dX12_rank__106 : decode cX12_rank_ 106 = .ok (.iload_n 3, 1) := by decide +kernel
theorem dX12_rank__107 : decode cX12_rank_ 107 = .ok (.ireturn, 1) := by decide +kernel
theorem dX12_rank__108 : decode cX12_rank_ 108 = .ok (.iload 5, 2) := by decide +kernel
theorem dX12_rank__110 : decode cX12_rank_ 110 = .ok (.bipush 10, 2) := by decide +kernel
theorem dX12_rank__112 : decode cX12_rank_ 112 = .ok (.aload_n 0, 1) := by decide +kernel
theorem dX12_rank__113 : decode cX12_rank_ 113 = .ok (.getfield 170, 3) := by decide +kernel
theorem dX12_rank__116 : decode cX12_rank_ 116 = .ok (.iload_n 3, 1) := by decide +kernel
theorem dX12_rank__117 : decode cX12_rank_ 117 = .ok (.iaload, 1) := by decide +kernel
theorem dX12_rank__118 : decode cX12_rank_ 118 = .ok (.imul, 1) := by decide +kernel
theorem dX12_rank__119 : decode cX12_rank_ 119 = .ok (.iadd, 1) := by decide +kernel
theorem dX12_rank__120 : decode cX12_rank_ 120 = .ok (.ireturn, 1) := by decide +kernel
theorem dX12_rank__121 : decode cX12_rank_ 121 = .ok (.iload_n 3, 1) := by decide +kernel
theorem dX12_rank__122 : decode cX12_rank_ 122 = .ok (.aload_n 0, 1) := by decide +kernel
theorem dX12_rank__123 : decode cX12_rank_ 123 = .ok (.getfield 24, 3) := by decide +kernel
theorem dX12_rank__126 : decode cX12_rank_ 126 = .ok (.iload_n 1, 1) := by decide +kernel
theorem dX12_rank__127 : decode cX12_rank_ 127 = .ok (.iaload, 1) := by decide +kernel
theorem dX12_rank__128 : decode cX12_rank_ 128 = .ok (.iadd, 1) := by decide +kernel
theorem dX12_rank__129 : decode cX12_rank_ 129 = .ok (.iconst 4, 1) := by decide +kernel
theorem dX12_rank__130 : decode cX12_rank_ 130 = .ok (.irem, 1) := by decide +kernel
theorem dX12_rank__131 : decode cX12_rank_ 131 = .ok (.ireturn, 1) := by decide +kernel
theorem dX12_rank__132 : decode cX12_rank_ 132 = .ok (.bipush 100, 2) := by decide +kernel
theorem dX12_rank__134 : decode cX12_rank_ 134 = .ok (.iload 5, 2) := by decide +kernel
theorem dX12_rank__136 : decode cX12_rank_ 136 = .ok (.isub, 1) := by decide +kernel
theorem dX12_rank__137 : decode cX12_rank_ 137 = .ok (.ireturn, 1) := by decide +kernel
theorem dX12_likes_0 : decode cX12_likes 0 = .ok (.aload_n 0, 1) := by decide +kernel
theorem dX12_likes_1 : decode cX12_likes 1 = .ok (.getfield 21, 3) := by decide +kernel
theorem dX12_likes_4 : decode cX12_likes 4 = .ok (.iload_n 1, 1) := by decide +kernel
theorem dX12_likes_5 : decode cX12_likes 5 = .ok (.iaload, 1) := by decide +kernel
theorem dX12_likes_6 : decode cX12_likes 6 = .ok (.tableswitch 87 1 5 #[34, 87, 34, 46, 67], 34) := by decide +kernel
theorem dX12_likes_40 : decode cX12_likes 40 = .ok (.iload_n 2, 1) := by decide +kernel
theorem dX12_likes_41 : decode cX12_likes 41 = .ok (.bipush 50, 2) := by decide +kernel
theorem dX12_likes_43 : decode cX12_likes 43 = .ok (.if_icmp .le 7, 3) := by decide +kernel
theorem dX12_likes_46 : decode cX12_likes 46 = .ok (.iconst 1, 1) := by decide +kernel
theorem dX12_likes_47 : decode cX12_likes 47 = .ok (.goto 4, 3) := by decide +kernel
theorem dX12_likes_50 : decode cX12_likes 50 = .ok (.iconst 0, 1) := by decide +kernel
theorem dX12_likes_51 : decode cX12_likes 51 = .ok (.ireturn, 1) := by decide +kernel
theorem dX12_likes_52 : decode cX12_likes 52 = .ok (.aload_n 0, 1) := by decide +kernel
theorem dX12_likes_53 : decode cX12_likes 53 = .ok (.getfield 225, 3) := by decide +kernel
theorem dX12_likes_56 : decode cX12_likes 56 = .ok (.aload_n 0, 1) := by decide +kernel
theorem dX12_likes_57 : decode cX12_likes 57 = .ok (.getfield 24, 3) := by decide +kernel
theorem dX12_likes_60 : decode cX12_likes 60 = .ok (.iload_n 1, 1) := by decide +kernel
theorem dX12_likes_61 : decode cX12_likes 61 = .ok (.iaload, 1) := by decide +kernel
theorem dX12_likes_62 : decode cX12_likes 62 = .ok (.iconst 3, 1) := by decide +kernel
theorem dX12_likes_63 : decode cX12_likes 63 = .ok (.irem, 1) := by decide +kernel
theorem dX12_likes_64 : decode cX12_likes 64 = .ok (.if_icmp .ge 7, 3) := by decide +kernel
theorem dX12_likes_67 : decode cX12_likes 67 = .ok (.iconst 1, 1) := by decide +kernel
theorem dX12_likes_68 : decode cX12_likes 68 = .ok (.goto 4, 3) := by decide +kernel
theorem dX12_likes_71 : decode cX12_likes 71 = .ok (.iconst 0, 1) := by decide +kernel
theorem dX12_likes_72 : decode cX12_likes 72 = .ok (.ireturn, 1) := by decide +kernel
theorem dX12_likes_73 : decode cX12_likes 73 = .ok (.iload_n 2, 1) := by decide +kernel
theorem dX12_likes_74 : decode cX12_likes 74 = .ok (.bipush 50, 2) := by decide +kernel
theorem dX12_likes_76 : decode cX12_likes 76 = .ok (.if_icmp .gt 11, 3) := by decide +kernel
theorem dX12_likes_79 : decode cX12_likes 79 = .ok (.aload_n 0, 1) := by decide +kernel
theorem dX12_likes_80 : decode cX12_likes 80 = .ok (.getfield 225, 3) := by decide +kernel
theorem dX12_likes_83 : decode cX12_likes 83 = .ok (.iconst 1, 1) := by decide +kernel
theorem dX12_likes_84 : decode cX12_likes 84 = .ok (.if_icmp .ne 7, 3) := by decide +kernel
theorem dX12_likes_87 : decode cX12_likes 87 = .ok (.iconst 1, 1) := by decide +kernel
theorem dX12_likes_88 : decode cX12_likes 88 = .ok (.goto 4, 3) := by decide +kernel
theorem dX12_likes_91 : decode cX12_likes 91 = .ok (.iconst 0, 1) := by decide +kernel
theorem dX12_likes_92 : decode cX12_likes 92 = .ok (.ireturn, 1) := by decide +kernel
theorem dX12_likes_93 : decode cX12_likes 93 = .ok (.iconst 0, 1) := by decide +kernel
theorem dX12_likes_94 : decode cX12_likes 94 = .ok (.ireturn, 1) := by decide +kernel
theorem dX12_choice_0 : decode cX12_choice 0 = .ok (.iconst (-1), 1) := by decide +kernel
theorem dX12_choice_1 : decode cX12_choice 1 = .ok (.istore_n 3, 1) := by decide +kernel
theorem dX12_choice_2 : decode cX12_choice 2 = .ok (.iconst 0, 1) := by decide +kernel
theorem dX12_choice_3 : decode cX12_choice 3 = .ok (.istore 4, 2) := by decide +kernel
theorem dX12_choice_5 : decode cX12_choice 5 = .ok (.iconst 0, 1) := by decide +kernel
theorem dX12_choice_6 : decode cX12_choice 6 = .ok (.istore 5, 2) := by decide +kernel
theorem dX12_choice_8 : decode cX12_choice 8 = .ok (.iload 5, 2) := by decide +kernel
theorem dX12_choice_10 : decode cX12_choice 10 = .ok (.aload_n 0, 1) := by decide +kernel
theorem dX12_choice_11 : decode cX12_choice 11 = .ok (.getfield 225, 3) := by decide +kernel
theorem dX12_choice_14 : decode cX12_choice 14 = .ok (.if_icmp .ge 48, 3) := by decide +kernel
theorem dX12_choice_17 : decode cX12_choice 17 = .ok (.aload_n 0, 1) := by decide +kernel
theorem dX12_choice_18 : decode cX12_choice 18 = .ok (.iload_n 2, 1) := by decide +kernel
theorem dX12_choice_19 : decode cX12_choice 19 = .ok (.iload 5, 2) := by decide +kernel
theorem dX12_choice_21 : decode cX12_choice 21 = .ok (.invokevirtual 237, 3) := by decide +kernel
theorem dX12_choice_24 : decode cX12_choice 24 = .ok (.ifCond .eq 32, 3) := by decide +kernel
theorem dX12_choice_27 : decode cX12_choice 27 = .ok (.aload_n 0, 1) := by decide +kernel
theorem dX12_choice_28 : decode cX12_choice 28 = .ok (.iload_n 1, 1) := by decide +kernel
theorem dX12_choice_29 : decode cX12_choice 29 = .ok (.iload_n 2, 1) := by decide +kernel
theorem dX12_choice_30 : decode cX12_choice 30 = .ok (.iload 5, 2) := by decide +kernel
theorem dX12_choice_32 : decode cX12_choice 32 = .ok (.invokevirtual 241, 3) := by decide +kernel
theorem dX12_choice_35 : decode cX12_choice 35 = .ok (.istore 6, 2) := by decide +kernel
theorem dX12_choice_37 : decode cX12_choice 37 = .ok (.iload_n 3, 1) := by decide +kernel
theorem dX12_choice_38 : decode cX12_choice 38 = .ok (.iconst (-1), 1) := by decide +kernel
theorem dX12_choice_39 : decode cX12_choice 39 = .ok (.if_icmp .eq 10, 3) := by decide +kernel
theorem dX12_choice_42 : decode cX12_choice 42 = .ok (.iload 6, 2) := by decide +kernel
theorem dX12_choice_44 : decode cX12_choice 44 = .ok (.iload 4, 2) := by decide +kernel
theorem dX12_choice_46 : decode cX12_choice 46 = .ok (.if_icmp .ge 10, 3) := by decide +kernel
theorem dX12_choice_49 : decode cX12_choice 49 = .ok (.iload 5, 2) := by decide +kernel
theorem dX12_choice_51 : decode cX12_choice 51 = .ok (.istore_n 3, 1) := by decide +kernel
theorem dX12_choice_52 : decode cX12_choice 52 = .ok (.iload 6, 2) := by decide +kernel
theorem dX12_choice_54 : decode cX12_choice 54 = .ok (.istore 4, 2) := by decide +kernel
theorem dX12_choice_56 : decode cX12_choice 56 = .ok (.iinc 5 1, 3) := by decide +kernel
theorem dX12_choice_59 : decode cX12_choice 59 = .ok (.goto (-51), 3) := by decide +kernel
theorem dX12_choice_62 : decode cX12_choice 62 = .ok (.iload_n 3, 1) := by decide +kernel
theorem dX12_choice_63 : decode cX12_choice 63 = .ok (.iconst (-1), 1) := by decide +kernel
theorem dX12_choice_64 : decode cX12_choice 64 = .ok (.if_icmp .eq 13, 3) := by decide +kernel
theorem dX12_choice_67 : decode cX12_choice 67 = .ok (.aload_n 0, 1) := by decide +kernel
theorem dX12_choice_68 : decode cX12_choice 68 = .ok (.iload_n 1, 1) := by decide +kernel
theorem dX12_choice_69 : decode cX12_choice 69 = .ok (.iload 4, 2) := by decide +kernel
theorem dX12_choice_71 : decode cX12_choice 71 = .ok (.invokevirtual 243, 3) := by decide +kernel
theorem dX12_choice_74 : decode cX12_choice 74 = .ok (.ifCond .eq 10, 3) := by decide +kernel
theorem dX12_choice_77 : decode cX12_choice 77 = .ok (.aload_n 0, 1) := by decide +kernel
theorem dX12_choice_78 : decode cX12_choice 78 = .ok (.getfield 225, 3) := by decide +kernel
theorem dX12_choice_81 : decode cX12_choice 81 = .ok (.goto 4, 3) := by decide +kernel
theorem dX12_choice_84 : decode cX12_choice 84 = .ok (.iload_n 3, 1) := by decide +kernel
theorem dX12_choice_85 : decode cX12_choice 85 = .ok (.ireturn, 1) := by decide +kernel
theorem dX12_layAll_0 : decode cX12_layAll 0 = .ok (.aload_n 0, 1) := by decide +kernel
theorem dX12_layAll_1 : decode cX12_layAll 1 = .ok (.iconst 0, 1) := by decide +kernel
theorem dX12_layAll_2 : decode cX12_layAll 2 = .ok (.putfield 225, 3) := by decide +kernel
theorem dX12_layAll_5 : decode cX12_layAll 5 = .ok (.aload_n 0, 1) := by decide +kernel
theorem dX12_layAll_6 : decode cX12_layAll 6 = .ok (.iconst 0, 1) := by decide +kernel
theorem dX12_layAll_7 : decode cX12_layAll 7 = .ok (.putfield 246, 3) := by decide +kernel
theorem dX12_layAll_10 : decode cX12_layAll 10 = .ok (.iconst 0, 1) := by decide +kernel
theorem dX12_layAll_11 : decode cX12_layAll 11 = .ok (.istore_n 2, 1) := by decide +kernel
theorem dX12_layAll_12 : decode cX12_layAll 12 = .ok (.iload_n 2, 1) := by decide +kernel
theorem dX12_layAll_13 : decode cX12_layAll 13 = .ok (.aload_n 0, 1) := by decide +kernel
theorem dX12_layAll_14 : decode cX12_layAll 14 = .ok (.getfield 1, 3) := by decide +kernel
theorem dX12_layAll_17 : decode cX12_layAll 17 = .ok (.if_icmp .ge 102, 3) := by decide +kernel
theorem dX12_layAll_20 : decode cX12_layAll 20 = .ok (.aload_n 0, 1) := by decide +kernel
theorem dX12_layAll_21 : decode cX12_layAll 21 = .ok (.getfield 176, 3) := by decide +kernel
theorem dX12_layAll_24 : decode cX12_layAll 24 = .ok (.iload_n 2, 1) := by decide +kernel
theorem dX12_layAll_25 : decode cX12_layAll 25 = .ok (.iaload, 1) := by decide +kernel
theorem dX12_layAll_26 : decode cX12_layAll 26 = .ok (.istore_n 3, 1) := by decide +kernel
theorem dX12_layAll_27 : decode cX12_layAll 27 = .ok (.aload_n 0, 1) := by decide +kernel
theorem dX12_layAll_28 : decode cX12_layAll 28 = .ok (.iload_n 1, 1) := by decide +kernel
theorem dX12_layAll_29 : decode cX12_layAll 29 = .ok (.iload_n 3, 1) := by decide +kernel
theorem dX12_layAll_30 : decode cX12_layAll 30 = .ok (.invokevirtual 249, 3) := by decide +kernel
theorem dX12_layAll_33 : decode cX12_layAll 33 = .ok (.istore 4, 2) := by decide +kernel
theorem dX12_layAll_35 : decode cX12_layAll 35 = .ok (.aload_n 0, 1) := by decide +kernel
theorem dX12_layAll_36 : decode cX12_layAll 36 = .ok (.iload_n 3, 1) := by decide +kernel
theorem dX12_layAll_37 : decode cX12_layAll 37 = .ok (.iload 4, 2) := by decide +kernel
theorem dX12_layAll_39 : decode cX12_layAll 39 = .ok (.invokevirtual 228, 3) := by decide +kernel
theorem dX12_layAll_42 : decode cX12_layAll 42 = .ok (.aload_n 0, 1) := by decide +kernel
theorem dX12_layAll_43 : decode cX12_layAll 43 = .ok (.dup, 1) := by decide +kernel
theorem dX12_layAll_44 : decode cX12_layAll 44 = .ok (.getfield 246, 3) := by decide +kernel
theorem dX12_layAll_47 : decode cX12_layAll 47 = .ok (.aload_n 0, 1) := by decide +kernel
theorem dX12_layAll_48 : decode cX12_layAll 48 = .ok (.iconst 1, 1) := by decide +kernel
theorem dX12_layAll_49 : decode cX12_layAll 49 = .ok (.invokevirtual 41, 3) := by decide +kernel
theorem dX12_layAll_52 : decode cX12_layAll 52 = .ok (.invokestatic 45, 3) := by decide +kernel
theorem dX12_layAll_55 : decode cX12_layAll 55 = .ok (.iadd, 1) := by decide +kernel
theorem dX12_layAll_56 : decode cX12_layAll 56 = .ok (.putfield 246, 3) := by decide +kernel
theorem dX12_layAll_59 : decode cX12_layAll 59 = .ok (.aload_n 0, 1) := by decide +kernel
theorem dX12_layAll_60 : decode cX12_layAll 60 = .ok (.getfield 179, 3) := by decide +kernel
theorem dX12_layAll_63 : decode cX12_layAll 63 = .ok (.iload_n 3, 1) := by decide +kernel
theorem dX12_layAll_64 : decode cX12_layAll 64 = .ok (.iload 4, 2) := by decide +kernel
theorem dX12_layAll_66 : decode cX12_layAll 66 = .ok (.iastore, 1) := by decide +kernel
theorem dX12_layAll_67 : decode cX12_layAll 67 = .ok (.aload_n 0, 1) := by decide +kernel
theorem dX12_layAll_68 : decode cX12_layAll 68 = .ok (.getfield 182, 3) := by decide +kernel
theorem dX12_layAll_71 : decode cX12_layAll 71 = .ok (.iload_n 3, 1) := by decide +kernel
theorem dX12_layAll_72 : decode cX12_layAll 72 = .ok (.iload 4, 2) := by decide +kernel
theorem dX12_layAll_74 : decode cX12_layAll 74 = .ok (.aload_n 0, 1) := by decide +kernel
theorem dX12_layAll_75 : decode cX12_layAll 75 = .ok (.getfield 225, 3) := by decide +kernel
theorem dX12_layAll_78 : decode cX12_layAll 78 = .ok (.if_icmp .ne 7, 3) := by decide +kernel
theorem dX12_layAll_81 : decode cX12_layAll 81 = .ok (.iconst (-1), 1) := by decide +kernel
theorem dX12_layAll_82 : decode cX12_layAll 82 = .ok (.goto 23, 3) := by decide +kernel
theorem dX12_layAll_85 : decode cX12_layAll 85 = .ok (.aload_n 0, 1) := by decide +kernel
theorem dX12_layAll_86 : decode cX12_layAll 86 = .ok (.getfield 173, 3) := by decide +kernel
theorem dX12_layAll_89 : decode cX12_layAll 89 = .ok (.bipush 8, 2) := by decide +kernel
theorem dX12_layAll_91 : decode cX12_layAll 91 = .ok (.iload 4, 2) := by decide +kernel
theorem dX12_layAll_93 : decode cX12_layAll 93 = .ok (.imul, 1) := by decide +kernel
theorem dX12_layAll_94 : decode cX12_layAll 94 = .ok (.aload_n 0, 1) := by decide +kernel
theorem dX12_layAll_95 : decode cX12_layAll 95 = .ok (.getfield 170, 3) := by decide +kernel
theorem dX12_layAll_98 : decode cX12_layAll 98 = .ok (.iload 4, 2) := by decide +kernel
theorem dX12_layAll_100 : decode cX12_layAll 100 = .ok (.iaload, 1) := by decide +kernel
theorem dX12_layAll_101 : decode cX12_layAll 101 = .ok (.iadd, 1) := by decide +kernel
theorem dX12_layAll_102 : decode cX12_layAll 102 = .ok (.iconst 1, 1) := by decide +kernel
theorem dX12_layAll_103 : decode cX12_layAll 103 = .ok (.isub, 1) := by decide +kernel
theorem dX12_layAll_104 : decode cX12_layAll 104 = .ok (.iaload, 1) := by decide +kernel
theorem dX12_layAll_105 : decode cX12_layAll 105 = .ok (.iastore, 1) := by decide +kernel
theorem dX12_layAll_106 : decode cX12_layAll 106 = .ok (.aload_n 0, 1) := by decide +kernel
theorem dX12_layAll_107 : decode cX12_layAll 107 = .ok (.iload_n 3, 1) := by decide +kernel
theorem dX12_layAll_108 : decode cX12_layAll 108 = .ok (.iload 4, 2) := by decide +kernel
theorem dX12_layAll_110 : decode cX12_layAll 110 = .ok (.invokevirtual 253, 3) := by decide +kernel
theorem dX12_layAll_113 : decode cX12_layAll 113 = .ok (.iinc 2 1, 3) := by decide +kernel
theorem dX12_layAll_116 : decode cX12_layAll 116 = .ok (.goto (-104), 3) := by decide +kernel
theorem dX12_layAll_119 : decode cX12_layAll 119 = .ok (.return_, 1) := by decide +kernel
theorem dX12_asTheyCame_0 : decode cX12_asTheyCame 0 = .ok (.iconst 0, 1) := by decide +kernel
theorem dX12_asTheyCame_1 : decode cX12_asTheyCame 1 = .ok (.istore_n 1, 1) := by decide +kernel
theorem dX12_asTheyCame_2 : decode cX12_asTheyCame 2 = .ok (.iload_n 1, 1) := by decide +kernel
theorem dX12_asTheyCame_3 : decode cX12_asTheyCame 3 = .ok (.bipush 8, 2) := by decide +kernel
theorem dX12_asTheyCame_5 : decode cX12_asTheyCame 5 = .ok (.if_icmp .ge 16, 3) := by decide +kernel
theorem dX12_asTheyCame_8 : decode cX12_asTheyCame 8 = .ok (.aload_n 0, 1) := by decide +kernel
theorem dX12_asTheyCame_9 : decode cX12_asTheyCame 9 = .ok (.getfield 176, 3) := by decide +kernel
theorem dX12_asTheyCame_12 : decode cX12_asTheyCame 12 = .ok (.iload_n 1, 1) := by decide +kernel
theorem dX12_asTheyCame_13 : decode cX12_asTheyCame 13 = .ok (.iload_n 1, 1) := by decide +kernel
theorem dX12_asTheyCame_14 : decode cX12_asTheyCame 14 = .ok (.iastore, 1) := by decide +kernel
theorem dX12_asTheyCame_15 : decode cX12_asTheyCame 15 = .ok (.iinc 1 1, 3) := by decide +kernel
theorem dX12_asTheyCame_18 : decode cX12_asTheyCame 18 = .ok (.goto (-16), 3) := by decide +kernel
theorem dX12_asTheyCame_21 : decode cX12_asTheyCame 21 = .ok (.return_, 1) := by decide +kernel
theorem dX12_by_0 : decode cX12_by 0 = .ok (.aload_n 0, 1) := by decide +kernel
theorem dX12_by_1 : decode cX12_by 1 = .ok (.iload_n 1, 1) := by decide +kernel
theorem dX12_by_2 : decode cX12_by 2 = .ok (.invokevirtual 34, 3) := by decide +kernel
theorem dX12_by_5 : decode cX12_by 5 = .ok (.ifCond .eq 12, 3) := by decide +kernel
theorem dX12_by_8 : decode cX12_by 8 = .ok (.iload_n 2, 1) := by decide +kernel
theorem dX12_by_9 : decode cX12_by 9 = .ok (.iconst 0, 1) := by decide +kernel
theorem dX12_by_10 : decode cX12_by 10 = .ok (.iconst 1, 1) := by decide +kernel
theorem dX12_by_11 : decode cX12_by 11 = .ok (.invokestatic 7, 3) := by decide +kernel
theorem dX12_by_14 : decode cX12_by 14 = .ok (.ifCond .ne 6, 3) := by decide +kernel
theorem dX12_by_17 : decode cX12_by 17 = .ok (.bipush (-2), 2) := by decide +kernel
theorem dX12_by_19 : decode cX12_by 19 = .ok (.ireturn, 1) := by decide +kernel
theorem dX12_by_20 : decode cX12_by 20 = .ok (.aload_n 0, 1) := by decide +kernel
theorem dX12_by_21 : decode cX12_by 21 = .ok (.iload_n 1, 1) := by decide +kernel
theorem dX12_by_22 : decode cX12_by 22 = .ok (.invokevirtual 256, 3) := by decide +kernel
theorem dX12_by_25 : decode cX12_by 25 = .ok (.iload_n 2, 1) := by decide +kernel
theorem dX12_by_26 : decode cX12_by 26 = .ok (.ifCond .ne 10, 3) := by decide +kernel
theorem dX12_by_29 : decode cX12_by 29 = .ok (.aload_n 0, 1) := by decide +kernel
theorem dX12_by_30 : decode cX12_by 30 = .ok (.getfield 225, 3) := by decide +kernel
theorem dX12_by_33 : decode cX12_by 33 = .ok (.goto 7, 3) := by decide +kernel
theorem dX12_by_36 : decode cX12_by 36 = .ok (.aload_n 0, 1) := by decide +kernel
theorem dX12_by_37 : decode cX12_by 37 = .ok (.getfield 246, 3) := by decide +kernel
theorem dX12_by_40 : decode cX12_by 40 = .ok (.ireturn, 1) := by decide +kernel
theorem dX12_heapOf_0 : decode cX12_heapOf 0 = .ok (.aload_n 0, 1) := by decide +kernel
theorem dX12_heapOf_1 : decode cX12_heapOf 1 = .ok (.iload_n 1, 1) := by decide +kernel
theorem dX12_heapOf_2 : decode cX12_heapOf 2 = .ok (.invokevirtual 34, 3) := by decide +kernel
theorem dX12_heapOf_5 : decode cX12_heapOf 5 = .ok (.ifCond .eq 11, 3) := by decide +kernel
theorem dX12_heapOf_8 : decode cX12_heapOf 8 = .ok (.aload_n 0, 1) := by decide +kernel
theorem dX12_heapOf_9 : decode cX12_heapOf 9 = .ok (.iload_n 2, 1) := by decide +kernel
theorem dX12_heapOf_10 : decode cX12_heapOf 10 = .ok (.invokevirtual 27, 3) := by decide +kernel
theorem dX12_heapOf_13 : decode cX12_heapOf 13 = .ok (.ifCond .ne 6, 3) := by decide +kernel
theorem dX12_heapOf_16 : decode cX12_heapOf 16 = .ok (.bipush (-2), 2) := by decide +kernel
theorem dX12_heapOf_18 : decode cX12_heapOf 18 = .ok (.ireturn, 1) := by decide +kernel
theorem dX12_heapOf_19 : decode cX12_heapOf 19 = .ok (.aload_n 0, 1) := by decide +kernel
theorem dX12_heapOf_20 : decode cX12_heapOf 20 = .ok (.iload_n 1, 1) := by decide +kernel
theorem dX12_heapOf_21 : decode cX12_heapOf 21 = .ok (.invokevirtual 256, 3) := by decide +kernel
theorem dX12_heapOf_24 : decode cX12_heapOf 24 = .ok (.aload_n 0, 1) := by decide +kernel
theorem dX12_heapOf_25 : decode cX12_heapOf 25 = .ok (.getfield 179, 3) := by decide +kernel
theorem dX12_heapOf_28 : decode cX12_heapOf 28 = .ok (.iload_n 2, 1) := by decide +kernel
theorem dX12_heapOf_29 : decode cX12_heapOf 29 = .ok (.iaload, 1) := by decide +kernel
theorem dX12_heapOf_30 : decode cX12_heapOf 30 = .ok (.ireturn, 1) := by decide +kernel
theorem dX12_ways_0 : decode cX12_ways 0 = .ok (.iload_n 1, 1) := by decide +kernel
theorem dX12_ways_1 : decode cX12_ways 1 = .ok (.iload_n 2, 1) := by decide +kernel
theorem dX12_ways_2 : decode cX12_ways 2 = .ok (.if_icmp .ne 64, 3) := by decide +kernel
theorem dX12_ways_5 : decode cX12_ways 5 = .ok (.aload_n 0, 1) := by decide +kernel
theorem dX12_ways_6 : decode cX12_ways 6 = .ok (.aload_n 0, 1) := by decide +kernel
theorem dX12_ways_7 : decode cX12_ways 7 = .ok (.getfield 259, 3) := by decide +kernel
theorem dX12_ways_10 : decode cX12_ways 10 = .ok (.ifCond .lt 14, 3) := by decide +kernel
theorem dX12_ways_13 : decode cX12_ways 13 = .ok (.aload_n 0, 1) := by decide +kernel
theorem dX12_ways_14 : decode cX12_ways 14 = .ok (.getfield 225, 3) := by decide +kernel
theorem dX12_ways_17 : decode cX12_ways 17 = .ok (.aload_n 0, 1) := by decide +kernel
theorem dX12_ways_18 : decode cX12_ways 18 = .ok (.getfield 259, 3) := by decide +kernel
theorem dX12_ways_21 : decode cX12_ways 21 = .ok (.if_icmp .ge 10, 3) := by decide +kernel
theorem dX12_ways_24 : decode cX12_ways 24 = .ok (.aload_n 0, 1) := by decide +kernel
theorem dX12_ways_25 : decode cX12_ways 25 = .ok (.getfield 225, 3) := by decide +kernel
theorem dX12_ways_28 : decode cX12_ways 28 = .ok (.goto 7, 3) := by decide +kernel
theorem dX12_ways_31 : decode cX12_ways 31 = .ok (.aload_n 0, 1) := by decide +kernel
theorem dX12_ways_32 : decode cX12_ways 32 = .ok (.getfield 259, 3) := by decide +kernel
theorem dX12_ways_35 : decode cX12_ways 35 = .ok (.putfield 259, 3) := by decide +kernel
theorem dX12_ways_38 : decode cX12_ways 38 = .ok (.aload_n 0, 1) := by decide +kernel
theorem dX12_ways_39 : decode cX12_ways 39 = .ok (.aload_n 0, 1) := by decide +kernel
theorem dX12_ways_40 : decode cX12_ways 40 = .ok (.getfield 262, 3) := by decide +kernel
theorem dX12_ways_43 : decode cX12_ways 43 = .ok (.ifCond .lt 11, 3) := by decide +kernel
theorem dX12_ways_46 : decode cX12_ways 46 = .ok (.iload_n 3, 1) := by decide +kernel
theorem dX12_ways_47 : decode cX12_ways 47 = .ok (.aload_n 0, 1) := by decide +kernel
theorem dX12_ways_48 : decode cX12_ways 48 = .ok (.getfield 262, 3) := by decide +kernel
theorem dX12_ways_51 : decode cX12_ways 51 = .ok (.if_icmp .ge 7, 3) := by decide +kernel
theorem dX12_ways_54 : decode cX12_ways 54 = .ok (.iload_n 3, 1) := by decide +kernel
theorem dX12_ways_55 : decode cX12_ways 55 = .ok (.goto 7, 3) := by decide +kernel
theorem dX12_ways_58 : decode cX12_ways 58 = .ok (.aload_n 0, 1) := by decide +kernel
theorem dX12_ways_59 : decode cX12_ways 59 = .ok (.getfield 262, 3) := by decide +kernel
theorem dX12_ways_62 : decode cX12_ways 62 = .ok (.putfield 262, 3) := by decide +kernel
theorem dX12_ways_65 : decode cX12_ways 65 = .ok (.return_, 1) := by decide +kernel
theorem dX12_ways_66 : decode cX12_ways 66 = .ok (.aload_n 0, 1) := by decide +kernel
theorem dX12_ways_67 : decode cX12_ways 67 = .ok (.getfield 176, 3) := by decide +kernel
theorem dX12_ways_70 : decode cX12_ways 70 = .ok (.iload_n 1, 1) := by decide +kernel
theorem dX12_ways_71 : decode cX12_ways 71 = .ok (.iaload, 1) := by decide +kernel
theorem dX12_ways_72 : decode cX12_ways 72 = .ok (.istore 4, 2) := by decide +kernel
theorem dX12_ways_74 : decode cX12_ways 74 = .ok (.aload_n 0, 1) := by decide +kernel
theorem dX12_ways_75 : decode cX12_ways 75 = .ok (.getfield 225, 3) := by decide +kernel
theorem dX12_ways_78 : decode cX12_ways 78 = .ok (.istore 5, 2) := by decide +kernel
theorem dX12_ways_80 : decode cX12_ways 80 = .ok (.iconst 0, 1) := by decide +kernel
theorem dX12_ways_81 : decode cX12_ways 81 = .ok (.istore 6, 2) := by decide +kernel
theorem dX12_ways_83 : decode cX12_ways 83 = .ok (.iload 6, 2) := by decide +kernel
theorem dX12_ways_85 : decode cX12_ways 85 = .ok (.iload 5, 2) := by decide +kernel
theorem dX12_ways_87 : decode cX12_ways 87 = .ok (.if_icmp .gt 71, 3) := by decide +kernel
theorem dX12_ways_90 : decode cX12_ways 90 = .ok (.iload 6, 2) := by decide +kernel
theorem dX12_ways_92 : decode cX12_ways 92 = .ok (.iload 5, 2) := by decide +kernel
theorem dX12_ways_94 : decode cX12_ways 94 = .ok (.if_icmp .eq 14, 3) := by decide +kernel
theorem dX12_ways_97 : decode cX12_ways 97 = .ok (.aload_n 0, 1) := by decide +kernel
theorem dX12_ways_98 : decode cX12_ways 98 = .ok (.iload 4, 2) := by decide +kernel
theorem dX12_ways_100 : decode cX12_ways 100 = .ok (.iload 6, 2) := by decide +kernel
theorem dX12_ways_102 : decode cX12_ways 102 = .ok (.invokevirtual 237, 3) := by decide +kernel
theorem dX12_ways_105 : decode cX12_ways 105 = .ok (.ifCond .eq 47, 3) := by decide +kernel
theorem dX12_ways_108 : decode cX12_ways 108 = .ok (.aload_n 0, 1) := by decide +kernel
theorem dX12_ways_109 : decode cX12_ways 109 = .ok (.iload 4, 2) := by decide +kernel
theorem dX12_ways_111 : decode cX12_ways 111 = .ok (.iload 6, 2) := by decide +kernel
theorem dX12_ways_113 : decode cX12_ways 113 = .ok (.invokevirtual 228, 3) := by decide +kernel
theorem dX12_ways_116 : decode cX12_ways 116 = .ok (.aload_n 0, 1) := by decide +kernel
theorem dX12_ways_117 : decode cX12_ways 117 = .ok (.iconst 1, 1) := by decide +kernel
theorem dX12_ways_118 : decode cX12_ways 118 = .ok (.invokevirtual 41, 3) := by decide +kernel
theorem dX12_ways_121 : decode cX12_ways 121 = .ok (.invokestatic 45, 3) := by decide +kernel
theorem dX12_ways_124 : decode cX12_ways 124 = .ok (.istore 7, 2) := by decide +kernel
theorem dX12_ways_126 : decode cX12_ways 126 = .ok (.aload_n 0, 1) := by decide +kernel
theorem dX12_ways_127 : decode cX12_ways 127 = .ok (.iload 4, 2) := by decide +kernel
theorem dX12_ways_129 : decode cX12_ways 129 = .ok (.iload 6, 2) := by decide +kernel
theorem dX12_ways_131 : decode cX12_ways 131 = .ok (.invokevirtual 253, 3) := by decide +kernel
theorem dX12_ways_134 : decode cX12_ways 134 = .ok (.aload_n 0, 1) := by decide +kernel
theorem dX12_ways_135 : decode cX12_ways 135 = .ok (.iload_n 1, 1) := by decide +kernel
theorem dX12_ways_136 : decode cX12_ways 136 = .ok (.iconst 1, 1) := by decide +kernel
theorem dX12_ways_137 : decode cX12_ways 137 = .ok (.iadd, 1) := by decide +kernel
theorem dX12_ways_138 : decode cX12_ways 138 = .ok (.iload_n 2, 1) := by decide +kernel
theorem dX12_ways_139 : decode cX12_ways 139 = .ok (.iload_n 3, 1) := by decide +kernel
theorem dX12_ways_140 : decode cX12_ways 140 = .ok (.iload 7, 2) := by decide +kernel
theorem dX12_ways_142 : decode cX12_ways 142 = .ok (.iadd, 1) := by decide +kernel
theorem dX12_ways_143 : decode cX12_ways 143 = .ok (.invokevirtual 265, 3) := by decide +kernel
theorem dX12_ways_146 : decode cX12_ways 146 = .ok (.aload_n 0, 1) := by decide +kernel
theorem dX12_ways_147 : decode cX12_ways 147 = .ok (.iload 6, 2) := by decide +kernel
theorem dX12_ways_149 : decode cX12_ways 149 = .ok (.invokevirtual 269, 3) := by decide +kernel
theorem dX12_ways_152 : decode cX12_ways 152 = .ok (.iinc 6 1, 3) := by decide +kernel
theorem dX12_ways_155 : decode cX12_ways 155 = .ok (.goto (-72), 3) := by decide +kernel
theorem dX12_ways_158 : decode cX12_ways 158 = .ok (.return_, 1) := by decide +kernel
theorem dX12_goThrough_0 : decode cX12_goThrough 0 = .ok (.aload_n 0, 1) := by decide +kernel
theorem dX12_goThrough_1 : decode cX12_goThrough 1 = .ok (.iconst 0, 1) := by decide +kernel
theorem dX12_goThrough_2 : decode cX12_goThrough 2 = .ok (.putfield 225, 3) := by decide +kernel
theorem dX12_goThrough_5 : decode cX12_goThrough 5 = .ok (.aload_n 0, 1) := by decide +kernel
theorem dX12_goThrough_6 : decode cX12_goThrough 6 = .ok (.iconst (-1), 1) := by decide +kernel
theorem dX12_goThrough_7 : decode cX12_goThrough 7 = .ok (.putfield 259, 3) := by decide +kernel
theorem dX12_goThrough_10 : decode cX12_goThrough 10 = .ok (.aload_n 0, 1) := by decide +kernel
theorem dX12_goThrough_11 : decode cX12_goThrough 11 = .ok (.iconst (-1), 1) := by decide +kernel
theorem dX12_goThrough_12 : decode cX12_goThrough 12 = .ok (.putfield 262, 3) := by decide +kernel
theorem dX12_goThrough_15 : decode cX12_goThrough 15 = .ok (.aload_n 0, 1) := by decide +kernel
theorem dX12_goThrough_16 : decode cX12_goThrough 16 = .ok (.iconst 0, 1) := by decide +kernel
theorem dX12_goThrough_17 : decode cX12_goThrough 17 = .ok (.iload_n 1, 1) := by decide +kernel
theorem dX12_goThrough_18 : decode cX12_goThrough 18 = .ok (.iconst 0, 1) := by decide +kernel
theorem dX12_goThrough_19 : decode cX12_goThrough 19 = .ok (.invokevirtual 265, 3) := by decide +kernel
theorem dX12_goThrough_22 : decode cX12_goThrough 22 = .ok (.return_, 1) := by decide +kernel
theorem dX12_fewest_0 : decode cX12_fewest 0 = .ok (.iload_n 1, 1) := by decide +kernel
theorem dX12_fewest_1 : decode cX12_fewest 1 = .ok (.iconst 0, 1) := by decide +kernel
theorem dX12_fewest_2 : decode cX12_fewest 2 = .ok (.iconst 1, 1) := by decide +kernel
theorem dX12_fewest_3 : decode cX12_fewest 3 = .ok (.invokestatic 7, 3) := by decide +kernel
theorem dX12_fewest_6 : decode cX12_fewest 6 = .ok (.ifCond .ne 6, 3) := by decide +kernel
theorem dX12_fewest_9 : decode cX12_fewest 9 = .ok (.bipush (-2), 2) := by decide +kernel
theorem dX12_fewest_11 : decode cX12_fewest 11 = .ok (.ireturn, 1) := by decide +kernel
theorem dX12_fewest_12 : decode cX12_fewest 12 = .ok (.aload_n 0, 1) := by decide +kernel
theorem dX12_fewest_13 : decode cX12_fewest 13 = .ok (.aload_n 0, 1) := by decide +kernel
theorem dX12_fewest_14 : decode cX12_fewest 14 = .ok (.getfield 1, 3) := by decide +kernel
theorem dX12_fewest_17 : decode cX12_fewest 17 = .ok (.invokevirtual 272, 3) := by decide +kernel
theorem dX12_fewest_20 : decode cX12_fewest 20 = .ok (.iload_n 1, 1) := by decide +kernel
theorem dX12_fewest_21 : decode cX12_fewest 21 = .ok (.ifCond .ne 10, 3) := by decide +kernel
theorem dX12_fewest_24 : decode cX12_fewest 24 = .ok (.aload_n 0, 1) := by decide +kernel
theorem dX12_fewest_25 : decode cX12_fewest 25 = .ok (.getfield 259, 3) := by decide +kernel
theorem dX12_fewest_28 : decode cX12_fewest 28 = .ok (.goto 7, 3) := by decide +kernel
theorem dX12_fewest_31 : decode cX12_fewest 31 = .ok (.aload_n 0, 1) := by decide +kernel
theorem dX12_fewest_32 : decode cX12_fewest 32 = .ok (.getfield 262, 3) := by decide +kernel
theorem dX12_fewest_35 : decode cX12_fewest 35 = .ok (.ireturn, 1) := by decide +kernel
theorem dX12_less_0 : decode cX12_less 0 = .ok (.iload_n 1, 1) := by decide +kernel
theorem dX12_less_1 : decode cX12_less 1 = .ok (.iconst 0, 1) := by decide +kernel
theorem dX12_less_2 : decode cX12_less 2 = .ok (.iconst 1, 1) := by decide +kernel
theorem dX12_less_3 : decode cX12_less 3 = .ok (.invokestatic 7, 3) := by decide +kernel
theorem dX12_less_6 : decode cX12_less 6 = .ok (.ifCond .ne 6, 3) := by decide +kernel
theorem dX12_less_9 : decode cX12_less 9 = .ok (.bipush (-2), 2) := by decide +kernel
theorem dX12_less_11 : decode cX12_less 11 = .ok (.ireturn, 1) := by decide +kernel
theorem dX12_less_12 : decode cX12_less 12 = .ok (.aload_n 0, 1) := by decide +kernel
theorem dX12_less_13 : decode cX12_less 13 = .ok (.aload_n 0, 1) := by decide +kernel
theorem dX12_less_14 : decode cX12_less 14 = .ok (.getfield 1, 3) := by decide +kernel
theorem dX12_less_17 : decode cX12_less 17 = .ok (.invokevirtual 272, 3) := by decide +kernel
theorem dX12_less_20 : decode cX12_less 20 = .ok (.aload_n 0, 1) := by decide +kernel
theorem dX12_less_21 : decode cX12_less 21 = .ok (.getfield 259, 3) := by decide +kernel
theorem dX12_less_24 : decode cX12_less 24 = .ok (.istore_n 2, 1) := by decide +kernel
theorem dX12_less_25 : decode cX12_less 25 = .ok (.iconst (-1), 1) := by decide +kernel
theorem dX12_less_26 : decode cX12_less 26 = .ok (.istore_n 3, 1) := by decide +kernel
theorem dX12_less_27 : decode cX12_less 27 = .ok (.iconst 0, 1) := by decide +kernel
theorem dX12_less_28 : decode cX12_less 28 = .ok (.istore 4, 2) := by decide +kernel
theorem dX12_less_30 : decode cX12_less 30 = .ok (.iload 4, 2) := by decide +kernel
theorem dX12_less_32 : decode cX12_less 32 = .ok (.aload_n 0, 1) := by decide +kernel
theorem dX12_less_33 : decode cX12_less 33 = .ok (.getfield 1, 3) := by decide +kernel
theorem dX12_less_36 : decode cX12_less 36 = .ok (.iload_n 1, 1) := by decide +kernel
theorem dX12_less_37 : decode cX12_less 37 = .ok (.isub, 1) := by decide +kernel
theorem dX12_less_38 : decode cX12_less 38 = .ok (.if_icmp .ge 115, 3) := by decide +kernel
theorem dX12_less_41 : decode cX12_less 41 = .ok (.iload_n 3, 1) := by decide +kernel
theorem dX12_less_42 : decode cX12_less 42 = .ok (.iconst (-1), 1) := by decide +kernel
theorem dX12_less_43 : decode cX12_less 43 = .ok (.if_icmp .ne 110, 3) := by decide +kernel
theorem dX12_less_46 : decode cX12_less 46 = .ok (.iload_n 1, 1) := by decide +kernel
theorem dX12_less_47 : decode cX12_less 47 = .ok (.ifCond .ne 38, 3) := by decide +kernel
theorem dX12_less_50 : decode cX12_less 50 = .ok (.iload 4, 2) := by decide +kernel
theorem dX12_less_52 : decode cX12_less 52 = .ok (.istore 5, 2) := by decide +kernel
theorem dX12_less_54 : decode cX12_less 54 = .ok (.iload 5, 2) := by decide +kernel
theorem dX12_less_56 : decode cX12_less 56 = .ok (.aload_n 0, 1) := by decide +kernel
theorem dX12_less_57 : decode cX12_less 57 = .ok (.getfield 1, 3) := by decide +kernel
theorem dX12_less_60 : decode cX12_less 60 = .ok (.iconst 1, 1) := by decide +kernel
theorem dX12_less_61 : decode cX12_less 61 = .ok (.isub, 1) := by decide +kernel
theorem dX12_less_62 : decode cX12_less 62 = .ok (.if_icmp .ge 20, 3) := by decide +kernel
theorem dX12_less_65 : decode cX12_less 65 = .ok (.aload_n 0, 1) := by decide +kernel
theorem dX12_less_66 : decode cX12_less 66 = .ok (.getfield 176, 3) := by decide +kernel
theorem dX12_less_69 : decode cX12_less 69 = .ok (.iload 5, 2) := by decide +kernel
theorem dX12_less_71 : decode cX12_less 71 = .ok (.iload 5, 2) := by decide +kernel
theorem dX12_less_73 : decode cX12_less 73 = .ok (.iconst 1, 1) := by decide +kernel
theorem dX12_less_74 : decode cX12_less 74 = .ok (.iadd, 1) := by decide +kernel
theorem dX12_less_75 : decode cX12_less 75 = .ok (.iastore, 1) := by decide +kernel
theorem dX12_less_76 : decode cX12_less 76 = .ok (.iinc 5 1, 3) := by decide +kernel
theorem dX12_less_79 : decode cX12_less 79 = .ok (.goto (-25), 3) := by decide +kernel
theorem dX12_less_82 : decode cX12_less 82 = .ok (.goto 25, 3) := by decide +kernel
theorem dX12_less_85 : decode cX12_less 85 = .ok (.aload_n 0, 1) := by decide +kernel
theorem dX12_less_86 : decode cX12_less 86 = .ok (.getfield 176, 3) := by decide +kernel
theorem dX12_less_89 : decode cX12_less 89 = .ok (.iload 4, 2) := by decide +kernel
theorem dX12_less_91 : decode cX12_less 91 = .ok (.iload 4, 2) := by decide +kernel
theorem dX12_less_93 : decode cX12_less 93 = .ok (.iconst 1, 1) := by decide +kernel
theorem dX12_less_94 : decode cX12_less 94 = .ok (.iadd, 1) := by decide +kernel
theorem dX12_less_95 : decode cX12_less 95 = .ok (.iastore, 1) := by decide +kernel
theorem dX12_less_96 : decode cX12_less 96 = .ok (.aload_n 0, 1) := by decide +kernel
theorem dX12_less_97 : decode cX12_less 97 = .ok (.getfield 176, 3) := by decide +kernel
theorem dX12_less_100 : decode cX12_less 100 = .ok (.iload 4, 2) := by decide +kernel
theorem dX12_less_102 : decode cX12_less 102 = .ok (.iconst 1, 1) := by decide +kernel
theorem dX12_less_103 : decode cX12_less 103 = .ok (.iadd, 1) := by decide +kernel
theorem dX12_less_104 : decode cX12_less 104 = .ok (.iload 4, 2) := by decide +kernel
theorem dX12_less_106 : decode cX12_less 106 = .ok (.iastore, 1) := by decide +kernel
theorem dX12_less_107 : decode cX12_less 107 = .ok (.aload_n 0, 1) := by decide +kernel
theorem dX12_less_108 : decode cX12_less 108 = .ok (.iload_n 1, 1) := by decide +kernel
theorem dX12_less_109 : decode cX12_less 109 = .ok (.ifCond .ne 12, 3) := by decide +kernel
theorem dX12_less_112 : decode cX12_less 112 = .ok (.aload_n 0, 1) := by decide +kernel
theorem dX12_less_113 : decode cX12_less 113 = .ok (.getfield 1, 3) := by decide +kernel
theorem dX12_less_116 : decode cX12_less 116 = .ok (.iconst 1, 1) := by decide +kernel
theorem dX12_less_117 : decode cX12_less 117 = .ok (.isub, 1) := by decide +kernel
theorem dX12_less_118 : decode cX12_less 118 = .ok (.goto 7, 3) := by decide +kernel
theorem dX12_less_121 : decode cX12_less 121 = .ok (.aload_n 0, 1) := by decide +kernel
theorem dX12_less_122 : decode cX12_less 122 = .ok (.getfield 1, 3) := by decide +kernel
theorem dX12_less_125 : decode cX12_less 125 = .ok (.invokevirtual 272, 3) := by decide +kernel
theorem dX12_less_128 : decode cX12_less 128 = .ok (.aload_n 0, 1) := by decide +kernel
theorem dX12_less_129 : decode cX12_less 129 = .ok (.getfield 259, 3) := by decide +kernel
theorem dX12_less_132 : decode cX12_less 132 = .ok (.iload_n 2, 1) := by decide +kernel
theorem dX12_less_133 : decode cX12_less 133 = .ok (.if_icmp .ge 8, 3) := by decide +kernel
theorem dX12_less_136 : decode cX12_less 136 = .ok (.iload 4, 2) := by decide +kernel
theorem dX12_less_138 : decode cX12_less 138 = .ok (.goto 4, 3) := by decide +kernel
theorem dX12_less_141 : decode cX12_less 141 = .ok (.iconst (-1), 1) := by decide +kernel
theorem dX12_less_142 : decode cX12_less 142 = .ok (.istore_n 3, 1) := by decide +kernel
theorem dX12_less_143 : decode cX12_less 143 = .ok (.aload_n 0, 1) := by decide +kernel
theorem dX12_less_144 : decode cX12_less 144 = .ok (.invokevirtual 275, 3) := by decide +kernel
theorem dX12_less_147 : decode cX12_less 147 = .ok (.iinc 4 1, 3) := by decide +kernel
theorem dX12_less_150 : decode cX12_less 150 = .ok (.goto (-120), 3) := by decide +kernel
theorem dX12_less_153 : decode cX12_less 153 = .ok (.iload_n 3, 1) := by decide +kernel
theorem dX12_less_154 : decode cX12_less 154 = .ok (.ireturn, 1) := by decide +kernel
theorem dX12_couldLie_0 : decode cX12_couldLie 0 = .ok (.aload_n 0, 1) := by decide +kernel
theorem dX12_couldLie_1 : decode cX12_couldLie 1 = .ok (.iload_n 1, 1) := by decide +kernel
theorem dX12_couldLie_2 : decode cX12_couldLie 2 = .ok (.aload_n 0, 1) := by decide +kernel
theorem dX12_couldLie_3 : decode cX12_couldLie 3 = .ok (.getfield 14, 3) := by decide +kernel
theorem dX12_couldLie_6 : decode cX12_couldLie 6 = .ok (.iload_n 2, 1) := by decide +kernel
theorem dX12_couldLie_7 : decode cX12_couldLie 7 = .ok (.iaload, 1) := by decide +kernel
theorem dX12_couldLie_8 : decode cX12_couldLie 8 = .ok (.aload_n 0, 1) := by decide +kernel
theorem dX12_couldLie_9 : decode cX12_couldLie 9 = .ok (.getfield 18, 3) := by decide +kernel
theorem dX12_couldLie_12 : decode cX12_couldLie 12 = .ok (.iload_n 2, 1) := by decide +kernel
theorem dX12_couldLie_13 : decode cX12_couldLie 13 = .ok (.iaload, 1) := by decide +kernel
theorem dX12_couldLie_14 : decode cX12_couldLie 14 = .ok (.iconst 1, 1) := by decide +kernel
theorem dX12_couldLie_15 : decode cX12_couldLie 15 = .ok (.iconst 0, 1) := by decide +kernel
theorem dX12_couldLie_16 : decode cX12_couldLie 16 = .ok (.invokevirtual 37, 3) := by decide +kernel
theorem dX12_couldLie_19 : decode cX12_couldLie 19 = .ok (.aload_n 0, 1) := by decide +kernel
theorem dX12_couldLie_20 : decode cX12_couldLie 20 = .ok (.iconst 0, 1) := by decide +kernel
theorem dX12_couldLie_21 : decode cX12_couldLie 21 = .ok (.invokevirtual 41, 3) := by decide +kernel
theorem dX12_couldLie_24 : decode cX12_couldLie 24 = .ok (.ifCond .eq 7, 3) := by decide +kernel
theorem dX12_couldLie_27 : decode cX12_couldLie 27 = .ok (.iconst 1, 1) := by decide +kernel
theorem dX12_couldLie_28 : decode cX12_couldLie 28 = .ok (.goto 4, 3) := by decide +kernel
theorem dX12_couldLie_31 : decode cX12_couldLie 31 = .ok (.iconst 0, 1) := by decide +kernel
theorem dX12_couldLie_32 : decode cX12_couldLie 32 = .ok (.ireturn, 1) := by decide +kernel
theorem dX12_isRow_0 : decode cX12_isRow 0 = .ok (.iconst (-1), 1) := by decide +kernel
theorem dX12_isRow_1 : decode cX12_isRow 1 = .ok (.istore_n 2, 1) := by decide +kernel
theorem dX12_isRow_2 : decode cX12_isRow 2 = .ok (.iconst 1, 1) := by decide +kernel
theorem dX12_isRow_3 : decode cX12_isRow 3 = .ok (.istore_n 3, 1) := by decide +kernel
theorem dX12_isRow_4 : decode cX12_isRow 4 = .ok (.iconst 0, 1) := by decide +kernel
theorem dX12_isRow_5 : decode cX12_isRow 5 = .ok (.istore 4, 2) := by decide +kernel
theorem dX12_isRow_7 : decode cX12_isRow 7 = .ok (.iload 4, 2) := by decide +kernel
theorem dX12_isRow_9 : decode cX12_isRow 9 = .ok (.aload_n 0, 1) := by decide +kernel
theorem dX12_isRow_10 : decode cX12_isRow 10 = .ok (.getfield 1, 3) := by decide +kernel
theorem dX12_isRow_13 : decode cX12_isRow 13 = .ok (.if_icmp .ge 47, 3) := by decide +kernel
theorem dX12_isRow_16 : decode cX12_isRow 16 = .ok (.iload_n 3, 1) := by decide +kernel
theorem dX12_isRow_17 : decode cX12_isRow 17 = .ok (.ifCond .eq 43, 3) := by decide +kernel
theorem dX12_isRow_20 : decode cX12_isRow 20 = .ok (.iload_n 1, 1) := by decide +kernel
theorem dX12_isRow_21 : decode cX12_isRow 21 = .ok (.iload 4, 2) := by decide +kernel
theorem dX12_isRow_23 : decode cX12_isRow 23 = .ok (.ishr, 1) := by decide +kernel
theorem dX12_isRow_24 : decode cX12_isRow 24 = .ok (.iconst 1, 1) := by decide +kernel
theorem dX12_isRow_25 : decode cX12_isRow 25 = .ok (.iand, 1) := by decide +kernel
theorem dX12_isRow_26 : decode cX12_isRow 26 = .ok (.iconst 1, 1) := by decide +kernel
theorem dX12_isRow_27 : decode cX12_isRow 27 = .ok (.if_icmp .ne 27, 3) := by decide +kernel
theorem dX12_isRow_30 : decode cX12_isRow 30 = .ok (.iload_n 2, 1) := by decide +kernel
theorem dX12_isRow_31 : decode cX12_isRow 31 = .ok (.iconst (-1), 1) := by decide +kernel
theorem dX12_isRow_32 : decode cX12_isRow 32 = .ok (.if_icmp .eq 13, 3) := by decide +kernel
theorem dX12_isRow_35 : decode cX12_isRow 35 = .ok (.aload_n 0, 1) := by decide +kernel
theorem dX12_isRow_36 : decode cX12_isRow 36 = .ok (.iload 4, 2) := by decide +kernel
theorem dX12_isRow_38 : decode cX12_isRow 38 = .ok (.iload_n 2, 1) := by decide +kernel
theorem dX12_isRow_39 : decode cX12_isRow 39 = .ok (.invokevirtual 278, 3) := by decide +kernel
theorem dX12_isRow_42 : decode cX12_isRow 42 = .ok (.ifCond .ne 7, 3) := by decide +kernel
theorem dX12_isRow_45 : decode cX12_isRow 45 = .ok (.iconst 1, 1) := by decide +kernel
theorem dX12_isRow_46 : decode cX12_isRow 46 = .ok (.goto 4, 3) := by decide +kernel
theorem dX12_isRow_49 : decode cX12_isRow 49 = .ok (.iconst 0, 1) := by decide +kernel
theorem dX12_isRow_50 : decode cX12_isRow 50 = .ok (.istore_n 3, 1) := by decide +kernel
theorem dX12_isRow_51 : decode cX12_isRow 51 = .ok (.iload 4, 2) := by decide +kernel
theorem dX12_isRow_53 : decode cX12_isRow 53 = .ok (.istore_n 2, 1) := by decide +kernel
theorem dX12_isRow_54 : decode cX12_isRow 54 = .ok (.iinc 4 1, 3) := by decide +kernel
theorem dX12_isRow_57 : decode cX12_isRow 57 = .ok (.goto (-50), 3) := by decide +kernel
theorem dX12_isRow_60 : decode cX12_isRow 60 = .ok (.iload_n 3, 1) := by decide +kernel
theorem dX12_isRow_61 : decode cX12_isRow 61 = .ok (.ireturn, 1) := by decide +kernel
theorem dX12_bits_0 : decode cX12_bits 0 = .ok (.iconst 0, 1) := by decide +kernel
theorem dX12_bits_1 : decode cX12_bits 1 = .ok (.istore_n 1, 1) := by decide +kernel
theorem dX12_bits_2 : decode cX12_bits 2 = .ok (.iconst 0, 1) := by decide +kernel
theorem dX12_bits_3 : decode cX12_bits 3 = .ok (.istore_n 2, 1) := by decide +kernel
theorem dX12_bits_4 : decode cX12_bits 4 = .ok (.iload_n 2, 1) := by decide +kernel
theorem dX12_bits_5 : decode cX12_bits 5 = .ok (.bipush 8, 2) := by decide +kernel
theorem dX12_bits_7 : decode cX12_bits 7 = .ok (.if_icmp .ge 17, 3) := by decide +kernel
theorem dX12_bits_10 : decode cX12_bits 10 = .ok (.iload_n 1, 1) := by decide +kernel
theorem dX12_bits_11 : decode cX12_bits 11 = .ok (.iload_n 0, 1) := by decide +kernel
theorem dX12_bits_12 : decode cX12_bits 12 = .ok (.iload_n 2, 1) := by decide +kernel
theorem dX12_bits_13 : decode cX12_bits 13 = .ok (.ishr, 1) := by decide +kernel
theorem dX12_bits_14 : decode cX12_bits 14 = .ok (.iconst 1, 1) := by decide +kernel
theorem dX12_bits_15 : decode cX12_bits 15 = .ok (.iand, 1) := by decide +kernel
theorem dX12_bits_16 : decode cX12_bits 16 = .ok (.iadd, 1) := by decide +kernel
theorem dX12_bits_17 : decode cX12_bits 17 = .ok (.istore_n 1, 1) := by decide +kernel
theorem dX12_bits_18 : decode cX12_bits 18 = .ok (.iinc 2 1, 3) := by decide +kernel
theorem dX12_bits_21 : decode cX12_bits 21 = .ok (.goto (-17), 3) := by decide +kernel
theorem dX12_bits_24 : decode cX12_bits 24 = .ok (.iload_n 1, 1) := by decide +kernel
theorem dX12_bits_25 : decode cX12_bits 25 = .ok (.ireturn, 1) := by decide +kernel
theorem dX12_longest_0 : decode cX12_longest 0 = .ok (.iload_n 1, 1) := by decide +kernel
theorem dX12_longest_1 : decode cX12_longest 1 = .ok (.iconst 0, 1) := by decide +kernel
theorem dX12_longest_2 : decode cX12_longest 2 = .ok (.iconst 3, 1) := by decide +kernel
theorem dX12_longest_3 : decode cX12_longest 3 = .ok (.invokestatic 7, 3) := by decide +kernel
theorem dX12_longest_6 : decode cX12_longest 6 = .ok (.ifCond .ne 6, 3) := by decide +kernel
theorem dX12_longest_9 : decode cX12_longest 9 = .ok (.bipush (-2), 2) := by decide +kernel
theorem dX12_longest_11 : decode cX12_longest 11 = .ok (.ireturn, 1) := by decide +kernel
theorem dX12_longest_12 : decode cX12_longest 12 = .ok (.iconst 0, 1) := by decide +kernel
theorem dX12_longest_13 : decode cX12_longest 13 = .ok (.istore_n 2, 1) := by decide +kernel
theorem dX12_longest_14 : decode cX12_longest 14 = .ok (.iconst 0, 1) := by decide +kernel
theorem dX12_longest_15 : decode cX12_longest 15 = .ok (.istore_n 3, 1) := by decide +kernel
theorem dX12_longest_16 : decode cX12_longest 16 = .ok (.iconst 0, 1) := by decide +kernel
theorem dX12_longest_17 : decode cX12_longest 17 = .ok (.istore 4, 2) := by decide +kernel
theorem dX12_longest_19 : decode cX12_longest 19 = .ok (.iconst 0, 1) := by decide +kernel
theorem dX12_longest_20 : decode cX12_longest 20 = .ok (.istore 5, 2) := by decide +kernel
theorem dX12_longest_22 : decode cX12_longest 22 = .ok (.iconst 1, 1) := by decide +kernel
theorem dX12_longest_23 : decode cX12_longest 23 = .ok (.istore 6, 2) := by decide +kernel
theorem dX12_longest_25 : decode cX12_longest 25 = .ok (.iload 6, 2) := by decide +kernel
theorem dX12_longest_27 : decode cX12_longest 27 = .ok (.iconst 1, 1) := by decide +kernel
theorem dX12_longest_28 : decode cX12_longest 28 = .ok (.aload_n 0, 1) := by decide +kernel
theorem dX12_longest_29 : decode cX12_longest 29 = .ok (.getfield 1, 3) := by decide +kernel
theorem dX12_longest_32 : decode cX12_longest 32 = .ok (.ishl, 1) := by decide +kernel
theorem dX12_longest_33 : decode cX12_longest 33 = .ok (.if_icmp .ge 81, 3) := by decide +kernel
theorem dX12_longest_36 : decode cX12_longest 36 = .ok (.iload 6, 2) := by decide +kernel
theorem dX12_longest_38 : decode cX12_longest 38 = .ok (.invokestatic 281, 3) := by decide +kernel
theorem dX12_longest_41 : decode cX12_longest 41 = .ok (.istore 7, 2) := by decide +kernel
theorem dX12_longest_43 : decode cX12_longest 43 = .ok (.iload 7, 2) := by decide +kernel
theorem dX12_longest_45 : decode cX12_longest 45 = .ok (.iload_n 2, 1) := by decide +kernel
theorem dX12_longest_46 : decode cX12_longest 46 = .ok (.if_icmp .lt 62, 3) := by decide +kernel
theorem dX12_longest_49 : decode cX12_longest 49 = .ok (.aload_n 0, 1) := by decide +kernel
theorem dX12_longest_50 : decode cX12_longest 50 = .ok (.iload 6, 2) := by decide +kernel
theorem dX12_longest_52 : decode cX12_longest 52 = .ok (.invokevirtual 284, 3) := by decide +kernel
theorem dX12_longest_55 : decode cX12_longest 55 = .ok (.ifCond .eq 53, 3) := by decide +kernel
theorem dX12_longest_58 : decode cX12_longest 58 = .ok (.iload 7, 2) := by decide +kernel
theorem dX12_longest_60 : decode cX12_longest 60 = .ok (.iload_n 2, 1) := by decide +kernel
theorem dX12_longest_61 : decode cX12_longest 61 = .ok (.if_icmp .le 8, 3) := by decide +kernel
theorem dX12_longest_64 : decode cX12_longest 64 = .ok (.iload 6, 2) := by decide +kernel
theorem dX12_longest_66 : decode cX12_longest 66 = .ok (.goto 8, 3) := by decide +kernel
theorem dX12_longest_69 : decode cX12_longest 69 = .ok (.iload 4, 2) := by decide +kernel
theorem dX12_longest_71 : decode cX12_longest 71 = .ok (.iload 6, 2) := by decide +kernel
theorem dX12_longest_73 : decode cX12_longest 73 = .ok (.iand, 1) := by decide +kernel
theorem dX12_longest_74 : decode cX12_longest 74 = .ok (.istore 4, 2) := by decide +kernel
theorem dX12_longest_76 : decode cX12_longest 76 = .ok (.iload 7, 2) := by decide +kernel
theorem dX12_longest_78 : decode cX12_longest 78 = .ok (.iload_n 2, 1) := by decide +kernel
theorem dX12_longest_79 : decode cX12_longest 79 = .ok (.if_icmp .le 8, 3) := by decide +kernel
theorem dX12_longest_82 : decode cX12_longest 82 = .ok (.iload 6, 2) := by decide +kernel
theorem dX12_longest_84 : decode cX12_longest 84 = .ok (.goto 5, 3) := by decide +kernel
theorem dX12_longest_87 : decode cX12_longest 87 = .ok (.iload 5, 2) := by decide +kernel
theorem dX12_longest_89 : decode cX12_longest 89 = .ok (.istore 5, 2) := by decide +kernel
theorem dX12_longest_91 : decode cX12_longest 91 = .ok (.iload 7, 2) := by decide +kernel
theorem dX12_longest_93 : decode cX12_longest 93 = .ok (.iload_n 2, 1) := by decide +kernel
theorem dX12_longest_94 : decode cX12_longest 94 = .ok (.if_icmp .le 7, 3) := by decide +kernel
theorem dX12_longest_97 : decode cX12_longest 97 = .ok (.iconst 1, 1) := by decide +kernel
theorem dX12_longest_98 : decode cX12_longest 98 = .ok (.goto 6, 3) := by decide +kernel
theorem dX12_longest_101 : decode cX12_longest 101 = .ok (.iload_n 3, 1) := by decide +kernel
theorem dX12_longest_102 : decode cX12_longest 102 = .ok (.iconst 1, 1) := by decide +kernel
theorem dX12_longest_103 : decode cX12_longest 103 = .ok (.iadd, 1) := by decide +kernel
theorem dX12_longest_104 : decode cX12_longest 104 = .ok (.istore_n 3, 1) := by decide +kernel
theorem dX12_longest_105 : decode cX12_longest 105 = .ok (.iload 7, 2) := by decide +kernel
theorem dX12_longest_107 : decode cX12_longest 107 = .ok (.istore_n 2, 1) := by decide +kernel
theorem dX12_longest_108 : decode cX12_longest 108 = .ok (.iinc 6 1, 3) := by decide +kernel
theorem dX12_longest_111 : decode cX12_longest 111 = .ok (.goto (-86), 3) := by decide +kernel
theorem dX12_longest_114 : decode cX12_longest 114 = .ok (.iload_n 1, 1) := by decide +kernel
theorem dX12_longest_115 : decode cX12_longest 115 = .ok (.ifCond .ne 7, 3) := by decide +kernel
theorem dX12_longest_118 : decode cX12_longest 118 = .ok (.iload_n 2, 1) := by decide +kernel
theorem dX12_longest_119 : decode cX12_longest 119 = .ok (.goto 24, 3) := by decide +kernel
theorem dX12_longest_122 : decode cX12_longest 122 = .ok (.iload_n 1, 1) := by decide +kernel
theorem dX12_longest_123 : decode cX12_longest 123 = .ok (.iconst 1, 1) := by decide +kernel
theorem dX12_longest_124 : decode cX12_longest 124 = .ok (.if_icmp .ne 7, 3) := by decide +kernel
theorem dX12_longest_127 : decode cX12_longest 127 = .ok (.iload_n 3, 1) := by decide +kernel
theorem dX12_longest_128 : decode cX12_longest 128 = .ok (.goto 15, 3) := by decide +kernel
theorem dX12_longest_131 : decode cX12_longest 131 = .ok (.iload_n 1, 1) := by decide +kernel
theorem dX12_longest_132 : decode cX12_longest 132 = .ok (.iconst 2, 1) := by decide +kernel
theorem dX12_longest_133 : decode cX12_longest 133 = .ok (.if_icmp .ne 8, 3) := by decide +kernel
theorem dX12_longest_136 : decode cX12_longest 136 = .ok (.iload 4, 2) := by decide +kernel
theorem dX12_longest_138 : decode cX12_longest 138 = .ok (.goto 5, 3) := by decide +kernel
theorem dX12_longest_141 : decode cX12_longest 141 = .ok (.iload 5, 2) := by decide +kernel
theorem dX12_longest_143 : decode cX12_longest 143 = .ok (.ireturn, 1) := by decide +kernel
theorem dJ9_max_7cf53_0 : decode cJ9_max_7cf53 0 = .ok (.iload_n 0, 1) := by decide +kernel
theorem dJ9_max_7cf53_1 : decode cJ9_max_7cf53 1 = .ok (.iload_n 1, 1) := by decide +kernel
theorem dJ9_max_7cf53_2 : decode cJ9_max_7cf53 2 = .ok (.if_icmp .lt 7, 3) := by decide +kernel
theorem dJ9_max_7cf53_5 : decode cJ9_max_7cf53 5 = .ok (.iload_n 0, 1) := by decide +kernel
theorem dJ9_max_7cf53_6 : decode cJ9_max_7cf53 6 = .ok (.goto 4, 3) := by decide +kernel
theorem dJ9_max_7cf53_9 : decode cJ9_max_7cf53 9 = .ok (.iload_n 1, 1) := by decide +kernel
theorem dJ9_max_7cf53_10 : decode cJ9_max_7cf53 10 = .ok (.ireturn, 1) := by decide +kernel
theorem dX12_mostFrom_0 : decode cX12_mostFrom 0 = .ok (.iload_n 1, 1) := by decide +kernel
theorem dX12_mostFrom_1 : decode cX12_mostFrom 1 = .ok (.aload_n 0, 1) := by decide +kernel
theorem dX12_mostFrom_2 : decode cX12_mostFrom 2 = .ok (.getfield 1, 3) := by decide +kernel
theorem dX12_mostFrom_5 : decode cX12_mostFrom 5 = .ok (.if_icmp .ne 5, 3) := by decide +kernel
theorem dX12_mostFrom_8 : decode cX12_mostFrom 8 = .ok (.iconst 0, 1) := by decide +kernel
theorem dX12_mostFrom_9 : decode cX12_mostFrom 9 = .ok (.ireturn, 1) := by decide +kernel
theorem dX12_mostFrom_10 : decode cX12_mostFrom 10 = .ok (.aload_n 0, 1) := by decide +kernel
theorem dX12_mostFrom_11 : decode cX12_mostFrom 11 = .ok (.iload_n 1, 1) := by decide +kernel
theorem dX12_mostFrom_12 : decode cX12_mostFrom 12 = .ok (.iconst 1, 1) := by decide +kernel
theorem dX12_mostFrom_13 : decode cX12_mostFrom 13 = .ok (.iadd, 1) := by decide +kernel
theorem dX12_mostFrom_14 : decode cX12_mostFrom 14 = .ok (.iload_n 2, 1) := by decide +kernel
theorem dX12_mostFrom_15 : decode cX12_mostFrom 15 = .ok (.invokevirtual 287, 3) := by decide +kernel
theorem dX12_mostFrom_18 : decode cX12_mostFrom 18 = .ok (.istore_n 3, 1) := by decide +kernel
theorem dX12_mostFrom_19 : decode cX12_mostFrom 19 = .ok (.iconst 0, 1) := by decide +kernel
theorem dX12_mostFrom_20 : decode cX12_mostFrom 20 = .ok (.istore 4, 2) := by decide +kernel
theorem dX12_mostFrom_22 : decode cX12_mostFrom 22 = .ok (.iload 4, 2) := by decide +kernel
theorem dX12_mostFrom_24 : decode cX12_mostFrom 24 = .ok (.iload_n 2, 1) := by decide +kernel
theorem dX12_mostFrom_25 : decode cX12_mostFrom 25 = .ok (.if_icmp .ge 66, 3) := by decide +kernel
theorem dX12_mostFrom_28 : decode cX12_mostFrom 28 = .ok (.aload_n 0, 1) := by decide +kernel
theorem dX12_mostFrom_29 : decode cX12_mostFrom 29 = .ok (.getfield 185, 3) := by decide +kernel
theorem dX12_mostFrom_32 : decode cX12_mostFrom 32 = .ok (.iload 4, 2) := by decide +kernel
theorem dX12_mostFrom_34 : decode cX12_mostFrom 34 = .ok (.iaload, 1) := by decide +kernel
theorem dX12_mostFrom_35 : decode cX12_mostFrom 35 = .ok (.istore 5, 2) := by decide +kernel
theorem dX12_mostFrom_37 : decode cX12_mostFrom 37 = .ok (.iload 5, 2) := by decide +kernel
theorem dX12_mostFrom_39 : decode cX12_mostFrom 39 = .ok (.iconst (-1), 1) := by decide +kernel
theorem dX12_mostFrom_40 : decode cX12_mostFrom 40 = .ok (.if_icmp .eq 13, 3) := by decide +kernel
theorem dX12_mostFrom_43 : decode cX12_mostFrom 43 = .ok (.aload_n 0, 1) := by decide +kernel
theorem dX12_mostFrom_44 : decode cX12_mostFrom 44 = .ok (.iload_n 1, 1) := by decide +kernel
theorem dX12_mostFrom_45 : decode cX12_mostFrom 45 = .ok (.iload 5, 2) := by decide +kernel
theorem dX12_mostFrom_47 : decode cX12_mostFrom 47 = .ok (.invokevirtual 278, 3) := by decide +kernel
theorem dX12_mostFrom_50 : decode cX12_mostFrom 50 = .ok (.ifCond .ne 35, 3) := by decide +kernel
theorem dX12_mostFrom_53 : decode cX12_mostFrom 53 = .ok (.aload_n 0, 1) := by decide +kernel
theorem dX12_mostFrom_54 : decode cX12_mostFrom 54 = .ok (.getfield 185, 3) := by decide +kernel
theorem dX12_mostFrom_57 : decode cX12_mostFrom 57 = .ok (.iload 4, 2) := by decide +kernel
theorem dX12_mostFrom_59 : decode cX12_mostFrom 59 = .ok (.iload_n 1, 1) := by decide +kernel
theorem dX12_mostFrom_60 : decode cX12_mostFrom 60 = .ok (.iastore, 1) := by decide +kernel
theorem dX12_mostFrom_61 : decode cX12_mostFrom 61 = .ok (.iload_n 3, 1) := by decide +kernel
theorem dX12_mostFrom_62 : decode cX12_mostFrom 62 = .ok (.iconst 1, 1) := by decide +kernel
theorem dX12_mostFrom_63 : decode cX12_mostFrom 63 = .ok (.aload_n 0, 1) := by decide +kernel
theorem dX12_mostFrom_64 : decode cX12_mostFrom 64 = .ok (.iload_n 1, 1) := by decide +kernel
theorem dX12_mostFrom_65 : decode cX12_mostFrom 65 = .ok (.iconst 1, 1) := by decide +kernel
theorem dX12_mostFrom_66 : decode cX12_mostFrom 66 = .ok (.iadd, 1) := by decide +kernel
theorem dX12_mostFrom_67 : decode cX12_mostFrom 67 = .ok (.iload_n 2, 1) := by decide +kernel
theorem dX12_mostFrom_68 : decode cX12_mostFrom 68 = .ok (.invokevirtual 287, 3) := by decide +kernel
theorem dX12_mostFrom_71 : decode cX12_mostFrom 71 = .ok (.iadd, 1) := by decide +kernel
theorem dX12_mostFrom_72 : decode cX12_mostFrom 72 = .ok (.invokestatic 290, 3) := by decide +kernel
theorem dX12_mostFrom_75 : decode cX12_mostFrom 75 = .ok (.istore_n 3, 1) := by decide +kernel
theorem dX12_mostFrom_76 : decode cX12_mostFrom 76 = .ok (.aload_n 0, 1) := by decide +kernel
theorem dX12_mostFrom_77 : decode cX12_mostFrom 77 = .ok (.getfield 185, 3) := by decide +kernel
theorem dX12_mostFrom_80 : decode cX12_mostFrom 80 = .ok (.iload 4, 2) := by decide +kernel
theorem dX12_mostFrom_82 : decode cX12_mostFrom 82 = .ok (.iload 5, 2) := by decide +kernel
theorem dX12_mostFrom_84 : decode cX12_mostFrom 84 = .ok (.iastore, 1) := by decide +kernel
theorem dX12_mostFrom_85 : decode cX12_mostFrom 85 = .ok (.iinc 4 1, 3) := by decide +kernel
theorem dX12_mostFrom_88 : decode cX12_mostFrom 88 = .ok (.goto (-66), 3) := by decide +kernel
theorem dX12_mostFrom_91 : decode cX12_mostFrom 91 = .ok (.iload_n 3, 1) := by decide +kernel
theorem dX12_mostFrom_92 : decode cX12_mostFrom 92 = .ok (.ireturn, 1) := by decide +kernel
theorem dX12_several_0 : decode cX12_several 0 = .ok (.iload_n 1, 1) := by decide +kernel
theorem dX12_several_1 : decode cX12_several 1 = .ok (.iconst 1, 1) := by decide +kernel
theorem dX12_several_2 : decode cX12_several 2 = .ok (.iconst 3, 1) := by decide +kernel
theorem dX12_several_3 : decode cX12_several 3 = .ok (.invokestatic 7, 3) := by decide +kernel
theorem dX12_several_6 : decode cX12_several 6 = .ok (.ifCond .ne 6, 3) := by decide +kernel
theorem dX12_several_9 : decode cX12_several 9 = .ok (.bipush (-2), 2) := by decide +kernel
theorem dX12_several_11 : decode cX12_several 11 = .ok (.ireturn, 1) := by decide +kernel
theorem dX12_several_12 : decode cX12_several 12 = .ok (.iconst 0, 1) := by decide +kernel
theorem dX12_several_13 : decode cX12_several 13 = .ok (.istore_n 2, 1) := by decide +kernel
theorem dX12_several_14 : decode cX12_several 14 = .ok (.iload_n 2, 1) := by decide +kernel
theorem dX12_several_15 : decode cX12_several 15 = .ok (.iconst 3, 1) := by decide +kernel
theorem dX12_several_16 : decode cX12_several 16 = .ok (.if_icmp .ge 16, 3) := by decide +kernel
theorem dX12_several_19 : decode cX12_several 19 = .ok (.aload_n 0, 1) := by decide +kernel
theorem dX12_several_20 : decode cX12_several 20 = .ok (.getfield 185, 3) := by decide +kernel
theorem dX12_several_23 : decode cX12_several 23 = .ok (.iload_n 2, 1) := by decide +kernel
theorem dX12_several_24 : decode cX12_several 24 = .ok (.iconst (-1), 1) := by decide +kernel
theorem dX12_several_25 : decode cX12_several 25 = .ok (.iastore, 1) := by decide +kernel
theorem dX12_several_26 : decode cX12_several 26 = .ok (.iinc 2 1, 3) := by decide +kernel
theorem dX12_several_29 : decode cX12_several 29 = .ok (.goto (-15), 3) := by decide +kernel
theorem dX12_several_32 : decode cX12_several 32 = .ok (.aload_n 0, 1) := by decide +kernel
theorem dX12_several_33 : decode cX12_several 33 = .ok (.iconst 0, 1) := by decide +kernel
theorem dX12_several_34 : decode cX12_several 34 = .ok (.iload_n 1, 1) := by decide +kernel
theorem dX12_several_35 : decode cX12_several 35 = .ok (.invokevirtual 287, 3) := by decide +kernel
theorem dX12_several_38 : decode cX12_several 38 = .ok (.ireturn, 1) := by decide +kernel
theorem dX12_rises_0 : decode cX12_rises 0 = .ok (.iload_n 1, 1) := by decide +kernel
theorem dX12_rises_1 : decode cX12_rises 1 = .ok (.iconst 0, 1) := by decide +kernel
theorem dX12_rises_2 : decode cX12_rises 2 = .ok (.iconst 1, 1) := by decide +kernel
theorem dX12_rises_3 : decode cX12_rises 3 = .ok (.invokestatic 7, 3) := by decide +kernel
theorem dX12_rises_6 : decode cX12_rises 6 = .ok (.ifCond .ne 6, 3) := by decide +kernel
theorem dX12_rises_9 : decode cX12_rises 9 = .ok (.bipush (-2), 2) := by decide +kernel
theorem dX12_rises_11 : decode cX12_rises 11 = .ok (.ireturn, 1) := by decide +kernel
theorem dX12_rises_12 : decode cX12_rises 12 = .ok (.iconst 0, 1) := by decide +kernel
theorem dX12_rises_13 : decode cX12_rises 13 = .ok (.istore_n 2, 1) := by decide +kernel
theorem dX12_rises_14 : decode cX12_rises 14 = .ok (.iconst 0, 1) := by decide +kernel
theorem dX12_rises_15 : decode cX12_rises 15 = .ok (.istore_n 3, 1) := by decide +kernel
theorem dX12_rises_16 : decode cX12_rises 16 = .ok (.iload_n 3, 1) := by decide +kernel
theorem dX12_rises_17 : decode cX12_rises 17 = .ok (.iconst 1, 1) := by decide +kernel
theorem dX12_rises_18 : decode cX12_rises 18 = .ok (.aload_n 0, 1) := by decide +kernel
theorem dX12_rises_19 : decode cX12_rises 19 = .ok (.getfield 1, 3) := by decide +kernel
theorem dX12_rises_22 : decode cX12_rises 22 = .ok (.ishl, 1) := by decide +kernel
theorem dX12_rises_23 : decode cX12_rises 23 = .ok (.if_icmp .ge 124, 3) := by decide +kernel
theorem dX12_rises_26 : decode cX12_rises 26 = .ok (.iconst (-1), 1) := by decide +kernel
theorem dX12_rises_27 : decode cX12_rises 27 = .ok (.istore 4, 2) := by decide +kernel
theorem dX12_rises_29 : decode cX12_rises 29 = .ok (.iconst 1, 1) := by decide +kernel
theorem dX12_rises_30 : decode cX12_rises 30 = .ok (.istore 5, 2) := by decide +kernel
theorem dX12_rises_32 : decode cX12_rises 32 = .ok (.iconst 0, 1) := by decide +kernel
theorem dX12_rises_33 : decode cX12_rises 33 = .ok (.istore 6, 2) := by decide +kernel
theorem dX12_rises_35 : decode cX12_rises 35 = .ok (.iload 6, 2) := by decide +kernel
theorem dX12_rises_37 : decode cX12_rises 37 = .ok (.aload_n 0, 1) := by decide +kernel
theorem dX12_rises_38 : decode cX12_rises 38 = .ok (.getfield 1, 3) := by decide +kernel
theorem dX12_rises_41 : decode cX12_rises 41 = .ok (.if_icmp .ge 82, 3) := by decide +kernel
theorem dX12_rises_44 : decode cX12_rises 44 = .ok (.iload_n 3, 1) := by decide +kernel
theorem dX12_rises_45 : decode cX12_rises 45 = .ok (.iload 6, 2) := by decide +kernel
theorem dX12_rises_47 : decode cX12_rises 47 = .ok (.ishr, 1) := by decide +kernel
theorem dX12_rises_48 : decode cX12_rises 48 = .ok (.iconst 1, 1) := by decide +kernel
theorem dX12_rises_49 : decode cX12_rises 49 = .ok (.iand, 1) := by decide +kernel
theorem dX12_rises_50 : decode cX12_rises 50 = .ok (.iconst 1, 1) := by decide +kernel
theorem dX12_rises_51 : decode cX12_rises 51 = .ok (.if_icmp .ne 66, 3) := by decide +kernel
theorem dX12_rises_54 : decode cX12_rises 54 = .ok (.iload 5, 2) := by decide +kernel
theorem dX12_rises_56 : decode cX12_rises 56 = .ok (.ifCond .eq 54, 3) := by decide +kernel
theorem dX12_rises_59 : decode cX12_rises 59 = .ok (.iload 4, 2) := by decide +kernel
theorem dX12_rises_61 : decode cX12_rises 61 = .ok (.iconst (-1), 1) := by decide +kernel
theorem dX12_rises_62 : decode cX12_rises 62 = .ok (.if_icmp .eq 44, 3) := by decide +kernel
theorem dX12_rises_65 : decode cX12_rises 65 = .ok (.iload_n 1, 1) := by decide +kernel
theorem dX12_rises_66 : decode cX12_rises 66 = .ok (.ifCond .ne 23, 3) := by decide +kernel
theorem dX12_rises_69 : decode cX12_rises 69 = .ok (.aload_n 0, 1) := by decide +kernel
theorem dX12_rises_70 : decode cX12_rises 70 = .ok (.getfield 14, 3) := by decide +kernel
theorem dX12_rises_73 : decode cX12_rises 73 = .ok (.iload 6, 2) := by decide +kernel
theorem dX12_rises_75 : decode cX12_rises 75 = .ok (.iaload, 1) := by decide +kernel
theorem dX12_rises_76 : decode cX12_rises 76 = .ok (.aload_n 0, 1) := by decide +kernel
theorem dX12_rises_77 : decode cX12_rises 77 = .ok (.getfield 14, 3) := by decide +kernel
theorem dX12_rises_80 : decode cX12_rises 80 = .ok (.iload 4, 2) := by decide +kernel
theorem dX12_rises_82 : decode cX12_rises 82 = .ok (.iaload, 1) := by decide +kernel
theorem dX12_rises_83 : decode cX12_rises 83 = .ok (.if_icmp .le 27, 3) := by decide +kernel
theorem dX12_rises_86 : decode cX12_rises 86 = .ok (.goto 20, 3) := by decide +kernel
theorem dX12_rises_89 : decode cX12_rises 89 = .ok (.aload_n 0, 1) := by decide +kernel
theorem dX12_rises_90 : decode cX12_rises 90 = .ok (.getfield 14, 3) := by decide +kernel
theorem dX12_rises_93 : decode cX12_rises 93 = .ok (.iload 6, 2) := by decide +kernel
theorem dX12_rises_95 : decode cX12_rises 95 = .ok (.iaload, 1) := by decide +kernel
theorem dX12_rises_96 : decode cX12_rises 96 = .ok (.aload_n 0, 1) := by decide +kernel
theorem dX12_rises_97 : decode cX12_rises 97 = .ok (.getfield 14, 3) := by decide +kernel
theorem dX12_rises_100 : decode cX12_rises 100 = .ok (.iload 4, 2) := by decide +kernel
theorem dX12_rises_102 : decode cX12_rises 102 = .ok (.iaload, 1) := by decide +kernel
theorem dX12_rises_103 : decode cX12_rises 103 = .ok (.if_icmp .ge 7, 3) := by decide +kernel
theorem dX12_rises_106 : decode cX12_rises 106 = .ok (.iconst 1, 1) := by decide +kernel
theorem dX12_rises_107 : decode cX12_rises 107 = .ok (.goto 4, 3) := by decide +kernel
theorem dX12_rises_110 : decode cX12_rises 110 = .ok (.iconst 0, 1) := by decide +kernel
theorem dX12_rises_111 : decode cX12_rises 111 = .ok (.istore 5, 2) := by decide +kernel
theorem dX12_rises_113 : decode cX12_rises 113 = .ok (.iload 6, 2) := by decide +kernel
theorem dX12_rises_115 : decode cX12_rises 115 = .ok (.istore 4, 2) := by decide +kernel
theorem dX12_rises_117 : decode cX12_rises 117 = .ok (.iinc 6 1, 3) := by decide +kernel
theorem dX12_rises_120 : decode cX12_rises 120 = .ok (.goto (-85), 3) := by decide +kernel
theorem dX12_rises_123 : decode cX12_rises 123 = .ok (.iload 5, 2) := by decide +kernel
theorem dX12_rises_125 : decode cX12_rises 125 = .ok (.ifCond .eq 14, 3) := by decide +kernel
theorem dX12_rises_128 : decode cX12_rises 128 = .ok (.iload_n 2, 1) := by decide +kernel
theorem dX12_rises_129 : decode cX12_rises 129 = .ok (.iload_n 3, 1) := by decide +kernel
theorem dX12_rises_130 : decode cX12_rises 130 = .ok (.invokestatic 281, 3) := by decide +kernel
theorem dX12_rises_133 : decode cX12_rises 133 = .ok (.invokestatic 290, 3) := by decide +kernel
theorem dX12_rises_136 : decode cX12_rises 136 = .ok (.goto 4, 3) := by decide +kernel
theorem dX12_rises_139 : decode cX12_rises 139 = .ok (.iload_n 2, 1) := by decide +kernel
theorem dX12_rises_140 : decode cX12_rises 140 = .ok (.istore_n 2, 1) := by decide +kernel
theorem dX12_rises_141 : decode cX12_rises 141 = .ok (.iinc 3 1, 3) := by decide +kernel
theorem dX12_rises_144 : decode cX12_rises 144 = .ok (.goto (-128), 3) := by decide +kernel
theorem dX12_rises_147 : decode cX12_rises 147 = .ok (.iload_n 2, 1) := by decide +kernel
theorem dX12_rises_148 : decode cX12_rises 148 = .ok (.ireturn, 1) := by decide +kernel
theorem dX12_orders_0 : decode cX12_orders 0 = .ok (.iload_n 2, 1) := by decide +kernel
theorem dX12_orders_1 : decode cX12_orders 1 = .ok (.aload_n 0, 1) := by decide +kernel
theorem dX12_orders_2 : decode cX12_orders 2 = .ok (.getfield 1, 3) := by decide +kernel
theorem dX12_orders_5 : decode cX12_orders 5 = .ok (.if_icmp .ne 172, 3) := by decide +kernel
theorem dX12_orders_8 : decode cX12_orders 8 = .ok (.aload_n 0, 1) := by decide +kernel
theorem dX12_orders_9 : decode cX12_orders 9 = .ok (.iload_n 1, 1) := by decide +kernel
theorem dX12_orders_10 : decode cX12_orders 10 = .ok (.invokevirtual 256, 3) := by decide +kernel
theorem dX12_orders_13 : decode cX12_orders 13 = .ok (.aload_n 0, 1) := by decide +kernel
theorem dX12_orders_14 : decode cX12_orders 14 = .ok (.getfield 188, 3) := by decide +kernel
theorem dX12_orders_17 : decode cX12_orders 17 = .ok (.aload_n 0, 1) := by decide +kernel
theorem dX12_orders_18 : decode cX12_orders 18 = .ok (.getfield 225, 3) := by decide +kernel
theorem dX12_orders_21 : decode cX12_orders 21 = .ok (.dup2, 1) := by decide +kernel
theorem dX12_orders_22 : decode cX12_orders 22 = .ok (.iaload, 1) := by decide +kernel
theorem dX12_orders_23 : decode cX12_orders 23 = .ok (.iconst 1, 1) := by decide +kernel
theorem dX12_orders_24 : decode cX12_orders 24 = .ok (.iadd, 1) := by decide +kernel
theorem dX12_orders_25 : decode cX12_orders 25 = .ok (.iastore, 1) := by decide +kernel
theorem dX12_orders_26 : decode cX12_orders 26 = .ok (.aload_n 0, 1) := by decide +kernel
theorem dX12_orders_27 : decode cX12_orders 27 = .ok (.dup, 1) := by decide +kernel
theorem dX12_orders_28 : decode cX12_orders 28 = .ok (.getfield 293, 3) := by decide +kernel
theorem dX12_orders_31 : decode cX12_orders 31 = .ok (.aload_n 0, 1) := by decide +kernel
theorem dX12_orders_32 : decode cX12_orders 32 = .ok (.getfield 225, 3) := by decide +kernel
theorem dX12_orders_35 : decode cX12_orders 35 = .ok (.iadd, 1) := by decide +kernel
theorem dX12_orders_36 : decode cX12_orders 36 = .ok (.putfield 293, 3) := by decide +kernel
theorem dX12_orders_39 : decode cX12_orders 39 = .ok (.aload_n 0, 1) := by decide +kernel
theorem dX12_orders_40 : decode cX12_orders 40 = .ok (.dup, 1) := by decide +kernel
theorem dX12_orders_41 : decode cX12_orders 41 = .ok (.getfield 296, 3) := by decide +kernel
theorem dX12_orders_44 : decode cX12_orders 44 = .ok (.iconst 1, 1) := by decide +kernel
theorem dX12_orders_45 : decode cX12_orders 45 = .ok (.iadd, 1) := by decide +kernel
theorem dX12_orders_46 : decode cX12_orders 46 = .ok (.putfield 296, 3) := by decide +kernel
theorem dX12_orders_49 : decode cX12_orders 49 = .ok (.iconst 1, 1) := by decide +kernel
theorem dX12_orders_50 : decode cX12_orders 50 = .ok (.istore 4, 2) := by decide +kernel
theorem dX12_orders_52 : decode cX12_orders 52 = .ok (.iconst 0, 1) := by decide +kernel
theorem dX12_orders_53 : decode cX12_orders 53 = .ok (.istore 5, 2) := by decide +kernel
theorem dX12_orders_55 : decode cX12_orders 55 = .ok (.iload 5, 2) := by decide +kernel
theorem dX12_orders_57 : decode cX12_orders 57 = .ok (.aload_n 0, 1) := by decide +kernel
theorem dX12_orders_58 : decode cX12_orders 58 = .ok (.getfield 1, 3) := by decide +kernel
theorem dX12_orders_61 : decode cX12_orders 61 = .ok (.if_icmp .ge 38, 3) := by decide +kernel
theorem dX12_orders_64 : decode cX12_orders 64 = .ok (.iload 4, 2) := by decide +kernel
theorem dX12_orders_66 : decode cX12_orders 66 = .ok (.ifCond .eq 24, 3) := by decide +kernel
theorem dX12_orders_69 : decode cX12_orders 69 = .ok (.aload_n 0, 1) := by decide +kernel
theorem dX12_orders_70 : decode cX12_orders 70 = .ok (.getfield 182, 3) := by decide +kernel
theorem dX12_orders_73 : decode cX12_orders 73 = .ok (.iload 5, 2) := by decide +kernel
theorem dX12_orders_75 : decode cX12_orders 75 = .ok (.iaload, 1) := by decide +kernel
theorem dX12_orders_76 : decode cX12_orders 76 = .ok (.aload_n 0, 1) := by decide +kernel
theorem dX12_orders_77 : decode cX12_orders 77 = .ok (.getfield 194, 3) := by decide +kernel
theorem dX12_orders_80 : decode cX12_orders 80 = .ok (.iload 5, 2) := by decide +kernel
theorem dX12_orders_82 : decode cX12_orders 82 = .ok (.iaload, 1) := by decide +kernel
theorem dX12_orders_83 : decode cX12_orders 83 = .ok (.if_icmp .ne 7, 3) := by decide +kernel
theorem dX12_orders_86 : decode cX12_orders 86 = .ok (.iconst 1, 1) := by decide +kernel
theorem dX12_orders_87 : decode cX12_orders 87 = .ok (.goto 4, 3) := by decide +kernel
theorem dX12_orders_90 : decode cX12_orders 90 = .ok (.iconst 0, 1) := by decide +kernel
theorem dX12_orders_91 : decode cX12_orders 91 = .ok (.istore 4, 2) := by decide +kernel
theorem dX12_orders_93 : decode cX12_orders 93 = .ok (.iinc 5 1, 3) := by decide +kernel
theorem dX12_orders_96 : decode cX12_orders 96 = .ok (.goto (-41), 3) := by decide +kernel
theorem dX12_orders_99 : decode cX12_orders 99 = .ok (.aload_n 0, 1) := by decide +kernel
theorem dX12_orders_100 : decode cX12_orders 100 = .ok (.dup, 1) := by decide +kernel
theorem dX12_orders_101 : decode cX12_orders 101 = .ok (.getfield 299, 3) := by decide +kernel
theorem dX12_orders_104 : decode cX12_orders 104 = .ok (.iload 4, 2) := by decide +kernel
theorem dX12_orders_106 : decode cX12_orders 106 = .ok (.ifCond .eq 7, 3) := by decide +kernel
theorem dX12_orders_109 : decode cX12_orders 109 = .ok (.iconst 1, 1) := by decide +kernel
theorem dX12_orders_110 : decode cX12_orders 110 = .ok (.goto 4, 3) := by decide +kernel
theorem dX12_orders_113 : decode cX12_orders 113 = .ok (.iconst 0, 1) := by decide +kernel
theorem dX12_orders_114 : decode cX12_orders 114 = .ok (.iadd, 1) := by decide +kernel
theorem dX12_orders_115 : decode cX12_orders 115 = .ok (.putfield 299, 3) := by decide +kernel
theorem dX12_orders_118 : decode cX12_orders 118 = .ok (.aload_n 0, 1) := by decide +kernel
theorem dX12_orders_119 : decode cX12_orders 119 = .ok (.getfield 302, 3) := by decide +kernel
theorem dX12_orders_122 : decode cX12_orders 122 = .ok (.ifCond .lt 14, 3) := by decide +kernel
theorem dX12_orders_125 : decode cX12_orders 125 = .ok (.aload_n 0, 1) := by decide +kernel
theorem dX12_orders_126 : decode cX12_orders 126 = .ok (.getfield 225, 3) := by decide +kernel
theorem dX12_orders_129 : decode cX12_orders 129 = .ok (.aload_n 0, 1) := by decide +kernel
theorem dX12_orders_130 : decode cX12_orders 130 = .ok (.getfield 302, 3) := by decide +kernel
theorem dX12_orders_133 : decode cX12_orders 133 = .ok (.if_icmp .ge 43, 3) := by decide +kernel
theorem dX12_orders_136 : decode cX12_orders 136 = .ok (.aload_n 0, 1) := by decide +kernel
theorem dX12_orders_137 : decode cX12_orders 137 = .ok (.aload_n 0, 1) := by decide +kernel
theorem dX12_orders_138 : decode cX12_orders 138 = .ok (.getfield 225, 3) := by decide +kernel
theorem dX12_orders_141 : decode cX12_orders 141 = .ok (.putfield 302, 3) := by decide +kernel
theorem dX12_orders_144 : decode cX12_orders 144 = .ok (.iconst 0, 1) := by decide +kernel
theorem dX12_orders_145 : decode cX12_orders 145 = .ok (.istore 5, 2) := by decide +kernel
theorem dX12_orders_147 : decode cX12_orders 147 = .ok (.iload 5, 2) := by decide +kernel
theorem dX12_orders_149 : decode cX12_orders 149 = .ok (.aload_n 0, 1) := by decide +kernel
theorem dX12_orders_150 : decode cX12_orders 150 = .ok (.getfield 1, 3) := by decide +kernel
theorem dX12_orders_153 : decode cX12_orders 153 = .ok (.if_icmp .ge 23, 3) := by decide +kernel
theorem dX12_orders_156 : decode cX12_orders 156 = .ok (.aload_n 0, 1) := by decide +kernel
theorem dX12_orders_157 : decode cX12_orders 157 = .ok (.getfield 191, 3) := by decide +kernel
theorem dX12_orders_160 : decode cX12_orders 160 = .ok (.iload 5, 2) := by decide +kernel
theorem dX12_orders_162 : decode cX12_orders 162 = .ok (.aload_n 0, 1) := by decide +kernel
theorem dX12_orders_163 : decode cX12_orders 163 = .ok (.getfield 176, 3) := by decide +kernel
theorem dX12_orders_166 : decode cX12_orders 166 = .ok (.iload 5, 2) := by decide +kernel
theorem dX12_orders_168 : decode cX12_orders 168 = .ok (.iaload, 1) := by decide +kernel
theorem dX12_orders_169 : decode cX12_orders 169 = .ok (.iastore, 1) := by decide +kernel
theorem dX12_orders_170 : decode cX12_orders 170 = .ok (.iinc 5 1, 3) := by decide +kernel
theorem dX12_orders_173 : decode cX12_orders 173 = .ok (.goto (-26), 3) := by decide +kernel
theorem dX12_orders_176 : decode cX12_orders 176 = .ok (.return_, 1) := by decide +kernel
theorem dX12_orders_177 : decode cX12_orders 177 = .ok (.iconst 0, 1) := by decide +kernel
theorem dX12_orders_178 : decode cX12_orders 178 = .ok (.istore 4, 2) := by decide +kernel
theorem dX12_orders_180 : decode cX12_orders 180 = .ok (.iload 4, 2) := by decide +kernel
theorem dX12_orders_182 : decode cX12_orders 182 = .ok (.aload_n 0, 1) := by decide +kernel
theorem dX12_orders_183 : decode cX12_orders 183 = .ok (.getfield 1, 3) := by decide +kernel
theorem dX12_orders_186 : decode cX12_orders 186 = .ok (.if_icmp .ge 40, 3) := by decide +kernel
theorem dX12_orders_189 : decode cX12_orders 189 = .ok (.iload_n 3, 1) := by decide +kernel
theorem dX12_orders_190 : decode cX12_orders 190 = .ok (.iload 4, 2) := by decide +kernel
theorem dX12_orders_192 : decode cX12_orders 192 = .ok (.ishr, 1) := by decide +kernel
theorem dX12_orders_193 : decode cX12_orders 193 = .ok (.iconst 1, 1) := by decide +kernel
theorem dX12_orders_194 : decode cX12_orders 194 = .ok (.iand, 1) := by decide +kernel
theorem dX12_orders_195 : decode cX12_orders 195 = .ok (.ifCond .ne 25, 3) := by decide +kernel
theorem dX12_orders_198 : decode cX12_orders 198 = .ok (.aload_n 0, 1) := by decide +kernel
theorem dX12_orders_199 : decode cX12_orders 199 = .ok (.getfield 176, 3) := by decide +kernel
theorem dX12_orders_202 : decode cX12_orders 202 = .ok (.iload_n 2, 1) := by decide +kernel
theorem dX12_orders_203 : decode cX12_orders 203 = .ok (.iload 4, 2) := by decide +kernel
theorem dX12_orders_205 : decode cX12_orders 205 = .ok (.iastore, 1) := by decide +kernel
theorem dX12_orders_206 : decode cX12_orders 206 = .ok (.aload_n 0, 1) := by decide +kernel
theorem dX12_orders_207 : decode cX12_orders 207 = .ok (.iload_n 1, 1) := by decide +kernel
theorem dX12_orders_208 : decode cX12_orders 208 = .ok (.iload_n 2, 1) := by decide +kernel
theorem dX12_orders_209 : decode cX12_orders 209 = .ok (.iconst 1, 1) := by decide +kernel
theorem dX12_orders_210 : decode cX12_orders 210 = .ok (.iadd, 1) := by decide +kernel
theorem dX12_orders_211 : decode cX12_orders 211 = .ok (.iload_n 3, 1) := by decide +kernel
theorem dX12_orders_212 : decode cX12_orders 212 = .ok (.iconst 1, 1) := by decide +kernel
theorem dX12_orders_213 : decode cX12_orders 213 = .ok (.iload 4, 2) := by decide +kernel
theorem dX12_orders_215 : decode cX12_orders 215 = .ok (.ishl, 1) := by decide +kernel
theorem dX12_orders_216 : decode cX12_orders 216 = .ok (.ior, 1) := by decide +kernel
theorem dX12_orders_217 : decode cX12_orders 217 = .ok (.invokevirtual 305, 3) := by decide +kernel
theorem dX12_orders_220 : decode cX12_orders 220 = .ok (.iinc 4 1, 3) := by decide +kernel
theorem dX12_orders_223 : decode cX12_orders 223 = .ok (.goto (-43), 3) := by decide +kernel
theorem dX12_orders_226 : decode cX12_orders 226 = .ok (.return_, 1) := by decide +kernel
theorem dX12_allOrders_0 : decode cX12_allOrders 0 = .ok (.aload_n 0, 1) := by decide +kernel
theorem dX12_allOrders_1 : decode cX12_allOrders 1 = .ok (.iload_n 1, 1) := by decide +kernel
theorem dX12_allOrders_2 : decode cX12_allOrders 2 = .ok (.invokevirtual 256, 3) := by decide +kernel
theorem dX12_allOrders_5 : decode cX12_allOrders 5 = .ok (.iconst 0, 1) := by decide +kernel
theorem dX12_allOrders_6 : decode cX12_allOrders 6 = .ok (.istore_n 2, 1) := by decide +kernel
theorem dX12_allOrders_7 : decode cX12_allOrders 7 = .ok (.iload_n 2, 1) := by decide +kernel
theorem dX12_allOrders_8 : decode cX12_allOrders 8 = .ok (.aload_n 0, 1) := by decide +kernel
theorem dX12_allOrders_9 : decode cX12_allOrders 9 = .ok (.getfield 1, 3) := by decide +kernel
theorem dX12_allOrders_12 : decode cX12_allOrders 12 = .ok (.if_icmp .ge 21, 3) := by decide +kernel
theorem dX12_allOrders_15 : decode cX12_allOrders 15 = .ok (.aload_n 0, 1) := by decide +kernel
theorem dX12_allOrders_16 : decode cX12_allOrders 16 = .ok (.getfield 194, 3) := by decide +kernel
theorem dX12_allOrders_19 : decode cX12_allOrders 19 = .ok (.iload_n 2, 1) := by decide +kernel
theorem dX12_allOrders_20 : decode cX12_allOrders 20 = .ok (.aload_n 0, 1) := by decide +kernel
theorem dX12_allOrders_21 : decode cX12_allOrders 21 = .ok (.getfield 182, 3) := by decide +kernel
theorem dX12_allOrders_24 : decode cX12_allOrders 24 = .ok (.iload_n 2, 1) := by decide +kernel
theorem dX12_allOrders_25 : decode cX12_allOrders 25 = .ok (.iaload, 1) := by decide +kernel
theorem dX12_allOrders_26 : decode cX12_allOrders 26 = .ok (.iastore, 1) := by decide +kernel
theorem dX12_allOrders_27 : decode cX12_allOrders 27 = .ok (.iinc 2 1, 3) := by decide +kernel
theorem dX12_allOrders_30 : decode cX12_allOrders 30 = .ok (.goto (-23), 3) := by decide +kernel
theorem dX12_allOrders_33 : decode cX12_allOrders 33 = .ok (.iconst 0, 1) := by decide +kernel
theorem dX12_allOrders_34 : decode cX12_allOrders 34 = .ok (.istore_n 2, 1) := by decide +kernel
theorem dX12_allOrders_35 : decode cX12_allOrders 35 = .ok (.iload_n 2, 1) := by decide +kernel
theorem dX12_allOrders_36 : decode cX12_allOrders 36 = .ok (.bipush 9, 2) := by decide +kernel
theorem dX12_allOrders_38 : decode cX12_allOrders 38 = .ok (.if_icmp .ge 16, 3) := by decide +kernel
theorem dX12_allOrders_41 : decode cX12_allOrders 41 = .ok (.aload_n 0, 1) := by decide +kernel
theorem dX12_allOrders_42 : decode cX12_allOrders 42 = .ok (.getfield 188, 3) := by decide +kernel
theorem dX12_allOrders_45 : decode cX12_allOrders 45 = .ok (.iload_n 2, 1) := by decide +kernel
theorem dX12_allOrders_46 : decode cX12_allOrders 46 = .ok (.iconst 0, 1) := by decide +kernel
theorem dX12_allOrders_47 : decode cX12_allOrders 47 = .ok (.iastore, 1) := by decide +kernel
theorem dX12_allOrders_48 : decode cX12_allOrders 48 = .ok (.iinc 2 1, 3) := by decide +kernel
theorem dX12_allOrders_51 : decode cX12_allOrders 51 = .ok (.goto (-16), 3) := by decide +kernel
theorem dX12_allOrders_54 : decode cX12_allOrders 54 = .ok (.aload_n 0, 1) := by decide +kernel
theorem dX12_allOrders_55 : decode cX12_allOrders 55 = .ok (.iconst 0, 1) := by decide +kernel
theorem dX12_allOrders_56 : decode cX12_allOrders 56 = .ok (.putfield 293, 3) := by decide +kernel
theorem dX12_allOrders_59 : decode cX12_allOrders 59 = .ok (.aload_n 0, 1) := by decide +kernel
theorem dX12_allOrders_60 : decode cX12_allOrders 60 = .ok (.iconst 0, 1) := by decide +kernel
theorem dX12_allOrders_61 : decode cX12_allOrders 61 = .ok (.putfield 296, 3) := by decide +kernel
theorem dX12_allOrders_64 : decode cX12_allOrders 64 = .ok (.aload_n 0, 1) := by decide +kernel
theorem dX12_allOrders_65 : decode cX12_allOrders 65 = .ok (.iconst 0, 1) := by decide +kernel
theorem dX12_allOrders_66 : decode cX12_allOrders 66 = .ok (.putfield 299, 3) := by decide +kernel
theorem dX12_allOrders_69 : decode cX12_allOrders 69 = .ok (.aload_n 0, 1) := by decide +kernel
theorem dX12_allOrders_70 : decode cX12_allOrders 70 = .ok (.iconst (-1), 1) := by decide +kernel
theorem dX12_allOrders_71 : decode cX12_allOrders 71 = .ok (.putfield 302, 3) := by decide +kernel
theorem dX12_allOrders_74 : decode cX12_allOrders 74 = .ok (.aload_n 0, 1) := by decide +kernel
theorem dX12_allOrders_75 : decode cX12_allOrders 75 = .ok (.iload_n 1, 1) := by decide +kernel
theorem dX12_allOrders_76 : decode cX12_allOrders 76 = .ok (.iconst 0, 1) := by decide +kernel
theorem dX12_allOrders_77 : decode cX12_allOrders 77 = .ok (.iconst 0, 1) := by decide +kernel
theorem dX12_allOrders_78 : decode cX12_allOrders 78 = .ok (.invokevirtual 305, 3) := by decide +kernel
theorem dX12_allOrders_81 : decode cX12_allOrders 81 = .ok (.aload_n 0, 1) := by decide +kernel
theorem dX12_allOrders_82 : decode cX12_allOrders 82 = .ok (.invokevirtual 275, 3) := by decide +kernel
theorem dX12_allOrders_85 : decode cX12_allOrders 85 = .ok (.return_, 1) := by decide +kernel
theorem dX12_orders__0 : decode cX12_orders_ 0 = .ok (.aload_n 0, 1) := by decide +kernel
theorem dX12_orders__1 : decode cX12_orders_ 1 = .ok (.iload_n 1, 1) := by decide +kernel
theorem dX12_orders__2 : decode cX12_orders_ 2 = .ok (.invokevirtual 34, 3) := by decide +kernel
theorem dX12_orders__5 : decode cX12_orders_ 5 = .ok (.ifCond .eq 13, 3) := by decide +kernel
theorem dX12_orders__8 : decode cX12_orders_ 8 = .ok (.iload_n 2, 1) := by decide +kernel
theorem dX12_orders__9 : decode cX12_orders_ 9 = .ok (.iconst 0, 1) := by decide +kernel
theorem dX12_orders__10 : decode cX12_orders_ 10 = .ok (.bipush 8, 2) := by decide +kernel
theorem dX12_orders__12 : decode cX12_orders_ 12 = .ok (.invokestatic 7, 3) := by decide +kernel
theorem dX12_orders__15 : decode cX12_orders_ 15 = .ok (.ifCond .ne 6, 3) := by decide +kernel
theorem dX12_orders__18 : decode cX12_orders_ 18 = .ok (.bipush (-2), 2) := by decide +kernel
theorem dX12_orders__20 : decode cX12_orders_ 20 = .ok (.ireturn, 1) := by decide +kernel
theorem dX12_orders__21 : decode cX12_orders_ 21 = .ok (.aload_n 0, 1) := by decide +kernel
theorem dX12_orders__22 : decode cX12_orders_ 22 = .ok (.getfield 1, 3) := by decide +kernel
theorem dX12_orders__25 : decode cX12_orders_ 25 = .ok (.bipush 6, 2) := by decide +kernel
theorem dX12_orders__27 : decode cX12_orders_ 27 = .ok (.if_icmp .le 6, 3) := by decide +kernel
theorem dX12_orders__30 : decode cX12_orders_ 30 = .ok (.bipush (-3), 2) := by decide +kernel
theorem dX12_orders__32 : decode cX12_orders_ 32 = .ok (.ireturn, 1) := by decide +kernel
theorem dX12_orders__33 : decode cX12_orders_ 33 = .ok (.aload_n 0, 1) := by decide +kernel
theorem dX12_orders__34 : decode cX12_orders_ 34 = .ok (.iload_n 1, 1) := by decide +kernel
theorem dX12_orders__35 : decode cX12_orders_ 35 = .ok (.invokevirtual 308, 3) := by decide +kernel
theorem dX12_orders__38 : decode cX12_orders_ 38 = .ok (.aload_n 0, 1) := by decide +kernel
theorem dX12_orders__39 : decode cX12_orders_ 39 = .ok (.getfield 188, 3) := by decide +kernel
theorem dX12_orders__42 : decode cX12_orders_ 42 = .ok (.iload_n 2, 1) := by decide +kernel
theorem dX12_orders__43 : decode cX12_orders_ 43 = .ok (.iaload, 1) := by decide +kernel
theorem dX12_orders__44 : decode cX12_orders_ 44 = .ok (.ireturn, 1) := by decide +kernel
theorem dX12_divisor_0 : decode cX12_divisor 0 = .ok (.iload_n 0, 1) := by decide +kernel
theorem dX12_divisor_1 : decode cX12_divisor 1 = .ok (.istore_n 2, 1) := by decide +kernel
theorem dX12_divisor_2 : decode cX12_divisor 2 = .ok (.iload_n 1, 1) := by decide +kernel
theorem dX12_divisor_3 : decode cX12_divisor 3 = .ok (.istore_n 3, 1) := by decide +kernel
theorem dX12_divisor_4 : decode cX12_divisor 4 = .ok (.iload_n 3, 1) := by decide +kernel
theorem dX12_divisor_5 : decode cX12_divisor 5 = .ok (.ifCond .eq 16, 3) := by decide +kernel
theorem dX12_divisor_8 : decode cX12_divisor 8 = .ok (.iload_n 2, 1) := by decide +kernel
theorem dX12_divisor_9 : decode cX12_divisor 9 = .ok (.iload_n 3, 1) := by decide +kernel
theorem dX12_divisor_10 : decode cX12_divisor 10 = .ok (.irem, 1) := by decide +kernel
theorem dX12_divisor_11 : decode cX12_divisor 11 = .ok (.istore 4, 2) := by decide +kernel
theorem dX12_divisor_13 : decode cX12_divisor 13 = .ok (.iload_n 3, 1) := by decide +kernel
theorem dX12_divisor_14 : decode cX12_divisor 14 = .ok (.istore_n 2, 1) := by decide +kernel
theorem dX12_divisor_15 : decode cX12_divisor 15 = .ok (.iload 4, 2) := by decide +kernel
theorem dX12_divisor_17 : decode cX12_divisor 17 = .ok (.istore_n 3, 1) := by decide +kernel
theorem dX12_divisor_18 : decode cX12_divisor 18 = .ok (.goto (-14), 3) := by decide +kernel
theorem dX12_divisor_21 : decode cX12_divisor 21 = .ok (.iload_n 2, 1) := by decide +kernel
theorem dX12_divisor_22 : decode cX12_divisor 22 = .ok (.ireturn, 1) := by decide +kernel
theorem dX12_mean_0 : decode cX12_mean 0 = .ok (.aload_n 0, 1) := by decide +kernel
theorem dX12_mean_1 : decode cX12_mean 1 = .ok (.iload_n 1, 1) := by decide +kernel
theorem dX12_mean_2 : decode cX12_mean 2 = .ok (.invokevirtual 34, 3) := by decide +kernel
theorem dX12_mean_5 : decode cX12_mean 5 = .ok (.ifCond .eq 21, 3) := by decide +kernel
theorem dX12_mean_8 : decode cX12_mean 8 = .ok (.iload_n 2, 1) := by decide +kernel
theorem dX12_mean_9 : decode cX12_mean 9 = .ok (.iconst 0, 1) := by decide +kernel
theorem dX12_mean_10 : decode cX12_mean 10 = .ok (.iconst 1, 1) := by decide +kernel
theorem dX12_mean_11 : decode cX12_mean 11 = .ok (.invokestatic 7, 3) := by decide +kernel
theorem dX12_mean_14 : decode cX12_mean 14 = .ok (.ifCond .eq 12, 3) := by decide +kernel
theorem dX12_mean_17 : decode cX12_mean 17 = .ok (.aload_n 0, 1) := by decide +kernel
theorem dX12_mean_18 : decode cX12_mean 18 = .ok (.getfield 1, 3) := by decide +kernel
theorem dX12_mean_21 : decode cX12_mean 21 = .ok (.bipush 6, 2) := by decide +kernel
theorem dX12_mean_23 : decode cX12_mean 23 = .ok (.if_icmp .le 7, 3) := by decide +kernel
theorem dX12_mean_26 : decode cX12_mean 26 = .ok (.ldc2_w 311, 3) := by decide +kernel
theorem dX12_mean_29 : decode cX12_mean 29 = .ok (.lreturn, 1) := by decide +kernel
theorem dX12_mean_30 : decode cX12_mean 30 = .ok (.aload_n 0, 1) := by decide +kernel
theorem dX12_mean_31 : decode cX12_mean 31 = .ok (.iload_n 1, 1) := by decide +kernel
theorem dX12_mean_32 : decode cX12_mean 32 = .ok (.invokevirtual 308, 3) := by decide +kernel
theorem dX12_mean_35 : decode cX12_mean 35 = .ok (.aload_n 0, 1) := by decide +kernel
theorem dX12_mean_36 : decode cX12_mean 36 = .ok (.getfield 293, 3) := by decide +kernel
theorem dX12_mean_39 : decode cX12_mean 39 = .ok (.aload_n 0, 1) := by decide +kernel
theorem dX12_mean_40 : decode cX12_mean 40 = .ok (.getfield 296, 3) := by decide +kernel
theorem dX12_mean_43 : decode cX12_mean 43 = .ok (.invokestatic 313, 3) := by decide +kernel
theorem dX12_mean_46 : decode cX12_mean 46 = .ok (.istore_n 3, 1) := by decide +kernel
theorem dX12_mean_47 : decode cX12_mean 47 = .ok (.iload_n 2, 1) := by decide +kernel
theorem dX12_mean_48 : decode cX12_mean 48 = .ok (.ifCond .ne 13, 3) := by decide +kernel
theorem dX12_mean_51 : decode cX12_mean 51 = .ok (.aload_n 0, 1) := by decide +kernel
theorem dX12_mean_52 : decode cX12_mean 52 = .ok (.getfield 293, 3) := by decide +kernel
theorem dX12_mean_55 : decode cX12_mean 55 = .ok (.iload_n 3, 1) := by decide +kernel
theorem dX12_mean_56 : decode cX12_mean 56 = .ok (.idiv, 1) := by decide +kernel
theorem dX12_mean_57 : decode cX12_mean 57 = .ok (.i2l, 1) := by decide +kernel
theorem dX12_mean_58 : decode cX12_mean 58 = .ok (.goto 10, 3) := by decide +kernel
theorem dX12_mean_61 : decode cX12_mean 61 = .ok (.aload_n 0, 1) := by decide +kernel
theorem dX12_mean_62 : decode cX12_mean 62 = .ok (.getfield 296, 3) := by decide +kernel
theorem dX12_mean_65 : decode cX12_mean 65 = .ok (.iload_n 3, 1) := by decide +kernel
theorem dX12_mean_66 : decode cX12_mean 66 = .ok (.idiv, 1) := by decide +kernel
theorem dX12_mean_67 : decode cX12_mean 67 = .ok (.i2l, 1) := by decide +kernel
theorem dX12_mean_68 : decode cX12_mean 68 = .ok (.lreturn, 1) := by decide +kernel
theorem dX12_bestOrder_0 : decode cX12_bestOrder 0 = .ok (.aload_n 0, 1) := by decide +kernel
theorem dX12_bestOrder_1 : decode cX12_bestOrder 1 = .ok (.iload_n 1, 1) := by decide +kernel
theorem dX12_bestOrder_2 : decode cX12_bestOrder 2 = .ok (.invokevirtual 34, 3) := by decide +kernel
theorem dX12_bestOrder_5 : decode cX12_bestOrder 5 = .ok (.ifCond .eq 11, 3) := by decide +kernel
theorem dX12_bestOrder_8 : decode cX12_bestOrder 8 = .ok (.aload_n 0, 1) := by decide +kernel
theorem dX12_bestOrder_9 : decode cX12_bestOrder 9 = .ok (.iload_n 2, 1) := by decide +kernel
theorem dX12_bestOrder_10 : decode cX12_bestOrder 10 = .ok (.invokevirtual 27, 3) := by decide +kernel
theorem dX12_bestOrder_13 : decode cX12_bestOrder 13 = .ok (.ifCond .ne 6, 3) := by decide +kernel
theorem dX12_bestOrder_16 : decode cX12_bestOrder 16 = .ok (.bipush (-2), 2) := by decide +kernel
theorem dX12_bestOrder_18 : decode cX12_bestOrder 18 = .ok (.ireturn, 1) := by decide +kernel
theorem dX12_bestOrder_19 : decode cX12_bestOrder 19 = .ok (.aload_n 0, 1) := by decide +kernel
theorem dX12_bestOrder_20 : decode cX12_bestOrder 20 = .ok (.getfield 1, 3) := by decide +kernel
theorem dX12_bestOrder_23 : decode cX12_bestOrder 23 = .ok (.bipush 6, 2) := by decide +kernel
theorem dX12_bestOrder_25 : decode cX12_bestOrder 25 = .ok (.if_icmp .le 6, 3) := by decide +kernel
theorem dX12_bestOrder_28 : decode cX12_bestOrder 28 = .ok (.bipush (-3), 2) := by decide +kernel
theorem dX12_bestOrder_30 : decode cX12_bestOrder 30 = .ok (.ireturn, 1) := by decide +kernel
theorem dX12_bestOrder_31 : decode cX12_bestOrder 31 = .ok (.aload_n 0, 1) := by decide +kernel
theorem dX12_bestOrder_32 : decode cX12_bestOrder 32 = .ok (.iload_n 1, 1) := by decide +kernel
theorem dX12_bestOrder_33 : decode cX12_bestOrder 33 = .ok (.invokevirtual 308, 3) := by decide +kernel
theorem dX12_bestOrder_36 : decode cX12_bestOrder 36 = .ok (.aload_n 0, 1) := by decide +kernel
theorem dX12_bestOrder_37 : decode cX12_bestOrder 37 = .ok (.getfield 191, 3) := by decide +kernel
theorem dX12_bestOrder_40 : decode cX12_bestOrder 40 = .ok (.iload_n 2, 1) := by decide +kernel
theorem dX12_bestOrder_41 : decode cX12_bestOrder 41 = .ok (.iaload, 1) := by decide +kernel
theorem dX12_bestOrder_42 : decode cX12_bestOrder 42 = .ok (.ireturn, 1) := by decide +kernel
theorem dX12_came_0 : decode cX12_came 0 = .ok (.aload_n 0, 1) := by decide +kernel
theorem dX12_came_1 : decode cX12_came 1 = .ok (.iload_n 1, 1) := by decide +kernel
theorem dX12_came_2 : decode cX12_came 2 = .ok (.invokevirtual 34, 3) := by decide +kernel
theorem dX12_came_5 : decode cX12_came 5 = .ok (.ifCond .ne 6, 3) := by decide +kernel
theorem dX12_came_8 : decode cX12_came 8 = .ok (.bipush (-2), 2) := by decide +kernel
theorem dX12_came_10 : decode cX12_came 10 = .ok (.ireturn, 1) := by decide +kernel
theorem dX12_came_11 : decode cX12_came 11 = .ok (.aload_n 0, 1) := by decide +kernel
theorem dX12_came_12 : decode cX12_came 12 = .ok (.getfield 1, 3) := by decide +kernel
theorem dX12_came_15 : decode cX12_came 15 = .ok (.bipush 6, 2) := by decide +kernel
theorem dX12_came_17 : decode cX12_came 17 = .ok (.if_icmp .le 6, 3) := by decide +kernel
theorem dX12_came_20 : decode cX12_came 20 = .ok (.bipush (-3), 2) := by decide +kernel
theorem dX12_came_22 : decode cX12_came 22 = .ok (.ireturn, 1) := by decide +kernel
theorem dX12_came_23 : decode cX12_came 23 = .ok (.aload_n 0, 1) := by decide +kernel
theorem dX12_came_24 : decode cX12_came 24 = .ok (.iload_n 1, 1) := by decide +kernel
theorem dX12_came_25 : decode cX12_came 25 = .ok (.invokevirtual 308, 3) := by decide +kernel
theorem dX12_came_28 : decode cX12_came 28 = .ok (.aload_n 0, 1) := by decide +kernel
theorem dX12_came_29 : decode cX12_came 29 = .ok (.getfield 299, 3) := by decide +kernel
theorem dX12_came_32 : decode cX12_came 32 = .ok (.ireturn, 1) := by decide +kernel
theorem dX12_drawn_0 : decode cX12_drawn 0 = .ok (.aload_n 0, 1) := by decide +kernel
theorem dX12_drawn_1 : decode cX12_drawn 1 = .ok (.iload_n 1, 1) := by decide +kernel
theorem dX12_drawn_2 : decode cX12_drawn 2 = .ok (.invokevirtual 34, 3) := by decide +kernel
theorem dX12_drawn_5 : decode cX12_drawn 5 = .ok (.ifCond .ne 6, 3) := by decide +kernel
theorem dX12_drawn_8 : decode cX12_drawn 8 = .ok (.bipush (-2), 2) := by decide +kernel
theorem dX12_drawn_10 : decode cX12_drawn 10 = .ok (.ireturn, 1) := by decide +kernel
theorem dX12_drawn_11 : decode cX12_drawn 11 = .ok (.iload_n 2, 1) := by decide +kernel
theorem dX12_drawn_12 : decode cX12_drawn 12 = .ok (.istore_n 3, 1) := by decide +kernel
theorem dX12_drawn_13 : decode cX12_drawn 13 = .ok (.iconst 0, 1) := by decide +kernel
theorem dX12_drawn_14 : decode cX12_drawn 14 = .ok (.istore 4, 2) := by decide +kernel
theorem dX12_drawn_16 : decode cX12_drawn 16 = .ok (.iload 4, 2) := by decide +kernel
theorem dX12_drawn_18 : decode cX12_drawn 18 = .ok (.aload_n 0, 1) := by decide +kernel
theorem dX12_drawn_19 : decode cX12_drawn 19 = .ok (.getfield 1, 3) := by decide +kernel
theorem dX12_drawn_22 : decode cX12_drawn 22 = .ok (.iconst 1, 1) := by decide +kernel
theorem dX12_drawn_23 : decode cX12_drawn 23 = .ok (.isub, 1) := by decide +kernel
theorem dX12_drawn_24 : decode cX12_drawn 24 = .ok (.if_icmp .ge 68, 3) := by decide +kernel
theorem dX12_drawn_27 : decode cX12_drawn 27 = .ok (.iload_n 3, 1) := by decide +kernel
theorem dX12_drawn_28 : decode cX12_drawn 28 = .ok (.ldc_w 316, 3) := by decide +kernel
theorem dX12_drawn_31 : decode cX12_drawn 31 = .ok (.imul, 1) := by decide +kernel
theorem dX12_drawn_32 : decode cX12_drawn 32 = .ok (.sipush 12345, 3) := by decide +kernel
theorem dX12_drawn_35 : decode cX12_drawn 35 = .ok (.iadd, 1) := by decide +kernel
theorem dX12_drawn_36 : decode cX12_drawn 36 = .ok (.istore_n 3, 1) := by decide +kernel
theorem dX12_drawn_37 : decode cX12_drawn 37 = .ok (.iload 4, 2) := by decide +kernel
theorem dX12_drawn_39 : decode cX12_drawn 39 = .ok (.iload_n 3, 1) := by decide +kernel
theorem dX12_drawn_40 : decode cX12_drawn 40 = .ok (.bipush 9, 2) := by decide +kernel
theorem dX12_drawn_42 : decode cX12_drawn 42 = .ok (.iushr, 1) := by decide +kernel
theorem dX12_drawn_43 : decode cX12_drawn 43 = .ok (.aload_n 0, 1) := by decide +kernel
theorem dX12_drawn_44 : decode cX12_drawn 44 = .ok (.getfield 1, 3) := by decide +kernel
theorem dX12_drawn_47 : decode cX12_drawn 47 = .ok (.iload 4, 2) := by decide +kernel
theorem dX12_drawn_49 : decode cX12_drawn 49 = .ok (.isub, 1) := by decide +kernel
theorem dX12_drawn_50 : decode cX12_drawn 50 = .ok (.irem, 1) := by decide +kernel
theorem dX12_drawn_51 : decode cX12_drawn 51 = .ok (.iadd, 1) := by decide +kernel
theorem dX12_drawn_52 : decode cX12_drawn 52 = .ok (.istore 5, 2) := by decide +kernel
theorem dX12_drawn_54 : decode cX12_drawn 54 = .ok (.aload_n 0, 1) := by decide +kernel
theorem dX12_drawn_55 : decode cX12_drawn 55 = .ok (.getfield 176, 3) := by decide +kernel
theorem dX12_drawn_58 : decode cX12_drawn 58 = .ok (.iload 4, 2) := by decide +kernel
theorem dX12_drawn_60 : decode cX12_drawn 60 = .ok (.iaload, 1) := by decide +kernel
theorem dX12_drawn_61 : decode cX12_drawn 61 = .ok (.istore 6, 2) := by decide +kernel
theorem dX12_drawn_63 : decode cX12_drawn 63 = .ok (.aload_n 0, 1) := by decide +kernel
theorem dX12_drawn_64 : decode cX12_drawn 64 = .ok (.getfield 176, 3) := by decide +kernel
theorem dX12_drawn_67 : decode cX12_drawn 67 = .ok (.iload 4, 2) := by decide +kernel
theorem dX12_drawn_69 : decode cX12_drawn 69 = .ok (.aload_n 0, 1) := by decide +kernel
theorem dX12_drawn_70 : decode cX12_drawn 70 = .ok (.getfield 176, 3) := by decide +kernel
theorem dX12_drawn_73 : decode cX12_drawn 73 = .ok (.iload 5, 2) := by decide +kernel
theorem dX12_drawn_75 : decode cX12_drawn 75 = .ok (.iaload, 1) := by decide +kernel
theorem dX12_drawn_76 : decode cX12_drawn 76 = .ok (.iastore, 1) := by decide +kernel
theorem dX12_drawn_77 : decode cX12_drawn 77 = .ok (.aload_n 0, 1) := by decide +kernel
theorem dX12_drawn_78 : decode cX12_drawn 78 = .ok (.getfield 176, 3) := by decide +kernel
theorem dX12_drawn_81 : decode cX12_drawn 81 = .ok (.iload 5, 2) := by decide +kernel
theorem dX12_drawn_83 : decode cX12_drawn 83 = .ok (.iload 6, 2) := by decide +kernel
theorem dX12_drawn_85 : decode cX12_drawn 85 = .ok (.iastore, 1) := by decide +kernel
theorem dX12_drawn_86 : decode cX12_drawn 86 = .ok (.iinc 4 1, 3) := by decide +kernel
theorem dX12_drawn_89 : decode cX12_drawn 89 = .ok (.goto (-73), 3) := by decide +kernel
theorem dX12_drawn_92 : decode cX12_drawn 92 = .ok (.aload_n 0, 1) := by decide +kernel
theorem dX12_drawn_93 : decode cX12_drawn 93 = .ok (.iload_n 1, 1) := by decide +kernel
theorem dX12_drawn_94 : decode cX12_drawn 94 = .ok (.invokevirtual 256, 3) := by decide +kernel
theorem dX12_drawn_97 : decode cX12_drawn 97 = .ok (.aload_n 0, 1) := by decide +kernel
theorem dX12_drawn_98 : decode cX12_drawn 98 = .ok (.invokevirtual 275, 3) := by decide +kernel
theorem dX12_drawn_101 : decode cX12_drawn 101 = .ok (.aload_n 0, 1) := by decide +kernel
theorem dX12_drawn_102 : decode cX12_drawn 102 = .ok (.getfield 225, 3) := by decide +kernel
theorem dX12_drawn_105 : decode cX12_drawn 105 = .ok (.ireturn, 1) := by decide +kernel
theorem dX12_isSheet_0 : decode cX12_isSheet 0 = .ok (.iload_n 0, 1) := by decide +kernel
theorem dX12_isSheet_1 : decode cX12_isSheet 1 = .ok (.iconst 0, 1) := by decide +kernel
theorem dX12_isSheet_2 : decode cX12_isSheet 2 = .ok (.iconst 3, 1) := by decide +kernel
theorem dX12_isSheet_3 : decode cX12_isSheet 3 = .ok (.invokestatic 7, 3) := by decide +kernel
theorem dX12_isSheet_6 : decode cX12_isSheet 6 = .ok (.ireturn, 1) := by decide +kernel
theorem dX12_judge_0 : decode cX12_judge 0 = .ok (.iload_n 1, 1) := by decide +kernel
theorem dX12_judge_1 : decode cX12_judge 1 = .ok (.invokestatic 317, 3) := by decide +kernel
theorem dX12_judge_4 : decode cX12_judge 4 = .ok (.ifCond .ne 6, 3) := by decide +kernel
theorem dX12_judge_7 : decode cX12_judge 7 = .ok (.bipush (-2), 2) := by decide +kernel
theorem dX12_judge_9 : decode cX12_judge 9 = .ok (.ireturn, 1) := by decide +kernel
theorem dX12_judge_10 : decode cX12_judge 10 = .ok (.aload_n 0, 1) := by decide +kernel
theorem dX12_judge_11 : decode cX12_judge 11 = .ok (.getfield 209, 3) := by decide +kernel
theorem dX12_judge_14 : decode cX12_judge 14 = .ok (.iload_n 1, 1) := by decide +kernel
theorem dX12_judge_15 : decode cX12_judge 15 = .ok (.iaload, 1) := by decide +kernel
theorem dX12_judge_16 : decode cX12_judge 16 = .ok (.ifCond .ge 6, 3) := by decide +kernel
theorem dX12_judge_19 : decode cX12_judge 19 = .ok (.bipush (-11), 2) := by decide +kernel
theorem dX12_judge_21 : decode cX12_judge 21 = .ok (.ireturn, 1) := by decide +kernel
theorem dX12_judge_22 : decode cX12_judge 22 = .ok (.aload_n 0, 1) := by decide +kernel
theorem dX12_judge_23 : decode cX12_judge 23 = .ok (.iconst 0, 1) := by decide +kernel
theorem dX12_judge_24 : decode cX12_judge 24 = .ok (.putfield 225, 3) := by decide +kernel
theorem dX12_judge_27 : decode cX12_judge 27 = .ok (.iconst 0, 1) := by decide +kernel
theorem dX12_judge_28 : decode cX12_judge 28 = .ok (.istore_n 2, 1) := by decide +kernel
theorem dX12_judge_29 : decode cX12_judge 29 = .ok (.iload_n 2, 1) := by decide +kernel
theorem dX12_judge_30 : decode cX12_judge 30 = .ok (.aload_n 0, 1) := by decide +kernel
theorem dX12_judge_31 : decode cX12_judge 31 = .ok (.getfield 212, 3) := by decide +kernel
theorem dX12_judge_34 : decode cX12_judge 34 = .ok (.iload_n 1, 1) := by decide +kernel
theorem dX12_judge_35 : decode cX12_judge 35 = .ok (.iaload, 1) := by decide +kernel
theorem dX12_judge_36 : decode cX12_judge 36 = .ok (.if_icmp .ge 66, 3) := by decide +kernel
theorem dX12_judge_39 : decode cX12_judge 39 = .ok (.aload_n 0, 1) := by decide +kernel
theorem dX12_judge_40 : decode cX12_judge 40 = .ok (.getfield 215, 3) := by decide +kernel
theorem dX12_judge_43 : decode cX12_judge 43 = .ok (.bipush 40, 2) := by decide +kernel
theorem dX12_judge_45 : decode cX12_judge 45 = .ok (.iload_n 1, 1) := by decide +kernel
theorem dX12_judge_46 : decode cX12_judge 46 = .ok (.imul, 1) := by decide +kernel
theorem dX12_judge_47 : decode cX12_judge 47 = .ok (.iload_n 2, 1) := by decide +kernel
theorem dX12_judge_48 : decode cX12_judge 48 = .ok (.iadd, 1) := by decide +kernel
theorem dX12_judge_49 : decode cX12_judge 49 = .ok (.iaload, 1) := by decide +kernel
theorem dX12_judge_50 : decode cX12_judge 50 = .ok (.istore_n 3, 1) := by decide +kernel
theorem dX12_judge_51 : decode cX12_judge 51 = .ok (.iload_n 2, 1) := by decide +kernel
theorem dX12_judge_52 : decode cX12_judge 52 = .ok (.aload_n 0, 1) := by decide +kernel
theorem dX12_judge_53 : decode cX12_judge 53 = .ok (.getfield 1, 3) := by decide +kernel
theorem dX12_judge_56 : decode cX12_judge 56 = .ok (.if_icmp .ge 32, 3) := by decide +kernel
theorem dX12_judge_59 : decode cX12_judge 59 = .ok (.iload_n 3, 1) := by decide +kernel
theorem dX12_judge_60 : decode cX12_judge 60 = .ok (.iconst 0, 1) := by decide +kernel
theorem dX12_judge_61 : decode cX12_judge 61 = .ok (.aload_n 0, 1) := by decide +kernel
theorem dX12_judge_62 : decode cX12_judge 62 = .ok (.getfield 225, 3) := by decide +kernel
theorem dX12_judge_65 : decode cX12_judge 65 = .ok (.invokestatic 7, 3) := by decide +kernel
theorem dX12_judge_68 : decode cX12_judge 68 = .ok (.ifCond .eq 20, 3) := by decide +kernel
theorem dX12_judge_71 : decode cX12_judge 71 = .ok (.iload_n 3, 1) := by decide +kernel
theorem dX12_judge_72 : decode cX12_judge 72 = .ok (.aload_n 0, 1) := by decide +kernel
theorem dX12_judge_73 : decode cX12_judge 73 = .ok (.getfield 225, 3) := by decide +kernel
theorem dX12_judge_76 : decode cX12_judge 76 = .ok (.if_icmp .ge 14, 3) := by decide +kernel
theorem dX12_judge_79 : decode cX12_judge 79 = .ok (.aload_n 0, 1) := by decide +kernel
theorem dX12_judge_80 : decode cX12_judge 80 = .ok (.iload_n 2, 1) := by decide +kernel
theorem dX12_judge_81 : decode cX12_judge 81 = .ok (.iload_n 3, 1) := by decide +kernel
theorem dX12_judge_82 : decode cX12_judge 82 = .ok (.invokevirtual 237, 3) := by decide +kernel
theorem dX12_judge_85 : decode cX12_judge 85 = .ok (.ifCond .ne 5, 3) := by decide +kernel
theorem dX12_judge_88 : decode cX12_judge 88 = .ok (.iload_n 2, 1) := by decide +kernel
theorem dX12_judge_89 : decode cX12_judge 89 = .ok (.ireturn, 1) := by decide +kernel
theorem dX12_judge_90 : decode cX12_judge 90 = .ok (.aload_n 0, 1) := by decide +kernel
theorem dX12_judge_91 : decode cX12_judge 91 = .ok (.iload_n 2, 1) := by decide +kernel
theorem dX12_judge_92 : decode cX12_judge 92 = .ok (.iload_n 3, 1) := by decide +kernel
theorem dX12_judge_93 : decode cX12_judge 93 = .ok (.invokevirtual 253, 3) := by decide +kernel
theorem dX12_judge_96 : decode cX12_judge 96 = .ok (.iinc 2 1, 3) := by decide +kernel
theorem dX12_judge_99 : decode cX12_judge 99 = .ok (.goto (-70), 3) := by decide +kernel
theorem dX12_judge_102 : decode cX12_judge 102 = .ok (.iconst (-1), 1) := by decide +kernel
theorem dX12_judge_103 : decode cX12_judge 103 = .ok (.ireturn, 1) := by decide +kernel
theorem dX12_stranger_0 : decode cX12_stranger 0 = .ok (.iload_n 1, 1) := by decide +kernel
theorem dX12_stranger_1 : decode cX12_stranger 1 = .ok (.invokestatic 317, 3) := by decide +kernel
theorem dX12_stranger_4 : decode cX12_stranger 4 = .ok (.ifCond .ne 6, 3) := by decide +kernel
theorem dX12_stranger_7 : decode cX12_stranger 7 = .ok (.bipush (-2), 2) := by decide +kernel
theorem dX12_stranger_9 : decode cX12_stranger 9 = .ok (.ireturn, 1) := by decide +kernel
theorem dX12_stranger_10 : decode cX12_stranger 10 = .ok (.aload_n 0, 1) := by decide +kernel
theorem dX12_stranger_11 : decode cX12_stranger 11 = .ok (.getfield 209, 3) := by decide +kernel
theorem dX12_stranger_14 : decode cX12_stranger 14 = .ok (.iload_n 1, 1) := by decide +kernel
theorem dX12_stranger_15 : decode cX12_stranger 15 = .ok (.iaload, 1) := by decide +kernel
theorem dX12_stranger_16 : decode cX12_stranger 16 = .ok (.ifCond .ge 6, 3) := by decide +kernel
theorem dX12_stranger_19 : decode cX12_stranger 19 = .ok (.bipush (-11), 2) := by decide +kernel
theorem dX12_stranger_21 : decode cX12_stranger 21 = .ok (.ireturn, 1) := by decide +kernel
theorem dX12_stranger_22 : decode cX12_stranger 22 = .ok (.aload_n 0, 1) := by decide +kernel
theorem dX12_stranger_23 : decode cX12_stranger 23 = .ok (.getfield 212, 3) := by decide +kernel
theorem dX12_stranger_26 : decode cX12_stranger 26 = .ok (.iload_n 1, 1) := by decide +kernel
theorem dX12_stranger_27 : decode cX12_stranger 27 = .ok (.iaload, 1) := by decide +kernel
theorem dX12_stranger_28 : decode cX12_stranger 28 = .ok (.aload_n 0, 1) := by decide +kernel
theorem dX12_stranger_29 : decode cX12_stranger 29 = .ok (.getfield 1, 3) := by decide +kernel
theorem dX12_stranger_32 : decode cX12_stranger 32 = .ok (.if_icmp .eq 6, 3) := by decide +kernel
theorem dX12_stranger_35 : decode cX12_stranger 35 = .ok (.bipush (-2), 2) := by decide +kernel
theorem dX12_stranger_37 : decode cX12_stranger 37 = .ok (.ireturn, 1) := by decide +kernel
theorem dX12_stranger_38 : decode cX12_stranger 38 = .ok (.iconst 0, 1) := by decide +kernel
theorem dX12_stranger_39 : decode cX12_stranger 39 = .ok (.istore_n 2, 1) := by decide +kernel
theorem dX12_stranger_40 : decode cX12_stranger 40 = .ok (.iconst 0, 1) := by decide +kernel
theorem dX12_stranger_41 : decode cX12_stranger 41 = .ok (.istore_n 3, 1) := by decide +kernel
theorem dX12_stranger_42 : decode cX12_stranger 42 = .ok (.iload_n 3, 1) := by decide +kernel
theorem dX12_stranger_43 : decode cX12_stranger 43 = .ok (.aload_n 0, 1) := by decide +kernel
theorem dX12_stranger_44 : decode cX12_stranger 44 = .ok (.getfield 11, 3) := by decide +kernel
theorem dX12_stranger_47 : decode cX12_stranger 47 = .ok (.if_icmp .ge 84, 3) := by decide +kernel
theorem dX12_stranger_50 : decode cX12_stranger 50 = .ok (.aload_n 0, 1) := by decide +kernel
theorem dX12_stranger_51 : decode cX12_stranger 51 = .ok (.iload_n 3, 1) := by decide +kernel
theorem dX12_stranger_52 : decode cX12_stranger 52 = .ok (.invokevirtual 256, 3) := by decide +kernel
theorem dX12_stranger_55 : decode cX12_stranger 55 = .ok (.iconst 1, 1) := by decide +kernel
theorem dX12_stranger_56 : decode cX12_stranger 56 = .ok (.istore 4, 2) := by decide +kernel
theorem dX12_stranger_58 : decode cX12_stranger 58 = .ok (.iconst 0, 1) := by decide +kernel
theorem dX12_stranger_59 : decode cX12_stranger 59 = .ok (.istore 5, 2) := by decide +kernel
theorem dX12_stranger_61 : decode cX12_stranger 61 = .ok (.iload 5, 2) := by decide +kernel
theorem dX12_stranger_63 : decode cX12_stranger 63 = .ok (.aload_n 0, 1) := by decide +kernel
theorem dX12_stranger_64 : decode cX12_stranger 64 = .ok (.getfield 1, 3) := by decide +kernel
theorem dX12_stranger_67 : decode cX12_stranger 67 = .ok (.if_icmp .ge 43, 3) := by decide +kernel
theorem dX12_stranger_70 : decode cX12_stranger 70 = .ok (.iload 4, 2) := by decide +kernel
theorem dX12_stranger_72 : decode cX12_stranger 72 = .ok (.ifCond .eq 29, 3) := by decide +kernel
theorem dX12_stranger_75 : decode cX12_stranger 75 = .ok (.aload_n 0, 1) := by decide +kernel
theorem dX12_stranger_76 : decode cX12_stranger 76 = .ok (.getfield 215, 3) := by decide +kernel
theorem dX12_stranger_79 : decode cX12_stranger 79 = .ok (.bipush 40, 2) := by decide +kernel
theorem dX12_stranger_81 : decode cX12_stranger 81 = .ok (.iload_n 1, 1) := by decide +kernel
theorem dX12_stranger_82 : decode cX12_stranger 82 = .ok (.imul, 1) := by decide +kernel
theorem dX12_stranger_83 : decode cX12_stranger 83 = .ok (.iload 5, 2) := by decide +kernel
theorem dX12_stranger_85 : decode cX12_stranger 85 = .ok (.iadd, 1) := by decide +kernel
theorem dX12_stranger_86 : decode cX12_stranger 86 = .ok (.iaload, 1) := by decide +kernel
theorem dX12_stranger_87 : decode cX12_stranger 87 = .ok (.aload_n 0, 1) := by decide +kernel
theorem dX12_stranger_88 : decode cX12_stranger 88 = .ok (.getfield 179, 3) := by decide +kernel
theorem dX12_stranger_91 : decode cX12_stranger 91 = .ok (.iload 5, 2) := by decide +kernel
theorem dX12_stranger_93 : decode cX12_stranger 93 = .ok (.iaload, 1) := by decide +kernel
theorem dX12_stranger_94 : decode cX12_stranger 94 = .ok (.if_icmp .ne 7, 3) := by decide +kernel
theorem dX12_stranger_97 : decode cX12_stranger 97 = .ok (.iconst 1, 1) := by decide +kernel
theorem dX12_stranger_98 : decode cX12_stranger 98 = .ok (.goto 4, 3) := by decide +kernel
theorem dX12_stranger_101 : decode cX12_stranger 101 = .ok (.iconst 0, 1) := by decide +kernel
theorem dX12_stranger_102 : decode cX12_stranger 102 = .ok (.istore 4, 2) := by decide +kernel
theorem dX12_stranger_104 : decode cX12_stranger 104 = .ok (.iinc 5 1, 3) := by decide +kernel
theorem dX12_stranger_107 : decode cX12_stranger 107 = .ok (.goto (-46), 3) := by decide +kernel
theorem dX12_stranger_110 : decode cX12_stranger 110 = .ok (.iload_n 2, 1) := by decide +kernel
theorem dX12_stranger_111 : decode cX12_stranger 111 = .ok (.iload 4, 2) := by decide +kernel
theorem dX12_stranger_113 : decode cX12_stranger 113 = .ok (.ifCond .eq 9, 3) := by decide +kernel
theorem dX12_stranger_116 : decode cX12_stranger 116 = .ok (.iconst 1, 1) := by decide +kernel
theorem dX12_stranger_117 : decode cX12_stranger 117 = .ok (.iload_n 3, 1) := by decide +kernel
theorem dX12_stranger_118 : decode cX12_stranger 118 = .ok (.ishl, 1) := by decide +kernel
theorem dX12_stranger_119 : decode cX12_stranger 119 = .ok (.goto 4, 3) := by decide +kernel
theorem dX12_stranger_122 : decode cX12_stranger 122 = .ok (.iconst 0, 1) := by decide +kernel
theorem dX12_stranger_123 : decode cX12_stranger 123 = .ok (.ior, 1) := by decide +kernel
theorem dX12_stranger_124 : decode cX12_stranger 124 = .ok (.istore_n 2, 1) := by decide +kernel
theorem dX12_stranger_125 : decode cX12_stranger 125 = .ok (.iinc 3 1, 3) := by decide +kernel
theorem dX12_stranger_128 : decode cX12_stranger 128 = .ok (.goto (-86), 3) := by decide +kernel
theorem dX12_stranger_131 : decode cX12_stranger 131 = .ok (.iload_n 2, 1) := by decide +kernel
theorem dX12_stranger_132 : decode cX12_stranger 132 = .ok (.ireturn, 1) := by decide +kernel
theorem dX12_move_0 : decode cX12_move 0 = .ok (.iconst 0, 1) := by decide +kernel
theorem dX12_move_1 : decode cX12_move 1 = .ok (.istore_n 2, 1) := by decide +kernel
theorem dX12_move_2 : decode cX12_move 2 = .ok (.iload_n 2, 1) := by decide +kernel
theorem dX12_move_3 : decode cX12_move 3 = .ok (.aload_n 0, 1) := by decide +kernel
theorem dX12_move_4 : decode cX12_move 4 = .ok (.arraylength, 1) := by decide +kernel
theorem dX12_move_5 : decode cX12_move 5 = .ok (.if_icmp .ge 15, 3) := by decide +kernel
theorem dX12_move_8 : decode cX12_move 8 = .ok (.aload_n 1, 1) := by decide +kernel
theorem dX12_move_9 : decode cX12_move 9 = .ok (.iload_n 2, 1) := by decide +kernel
theorem dX12_move_10 : decode cX12_move 10 = .ok (.aload_n 0, 1) := by decide +kernel
theorem dX12_move_11 : decode cX12_move 11 = .ok (.iload_n 2, 1) := by decide +kernel
theorem dX12_move_12 : decode cX12_move 12 = .ok (.iaload, 1) := by decide +kernel
theorem dX12_move_13 : decode cX12_move 13 = .ok (.iastore, 1) := by decide +kernel
theorem dX12_move_14 : decode cX12_move 14 = .ok (.iinc 2 1, 3) := by decide +kernel
theorem dX12_move_17 : decode cX12_move 17 = .ok (.goto (-15), 3) := by decide +kernel
theorem dX12_move_20 : decode cX12_move 20 = .ok (.return_, 1) := by decide +kernel
theorem dX12_lay_0 : decode cX12_lay 0 = .ok (.aload_n 0, 1) := by decide +kernel
theorem dX12_lay_1 : decode cX12_lay 1 = .ok (.iload_n 1, 1) := by decide +kernel
theorem dX12_lay_2 : decode cX12_lay 2 = .ok (.invokevirtual 34, 3) := by decide +kernel
theorem dX12_lay_5 : decode cX12_lay 5 = .ok (.ifCond .ne 6, 3) := by decide +kernel
theorem dX12_lay_8 : decode cX12_lay 8 = .ok (.bipush (-2), 2) := by decide +kernel
theorem dX12_lay_10 : decode cX12_lay 10 = .ok (.ireturn, 1) := by decide +kernel
theorem dX12_lay_11 : decode cX12_lay 11 = .ok (.aload_n 0, 1) := by decide +kernel
theorem dX12_lay_12 : decode cX12_lay 12 = .ok (.getfield 320, 3) := by decide +kernel
theorem dX12_lay_15 : decode cX12_lay 15 = .ok (.aload_n 0, 1) := by decide +kernel
theorem dX12_lay_16 : decode cX12_lay 16 = .ok (.getfield 1, 3) := by decide +kernel
theorem dX12_lay_19 : decode cX12_lay 19 = .ok (.if_icmp .ne 6, 3) := by decide +kernel
theorem dX12_lay_22 : decode cX12_lay 22 = .ok (.bipush (-3), 2) := by decide +kernel
theorem dX12_lay_24 : decode cX12_lay 24 = .ok (.ireturn, 1) := by decide +kernel
theorem dX12_lay_25 : decode cX12_lay 25 = .ok (.aload_n 0, 1) := by decide +kernel
theorem dX12_lay_26 : decode cX12_lay 26 = .ok (.aload_n 0, 1) := by decide +kernel
theorem dX12_lay_27 : decode cX12_lay 27 = .ok (.getfield 323, 3) := by decide +kernel
theorem dX12_lay_30 : decode cX12_lay 30 = .ok (.putfield 225, 3) := by decide +kernel
theorem dX12_lay_33 : decode cX12_lay 33 = .ok (.aload_n 0, 1) := by decide +kernel
theorem dX12_lay_34 : decode cX12_lay 34 = .ok (.getfield 197, 3) := by decide +kernel
theorem dX12_lay_37 : decode cX12_lay 37 = .ok (.aload_n 0, 1) := by decide +kernel
theorem dX12_lay_38 : decode cX12_lay 38 = .ok (.getfield 170, 3) := by decide +kernel
theorem dX12_lay_41 : decode cX12_lay 41 = .ok (.invokestatic 326, 3) := by decide +kernel
theorem dX12_lay_44 : decode cX12_lay 44 = .ok (.aload_n 0, 1) := by decide +kernel
theorem dX12_lay_45 : decode cX12_lay 45 = .ok (.getfield 200, 3) := by decide +kernel
theorem dX12_lay_48 : decode cX12_lay 48 = .ok (.aload_n 0, 1) := by decide +kernel
theorem dX12_lay_49 : decode cX12_lay 49 = .ok (.getfield 173, 3) := by decide +kernel
theorem dX12_lay_52 : decode cX12_lay 52 = .ok (.invokestatic 326, 3) := by decide +kernel
theorem dX12_lay_55 : decode cX12_lay 55 = .ok (.aload_n 0, 1) := by decide +kernel
theorem dX12_lay_56 : decode cX12_lay 56 = .ok (.iload_n 1, 1) := by decide +kernel
theorem dX12_lay_57 : decode cX12_lay 57 = .ok (.aload_n 0, 1) := by decide +kernel
theorem dX12_lay_58 : decode cX12_lay 58 = .ok (.getfield 320, 3) := by decide +kernel
theorem dX12_lay_61 : decode cX12_lay 61 = .ok (.invokevirtual 249, 3) := by decide +kernel
theorem dX12_lay_64 : decode cX12_lay 64 = .ok (.istore_n 2, 1) := by decide +kernel
theorem dX12_lay_65 : decode cX12_lay 65 = .ok (.aload_n 0, 1) := by decide +kernel
theorem dX12_lay_66 : decode cX12_lay 66 = .ok (.aload_n 0, 1) := by decide +kernel
theorem dX12_lay_67 : decode cX12_lay 67 = .ok (.getfield 320, 3) := by decide +kernel
theorem dX12_lay_70 : decode cX12_lay 70 = .ok (.iload_n 2, 1) := by decide +kernel
theorem dX12_lay_71 : decode cX12_lay 71 = .ok (.invokevirtual 253, 3) := by decide +kernel
theorem dX12_lay_74 : decode cX12_lay 74 = .ok (.aload_n 0, 1) := by decide +kernel
theorem dX12_lay_75 : decode cX12_lay 75 = .ok (.dup, 1) := by decide +kernel
theorem dX12_lay_76 : decode cX12_lay 76 = .ok (.getfield 320, 3) := by decide +kernel
theorem dX12_lay_79 : decode cX12_lay 79 = .ok (.iconst 1, 1) := by decide +kernel
theorem dX12_lay_80 : decode cX12_lay 80 = .ok (.iadd, 1) := by decide +kernel
theorem dX12_lay_81 : decode cX12_lay 81 = .ok (.putfield 320, 3) := by decide +kernel
theorem dX12_lay_84 : decode cX12_lay 84 = .ok (.aload_n 0, 1) := by decide +kernel
theorem dX12_lay_85 : decode cX12_lay 85 = .ok (.aload_n 0, 1) := by decide +kernel
theorem dX12_lay_86 : decode cX12_lay 86 = .ok (.getfield 225, 3) := by decide +kernel
theorem dX12_lay_89 : decode cX12_lay 89 = .ok (.putfield 323, 3) := by decide +kernel
theorem dX12_lay_92 : decode cX12_lay 92 = .ok (.aload_n 0, 1) := by decide +kernel
theorem dX12_lay_93 : decode cX12_lay 93 = .ok (.getfield 170, 3) := by decide +kernel
theorem dX12_lay_96 : decode cX12_lay 96 = .ok (.aload_n 0, 1) := by decide +kernel
theorem dX12_lay_97 : decode cX12_lay 97 = .ok (.getfield 197, 3) := by decide +kernel
theorem dX12_lay_100 : decode cX12_lay 100 = .ok (.invokestatic 326, 3) := by decide +kernel
theorem dX12_lay_103 : decode cX12_lay 103 = .ok (.aload_n 0, 1) := by decide +kernel
theorem dX12_lay_104 : decode cX12_lay 104 = .ok (.getfield 173, 3) := by decide +kernel
theorem dX12_lay_107 : decode cX12_lay 107 = .ok (.aload_n 0, 1) := by decide +kernel
theorem dX12_lay_108 : decode cX12_lay 108 = .ok (.getfield 200, 3) := by decide +kernel
theorem dX12_lay_111 : decode cX12_lay 111 = .ok (.invokestatic 326, 3) := by decide +kernel
theorem dX12_lay_114 : decode cX12_lay 114 = .ok (.iload_n 2, 1) := by decide +kernel
theorem dX12_lay_115 : decode cX12_lay 115 = .ok (.ireturn, 1) := by decide +kernel
theorem dX12_take_0 : decode cX12_take 0 = .ok (.iload_n 1, 1) := by decide +kernel
theorem dX12_take_1 : decode cX12_take 1 = .ok (.iconst 0, 1) := by decide +kernel
theorem dX12_take_2 : decode cX12_take 2 = .ok (.aload_n 0, 1) := by decide +kernel
theorem dX12_take_3 : decode cX12_take 3 = .ok (.getfield 323, 3) := by decide +kernel
theorem dX12_take_6 : decode cX12_take 6 = .ok (.iconst 1, 1) := by decide +kernel
theorem dX12_take_7 : decode cX12_take 7 = .ok (.isub, 1) := by decide +kernel
theorem dX12_take_8 : decode cX12_take 8 = .ok (.invokestatic 7, 3) := by decide +kernel
theorem dX12_take_11 : decode cX12_take 11 = .ok (.ifCond .ne 6, 3) := by decide +kernel
theorem dX12_take_14 : decode cX12_take 14 = .ok (.bipush (-2), 2) := by decide +kernel
theorem dX12_take_16 : decode cX12_take 16 = .ok (.ireturn, 1) := by decide +kernel
theorem dX12_take_17 : decode cX12_take 17 = .ok (.aload_n 0, 1) := by decide +kernel
theorem dX12_take_18 : decode cX12_take 18 = .ok (.getfield 197, 3) := by decide +kernel
theorem dX12_take_21 : decode cX12_take 21 = .ok (.iload_n 1, 1) := by decide +kernel
theorem dX12_take_22 : decode cX12_take 22 = .ok (.iaload, 1) := by decide +kernel
theorem dX12_take_23 : decode cX12_take 23 = .ok (.ifCond .ne 6, 3) := by decide +kernel
theorem dX12_take_26 : decode cX12_take 26 = .ok (.bipush (-3), 2) := by decide +kernel
theorem dX12_take_28 : decode cX12_take 28 = .ok (.ireturn, 1) := by decide +kernel
theorem dX12_take_29 : decode cX12_take 29 = .ok (.aload_n 0, 1) := by decide +kernel
theorem dX12_take_30 : decode cX12_take 30 = .ok (.getfield 197, 3) := by decide +kernel
theorem dX12_take_33 : decode cX12_take 33 = .ok (.iload_n 1, 1) := by decide +kernel
theorem dX12_take_34 : decode cX12_take 34 = .ok (.dup2, 1) := by decide +kernel
theorem dX12_take_35 : decode cX12_take 35 = .ok (.iaload, 1) := by decide +kernel
theorem dX12_take_36 : decode cX12_take 36 = .ok (.iconst 1, 1) := by decide +kernel
theorem dX12_take_37 : decode cX12_take 37 = .ok (.isub, 1) := by decide +kernel
theorem dX12_take_38 : decode cX12_take 38 = .ok (.iastore, 1) := by decide +kernel
theorem dX12_take_39 : decode cX12_take 39 = .ok (.aload_n 0, 1) := by decide +kernel
theorem dX12_take_40 : decode cX12_take 40 = .ok (.getfield 200, 3) := by decide +kernel
theorem dX12_take_43 : decode cX12_take 43 = .ok (.bipush 8, 2) := by decide +kernel
theorem dX12_take_45 : decode cX12_take 45 = .ok (.iload_n 1, 1) := by decide +kernel
theorem dX12_take_46 : decode cX12_take 46 = .ok (.imul, 1) := by decide +kernel
theorem dX12_take_47 : decode cX12_take 47 = .ok (.aload_n 0, 1) := by decide +kernel
theorem dX12_take_48 : decode cX12_take 48 = .ok (.getfield 197, 3) := by decide +kernel
theorem dX12_take_51 : decode cX12_take 51 = .ok (.iload_n 1, 1) := by decide +kernel
theorem dX12_take_52 : decode cX12_take 52 = .ok (.iaload, 1) := by decide +kernel
theorem dX12_take_53 : decode cX12_take 53 = .ok (.iadd, 1) := by decide +kernel
theorem dX12_take_54 : decode cX12_take 54 = .ok (.iaload, 1) := by decide +kernel
theorem dX12_take_55 : decode cX12_take 55 = .ok (.ireturn, 1) := by decide +kernel
theorem dX12_on_0 : decode cX12_on 0 = .ok (.iload_n 1, 1) := by decide +kernel
theorem dX12_on_1 : decode cX12_on 1 = .ok (.iconst 0, 1) := by decide +kernel
theorem dX12_on_2 : decode cX12_on 2 = .ok (.aload_n 0, 1) := by decide +kernel
theorem dX12_on_3 : decode cX12_on 3 = .ok (.getfield 323, 3) := by decide +kernel
theorem dX12_on_6 : decode cX12_on 6 = .ok (.iconst 1, 1) := by decide +kernel
theorem dX12_on_7 : decode cX12_on 7 = .ok (.isub, 1) := by decide +kernel
theorem dX12_on_8 : decode cX12_on 8 = .ok (.invokestatic 7, 3) := by decide +kernel
theorem dX12_on_11 : decode cX12_on 11 = .ok (.ifCond .ne 6, 3) := by decide +kernel
theorem dX12_on_14 : decode cX12_on 14 = .ok (.bipush (-2), 2) := by decide +kernel
theorem dX12_on_16 : decode cX12_on 16 = .ok (.ireturn, 1) := by decide +kernel
theorem dX12_on_17 : decode cX12_on 17 = .ok (.iload_n 2, 1) := by decide +kernel
theorem dX12_on_18 : decode cX12_on 18 = .ok (.iconst 0, 1) := by decide +kernel
theorem dX12_on_19 : decode cX12_on 19 = .ok (.aload_n 0, 1) := by decide +kernel
theorem dX12_on_20 : decode cX12_on 20 = .ok (.getfield 197, 3) := by decide +kernel
theorem dX12_on_23 : decode cX12_on 23 = .ok (.iload_n 1, 1) := by decide +kernel
theorem dX12_on_24 : decode cX12_on 24 = .ok (.iaload, 1) := by decide +kernel
theorem dX12_on_25 : decode cX12_on 25 = .ok (.iconst 1, 1) := by decide +kernel
theorem dX12_on_26 : decode cX12_on 26 = .ok (.isub, 1) := by decide +kernel
theorem dX12_on_27 : decode cX12_on 27 = .ok (.invokestatic 7, 3) := by decide +kernel
theorem dX12_on_30 : decode cX12_on 30 = .ok (.ifCond .eq 17, 3) := by decide +kernel
theorem dX12_on_33 : decode cX12_on 33 = .ok (.aload_n 0, 1) := by decide +kernel
theorem dX12_on_34 : decode cX12_on 34 = .ok (.getfield 200, 3) := by decide +kernel
theorem dX12_on_37 : decode cX12_on 37 = .ok (.bipush 8, 2) := by decide +kernel
theorem dX12_on_39 : decode cX12_on 39 = .ok (.iload_n 1, 1) := by decide +kernel
theorem dX12_on_40 : decode cX12_on 40 = .ok (.imul, 1) := by decide +kernel
theorem dX12_on_41 : decode cX12_on 41 = .ok (.iload_n 2, 1) := by decide +kernel
theorem dX12_on_42 : decode cX12_on 42 = .ok (.iadd, 1) := by decide +kernel
theorem dX12_on_43 : decode cX12_on 43 = .ok (.iaload, 1) := by decide +kernel
theorem dX12_on_44 : decode cX12_on 44 = .ok (.goto 4, 3) := by decide +kernel
theorem dX12_on_47 : decode cX12_on 47 = .ok (.iconst (-1), 1) := by decide +kernel
theorem dX12_on_48 : decode cX12_on 48 = .ok (.ireturn, 1) := by decide +kernel
theorem dX12_image_0 : decode cX12_image 0 = .ok (.aload_n 0, 1) := by decide +kernel
theorem dX12_image_1 : decode cX12_image 1 = .ok (.iconst 1, 1) := by decide +kernel
theorem dX12_image_2 : decode cX12_image 2 = .ok (.putfield 330, 3) := by decide +kernel
theorem dX12_image_5 : decode cX12_image 5 = .ok (.aload_n 0, 1) := by decide +kernel
theorem dX12_image_6 : decode cX12_image 6 = .ok (.aload_n 0, 1) := by decide +kernel
theorem dX12_image_7 : decode cX12_image 7 = .ok (.getfield 320, 3) := by decide +kernel
theorem dX12_image_10 : decode cX12_image 10 = .ok (.putfield 334, 3) := by decide +kernel
theorem dX12_image_13 : decode cX12_image 13 = .ok (.aload_n 0, 1) := by decide +kernel
theorem dX12_image_14 : decode cX12_image 14 = .ok (.aload_n 0, 1) := by decide +kernel
theorem dX12_image_15 : decode cX12_image 15 = .ok (.getfield 323, 3) := by decide +kernel
theorem dX12_image_18 : decode cX12_image 18 = .ok (.putfield 337, 3) := by decide +kernel
theorem dX12_image_21 : decode cX12_image 21 = .ok (.aload_n 0, 1) := by decide +kernel
theorem dX12_image_22 : decode cX12_image 22 = .ok (.aload_n 0, 1) := by decide +kernel
theorem dX12_image_23 : decode cX12_image 23 = .ok (.getfield 31, 3) := by decide +kernel
theorem dX12_image_26 : decode cX12_image 26 = .ok (.putfield 340, 3) := by decide +kernel
theorem dX12_image_29 : decode cX12_image 29 = .ok (.aload_n 0, 1) := by decide +kernel
theorem dX12_image_30 : decode cX12_image 30 = .ok (.aload_n 0, 1) := by decide +kernel
theorem dX12_image_31 : decode cX12_image 31 = .ok (.getfield 156, 3) := by decide +kernel
theorem dX12_image_34 : decode cX12_image 34 = .ok (.putfield 343, 3) := by decide +kernel
theorem dX12_image_37 : decode cX12_image 37 = .ok (.aload_n 0, 1) := by decide +kernel
theorem dX12_image_38 : decode cX12_image 38 = .ok (.getfield 197, 3) := by decide +kernel
theorem dX12_image_41 : decode cX12_image 41 = .ok (.aload_n 0, 1) := by decide +kernel
theorem dX12_image_42 : decode cX12_image 42 = .ok (.getfield 203, 3) := by decide +kernel
theorem dX12_image_45 : decode cX12_image 45 = .ok (.invokestatic 326, 3) := by decide +kernel
theorem dX12_image_48 : decode cX12_image 48 = .ok (.aload_n 0, 1) := by decide +kernel
theorem dX12_image_49 : decode cX12_image 49 = .ok (.getfield 200, 3) := by decide +kernel
theorem dX12_image_52 : decode cX12_image 52 = .ok (.aload_n 0, 1) := by decide +kernel
theorem dX12_image_53 : decode cX12_image 53 = .ok (.getfield 206, 3) := by decide +kernel
theorem dX12_image_56 : decode cX12_image 56 = .ok (.invokestatic 326, 3) := by decide +kernel
theorem dX12_image_59 : decode cX12_image 59 = .ok (.aload_n 0, 1) := by decide +kernel
theorem dX12_image_60 : decode cX12_image 60 = .ok (.getfield 320, 3) := by decide +kernel
theorem dX12_image_63 : decode cX12_image 63 = .ok (.ireturn, 1) := by decide +kernel
theorem dX12_back_0 : decode cX12_back 0 = .ok (.aload_n 0, 1) := by decide +kernel
theorem dX12_back_1 : decode cX12_back 1 = .ok (.getfield 330, 3) := by decide +kernel
theorem dX12_back_4 : decode cX12_back 4 = .ok (.ifCond .ne 6, 3) := by decide +kernel
theorem dX12_back_7 : decode cX12_back 7 = .ok (.bipush (-3), 2) := by decide +kernel
theorem dX12_back_9 : decode cX12_back 9 = .ok (.ireturn, 1) := by decide +kernel
theorem dX12_back_10 : decode cX12_back 10 = .ok (.aload_n 0, 1) := by decide +kernel
theorem dX12_back_11 : decode cX12_back 11 = .ok (.aload_n 0, 1) := by decide +kernel
theorem dX12_back_12 : decode cX12_back 12 = .ok (.getfield 334, 3) := by decide +kernel
theorem dX12_back_15 : decode cX12_back 15 = .ok (.putfield 320, 3) := by decide +kernel
theorem dX12_back_18 : decode cX12_back 18 = .ok (.aload_n 0, 1) := by decide +kernel
theorem dX12_back_19 : decode cX12_back 19 = .ok (.aload_n 0, 1) := by decide +kernel
theorem dX12_back_20 : decode cX12_back 20 = .ok (.getfield 337, 3) := by decide +kernel
theorem dX12_back_23 : decode cX12_back 23 = .ok (.putfield 323, 3) := by decide +kernel
theorem dX12_back_26 : decode cX12_back 26 = .ok (.aload_n 0, 1) := by decide +kernel
theorem dX12_back_27 : decode cX12_back 27 = .ok (.aload_n 0, 1) := by decide +kernel
theorem dX12_back_28 : decode cX12_back 28 = .ok (.getfield 340, 3) := by decide +kernel
theorem dX12_back_31 : decode cX12_back 31 = .ok (.putfield 31, 3) := by decide +kernel
theorem dX12_back_34 : decode cX12_back 34 = .ok (.aload_n 0, 1) := by decide +kernel
theorem dX12_back_35 : decode cX12_back 35 = .ok (.aload_n 0, 1) := by decide +kernel
theorem dX12_back_36 : decode cX12_back 36 = .ok (.getfield 343, 3) := by decide +kernel
theorem dX12_back_39 : decode cX12_back 39 = .ok (.putfield 156, 3) := by decide +kernel
theorem dX12_back_42 : decode cX12_back 42 = .ok (.aload_n 0, 1) := by decide +kernel
theorem dX12_back_43 : decode cX12_back 43 = .ok (.getfield 203, 3) := by decide +kernel
theorem dX12_back_46 : decode cX12_back 46 = .ok (.aload_n 0, 1) := by decide +kernel
theorem dX12_back_47 : decode cX12_back 47 = .ok (.getfield 197, 3) := by decide +kernel
theorem dX12_back_50 : decode cX12_back 50 = .ok (.invokestatic 326, 3) := by decide +kernel
theorem dX12_back_53 : decode cX12_back 53 = .ok (.aload_n 0, 1) := by decide +kernel
theorem dX12_back_54 : decode cX12_back 54 = .ok (.getfield 206, 3) := by decide +kernel
theorem dX12_back_57 : decode cX12_back 57 = .ok (.aload_n 0, 1) := by decide +kernel
theorem dX12_back_58 : decode cX12_back 58 = .ok (.getfield 200, 3) := by decide +kernel
theorem dX12_back_61 : decode cX12_back 61 = .ok (.invokestatic 326, 3) := by decide +kernel
theorem dX12_back_64 : decode cX12_back 64 = .ok (.aload_n 0, 1) := by decide +kernel
theorem dX12_back_65 : decode cX12_back 65 = .ok (.getfield 320, 3) := by decide +kernel
theorem dX12_back_68 : decode cX12_back 68 = .ok (.ireturn, 1) := by decide +kernel
theorem dX12_count_0 : decode cX12_count 0 = .ok (.iload_n 1, 1) := by decide +kernel
theorem dX12_count_1 : decode cX12_count 1 = .ok (.tableswitch 87 0 7 #[47, 52, 57, 62, 67, 72, 77, 82], 47) := by decide +kernel
theorem dX12_count_48 : decode cX12_count 48 = .ok (.aload_n 0, 1) := by decide +kernel
theorem dX12_count_49 : decode cX12_count 49 = .ok (.getfield 1, 3) := by decide +kernel
theorem dX12_count_52 : decode cX12_count 52 = .ok (.ireturn, 1) := by decide +kernel
theorem dX12_count_53 : decode cX12_count 53 = .ok (.aload_n 0, 1) := by decide +kernel
theorem dX12_count_54 : decode cX12_count 54 = .ok (.getfield 11, 3) := by decide +kernel
theorem dX12_count_57 : decode cX12_count 57 = .ok (.ireturn, 1) := by decide +kernel
theorem dX12_count_58 : decode cX12_count 58 = .ok (.aload_n 0, 1) := by decide +kernel
theorem dX12_count_59 : decode cX12_count 59 = .ok (.getfield 320, 3) := by decide +kernel
theorem dX12_count_62 : decode cX12_count 62 = .ok (.ireturn, 1) := by decide +kernel
theorem dX12_count_63 : decode cX12_count 63 = .ok (.aload_n 0, 1) := by decide +kernel
theorem dX12_count_64 : decode cX12_count 64 = .ok (.getfield 323, 3) := by decide +kernel
theorem dX12_count_67 : decode cX12_count 67 = .ok (.ireturn, 1) := by decide +kernel
theorem dX12_count_68 : decode cX12_count 68 = .ok (.aload_n 0, 1) := by decide +kernel
theorem dX12_count_69 : decode cX12_count 69 = .ok (.getfield 31, 3) := by decide +kernel
theorem dX12_count_72 : decode cX12_count 72 = .ok (.ireturn, 1) := by decide +kernel
theorem dX12_count_73 : decode cX12_count 73 = .ok (.aload_n 0, 1) := by decide +kernel
theorem dX12_count_74 : decode cX12_count 74 = .ok (.getfield 150, 3) := by decide +kernel
theorem dX12_count_77 : decode cX12_count 77 = .ok (.ireturn, 1) := by decide +kernel
theorem dX12_count_78 : decode cX12_count 78 = .ok (.aload_n 0, 1) := by decide +kernel
theorem dX12_count_79 : decode cX12_count 79 = .ok (.getfield 48, 3) := by decide +kernel
theorem dX12_count_82 : decode cX12_count 82 = .ok (.ireturn, 1) := by decide +kernel
theorem dX12_count_83 : decode cX12_count 83 = .ok (.aload_n 0, 1) := by decide +kernel
theorem dX12_count_84 : decode cX12_count 84 = .ok (.getfield 156, 3) := by decide +kernel
theorem dX12_count_87 : decode cX12_count 87 = .ok (.ireturn, 1) := by decide +kernel
theorem dX12_count_88 : decode cX12_count 88 = .ok (.bipush (-2), 2) := by decide +kernel
theorem dX12_count_90 : decode cX12_count 90 = .ok (.ireturn, 1) := by decide +kernel
theorem dX12_sheet_0 : decode cX12_sheet 0 = .ok (.iload_n 1, 1) := by decide +kernel
theorem dX12_sheet_1 : decode cX12_sheet 1 = .ok (.invokestatic 317, 3) := by decide +kernel
theorem dX12_sheet_4 : decode cX12_sheet 4 = .ok (.ifCond .eq 22, 3) := by decide +kernel
theorem dX12_sheet_7 : decode cX12_sheet 7 = .ok (.iload_n 2, 1) := by decide +kernel
theorem dX12_sheet_8 : decode cX12_sheet 8 = .ok (.iconst (-1), 1) := by decide +kernel
theorem dX12_sheet_9 : decode cX12_sheet 9 = .ok (.iconst 2, 1) := by decide +kernel
theorem dX12_sheet_10 : decode cX12_sheet 10 = .ok (.invokestatic 7, 3) := by decide +kernel
theorem dX12_sheet_13 : decode cX12_sheet 13 = .ok (.ifCond .eq 13, 3) := by decide +kernel
theorem dX12_sheet_16 : decode cX12_sheet 16 = .ok (.iload_n 2, 1) := by decide +kernel
theorem dX12_sheet_17 : decode cX12_sheet 17 = .ok (.ifCond .lt 12, 3) := by decide +kernel
theorem dX12_sheet_20 : decode cX12_sheet 20 = .ok (.iload_n 3, 1) := by decide +kernel
theorem dX12_sheet_21 : decode cX12_sheet 21 = .ok (.bipush 40, 2) := by decide +kernel
theorem dX12_sheet_23 : decode cX12_sheet 23 = .ok (.if_icmp .le 6, 3) := by decide +kernel
theorem dX12_sheet_26 : decode cX12_sheet 26 = .ok (.bipush (-2), 2) := by decide +kernel
theorem dX12_sheet_28 : decode cX12_sheet 28 = .ok (.ireturn, 1) := by decide +kernel
theorem dX12_sheet_29 : decode cX12_sheet 29 = .ok (.iload_n 2, 1) := by decide +kernel
theorem dX12_sheet_30 : decode cX12_sheet 30 = .ok (.ifCond .lt 10, 3) := by decide +kernel
theorem dX12_sheet_33 : decode cX12_sheet 33 = .ok (.iload_n 3, 1) := by decide +kernel
theorem dX12_sheet_34 : decode cX12_sheet 34 = .ok (.ifCond .ge 6, 3) := by decide +kernel
theorem dX12_sheet_37 : decode cX12_sheet 37 = .ok (.bipush (-14), 2) := by decide +kernel
theorem dX12_sheet_39 : decode cX12_sheet 39 = .ok (.ireturn, 1) := by decide +kernel
theorem dX12_sheet_40 : decode cX12_sheet 40 = .ok (.aload_n 0, 1) := by decide +kernel
theorem dX12_sheet_41 : decode cX12_sheet 41 = .ok (.getfield 209, 3) := by decide +kernel
theorem dX12_sheet_44 : decode cX12_sheet 44 = .ok (.iload_n 1, 1) := by decide +kernel
theorem dX12_sheet_45 : decode cX12_sheet 45 = .ok (.iload_n 2, 1) := by decide +kernel
theorem dX12_sheet_46 : decode cX12_sheet 46 = .ok (.iastore, 1) := by decide +kernel
theorem dX12_sheet_47 : decode cX12_sheet 47 = .ok (.aload_n 0, 1) := by decide +kernel
theorem dX12_sheet_48 : decode cX12_sheet 48 = .ok (.getfield 212, 3) := by decide +kernel
theorem dX12_sheet_51 : decode cX12_sheet 51 = .ok (.iload_n 1, 1) := by decide +kernel
theorem dX12_sheet_52 : decode cX12_sheet 52 = .ok (.iload_n 2, 1) := by decide +kernel
theorem dX12_sheet_53 : decode cX12_sheet 53 = .ok (.ifCond .ge 7, 3) := by decide +kernel
theorem dX12_sheet_56 : decode cX12_sheet 56 = .ok (.iconst 0, 1) := by decide +kernel
theorem dX12_sheet_57 : decode cX12_sheet 57 = .ok (.goto 4, 3) := by decide +kernel
theorem dX12_sheet_60 : decode cX12_sheet 60 = .ok (.iload_n 3, 1) := by decide +kernel
theorem dX12_sheet_61 : decode cX12_sheet 61 = .ok (.iastore, 1) := by decide +kernel
theorem dX12_sheet_62 : decode cX12_sheet 62 = .ok (.iconst 0, 1) := by decide +kernel
theorem dX12_sheet_63 : decode cX12_sheet 63 = .ok (.istore 4, 2) := by decide +kernel
theorem dX12_sheet_65 : decode cX12_sheet 65 = .ok (.iload 4, 2) := by decide +kernel
theorem dX12_sheet_67 : decode cX12_sheet 67 = .ok (.bipush 40, 2) := by decide +kernel
theorem dX12_sheet_69 : decode cX12_sheet 69 = .ok (.if_icmp .ge 22, 3) := by decide +kernel
theorem dX12_sheet_72 : decode cX12_sheet 72 = .ok (.aload_n 0, 1) := by decide +kernel
theorem dX12_sheet_73 : decode cX12_sheet 73 = .ok (.getfield 215, 3) := by decide +kernel
theorem dX12_sheet_76 : decode cX12_sheet 76 = .ok (.bipush 40, 2) := by decide +kernel
theorem dX12_sheet_78 : decode cX12_sheet 78 = .ok (.iload_n 1, 1) := by decide +kernel
theorem dX12_sheet_79 : decode cX12_sheet 79 = .ok (.imul, 1) := by decide +kernel
theorem dX12_sheet_80 : decode cX12_sheet 80 = .ok (.iload 4, 2) := by decide +kernel
theorem dX12_sheet_82 : decode cX12_sheet 82 = .ok (.iadd, 1) := by decide +kernel
theorem dX12_sheet_83 : decode cX12_sheet 83 = .ok (.iconst 0, 1) := by decide +kernel
theorem dX12_sheet_84 : decode cX12_sheet 84 = .ok (.iastore, 1) := by decide +kernel
theorem dX12_sheet_85 : decode cX12_sheet 85 = .ok (.iinc 4 1, 3) := by decide +kernel
theorem dX12_sheet_88 : decode cX12_sheet 88 = .ok (.goto (-23), 3) := by decide +kernel
theorem dX12_sheet_91 : decode cX12_sheet 91 = .ok (.iconst 1, 1) := by decide +kernel
theorem dX12_sheet_92 : decode cX12_sheet 92 = .ok (.ireturn, 1) := by decide +kernel
theorem dX12_cell_0 : decode cX12_cell 0 = .ok (.iload_n 1, 1) := by decide +kernel
theorem dX12_cell_1 : decode cX12_cell 1 = .ok (.invokestatic 317, 3) := by decide +kernel
theorem dX12_cell_4 : decode cX12_cell 4 = .ok (.ifCond .ne 6, 3) := by decide +kernel
theorem dX12_cell_7 : decode cX12_cell 7 = .ok (.bipush (-2), 2) := by decide +kernel
theorem dX12_cell_9 : decode cX12_cell 9 = .ok (.ireturn, 1) := by decide +kernel
theorem dX12_cell_10 : decode cX12_cell 10 = .ok (.aload_n 0, 1) := by decide +kernel
theorem dX12_cell_11 : decode cX12_cell 11 = .ok (.getfield 209, 3) := by decide +kernel
theorem dX12_cell_14 : decode cX12_cell 14 = .ok (.iload_n 1, 1) := by decide +kernel
theorem dX12_cell_15 : decode cX12_cell 15 = .ok (.iaload, 1) := by decide +kernel
theorem dX12_cell_16 : decode cX12_cell 16 = .ok (.ifCond .ge 6, 3) := by decide +kernel
theorem dX12_cell_19 : decode cX12_cell 19 = .ok (.bipush (-11), 2) := by decide +kernel
theorem dX12_cell_21 : decode cX12_cell 21 = .ok (.ireturn, 1) := by decide +kernel
theorem dX12_cell_22 : decode cX12_cell 22 = .ok (.iload_n 2, 1) := by decide +kernel
theorem dX12_cell_23 : decode cX12_cell 23 = .ok (.iconst 0, 1) := by decide +kernel
theorem dX12_cell_24 : decode cX12_cell 24 = .ok (.aload_n 0, 1) := by decide +kernel
theorem dX12_cell_25 : decode cX12_cell 25 = .ok (.getfield 212, 3) := by decide +kernel
theorem dX12_cell_28 : decode cX12_cell 28 = .ok (.iload_n 1, 1) := by decide +kernel
theorem dX12_cell_29 : decode cX12_cell 29 = .ok (.iaload, 1) := by decide +kernel
theorem dX12_cell_30 : decode cX12_cell 30 = .ok (.iconst 1, 1) := by decide +kernel
theorem dX12_cell_31 : decode cX12_cell 31 = .ok (.isub, 1) := by decide +kernel
theorem dX12_cell_32 : decode cX12_cell 32 = .ok (.invokestatic 7, 3) := by decide +kernel
theorem dX12_cell_35 : decode cX12_cell 35 = .ok (.ifCond .ne 6, 3) := by decide +kernel
theorem dX12_cell_38 : decode cX12_cell 38 = .ok (.bipush (-12), 2) := by decide +kernel
theorem dX12_cell_40 : decode cX12_cell 40 = .ok (.ireturn, 1) := by decide +kernel
theorem dX12_cell_41 : decode cX12_cell 41 = .ok (.aload_n 0, 1) := by decide +kernel
theorem dX12_cell_42 : decode cX12_cell 42 = .ok (.getfield 215, 3) := by decide +kernel
theorem dX12_cell_45 : decode cX12_cell 45 = .ok (.bipush 40, 2) := by decide +kernel
theorem dX12_cell_47 : decode cX12_cell 47 = .ok (.iload_n 1, 1) := by decide +kernel
theorem dX12_cell_48 : decode cX12_cell 48 = .ok (.imul, 1) := by decide +kernel
theorem dX12_cell_49 : decode cX12_cell 49 = .ok (.iload_n 2, 1) := by decide +kernel
theorem dX12_cell_50 : decode cX12_cell 50 = .ok (.iadd, 1) := by decide +kernel
theorem dX12_cell_51 : decode cX12_cell 51 = .ok (.aload_n 0, 1) := by decide +kernel
theorem dX12_cell_52 : decode cX12_cell 52 = .ok (.getfield 209, 3) := by decide +kernel
theorem dX12_cell_55 : decode cX12_cell 55 = .ok (.iload_n 1, 1) := by decide +kernel
theorem dX12_cell_56 : decode cX12_cell 56 = .ok (.iaload, 1) := by decide +kernel
theorem dX12_cell_57 : decode cX12_cell 57 = .ok (.ifCond .ne 8, 3) := by decide +kernel
theorem dX12_cell_60 : decode cX12_cell 60 = .ok (.iload_n 3, 1) := by decide +kernel
theorem dX12_cell_61 : decode cX12_cell 61 = .ok (.i2b, 1) := by decide +kernel
theorem dX12_cell_62 : decode cX12_cell 62 = .ok (.goto 19, 3) := by decide +kernel
theorem dX12_cell_65 : decode cX12_cell 65 = .ok (.aload_n 0, 1) := by decide +kernel
theorem dX12_cell_66 : decode cX12_cell 66 = .ok (.getfield 209, 3) := by decide +kernel
theorem dX12_cell_69 : decode cX12_cell 69 = .ok (.iload_n 1, 1) := by decide +kernel
theorem dX12_cell_70 : decode cX12_cell 70 = .ok (.iaload, 1) := by decide +kernel
theorem dX12_cell_71 : decode cX12_cell 71 = .ok (.iconst 1, 1) := by decide +kernel
theorem dX12_cell_72 : decode cX12_cell 72 = .ok (.if_icmp .ne 8, 3) := by decide +kernel
theorem dX12_cell_75 : decode cX12_cell 75 = .ok (.iload_n 3, 1) := by decide +kernel
theorem dX12_cell_76 : decode cX12_cell 76 = .ok (.i2s, 1) := by decide +kernel
theorem dX12_cell_77 : decode cX12_cell 77 = .ok (.goto 4, 3) := by decide +kernel
theorem dX12_cell_80 : decode cX12_cell 80 = .ok (.iload_n 3, 1) := by decide +kernel
theorem dX12_cell_81 : decode cX12_cell 81 = .ok (.iastore, 1) := by decide +kernel
theorem dX12_cell_82 : decode cX12_cell 82 = .ok (.iconst 1, 1) := by decide +kernel
theorem dX12_cell_83 : decode cX12_cell 83 = .ok (.ireturn, 1) := by decide +kernel
theorem dX12_copy_0 : decode cX12_copy 0 = .ok (.iload_n 1, 1) := by decide +kernel
theorem dX12_copy_1 : decode cX12_copy 1 = .ok (.invokestatic 317, 3) := by decide +kernel
theorem dX12_copy_4 : decode cX12_copy 4 = .ok (.ifCond .eq 10, 3) := by decide +kernel
theorem dX12_copy_7 : decode cX12_copy 7 = .ok (.iload_n 3, 1) := by decide +kernel
theorem dX12_copy_8 : decode cX12_copy 8 = .ok (.invokestatic 317, 3) := by decide +kernel
theorem dX12_copy_11 : decode cX12_copy 11 = .ok (.ifCond .ne 6, 3) := by decide +kernel
theorem dX12_copy_14 : decode cX12_copy 14 = .ok (.bipush (-2), 2) := by decide +kernel
theorem dX12_copy_16 : decode cX12_copy 16 = .ok (.ireturn, 1) := by decide +kernel
theorem dX12_copy_17 : decode cX12_copy 17 = .ok (.aload_n 0, 1) := by decide +kernel
theorem dX12_copy_18 : decode cX12_copy 18 = .ok (.getfield 209, 3) := by decide +kernel
theorem dX12_copy_21 : decode cX12_copy 21 = .ok (.iload_n 1, 1) := by decide +kernel
theorem dX12_copy_22 : decode cX12_copy 22 = .ok (.iaload, 1) := by decide +kernel
theorem dX12_copy_23 : decode cX12_copy 23 = .ok (.ifCond .lt 12, 3) := by decide +kernel
theorem dX12_copy_26 : decode cX12_copy 26 = .ok (.aload_n 0, 1) := by decide +kernel
theorem dX12_copy_27 : decode cX12_copy 27 = .ok (.getfield 209, 3) := by decide +kernel
theorem dX12_copy_30 : decode cX12_copy 30 = .ok (.iload_n 3, 1) := by decide +kernel
theorem dX12_copy_31 : decode cX12_copy 31 = .ok (.iaload, 1) := by decide +kernel
theorem dX12_copy_32 : decode cX12_copy 32 = .ok (.ifCond .ge 6, 3) := by decide +kernel
theorem dX12_copy_35 : decode cX12_copy 35 = .ok (.bipush (-11), 2) := by decide +kernel
theorem dX12_copy_37 : decode cX12_copy 37 = .ok (.ireturn, 1) := by decide +kernel
theorem dX12_copy_38 : decode cX12_copy 38 = .ok (.aload_n 0, 1) := by decide +kernel
theorem dX12_copy_39 : decode cX12_copy 39 = .ok (.getfield 209, 3) := by decide +kernel
theorem dX12_copy_42 : decode cX12_copy 42 = .ok (.iload_n 1, 1) := by decide +kernel
theorem dX12_copy_43 : decode cX12_copy 43 = .ok (.iaload, 1) := by decide +kernel
theorem dX12_copy_44 : decode cX12_copy 44 = .ok (.aload_n 0, 1) := by decide +kernel
theorem dX12_copy_45 : decode cX12_copy 45 = .ok (.getfield 209, 3) := by decide +kernel
theorem dX12_copy_48 : decode cX12_copy 48 = .ok (.iload_n 3, 1) := by decide +kernel
theorem dX12_copy_49 : decode cX12_copy 49 = .ok (.iaload, 1) := by decide +kernel
theorem dX12_copy_50 : decode cX12_copy 50 = .ok (.if_icmp .eq 6, 3) := by decide +kernel
theorem dX12_copy_53 : decode cX12_copy 53 = .ok (.bipush (-13), 2) := by decide +kernel
theorem dX12_copy_55 : decode cX12_copy 55 = .ok (.ireturn, 1) := by decide +kernel
theorem dX12_copy_56 : decode cX12_copy 56 = .ok (.iload 5, 2) := by decide +kernel
theorem dX12_copy_58 : decode cX12_copy 58 = .ok (.ifCond .lt 39, 3) := by decide +kernel
theorem dX12_copy_61 : decode cX12_copy 61 = .ok (.iload_n 2, 1) := by decide +kernel
theorem dX12_copy_62 : decode cX12_copy 62 = .ok (.ifCond .lt 35, 3) := by decide +kernel
theorem dX12_copy_65 : decode cX12_copy 65 = .ok (.iload 4, 2) := by decide +kernel
theorem dX12_copy_67 : decode cX12_copy 67 = .ok (.ifCond .lt 30, 3) := by decide +kernel
theorem dX12_copy_70 : decode cX12_copy 70 = .ok (.iload 5, 2) := by decide +kernel
theorem dX12_copy_72 : decode cX12_copy 72 = .ok (.aload_n 0, 1) := by decide +kernel
theorem dX12_copy_73 : decode cX12_copy 73 = .ok (.getfield 212, 3) := by decide +kernel
theorem dX12_copy_76 : decode cX12_copy 76 = .ok (.iload_n 1, 1) := by decide +kernel
theorem dX12_copy_77 : decode cX12_copy 77 = .ok (.iaload, 1) := by decide +kernel
theorem dX12_copy_78 : decode cX12_copy 78 = .ok (.iload_n 2, 1) := by decide +kernel
theorem dX12_copy_79 : decode cX12_copy 79 = .ok (.isub, 1) := by decide +kernel
theorem dX12_copy_80 : decode cX12_copy 80 = .ok (.if_icmp .gt 17, 3) := by decide +kernel
theorem dX12_copy_83 : decode cX12_copy 83 = .ok (.iload 5, 2) := by decide +kernel
theorem dX12_copy_85 : decode cX12_copy 85 = .ok (.aload_n 0, 1) := by decide +kernel
theorem dX12_copy_86 : decode cX12_copy 86 = .ok (.getfield 212, 3) := by decide +kernel
theorem dX12_copy_89 : decode cX12_copy 89 = .ok (.iload_n 3, 1) := by decide +kernel
theorem dX12_copy_90 : decode cX12_copy 90 = .ok (.iaload, 1) := by decide +kernel
theorem dX12_copy_91 : decode cX12_copy 91 = .ok (.iload 4, 2) := by decide +kernel
theorem dX12_copy_93 : decode cX12_copy 93 = .ok (.isub, 1) := by decide +kernel
theorem dX12_copy_94 : decode cX12_copy 94 = .ok (.if_icmp .le 6, 3) := by decide +kernel
theorem dX12_copy_97 : decode cX12_copy 97 = .ok (.bipush (-12), 2) := by decide +kernel
theorem dX12_copy_99 : decode cX12_copy 99 = .ok (.ireturn, 1) := by decide +kernel
theorem dX12_copy_100 : decode cX12_copy 100 = .ok (.iconst 0, 1) := by decide +kernel
theorem dX12_copy_101 : decode cX12_copy 101 = .ok (.istore 6, 2) := by decide +kernel
theorem dX12_copy_103 : decode cX12_copy 103 = .ok (.iload 6, 2) := by decide +kernel
theorem dX12_copy_105 : decode cX12_copy 105 = .ok (.iload 5, 2) := by decide +kernel
theorem dX12_copy_107 : decode cX12_copy 107 = .ok (.if_icmp .ge 30, 3) := by decide +kernel
theorem dX12_copy_110 : decode cX12_copy 110 = .ok (.aload_n 0, 1) := by decide +kernel
theorem dX12_copy_111 : decode cX12_copy 111 = .ok (.getfield 218, 3) := by decide +kernel
theorem dX12_copy_114 : decode cX12_copy 114 = .ok (.iload 6, 2) := by decide +kernel
theorem dX12_copy_116 : decode cX12_copy 116 = .ok (.aload_n 0, 1) := by decide +kernel
theorem dX12_copy_117 : decode cX12_copy 117 = .ok (.getfield 215, 3) := by decide +kernel
theorem dX12_copy_120 : decode cX12_copy 120 = .ok (.bipush 40, 2) := by decide +kernel
theorem dX12_copy_122 : decode cX12_copy 122 = .ok (.iload_n 1, 1) := by decide +kernel
theorem dX12_copy_123 : decode cX12_copy 123 = .ok (.imul, 1) := by decide +kernel
theorem dX12_copy_124 : decode cX12_copy 124 = .ok (.iload_n 2, 1) := by decide +kernel
theorem dX12_copy_125 : decode cX12_copy 125 = .ok (.iadd, 1) := by decide +kernel
theorem dX12_copy_126 : decode cX12_copy 126 = .ok (.iload 6, 2) := by decide +kernel
theorem dX12_copy_128 : decode cX12_copy 128 = .ok (.iadd, 1) := by decide +kernel
theorem dX12_copy_129 : decode cX12_copy 129 = .ok (.iaload, 1) := by decide +kernel
theorem dX12_copy_130 : decode cX12_copy 130 = .ok (.iastore, 1) := by decide +kernel
theorem dX12_copy_131 : decode cX12_copy 131 = .ok (.iinc 6 1, 3) := by decide +kernel
theorem dX12_copy_134 : decode cX12_copy 134 = .ok (.goto (-31), 3) := by decide +kernel
theorem dX12_copy_137 : decode cX12_copy 137 = .ok (.iconst 0, 1) := by decide +kernel
theorem dX12_copy_138 : decode cX12_copy 138 = .ok (.istore 6, 2) := by decide +kernel
theorem dX12_copy_140 : decode cX12_copy 140 = .ok (.iload 6, 2) := by decide +kernel
theorem dX12_copy_142 : decode cX12_copy 142 = .ok (.iload 5, 2) := by decide +kernel
theorem dX12_copy_144 : decode cX12_copy 144 = .ok (.if_icmp .ge 31, 3) := by decide +kernel
theorem dX12_copy_147 : decode cX12_copy 147 = .ok (.aload_n 0, 1) := by decide +kernel
theorem dX12_copy_148 : decode cX12_copy 148 = .ok (.getfield 215, 3) := by decide +kernel
theorem dX12_copy_151 : decode cX12_copy 151 = .ok (.bipush 40, 2) := by decide +kernel
theorem dX12_copy_153 : decode cX12_copy 153 = .ok (.iload_n 3, 1) := by decide +kernel
theorem dX12_copy_154 : decode cX12_copy 154 = .ok (.imul, 1) := by decide +kernel
theorem dX12_copy_155 : decode cX12_copy 155 = .ok (.iload 4, 2) := by decide +kernel
theorem dX12_copy_157 : decode cX12_copy 157 = .ok (.iadd, 1) := by decide +kernel
theorem dX12_copy_158 : decode cX12_copy 158 = .ok (.iload 6, 2) := by decide +kernel
theorem dX12_copy_160 : decode cX12_copy 160 = .ok (.iadd, 1) := by decide +kernel
theorem dX12_copy_161 : decode cX12_copy 161 = .ok (.aload_n 0, 1) := by decide +kernel
theorem dX12_copy_162 : decode cX12_copy 162 = .ok (.getfield 218, 3) := by decide +kernel
theorem dX12_copy_165 : decode cX12_copy 165 = .ok (.iload 6, 2) := by decide +kernel
theorem dX12_copy_167 : decode cX12_copy 167 = .ok (.iaload, 1) := by decide +kernel
theorem dX12_copy_168 : decode cX12_copy 168 = .ok (.iastore, 1) := by decide +kernel
theorem dX12_copy_169 : decode cX12_copy 169 = .ok (.iinc 6 1, 3) := by decide +kernel
theorem dX12_copy_172 : decode cX12_copy 172 = .ok (.goto (-32), 3) := by decide +kernel
theorem dX12_copy_175 : decode cX12_copy 175 = .ok (.iload 5, 2) := by decide +kernel
theorem dX12_copy_177 : decode cX12_copy 177 = .ok (.ireturn, 1) := by decide +kernel
theorem dX12_plates_0 : decode cX12_plates 0 = .ok (.iload_n 1, 1) := by decide +kernel
theorem dX12_plates_1 : decode cX12_plates 1 = .ok (.invokestatic 317, 3) := by decide +kernel
theorem dX12_plates_4 : decode cX12_plates 4 = .ok (.ifCond .eq 23, 3) := by decide +kernel
theorem dX12_plates_7 : decode cX12_plates 7 = .ok (.iload_n 2, 1) := by decide +kernel
theorem dX12_plates_8 : decode cX12_plates 8 = .ok (.iconst 0, 1) := by decide +kernel
theorem dX12_plates_9 : decode cX12_plates 9 = .ok (.iconst 2, 1) := by decide +kernel
theorem dX12_plates_10 : decode cX12_plates 10 = .ok (.invokestatic 7, 3) := by decide +kernel
theorem dX12_plates_13 : decode cX12_plates 13 = .ok (.ifCond .eq 14, 3) := by decide +kernel
theorem dX12_plates_16 : decode cX12_plates 16 = .ok (.iload 4, 2) := by decide +kernel
theorem dX12_plates_18 : decode cX12_plates 18 = .ok (.iconst 0, 1) := by decide +kernel
theorem dX12_plates_19 : decode cX12_plates 19 = .ok (.bipush 8, 2) := by decide +kernel
theorem dX12_plates_21 : decode cX12_plates 21 = .ok (.invokestatic 7, 3) := by decide +kernel
theorem dX12_plates_24 : decode cX12_plates 24 = .ok (.ifCond .ne 6, 3) := by decide +kernel
theorem dX12_plates_27 : decode cX12_plates 27 = .ok (.bipush (-2), 2) := by decide +kernel
theorem dX12_plates_29 : decode cX12_plates 29 = .ok (.ireturn, 1) := by decide +kernel
theorem dX12_plates_30 : decode cX12_plates 30 = .ok (.aload_n 0, 1) := by decide +kernel
theorem dX12_plates_31 : decode cX12_plates 31 = .ok (.getfield 209, 3) := by decide +kernel
theorem dX12_plates_34 : decode cX12_plates 34 = .ok (.iload_n 1, 1) := by decide +kernel
theorem dX12_plates_35 : decode cX12_plates 35 = .ok (.iaload, 1) := by decide +kernel
theorem dX12_plates_36 : decode cX12_plates 36 = .ok (.ifCond .lt 16, 3) := by decide +kernel
theorem dX12_plates_39 : decode cX12_plates 39 = .ok (.aload_n 0, 1) := by decide +kernel
theorem dX12_plates_40 : decode cX12_plates 40 = .ok (.getfield 209, 3) := by decide +kernel
theorem dX12_plates_43 : decode cX12_plates 43 = .ok (.iload_n 1, 1) := by decide +kernel
theorem dX12_plates_44 : decode cX12_plates 44 = .ok (.iaload, 1) := by decide +kernel
theorem dX12_plates_45 : decode cX12_plates 45 = .ok (.iload_n 2, 1) := by decide +kernel
theorem dX12_plates_46 : decode cX12_plates 46 = .ok (.if_icmp .eq 6, 3) := by decide +kernel
theorem dX12_plates_49 : decode cX12_plates 49 = .ok (.bipush (-13), 2) := by decide +kernel
theorem dX12_plates_51 : decode cX12_plates 51 = .ok (.ireturn, 1) := by decide +kernel
theorem dX12_plates_52 : decode cX12_plates 52 = .ok (.aload_n 0, 1) := by decide +kernel
theorem dX12_plates_53 : decode cX12_plates 53 = .ok (.getfield 209, 3) := by decide +kernel
theorem dX12_plates_56 : decode cX12_plates 56 = .ok (.iload_n 1, 1) := by decide +kernel
theorem dX12_plates_57 : decode cX12_plates 57 = .ok (.iaload, 1) := by decide +kernel
theorem dX12_plates_58 : decode cX12_plates 58 = .ok (.ifCond .ge 6, 3) := by decide +kernel
theorem dX12_plates_61 : decode cX12_plates 61 = .ok (.bipush (-11), 2) := by decide +kernel
theorem dX12_plates_63 : decode cX12_plates 63 = .ok (.ireturn, 1) := by decide +kernel
theorem dX12_plates_64 : decode cX12_plates 64 = .ok (.iconst 0, 1) := by decide +kernel
theorem dX12_plates_65 : decode cX12_plates 65 = .ok (.istore 5, 2) := by decide +kernel
theorem dX12_plates_67 : decode cX12_plates 67 = .ok (.iconst 0, 1) := by decide +kernel
theorem dX12_plates_68 : decode cX12_plates 68 = .ok (.istore 6, 2) := by decide +kernel
theorem dX12_plates_70 : decode cX12_plates 70 = .ok (.iload 6, 2) := by decide +kernel
theorem dX12_plates_72 : decode cX12_plates 72 = .ok (.iload 4, 2) := by decide +kernel
theorem dX12_plates_74 : decode cX12_plates 74 = .ok (.if_icmp .ge 89, 3) := by decide +kernel
theorem dX12_plates_77 : decode cX12_plates 77 = .ok (.iload_n 3, 1) := by decide +kernel
theorem dX12_plates_78 : decode cX12_plates 78 = .ok (.i2l, 1) := by decide +kernel
theorem dX12_plates_79 : decode cX12_plates 79 = .ok (.ldc2_w 346, 3) := by decide +kernel
theorem dX12_plates_82 : decode cX12_plates 82 = .ok (.iload 6, 2) := by decide +kernel
theorem dX12_plates_84 : decode cX12_plates 84 = .ok (.i2l, 1) := by decide +kernel
theorem dX12_plates_85 : decode cX12_plates 85 = .ok (.lmul, 1) := by decide +kernel
theorem dX12_plates_86 : decode cX12_plates 86 = .ok (.ladd, 1) := by decide +kernel
theorem dX12_plates_87 : decode cX12_plates 87 = .ok (.lstore 7, 2) := by decide +kernel
theorem dX12_plates_89 : decode cX12_plates 89 = .ok (.lload 7, 2) := by decide +kernel
theorem dX12_plates_91 : decode cX12_plates 91 = .ok (.lconst 0, 1) := by decide +kernel
theorem dX12_plates_92 : decode cX12_plates 92 = .ok (.lcmp, 1) := by decide +kernel
theorem dX12_plates_93 : decode cX12_plates 93 = .ok (.ifCond .lt 18, 3) := by decide +kernel
theorem dX12_plates_96 : decode cX12_plates 96 = .ok (.lload 7, 2) := by decide +kernel
theorem dX12_plates_98 : decode cX12_plates 98 = .ok (.lconst 1, 1) := by decide +kernel
theorem dX12_plates_99 : decode cX12_plates 99 = .ok (.ladd, 1) := by decide +kernel
theorem dX12_plates_100 : decode cX12_plates 100 = .ok (.aload_n 0, 1) := by decide +kernel
theorem dX12_plates_101 : decode cX12_plates 101 = .ok (.getfield 212, 3) := by decide +kernel
theorem dX12_plates_104 : decode cX12_plates 104 = .ok (.iload_n 1, 1) := by decide +kernel
theorem dX12_plates_105 : decode cX12_plates 105 = .ok (.iaload, 1) := by decide +kernel
theorem dX12_plates_106 : decode cX12_plates 106 = .ok (.i2l, 1) := by decide +kernel
theorem dX12_plates_107 : decode cX12_plates 107 = .ok (.lcmp, 1) := by decide +kernel
theorem dX12_plates_108 : decode cX12_plates 108 = .ok (.ifCond .lt 6, 3) := by decide +kernel
theorem dX12_plates_111 : decode cX12_plates 111 = .ok (.bipush (-12), 2) := by decide +kernel
theorem dX12_plates_113 : decode cX12_plates 113 = .ok (.ireturn, 1) := by decide +kernel
theorem dX12_plates_114 : decode cX12_plates 114 = .ok (.bipush 40, 2) := by decide +kernel
theorem dX12_plates_116 : decode cX12_plates 116 = .ok (.iload_n 1, 1) := by decide +kernel
theorem dX12_plates_117 : decode cX12_plates 117 = .ok (.imul, 1) := by decide +kernel
theorem dX12_plates_118 : decode cX12_plates 118 = .ok (.lload 7, 2) := by decide +kernel
theorem dX12_plates_120 : decode cX12_plates 120 = .ok (.l2i, 1) := by decide +kernel
theorem dX12_plates_121 : decode cX12_plates 121 = .ok (.iadd, 1) := by decide +kernel
theorem dX12_plates_122 : decode cX12_plates 122 = .ok (.istore 9, 2) := by decide +kernel
theorem dX12_plates_124 : decode cX12_plates 124 = .ok (.iload 5, 2) := by decide +kernel
theorem dX12_plates_126 : decode cX12_plates 126 = .ok (.aload_n 0, 1) := by decide +kernel
theorem dX12_plates_127 : decode cX12_plates 127 = .ok (.aload_n 0, 1) := by decide +kernel
theorem dX12_plates_128 : decode cX12_plates 128 = .ok (.getfield 215, 3) := by decide +kernel
theorem dX12_plates_131 : decode cX12_plates 131 = .ok (.iload 9, 2) := by decide +kernel
theorem dX12_plates_133 : decode cX12_plates 133 = .ok (.iaload, 1) := by decide +kernel
theorem dX12_plates_134 : decode cX12_plates 134 = .ok (.aload_n 0, 1) := by decide +kernel
theorem dX12_plates_135 : decode cX12_plates 135 = .ok (.getfield 215, 3) := by decide +kernel
theorem dX12_plates_138 : decode cX12_plates 138 = .ok (.iload 9, 2) := by decide +kernel
theorem dX12_plates_140 : decode cX12_plates 140 = .ok (.iconst 1, 1) := by decide +kernel
theorem dX12_plates_141 : decode cX12_plates 141 = .ok (.iadd, 1) := by decide +kernel
theorem dX12_plates_142 : decode cX12_plates 142 = .ok (.iaload, 1) := by decide +kernel
theorem dX12_plates_143 : decode cX12_plates 143 = .ok (.invokevirtual 348, 3) := by decide +kernel
theorem dX12_plates_146 : decode cX12_plates 146 = .ok (.ifCond .lt 7, 3) := by decide +kernel
theorem dX12_plates_149 : decode cX12_plates 149 = .ok (.iconst 1, 1) := by decide +kernel
theorem dX12_plates_150 : decode cX12_plates 150 = .ok (.goto 4, 3) := by decide +kernel
theorem dX12_plates_153 : decode cX12_plates 153 = .ok (.iconst 0, 1) := by decide +kernel
theorem dX12_plates_154 : decode cX12_plates 154 = .ok (.iadd, 1) := by decide +kernel
theorem dX12_plates_155 : decode cX12_plates 155 = .ok (.istore 5, 2) := by decide +kernel
theorem dX12_plates_157 : decode cX12_plates 157 = .ok (.iinc 6 1, 3) := by decide +kernel
theorem dX12_plates_160 : decode cX12_plates 160 = .ok (.goto (-90), 3) := by decide +kernel
theorem dX12_plates_163 : decode cX12_plates 163 = .ok (.iload 5, 2) := by decide +kernel
theorem dX12_plates_165 : decode cX12_plates 165 = .ok (.ireturn, 1) := by decide +kernel
theorem dX12_taken_0 : decode cX12_taken 0 = .ok (.iload_n 2, 1) := by decide +kernel
theorem dX12_taken_1 : decode cX12_taken 1 = .ok (.iconst 0, 1) := by decide +kernel
theorem dX12_taken_2 : decode cX12_taken 2 = .ok (.iconst 5, 1) := by decide +kernel
theorem dX12_taken_3 : decode cX12_taken 3 = .ok (.invokestatic 7, 3) := by decide +kernel
theorem dX12_taken_6 : decode cX12_taken 6 = .ok (.ifCond .ne 6, 3) := by decide +kernel
theorem dX12_taken_9 : decode cX12_taken 9 = .ok (.bipush (-2), 2) := by decide +kernel
theorem dX12_taken_11 : decode cX12_taken 11 = .ok (.ireturn, 1) := by decide +kernel
theorem dX12_taken_12 : decode cX12_taken 12 = .ok (.aload_n 0, 1) := by decide +kernel
theorem dX12_taken_13 : decode cX12_taken 13 = .ok (.iload_n 1, 1) := by decide +kernel
theorem dX12_taken_14 : decode cX12_taken 14 = .ok (.invokevirtual 34, 3) := by decide +kernel
theorem dX12_taken_17 : decode cX12_taken 17 = .ok (.ifCond .ne 6, 3) := by decide +kernel
theorem dX12_taken_20 : decode cX12_taken 20 = .ok (.bipush (-11), 2) := by decide +kernel
theorem dX12_taken_22 : decode cX12_taken 22 = .ok (.ireturn, 1) := by decide +kernel
theorem dX12_taken_23 : decode cX12_taken 23 = .ok (.aload_n 0, 1) := by decide +kernel
theorem dX12_taken_24 : decode cX12_taken 24 = .ok (.getfield 21, 3) := by decide +kernel
theorem dX12_taken_27 : decode cX12_taken 27 = .ok (.iload_n 1, 1) := by decide +kernel
theorem dX12_taken_28 : decode cX12_taken 28 = .ok (.iaload, 1) := by decide +kernel
theorem dX12_taken_29 : decode cX12_taken 29 = .ok (.istore_n 3, 1) := by decide +kernel
theorem dX12_taken_30 : decode cX12_taken 30 = .ok (.iload_n 2, 1) := by decide +kernel
theorem dX12_taken_31 : decode cX12_taken 31 = .ok (.ifCond .eq 33, 3) := by decide +kernel
theorem dX12_taken_34 : decode cX12_taken 34 = .ok (.iload_n 3, 1) := by decide +kernel
theorem dX12_taken_35 : decode cX12_taken 35 = .ok (.iload_n 2, 1) := by decide +kernel
theorem dX12_taken_36 : decode cX12_taken 36 = .ok (.if_icmp .eq 28, 3) := by decide +kernel
theorem dX12_taken_39 : decode cX12_taken 39 = .ok (.iload_n 2, 1) := by decide +kernel
theorem dX12_taken_40 : decode cX12_taken 40 = .ok (.iconst 1, 1) := by decide +kernel
theorem dX12_taken_41 : decode cX12_taken 41 = .ok (.if_icmp .ne 13, 3) := by decide +kernel
theorem dX12_taken_44 : decode cX12_taken 44 = .ok (.iload_n 3, 1) := by decide +kernel
theorem dX12_taken_45 : decode cX12_taken 45 = .ok (.iconst 3, 1) := by decide +kernel
theorem dX12_taken_46 : decode cX12_taken 46 = .ok (.if_icmp .eq 18, 3) := by decide +kernel
theorem dX12_taken_49 : decode cX12_taken 49 = .ok (.iload_n 3, 1) := by decide +kernel
theorem dX12_taken_50 : decode cX12_taken 50 = .ok (.iconst 5, 1) := by decide +kernel
theorem dX12_taken_51 : decode cX12_taken 51 = .ok (.if_icmp .eq 13, 3) := by decide +kernel
theorem dX12_taken_54 : decode cX12_taken 54 = .ok (.iload_n 2, 1) := by decide +kernel
theorem dX12_taken_55 : decode cX12_taken 55 = .ok (.iconst 2, 1) := by decide +kernel
theorem dX12_taken_56 : decode cX12_taken 56 = .ok (.if_icmp .ne 12, 3) := by decide +kernel
theorem dX12_taken_59 : decode cX12_taken 59 = .ok (.iload_n 3, 1) := by decide +kernel
theorem dX12_taken_60 : decode cX12_taken 60 = .ok (.iconst 4, 1) := by decide +kernel
theorem dX12_taken_61 : decode cX12_taken 61 = .ok (.if_icmp .ne 7, 3) := by decide +kernel
theorem dX12_taken_64 : decode cX12_taken 64 = .ok (.iconst 1, 1) := by decide +kernel
theorem dX12_taken_65 : decode cX12_taken 65 = .ok (.goto 4, 3) := by decide +kernel
theorem dX12_taken_68 : decode cX12_taken 68 = .ok (.iconst 0, 1) := by decide +kernel
theorem dX12_taken_69 : decode cX12_taken 69 = .ok (.istore 4, 2) := by decide +kernel
theorem dX12_taken_71 : decode cX12_taken 71 = .ok (.iload 4, 2) := by decide +kernel
theorem dX12_taken_73 : decode cX12_taken 73 = .ok (.ifCond .eq 12, 3) := by decide +kernel
theorem dX12_taken_76 : decode cX12_taken 76 = .ok (.aload_n 0, 1) := by decide +kernel
theorem dX12_taken_77 : decode cX12_taken 77 = .ok (.getfield 24, 3) := by decide +kernel
theorem dX12_taken_80 : decode cX12_taken 80 = .ok (.iload_n 1, 1) := by decide +kernel
theorem dX12_taken_81 : decode cX12_taken 81 = .ok (.iaload, 1) := by decide +kernel
theorem dX12_taken_82 : decode cX12_taken 82 = .ok (.goto 5, 3) := by decide +kernel
theorem dX12_taken_85 : decode cX12_taken 85 = .ok (.bipush (-13), 2) := by decide +kernel
theorem dX12_taken_87 : decode cX12_taken 87 = .ok (.ireturn, 1) := by decide +kernel
end
section
theorem tw_0 : Cond.methodLink "GreaterPlatesModel" 7 ⟨"GreaterPlatesModel", "isIn", "(III)Z"⟩ ∈ TB := TB_of 905 (by decide +kernel) (by decide +kernel)
theorem tw_1 : Cond.code ⟨"GreaterPlatesModel", "isIn", "(III)Z"⟩ prog_14_method_1_code 3 (Option.some Jvm.ClassFile.FieldType.boolean) ∈ TB := TB_of 907 (by decide +kernel) (by decide +kernel)
theorem tw_2 : Cond.initialized "GreaterPlatesModel" ∈ TB := TB_of 88 (by decide +kernel) (by decide +kernel)
theorem tw_3 : Cond.static ⟨"GreaterPlatesModel", "isIn", "(III)Z"⟩ ∈ TB := TB_of 906 (by decide +kernel) (by decide +kernel)
theorem tw_4 : Cond.fieldLink "GreaterPlatesModel" 1 "GreaterPlatesModel" "plates" "I" ∈ TB := TB_of 1023 (by decide +kernel) (by decide +kernel)
theorem tw_5 : Cond.fieldLink "GreaterPlatesModel" 11 "GreaterPlatesModel" "layers" "I" ∈ TB := TB_of 1026 (by decide +kernel) (by decide +kernel)
theorem tw_6 : Cond.fieldLink "GreaterPlatesModel" 18 "GreaterPlatesModel" "depth" "[I" ∈ TB := TB_of 1025 (by decide +kernel) (by decide +kernel)
theorem tw_7 : Cond.fieldLink "GreaterPlatesModel" 14 "GreaterPlatesModel" "size" "[I" ∈ TB := TB_of 1024 (by decide +kernel) (by decide +kernel)
theorem tw_8 : Cond.fieldLink "GreaterPlatesModel" 24 "GreaterPlatesModel" "number" "[I" ∈ TB := TB_of 1028 (by decide +kernel) (by decide +kernel)
theorem tw_9 : Cond.fieldLink "GreaterPlatesModel" 21 "GreaterPlatesModel" "kind" "[I" ∈ TB := TB_of 1027 (by decide +kernel) (by decide +kernel)
theorem tw_10 : Cond.methodLink "GreaterPlatesModel" 27 ⟨"GreaterPlatesModel", "isPlate", "(I)Z"⟩ ∈ TB := TB_of 916 (by decide +kernel) (by decide +kernel)
theorem tw_11 : Cond.code ⟨"GreaterPlatesModel", "isPlate", "(I)Z"⟩ prog_14_method_2_code 2 (Option.some Jvm.ClassFile.FieldType.boolean) ∈ TB := TB_of 920 (by decide +kernel) (by decide +kernel)
theorem tw_12 : Cond.instanceMethod ⟨"GreaterPlatesModel", "isPlate", "(I)Z"⟩ ∈ TB := TB_of 918 (by decide +kernel) (by decide +kernel)
theorem tw_13 : Cond.selects "GreaterPlatesModel" ⟨"GreaterPlatesModel", "isPlate", "(I)Z"⟩ ⟨"GreaterPlatesModel", "isPlate", "(I)Z"⟩ ∈ TB := TB_of 39 (by decide +kernel) (by decide +kernel)
theorem tw_14 : Cond.fieldLink "GreaterPlatesModel" 31 "GreaterPlatesModel" "highest" "I" ∈ TB := TB_of 1029 (by decide +kernel) (by decide +kernel)
theorem tw_15 : Cond.methodLink "GreaterPlatesModel" 34 ⟨"GreaterPlatesModel", "isLayer", "(I)Z"⟩ ∈ TB := TB_of 925 (by decide +kernel) (by decide +kernel)
theorem tw_16 : Cond.code ⟨"GreaterPlatesModel", "isLayer", "(I)Z"⟩ prog_14_method_3_code 2 (Option.some Jvm.ClassFile.FieldType.boolean) ∈ TB := TB_of 928 (by decide +kernel) (by decide +kernel)
theorem tw_17 : Cond.instanceMethod ⟨"GreaterPlatesModel", "isLayer", "(I)Z"⟩ ∈ TB := TB_of 927 (by decide +kernel) (by decide +kernel)
theorem tw_18 : Cond.selects "GreaterPlatesModel" ⟨"GreaterPlatesModel", "isLayer", "(I)Z"⟩ ⟨"GreaterPlatesModel", "isLayer", "(I)Z"⟩ ∈ TB := TB_of 40 (by decide +kernel) (by decide +kernel)
theorem tw_19 : Cond.methodLink "GreaterPlatesModel" 37 ⟨"GreaterPlatesModel", "name", "(IIIII)V"⟩ ∈ TB := TB_of 929 (by decide +kernel) (by decide +kernel)
theorem tw_20 : Cond.fieldLink "GreaterPlatesModel" 167 "GreaterPlatesModel" "names" "[I" ∈ TB := TB_of 1050 (by decide +kernel) (by decide +kernel)
theorem tw_21 : Cond.methodLink "GreaterPlatesModel" 41 ⟨"GreaterPlatesModel", "worthOf", "(I)I"⟩ ∈ TB := TB_of 933 (by decide +kernel) (by decide +kernel)
theorem tw_22 : Cond.fieldLink "GreaterPlatesModel" 156 "GreaterPlatesModel" "rule" "I" ∈ TB := TB_of 1033 (by decide +kernel) (by decide +kernel)
theorem tw_23 : Cond.fieldLink "GreaterPlatesModel" 164 "GreaterPlatesModel" "stack" "[I" ∈ TB := TB_of 1049 (by decide +kernel) (by decide +kernel)
theorem tw_24 : Cond.methodLink "GreaterPlatesModel" 221 ⟨"GreaterPlatesModel", "done", "(III)I"⟩ ∈ TB := TB_of 937 (by decide +kernel) (by decide +kernel)
theorem tw_25 : Cond.code ⟨"GreaterPlatesModel", "done", "(III)I"⟩ prog_14_method_28_code 3 (Option.some Jvm.ClassFile.FieldType.int) ∈ TB := TB_of 939 (by decide +kernel) (by decide +kernel)
theorem tw_26 : Cond.static ⟨"GreaterPlatesModel", "done", "(III)I"⟩ ∈ TB := TB_of 938 (by decide +kernel) (by decide +kernel)
theorem tw_27 : Cond.fieldLink "GreaterPlatesModel" 86 "GreaterPlatesModel" "codes" "[I" ∈ TB := TB_of 1034 (by decide +kernel) (by decide +kernel)
theorem tw_28 : Cond.fieldLink "GreaterPlatesModel" 134 "GreaterPlatesModel" "codeMany" "[I" ∈ TB := TB_of 1035 (by decide +kernel) (by decide +kernel)
theorem tw_29 : Cond.methodLink "GreaterPlatesModel" 45 ⟨"GreaterPlatesModel", "bound", "(I)I"⟩ ∈ TB := TB_of 940 (by decide +kernel) (by decide +kernel)
theorem tw_30 : Cond.code ⟨"GreaterPlatesModel", "bound", "(I)I"⟩ prog_14_method_31_code 1 (Option.some Jvm.ClassFile.FieldType.int) ∈ TB := TB_of 942 (by decide +kernel) (by decide +kernel)
theorem tw_31 : Cond.static ⟨"GreaterPlatesModel", "bound", "(I)I"⟩ ∈ TB := TB_of 941 (by decide +kernel) (by decide +kernel)
theorem tw_32 : Cond.code ⟨"GreaterPlatesModel", "worthOf", "(I)I"⟩ prog_14_method_29_code 6 (Option.some Jvm.ClassFile.FieldType.int) ∈ TB := TB_of 936 (by decide +kernel) (by decide +kernel)
theorem tw_33 : Cond.instanceMethod ⟨"GreaterPlatesModel", "worthOf", "(I)I"⟩ ∈ TB := TB_of 935 (by decide +kernel) (by decide +kernel)
theorem tw_34 : Cond.selects "GreaterPlatesModel" ⟨"GreaterPlatesModel", "worthOf", "(I)I"⟩ ⟨"GreaterPlatesModel", "worthOf", "(I)I"⟩ ∈ TB := TB_of 42 (by decide +kernel) (by decide +kernel)
theorem tw_35 : Cond.code ⟨"GreaterPlatesModel", "name", "(IIIII)V"⟩ prog_14_method_30_code 6 none ∈ TB := TB_of 932 (by decide +kernel) (by decide +kernel)
theorem tw_36 : Cond.instanceMethod ⟨"GreaterPlatesModel", "name", "(IIIII)V"⟩ ∈ TB := TB_of 931 (by decide +kernel) (by decide +kernel)
theorem tw_37 : Cond.selects "GreaterPlatesModel" ⟨"GreaterPlatesModel", "name", "(IIIII)V"⟩ ⟨"GreaterPlatesModel", "name", "(IIIII)V"⟩ ∈ TB := TB_of 41 (by decide +kernel) (by decide +kernel)
theorem tw_38 : Cond.fieldLink "GreaterPlatesModel" 48 "GreaterPlatesModel" "taped" "I" ∈ TB := TB_of 1031 (by decide +kernel) (by decide +kernel)
theorem tw_39 : Cond.fieldLink "GreaterPlatesModel" 51 "GreaterPlatesModel" "tape" "[I" ∈ TB := TB_of 1030 (by decide +kernel) (by decide +kernel)
theorem tw_40 : Cond.methodLink "GreaterPlatesModel" 57 ⟨"GreaterPlatesModel", "isLetter", "(I)Z"⟩ ∈ TB := TB_of 959 (by decide +kernel) (by decide +kernel)
theorem tw_41 : Cond.fieldLink "GreaterPlatesModel" 60 "GreaterPlatesModel" "token" "I" ∈ TB := TB_of 1037 (by decide +kernel) (by decide +kernel)
theorem tw_42 : Cond.fieldLink "GreaterPlatesModel" 54 "GreaterPlatesModel" "at" "I" ∈ TB := TB_of 1036 (by decide +kernel) (by decide +kernel)
theorem tw_43 : Cond.code ⟨"GreaterPlatesModel", "isLetter", "(I)Z"⟩ prog_14_method_9_code 2 (Option.some Jvm.ClassFile.FieldType.boolean) ∈ TB := TB_of 962 (by decide +kernel) (by decide +kernel)
theorem tw_44 : Cond.instanceMethod ⟨"GreaterPlatesModel", "isLetter", "(I)Z"⟩ ∈ TB := TB_of 961 (by decide +kernel) (by decide +kernel)
theorem tw_45 : Cond.selects "GreaterPlatesModel" ⟨"GreaterPlatesModel", "isLetter", "(I)Z"⟩ ⟨"GreaterPlatesModel", "isLetter", "(I)Z"⟩ ∈ TB := TB_of 45 (by decide +kernel) (by decide +kernel)
theorem tw_46 : Cond.fieldLink "GreaterPlatesModel" 66 "GreaterPlatesModel" "place" "I" ∈ TB := TB_of 1039 (by decide +kernel) (by decide +kernel)
theorem tw_47 : Cond.fieldLink "GreaterPlatesModel" 63 "GreaterPlatesModel" "begins" "[I" ∈ TB := TB_of 1041 (by decide +kernel) (by decide +kernel)
theorem tw_48 : Cond.fieldLink "GreaterPlatesModel" 69 "GreaterPlatesModel" "letters" "[C" ∈ TB := TB_of 1040 (by decide +kernel) (by decide +kernel)
theorem tw_49 : Cond.fieldLink "GreaterPlatesModel" 73 "GreaterPlatesModel" "worth" "I" ∈ TB := TB_of 1038 (by decide +kernel) (by decide +kernel)
theorem tw_50 : Cond.methodLink "GreaterPlatesModel" 76 ⟨"GreaterPlatesModel", "isDigit", "(I)Z"⟩ ∈ TB := TB_of 967 (by decide +kernel) (by decide +kernel)
theorem tw_51 : Cond.code ⟨"GreaterPlatesModel", "isDigit", "(I)Z"⟩ prog_14_method_10_code 2 (Option.some Jvm.ClassFile.FieldType.boolean) ∈ TB := TB_of 970 (by decide +kernel) (by decide +kernel)
theorem tw_52 : Cond.instanceMethod ⟨"GreaterPlatesModel", "isDigit", "(I)Z"⟩ ∈ TB := TB_of 969 (by decide +kernel) (by decide +kernel)
theorem tw_53 : Cond.selects "GreaterPlatesModel" ⟨"GreaterPlatesModel", "isDigit", "(I)Z"⟩ ⟨"GreaterPlatesModel", "isDigit", "(I)Z"⟩ ∈ TB := TB_of 47 (by decide +kernel) (by decide +kernel)
theorem tw_54 : Cond.methodLink "GreaterPlatesModel" 83 ⟨"GreaterPlatesModel", "readNumber", "()V"⟩ ∈ TB := TB_of 971 (by decide +kernel) (by decide +kernel)
theorem tw_55 : Cond.code ⟨"GreaterPlatesModel", "readNumber", "()V"⟩ prog_14_method_12_code 1 none ∈ TB := TB_of 974 (by decide +kernel) (by decide +kernel)
theorem tw_56 : Cond.instanceMethod ⟨"GreaterPlatesModel", "readNumber", "()V"⟩ ∈ TB := TB_of 973 (by decide +kernel) (by decide +kernel)
theorem tw_57 : Cond.selects "GreaterPlatesModel" ⟨"GreaterPlatesModel", "readNumber", "()V"⟩ ⟨"GreaterPlatesModel", "readNumber", "()V"⟩ ∈ TB := TB_of 48 (by decide +kernel) (by decide +kernel)
theorem tw_58 : Cond.methodLink "GreaterPlatesModel" 79 ⟨"GreaterPlatesModel", "readWord", "()V"⟩ ∈ TB := TB_of 963 (by decide +kernel) (by decide +kernel)
theorem tw_59 : Cond.code ⟨"GreaterPlatesModel", "readWord", "()V"⟩ prog_14_method_11_code 5 none ∈ TB := TB_of 966 (by decide +kernel) (by decide +kernel)
theorem tw_60 : Cond.instanceMethod ⟨"GreaterPlatesModel", "readWord", "()V"⟩ ∈ TB := TB_of 965 (by decide +kernel) (by decide +kernel)
theorem tw_61 : Cond.selects "GreaterPlatesModel" ⟨"GreaterPlatesModel", "readWord", "()V"⟩ ⟨"GreaterPlatesModel", "readWord", "()V"⟩ ∈ TB := TB_of 46 (by decide +kernel) (by decide +kernel)
theorem tw_62 : Cond.fieldLink "GreaterPlatesModel" 92 "GreaterPlatesModel" "made" "I" ∈ TB := TB_of 1048 (by decide +kernel) (by decide +kernel)
theorem tw_63 : Cond.fieldLink "GreaterPlatesModel" 89 "GreaterPlatesModel" "codeAt" "I" ∈ TB := TB_of 1047 (by decide +kernel) (by decide +kernel)
theorem tw_64 : Cond.methodLink "GreaterPlatesModel" 101 ⟨"GreaterPlatesModel", "rank", "(I)I"⟩ ∈ TB := TB_of 991 (by decide +kernel) (by decide +kernel)
theorem tw_65 : Cond.fieldLink "GreaterPlatesModel" 95 "GreaterPlatesModel" "waiting" "I" ∈ TB := TB_of 1043 (by decide +kernel) (by decide +kernel)
theorem tw_66 : Cond.fieldLink "GreaterPlatesModel" 98 "GreaterPlatesModel" "waits" "[I" ∈ TB := TB_of 1042 (by decide +kernel) (by decide +kernel)
theorem tw_67 : Cond.fieldLink "GreaterPlatesModel" 104 "GreaterPlatesModel" "open" "I" ∈ TB := TB_of 1044 (by decide +kernel) (by decide +kernel)
theorem tw_68 : Cond.code ⟨"GreaterPlatesModel", "rank", "(I)I"⟩ prog_14_method_17_code 1 (Option.some Jvm.ClassFile.FieldType.int) ∈ TB := TB_of 993 (by decide +kernel) (by decide +kernel)
theorem tw_69 : Cond.static ⟨"GreaterPlatesModel", "rank", "(I)I"⟩ ∈ TB := TB_of 992 (by decide +kernel) (by decide +kernel)
theorem tw_70 : Cond.methodLink "GreaterPlatesModel" 107 ⟨"GreaterPlatesModel", "emit", "(I)V"⟩ ∈ TB := TB_of 983 (by decide +kernel) (by decide +kernel)
theorem tw_71 : Cond.code ⟨"GreaterPlatesModel", "emit", "(I)V"⟩ prog_14_method_16_code 2 none ∈ TB := TB_of 986 (by decide +kernel) (by decide +kernel)
theorem tw_72 : Cond.instanceMethod ⟨"GreaterPlatesModel", "emit", "(I)V"⟩ ∈ TB := TB_of 985 (by decide +kernel) (by decide +kernel)
theorem tw_73 : Cond.selects "GreaterPlatesModel" ⟨"GreaterPlatesModel", "emit", "(I)V"⟩ ⟨"GreaterPlatesModel", "emit", "(I)V"⟩ ∈ TB := TB_of 51 (by decide +kernel) (by decide +kernel)
theorem tw_74 : Cond.methodLink "GreaterPlatesModel" 111 ⟨"GreaterPlatesModel", "isSign", "(I)Z"⟩ ∈ TB := TB_of 994 (by decide +kernel) (by decide +kernel)
theorem tw_75 : Cond.methodLink "GreaterPlatesModel" 114 ⟨"GreaterPlatesModel", "isKey", "(I)Z"⟩ ∈ TB := TB_of 975 (by decide +kernel) (by decide +kernel)
theorem tw_76 : Cond.code ⟨"GreaterPlatesModel", "isKey", "(I)Z"⟩ prog_14_method_15_code 2 (Option.some Jvm.ClassFile.FieldType.boolean) ∈ TB := TB_of 978 (by decide +kernel) (by decide +kernel)
theorem tw_77 : Cond.instanceMethod ⟨"GreaterPlatesModel", "isKey", "(I)Z"⟩ ∈ TB := TB_of 977 (by decide +kernel) (by decide +kernel)
theorem tw_78 : Cond.selects "GreaterPlatesModel" ⟨"GreaterPlatesModel", "isKey", "(I)Z"⟩ ⟨"GreaterPlatesModel", "isKey", "(I)Z"⟩ ∈ TB := TB_of 49 (by decide +kernel) (by decide +kernel)
theorem tw_79 : Cond.code ⟨"GreaterPlatesModel", "isSign", "(I)Z"⟩ prog_14_method_14_code 2 (Option.some Jvm.ClassFile.FieldType.boolean) ∈ TB := TB_of 997 (by decide +kernel) (by decide +kernel)
theorem tw_80 : Cond.instanceMethod ⟨"GreaterPlatesModel", "isSign", "(I)Z"⟩ ∈ TB := TB_of 996 (by decide +kernel) (by decide +kernel)
theorem tw_81 : Cond.selects "GreaterPlatesModel" ⟨"GreaterPlatesModel", "isSign", "(I)Z"⟩ ⟨"GreaterPlatesModel", "isSign", "(I)Z"⟩ ∈ TB := TB_of 53 (by decide +kernel) (by decide +kernel)
theorem tw_82 : Cond.fieldLink "GreaterPlatesModel" 121 "GreaterPlatesModel" "nested" "I" ∈ TB := TB_of 1045 (by decide +kernel) (by decide +kernel)
theorem tw_83 : Cond.fieldLink "GreaterPlatesModel" 117 "GreaterPlatesModel" "compared" "[Z" ∈ TB := TB_of 1046 (by decide +kernel) (by decide +kernel)
theorem tw_84 : Cond.methodLink "GreaterPlatesModel" 124 ⟨"GreaterPlatesModel", "doAll", "(I)V"⟩ ∈ TB := TB_of 987 (by decide +kernel) (by decide +kernel)
theorem tw_85 : Cond.methodLink "GreaterPlatesModel" 127 ⟨"GreaterPlatesModel", "await", "(I)V"⟩ ∈ TB := TB_of 1002 (by decide +kernel) (by decide +kernel)
theorem tw_86 : Cond.code ⟨"GreaterPlatesModel", "await", "(I)V"⟩ prog_14_method_19_code 2 none ∈ TB := TB_of 1005 (by decide +kernel) (by decide +kernel)
theorem tw_87 : Cond.instanceMethod ⟨"GreaterPlatesModel", "await", "(I)V"⟩ ∈ TB := TB_of 1004 (by decide +kernel) (by decide +kernel)
theorem tw_88 : Cond.selects "GreaterPlatesModel" ⟨"GreaterPlatesModel", "await", "(I)V"⟩ ⟨"GreaterPlatesModel", "await", "(I)V"⟩ ∈ TB := TB_of 55 (by decide +kernel) (by decide +kernel)
theorem tw_89 : Cond.code ⟨"GreaterPlatesModel", "doAll", "(I)V"⟩ prog_14_method_18_code 2 none ∈ TB := TB_of 990 (by decide +kernel) (by decide +kernel)
theorem tw_90 : Cond.instanceMethod ⟨"GreaterPlatesModel", "doAll", "(I)V"⟩ ∈ TB := TB_of 989 (by decide +kernel) (by decide +kernel)
theorem tw_91 : Cond.selects "GreaterPlatesModel" ⟨"GreaterPlatesModel", "doAll", "(I)V"⟩ ⟨"GreaterPlatesModel", "doAll", "(I)V"⟩ ∈ TB := TB_of 52 (by decide +kernel) (by decide +kernel)
theorem tw_92 : Cond.methodLink "GreaterPlatesModel" 130 ⟨"GreaterPlatesModel", "ahead", "(Z)Z"⟩ ∈ TB := TB_of 998 (by decide +kernel) (by decide +kernel)
theorem tw_93 : Cond.code ⟨"GreaterPlatesModel", "ahead", "(Z)Z"⟩ prog_14_method_22_code 3 (Option.some Jvm.ClassFile.FieldType.boolean) ∈ TB := TB_of 1001 (by decide +kernel) (by decide +kernel)
theorem tw_94 : Cond.instanceMethod ⟨"GreaterPlatesModel", "ahead", "(Z)Z"⟩ ∈ TB := TB_of 1000 (by decide +kernel) (by decide +kernel)
theorem tw_95 : Cond.selects "GreaterPlatesModel" ⟨"GreaterPlatesModel", "ahead", "(Z)Z"⟩ ⟨"GreaterPlatesModel", "ahead", "(Z)Z"⟩ ∈ TB := TB_of 54 (by decide +kernel) (by decide +kernel)
theorem tw_96 : Cond.methodLink "GreaterPlatesModel" 137 ⟨"GreaterPlatesModel", "between", "()Z"⟩ ∈ TB := TB_of 1006 (by decide +kernel) (by decide +kernel)
theorem tw_97 : Cond.methodLink "GreaterPlatesModel" 141 ⟨"GreaterPlatesModel", "closes", "()Z"⟩ ∈ TB := TB_of 1010 (by decide +kernel) (by decide +kernel)
theorem tw_98 : Cond.code ⟨"GreaterPlatesModel", "closes", "()Z"⟩ prog_14_method_21_code 1 (Option.some Jvm.ClassFile.FieldType.boolean) ∈ TB := TB_of 1013 (by decide +kernel) (by decide +kernel)
theorem tw_99 : Cond.instanceMethod ⟨"GreaterPlatesModel", "closes", "()Z"⟩ ∈ TB := TB_of 1012 (by decide +kernel) (by decide +kernel)
theorem tw_100 : Cond.selects "GreaterPlatesModel" ⟨"GreaterPlatesModel", "closes", "()Z"⟩ ⟨"GreaterPlatesModel", "closes", "()Z"⟩ ∈ TB := TB_of 57 (by decide +kernel) (by decide +kernel)
theorem tw_101 : Cond.code ⟨"GreaterPlatesModel", "between", "()Z"⟩ prog_14_method_20_code 2 (Option.some Jvm.ClassFile.FieldType.boolean) ∈ TB := TB_of 1009 (by decide +kernel) (by decide +kernel)
theorem tw_102 : Cond.instanceMethod ⟨"GreaterPlatesModel", "between", "()Z"⟩ ∈ TB := TB_of 1008 (by decide +kernel) (by decide +kernel)
theorem tw_103 : Cond.selects "GreaterPlatesModel" ⟨"GreaterPlatesModel", "between", "()Z"⟩ ⟨"GreaterPlatesModel", "between", "()Z"⟩ ∈ TB := TB_of 56 (by decide +kernel) (by decide +kernel)
theorem tw_104 : Cond.methodLink "GreaterPlatesModel" 144 ⟨"GreaterPlatesModel", "next", "()V"⟩ ∈ TB := TB_of 955 (by decide +kernel) (by decide +kernel)
theorem tw_105 : Cond.code ⟨"GreaterPlatesModel", "next", "()V"⟩ prog_14_method_13_code 2 none ∈ TB := TB_of 958 (by decide +kernel) (by decide +kernel)
theorem tw_106 : Cond.instanceMethod ⟨"GreaterPlatesModel", "next", "()V"⟩ ∈ TB := TB_of 957 (by decide +kernel) (by decide +kernel)
theorem tw_107 : Cond.selects "GreaterPlatesModel" ⟨"GreaterPlatesModel", "next", "()V"⟩ ⟨"GreaterPlatesModel", "next", "()V"⟩ ∈ TB := TB_of 44 (by decide +kernel) (by decide +kernel)
theorem tw_108 : Cond.methodLink "GreaterPlatesModel" 147 ⟨"GreaterPlatesModel", "readE", "(I)Z"⟩ ∈ TB := TB_of 979 (by decide +kernel) (by decide +kernel)
theorem tw_109 : Cond.code ⟨"GreaterPlatesModel", "readE", "(I)Z"⟩ prog_14_method_23_code 5 (Option.some Jvm.ClassFile.FieldType.boolean) ∈ TB := TB_of 982 (by decide +kernel) (by decide +kernel)
theorem tw_110 : Cond.instanceMethod ⟨"GreaterPlatesModel", "readE", "(I)Z"⟩ ∈ TB := TB_of 981 (by decide +kernel) (by decide +kernel)
theorem tw_111 : Cond.selects "GreaterPlatesModel" ⟨"GreaterPlatesModel", "readE", "(I)Z"⟩ ⟨"GreaterPlatesModel", "readE", "(I)Z"⟩ ∈ TB := TB_of 50 (by decide +kernel) (by decide +kernel)
theorem tw_112 : Cond.methodLink "GreaterPlatesModel" 153 ⟨"GreaterPlatesModel", "readAll", "(I)I"⟩ ∈ TB := TB_of 951 (by decide +kernel) (by decide +kernel)
theorem tw_113 : Cond.fieldLink "GreaterPlatesModel" 150 "GreaterPlatesModel" "texts" "I" ∈ TB := TB_of 1032 (by decide +kernel) (by decide +kernel)
theorem tw_114 : Cond.code ⟨"GreaterPlatesModel", "readAll", "(I)I"⟩ prog_14_method_24_code 3 (Option.some Jvm.ClassFile.FieldType.int) ∈ TB := TB_of 954 (by decide +kernel) (by decide +kernel)
theorem tw_115 : Cond.instanceMethod ⟨"GreaterPlatesModel", "readAll", "(I)I"⟩ ∈ TB := TB_of 953 (by decide +kernel) (by decide +kernel)
theorem tw_116 : Cond.selects "GreaterPlatesModel" ⟨"GreaterPlatesModel", "readAll", "(I)I"⟩ ⟨"GreaterPlatesModel", "readAll", "(I)I"⟩ ∈ TB := TB_of 43 (by decide +kernel) (by decide +kernel)
theorem tw_117 : Cond.fieldLink "GreaterPlatesModel" 170 "GreaterPlatesModel" "on" "[I" ∈ TB := TB_of 1052 (by decide +kernel) (by decide +kernel)
theorem tw_118 : Cond.fieldLink "GreaterPlatesModel" 225 "GreaterPlatesModel" "heaps" "I" ∈ TB := TB_of 1051 (by decide +kernel) (by decide +kernel)
theorem tw_119 : Cond.fieldLink "GreaterPlatesModel" 173 "GreaterPlatesModel" "lies" "[I" ∈ TB := TB_of 1053 (by decide +kernel) (by decide +kernel)
theorem tw_120 : Cond.methodLink "GreaterPlatesModel" 228 ⟨"GreaterPlatesModel", "nameOn", "(II)V"⟩ ∈ TB := TB_of 1222 (by decide +kernel) (by decide +kernel)
theorem tw_121 : Cond.code ⟨"GreaterPlatesModel", "nameOn", "(II)V"⟩ prog_14_method_32_code 5 none ∈ TB := TB_of 1225 (by decide +kernel) (by decide +kernel)
theorem tw_122 : Cond.instanceMethod ⟨"GreaterPlatesModel", "nameOn", "(II)V"⟩ ∈ TB := TB_of 1224 (by decide +kernel) (by decide +kernel)
theorem tw_123 : Cond.selects "GreaterPlatesModel" ⟨"GreaterPlatesModel", "nameOn", "(II)V"⟩ ⟨"GreaterPlatesModel", "nameOn", "(II)V"⟩ ∈ TB := TB_of 61 (by decide +kernel) (by decide +kernel)
theorem tw_124 : Cond.methodLink "GreaterPlatesModel" 232 ⟨"java/lang/Math", "abs", "(I)I"⟩ ∈ TB := TB_of 1230 (by decide +kernel) (by decide +kernel)
theorem tw_125 : Cond.code ⟨"java/lang/Math", "abs", "(I)I"⟩ prog_17_method_59_code 1 (Option.some Jvm.ClassFile.FieldType.int) ∈ TB := TB_of 640 (by decide +kernel) (by decide +kernel)
theorem tw_126 : Cond.initialized "java/lang/Math" ∈ TB := TB_of 86 (by decide +kernel) (by decide +kernel)
theorem tw_127 : Cond.static ⟨"java/lang/Math", "abs", "(I)I"⟩ ∈ TB := TB_of 639 (by decide +kernel) (by decide +kernel)
theorem tw_128 : Cond.methodLink "GreaterPlatesModel" 243 ⟨"GreaterPlatesModel", "likes", "(II)Z"⟩ ∈ TB := TB_of 1231 (by decide +kernel) (by decide +kernel)
theorem tw_129 : Cond.code ⟨"GreaterPlatesModel", "likes", "(II)Z"⟩ prog_14_method_37_code 3 (Option.some Jvm.ClassFile.FieldType.boolean) ∈ TB := TB_of 1234 (by decide +kernel) (by decide +kernel)
theorem tw_130 : Cond.instanceMethod ⟨"GreaterPlatesModel", "likes", "(II)Z"⟩ ∈ TB := TB_of 1233 (by decide +kernel) (by decide +kernel)
theorem tw_131 : Cond.selects "GreaterPlatesModel" ⟨"GreaterPlatesModel", "likes", "(II)Z"⟩ ⟨"GreaterPlatesModel", "likes", "(II)Z"⟩ ∈ TB := TB_of 63 (by decide +kernel) (by decide +kernel)
theorem tw_132 : Cond.methodLink "GreaterPlatesModel" 237 ⟨"GreaterPlatesModel", "mayLie", "(II)Z"⟩ ∈ TB := TB_of 1218 (by decide +kernel) (by decide +kernel)
theorem tw_133 : Cond.methodLink "GreaterPlatesModel" 241 ⟨"GreaterPlatesModel", "rank", "(III)I"⟩ ∈ TB := TB_of 1226 (by decide +kernel) (by decide +kernel)
theorem tw_134 : Cond.code ⟨"GreaterPlatesModel", "rank", "(III)I"⟩ prog_14_method_36_code 6 (Option.some Jvm.ClassFile.FieldType.int) ∈ TB := TB_of 1229 (by decide +kernel) (by decide +kernel)
theorem tw_135 : Cond.instanceMethod ⟨"GreaterPlatesModel", "rank", "(III)I"⟩ ∈ TB := TB_of 1228 (by decide +kernel) (by decide +kernel)
theorem tw_136 : Cond.selects "GreaterPlatesModel" ⟨"GreaterPlatesModel", "rank", "(III)I"⟩ ⟨"GreaterPlatesModel", "rank", "(III)I"⟩ ∈ TB := TB_of 62 (by decide +kernel) (by decide +kernel)
theorem tw_137 : Cond.code ⟨"GreaterPlatesModel", "mayLie", "(II)Z"⟩ prog_14_method_33_code 3 (Option.some Jvm.ClassFile.FieldType.boolean) ∈ TB := TB_of 1221 (by decide +kernel) (by decide +kernel)
theorem tw_138 : Cond.instanceMethod ⟨"GreaterPlatesModel", "mayLie", "(II)Z"⟩ ∈ TB := TB_of 1220 (by decide +kernel) (by decide +kernel)
theorem tw_139 : Cond.selects "GreaterPlatesModel" ⟨"GreaterPlatesModel", "mayLie", "(II)Z"⟩ ⟨"GreaterPlatesModel", "mayLie", "(II)Z"⟩ ∈ TB := TB_of 60 (by decide +kernel) (by decide +kernel)
theorem tw_140 : Cond.fieldLink "GreaterPlatesModel" 246 "GreaterPlatesModel" "paid" "I" ∈ TB := TB_of 1057 (by decide +kernel) (by decide +kernel)
theorem tw_141 : Cond.methodLink "GreaterPlatesModel" 249 ⟨"GreaterPlatesModel", "choice", "(II)I"⟩ ∈ TB := TB_of 1214 (by decide +kernel) (by decide +kernel)
theorem tw_142 : Cond.fieldLink "GreaterPlatesModel" 182 "GreaterPlatesModel" "belowBy" "[I" ∈ TB := TB_of 1056 (by decide +kernel) (by decide +kernel)
theorem tw_143 : Cond.fieldLink "GreaterPlatesModel" 179 "GreaterPlatesModel" "heapBy" "[I" ∈ TB := TB_of 1055 (by decide +kernel) (by decide +kernel)
theorem tw_144 : Cond.code ⟨"GreaterPlatesModel", "choice", "(II)I"⟩ prog_14_method_38_code 7 (Option.some Jvm.ClassFile.FieldType.int) ∈ TB := TB_of 1217 (by decide +kernel) (by decide +kernel)
theorem tw_145 : Cond.instanceMethod ⟨"GreaterPlatesModel", "choice", "(II)I"⟩ ∈ TB := TB_of 1216 (by decide +kernel) (by decide +kernel)
theorem tw_146 : Cond.selects "GreaterPlatesModel" ⟨"GreaterPlatesModel", "choice", "(II)I"⟩ ⟨"GreaterPlatesModel", "choice", "(II)I"⟩ ∈ TB := TB_of 59 (by decide +kernel) (by decide +kernel)
theorem tw_147 : Cond.fieldLink "GreaterPlatesModel" 176 "GreaterPlatesModel" "turn" "[I" ∈ TB := TB_of 1054 (by decide +kernel) (by decide +kernel)
theorem tw_148 : Cond.methodLink "GreaterPlatesModel" 253 ⟨"GreaterPlatesModel", "put", "(II)V"⟩ ∈ TB := TB_of 1235 (by decide +kernel) (by decide +kernel)
theorem tw_149 : Cond.code ⟨"GreaterPlatesModel", "put", "(II)V"⟩ prog_14_method_34_code 3 none ∈ TB := TB_of 1238 (by decide +kernel) (by decide +kernel)
theorem tw_150 : Cond.instanceMethod ⟨"GreaterPlatesModel", "put", "(II)V"⟩ ∈ TB := TB_of 1237 (by decide +kernel) (by decide +kernel)
theorem tw_151 : Cond.selects "GreaterPlatesModel" ⟨"GreaterPlatesModel", "put", "(II)V"⟩ ⟨"GreaterPlatesModel", "put", "(II)V"⟩ ∈ TB := TB_of 64 (by decide +kernel) (by decide +kernel)
theorem tw_152 : Cond.methodLink "GreaterPlatesModel" 256 ⟨"GreaterPlatesModel", "layAll", "(I)V"⟩ ∈ TB := TB_of 1210 (by decide +kernel) (by decide +kernel)
theorem tw_153 : Cond.code ⟨"GreaterPlatesModel", "layAll", "(I)V"⟩ prog_14_method_39_code 5 none ∈ TB := TB_of 1213 (by decide +kernel) (by decide +kernel)
theorem tw_154 : Cond.instanceMethod ⟨"GreaterPlatesModel", "layAll", "(I)V"⟩ ∈ TB := TB_of 1212 (by decide +kernel) (by decide +kernel)
theorem tw_155 : Cond.selects "GreaterPlatesModel" ⟨"GreaterPlatesModel", "layAll", "(I)V"⟩ ⟨"GreaterPlatesModel", "layAll", "(I)V"⟩ ∈ TB := TB_of 58 (by decide +kernel) (by decide +kernel)
theorem tw_156 : Cond.methodLink "GreaterPlatesModel" 265 ⟨"GreaterPlatesModel", "ways", "(III)V"⟩ ∈ TB := TB_of 1251 (by decide +kernel) (by decide +kernel)
theorem tw_157 : Cond.fieldLink "GreaterPlatesModel" 259 "GreaterPlatesModel" "fewest" "I" ∈ TB := TB_of 1058 (by decide +kernel) (by decide +kernel)
theorem tw_158 : Cond.fieldLink "GreaterPlatesModel" 262 "GreaterPlatesModel" "cheapest" "I" ∈ TB := TB_of 1059 (by decide +kernel) (by decide +kernel)
theorem tw_159 : Cond.methodLink "GreaterPlatesModel" 269 ⟨"GreaterPlatesModel", "putBack", "(I)V"⟩ ∈ TB := TB_of 1255 (by decide +kernel) (by decide +kernel)
theorem tw_160 : Cond.code ⟨"GreaterPlatesModel", "putBack", "(I)V"⟩ prog_14_method_35_code 2 none ∈ TB := TB_of 1258 (by decide +kernel) (by decide +kernel)
theorem tw_161 : Cond.instanceMethod ⟨"GreaterPlatesModel", "putBack", "(I)V"⟩ ∈ TB := TB_of 1257 (by decide +kernel) (by decide +kernel)
theorem tw_162 : Cond.selects "GreaterPlatesModel" ⟨"GreaterPlatesModel", "putBack", "(I)V"⟩ ⟨"GreaterPlatesModel", "putBack", "(I)V"⟩ ∈ TB := TB_of 67 (by decide +kernel) (by decide +kernel)
theorem tw_163 : Cond.code ⟨"GreaterPlatesModel", "ways", "(III)V"⟩ prog_14_method_43_code 8 none ∈ TB := TB_of 1254 (by decide +kernel) (by decide +kernel)
theorem tw_164 : Cond.instanceMethod ⟨"GreaterPlatesModel", "ways", "(III)V"⟩ ∈ TB := TB_of 1253 (by decide +kernel) (by decide +kernel)
theorem tw_165 : Cond.selects "GreaterPlatesModel" ⟨"GreaterPlatesModel", "ways", "(III)V"⟩ ⟨"GreaterPlatesModel", "ways", "(III)V"⟩ ∈ TB := TB_of 66 (by decide +kernel) (by decide +kernel)
theorem tw_166 : Cond.methodLink "GreaterPlatesModel" 272 ⟨"GreaterPlatesModel", "goThrough", "(I)V"⟩ ∈ TB := TB_of 1247 (by decide +kernel) (by decide +kernel)
theorem tw_167 : Cond.code ⟨"GreaterPlatesModel", "goThrough", "(I)V"⟩ prog_14_method_44_code 2 none ∈ TB := TB_of 1250 (by decide +kernel) (by decide +kernel)
theorem tw_168 : Cond.instanceMethod ⟨"GreaterPlatesModel", "goThrough", "(I)V"⟩ ∈ TB := TB_of 1249 (by decide +kernel) (by decide +kernel)
theorem tw_169 : Cond.selects "GreaterPlatesModel" ⟨"GreaterPlatesModel", "goThrough", "(I)V"⟩ ⟨"GreaterPlatesModel", "goThrough", "(I)V"⟩ ∈ TB := TB_of 65 (by decide +kernel) (by decide +kernel)
theorem tw_170 : Cond.methodLink "GreaterPlatesModel" 275 ⟨"GreaterPlatesModel", "asTheyCame", "()V"⟩ ∈ TB := TB_of 1263 (by decide +kernel) (by decide +kernel)
theorem tw_171 : Cond.code ⟨"GreaterPlatesModel", "asTheyCame", "()V"⟩ prog_14_method_40_code 2 none ∈ TB := TB_of 1266 (by decide +kernel) (by decide +kernel)
theorem tw_172 : Cond.instanceMethod ⟨"GreaterPlatesModel", "asTheyCame", "()V"⟩ ∈ TB := TB_of 1265 (by decide +kernel) (by decide +kernel)
theorem tw_173 : Cond.selects "GreaterPlatesModel" ⟨"GreaterPlatesModel", "asTheyCame", "()V"⟩ ⟨"GreaterPlatesModel", "asTheyCame", "()V"⟩ ∈ TB := TB_of 68 (by decide +kernel) (by decide +kernel)
theorem tw_174 : Cond.methodLink "GreaterPlatesModel" 278 ⟨"GreaterPlatesModel", "couldLie", "(II)Z"⟩ ∈ TB := TB_of 1278 (by decide +kernel) (by decide +kernel)
theorem tw_175 : Cond.code ⟨"GreaterPlatesModel", "couldLie", "(II)Z"⟩ prog_14_method_47_code 3 (Option.some Jvm.ClassFile.FieldType.boolean) ∈ TB := TB_of 1281 (by decide +kernel) (by decide +kernel)
theorem tw_176 : Cond.instanceMethod ⟨"GreaterPlatesModel", "couldLie", "(II)Z"⟩ ∈ TB := TB_of 1280 (by decide +kernel) (by decide +kernel)
theorem tw_177 : Cond.selects "GreaterPlatesModel" ⟨"GreaterPlatesModel", "couldLie", "(II)Z"⟩ ⟨"GreaterPlatesModel", "couldLie", "(II)Z"⟩ ∈ TB := TB_of 70 (by decide +kernel) (by decide +kernel)
theorem tw_178 : Cond.methodLink "GreaterPlatesModel" 281 ⟨"GreaterPlatesModel", "bits", "(I)I"⟩ ∈ TB := TB_of 1271 (by decide +kernel) (by decide +kernel)
theorem tw_179 : Cond.methodLink "GreaterPlatesModel" 284 ⟨"GreaterPlatesModel", "isRow", "(I)Z"⟩ ∈ TB := TB_of 1274 (by decide +kernel) (by decide +kernel)
theorem tw_180 : Cond.code ⟨"GreaterPlatesModel", "isRow", "(I)Z"⟩ prog_14_method_48_code 5 (Option.some Jvm.ClassFile.FieldType.boolean) ∈ TB := TB_of 1277 (by decide +kernel) (by decide +kernel)
theorem tw_181 : Cond.instanceMethod ⟨"GreaterPlatesModel", "isRow", "(I)Z"⟩ ∈ TB := TB_of 1276 (by decide +kernel) (by decide +kernel)
theorem tw_182 : Cond.selects "GreaterPlatesModel" ⟨"GreaterPlatesModel", "isRow", "(I)Z"⟩ ⟨"GreaterPlatesModel", "isRow", "(I)Z"⟩ ∈ TB := TB_of 69 (by decide +kernel) (by decide +kernel)
theorem tw_183 : Cond.code ⟨"GreaterPlatesModel", "bits", "(I)I"⟩ prog_14_method_49_code 3 (Option.some Jvm.ClassFile.FieldType.int) ∈ TB := TB_of 1273 (by decide +kernel) (by decide +kernel)
theorem tw_184 : Cond.static ⟨"GreaterPlatesModel", "bits", "(I)I"⟩ ∈ TB := TB_of 1272 (by decide +kernel) (by decide +kernel)
theorem tw_185 : Cond.methodLink "GreaterPlatesModel" 287 ⟨"GreaterPlatesModel", "mostFrom", "(II)I"⟩ ∈ TB := TB_of 1286 (by decide +kernel) (by decide +kernel)
theorem tw_186 : Cond.code ⟨"GreaterPlatesModel", "mostFrom", "(II)I"⟩ prog_14_method_51_code 6 (Option.some Jvm.ClassFile.FieldType.int) ∈ TB := TB_of 1289 (by decide +kernel) (by decide +kernel)
theorem tw_187 : Cond.instanceMethod ⟨"GreaterPlatesModel", "mostFrom", "(II)I"⟩ ∈ TB := TB_of 1288 (by decide +kernel) (by decide +kernel)
theorem tw_188 : Cond.selects "GreaterPlatesModel" ⟨"GreaterPlatesModel", "mostFrom", "(II)I"⟩ ⟨"GreaterPlatesModel", "mostFrom", "(II)I"⟩ ∈ TB := TB_of 71 (by decide +kernel) (by decide +kernel)
theorem tw_189 : Cond.fieldLink "GreaterPlatesModel" 185 "GreaterPlatesModel" "ends" "[I" ∈ TB := TB_of 1060 (by decide +kernel) (by decide +kernel)
theorem tw_190 : Cond.methodLink "GreaterPlatesModel" 290 ⟨"java/lang/Math", "max", "(II)I"⟩ ∈ TB := TB_of 1290 (by decide +kernel) (by decide +kernel)
theorem tw_191 : Cond.code ⟨"java/lang/Math", "max", "(II)I"⟩ prog_17_method_65_code 2 (Option.some Jvm.ClassFile.FieldType.int) ∈ TB := TB_of 563 (by decide +kernel) (by decide +kernel)
theorem tw_192 : Cond.static ⟨"java/lang/Math", "max", "(II)I"⟩ ∈ TB := TB_of 562 (by decide +kernel) (by decide +kernel)
theorem tw_193 : Cond.fieldLink "GreaterPlatesModel" 194 "GreaterPlatesModel" "belowNow" "[I" ∈ TB := TB_of 1067 (by decide +kernel) (by decide +kernel)
theorem tw_194 : Cond.methodLink "GreaterPlatesModel" 305 ⟨"GreaterPlatesModel", "orders", "(III)V"⟩ ∈ TB := TB_of 1303 (by decide +kernel) (by decide +kernel)
theorem tw_195 : Cond.fieldLink "GreaterPlatesModel" 296 "GreaterPlatesModel" "all" "I" ∈ TB := TB_of 1063 (by decide +kernel) (by decide +kernel)
theorem tw_196 : Cond.fieldLink "GreaterPlatesModel" 293 "GreaterPlatesModel" "sum" "I" ∈ TB := TB_of 1062 (by decide +kernel) (by decide +kernel)
theorem tw_197 : Cond.fieldLink "GreaterPlatesModel" 188 "GreaterPlatesModel" "byHeaps" "[I" ∈ TB := TB_of 1061 (by decide +kernel) (by decide +kernel)
theorem tw_198 : Cond.code ⟨"GreaterPlatesModel", "orders", "(III)V"⟩ prog_14_method_54_code 6 none ∈ TB := TB_of 1306 (by decide +kernel) (by decide +kernel)
theorem tw_199 : Cond.instanceMethod ⟨"GreaterPlatesModel", "orders", "(III)V"⟩ ∈ TB := TB_of 1305 (by decide +kernel) (by decide +kernel)
theorem tw_200 : Cond.selects "GreaterPlatesModel" ⟨"GreaterPlatesModel", "orders", "(III)V"⟩ ⟨"GreaterPlatesModel", "orders", "(III)V"⟩ ∈ TB := TB_of 73 (by decide +kernel) (by decide +kernel)
theorem tw_201 : Cond.fieldLink "GreaterPlatesModel" 299 "GreaterPlatesModel" "alike" "I" ∈ TB := TB_of 1064 (by decide +kernel) (by decide +kernel)
theorem tw_202 : Cond.fieldLink "GreaterPlatesModel" 302 "GreaterPlatesModel" "best" "I" ∈ TB := TB_of 1065 (by decide +kernel) (by decide +kernel)
theorem tw_203 : Cond.fieldLink "GreaterPlatesModel" 191 "GreaterPlatesModel" "bestTurn" "[I" ∈ TB := TB_of 1066 (by decide +kernel) (by decide +kernel)
theorem tw_204 : Cond.methodLink "GreaterPlatesModel" 308 ⟨"GreaterPlatesModel", "allOrders", "(I)V"⟩ ∈ TB := TB_of 1299 (by decide +kernel) (by decide +kernel)
theorem tw_205 : Cond.code ⟨"GreaterPlatesModel", "allOrders", "(I)V"⟩ prog_14_method_55_code 3 none ∈ TB := TB_of 1302 (by decide +kernel) (by decide +kernel)
theorem tw_206 : Cond.instanceMethod ⟨"GreaterPlatesModel", "allOrders", "(I)V"⟩ ∈ TB := TB_of 1301 (by decide +kernel) (by decide +kernel)
theorem tw_207 : Cond.selects "GreaterPlatesModel" ⟨"GreaterPlatesModel", "allOrders", "(I)V"⟩ ⟨"GreaterPlatesModel", "allOrders", "(I)V"⟩ ∈ TB := TB_of 72 (by decide +kernel) (by decide +kernel)
theorem tw_208 : Cond.constantLong "GreaterPlatesModel" 311 (-4611686018427387904) ∈ TB := TB_of 1311 (by decide +kernel) (by decide +kernel)
theorem tw_209 : Cond.methodLink "GreaterPlatesModel" 313 ⟨"GreaterPlatesModel", "divisor", "(II)I"⟩ ∈ TB := TB_of 1312 (by decide +kernel) (by decide +kernel)
theorem tw_210 : Cond.code ⟨"GreaterPlatesModel", "divisor", "(II)I"⟩ prog_14_method_57_code 5 (Option.some Jvm.ClassFile.FieldType.int) ∈ TB := TB_of 1314 (by decide +kernel) (by decide +kernel)
theorem tw_211 : Cond.static ⟨"GreaterPlatesModel", "divisor", "(II)I"⟩ ∈ TB := TB_of 1313 (by decide +kernel) (by decide +kernel)
theorem tw_212 : Cond.constant "GreaterPlatesModel" 316 1103515245 ∈ TB := TB_of 1327 (by decide +kernel) (by decide +kernel)
theorem tw_213 : Cond.methodLink "GreaterPlatesModel" 317 ⟨"GreaterPlatesModel", "isSheet", "(I)Z"⟩ ∈ TB := TB_of 1332 (by decide +kernel) (by decide +kernel)
theorem tw_214 : Cond.fieldLink "GreaterPlatesModel" 209 "GreaterPlatesModel" "sorts" "[I" ∈ TB := TB_of 1079 (by decide +kernel) (by decide +kernel)
theorem tw_215 : Cond.code ⟨"GreaterPlatesModel", "isSheet", "(I)Z"⟩ prog_14_method_71_code 1 (Option.some Jvm.ClassFile.FieldType.boolean) ∈ TB := TB_of 1334 (by decide +kernel) (by decide +kernel)
theorem tw_216 : Cond.static ⟨"GreaterPlatesModel", "isSheet", "(I)Z"⟩ ∈ TB := TB_of 1333 (by decide +kernel) (by decide +kernel)
theorem tw_217 : Cond.fieldLink "GreaterPlatesModel" 215 "GreaterPlatesModel" "items" "[I" ∈ TB := TB_of 1081 (by decide +kernel) (by decide +kernel)
theorem tw_218 : Cond.fieldLink "GreaterPlatesModel" 212 "GreaterPlatesModel" "sizes" "[I" ∈ TB := TB_of 1080 (by decide +kernel) (by decide +kernel)
theorem tw_219 : Cond.methodLink "GreaterPlatesModel" 326 ⟨"GreaterPlatesModel", "move", "([I[I)V"⟩ ∈ TB := TB_of 1343 (by decide +kernel) (by decide +kernel)
theorem tw_220 : Cond.code ⟨"GreaterPlatesModel", "move", "([I[I)V"⟩ prog_14_method_64_code 3 none ∈ TB := TB_of 1345 (by decide +kernel) (by decide +kernel)
theorem tw_221 : Cond.static ⟨"GreaterPlatesModel", "move", "([I[I)V"⟩ ∈ TB := TB_of 1344 (by decide +kernel) (by decide +kernel)
theorem tw_222 : Cond.fieldLink "GreaterPlatesModel" 200 "GreaterPlatesModel" "tableLies" "[I" ∈ TB := TB_of 1071 (by decide +kernel) (by decide +kernel)
theorem tw_223 : Cond.fieldLink "GreaterPlatesModel" 197 "GreaterPlatesModel" "tableOn" "[I" ∈ TB := TB_of 1070 (by decide +kernel) (by decide +kernel)
theorem tw_224 : Cond.fieldLink "GreaterPlatesModel" 323 "GreaterPlatesModel" "tableHeaps" "I" ∈ TB := TB_of 1069 (by decide +kernel) (by decide +kernel)
theorem tw_225 : Cond.fieldLink "GreaterPlatesModel" 320 "GreaterPlatesModel" "laid" "I" ∈ TB := TB_of 1068 (by decide +kernel) (by decide +kernel)
theorem tw_226 : Cond.fieldLink "GreaterPlatesModel" 206 "GreaterPlatesModel" "liesThen" "[I" ∈ TB := TB_of 1078 (by decide +kernel) (by decide +kernel)
theorem tw_227 : Cond.fieldLink "GreaterPlatesModel" 203 "GreaterPlatesModel" "onThen" "[I" ∈ TB := TB_of 1077 (by decide +kernel) (by decide +kernel)
theorem tw_228 : Cond.fieldLink "GreaterPlatesModel" 343 "GreaterPlatesModel" "ruleThen" "I" ∈ TB := TB_of 1076 (by decide +kernel) (by decide +kernel)
theorem tw_229 : Cond.fieldLink "GreaterPlatesModel" 340 "GreaterPlatesModel" "highestThen" "I" ∈ TB := TB_of 1075 (by decide +kernel) (by decide +kernel)
theorem tw_230 : Cond.fieldLink "GreaterPlatesModel" 337 "GreaterPlatesModel" "heapsThen" "I" ∈ TB := TB_of 1074 (by decide +kernel) (by decide +kernel)
theorem tw_231 : Cond.fieldLink "GreaterPlatesModel" 334 "GreaterPlatesModel" "laidThen" "I" ∈ TB := TB_of 1073 (by decide +kernel) (by decide +kernel)
theorem tw_232 : Cond.fieldLink "GreaterPlatesModel" 330 "GreaterPlatesModel" "kept" "Z" ∈ TB := TB_of 1072 (by decide +kernel) (by decide +kernel)
theorem tw_233 : Cond.fieldLink "GreaterPlatesModel" 218 "GreaterPlatesModel" "moved" "[I" ∈ TB := TB_of 1082 (by decide +kernel) (by decide +kernel)
theorem tw_234 : Cond.constantLong "GreaterPlatesModel" 346 2 ∈ TB := TB_of 1382 (by decide +kernel) (by decide +kernel)
theorem tw_235 : Cond.methodLink "GreaterPlatesModel" 348 ⟨"GreaterPlatesModel", "plate", "(II)I"⟩ ∈ TB := TB_of 1383 (by decide +kernel) (by decide +kernel)
theorem tw_236 : Cond.code ⟨"GreaterPlatesModel", "plate", "(II)I"⟩ prog_14_method_4_code 3 (Option.some Jvm.ClassFile.FieldType.int) ∈ TB := TB_of 904 (by decide +kernel) (by decide +kernel)
theorem tw_237 : Cond.instanceMethod ⟨"GreaterPlatesModel", "plate", "(II)I"⟩ ∈ TB := TB_of 902 (by decide +kernel) (by decide +kernel)
theorem tw_238 : Cond.selects "GreaterPlatesModel" ⟨"GreaterPlatesModel", "plate", "(II)I"⟩ ⟨"GreaterPlatesModel", "plate", "(II)I"⟩ ∈ TB := TB_of 903 (by decide +kernel) (by decide +kernel)
theorem tg_M_37 : ((37, 12, 0) : Nat × Nat × Nat) ∈ tsM := by decide
theorem yw_X12_isIn : yW yX12_isIn cX12_isIn 3 (some .boolean) 3 := ⟨tw_1, tw_2, by decide, by decide, by decide, by decide +kernel⟩
theorem ys_X12_isIn : yS yX12_isIn := tw_3
theorem fok_12 : fOK RX12 TX12 60 (tyX 12) := ⟨by decide +kernel, tyX12_ok, nmX12⟩
theorem fl_X12_1_12 : fL RX12 1 12 0 true := ⟨RX12, TX12, 60, rfl, fok_12, by decide, rfl, by decide, tw_4⟩
theorem fl_X12_11_12 : fL RX12 11 12 3 true := ⟨RX12, TX12, 60, rfl, fok_12, by decide, rfl, by decide, tw_5⟩
theorem tg_M_38 : ((38, 14, 8) : Nat × Nat × Nat) ∈ tsM := by decide
theorem tg_M_39 : ((39, 14, 8) : Nat × Nat × Nat) ∈ tsM := by decide
theorem fw_X12_1_12 (nm : String) : fW RX12 nm 1 12 0 true := ⟨fl_X12_1_12, fun C T N h => by cases h; exact Or.inl rfl⟩
theorem fl_X12_18_12 : fL RX12 18 12 2 false := ⟨RX12, TX12, 60, rfl, fok_12, by decide, rfl, by decide, tw_6⟩
theorem pt_M_37_2 : ((37, 2, 39) : Nat × Nat × Nat) ∈ psM := by decide
theorem fl_X12_14_12 : fL RX12 14 12 1 false := ⟨RX12, TX12, 60, rfl, fok_12, by decide, rfl, by decide, tw_7⟩
theorem pt_M_37_1 : ((37, 1, 38) : Nat × Nat × Nat) ∈ psM := by decide
theorem tg_M_40 : ((40, 14, 5) : Nat × Nat × Nat) ∈ tsM := by decide
theorem tg_M_41 : ((41, 14, 5) : Nat × Nat × Nat) ∈ tsM := by decide
theorem fw_X12_11_12 (nm : String) : fW RX12 nm 11 12 3 true := ⟨fl_X12_11_12, fun C T N h => by cases h; exact Or.inl rfl⟩
theorem fl_X12_24_12 : fL RX12 24 12 5 false := ⟨RX12, TX12, 60, rfl, fok_12, by decide, rfl, by decide, tw_8⟩
theorem pt_M_37_5 : ((37, 5, 41) : Nat × Nat × Nat) ∈ psM := by decide
theorem fl_X12_21_12 : fL RX12 21 12 4 false := ⟨RX12, TX12, 60, rfl, fok_12, by decide, rfl, by decide, tw_9⟩
theorem pt_M_37_4 : ((37, 4, 40) : Nat × Nat × Nat) ∈ psM := by decide
theorem ycl_12_X12_isPlate : ∀ q : vw_C, vwCl[12]? = some q → q.1 = yX12_isPlate.cls := fun q h => by cases h; rfl
theorem yw_X12_isPlate : yW yX12_isPlate cX12_isPlate 2 (some .boolean) 1 := ⟨tw_11, tw_2, by decide, by decide, by decide, by decide +kernel⟩
theorem yv_X12_isPlate : yV yX12_isPlate := ⟨tw_12, tw_13⟩
theorem fl_X12_31_12 : fL RX12 31 12 6 true := ⟨RX12, TX12, 60, rfl, fok_12, by decide, rfl, by decide, tw_14⟩
theorem fw_X12_31_12 (nm : String) : fW RX12 nm 31 12 6 true := ⟨fl_X12_31_12, fun C T N h => by cases h; exact Or.inl rfl⟩
theorem ycl_12_X12_isLayer : ∀ q : vw_C, vwCl[12]? = some q → q.1 = yX12_isLayer.cls := fun q h => by cases h; rfl
theorem yw_X12_isLayer : yW yX12_isLayer cX12_isLayer 2 (some .boolean) 1 := ⟨tw_16, tw_2, by decide, by decide, by decide, by decide +kernel⟩
theorem yv_X12_isLayer : yV yX12_isLayer := ⟨tw_17, tw_18⟩
theorem tg_M_50 : ((50, 14, 6) : Nat × Nat × Nat) ∈ tsM := by decide
theorem fl_X12_167_12 : fL RX12 167 12 27 false := ⟨RX12, TX12, 60, rfl, fok_12, by decide, rfl, by decide, tw_20⟩
theorem pt_M_37_27 : ((37, 27, 50) : Nat × Nat × Nat) ∈ psM := by decide
theorem fl_X12_156_12 : fL RX12 156 12 10 true := ⟨RX12, TX12, 60, rfl, fok_12, by decide, rfl, by decide, tw_22⟩
theorem tg_M_44 : ((44, 14, 18) : Nat × Nat × Nat) ∈ tsM := by decide
theorem tg_M_49 : ((49, 14, 170) : Nat × Nat × Nat) ∈ tsM := by decide
theorem fl_X12_164_12 : fL RX12 164 12 26 false := ⟨RX12, TX12, 60, rfl, fok_12, by decide, rfl, by decide, tw_23⟩
theorem pt_M_37_26 : ((37, 26, 49) : Nat × Nat × Nat) ∈ psM := by decide
theorem tg_M_43 : ((43, 14, 2880) : Nat × Nat × Nat) ∈ tsM := by decide
theorem yw_X12_done : yW yX12_done cX12_done 3 (some .int) 3 := ⟨tw_25, tw_2, by decide, by decide, by decide, by decide +kernel⟩
theorem ys_X12_done : yS yX12_done := tw_26
theorem fl_X12_86_12 : fL RX12 86 12 11 false := ⟨RX12, TX12, 60, rfl, fok_12, by decide, rfl, by decide, tw_27⟩
theorem pt_M_37_11 : ((37, 11, 43) : Nat × Nat × Nat) ∈ psM := by decide
theorem fl_X12_134_12 : fL RX12 134 12 12 false := ⟨RX12, TX12, 60, rfl, fok_12, by decide, rfl, by decide, tw_28⟩
theorem pt_M_37_12 : ((37, 12, 44) : Nat × Nat × Nat) ∈ psM := by decide
theorem yw_X12_bound : yW yX12_bound cX12_bound 1 (some .int) 1 := ⟨tw_30, tw_2, by decide, by decide, by decide, by decide +kernel⟩
theorem ys_X12_bound : yS yX12_bound := tw_31
theorem ycl_12_X12_worthOf : ∀ q : vw_C, vwCl[12]? = some q → q.1 = yX12_worthOf.cls := fun q h => by cases h; rfl
theorem yw_X12_worthOf : yW yX12_worthOf cX12_worthOf 6 (some .int) 1 := ⟨tw_32, tw_2, by decide, by decide, by decide, by decide +kernel⟩
theorem yv_X12_worthOf : yV yX12_worthOf := ⟨tw_33, tw_34⟩
theorem ycl_12_X12_name : ∀ q : vw_C, vwCl[12]? = some q → q.1 = yX12_name.cls := fun q h => by cases h; rfl
theorem yw_X12_name : yW yX12_name cX12_name 6 none 5 := ⟨tw_35, tw_2, by decide, by decide, by decide, by decide +kernel⟩
theorem yv_X12_name : yV yX12_name := ⟨tw_36, tw_37⟩
theorem tg_M_42 : ((42, 14, 160) : Nat × Nat × Nat) ∈ tsM := by decide
theorem fl_X12_48_12 : fL RX12 48 12 8 true := ⟨RX12, TX12, 60, rfl, fok_12, by decide, rfl, by decide, tw_38⟩
theorem fw_X12_48_12 (nm : String) : fW RX12 nm 48 12 8 true := ⟨fl_X12_48_12, fun C T N h => by cases h; exact Or.inl rfl⟩
theorem fl_X12_51_12 : fL RX12 51 12 7 false := ⟨RX12, TX12, 60, rfl, fok_12, by decide, rfl, by decide, tw_39⟩
theorem pt_M_37_7 : ((37, 7, 42) : Nat × Nat × Nat) ∈ psM := by decide
theorem fl_X12_60_12 : fL RX12 60 12 14 true := ⟨RX12, TX12, 60, rfl, fok_12, by decide, rfl, by decide, tw_41⟩
theorem fw_X12_60_12 (nm : String) : fW RX12 nm 60 12 14 true := ⟨fl_X12_60_12, fun C T N h => by cases h; exact Or.inl rfl⟩
theorem fl_X12_54_12 : fL RX12 54 12 13 true := ⟨RX12, TX12, 60, rfl, fok_12, by decide, rfl, by decide, tw_42⟩
theorem fw_X12_54_12 (nm : String) : fW RX12 nm 54 12 13 true := ⟨fl_X12_54_12, fun C T N h => by cases h; exact Or.inl rfl⟩
theorem ycl_12_X12_isLetter : ∀ q : vw_C, vwCl[12]? = some q → q.1 = yX12_isLetter.cls := fun q h => by cases h; rfl
theorem yw_X12_isLetter : yW yX12_isLetter cX12_isLetter 2 (some .boolean) 1 := ⟨tw_43, tw_2, by decide, by decide, by decide, by decide +kernel⟩
theorem yv_X12_isLetter : yV yX12_isLetter := ⟨tw_44, tw_45⟩
theorem tg_M_46 : ((46, 14, 13) : Nat × Nat × Nat) ∈ tsM := by decide
theorem fl_X12_66_12 : fL RX12 66 12 16 true := ⟨RX12, TX12, 60, rfl, fok_12, by decide, rfl, by decide, tw_46⟩
theorem fl_X12_63_12 : fL RX12 63 12 18 false := ⟨RX12, TX12, 60, rfl, fok_12, by decide, rfl, by decide, tw_47⟩
theorem pt_M_37_18 : ((37, 18, 46) : Nat × Nat × Nat) ∈ psM := by decide
theorem tg_M_45 : ((45, 13, 45) : Nat × Nat × Nat) ∈ tsM := by decide
theorem fl_X12_69_12 : fL RX12 69 12 17 false := ⟨RX12, TX12, 60, rfl, fok_12, by decide, rfl, by decide, tw_48⟩
theorem pt_M_37_17 : ((37, 17, 45) : Nat × Nat × Nat) ∈ psM := by decide
theorem fl_X12_73_12 : fL RX12 73 12 15 true := ⟨RX12, TX12, 60, rfl, fok_12, by decide, rfl, by decide, tw_49⟩
theorem fw_X12_73_12 (nm : String) : fW RX12 nm 73 12 15 true := ⟨fl_X12_73_12, fun C T N h => by cases h; exact Or.inl rfl⟩
theorem ycl_12_X12_isDigit : ∀ q : vw_C, vwCl[12]? = some q → q.1 = yX12_isDigit.cls := fun q h => by cases h; rfl
theorem yw_X12_isDigit : yW yX12_isDigit cX12_isDigit 2 (some .boolean) 1 := ⟨tw_51, tw_2, by decide, by decide, by decide, by decide +kernel⟩
theorem yv_X12_isDigit : yV yX12_isDigit := ⟨tw_52, tw_53⟩
theorem ycl_12_X12_readNumber : ∀ q : vw_C, vwCl[12]? = some q → q.1 = yX12_readNumber.cls := fun q h => by cases h; rfl
theorem yw_X12_readNumber : yW yX12_readNumber cX12_readNumber 1 none 0 := ⟨tw_55, tw_2, by decide, by decide, by decide, by decide +kernel⟩
theorem yv_X12_readNumber : yV yX12_readNumber := ⟨tw_56, tw_57⟩
theorem ycl_12_X12_readWord : ∀ q : vw_C, vwCl[12]? = some q → q.1 = yX12_readWord.cls := fun q h => by cases h; rfl
theorem yw_X12_readWord : yW yX12_readWord cX12_readWord 5 none 0 := ⟨tw_59, tw_2, by decide, by decide, by decide, by decide +kernel⟩
theorem yv_X12_readWord : yV yX12_readWord := ⟨tw_60, tw_61⟩
theorem fw_X12_66_12 (nm : String) : fW RX12 nm 66 12 16 true := ⟨fl_X12_66_12, fun C T N h => by cases h; exact Or.inl rfl⟩
theorem fl_X12_92_12 : fL RX12 92 12 25 true := ⟨RX12, TX12, 60, rfl, fok_12, by decide, rfl, by decide, tw_62⟩
theorem fw_X12_92_12 (nm : String) : fW RX12 nm 92 12 25 true := ⟨fl_X12_92_12, fun C T N h => by cases h; exact Or.inl rfl⟩
theorem fl_X12_89_12 : fL RX12 89 12 24 true := ⟨RX12, TX12, 60, rfl, fok_12, by decide, rfl, by decide, tw_63⟩
theorem tg_M_47 : ((47, 14, 170) : Nat × Nat × Nat) ∈ tsM := by decide
theorem fl_X12_95_12 : fL RX12 95 12 20 true := ⟨RX12, TX12, 60, rfl, fok_12, by decide, rfl, by decide, tw_65⟩
theorem fl_X12_98_12 : fL RX12 98 12 19 false := ⟨RX12, TX12, 60, rfl, fok_12, by decide, rfl, by decide, tw_66⟩
theorem pt_M_37_19 : ((37, 19, 47) : Nat × Nat × Nat) ∈ psM := by decide
theorem fl_X12_104_12 : fL RX12 104 12 21 true := ⟨RX12, TX12, 60, rfl, fok_12, by decide, rfl, by decide, tw_67⟩
theorem fw_X12_95_12 (nm : String) : fW RX12 nm 95 12 20 true := ⟨fl_X12_95_12, fun C T N h => by cases h; exact Or.inl rfl⟩
theorem yw_X12_rank : yW yX12_rank cX12_rank 1 (some .int) 1 := ⟨tw_68, tw_2, by decide, by decide, by decide, by decide +kernel⟩
theorem ys_X12_rank : yS yX12_rank := tw_69
theorem ycl_12_X12_emit : ∀ q : vw_C, vwCl[12]? = some q → q.1 = yX12_emit.cls := fun q h => by cases h; rfl
theorem yw_X12_emit : yW yX12_emit cX12_emit 2 none 1 := ⟨tw_71, tw_2, by decide, by decide, by decide, by decide +kernel⟩
theorem yv_X12_emit : yV yX12_emit := ⟨tw_72, tw_73⟩
theorem fw_X12_104_12 (nm : String) : fW RX12 nm 104 12 21 true := ⟨fl_X12_104_12, fun C T N h => by cases h; exact Or.inl rfl⟩
theorem ycl_12_X12_isKey : ∀ q : vw_C, vwCl[12]? = some q → q.1 = yX12_isKey.cls := fun q h => by cases h; rfl
theorem yw_X12_isKey : yW yX12_isKey cX12_isKey 2 (some .boolean) 1 := ⟨tw_76, tw_2, by decide, by decide, by decide, by decide +kernel⟩
theorem yv_X12_isKey : yV yX12_isKey := ⟨tw_77, tw_78⟩
theorem ycl_12_X12_isSign : ∀ q : vw_C, vwCl[12]? = some q → q.1 = yX12_isSign.cls := fun q h => by cases h; rfl
theorem yw_X12_isSign : yW yX12_isSign cX12_isSign 2 (some .boolean) 1 := ⟨tw_79, tw_2, by decide, by decide, by decide, by decide +kernel⟩
theorem yv_X12_isSign : yV yX12_isSign := ⟨tw_80, tw_81⟩
theorem tg_M_48 : ((48, 15, 8) : Nat × Nat × Nat) ∈ tsM := by decide
theorem fl_X12_121_12 : fL RX12 121 12 22 true := ⟨RX12, TX12, 60, rfl, fok_12, by decide, rfl, by decide, tw_82⟩
theorem fl_X12_117_12 : fL RX12 117 12 23 false := ⟨RX12, TX12, 60, rfl, fok_12, by decide, rfl, by decide, tw_83⟩
theorem pt_M_37_23 : ((37, 23, 48) : Nat × Nat × Nat) ∈ psM := by decide
theorem ycl_12_X12_await : ∀ q : vw_C, vwCl[12]? = some q → q.1 = yX12_await.cls := fun q h => by cases h; rfl
theorem yw_X12_await : yW yX12_await cX12_await 2 none 1 := ⟨tw_86, tw_2, by decide, by decide, by decide, by decide +kernel⟩
theorem yv_X12_await : yV yX12_await := ⟨tw_87, tw_88⟩
theorem ycl_12_X12_doAll : ∀ q : vw_C, vwCl[12]? = some q → q.1 = yX12_doAll.cls := fun q h => by cases h; rfl
theorem yw_X12_doAll : yW yX12_doAll cX12_doAll 2 none 1 := ⟨tw_89, tw_2, by decide, by decide, by decide, by decide +kernel⟩
theorem yv_X12_doAll : yV yX12_doAll := ⟨tw_90, tw_91⟩
theorem fw_X12_121_12 (nm : String) : fW RX12 nm 121 12 22 true := ⟨fl_X12_121_12, fun C T N h => by cases h; exact Or.inl rfl⟩
theorem fw_X12_89_12 (nm : String) : fW RX12 nm 89 12 24 true := ⟨fl_X12_89_12, fun C T N h => by cases h; exact Or.inl rfl⟩
theorem ycl_12_X12_ahead : ∀ q : vw_C, vwCl[12]? = some q → q.1 = yX12_ahead.cls := fun q h => by cases h; rfl
theorem yw_X12_ahead : yW yX12_ahead cX12_ahead 3 (some .boolean) 1 := ⟨tw_93, tw_2, by decide, by decide, by decide, by decide +kernel⟩
theorem yv_X12_ahead : yV yX12_ahead := ⟨tw_94, tw_95⟩
theorem ycl_12_X12_closes : ∀ q : vw_C, vwCl[12]? = some q → q.1 = yX12_closes.cls := fun q h => by cases h; rfl
theorem yw_X12_closes : yW yX12_closes cX12_closes 1 (some .boolean) 0 := ⟨tw_98, tw_2, by decide, by decide, by decide, by decide +kernel⟩
theorem yv_X12_closes : yV yX12_closes := ⟨tw_99, tw_100⟩
theorem ycl_12_X12_between : ∀ q : vw_C, vwCl[12]? = some q → q.1 = yX12_between.cls := fun q h => by cases h; rfl
theorem yw_X12_between : yW yX12_between cX12_between 2 (some .boolean) 0 := ⟨tw_101, tw_2, by decide, by decide, by decide, by decide +kernel⟩
theorem yv_X12_between : yV yX12_between := ⟨tw_102, tw_103⟩
theorem ycl_12_X12_next : ∀ q : vw_C, vwCl[12]? = some q → q.1 = yX12_next.cls := fun q h => by cases h; rfl
theorem yw_X12_next : yW yX12_next cX12_next 2 none 0 := ⟨tw_105, tw_2, by decide, by decide, by decide, by decide +kernel⟩
theorem yv_X12_next : yV yX12_next := ⟨tw_106, tw_107⟩
theorem ycl_12_X12_readE : ∀ q : vw_C, vwCl[12]? = some q → q.1 = yX12_readE.cls := fun q h => by cases h; rfl
theorem yw_X12_readE : yW yX12_readE cX12_readE 5 (some .boolean) 1 := ⟨tw_109, tw_2, by decide, by decide, by decide, by decide +kernel⟩
theorem yv_X12_readE : yV yX12_readE := ⟨tw_110, tw_111⟩
theorem fl_X12_150_12 : fL RX12 150 12 9 true := ⟨RX12, TX12, 60, rfl, fok_12, by decide, rfl, by decide, tw_113⟩
theorem fw_X12_150_12 (nm : String) : fW RX12 nm 150 12 9 true := ⟨fl_X12_150_12, fun C T N h => by cases h; exact Or.inl rfl⟩
theorem ycl_12_X12_readAll : ∀ q : vw_C, vwCl[12]? = some q → q.1 = yX12_readAll.cls := fun q h => by cases h; rfl
theorem yw_X12_readAll : yW yX12_readAll cX12_readAll 3 (some .int) 1 := ⟨tw_114, tw_2, by decide, by decide, by decide, by decide +kernel⟩
theorem yv_X12_readAll : yV yX12_readAll := ⟨tw_115, tw_116⟩
theorem fw_X12_156_12 (nm : String) : fW RX12 nm 156 12 10 true := ⟨fl_X12_156_12, fun C T N h => by cases h; exact Or.inl rfl⟩
theorem tg_M_51 : ((51, 14, 8) : Nat × Nat × Nat) ∈ tsM := by decide
theorem fl_X12_170_12 : fL RX12 170 12 29 false := ⟨RX12, TX12, 60, rfl, fok_12, by decide, rfl, by decide, tw_117⟩
theorem pt_M_37_29 : ((37, 29, 51) : Nat × Nat × Nat) ∈ psM := by decide
theorem fl_X12_225_12 : fL RX12 225 12 28 true := ⟨RX12, TX12, 60, rfl, fok_12, by decide, rfl, by decide, tw_118⟩
theorem tg_M_52 : ((52, 14, 64) : Nat × Nat × Nat) ∈ tsM := by decide
theorem fl_X12_173_12 : fL RX12 173 12 30 false := ⟨RX12, TX12, 60, rfl, fok_12, by decide, rfl, by decide, tw_119⟩
theorem pt_M_37_30 : ((37, 30, 52) : Nat × Nat × Nat) ∈ psM := by decide
theorem ycl_12_X12_nameOn : ∀ q : vw_C, vwCl[12]? = some q → q.1 = yX12_nameOn.cls := fun q h => by cases h; rfl
theorem yw_X12_nameOn : yW yX12_nameOn cX12_nameOn 5 none 2 := ⟨tw_121, tw_2, by decide, by decide, by decide, by decide +kernel⟩
theorem yv_X12_nameOn : yV yX12_nameOn := ⟨tw_122, tw_123⟩
theorem fw_X12_225_12 (nm : String) : fW RX12 nm 225 12 28 true := ⟨fl_X12_225_12, fun C T N h => by cases h; exact Or.inl rfl⟩
theorem yw_J9_abs_0f7a4 : yW yJ9_abs_0f7a4 cJ9_abs_0f7a4 1 (some .int) 1 := ⟨tw_125, tw_126, by decide, by decide, by decide, by decide +kernel⟩
theorem ys_J9_abs_0f7a4 : yS yJ9_abs_0f7a4 := tw_127
theorem ycl_12_X12_likes : ∀ q : vw_C, vwCl[12]? = some q → q.1 = yX12_likes.cls := fun q h => by cases h; rfl
theorem yw_X12_likes : yW yX12_likes cX12_likes 3 (some .boolean) 2 := ⟨tw_129, tw_2, by decide, by decide, by decide, by decide +kernel⟩
theorem yv_X12_likes : yV yX12_likes := ⟨tw_130, tw_131⟩
theorem ycl_12_X12_rank_ : ∀ q : vw_C, vwCl[12]? = some q → q.1 = yX12_rank_.cls := fun q h => by cases h; rfl
theorem yw_X12_rank_ : yW yX12_rank_ cX12_rank_ 6 (some .int) 3 := ⟨tw_134, tw_2, by decide, by decide, by decide, by decide +kernel⟩
theorem yv_X12_rank_ : yV yX12_rank_ := ⟨tw_135, tw_136⟩
theorem ycl_12_X12_mayLie : ∀ q : vw_C, vwCl[12]? = some q → q.1 = yX12_mayLie.cls := fun q h => by cases h; rfl
theorem yw_X12_mayLie : yW yX12_mayLie cX12_mayLie 3 (some .boolean) 2 := ⟨tw_137, tw_2, by decide, by decide, by decide, by decide +kernel⟩
theorem yv_X12_mayLie : yV yX12_mayLie := ⟨tw_138, tw_139⟩
theorem fl_X12_246_12 : fL RX12 246 12 34 true := ⟨RX12, TX12, 60, rfl, fok_12, by decide, rfl, by decide, tw_140⟩
theorem fw_X12_246_12 (nm : String) : fW RX12 nm 246 12 34 true := ⟨fl_X12_246_12, fun C T N h => by cases h; exact Or.inl rfl⟩
theorem tg_M_53 : ((53, 14, 8) : Nat × Nat × Nat) ∈ tsM := by decide
theorem tg_M_54 : ((54, 14, 8) : Nat × Nat × Nat) ∈ tsM := by decide
theorem fl_X12_182_12 : fL RX12 182 12 33 false := ⟨RX12, TX12, 60, rfl, fok_12, by decide, rfl, by decide, tw_142⟩
theorem pt_M_37_33 : ((37, 33, 55) : Nat × Nat × Nat) ∈ psM := by decide
theorem fl_X12_179_12 : fL RX12 179 12 32 false := ⟨RX12, TX12, 60, rfl, fok_12, by decide, rfl, by decide, tw_143⟩
theorem pt_M_37_32 : ((37, 32, 54) : Nat × Nat × Nat) ∈ psM := by decide
theorem ycl_12_X12_choice : ∀ q : vw_C, vwCl[12]? = some q → q.1 = yX12_choice.cls := fun q h => by cases h; rfl
theorem yw_X12_choice : yW yX12_choice cX12_choice 7 (some .int) 2 := ⟨tw_144, tw_2, by decide, by decide, by decide, by decide +kernel⟩
theorem yv_X12_choice : yV yX12_choice := ⟨tw_145, tw_146⟩
theorem fl_X12_176_12 : fL RX12 176 12 31 false := ⟨RX12, TX12, 60, rfl, fok_12, by decide, rfl, by decide, tw_147⟩
theorem pt_M_37_31 : ((37, 31, 53) : Nat × Nat × Nat) ∈ psM := by decide
theorem tg_M_55 : ((55, 14, 8) : Nat × Nat × Nat) ∈ tsM := by decide
theorem ycl_12_X12_put : ∀ q : vw_C, vwCl[12]? = some q → q.1 = yX12_put.cls := fun q h => by cases h; rfl
theorem yw_X12_put : yW yX12_put cX12_put 3 none 2 := ⟨tw_149, tw_2, by decide, by decide, by decide, by decide +kernel⟩
theorem yv_X12_put : yV yX12_put := ⟨tw_150, tw_151⟩
theorem ycl_12_X12_layAll : ∀ q : vw_C, vwCl[12]? = some q → q.1 = yX12_layAll.cls := fun q h => by cases h; rfl
theorem yw_X12_layAll : yW yX12_layAll cX12_layAll 5 none 1 := ⟨tw_153, tw_2, by decide, by decide, by decide, by decide +kernel⟩
theorem yv_X12_layAll : yV yX12_layAll := ⟨tw_154, tw_155⟩
theorem fl_X12_259_12 : fL RX12 259 12 35 true := ⟨RX12, TX12, 60, rfl, fok_12, by decide, rfl, by decide, tw_157⟩
theorem fl_X12_262_12 : fL RX12 262 12 36 true := ⟨RX12, TX12, 60, rfl, fok_12, by decide, rfl, by decide, tw_158⟩
theorem fw_X12_262_12 (nm : String) : fW RX12 nm 262 12 36 true := ⟨fl_X12_262_12, fun C T N h => by cases h; exact Or.inl rfl⟩
theorem fw_X12_259_12 (nm : String) : fW RX12 nm 259 12 35 true := ⟨fl_X12_259_12, fun C T N h => by cases h; exact Or.inl rfl⟩
theorem ycl_12_X12_putBack : ∀ q : vw_C, vwCl[12]? = some q → q.1 = yX12_putBack.cls := fun q h => by cases h; rfl
theorem yw_X12_putBack : yW yX12_putBack cX12_putBack 2 none 1 := ⟨tw_160, tw_2, by decide, by decide, by decide, by decide +kernel⟩
theorem yv_X12_putBack : yV yX12_putBack := ⟨tw_161, tw_162⟩
theorem ycl_12_X12_ways : ∀ q : vw_C, vwCl[12]? = some q → q.1 = yX12_ways.cls := fun q h => by cases h; rfl
theorem yw_X12_ways : yW yX12_ways cX12_ways 8 none 3 := ⟨tw_163, tw_2, by decide, by decide, by decide, by decide +kernel⟩
theorem yv_X12_ways : yV yX12_ways := ⟨tw_164, tw_165⟩
theorem ycl_12_X12_goThrough : ∀ q : vw_C, vwCl[12]? = some q → q.1 = yX12_goThrough.cls := fun q h => by cases h; rfl
theorem yw_X12_goThrough : yW yX12_goThrough cX12_goThrough 2 none 1 := ⟨tw_167, tw_2, by decide, by decide, by decide, by decide +kernel⟩
theorem yv_X12_goThrough : yV yX12_goThrough := ⟨tw_168, tw_169⟩
theorem ycl_12_X12_asTheyCame : ∀ q : vw_C, vwCl[12]? = some q → q.1 = yX12_asTheyCame.cls := fun q h => by cases h; rfl
theorem yw_X12_asTheyCame : yW yX12_asTheyCame cX12_asTheyCame 2 none 0 := ⟨tw_171, tw_2, by decide, by decide, by decide, by decide +kernel⟩
theorem yv_X12_asTheyCame : yV yX12_asTheyCame := ⟨tw_172, tw_173⟩
theorem ycl_12_X12_couldLie : ∀ q : vw_C, vwCl[12]? = some q → q.1 = yX12_couldLie.cls := fun q h => by cases h; rfl
theorem yw_X12_couldLie : yW yX12_couldLie cX12_couldLie 3 (some .boolean) 2 := ⟨tw_175, tw_2, by decide, by decide, by decide, by decide +kernel⟩
theorem yv_X12_couldLie : yV yX12_couldLie := ⟨tw_176, tw_177⟩
theorem ycl_12_X12_isRow : ∀ q : vw_C, vwCl[12]? = some q → q.1 = yX12_isRow.cls := fun q h => by cases h; rfl
theorem yw_X12_isRow : yW yX12_isRow cX12_isRow 5 (some .boolean) 1 := ⟨tw_180, tw_2, by decide, by decide, by decide, by decide +kernel⟩
theorem yv_X12_isRow : yV yX12_isRow := ⟨tw_181, tw_182⟩
theorem yw_X12_bits : yW yX12_bits cX12_bits 3 (some .int) 1 := ⟨tw_183, tw_2, by decide, by decide, by decide, by decide +kernel⟩
theorem ys_X12_bits : yS yX12_bits := tw_184
theorem ycl_12_X12_mostFrom : ∀ q : vw_C, vwCl[12]? = some q → q.1 = yX12_mostFrom.cls := fun q h => by cases h; rfl
theorem yw_X12_mostFrom : yW yX12_mostFrom cX12_mostFrom 6 (some .int) 2 := ⟨tw_186, tw_2, by decide, by decide, by decide, by decide +kernel⟩
theorem yv_X12_mostFrom : yV yX12_mostFrom := ⟨tw_187, tw_188⟩
theorem tg_M_56 : ((56, 14, 3) : Nat × Nat × Nat) ∈ tsM := by decide
theorem fl_X12_185_12 : fL RX12 185 12 37 false := ⟨RX12, TX12, 60, rfl, fok_12, by decide, rfl, by decide, tw_189⟩
theorem pt_M_37_37 : ((37, 37, 56) : Nat × Nat × Nat) ∈ psM := by decide
theorem yw_J9_max_7cf53 : yW yJ9_max_7cf53 cJ9_max_7cf53 2 (some .int) 2 := ⟨tw_191, tw_126, by decide, by decide, by decide, by decide +kernel⟩
theorem ys_J9_max_7cf53 : yS yJ9_max_7cf53 := tw_192
theorem tg_M_59 : ((59, 14, 8) : Nat × Nat × Nat) ∈ tsM := by decide
theorem fl_X12_194_12 : fL RX12 194 12 44 false := ⟨RX12, TX12, 60, rfl, fok_12, by decide, rfl, by decide, tw_193⟩
theorem pt_M_37_44 : ((37, 44, 59) : Nat × Nat × Nat) ∈ psM := by decide
theorem tg_M_57 : ((57, 14, 9) : Nat × Nat × Nat) ∈ tsM := by decide
theorem fl_X12_296_12 : fL RX12 296 12 40 true := ⟨RX12, TX12, 60, rfl, fok_12, by decide, rfl, by decide, tw_195⟩
theorem fw_X12_296_12 (nm : String) : fW RX12 nm 296 12 40 true := ⟨fl_X12_296_12, fun C T N h => by cases h; exact Or.inl rfl⟩
theorem fl_X12_293_12 : fL RX12 293 12 39 true := ⟨RX12, TX12, 60, rfl, fok_12, by decide, rfl, by decide, tw_196⟩
theorem fw_X12_293_12 (nm : String) : fW RX12 nm 293 12 39 true := ⟨fl_X12_293_12, fun C T N h => by cases h; exact Or.inl rfl⟩
theorem fl_X12_188_12 : fL RX12 188 12 38 false := ⟨RX12, TX12, 60, rfl, fok_12, by decide, rfl, by decide, tw_197⟩
theorem pt_M_37_38 : ((37, 38, 57) : Nat × Nat × Nat) ∈ psM := by decide
theorem ycl_12_X12_orders : ∀ q : vw_C, vwCl[12]? = some q → q.1 = yX12_orders.cls := fun q h => by cases h; rfl
theorem yw_X12_orders : yW yX12_orders cX12_orders 6 none 3 := ⟨tw_198, tw_2, by decide, by decide, by decide, by decide +kernel⟩
theorem yv_X12_orders : yV yX12_orders := ⟨tw_199, tw_200⟩
theorem fl_X12_299_12 : fL RX12 299 12 41 true := ⟨RX12, TX12, 60, rfl, fok_12, by decide, rfl, by decide, tw_201⟩
theorem fl_X12_302_12 : fL RX12 302 12 42 true := ⟨RX12, TX12, 60, rfl, fok_12, by decide, rfl, by decide, tw_202⟩
theorem fw_X12_299_12 (nm : String) : fW RX12 nm 299 12 41 true := ⟨fl_X12_299_12, fun C T N h => by cases h; exact Or.inl rfl⟩
theorem fw_X12_302_12 (nm : String) : fW RX12 nm 302 12 42 true := ⟨fl_X12_302_12, fun C T N h => by cases h; exact Or.inl rfl⟩
theorem tg_M_58 : ((58, 14, 8) : Nat × Nat × Nat) ∈ tsM := by decide
theorem fl_X12_191_12 : fL RX12 191 12 43 false := ⟨RX12, TX12, 60, rfl, fok_12, by decide, rfl, by decide, tw_203⟩
theorem pt_M_37_43 : ((37, 43, 58) : Nat × Nat × Nat) ∈ psM := by decide
theorem ycl_12_X12_allOrders : ∀ q : vw_C, vwCl[12]? = some q → q.1 = yX12_allOrders.cls := fun q h => by cases h; rfl
theorem yw_X12_allOrders : yW yX12_allOrders cX12_allOrders 3 none 1 := ⟨tw_205, tw_2, by decide, by decide, by decide, by decide +kernel⟩
theorem yv_X12_allOrders : yV yX12_allOrders := ⟨tw_206, tw_207⟩
theorem yw_X12_divisor : yW yX12_divisor cX12_divisor 5 (some .int) 2 := ⟨tw_210, tw_2, by decide, by decide, by decide, by decide +kernel⟩
theorem ys_X12_divisor : yS yX12_divisor := tw_211
theorem tg_M_64 : ((64, 14, 4) : Nat × Nat × Nat) ∈ tsM := by decide
theorem fl_X12_209_12 : fL RX12 209 12 56 false := ⟨RX12, TX12, 60, rfl, fok_12, by decide, rfl, by decide, tw_214⟩
theorem pt_M_37_56 : ((37, 56, 64) : Nat × Nat × Nat) ∈ psM := by decide
theorem yw_X12_isSheet : yW yX12_isSheet cX12_isSheet 1 (some .boolean) 1 := ⟨tw_215, tw_2, by decide, by decide, by decide, by decide +kernel⟩
theorem ys_X12_isSheet : yS yX12_isSheet := tw_216
theorem tg_M_65 : ((65, 14, 4) : Nat × Nat × Nat) ∈ tsM := by decide
theorem tg_M_66 : ((66, 14, 160) : Nat × Nat × Nat) ∈ tsM := by decide
theorem fl_X12_215_12 : fL RX12 215 12 58 false := ⟨RX12, TX12, 60, rfl, fok_12, by decide, rfl, by decide, tw_217⟩
theorem pt_M_37_58 : ((37, 58, 66) : Nat × Nat × Nat) ∈ psM := by decide
theorem fl_X12_212_12 : fL RX12 212 12 57 false := ⟨RX12, TX12, 60, rfl, fok_12, by decide, rfl, by decide, tw_218⟩
theorem pt_M_37_57 : ((37, 57, 65) : Nat × Nat × Nat) ∈ psM := by decide
theorem tg_M_60 : ((60, 14, 8) : Nat × Nat × Nat) ∈ tsM := by decide
theorem tg_M_61 : ((61, 14, 64) : Nat × Nat × Nat) ∈ tsM := by decide
theorem yw_X12_move : yW yX12_move cX12_move 3 none 2 := ⟨tw_220, tw_2, by decide, by decide, by decide, by decide +kernel⟩
theorem ys_X12_move : yS yX12_move := tw_221
theorem fl_X12_200_12 : fL RX12 200 12 48 false := ⟨RX12, TX12, 60, rfl, fok_12, by decide, rfl, by decide, tw_222⟩
theorem pt_M_37_48 : ((37, 48, 61) : Nat × Nat × Nat) ∈ psM := by decide
theorem fl_X12_197_12 : fL RX12 197 12 47 false := ⟨RX12, TX12, 60, rfl, fok_12, by decide, rfl, by decide, tw_223⟩
theorem pt_M_37_47 : ((37, 47, 60) : Nat × Nat × Nat) ∈ psM := by decide
theorem fl_X12_323_12 : fL RX12 323 12 46 true := ⟨RX12, TX12, 60, rfl, fok_12, by decide, rfl, by decide, tw_224⟩
theorem fw_X12_323_12 (nm : String) : fW RX12 nm 323 12 46 true := ⟨fl_X12_323_12, fun C T N h => by cases h; exact Or.inl rfl⟩
theorem fl_X12_320_12 : fL RX12 320 12 45 true := ⟨RX12, TX12, 60, rfl, fok_12, by decide, rfl, by decide, tw_225⟩
theorem fw_X12_320_12 (nm : String) : fW RX12 nm 320 12 45 true := ⟨fl_X12_320_12, fun C T N h => by cases h; exact Or.inl rfl⟩
theorem tg_M_62 : ((62, 14, 8) : Nat × Nat × Nat) ∈ tsM := by decide
theorem tg_M_63 : ((63, 14, 64) : Nat × Nat × Nat) ∈ tsM := by decide
theorem fl_X12_206_12 : fL RX12 206 12 55 false := ⟨RX12, TX12, 60, rfl, fok_12, by decide, rfl, by decide, tw_226⟩
theorem pt_M_37_55 : ((37, 55, 63) : Nat × Nat × Nat) ∈ psM := by decide
theorem fl_X12_203_12 : fL RX12 203 12 54 false := ⟨RX12, TX12, 60, rfl, fok_12, by decide, rfl, by decide, tw_227⟩
theorem pt_M_37_54 : ((37, 54, 62) : Nat × Nat × Nat) ∈ psM := by decide
theorem fl_X12_343_12 : fL RX12 343 12 53 true := ⟨RX12, TX12, 60, rfl, fok_12, by decide, rfl, by decide, tw_228⟩
theorem fw_X12_343_12 (nm : String) : fW RX12 nm 343 12 53 true := ⟨fl_X12_343_12, fun C T N h => by cases h; exact Or.inl rfl⟩
theorem fl_X12_340_12 : fL RX12 340 12 52 true := ⟨RX12, TX12, 60, rfl, fok_12, by decide, rfl, by decide, tw_229⟩
theorem fw_X12_340_12 (nm : String) : fW RX12 nm 340 12 52 true := ⟨fl_X12_340_12, fun C T N h => by cases h; exact Or.inl rfl⟩
theorem fl_X12_337_12 : fL RX12 337 12 51 true := ⟨RX12, TX12, 60, rfl, fok_12, by decide, rfl, by decide, tw_230⟩
theorem fw_X12_337_12 (nm : String) : fW RX12 nm 337 12 51 true := ⟨fl_X12_337_12, fun C T N h => by cases h; exact Or.inl rfl⟩
theorem fl_X12_334_12 : fL RX12 334 12 50 true := ⟨RX12, TX12, 60, rfl, fok_12, by decide, rfl, by decide, tw_231⟩
theorem fw_X12_334_12 (nm : String) : fW RX12 nm 334 12 50 true := ⟨fl_X12_334_12, fun C T N h => by cases h; exact Or.inl rfl⟩
theorem fl_X12_330_12 : fL RX12 330 12 49 true := ⟨RX12, TX12, 60, rfl, fok_12, by decide, rfl, by decide, tw_232⟩
theorem fw_X12_330_12 (nm : String) : fW RX12 nm 330 12 49 true := ⟨fl_X12_330_12, fun C T N h => by cases h; exact Or.inl rfl⟩
theorem tg_M_67 : ((67, 14, 40) : Nat × Nat × Nat) ∈ tsM := by decide
theorem fl_X12_218_12 : fL RX12 218 12 59 false := ⟨RX12, TX12, 60, rfl, fok_12, by decide, rfl, by decide, tw_233⟩
theorem pt_M_37_59 : ((37, 59, 67) : Nat × Nat × Nat) ∈ psM := by decide
theorem ycl_12_X12_plate : ∀ q : vw_C, vwCl[12]? = some q → q.1 = yX12_plate.cls := fun q h => by cases h; rfl
theorem yw_X12_plate : yW yX12_plate cX12_plate 3 (some .int) 2 := ⟨tw_236, tw_2, by decide, by decide, by decide, by decide +kernel⟩
theorem yv_X12_plate : yV yX12_plate := ⟨tw_237, tw_238⟩
end
