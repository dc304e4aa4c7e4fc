theorem tw_757 : Cond.methodLink "GreaterPlatesLaw" 13 ⟨"GreaterPlates", "plate", "(II)I"⟩ ∈ TB := TB_of 452 (by decide +kernel) (by decide +kernel)
theorem tw_758 : Cond.methodLink "GreaterPlatesLaw" 17 ⟨"GreaterPlatesModel", "plate", "(II)I"⟩ ∈ TB := TB_of 901 (by decide +kernel) (by decide +kernel)
theorem tw_759 : Cond.code ⟨"GreaterPlates", "layer", "(II)I"⟩ prog_1_method_3_code 3 (Option.some Jvm.ClassFile.FieldType.int) ∈ TB := TB_of 462 (by decide +kernel) (by decide +kernel)
theorem tw_760 : Cond.instanceMethod ⟨"GreaterPlates", "layer", "(II)I"⟩ ∈ TB := TB_of 460 (by decide +kernel) (by decide +kernel)
theorem tw_761 : Cond.selects "GreaterPlates" ⟨"GreaterPlates", "layer", "(II)I"⟩ ⟨"GreaterPlates", "layer", "(II)I"⟩ ∈ TB := TB_of 461 (by decide +kernel) (by decide +kernel)
theorem tw_762 : Cond.methodLink "GreaterPlatesLaw" 18 ⟨"GreaterPlates", "layer", "(II)I"⟩ ∈ TB := TB_of 459 (by decide +kernel) (by decide +kernel)
theorem tw_763 : Cond.code ⟨"GreaterPlatesModel", "layer", "(II)I"⟩ prog_14_method_5_code 3 (Option.some Jvm.ClassFile.FieldType.int) ∈ TB := TB_of 911 (by decide +kernel) (by decide +kernel)
theorem tw_764 : Cond.instanceMethod ⟨"GreaterPlatesModel", "layer", "(II)I"⟩ ∈ TB := TB_of 909 (by decide +kernel) (by decide +kernel)
theorem tw_765 : Cond.selects "GreaterPlatesModel" ⟨"GreaterPlatesModel", "layer", "(II)I"⟩ ⟨"GreaterPlatesModel", "layer", "(II)I"⟩ ∈ TB := TB_of 910 (by decide +kernel) (by decide +kernel)
theorem tw_766 : Cond.methodLink "GreaterPlatesLaw" 21 ⟨"GreaterPlatesModel", "layer", "(II)I"⟩ ∈ TB := TB_of 908 (by decide +kernel) (by decide +kernel)
theorem tw_767 : Cond.code ⟨"GreaterPlates", "set", "(III)I"⟩ prog_1_method_4_code 6 (Option.some Jvm.ClassFile.FieldType.int) ∈ TB := TB_of 532 (by decide +kernel) (by decide +kernel)
theorem tw_768 : Cond.instanceMethod ⟨"GreaterPlates", "set", "(III)I"⟩ ∈ TB := TB_of 530 (by decide +kernel) (by decide +kernel)
theorem tw_769 : Cond.selects "GreaterPlates" ⟨"GreaterPlates", "set", "(III)I"⟩ ⟨"GreaterPlates", "set", "(III)I"⟩ ∈ TB := TB_of 531 (by decide +kernel) (by decide +kernel)
theorem tw_770 : Cond.methodLink "GreaterPlatesLaw" 22 ⟨"GreaterPlates", "set", "(III)I"⟩ ∈ TB := TB_of 529 (by decide +kernel) (by decide +kernel)
theorem tw_771 : Cond.code ⟨"GreaterPlatesModel", "set", "(III)I"⟩ prog_14_method_6_code 5 (Option.some Jvm.ClassFile.FieldType.int) ∈ TB := TB_of 915 (by decide +kernel) (by decide +kernel)
theorem tw_772 : Cond.instanceMethod ⟨"GreaterPlatesModel", "set", "(III)I"⟩ ∈ TB := TB_of 913 (by decide +kernel) (by decide +kernel)
theorem tw_773 : Cond.selects "GreaterPlatesModel" ⟨"GreaterPlatesModel", "set", "(III)I"⟩ ⟨"GreaterPlatesModel", "set", "(III)I"⟩ ∈ TB := TB_of 914 (by decide +kernel) (by decide +kernel)
theorem tw_774 : Cond.methodLink "GreaterPlatesLaw" 26 ⟨"GreaterPlatesModel", "set", "(III)I"⟩ ∈ TB := TB_of 912 (by decide +kernel) (by decide +kernel)
theorem tw_775 : Cond.code ⟨"GreaterPlates", "told", "(II)I"⟩ prog_1_method_6_code 4 (Option.some Jvm.ClassFile.FieldType.int) ∈ TB := TB_of 544 (by decide +kernel) (by decide +kernel)
theorem tw_776 : Cond.instanceMethod ⟨"GreaterPlates", "told", "(II)I"⟩ ∈ TB := TB_of 542 (by decide +kernel) (by decide +kernel)
theorem tw_777 : Cond.selects "GreaterPlates" ⟨"GreaterPlates", "told", "(II)I"⟩ ⟨"GreaterPlates", "told", "(II)I"⟩ ∈ TB := TB_of 543 (by decide +kernel) (by decide +kernel)
theorem tw_778 : Cond.methodLink "GreaterPlatesLaw" 27 ⟨"GreaterPlates", "told", "(II)I"⟩ ∈ TB := TB_of 541 (by decide +kernel) (by decide +kernel)
theorem tw_779 : Cond.code ⟨"GreaterPlatesModel", "told", "(II)I"⟩ prog_14_method_7_code 3 (Option.some Jvm.ClassFile.FieldType.int) ∈ TB := TB_of 924 (by decide +kernel) (by decide +kernel)
theorem tw_780 : Cond.instanceMethod ⟨"GreaterPlatesModel", "told", "(II)I"⟩ ∈ TB := TB_of 922 (by decide +kernel) (by decide +kernel)
theorem tw_781 : Cond.selects "GreaterPlatesModel" ⟨"GreaterPlatesModel", "told", "(II)I"⟩ ⟨"GreaterPlatesModel", "told", "(II)I"⟩ ∈ TB := TB_of 923 (by decide +kernel) (by decide +kernel)
theorem tw_782 : Cond.methodLink "GreaterPlatesLaw" 30 ⟨"GreaterPlatesModel", "told", "(II)I"⟩ ∈ TB := TB_of 921 (by decide +kernel) (by decide +kernel)
theorem tw_783 : Cond.code ⟨"GreaterPlates", "feed", "(I)I"⟩ prog_1_method_11_code 2 (Option.some Jvm.ClassFile.FieldType.int) ∈ TB := TB_of 575 (by decide +kernel) (by decide +kernel)
theorem tw_784 : Cond.instanceMethod ⟨"GreaterPlates", "feed", "(I)I"⟩ ∈ TB := TB_of 573 (by decide +kernel) (by decide +kernel)
theorem tw_785 : Cond.selects "GreaterPlates" ⟨"GreaterPlates", "feed", "(I)I"⟩ ⟨"GreaterPlates", "feed", "(I)I"⟩ ∈ TB := TB_of 574 (by decide +kernel) (by decide +kernel)
theorem tw_786 : Cond.methodLink "GreaterPlatesLaw" 31 ⟨"GreaterPlates", "feed", "(I)I"⟩ ∈ TB := TB_of 572 (by decide +kernel) (by decide +kernel)
theorem tw_787 : Cond.code ⟨"GreaterPlatesModel", "feed", "(I)I"⟩ prog_14_method_8_code 2 (Option.some Jvm.ClassFile.FieldType.int) ∈ TB := TB_of 946 (by decide +kernel) (by decide +kernel)
theorem tw_788 : Cond.instanceMethod ⟨"GreaterPlatesModel", "feed", "(I)I"⟩ ∈ TB := TB_of 944 (by decide +kernel) (by decide +kernel)
theorem tw_789 : Cond.selects "GreaterPlatesModel" ⟨"GreaterPlatesModel", "feed", "(I)I"⟩ ⟨"GreaterPlatesModel", "feed", "(I)I"⟩ ∈ TB := TB_of 945 (by decide +kernel) (by decide +kernel)
theorem tw_790 : Cond.methodLink "GreaterPlatesLaw" 35 ⟨"GreaterPlatesModel", "feed", "(I)I"⟩ ∈ TB := TB_of 943 (by decide +kernel) (by decide +kernel)
theorem tw_791 : Cond.code ⟨"GreaterPlates", "text", "()I"⟩ prog_1_method_12_code 2 (Option.some Jvm.ClassFile.FieldType.int) ∈ TB := TB_of 579 (by decide +kernel) (by decide +kernel)
theorem tw_792 : Cond.instanceMethod ⟨"GreaterPlates", "text", "()I"⟩ ∈ TB := TB_of 577 (by decide +kernel) (by decide +kernel)
theorem tw_793 : Cond.selects "GreaterPlates" ⟨"GreaterPlates", "text", "()I"⟩ ⟨"GreaterPlates", "text", "()I"⟩ ∈ TB := TB_of 578 (by decide +kernel) (by decide +kernel)
theorem tw_794 : Cond.methodLink "GreaterPlatesLaw" 36 ⟨"GreaterPlates", "text", "()I"⟩ ∈ TB := TB_of 576 (by decide +kernel) (by decide +kernel)
theorem tw_795 : Cond.code ⟨"GreaterPlatesModel", "text", "()I"⟩ prog_14_method_25_code 2 (Option.some Jvm.ClassFile.FieldType.int) ∈ TB := TB_of 950 (by decide +kernel) (by decide +kernel)
theorem tw_796 : Cond.instanceMethod ⟨"GreaterPlatesModel", "text", "()I"⟩ ∈ TB := TB_of 948 (by decide +kernel) (by decide +kernel)
theorem tw_797 : Cond.selects "GreaterPlatesModel" ⟨"GreaterPlatesModel", "text", "()I"⟩ ⟨"GreaterPlatesModel", "text", "()I"⟩ ∈ TB := TB_of 949 (by decide +kernel) (by decide +kernel)
theorem tw_798 : Cond.methodLink "GreaterPlatesLaw" 40 ⟨"GreaterPlatesModel", "text", "()I"⟩ ∈ TB := TB_of 947 (by decide +kernel) (by decide +kernel)
theorem tw_799 : Cond.code ⟨"GreaterPlates", "force", "(I)I"⟩ prog_1_method_13_code 3 (Option.some Jvm.ClassFile.FieldType.int) ∈ TB := TB_of 583 (by decide +kernel) (by decide +kernel)
theorem tw_800 : Cond.instanceMethod ⟨"GreaterPlates", "force", "(I)I"⟩ ∈ TB := TB_of 581 (by decide +kernel) (by decide +kernel)
theorem tw_801 : Cond.selects "GreaterPlates" ⟨"GreaterPlates", "force", "(I)I"⟩ ⟨"GreaterPlates", "force", "(I)I"⟩ ∈ TB := TB_of 582 (by decide +kernel) (by decide +kernel)
theorem tw_802 : Cond.methodLink "GreaterPlatesLaw" 41 ⟨"GreaterPlates", "force", "(I)I"⟩ ∈ TB := TB_of 580 (by decide +kernel) (by decide +kernel)
theorem tw_803 : Cond.code ⟨"GreaterPlatesModel", "force", "(I)I"⟩ prog_14_method_26_code 3 (Option.some Jvm.ClassFile.FieldType.int) ∈ TB := TB_of 1017 (by decide +kernel) (by decide +kernel)
theorem tw_804 : Cond.instanceMethod ⟨"GreaterPlatesModel", "force", "(I)I"⟩ ∈ TB := TB_of 1015 (by decide +kernel) (by decide +kernel)
theorem tw_805 : Cond.selects "GreaterPlatesModel" ⟨"GreaterPlatesModel", "force", "(I)I"⟩ ⟨"GreaterPlatesModel", "force", "(I)I"⟩ ∈ TB := TB_of 1016 (by decide +kernel) (by decide +kernel)
theorem tw_806 : Cond.methodLink "GreaterPlatesLaw" 44 ⟨"GreaterPlatesModel", "force", "(I)I"⟩ ∈ TB := TB_of 1014 (by decide +kernel) (by decide +kernel)
theorem tw_807 : Cond.code ⟨"GreaterPlates", "by", "(II)I"⟩ prog_1_method_16_code 5 (Option.some Jvm.ClassFile.FieldType.int) ∈ TB := TB_of 587 (by decide +kernel) (by decide +kernel)
theorem tw_808 : Cond.instanceMethod ⟨"GreaterPlates", "by", "(II)I"⟩ ∈ TB := TB_of 585 (by decide +kernel) (by decide +kernel)
theorem tw_809 : Cond.selects "GreaterPlates" ⟨"GreaterPlates", "by", "(II)I"⟩ ⟨"GreaterPlates", "by", "(II)I"⟩ ∈ TB := TB_of 586 (by decide +kernel) (by decide +kernel)
theorem tw_810 : Cond.methodLink "GreaterPlatesLaw" 45 ⟨"GreaterPlates", "by", "(II)I"⟩ ∈ TB := TB_of 584 (by decide +kernel) (by decide +kernel)
theorem tw_811 : Cond.code ⟨"GreaterPlatesModel", "by", "(II)I"⟩ prog_14_method_41_code 3 (Option.some Jvm.ClassFile.FieldType.int) ∈ TB := TB_of 1209 (by decide +kernel) (by decide +kernel)
theorem tw_812 : Cond.instanceMethod ⟨"GreaterPlatesModel", "by", "(II)I"⟩ ∈ TB := TB_of 1207 (by decide +kernel) (by decide +kernel)
theorem tw_813 : Cond.selects "GreaterPlatesModel" ⟨"GreaterPlatesModel", "by", "(II)I"⟩ ⟨"GreaterPlatesModel", "by", "(II)I"⟩ ∈ TB := TB_of 1208 (by decide +kernel) (by decide +kernel)
theorem tw_814 : Cond.methodLink "GreaterPlatesLaw" 48 ⟨"GreaterPlatesModel", "by", "(II)I"⟩ ∈ TB := TB_of 1206 (by decide +kernel) (by decide +kernel)
theorem tw_815 : Cond.code ⟨"GreaterPlates", "heapOf", "(II)I"⟩ prog_1_method_17_code 4 (Option.some Jvm.ClassFile.FieldType.int) ∈ TB := TB_of 681 (by decide +kernel) (by decide +kernel)
theorem tw_816 : Cond.instanceMethod ⟨"GreaterPlates", "heapOf", "(II)I"⟩ ∈ TB := TB_of 679 (by decide +kernel) (by decide +kernel)
theorem tw_817 : Cond.selects "GreaterPlates" ⟨"GreaterPlates", "heapOf", "(II)I"⟩ ⟨"GreaterPlates", "heapOf", "(II)I"⟩ ∈ TB := TB_of 680 (by decide +kernel) (by decide +kernel)
theorem tw_818 : Cond.methodLink "GreaterPlatesLaw" 49 ⟨"GreaterPlates", "heapOf", "(II)I"⟩ ∈ TB := TB_of 678 (by decide +kernel) (by decide +kernel)
theorem tw_819 : Cond.code ⟨"GreaterPlatesModel", "heapOf", "(II)I"⟩ prog_14_method_42_code 3 (Option.some Jvm.ClassFile.FieldType.int) ∈ TB := TB_of 1242 (by decide +kernel) (by decide +kernel)
theorem tw_820 : Cond.instanceMethod ⟨"GreaterPlatesModel", "heapOf", "(II)I"⟩ ∈ TB := TB_of 1240 (by decide +kernel) (by decide +kernel)
theorem tw_821 : Cond.selects "GreaterPlatesModel" ⟨"GreaterPlatesModel", "heapOf", "(II)I"⟩ ⟨"GreaterPlatesModel", "heapOf", "(II)I"⟩ ∈ TB := TB_of 1241 (by decide +kernel) (by decide +kernel)
theorem tw_822 : Cond.methodLink "GreaterPlatesLaw" 52 ⟨"GreaterPlatesModel", "heapOf", "(II)I"⟩ ∈ TB := TB_of 1239 (by decide +kernel) (by decide +kernel)
theorem tw_823 : Cond.code ⟨"GreaterPlates", "fewest", "(I)I"⟩ prog_1_method_18_code 2 (Option.some Jvm.ClassFile.FieldType.int) ∈ TB := TB_of 685 (by decide +kernel) (by decide +kernel)
theorem tw_824 : Cond.instanceMethod ⟨"GreaterPlates", "fewest", "(I)I"⟩ ∈ TB := TB_of 683 (by decide +kernel) (by decide +kernel)
theorem tw_825 : Cond.selects "GreaterPlates" ⟨"GreaterPlates", "fewest", "(I)I"⟩ ⟨"GreaterPlates", "fewest", "(I)I"⟩ ∈ TB := TB_of 684 (by decide +kernel) (by decide +kernel)
theorem tw_826 : Cond.methodLink "GreaterPlatesLaw" 53 ⟨"GreaterPlates", "fewest", "(I)I"⟩ ∈ TB := TB_of 682 (by decide +kernel) (by decide +kernel)
theorem tw_827 : Cond.code ⟨"GreaterPlatesModel", "fewest", "(I)I"⟩ prog_14_method_45_code 2 (Option.some Jvm.ClassFile.FieldType.int) ∈ TB := TB_of 1246 (by decide +kernel) (by decide +kernel)
theorem tw_828 : Cond.instanceMethod ⟨"GreaterPlatesModel", "fewest", "(I)I"⟩ ∈ TB := TB_of 1244 (by decide +kernel) (by decide +kernel)
theorem tw_829 : Cond.selects "GreaterPlatesModel" ⟨"GreaterPlatesModel", "fewest", "(I)I"⟩ ⟨"GreaterPlatesModel", "fewest", "(I)I"⟩ ∈ TB := TB_of 1245 (by decide +kernel) (by decide +kernel)
theorem tw_830 : Cond.methodLink "GreaterPlatesLaw" 56 ⟨"GreaterPlatesModel", "fewest", "(I)I"⟩ ∈ TB := TB_of 1243 (by decide +kernel) (by decide +kernel)
theorem tw_831 : Cond.code ⟨"GreaterPlates", "longest", "(I)I"⟩ prog_1_method_19_code 9 (Option.some Jvm.ClassFile.FieldType.int) ∈ TB := TB_of 705 (by decide +kernel) (by decide +kernel)
theorem tw_832 : Cond.instanceMethod ⟨"GreaterPlates", "longest", "(I)I"⟩ ∈ TB := TB_of 703 (by decide +kernel) (by decide +kernel)
theorem tw_833 : Cond.selects "GreaterPlates" ⟨"GreaterPlates", "longest", "(I)I"⟩ ⟨"GreaterPlates", "longest", "(I)I"⟩ ∈ TB := TB_of 704 (by decide +kernel) (by decide +kernel)
theorem tw_834 : Cond.methodLink "GreaterPlatesLaw" 57 ⟨"GreaterPlates", "longest", "(I)I"⟩ ∈ TB := TB_of 702 (by decide +kernel) (by decide +kernel)
theorem tw_835 : Cond.code ⟨"GreaterPlatesModel", "longest", "(I)I"⟩ prog_14_method_50_code 8 (Option.some Jvm.ClassFile.FieldType.int) ∈ TB := TB_of 1270 (by decide +kernel) (by decide +kernel)
theorem tw_836 : Cond.instanceMethod ⟨"GreaterPlatesModel", "longest", "(I)I"⟩ ∈ TB := TB_of 1268 (by decide +kernel) (by decide +kernel)
theorem tw_837 : Cond.selects "GreaterPlatesModel" ⟨"GreaterPlatesModel", "longest", "(I)I"⟩ ⟨"GreaterPlatesModel", "longest", "(I)I"⟩ ∈ TB := TB_of 1269 (by decide +kernel) (by decide +kernel)
theorem tw_838 : Cond.methodLink "GreaterPlatesLaw" 60 ⟨"GreaterPlatesModel", "longest", "(I)I"⟩ ∈ TB := TB_of 1267 (by decide +kernel) (by decide +kernel)
theorem tw_839 : Cond.code ⟨"GreaterPlates", "several", "(I)I"⟩ prog_1_method_20_code 4 (Option.some Jvm.ClassFile.FieldType.int) ∈ TB := TB_of 730 (by decide +kernel) (by decide +kernel)
theorem tw_840 : Cond.instanceMethod ⟨"GreaterPlates", "several", "(I)I"⟩ ∈ TB := TB_of 728 (by decide +kernel) (by decide +kernel)
theorem tw_841 : Cond.selects "GreaterPlates" ⟨"GreaterPlates", "several", "(I)I"⟩ ⟨"GreaterPlates", "several", "(I)I"⟩ ∈ TB := TB_of 729 (by decide +kernel) (by decide +kernel)
theorem tw_842 : Cond.methodLink "GreaterPlatesLaw" 61 ⟨"GreaterPlates", "several", "(I)I"⟩ ∈ TB := TB_of 727 (by decide +kernel) (by decide +kernel)
theorem tw_843 : Cond.code ⟨"GreaterPlatesModel", "several", "(I)I"⟩ prog_14_method_52_code 3 (Option.some Jvm.ClassFile.FieldType.int) ∈ TB := TB_of 1285 (by decide +kernel) (by decide +kernel)
theorem tw_844 : Cond.instanceMethod ⟨"GreaterPlatesModel", "several", "(I)I"⟩ ∈ TB := TB_of 1283 (by decide +kernel) (by decide +kernel)
theorem tw_845 : Cond.selects "GreaterPlatesModel" ⟨"GreaterPlatesModel", "several", "(I)I"⟩ ⟨"GreaterPlatesModel", "several", "(I)I"⟩ ∈ TB := TB_of 1284 (by decide +kernel) (by decide +kernel)
theorem tw_846 : Cond.methodLink "GreaterPlatesLaw" 64 ⟨"GreaterPlatesModel", "several", "(I)I"⟩ ∈ TB := TB_of 1282 (by decide +kernel) (by decide +kernel)
theorem tw_847 : Cond.code ⟨"GreaterPlates", "orders", "(II)I"⟩ prog_1_method_33_code 4 (Option.some Jvm.ClassFile.FieldType.int) ∈ TB := TB_of 734 (by decide +kernel) (by decide +kernel)
theorem tw_848 : Cond.instanceMethod ⟨"GreaterPlates", "orders", "(II)I"⟩ ∈ TB := TB_of 732 (by decide +kernel) (by decide +kernel)
theorem tw_849 : Cond.selects "GreaterPlates" ⟨"GreaterPlates", "orders", "(II)I"⟩ ⟨"GreaterPlates", "orders", "(II)I"⟩ ∈ TB := TB_of 733 (by decide +kernel) (by decide +kernel)
theorem tw_850 : Cond.methodLink "GreaterPlatesLaw" 65 ⟨"GreaterPlates", "orders", "(II)I"⟩ ∈ TB := TB_of 731 (by decide +kernel) (by decide +kernel)
theorem tw_851 : Cond.code ⟨"GreaterPlatesModel", "orders", "(II)I"⟩ prog_14_method_56_code 3 (Option.some Jvm.ClassFile.FieldType.int) ∈ TB := TB_of 1298 (by decide +kernel) (by decide +kernel)
theorem tw_852 : Cond.instanceMethod ⟨"GreaterPlatesModel", "orders", "(II)I"⟩ ∈ TB := TB_of 1296 (by decide +kernel) (by decide +kernel)
theorem tw_853 : Cond.selects "GreaterPlatesModel" ⟨"GreaterPlatesModel", "orders", "(II)I"⟩ ⟨"GreaterPlatesModel", "orders", "(II)I"⟩ ∈ TB := TB_of 1297 (by decide +kernel) (by decide +kernel)
theorem tw_854 : Cond.methodLink "GreaterPlatesLaw" 68 ⟨"GreaterPlatesModel", "orders", "(II)I"⟩ ∈ TB := TB_of 1295 (by decide +kernel) (by decide +kernel)
theorem tw_855 : Cond.code ⟨"GreaterPlates", "mean", "(II)J"⟩ prog_1_method_34_code 10 (Option.some Jvm.ClassFile.FieldType.long) ∈ TB := TB_of 754 (by decide +kernel) (by decide +kernel)
theorem tw_856 : Cond.instanceMethod ⟨"GreaterPlates", "mean", "(II)J"⟩ ∈ TB := TB_of 752 (by decide +kernel) (by decide +kernel)
theorem tw_857 : Cond.selects "GreaterPlates" ⟨"GreaterPlates", "mean", "(II)J"⟩ ⟨"GreaterPlates", "mean", "(II)J"⟩ ∈ TB := TB_of 753 (by decide +kernel) (by decide +kernel)
theorem tw_858 : Cond.methodLink "GreaterPlatesLaw" 69 ⟨"GreaterPlates", "mean", "(II)J"⟩ ∈ TB := TB_of 751 (by decide +kernel) (by decide +kernel)
theorem tw_859 : Cond.code ⟨"GreaterPlatesModel", "mean", "(II)J"⟩ prog_14_method_58_code 4 (Option.some Jvm.ClassFile.FieldType.long) ∈ TB := TB_of 1310 (by decide +kernel) (by decide +kernel)
theorem tw_860 : Cond.instanceMethod ⟨"GreaterPlatesModel", "mean", "(II)J"⟩ ∈ TB := TB_of 1308 (by decide +kernel) (by decide +kernel)
theorem tw_861 : Cond.selects "GreaterPlatesModel" ⟨"GreaterPlatesModel", "mean", "(II)J"⟩ ⟨"GreaterPlatesModel", "mean", "(II)J"⟩ ∈ TB := TB_of 1309 (by decide +kernel) (by decide +kernel)
theorem tw_862 : Cond.methodLink "GreaterPlatesLaw" 73 ⟨"GreaterPlatesModel", "mean", "(II)J"⟩ ∈ TB := TB_of 1307 (by decide +kernel) (by decide +kernel)
theorem tw_863 : Cond.code ⟨"GreaterPlates", "bestOrder", "(II)I"⟩ prog_1_method_35_code 4 (Option.some Jvm.ClassFile.FieldType.int) ∈ TB := TB_of 765 (by decide +kernel) (by decide +kernel)
theorem tw_864 : Cond.instanceMethod ⟨"GreaterPlates", "bestOrder", "(II)I"⟩ ∈ TB := TB_of 763 (by decide +kernel) (by decide +kernel)
theorem tw_865 : Cond.selects "GreaterPlates" ⟨"GreaterPlates", "bestOrder", "(II)I"⟩ ⟨"GreaterPlates", "bestOrder", "(II)I"⟩ ∈ TB := TB_of 764 (by decide +kernel) (by decide +kernel)
theorem tw_866 : Cond.methodLink "GreaterPlatesLaw" 74 ⟨"GreaterPlates", "bestOrder", "(II)I"⟩ ∈ TB := TB_of 762 (by decide +kernel) (by decide +kernel)
theorem tw_867 : Cond.code ⟨"GreaterPlatesModel", "bestOrder", "(II)I"⟩ prog_14_method_59_code 3 (Option.some Jvm.ClassFile.FieldType.int) ∈ TB := TB_of 1318 (by decide +kernel) (by decide +kernel)
theorem tw_868 : Cond.instanceMethod ⟨"GreaterPlatesModel", "bestOrder", "(II)I"⟩ ∈ TB := TB_of 1316 (by decide +kernel) (by decide +kernel)
theorem tw_869 : Cond.selects "GreaterPlatesModel" ⟨"GreaterPlatesModel", "bestOrder", "(II)I"⟩ ⟨"GreaterPlatesModel", "bestOrder", "(II)I"⟩ ∈ TB := TB_of 1317 (by decide +kernel) (by decide +kernel)
theorem tw_870 : Cond.methodLink "GreaterPlatesLaw" 77 ⟨"GreaterPlatesModel", "bestOrder", "(II)I"⟩ ∈ TB := TB_of 1315 (by decide +kernel) (by decide +kernel)
theorem tw_871 : Cond.code ⟨"GreaterPlates", "came", "(I)I"⟩ prog_1_method_36_code 3 (Option.some Jvm.ClassFile.FieldType.int) ∈ TB := TB_of 769 (by decide +kernel) (by decide +kernel)
theorem tw_872 : Cond.instanceMethod ⟨"GreaterPlates", "came", "(I)I"⟩ ∈ TB := TB_of 767 (by decide +kernel) (by decide +kernel)
theorem tw_873 : Cond.selects "GreaterPlates" ⟨"GreaterPlates", "came", "(I)I"⟩ ⟨"GreaterPlates", "came", "(I)I"⟩ ∈ TB := TB_of 768 (by decide +kernel) (by decide +kernel)
theorem tw_874 : Cond.methodLink "GreaterPlatesLaw" 78 ⟨"GreaterPlates", "came", "(I)I"⟩ ∈ TB := TB_of 766 (by decide +kernel) (by decide +kernel)
theorem tw_875 : Cond.code ⟨"GreaterPlatesModel", "came", "(I)I"⟩ prog_14_method_60_code 2 (Option.some Jvm.ClassFile.FieldType.int) ∈ TB := TB_of 1322 (by decide +kernel) (by decide +kernel)
theorem tw_876 : Cond.instanceMethod ⟨"GreaterPlatesModel", "came", "(I)I"⟩ ∈ TB := TB_of 1320 (by decide +kernel) (by decide +kernel)
theorem tw_877 : Cond.selects "GreaterPlatesModel" ⟨"GreaterPlatesModel", "came", "(I)I"⟩ ⟨"GreaterPlatesModel", "came", "(I)I"⟩ ∈ TB := TB_of 1321 (by decide +kernel) (by decide +kernel)
theorem tw_878 : Cond.methodLink "GreaterPlatesLaw" 81 ⟨"GreaterPlatesModel", "came", "(I)I"⟩ ∈ TB := TB_of 1319 (by decide +kernel) (by decide +kernel)
theorem tw_879 : Cond.code ⟨"GreaterPlates", "less", "(I)I"⟩ prog_1_method_37_code 3 (Option.some Jvm.ClassFile.FieldType.int) ∈ TB := TB_of 773 (by decide +kernel) (by decide +kernel)
theorem tw_880 : Cond.instanceMethod ⟨"GreaterPlates", "less", "(I)I"⟩ ∈ TB := TB_of 771 (by decide +kernel) (by decide +kernel)
theorem tw_881 : Cond.selects "GreaterPlates" ⟨"GreaterPlates", "less", "(I)I"⟩ ⟨"GreaterPlates", "less", "(I)I"⟩ ∈ TB := TB_of 772 (by decide +kernel) (by decide +kernel)
theorem tw_882 : Cond.methodLink "GreaterPlatesLaw" 82 ⟨"GreaterPlates", "less", "(I)I"⟩ ∈ TB := TB_of 770 (by decide +kernel) (by decide +kernel)
theorem tw_883 : Cond.code ⟨"GreaterPlatesModel", "less", "(I)I"⟩ prog_14_method_46_code 6 (Option.some Jvm.ClassFile.FieldType.int) ∈ TB := TB_of 1262 (by decide +kernel) (by decide +kernel)
theorem tw_884 : Cond.instanceMethod ⟨"GreaterPlatesModel", "less", "(I)I"⟩ ∈ TB := TB_of 1260 (by decide +kernel) (by decide +kernel)
theorem tw_885 : Cond.selects "GreaterPlatesModel" ⟨"GreaterPlatesModel", "less", "(I)I"⟩ ⟨"GreaterPlatesModel", "less", "(I)I"⟩ ∈ TB := TB_of 1261 (by decide +kernel) (by decide +kernel)
theorem tw_886 : Cond.methodLink "GreaterPlatesLaw" 85 ⟨"GreaterPlatesModel", "less", "(I)I"⟩ ∈ TB := TB_of 1259 (by decide +kernel) (by decide +kernel)
theorem tw_887 : Cond.code ⟨"GreaterPlates", "rises", "(I)I"⟩ prog_1_method_38_code 2 (Option.some Jvm.ClassFile.FieldType.int) ∈ TB := TB_of 789 (by decide +kernel) (by decide +kernel)
theorem tw_888 : Cond.instanceMethod ⟨"GreaterPlates", "rises", "(I)I"⟩ ∈ TB := TB_of 787 (by decide +kernel) (by decide +kernel)
theorem tw_889 : Cond.selects "GreaterPlates" ⟨"GreaterPlates", "rises", "(I)I"⟩ ⟨"GreaterPlates", "rises", "(I)I"⟩ ∈ TB := TB_of 788 (by decide +kernel) (by decide +kernel)
theorem tw_890 : Cond.methodLink "GreaterPlatesLaw" 86 ⟨"GreaterPlates", "rises", "(I)I"⟩ ∈ TB := TB_of 786 (by decide +kernel) (by decide +kernel)
theorem tw_891 : Cond.code ⟨"GreaterPlatesModel", "rises", "(I)I"⟩ prog_14_method_53_code 7 (Option.some Jvm.ClassFile.FieldType.int) ∈ TB := TB_of 1294 (by decide +kernel) (by decide +kernel)
theorem tw_892 : Cond.instanceMethod ⟨"GreaterPlatesModel", "rises", "(I)I"⟩ ∈ TB := TB_of 1292 (by decide +kernel) (by decide +kernel)
theorem tw_893 : Cond.selects "GreaterPlatesModel" ⟨"GreaterPlatesModel", "rises", "(I)I"⟩ ⟨"GreaterPlatesModel", "rises", "(I)I"⟩ ∈ TB := TB_of 1293 (by decide +kernel) (by decide +kernel)
theorem tw_894 : Cond.methodLink "GreaterPlatesLaw" 89 ⟨"GreaterPlatesModel", "rises", "(I)I"⟩ ∈ TB := TB_of 1291 (by decide +kernel) (by decide +kernel)
theorem tw_895 : Cond.code ⟨"GreaterPlates", "judge", "(I)I"⟩ prog_1_method_39_code 6 (Option.some Jvm.ClassFile.FieldType.int) ∈ TB := TB_of 797 (by decide +kernel) (by decide +kernel)
theorem tw_896 : Cond.instanceMethod ⟨"GreaterPlates", "judge", "(I)I"⟩ ∈ TB := TB_of 795 (by decide +kernel) (by decide +kernel)
theorem tw_897 : Cond.selects "GreaterPlates" ⟨"GreaterPlates", "judge", "(I)I"⟩ ⟨"GreaterPlates", "judge", "(I)I"⟩ ∈ TB := TB_of 796 (by decide +kernel) (by decide +kernel)
theorem tw_898 : Cond.methodLink "GreaterPlatesLaw" 90 ⟨"GreaterPlates", "judge", "(I)I"⟩ ∈ TB := TB_of 794 (by decide +kernel) (by decide +kernel)
theorem tw_899 : Cond.code ⟨"GreaterPlatesModel", "judge", "(I)I"⟩ prog_14_method_62_code 4 (Option.some Jvm.ClassFile.FieldType.int) ∈ TB := TB_of 1331 (by decide +kernel) (by decide +kernel)
theorem tw_900 : Cond.instanceMethod ⟨"GreaterPlatesModel", "judge", "(I)I"⟩ ∈ TB := TB_of 1329 (by decide +kernel) (by decide +kernel)
theorem tw_901 : Cond.selects "GreaterPlatesModel" ⟨"GreaterPlatesModel", "judge", "(I)I"⟩ ⟨"GreaterPlatesModel", "judge", "(I)I"⟩ ∈ TB := TB_of 1330 (by decide +kernel) (by decide +kernel)
theorem tw_902 : Cond.methodLink "GreaterPlatesLaw" 93 ⟨"GreaterPlatesModel", "judge", "(I)I"⟩ ∈ TB := TB_of 1328 (by decide +kernel) (by decide +kernel)
theorem tw_903 : Cond.code ⟨"GreaterPlates", "stranger", "(I)I"⟩ prog_1_method_40_code 5 (Option.some Jvm.ClassFile.FieldType.int) ∈ TB := TB_of 809 (by decide +kernel) (by decide +kernel)
theorem tw_904 : Cond.instanceMethod ⟨"GreaterPlates", "stranger", "(I)I"⟩ ∈ TB := TB_of 807 (by decide +kernel) (by decide +kernel)
theorem tw_905 : Cond.selects "GreaterPlates" ⟨"GreaterPlates", "stranger", "(I)I"⟩ ⟨"GreaterPlates", "stranger", "(I)I"⟩ ∈ TB := TB_of 808 (by decide +kernel) (by decide +kernel)
theorem tw_906 : Cond.methodLink "GreaterPlatesLaw" 94 ⟨"GreaterPlates", "stranger", "(I)I"⟩ ∈ TB := TB_of 806 (by decide +kernel) (by decide +kernel)
theorem tw_907 : Cond.code ⟨"GreaterPlatesModel", "stranger", "(I)I"⟩ prog_14_method_63_code 6 (Option.some Jvm.ClassFile.FieldType.int) ∈ TB := TB_of 1338 (by decide +kernel) (by decide +kernel)
theorem tw_908 : Cond.instanceMethod ⟨"GreaterPlatesModel", "stranger", "(I)I"⟩ ∈ TB := TB_of 1336 (by decide +kernel) (by decide +kernel)
theorem tw_909 : Cond.selects "GreaterPlatesModel" ⟨"GreaterPlatesModel", "stranger", "(I)I"⟩ ⟨"GreaterPlatesModel", "stranger", "(I)I"⟩ ∈ TB := TB_of 1337 (by decide +kernel) (by decide +kernel)
theorem tw_910 : Cond.methodLink "GreaterPlatesLaw" 97 ⟨"GreaterPlatesModel", "stranger", "(I)I"⟩ ∈ TB := TB_of 1335 (by decide +kernel) (by decide +kernel)
theorem tw_911 : Cond.code ⟨"GreaterPlates", "lay", "(I)I"⟩ prog_1_method_50_code 4 (Option.some Jvm.ClassFile.FieldType.int) ∈ TB := TB_of 817 (by decide +kernel) (by decide +kernel)
theorem tw_912 : Cond.instanceMethod ⟨"GreaterPlates", "lay", "(I)I"⟩ ∈ TB := TB_of 815 (by decide +kernel) (by decide +kernel)
theorem tw_913 : Cond.selects "GreaterPlates" ⟨"GreaterPlates", "lay", "(I)I"⟩ ⟨"GreaterPlates", "lay", "(I)I"⟩ ∈ TB := TB_of 816 (by decide +kernel) (by decide +kernel)
theorem tw_914 : Cond.methodLink "GreaterPlatesLaw" 98 ⟨"GreaterPlates", "lay", "(I)I"⟩ ∈ TB := TB_of 814 (by decide +kernel) (by decide +kernel)
theorem tw_915 : Cond.code ⟨"GreaterPlatesModel", "lay", "(I)I"⟩ prog_14_method_65_code 3 (Option.some Jvm.ClassFile.FieldType.int) ∈ TB := TB_of 1342 (by decide +kernel) (by decide +kernel)
theorem tw_916 : Cond.instanceMethod ⟨"GreaterPlatesModel", "lay", "(I)I"⟩ ∈ TB := TB_of 1340 (by decide +kernel) (by decide +kernel)
theorem tw_917 : Cond.selects "GreaterPlatesModel" ⟨"GreaterPlatesModel", "lay", "(I)I"⟩ ⟨"GreaterPlatesModel", "lay", "(I)I"⟩ ∈ TB := TB_of 1341 (by decide +kernel) (by decide +kernel)
theorem tw_918 : Cond.methodLink "GreaterPlatesLaw" 101 ⟨"GreaterPlatesModel", "lay", "(I)I"⟩ ∈ TB := TB_of 1339 (by decide +kernel) (by decide +kernel)
theorem tw_919 : Cond.code ⟨"GreaterPlates", "take", "(I)I"⟩ prog_1_method_51_code 2 (Option.some Jvm.ClassFile.FieldType.int) ∈ TB := TB_of 821 (by decide +kernel) (by decide +kernel)
theorem tw_920 : Cond.instanceMethod ⟨"GreaterPlates", "take", "(I)I"⟩ ∈ TB := TB_of 819 (by decide +kernel) (by decide +kernel)
theorem tw_921 : Cond.selects "GreaterPlates" ⟨"GreaterPlates", "take", "(I)I"⟩ ⟨"GreaterPlates", "take", "(I)I"⟩ ∈ TB := TB_of 820 (by decide +kernel) (by decide +kernel)
theorem tw_922 : Cond.methodLink "GreaterPlatesLaw" 102 ⟨"GreaterPlates", "take", "(I)I"⟩ ∈ TB := TB_of 818 (by decide +kernel) (by decide +kernel)
theorem tw_923 : Cond.code ⟨"GreaterPlatesModel", "take", "(I)I"⟩ prog_14_method_66_code 2 (Option.some Jvm.ClassFile.FieldType.int) ∈ TB := TB_of 1349 (by decide +kernel) (by decide +kernel)
theorem tw_924 : Cond.instanceMethod ⟨"GreaterPlatesModel", "take", "(I)I"⟩ ∈ TB := TB_of 1347 (by decide +kernel) (by decide +kernel)
theorem tw_925 : Cond.selects "GreaterPlatesModel" ⟨"GreaterPlatesModel", "take", "(I)I"⟩ ⟨"GreaterPlatesModel", "take", "(I)I"⟩ ∈ TB := TB_of 1348 (by decide +kernel) (by decide +kernel)
theorem tw_926 : Cond.methodLink "GreaterPlatesLaw" 105 ⟨"GreaterPlatesModel", "take", "(I)I"⟩ ∈ TB := TB_of 1346 (by decide +kernel) (by decide +kernel)
theorem tw_927 : Cond.code ⟨"GreaterPlates", "on", "(II)I"⟩ prog_1_method_52_code 3 (Option.some Jvm.ClassFile.FieldType.int) ∈ TB := TB_of 826 (by decide +kernel) (by decide +kernel)
theorem tw_928 : Cond.instanceMethod ⟨"GreaterPlates", "on", "(II)I"⟩ ∈ TB := TB_of 824 (by decide +kernel) (by decide +kernel)
theorem tw_929 : Cond.selects "GreaterPlates" ⟨"GreaterPlates", "on", "(II)I"⟩ ⟨"GreaterPlates", "on", "(II)I"⟩ ∈ TB := TB_of 825 (by decide +kernel) (by decide +kernel)
theorem tw_930 : Cond.methodLink "GreaterPlatesLaw" 106 ⟨"GreaterPlates", "on", "(II)I"⟩ ∈ TB := TB_of 823 (by decide +kernel) (by decide +kernel)
theorem tw_931 : Cond.code ⟨"GreaterPlatesModel", "on", "(II)I"⟩ prog_14_method_67_code 3 (Option.some Jvm.ClassFile.FieldType.int) ∈ TB := TB_of 1353 (by decide +kernel) (by decide +kernel)
theorem tw_932 : Cond.instanceMethod ⟨"GreaterPlatesModel", "on", "(II)I"⟩ ∈ TB := TB_of 1351 (by decide +kernel) (by decide +kernel)
theorem tw_933 : Cond.selects "GreaterPlatesModel" ⟨"GreaterPlatesModel", "on", "(II)I"⟩ ⟨"GreaterPlatesModel", "on", "(II)I"⟩ ∈ TB := TB_of 1352 (by decide +kernel) (by decide +kernel)
theorem tw_934 : Cond.methodLink "GreaterPlatesLaw" 109 ⟨"GreaterPlatesModel", "on", "(II)I"⟩ ∈ TB := TB_of 1350 (by decide +kernel) (by decide +kernel)
theorem tw_935 : Cond.code ⟨"GreaterPlates", "drawn", "(II)I"⟩ prog_1_method_53_code 6 (Option.some Jvm.ClassFile.FieldType.int) ∈ TB := TB_of 834 (by decide +kernel) (by decide +kernel)
theorem tw_936 : Cond.instanceMethod ⟨"GreaterPlates", "drawn", "(II)I"⟩ ∈ TB := TB_of 832 (by decide +kernel) (by decide +kernel)
theorem tw_937 : Cond.selects "GreaterPlates" ⟨"GreaterPlates", "drawn", "(II)I"⟩ ⟨"GreaterPlates", "drawn", "(II)I"⟩ ∈ TB := TB_of 833 (by decide +kernel) (by decide +kernel)
theorem tw_938 : Cond.methodLink "GreaterPlatesLaw" 110 ⟨"GreaterPlates", "drawn", "(II)I"⟩ ∈ TB := TB_of 831 (by decide +kernel) (by decide +kernel)
theorem tw_939 : Cond.code ⟨"GreaterPlatesModel", "drawn", "(II)I"⟩ prog_14_method_61_code 7 (Option.some Jvm.ClassFile.FieldType.int) ∈ TB := TB_of 1326 (by decide +kernel) (by decide +kernel)
theorem tw_940 : Cond.instanceMethod ⟨"GreaterPlatesModel", "drawn", "(II)I"⟩ ∈ TB := TB_of 1324 (by decide +kernel) (by decide +kernel)
theorem tw_941 : Cond.selects "GreaterPlatesModel" ⟨"GreaterPlatesModel", "drawn", "(II)I"⟩ ⟨"GreaterPlatesModel", "drawn", "(II)I"⟩ ∈ TB := TB_of 1325 (by decide +kernel) (by decide +kernel)
theorem tw_942 : Cond.methodLink "GreaterPlatesLaw" 113 ⟨"GreaterPlatesModel", "drawn", "(II)I"⟩ ∈ TB := TB_of 1323 (by decide +kernel) (by decide +kernel)
theorem tw_943 : Cond.code ⟨"GreaterPlates", "image", "()I"⟩ prog_1_method_54_code 1 (Option.some Jvm.ClassFile.FieldType.int) ∈ TB := TB_of 839 (by decide +kernel) (by decide +kernel)
theorem tw_944 : Cond.instanceMethod ⟨"GreaterPlates", "image", "()I"⟩ ∈ TB := TB_of 837 (by decide +kernel) (by decide +kernel)
theorem tw_945 : Cond.selects "GreaterPlates" ⟨"GreaterPlates", "image", "()I"⟩ ⟨"GreaterPlates", "image", "()I"⟩ ∈ TB := TB_of 838 (by decide +kernel) (by decide +kernel)
theorem tw_946 : Cond.methodLink "GreaterPlatesLaw" 114 ⟨"GreaterPlates", "image", "()I"⟩ ∈ TB := TB_of 836 (by decide +kernel) (by decide +kernel)
theorem tw_947 : Cond.code ⟨"GreaterPlatesModel", "image", "()I"⟩ prog_14_method_68_code 1 (Option.some Jvm.ClassFile.FieldType.int) ∈ TB := TB_of 1357 (by decide +kernel) (by decide +kernel)
theorem tw_948 : Cond.instanceMethod ⟨"GreaterPlatesModel", "image", "()I"⟩ ∈ TB := TB_of 1355 (by decide +kernel) (by decide +kernel)
theorem tw_949 : Cond.selects "GreaterPlatesModel" ⟨"GreaterPlatesModel", "image", "()I"⟩ ⟨"GreaterPlatesModel", "image", "()I"⟩ ∈ TB := TB_of 1356 (by decide +kernel) (by decide +kernel)
theorem tw_950 : Cond.methodLink "GreaterPlatesLaw" 117 ⟨"GreaterPlatesModel", "image", "()I"⟩ ∈ TB := TB_of 1354 (by decide +kernel) (by decide +kernel)
theorem tw_951 : Cond.code ⟨"GreaterPlates", "back", "()I"⟩ prog_1_method_55_code 1 (Option.some Jvm.ClassFile.FieldType.int) ∈ TB := TB_of 852 (by decide +kernel) (by decide +kernel)
theorem tw_952 : Cond.instanceMethod ⟨"GreaterPlates", "back", "()I"⟩ ∈ TB := TB_of 850 (by decide +kernel) (by decide +kernel)
theorem tw_953 : Cond.selects "GreaterPlates" ⟨"GreaterPlates", "back", "()I"⟩ ⟨"GreaterPlates", "back", "()I"⟩ ∈ TB := TB_of 851 (by decide +kernel) (by decide +kernel)
theorem tw_954 : Cond.methodLink "GreaterPlatesLaw" 118 ⟨"GreaterPlates", "back", "()I"⟩ ∈ TB := TB_of 849 (by decide +kernel) (by decide +kernel)
theorem tw_955 : Cond.code ⟨"GreaterPlatesModel", "back", "()I"⟩ prog_14_method_69_code 1 (Option.some Jvm.ClassFile.FieldType.int) ∈ TB := TB_of 1361 (by decide +kernel) (by decide +kernel)
theorem tw_956 : Cond.instanceMethod ⟨"GreaterPlatesModel", "back", "()I"⟩ ∈ TB := TB_of 1359 (by decide +kernel) (by decide +kernel)
theorem tw_957 : Cond.selects "GreaterPlatesModel" ⟨"GreaterPlatesModel", "back", "()I"⟩ ⟨"GreaterPlatesModel", "back", "()I"⟩ ∈ TB := TB_of 1360 (by decide +kernel) (by decide +kernel)
theorem tw_958 : Cond.methodLink "GreaterPlatesLaw" 121 ⟨"GreaterPlatesModel", "back", "()I"⟩ ∈ TB := TB_of 1358 (by decide +kernel) (by decide +kernel)
theorem tw_959 : Cond.code ⟨"GreaterPlates", "count", "(I)I"⟩ prog_1_method_56_code 2 (Option.some Jvm.ClassFile.FieldType.int) ∈ TB := TB_of 856 (by decide +kernel) (by decide +kernel)
theorem tw_960 : Cond.instanceMethod ⟨"GreaterPlates", "count", "(I)I"⟩ ∈ TB := TB_of 854 (by decide +kernel) (by decide +kernel)
theorem tw_961 : Cond.selects "GreaterPlates" ⟨"GreaterPlates", "count", "(I)I"⟩ ⟨"GreaterPlates", "count", "(I)I"⟩ ∈ TB := TB_of 855 (by decide +kernel) (by decide +kernel)
theorem tw_962 : Cond.methodLink "GreaterPlatesLaw" 122 ⟨"GreaterPlates", "count", "(I)I"⟩ ∈ TB := TB_of 853 (by decide +kernel) (by decide +kernel)
theorem tw_963 : Cond.code ⟨"GreaterPlatesModel", "count", "(I)I"⟩ prog_14_method_70_code 2 (Option.some Jvm.ClassFile.FieldType.int) ∈ TB := TB_of 1365 (by decide +kernel) (by decide +kernel)
theorem tw_964 : Cond.instanceMethod ⟨"GreaterPlatesModel", "count", "(I)I"⟩ ∈ TB := TB_of 1363 (by decide +kernel) (by decide +kernel)
theorem tw_965 : Cond.selects "GreaterPlatesModel" ⟨"GreaterPlatesModel", "count", "(I)I"⟩ ⟨"GreaterPlatesModel", "count", "(I)I"⟩ ∈ TB := TB_of 1364 (by decide +kernel) (by decide +kernel)
theorem tw_966 : Cond.methodLink "GreaterPlatesLaw" 125 ⟨"GreaterPlatesModel", "count", "(I)I"⟩ ∈ TB := TB_of 1362 (by decide +kernel) (by decide +kernel)
theorem tw_967 : Cond.code ⟨"GreaterPlates", "sheet", "(III)I"⟩ prog_1_method_57_code 5 (Option.some Jvm.ClassFile.FieldType.int) ∈ TB := TB_of 860 (by decide +kernel) (by decide +kernel)
theorem tw_968 : Cond.instanceMethod ⟨"GreaterPlates", "sheet", "(III)I"⟩ ∈ TB := TB_of 858 (by decide +kernel) (by decide +kernel)
theorem tw_969 : Cond.selects "GreaterPlates" ⟨"GreaterPlates", "sheet", "(III)I"⟩ ⟨"GreaterPlates", "sheet", "(III)I"⟩ ∈ TB := TB_of 859 (by decide +kernel) (by decide +kernel)
theorem tw_970 : Cond.methodLink "GreaterPlatesLaw" 126 ⟨"GreaterPlates", "sheet", "(III)I"⟩ ∈ TB := TB_of 857 (by decide +kernel) (by decide +kernel)
theorem tw_971 : Cond.code ⟨"GreaterPlatesModel", "sheet", "(III)I"⟩ prog_14_method_72_code 5 (Option.some Jvm.ClassFile.FieldType.int) ∈ TB := TB_of 1369 (by decide +kernel) (by decide +kernel)
theorem tw_972 : Cond.instanceMethod ⟨"GreaterPlatesModel", "sheet", "(III)I"⟩ ∈ TB := TB_of 1367 (by decide +kernel) (by decide +kernel)
theorem tw_973 : Cond.selects "GreaterPlatesModel" ⟨"GreaterPlatesModel", "sheet", "(III)I"⟩ ⟨"GreaterPlatesModel", "sheet", "(III)I"⟩ ∈ TB := TB_of 1368 (by decide +kernel) (by decide +kernel)
theorem tw_974 : Cond.methodLink "GreaterPlatesLaw" 129 ⟨"GreaterPlatesModel", "sheet", "(III)I"⟩ ∈ TB := TB_of 1366 (by decide +kernel) (by decide +kernel)
theorem tw_975 : Cond.code ⟨"GreaterPlates", "cell", "(III)I"⟩ prog_1_method_58_code 5 (Option.some Jvm.ClassFile.FieldType.int) ∈ TB := TB_of 871 (by decide +kernel) (by decide +kernel)
theorem tw_976 : Cond.instanceMethod ⟨"GreaterPlates", "cell", "(III)I"⟩ ∈ TB := TB_of 869 (by decide +kernel) (by decide +kernel)
theorem tw_977 : Cond.selects "GreaterPlates" ⟨"GreaterPlates", "cell", "(III)I"⟩ ⟨"GreaterPlates", "cell", "(III)I"⟩ ∈ TB := TB_of 870 (by decide +kernel) (by decide +kernel)
theorem tw_978 : Cond.methodLink "GreaterPlatesLaw" 130 ⟨"GreaterPlates", "cell", "(III)I"⟩ ∈ TB := TB_of 868 (by decide +kernel) (by decide +kernel)
theorem tw_979 : Cond.code ⟨"GreaterPlatesModel", "cell", "(III)I"⟩ prog_14_method_73_code 4 (Option.some Jvm.ClassFile.FieldType.int) ∈ TB := TB_of 1373 (by decide +kernel) (by decide +kernel)
theorem tw_980 : Cond.instanceMethod ⟨"GreaterPlatesModel", "cell", "(III)I"⟩ ∈ TB := TB_of 1371 (by decide +kernel) (by decide +kernel)
theorem tw_981 : Cond.selects "GreaterPlatesModel" ⟨"GreaterPlatesModel", "cell", "(III)I"⟩ ⟨"GreaterPlatesModel", "cell", "(III)I"⟩ ∈ TB := TB_of 1372 (by decide +kernel) (by decide +kernel)
theorem tw_982 : Cond.methodLink "GreaterPlatesLaw" 133 ⟨"GreaterPlatesModel", "cell", "(III)I"⟩ ∈ TB := TB_of 1370 (by decide +kernel) (by decide +kernel)
theorem tw_983 : Cond.code ⟨"GreaterPlates", "copy", "(IIIII)I"⟩ prog_1_method_59_code 8 (Option.some Jvm.ClassFile.FieldType.int) ∈ TB := TB_of 884 (by decide +kernel) (by decide +kernel)
theorem tw_984 : Cond.instanceMethod ⟨"GreaterPlates", "copy", "(IIIII)I"⟩ ∈ TB := TB_of 882 (by decide +kernel) (by decide +kernel)
theorem tw_985 : Cond.selects "GreaterPlates" ⟨"GreaterPlates", "copy", "(IIIII)I"⟩ ⟨"GreaterPlates", "copy", "(IIIII)I"⟩ ∈ TB := TB_of 883 (by decide +kernel) (by decide +kernel)
theorem tw_986 : Cond.methodLink "GreaterPlatesLaw" 134 ⟨"GreaterPlates", "copy", "(IIIII)I"⟩ ∈ TB := TB_of 881 (by decide +kernel) (by decide +kernel)
theorem tw_987 : Cond.code ⟨"GreaterPlatesModel", "copy", "(IIIII)I"⟩ prog_14_method_74_code 7 (Option.some Jvm.ClassFile.FieldType.int) ∈ TB := TB_of 1377 (by decide +kernel) (by decide +kernel)
theorem tw_988 : Cond.instanceMethod ⟨"GreaterPlatesModel", "copy", "(IIIII)I"⟩ ∈ TB := TB_of 1375 (by decide +kernel) (by decide +kernel)
theorem tw_989 : Cond.selects "GreaterPlatesModel" ⟨"GreaterPlatesModel", "copy", "(IIIII)I"⟩ ⟨"GreaterPlatesModel", "copy", "(IIIII)I"⟩ ∈ TB := TB_of 1376 (by decide +kernel) (by decide +kernel)
theorem tw_990 : Cond.methodLink "GreaterPlatesLaw" 138 ⟨"GreaterPlatesModel", "copy", "(IIIII)I"⟩ ∈ TB := TB_of 1374 (by decide +kernel) (by decide +kernel)
theorem tw_991 : Cond.code ⟨"GreaterPlates", "plates", "(IIII)I"⟩ prog_1_method_60_code 8 (Option.some Jvm.ClassFile.FieldType.int) ∈ TB := TB_of 892 (by decide +kernel) (by decide +kernel)
theorem tw_992 : Cond.instanceMethod ⟨"GreaterPlates", "plates", "(IIII)I"⟩ ∈ TB := TB_of 890 (by decide +kernel) (by decide +kernel)
theorem tw_993 : Cond.selects "GreaterPlates" ⟨"GreaterPlates", "plates", "(IIII)I"⟩ ⟨"GreaterPlates", "plates", "(IIII)I"⟩ ∈ TB := TB_of 891 (by decide +kernel) (by decide +kernel)
theorem tw_994 : Cond.methodLink "GreaterPlatesLaw" 139 ⟨"GreaterPlates", "plates", "(IIII)I"⟩ ∈ TB := TB_of 889 (by decide +kernel) (by decide +kernel)
theorem tw_995 : Cond.code ⟨"GreaterPlatesModel", "plates", "(IIII)I"⟩ prog_14_method_75_code 10 (Option.some Jvm.ClassFile.FieldType.int) ∈ TB := TB_of 1381 (by decide +kernel) (by decide +kernel)
theorem tw_996 : Cond.instanceMethod ⟨"GreaterPlatesModel", "plates", "(IIII)I"⟩ ∈ TB := TB_of 1379 (by decide +kernel) (by decide +kernel)
theorem tw_997 : Cond.selects "GreaterPlatesModel" ⟨"GreaterPlatesModel", "plates", "(IIII)I"⟩ ⟨"GreaterPlatesModel", "plates", "(IIII)I"⟩ ∈ TB := TB_of 1380 (by decide +kernel) (by decide +kernel)
theorem tw_998 : Cond.methodLink "GreaterPlatesLaw" 143 ⟨"GreaterPlatesModel", "plates", "(IIII)I"⟩ ∈ TB := TB_of 1378 (by decide +kernel) (by decide +kernel)
theorem tw_999 : Cond.code ⟨"GreaterPlates", "taken", "(II)I"⟩ prog_1_method_61_code 4 (Option.some Jvm.ClassFile.FieldType.int) ∈ TB := TB_of 897 (by decide +kernel) (by decide +kernel)
theorem tw_1000 : Cond.instanceMethod ⟨"GreaterPlates", "taken", "(II)I"⟩ ∈ TB := TB_of 895 (by decide +kernel) (by decide +kernel)
theorem tw_1001 : Cond.selects "GreaterPlates" ⟨"GreaterPlates", "taken", "(II)I"⟩ ⟨"GreaterPlates", "taken", "(II)I"⟩ ∈ TB := TB_of 896 (by decide +kernel) (by decide +kernel)
theorem tw_1002 : Cond.methodLink "GreaterPlatesLaw" 144 ⟨"GreaterPlates", "taken", "(II)I"⟩ ∈ TB := TB_of 894 (by decide +kernel) (by decide +kernel)
theorem tw_1003 : Cond.code ⟨"GreaterPlatesModel", "taken", "(II)I"⟩ prog_14_method_76_code 5 (Option.some Jvm.ClassFile.FieldType.int) ∈ TB := TB_of 1387 (by decide +kernel) (by decide +kernel)
theorem tw_1004 : Cond.instanceMethod ⟨"GreaterPlatesModel", "taken", "(II)I"⟩ ∈ TB := TB_of 1385 (by decide +kernel) (by decide +kernel)
theorem tw_1005 : Cond.selects "GreaterPlatesModel" ⟨"GreaterPlatesModel", "taken", "(II)I"⟩ ⟨"GreaterPlatesModel", "taken", "(II)I"⟩ ∈ TB := TB_of 1386 (by decide +kernel) (by decide +kernel)
theorem tw_1006 : Cond.methodLink "GreaterPlatesLaw" 147 ⟨"GreaterPlatesModel", "taken", "(II)I"⟩ ∈ TB := TB_of 1384 (by decide +kernel) (by decide +kernel)
theorem ycl_11_X11_layer : ∀ q : vw_C, vwCl[11]? = some q → q.1 = yX11_layer.cls := fun q h => by cases h; rfl
theorem yw_X11_layer : yW yX11_layer cX11_layer 3 (some .int) 2 := ⟨tw_759, tw_31, by decide, by decide, by decide, by decide +kernel⟩
theorem yv_X11_layer : yV yX11_layer := ⟨tw_760, tw_761⟩
theorem ycl_12_X12_layer : ∀ q : vw_C, vwCl[12]? = some q → q.1 = yX12_layer.cls := fun q h => by cases h; rfl
theorem yw_X12_layer : yW yX12_layer cX12_layer 3 (some .int) 2 := ⟨tw_763, tw_467, by decide, by decide, by decide, by decide +kernel⟩
theorem yv_X12_layer : yV yX12_layer := ⟨tw_764, tw_765⟩
theorem ycl_11_X11_set : ∀ q : vw_C, vwCl[11]? = some q → q.1 = yX11_set.cls := fun q h => by cases h; rfl
theorem yw_X11_set : yW yX11_set cX11_set 6 (some .int) 3 := ⟨tw_767, tw_31, by decide, by decide, by decide, by decide +kernel⟩
theorem yv_X11_set : yV yX11_set := ⟨tw_768, tw_769⟩
theorem ycl_12_X12_set : ∀ q : vw_C, vwCl[12]? = some q → q.1 = yX12_set.cls := fun q h => by cases h; rfl
theorem yw_X12_set : yW yX12_set cX12_set 5 (some .int) 3 := ⟨tw_771, tw_467, by decide, by decide, by decide, by decide +kernel⟩
theorem yv_X12_set : yV yX12_set := ⟨tw_772, tw_773⟩
theorem ycl_11_X11_told : ∀ q : vw_C, vwCl[11]? = some q → q.1 = yX11_told.cls := fun q h => by cases h; rfl
theorem yw_X11_told : yW yX11_told cX11_told 4 (some .int) 2 := ⟨tw_775, tw_31, by decide, by decide, by decide, by decide +kernel⟩
theorem yv_X11_told : yV yX11_told := ⟨tw_776, tw_777⟩
theorem ycl_12_X12_told : ∀ q : vw_C, vwCl[12]? = some q → q.1 = yX12_told.cls := fun q h => by cases h; rfl
theorem yw_X12_told : yW yX12_told cX12_told 3 (some .int) 2 := ⟨tw_779, tw_467, by decide, by decide, by decide, by decide +kernel⟩
theorem yv_X12_told : yV yX12_told := ⟨tw_780, tw_781⟩
theorem ycl_11_X11_feed : ∀ q : vw_C, vwCl[11]? = some q → q.1 = yX11_feed.cls := fun q h => by cases h; rfl
theorem yw_X11_feed : yW yX11_feed cX11_feed 2 (some .int) 1 := ⟨tw_783, tw_31, by decide, by decide, by decide, by decide +kernel⟩
theorem yv_X11_feed : yV yX11_feed := ⟨tw_784, tw_785⟩
theorem ycl_12_X12_feed : ∀ q : vw_C, vwCl[12]? = some q → q.1 = yX12_feed.cls := fun q h => by cases h; rfl
theorem yw_X12_feed : yW yX12_feed cX12_feed 2 (some .int) 1 := ⟨tw_787, tw_467, by decide, by decide, by decide, by decide +kernel⟩
theorem yv_X12_feed : yV yX12_feed := ⟨tw_788, tw_789⟩
theorem ycl_11_X11_text : ∀ q : vw_C, vwCl[11]? = some q → q.1 = yX11_text.cls := fun q h => by cases h; rfl
theorem yw_X11_text : yW yX11_text cX11_text 2 (some .int) 0 := ⟨tw_791, tw_31, by decide, by decide, by decide, by decide +kernel⟩
theorem yv_X11_text : yV yX11_text := ⟨tw_792, tw_793⟩
theorem ycl_12_X12_text : ∀ q : vw_C, vwCl[12]? = some q → q.1 = yX12_text.cls := fun q h => by cases h; rfl
theorem yw_X12_text : yW yX12_text cX12_text 2 (some .int) 0 := ⟨tw_795, tw_467, by decide, by decide, by decide, by decide +kernel⟩
theorem yv_X12_text : yV yX12_text := ⟨tw_796, tw_797⟩
theorem ycl_11_X11_force : ∀ q : vw_C, vwCl[11]? = some q → q.1 = yX11_force.cls := fun q h => by cases h; rfl
theorem yw_X11_force : yW yX11_force cX11_force 3 (some .int) 1 := ⟨tw_799, tw_31, by decide, by decide, by decide, by decide +kernel⟩
theorem yv_X11_force : yV yX11_force := ⟨tw_800, tw_801⟩
theorem ycl_12_X12_force : ∀ q : vw_C, vwCl[12]? = some q → q.1 = yX12_force.cls := fun q h => by cases h; rfl
theorem yw_X12_force : yW yX12_force cX12_force 3 (some .int) 1 := ⟨tw_803, tw_467, by decide, by decide, by decide, by decide +kernel⟩
theorem yv_X12_force : yV yX12_force := ⟨tw_804, tw_805⟩
theorem ycl_11_X11_by : ∀ q : vw_C, vwCl[11]? = some q → q.1 = yX11_by.cls := fun q h => by cases h; rfl
theorem yw_X11_by : yW yX11_by cX11_by 5 (some .int) 2 := ⟨tw_807, tw_31, by decide, by decide, by decide, by decide +kernel⟩
theorem yv_X11_by : yV yX11_by := ⟨tw_808, tw_809⟩
theorem ycl_12_X12_by : ∀ q : vw_C, vwCl[12]? = some q → q.1 = yX12_by.cls := fun q h => by cases h; rfl
theorem yw_X12_by : yW yX12_by cX12_by 3 (some .int) 2 := ⟨tw_811, tw_467, by decide, by decide, by decide, by decide +kernel⟩
theorem yv_X12_by : yV yX12_by := ⟨tw_812, tw_813⟩
theorem ycl_11_X11_heapOf : ∀ q : vw_C, vwCl[11]? = some q → q.1 = yX11_heapOf.cls := fun q h => by cases h; rfl
theorem yw_X11_heapOf : yW yX11_heapOf cX11_heapOf 4 (some .int) 2 := ⟨tw_815, tw_31, by decide, by decide, by decide, by decide +kernel⟩
theorem yv_X11_heapOf : yV yX11_heapOf := ⟨tw_816, tw_817⟩
theorem ycl_12_X12_heapOf : ∀ q : vw_C, vwCl[12]? = some q → q.1 = yX12_heapOf.cls := fun q h => by cases h; rfl
theorem yw_X12_heapOf : yW yX12_heapOf cX12_heapOf 3 (some .int) 2 := ⟨tw_819, tw_467, by decide, by decide, by decide, by decide +kernel⟩
theorem yv_X12_heapOf : yV yX12_heapOf := ⟨tw_820, tw_821⟩
theorem ycl_11_X11_fewest : ∀ q : vw_C, vwCl[11]? = some q → q.1 = yX11_fewest.cls := fun q h => by cases h; rfl
theorem yw_X11_fewest : yW yX11_fewest cX11_fewest 2 (some .int) 1 := ⟨tw_823, tw_31, by decide, by decide, by decide, by decide +kernel⟩
theorem yv_X11_fewest : yV yX11_fewest := ⟨tw_824, tw_825⟩
theorem ycl_12_X12_fewest : ∀ q : vw_C, vwCl[12]? = some q → q.1 = yX12_fewest.cls := fun q h => by cases h; rfl
theorem yw_X12_fewest : yW yX12_fewest cX12_fewest 2 (some .int) 1 := ⟨tw_827, tw_467, by decide, by decide, by decide, by decide +kernel⟩
theorem yv_X12_fewest : yV yX12_fewest := ⟨tw_828, tw_829⟩
theorem ycl_11_X11_longest : ∀ q : vw_C, vwCl[11]? = some q → q.1 = yX11_longest.cls := fun q h => by cases h; rfl
theorem yw_X11_longest : yW yX11_longest cX11_longest 9 (some .int) 1 := ⟨tw_831, tw_31, by decide, by decide, by decide, by decide +kernel⟩
theorem yv_X11_longest : yV yX11_longest := ⟨tw_832, tw_833⟩
theorem ycl_12_X12_longest : ∀ q : vw_C, vwCl[12]? = some q → q.1 = yX12_longest.cls := fun q h => by cases h; rfl
theorem yw_X12_longest : yW yX12_longest cX12_longest 8 (some .int) 1 := ⟨tw_835, tw_467, by decide, by decide, by decide, by decide +kernel⟩
theorem yv_X12_longest : yV yX12_longest := ⟨tw_836, tw_837⟩
theorem ycl_11_X11_several : ∀ q : vw_C, vwCl[11]? = some q → q.1 = yX11_several.cls := fun q h => by cases h; rfl
theorem yw_X11_several : yW yX11_several cX11_several 4 (some .int) 1 := ⟨tw_839, tw_31, by decide, by decide, by decide, by decide +kernel⟩
theorem yv_X11_several : yV yX11_several := ⟨tw_840, tw_841⟩
theorem ycl_12_X12_several : ∀ q : vw_C, vwCl[12]? = some q → q.1 = yX12_several.cls := fun q h => by cases h; rfl
theorem yw_X12_several : yW yX12_several cX12_several 3 (some .int) 1 := ⟨tw_843, tw_467, by decide, by decide, by decide, by decide +kernel⟩
theorem yv_X12_several : yV yX12_several := ⟨tw_844, tw_845⟩
theorem ycl_11_X11_orders : ∀ q : vw_C, vwCl[11]? = some q → q.1 = yX11_orders.cls := fun q h => by cases h; rfl
theorem yw_X11_orders : yW yX11_orders cX11_orders 4 (some .int) 2 := ⟨tw_847, tw_31, by decide, by decide, by decide, by decide +kernel⟩
theorem yv_X11_orders : yV yX11_orders := ⟨tw_848, tw_849⟩
theorem ycl_12_X12_orders_ : ∀ q : vw_C, vwCl[12]? = some q → q.1 = yX12_orders_.cls := fun q h => by cases h; rfl
theorem yw_X12_orders_ : yW yX12_orders_ cX12_orders_ 3 (some .int) 2 := ⟨tw_851, tw_467, by decide, by decide, by decide, by decide +kernel⟩
theorem yv_X12_orders_ : yV yX12_orders_ := ⟨tw_852, tw_853⟩
theorem ycl_11_X11_mean : ∀ q : vw_C, vwCl[11]? = some q → q.1 = yX11_mean.cls := fun q h => by cases h; rfl
theorem yw_X11_mean : yW yX11_mean cX11_mean 10 (some .long) 2 := ⟨tw_855, tw_31, by decide, by decide, by decide, by decide +kernel⟩
theorem yv_X11_mean : yV yX11_mean := ⟨tw_856, tw_857⟩
theorem ycl_12_X12_mean : ∀ q : vw_C, vwCl[12]? = some q → q.1 = yX12_mean.cls := fun q h => by cases h; rfl
theorem yw_X12_mean : yW yX12_mean cX12_mean 4 (some .long) 2 := ⟨tw_859, tw_467, by decide, by decide, by decide, by decide +kernel⟩
theorem yv_X12_mean : yV yX12_mean := ⟨tw_860, tw_861⟩
theorem ycl_11_X11_bestOrder : ∀ q : vw_C, vwCl[11]? = some q → q.1 = yX11_bestOrder.cls := fun q h => by cases h; rfl
theorem yw_X11_bestOrder : yW yX11_bestOrder cX11_bestOrder 4 (some .int) 2 := ⟨tw_863, tw_31, by decide, by decide, by decide, by decide +kernel⟩
theorem yv_X11_bestOrder : yV yX11_bestOrder := ⟨tw_864, tw_865⟩
theorem ycl_12_X12_bestOrder : ∀ q : vw_C, vwCl[12]? = some q → q.1 = yX12_bestOrder.cls := fun q h => by cases h; rfl
theorem yw_X12_bestOrder : yW yX12_bestOrder cX12_bestOrder 3 (some .int) 2 := ⟨tw_867, tw_467, by decide, by decide, by decide, by decide +kernel⟩
theorem yv_X12_bestOrder : yV yX12_bestOrder := ⟨tw_868, tw_869⟩
theorem ycl_11_X11_came : ∀ q : vw_C, vwCl[11]? = some q → q.1 = yX11_came.cls := fun q h => by cases h; rfl
theorem yw_X11_came : yW yX11_came cX11_came 3 (some .int) 1 := ⟨tw_871, tw_31, by decide, by decide, by decide, by decide +kernel⟩
theorem yv_X11_came : yV yX11_came := ⟨tw_872, tw_873⟩
theorem ycl_12_X12_came : ∀ q : vw_C, vwCl[12]? = some q → q.1 = yX12_came.cls := fun q h => by cases h; rfl
theorem yw_X12_came : yW yX12_came cX12_came 2 (some .int) 1 := ⟨tw_875, tw_467, by decide, by decide, by decide, by decide +kernel⟩
theorem yv_X12_came : yV yX12_came := ⟨tw_876, tw_877⟩
theorem ycl_11_X11_less : ∀ q : vw_C, vwCl[11]? = some q → q.1 = yX11_less.cls := fun q h => by cases h; rfl
theorem yw_X11_less : yW yX11_less cX11_less 3 (some .int) 1 := ⟨tw_879, tw_31, by decide, by decide, by decide, by decide +kernel⟩
theorem yv_X11_less : yV yX11_less := ⟨tw_880, tw_881⟩
theorem ycl_12_X12_less : ∀ q : vw_C, vwCl[12]? = some q → q.1 = yX12_less.cls := fun q h => by cases h; rfl
theorem yw_X12_less : yW yX12_less cX12_less 6 (some .int) 1 := ⟨tw_883, tw_467, by decide, by decide, by decide, by decide +kernel⟩
theorem yv_X12_less : yV yX12_less := ⟨tw_884, tw_885⟩
theorem ycl_11_X11_rises : ∀ q : vw_C, vwCl[11]? = some q → q.1 = yX11_rises.cls := fun q h => by cases h; rfl
theorem yw_X11_rises : yW yX11_rises cX11_rises 2 (some .int) 1 := ⟨tw_887, tw_31, by decide, by decide, by decide, by decide +kernel⟩
theorem yv_X11_rises : yV yX11_rises := ⟨tw_888, tw_889⟩
theorem ycl_12_X12_rises : ∀ q : vw_C, vwCl[12]? = some q → q.1 = yX12_rises.cls := fun q h => by cases h; rfl
theorem yw_X12_rises : yW yX12_rises cX12_rises 7 (some .int) 1 := ⟨tw_891, tw_467, by decide, by decide, by decide, by decide +kernel⟩
theorem yv_X12_rises : yV yX12_rises := ⟨tw_892, tw_893⟩
theorem ycl_11_X11_judge : ∀ q : vw_C, vwCl[11]? = some q → q.1 = yX11_judge.cls := fun q h => by cases h; rfl
theorem yw_X11_judge : yW yX11_judge cX11_judge 6 (some .int) 1 := ⟨tw_895, tw_31, by decide, by decide, by decide, by decide +kernel⟩
theorem yv_X11_judge : yV yX11_judge := ⟨tw_896, tw_897⟩
theorem ycl_12_X12_judge : ∀ q : vw_C, vwCl[12]? = some q → q.1 = yX12_judge.cls := fun q h => by cases h; rfl
theorem yw_X12_judge : yW yX12_judge cX12_judge 4 (some .int) 1 := ⟨tw_899, tw_467, by decide, by decide, by decide, by decide +kernel⟩
theorem yv_X12_judge : yV yX12_judge := ⟨tw_900, tw_901⟩
theorem ycl_11_X11_stranger : ∀ q : vw_C, vwCl[11]? = some q → q.1 = yX11_stranger.cls := fun q h => by cases h; rfl
theorem yw_X11_stranger : yW yX11_stranger cX11_stranger 5 (some .int) 1 := ⟨tw_903, tw_31, by decide, by decide, by decide, by decide +kernel⟩
theorem yv_X11_stranger : yV yX11_stranger := ⟨tw_904, tw_905⟩
theorem ycl_12_X12_stranger : ∀ q : vw_C, vwCl[12]? = some q → q.1 = yX12_stranger.cls := fun q h => by cases h; rfl
theorem yw_X12_stranger : yW yX12_stranger cX12_stranger 6 (some .int) 1 := ⟨tw_907, tw_467, by decide, by decide, by decide, by decide +kernel⟩
theorem yv_X12_stranger : yV yX12_stranger := ⟨tw_908, tw_909⟩
theorem ycl_11_X11_lay : ∀ q : vw_C, vwCl[11]? = some q → q.1 = yX11_lay.cls := fun q h => by cases h; rfl
theorem yw_X11_lay : yW yX11_lay cX11_lay 4 (some .int) 1 := ⟨tw_911, tw_31, by decide, by decide, by decide, by decide +kernel⟩
theorem yv_X11_lay : yV yX11_lay := ⟨tw_912, tw_913⟩
theorem ycl_12_X12_lay : ∀ q : vw_C, vwCl[12]? = some q → q.1 = yX12_lay.cls := fun q h => by cases h; rfl
theorem yw_X12_lay : yW yX12_lay cX12_lay 3 (some .int) 1 := ⟨tw_915, tw_467, by decide, by decide, by decide, by decide +kernel⟩
theorem yv_X12_lay : yV yX12_lay := ⟨tw_916, tw_917⟩
theorem ycl_11_X11_take : ∀ q : vw_C, vwCl[11]? = some q → q.1 = yX11_take.cls := fun q h => by cases h; rfl
theorem yw_X11_take : yW yX11_take cX11_take 2 (some .int) 1 := ⟨tw_919, tw_31, by decide, by decide, by decide, by decide +kernel⟩
theorem yv_X11_take : yV yX11_take := ⟨tw_920, tw_921⟩
theorem ycl_12_X12_take : ∀ q : vw_C, vwCl[12]? = some q → q.1 = yX12_take.cls := fun q h => by cases h; rfl
theorem yw_X12_take : yW yX12_take cX12_take 2 (some .int) 1 := ⟨tw_923, tw_467, by decide, by decide, by decide, by decide +kernel⟩
theorem yv_X12_take : yV yX12_take := ⟨tw_924, tw_925⟩
theorem ycl_11_X11_on : ∀ q : vw_C, vwCl[11]? = some q → q.1 = yX11_on.cls := fun q h => by cases h; rfl
theorem yw_X11_on : yW yX11_on cX11_on 3 (some .int) 2 := ⟨tw_927, tw_31, by decide, by decide, by decide, by decide +kernel⟩
theorem yv_X11_on : yV yX11_on := ⟨tw_928, tw_929⟩
theorem ycl_12_X12_on : ∀ q : vw_C, vwCl[12]? = some q → q.1 = yX12_on.cls := fun q h => by cases h; rfl
theorem yw_X12_on : yW yX12_on cX12_on 3 (some .int) 2 := ⟨tw_931, tw_467, by decide, by decide, by decide, by decide +kernel⟩
theorem yv_X12_on : yV yX12_on := ⟨tw_932, tw_933⟩
theorem ycl_11_X11_drawn : ∀ q : vw_C, vwCl[11]? = some q → q.1 = yX11_drawn.cls := fun q h => by cases h; rfl
theorem yw_X11_drawn : yW yX11_drawn cX11_drawn 6 (some .int) 2 := ⟨tw_935, tw_31, by decide, by decide, by decide, by decide +kernel⟩
theorem yv_X11_drawn : yV yX11_drawn := ⟨tw_936, tw_937⟩
theorem ycl_12_X12_drawn : ∀ q : vw_C, vwCl[12]? = some q → q.1 = yX12_drawn.cls := fun q h => by cases h; rfl
theorem yw_X12_drawn : yW yX12_drawn cX12_drawn 7 (some .int) 2 := ⟨tw_939, tw_467, by decide, by decide, by decide, by decide +kernel⟩
theorem yv_X12_drawn : yV yX12_drawn := ⟨tw_940, tw_941⟩
theorem ycl_11_X11_image : ∀ q : vw_C, vwCl[11]? = some q → q.1 = yX11_image.cls := fun q h => by cases h; rfl
theorem yw_X11_image : yW yX11_image cX11_image 1 (some .int) 0 := ⟨tw_943, tw_31, by decide, by decide, by decide, by decide +kernel⟩
theorem yv_X11_image : yV yX11_image := ⟨tw_944, tw_945⟩
theorem ycl_12_X12_image : ∀ q : vw_C, vwCl[12]? = some q → q.1 = yX12_image.cls := fun q h => by cases h; rfl
theorem yw_X12_image : yW yX12_image cX12_image 1 (some .int) 0 := ⟨tw_947, tw_467, by decide, by decide, by decide, by decide +kernel⟩
theorem yv_X12_image : yV yX12_image := ⟨tw_948, tw_949⟩
theorem ycl_11_X11_back : ∀ q : vw_C, vwCl[11]? = some q → q.1 = yX11_back.cls := fun q h => by cases h; rfl
theorem yw_X11_back : yW yX11_back cX11_back 1 (some .int) 0 := ⟨tw_951, tw_31, by decide, by decide, by decide, by decide +kernel⟩
theorem yv_X11_back : yV yX11_back := ⟨tw_952, tw_953⟩
theorem ycl_12_X12_back : ∀ q : vw_C, vwCl[12]? = some q → q.1 = yX12_back.cls := fun q h => by cases h; rfl
theorem yw_X12_back : yW yX12_back cX12_back 1 (some .int) 0 := ⟨tw_955, tw_467, by decide, by decide, by decide, by decide +kernel⟩
theorem yv_X12_back : yV yX12_back := ⟨tw_956, tw_957⟩
theorem ycl_11_X11_count : ∀ q : vw_C, vwCl[11]? = some q → q.1 = yX11_count.cls := fun q h => by cases h; rfl
theorem yw_X11_count : yW yX11_count cX11_count 2 (some .int) 1 := ⟨tw_959, tw_31, by decide, by decide, by decide, by decide +kernel⟩
theorem yv_X11_count : yV yX11_count := ⟨tw_960, tw_961⟩
theorem ycl_12_X12_count : ∀ q : vw_C, vwCl[12]? = some q → q.1 = yX12_count.cls := fun q h => by cases h; rfl
theorem yw_X12_count : yW yX12_count cX12_count 2 (some .int) 1 := ⟨tw_963, tw_467, by decide, by decide, by decide, by decide +kernel⟩
theorem yv_X12_count : yV yX12_count := ⟨tw_964, tw_965⟩
theorem ycl_11_X11_sheet : ∀ q : vw_C, vwCl[11]? = some q → q.1 = yX11_sheet.cls := fun q h => by cases h; rfl
theorem yw_X11_sheet : yW yX11_sheet cX11_sheet 5 (some .int) 3 := ⟨tw_967, tw_31, by decide, by decide, by decide, by decide +kernel⟩
theorem yv_X11_sheet : yV yX11_sheet := ⟨tw_968, tw_969⟩
theorem ycl_12_X12_sheet : ∀ q : vw_C, vwCl[12]? = some q → q.1 = yX12_sheet.cls := fun q h => by cases h; rfl
theorem yw_X12_sheet : yW yX12_sheet cX12_sheet 5 (some .int) 3 := ⟨tw_971, tw_467, by decide, by decide, by decide, by decide +kernel⟩
theorem yv_X12_sheet : yV yX12_sheet := ⟨tw_972, tw_973⟩
theorem ycl_11_X11_cell : ∀ q : vw_C, vwCl[11]? = some q → q.1 = yX11_cell.cls := fun q h => by cases h; rfl
theorem yw_X11_cell : yW yX11_cell cX11_cell 5 (some .int) 3 := ⟨tw_975, tw_31, by decide, by decide, by decide, by decide +kernel⟩
theorem yv_X11_cell : yV yX11_cell := ⟨tw_976, tw_977⟩
theorem ycl_12_X12_cell : ∀ q : vw_C, vwCl[12]? = some q → q.1 = yX12_cell.cls := fun q h => by cases h; rfl
theorem yw_X12_cell : yW yX12_cell cX12_cell 4 (some .int) 3 := ⟨tw_979, tw_467, by decide, by decide, by decide, by decide +kernel⟩
theorem yv_X12_cell : yV yX12_cell := ⟨tw_980, tw_981⟩
theorem ycl_11_X11_copy : ∀ q : vw_C, vwCl[11]? = some q → q.1 = yX11_copy.cls := fun q h => by cases h; rfl
theorem yw_X11_copy : yW yX11_copy cX11_copy 8 (some .int) 5 := ⟨tw_983, tw_31, by decide, by decide, by decide, by decide +kernel⟩
theorem yv_X11_copy : yV yX11_copy := ⟨tw_984, tw_985⟩
theorem ycl_12_X12_copy : ∀ q : vw_C, vwCl[12]? = some q → q.1 = yX12_copy.cls := fun q h => by cases h; rfl
theorem yw_X12_copy : yW yX12_copy cX12_copy 7 (some .int) 5 := ⟨tw_987, tw_467, by decide, by decide, by decide, by decide +kernel⟩
theorem yv_X12_copy : yV yX12_copy := ⟨tw_988, tw_989⟩
theorem ycl_11_X11_plates : ∀ q : vw_C, vwCl[11]? = some q → q.1 = yX11_plates.cls := fun q h => by cases h; rfl
theorem yw_X11_plates : yW yX11_plates cX11_plates 8 (some .int) 4 := ⟨tw_991, tw_31, by decide, by decide, by decide, by decide +kernel⟩
theorem yv_X11_plates : yV yX11_plates := ⟨tw_992, tw_993⟩
theorem ycl_12_X12_plates : ∀ q : vw_C, vwCl[12]? = some q → q.1 = yX12_plates.cls := fun q h => by cases h; rfl
theorem yw_X12_plates : yW yX12_plates cX12_plates 10 (some .int) 4 := ⟨tw_995, tw_467, by decide, by decide, by decide, by decide +kernel⟩
theorem yv_X12_plates : yV yX12_plates := ⟨tw_996, tw_997⟩
theorem ycl_11_X11_taken : ∀ q : vw_C, vwCl[11]? = some q → q.1 = yX11_taken.cls := fun q h => by cases h; rfl
theorem yw_X11_taken : yW yX11_taken cX11_taken 4 (some .int) 2 := ⟨tw_999, tw_31, by decide, by decide, by decide, by decide +kernel⟩
theorem yv_X11_taken : yV yX11_taken := ⟨tw_1000, tw_1001⟩
theorem ycl_12_X12_taken : ∀ q : vw_C, vwCl[12]? = some q → q.1 = yX12_taken.cls := fun q h => by cases h; rfl
theorem yw_X12_taken : yW yX12_taken cX12_taken 5 (some .int) 2 := ⟨tw_1003, tw_467, by decide, by decide, by decide, by decide +kernel⟩
theorem yv_X12_taken : yV yX12_taken := ⟨tw_1004, tw_1005⟩
theorem dL_law_0 : decode cL_law 0 = .ok (.new 7, 3) := by decide +kernel
theorem dL_law_3 : decode cL_law 3 = .ok (.dup, 1) := by decide +kernel
theorem dL_law_4 : decode cL_law 4 = .ok (.invokespecial 9, 3) := by decide +kernel
theorem dL_law_7 : decode cL_law 7 = .ok (.astore_n 1, 1) := by decide +kernel
theorem dL_law_8 : decode cL_law 8 = .ok (.new 10, 3) := by decide +kernel
theorem dL_law_11 : decode cL_law 11 = .ok (.dup, 1) := by decide +kernel
theorem dL_law_12 : decode cL_law 12 = .ok (.invokespecial 12, 3) := by decide +kernel
theorem dL_law_15 : decode cL_law 15 = .ok (.astore_n 2, 1) := by decide +kernel
theorem dL_law_16 : decode cL_law 16 = .ok (.iconst 0, 1) := by decide +kernel
theorem dL_law_17 : decode cL_law 17 = .ok (.istore_n 3, 1) := by decide +kernel
theorem dL_law_18 : decode cL_law 18 = .ok (.iload_n 3, 1) := by decide +kernel
theorem dL_law_19 : decode cL_law 19 = .ok (.aload_n 0, 1) := by decide +kernel
theorem dL_law_20 : decode cL_law 20 = .ok (.arraylength, 1) := by decide +kernel
theorem dL_law_21 : decode cL_law 21 = .ok (.bipush 6, 2) := by decide +kernel
theorem dL_law_23 : decode cL_law 23 = .ok (.isub, 1) := by decide +kernel
theorem dL_law_24 : decode cL_law 24 = .ok (.if_icmp .gt 1105, 3) := by decide +kernel
theorem dL_law_27 : decode cL_law 27 = .ok (.aload_n 0, 1) := by decide +kernel
theorem dL_law_28 : decode cL_law 28 = .ok (.iload_n 3, 1) := by decide +kernel
theorem dL_law_29 : decode cL_law 29 = .ok (.iaload, 1) := by decide +kernel
theorem dL_law_30 : decode cL_law 30 = .ok (.bipush 31, 2) := by decide +kernel
theorem dL_law_32 : decode cL_law 32 = .ok (.iand, 1) := by decide +kernel
theorem dL_law_33 : decode cL_law 33 = .ok (.tableswitch 1090 0 31 #[143, 176, 209, 252, 285, 308, 321, 344, 377, 410, 433, 456, 479, 512, 546, 579, 602, 625, 648, 671, 694, 717, 740, 773, 806, 819, 832, 855, 898, 941, 1004, 1057], 143) := by decide +kernel
theorem dL_law_176 : decode cL_law 176 = .ok (.aload_n 1, 1) := by decide +kernel
theorem dL_law_177 : decode cL_law 177 = .ok (.aload_n 0, 1) := by decide +kernel
theorem dL_law_178 : decode cL_law 178 = .ok (.iload_n 3, 1) := by decide +kernel
theorem dL_law_179 : decode cL_law 179 = .ok (.iconst 1, 1) := by decide +kernel
theorem dL_law_180 : decode cL_law 180 = .ok (.iadd, 1) := by decide +kernel
theorem dL_law_181 : decode cL_law 181 = .ok (.iaload, 1) := by decide +kernel
theorem dL_law_182 : decode cL_law 182 = .ok (.aload_n 0, 1) := by decide +kernel
theorem dL_law_183 : decode cL_law 183 = .ok (.iload_n 3, 1) := by decide +kernel
theorem dL_law_184 : decode cL_law 184 = .ok (.iconst 2, 1) := by decide +kernel
theorem dL_law_185 : decode cL_law 185 = .ok (.iadd, 1) := by decide +kernel
theorem dL_law_186 : decode cL_law 186 = .ok (.iaload, 1) := by decide +kernel
theorem dL_law_187 : decode cL_law 187 = .ok (.invokevirtual 13, 3) := by decide +kernel
theorem dL_law_190 : decode cL_law 190 = .ok (.aload_n 2, 1) := by decide +kernel
theorem dL_law_191 : decode cL_law 191 = .ok (.aload_n 0, 1) := by decide +kernel
theorem dL_law_192 : decode cL_law 192 = .ok (.iload_n 3, 1) := by decide +kernel
theorem dL_law_193 : decode cL_law 193 = .ok (.iconst 1, 1) := by decide +kernel
theorem dL_law_194 : decode cL_law 194 = .ok (.iadd, 1) := by decide +kernel
theorem dL_law_195 : decode cL_law 195 = .ok (.iaload, 1) := by decide +kernel
theorem dL_law_196 : decode cL_law 196 = .ok (.aload_n 0, 1) := by decide +kernel
theorem dL_law_197 : decode cL_law 197 = .ok (.iload_n 3, 1) := by decide +kernel
theorem dL_law_198 : decode cL_law 198 = .ok (.iconst 2, 1) := by decide +kernel
theorem dL_law_199 : decode cL_law 199 = .ok (.iadd, 1) := by decide +kernel
theorem dL_law_200 : decode cL_law 200 = .ok (.iaload, 1) := by decide +kernel
theorem dL_law_201 : decode cL_law 201 = .ok (.invokevirtual 17, 3) := by decide +kernel
theorem dL_law_204 : decode cL_law 204 = .ok (.if_icmp .eq 919, 3) := by decide +kernel
theorem dL_law_207 : decode cL_law 207 = .ok (.iconst 0, 1) := by decide +kernel
theorem dL_law_208 : decode cL_law 208 = .ok (.ireturn, 1) := by decide +kernel
theorem dL_law_209 : decode cL_law 209 = .ok (.aload_n 1, 1) := by decide +kernel
theorem dL_law_210 : decode cL_law 210 = .ok (.aload_n 0, 1) := by decide +kernel
theorem dL_law_211 : decode cL_law 211 = .ok (.iload_n 3, 1) := by decide +kernel
theorem dL_law_212 : decode cL_law 212 = .ok (.iconst 1, 1) := by decide +kernel
theorem dL_law_213 : decode cL_law 213 = .ok (.iadd, 1) := by decide +kernel
theorem dL_law_214 : decode cL_law 214 = .ok (.iaload, 1) := by decide +kernel
theorem dL_law_215 : decode cL_law 215 = .ok (.aload_n 0, 1) := by decide +kernel
theorem dL_law_216 : decode cL_law 216 = .ok (.iload_n 3, 1) := by decide +kernel
theorem dL_law_217 : decode cL_law 217 = .ok (.iconst 2, 1) := by decide +kernel
theorem dL_law_218 : decode cL_law 218 = .ok (.iadd, 1) := by decide +kernel
theorem dL_law_219 : decode cL_law 219 = .ok (.iaload, 1) := by decide +kernel
theorem dL_law_220 : decode cL_law 220 = .ok (.invokevirtual 18, 3) := by decide +kernel
theorem dL_law_223 : decode cL_law 223 = .ok (.aload_n 2, 1) := by decide +kernel
theorem dL_law_224 : decode cL_law 224 = .ok (.aload_n 0, 1) := by decide +kernel
theorem dL_law_225 : decode cL_law 225 = .ok (.iload_n 3, 1) := by decide +kernel
theorem dL_law_226 : decode cL_law 226 = .ok (.iconst 1, 1) := by decide +kernel
theorem dL_law_227 : decode cL_law 227 = .ok (.iadd, 1) := by decide +kernel
theorem dL_law_228 : decode cL_law 228 = .ok (.iaload, 1) := by decide +kernel
theorem dL_law_229 : decode cL_law 229 = .ok (.aload_n 0, 1) := by decide +kernel
theorem dL_law_230 : decode cL_law 230 = .ok (.iload_n 3, 1) := by decide +kernel
theorem dL_law_231 : decode cL_law 231 = .ok (.iconst 2, 1) := by decide +kernel
theorem dL_law_232 : decode cL_law 232 = .ok (.iadd, 1) := by decide +kernel
theorem dL_law_233 : decode cL_law 233 = .ok (.iaload, 1) := by decide +kernel
theorem dL_law_234 : decode cL_law 234 = .ok (.invokevirtual 21, 3) := by decide +kernel
theorem dL_law_237 : decode cL_law 237 = .ok (.if_icmp .eq 886, 3) := by decide +kernel
theorem dL_law_240 : decode cL_law 240 = .ok (.iconst 0, 1) := by decide +kernel
theorem dL_law_241 : decode cL_law 241 = .ok (.ireturn, 1) := by decide +kernel
theorem dL_law_242 : decode cL_law 242 = .ok (.aload_n 1, 1) := by decide +kernel
theorem dL_law_243 : decode cL_law 243 = .ok (.aload_n 0, 1) := by decide +kernel
theorem dL_law_244 : decode cL_law 244 = .ok (.iload_n 3, 1) := by decide +kernel
theorem dL_law_245 : decode cL_law 245 = .ok (.iconst 1, 1) := by decide +kernel
theorem dL_law_246 : decode cL_law 246 = .ok (.iadd, 1) := by decide +kernel
theorem dL_law_247 : decode cL_law 247 = .ok (.iaload, 1) := by decide +kernel
theorem dL_law_248 : decode cL_law 248 = .ok (.aload_n 0, 1) := by decide +kernel
theorem dL_law_249 : decode cL_law 249 = .ok (.iload_n 3, 1) := by decide +kernel
theorem dL_law_250 : decode cL_law 250 = .ok (.iconst 2, 1) := by decide +kernel
theorem dL_law_251 : decode cL_law 251 = .ok (.iadd, 1) := by decide +kernel
theorem dL_law_252 : decode cL_law 252 = .ok (.iaload, 1) := by decide +kernel
theorem dL_law_253 : decode cL_law 253 = .ok (.aload_n 0, 1) := by decide +kernel
theorem dL_law_254 : decode cL_law 254 = .ok (.iload_n 3, 1) := by decide +kernel
theorem dL_law_255 : decode cL_law 255 = .ok (.iconst 3, 1) := by decide +kernel
theorem dL_law_256 : decode cL_law 256 = .ok (.iadd, 1) := by decide +kernel
theorem dL_law_257 : decode cL_law 257 = .ok (.iaload, 1) := by decide +kernel
theorem dL_law_258 : decode cL_law 258 = .ok (.invokevirtual 22, 3) := by decide +kernel
theorem dL_law_261 : decode cL_law 261 = .ok (.aload_n 2, 1) := by decide +kernel
theorem dL_law_262 : decode cL_law 262 = .ok (.aload_n 0, 1) := by decide +kernel
theorem dL_law_263 : decode cL_law 263 = .ok (.iload_n 3, 1) := by decide +kernel
theorem dL_law_264 : decode cL_law 264 = .ok (.iconst 1, 1) := by decide +kernel
theorem dL_law_265 : decode cL_law 265 = .ok (.iadd, 1) := by decide +kernel
theorem dL_law_266 : decode cL_law 266 = .ok (.iaload, 1) := by decide +kernel
theorem dL_law_267 : decode cL_law 267 = .ok (.aload_n 0, 1) := by decide +kernel
theorem dL_law_268 : decode cL_law 268 = .ok (.iload_n 3, 1) := by decide +kernel
theorem dL_law_269 : decode cL_law 269 = .ok (.iconst 2, 1) := by decide +kernel
theorem dL_law_270 : decode cL_law 270 = .ok (.iadd, 1) := by decide +kernel
theorem dL_law_271 : decode cL_law 271 = .ok (.iaload, 1) := by decide +kernel
theorem dL_law_272 : decode cL_law 272 = .ok (.aload_n 0, 1) := by decide +kernel
theorem dL_law_273 : decode cL_law 273 = .ok (.iload_n 3, 1) := by decide +kernel
theorem dL_law_274 : decode cL_law 274 = .ok (.iconst 3, 1) := by decide +kernel
theorem dL_law_275 : decode cL_law 275 = .ok (.iadd, 1) := by decide +kernel
theorem dL_law_276 : decode cL_law 276 = .ok (.iaload, 1) := by decide +kernel
theorem dL_law_277 : decode cL_law 277 = .ok (.invokevirtual 26, 3) := by decide +kernel
theorem dL_law_280 : decode cL_law 280 = .ok (.if_icmp .eq 843, 3) := by decide +kernel
theorem dL_law_283 : decode cL_law 283 = .ok (.iconst 0, 1) := by decide +kernel
theorem dL_law_284 : decode cL_law 284 = .ok (.ireturn, 1) := by decide +kernel
theorem dL_law_285 : decode cL_law 285 = .ok (.aload_n 1, 1) := by decide +kernel
theorem dL_law_286 : decode cL_law 286 = .ok (.aload_n 0, 1) := by decide +kernel
theorem dL_law_287 : decode cL_law 287 = .ok (.iload_n 3, 1) := by decide +kernel
theorem dL_law_288 : decode cL_law 288 = .ok (.iconst 1, 1) := by decide +kernel
theorem dL_law_289 : decode cL_law 289 = .ok (.iadd, 1) := by decide +kernel
theorem dL_law_290 : decode cL_law 290 = .ok (.iaload, 1) := by decide +kernel
theorem dL_law_291 : decode cL_law 291 = .ok (.aload_n 0, 1) := by decide +kernel
theorem dL_law_292 : decode cL_law 292 = .ok (.iload_n 3, 1) := by decide +kernel
theorem dL_law_293 : decode cL_law 293 = .ok (.iconst 2, 1) := by decide +kernel
theorem dL_law_294 : decode cL_law 294 = .ok (.iadd, 1) := by decide +kernel
theorem dL_law_295 : decode cL_law 295 = .ok (.iaload, 1) := by decide +kernel
theorem dL_law_296 : decode cL_law 296 = .ok (.invokevirtual 27, 3) := by decide +kernel
theorem dL_law_299 : decode cL_law 299 = .ok (.aload_n 2, 1) := by decide +kernel
theorem dL_law_300 : decode cL_law 300 = .ok (.aload_n 0, 1) := by decide +kernel
theorem dL_law_301 : decode cL_law 301 = .ok (.iload_n 3, 1) := by decide +kernel
theorem dL_law_302 : decode cL_law 302 = .ok (.iconst 1, 1) := by decide +kernel
theorem dL_law_303 : decode cL_law 303 = .ok (.iadd, 1) := by decide +kernel
theorem dL_law_304 : decode cL_law 304 = .ok (.iaload, 1) := by decide +kernel
theorem dL_law_305 : decode cL_law 305 = .ok (.aload_n 0, 1) := by decide +kernel
theorem dL_law_306 : decode cL_law 306 = .ok (.iload_n 3, 1) := by decide +kernel
theorem dL_law_307 : decode cL_law 307 = .ok (.iconst 2, 1) := by decide +kernel
theorem dL_law_308 : decode cL_law 308 = .ok (.iadd, 1) := by decide +kernel
theorem dL_law_309 : decode cL_law 309 = .ok (.iaload, 1) := by decide +kernel
theorem dL_law_310 : decode cL_law 310 = .ok (.invokevirtual 30, 3) := by decide +kernel
theorem dL_law_313 : decode cL_law 313 = .ok (.if_icmp .eq 810, 3) := by decide +kernel
theorem dL_law_316 : decode cL_law 316 = .ok (.iconst 0, 1) := by decide +kernel
theorem dL_law_317 : decode cL_law 317 = .ok (.ireturn, 1) := by decide +kernel
theorem dL_law_318 : decode cL_law 318 = .ok (.aload_n 1, 1) := by decide +kernel
theorem dL_law_319 : decode cL_law 319 = .ok (.aload_n 0, 1) := by decide +kernel
theorem dL_law_320 : decode cL_law 320 = .ok (.iload_n 3, 1) := by decide +kernel
theorem dL_law_321 : decode cL_law 321 = .ok (.iconst 1, 1) := by decide +kernel
theorem dL_law_322 : decode cL_law 322 = .ok (.iadd, 1) := by decide +kernel
theorem dL_law_323 : decode cL_law 323 = .ok (.iaload, 1) := by decide +kernel
theorem dL_law_324 : decode cL_law 324 = .ok (.invokevirtual 31, 3) := by decide +kernel
theorem dL_law_327 : decode cL_law 327 = .ok (.aload_n 2, 1) := by decide +kernel
theorem dL_law_328 : decode cL_law 328 = .ok (.aload_n 0, 1) := by decide +kernel
theorem dL_law_329 : decode cL_law 329 = .ok (.iload_n 3, 1) := by decide +kernel
theorem dL_law_330 : decode cL_law 330 = .ok (.iconst 1, 1) := by decide +kernel
theorem dL_law_331 : decode cL_law 331 = .ok (.iadd, 1) := by decide +kernel
theorem dL_law_332 : decode cL_law 332 = .ok (.iaload, 1) := by decide +kernel
theorem dL_law_333 : decode cL_law 333 = .ok (.invokevirtual 35, 3) := by decide +kernel
theorem dL_law_336 : decode cL_law 336 = .ok (.if_icmp .eq 787, 3) := by decide +kernel
theorem dL_law_339 : decode cL_law 339 = .ok (.iconst 0, 1) := by decide +kernel
theorem dL_law_340 : decode cL_law 340 = .ok (.ireturn, 1) := by decide +kernel
theorem dL_law_341 : decode cL_law 341 = .ok (.aload_n 1, 1) := by decide +kernel
theorem dL_law_342 : decode cL_law 342 = .ok (.invokevirtual 36, 3) := by decide +kernel
theorem dL_law_345 : decode cL_law 345 = .ok (.aload_n 2, 1) := by decide +kernel
theorem dL_law_346 : decode cL_law 346 = .ok (.invokevirtual 40, 3) := by decide +kernel
theorem dL_law_349 : decode cL_law 349 = .ok (.if_icmp .eq 774, 3) := by decide +kernel
theorem dL_law_352 : decode cL_law 352 = .ok (.iconst 0, 1) := by decide +kernel
theorem dL_law_353 : decode cL_law 353 = .ok (.ireturn, 1) := by decide +kernel
theorem dL_law_354 : decode cL_law 354 = .ok (.aload_n 1, 1) := by decide +kernel
theorem dL_law_355 : decode cL_law 355 = .ok (.aload_n 0, 1) := by decide +kernel
theorem dL_law_356 : decode cL_law 356 = .ok (.iload_n 3, 1) := by decide +kernel
theorem dL_law_357 : decode cL_law 357 = .ok (.iconst 1, 1) := by decide +kernel
theorem dL_law_358 : decode cL_law 358 = .ok (.iadd, 1) := by decide +kernel
theorem dL_law_359 : decode cL_law 359 = .ok (.iaload, 1) := by decide +kernel
theorem dL_law_360 : decode cL_law 360 = .ok (.invokevirtual 41, 3) := by decide +kernel
theorem dL_law_363 : decode cL_law 363 = .ok (.aload_n 2, 1) := by decide +kernel
theorem dL_law_364 : decode cL_law 364 = .ok (.aload_n 0, 1) := by decide +kernel
theorem dL_law_365 : decode cL_law 365 = .ok (.iload_n 3, 1) := by decide +kernel
theorem dL_law_366 : decode cL_law 366 = .ok (.iconst 1, 1) := by decide +kernel
theorem dL_law_367 : decode cL_law 367 = .ok (.iadd, 1) := by decide +kernel
theorem dL_law_368 : decode cL_law 368 = .ok (.iaload, 1) := by decide +kernel
theorem dL_law_369 : decode cL_law 369 = .ok (.invokevirtual 44, 3) := by decide +kernel
theorem dL_law_372 : decode cL_law 372 = .ok (.if_icmp .eq 751, 3) := by decide +kernel
theorem dL_law_375 : decode cL_law 375 = .ok (.iconst 0, 1) := by decide +kernel
theorem dL_law_376 : decode cL_law 376 = .ok (.ireturn, 1) := by decide +kernel
theorem dL_law_377 : decode cL_law 377 = .ok (.aload_n 1, 1) := by decide +kernel
theorem dL_law_378 : decode cL_law 378 = .ok (.aload_n 0, 1) := by decide +kernel
theorem dL_law_379 : decode cL_law 379 = .ok (.iload_n 3, 1) := by decide +kernel
theorem dL_law_380 : decode cL_law 380 = .ok (.iconst 1, 1) := by decide +kernel
theorem dL_law_381 : decode cL_law 381 = .ok (.iadd, 1) := by decide +kernel
theorem dL_law_382 : decode cL_law 382 = .ok (.iaload, 1) := by decide +kernel
theorem dL_law_383 : decode cL_law 383 = .ok (.aload_n 0, 1) := by decide +kernel
theorem dL_law_384 : decode cL_law 384 = .ok (.iload_n 3, 1) := by decide +kernel
theorem dL_law_385 : decode cL_law 385 = .ok (.iconst 2, 1) := by decide +kernel
theorem dL_law_386 : decode cL_law 386 = .ok (.iadd, 1) := by decide +kernel
theorem dL_law_387 : decode cL_law 387 = .ok (.iaload, 1) := by decide +kernel
theorem dL_law_388 : decode cL_law 388 = .ok (.invokevirtual 45, 3) := by decide +kernel
theorem dL_law_391 : decode cL_law 391 = .ok (.aload_n 2, 1) := by decide +kernel
theorem dL_law_392 : decode cL_law 392 = .ok (.aload_n 0, 1) := by decide +kernel
theorem dL_law_393 : decode cL_law 393 = .ok (.iload_n 3, 1) := by decide +kernel
theorem dL_law_394 : decode cL_law 394 = .ok (.iconst 1, 1) := by decide +kernel
theorem dL_law_395 : decode cL_law 395 = .ok (.iadd, 1) := by decide +kernel
theorem dL_law_396 : decode cL_law 396 = .ok (.iaload, 1) := by decide +kernel
theorem dL_law_397 : decode cL_law 397 = .ok (.aload_n 0, 1) := by decide +kernel
theorem dL_law_398 : decode cL_law 398 = .ok (.iload_n 3, 1) := by decide +kernel
theorem dL_law_399 : decode cL_law 399 = .ok (.iconst 2, 1) := by decide +kernel
theorem dL_law_400 : decode cL_law 400 = .ok (.iadd, 1) := by decide +kernel
theorem dL_law_401 : decode cL_law 401 = .ok (.iaload, 1) := by decide +kernel
theorem dL_law_402 : decode cL_law 402 = .ok (.invokevirtual 48, 3) := by decide +kernel
theorem dL_law_405 : decode cL_law 405 = .ok (.if_icmp .eq 718, 3) := by decide +kernel
theorem dL_law_408 : decode cL_law 408 = .ok (.iconst 0, 1) := by decide +kernel
theorem dL_law_409 : decode cL_law 409 = .ok (.ireturn, 1) := by decide +kernel
theorem dL_law_410 : decode cL_law 410 = .ok (.aload_n 1, 1) := by decide +kernel
theorem dL_law_411 : decode cL_law 411 = .ok (.aload_n 0, 1) := by decide +kernel
theorem dL_law_412 : decode cL_law 412 = .ok (.iload_n 3, 1) := by decide +kernel
theorem dL_law_413 : decode cL_law 413 = .ok (.iconst 1, 1) := by decide +kernel
theorem dL_law_414 : decode cL_law 414 = .ok (.iadd, 1) := by decide +kernel
theorem dL_law_415 : decode cL_law 415 = .ok (.iaload, 1) := by decide +kernel
theorem dL_law_416 : decode cL_law 416 = .ok (.aload_n 0, 1) := by decide +kernel
theorem dL_law_417 : decode cL_law 417 = .ok (.iload_n 3, 1) := by decide +kernel
theorem dL_law_418 : decode cL_law 418 = .ok (.iconst 2, 1) := by decide +kernel
theorem dL_law_419 : decode cL_law 419 = .ok (.iadd, 1) := by decide +kernel
theorem dL_law_420 : decode cL_law 420 = .ok (.iaload, 1) := by decide +kernel
theorem dL_law_421 : decode cL_law 421 = .ok (.invokevirtual 49, 3) := by decide +kernel
theorem dL_law_424 : decode cL_law 424 = .ok (.aload_n 2, 1) := by decide +kernel
theorem dL_law_425 : decode cL_law 425 = .ok (.aload_n 0, 1) := by decide +kernel
theorem dL_law_426 : decode cL_law 426 = .ok (.iload_n 3, 1) := by decide +kernel
theorem dL_law_427 : decode cL_law 427 = .ok (.iconst 1, 1) := by decide +kernel
theorem dL_law_428 : decode cL_law 428 = .ok (.iadd, 1) := by decide +kernel
theorem dL_law_429 : decode cL_law 429 = .ok (.iaload, 1) := by decide +kernel
theorem dL_law_430 : decode cL_law 430 = .ok (.aload_n 0, 1) := by decide +kernel
theorem dL_law_431 : decode cL_law 431 = .ok (.iload_n 3, 1) := by decide +kernel
theorem dL_law_432 : decode cL_law 432 = .ok (.iconst 2, 1) := by decide +kernel
theorem dL_law_433 : decode cL_law 433 = .ok (.iadd, 1) := by decide +kernel
theorem dL_law_434 : decode cL_law 434 = .ok (.iaload, 1) := by decide +kernel
theorem dL_law_435 : decode cL_law 435 = .ok (.invokevirtual 52, 3) := by decide +kernel
theorem dL_law_438 : decode cL_law 438 = .ok (.if_icmp .eq 685, 3) := by decide +kernel
theorem dL_law_441 : decode cL_law 441 = .ok (.iconst 0, 1) := by decide +kernel
theorem dL_law_442 : decode cL_law 442 = .ok (.ireturn, 1) := by decide +kernel
theorem dL_law_443 : decode cL_law 443 = .ok (.aload_n 1, 1) := by decide +kernel
theorem dL_law_444 : decode cL_law 444 = .ok (.aload_n 0, 1) := by decide +kernel
theorem dL_law_445 : decode cL_law 445 = .ok (.iload_n 3, 1) := by decide +kernel
theorem dL_law_446 : decode cL_law 446 = .ok (.iconst 1, 1) := by decide +kernel
theorem dL_law_447 : decode cL_law 447 = .ok (.iadd, 1) := by decide +kernel
theorem dL_law_448 : decode cL_law 448 = .ok (.iaload, 1) := by decide +kernel
theorem dL_law_449 : decode cL_law 449 = .ok (.invokevirtual 53, 3) := by decide +kernel
theorem dL_law_452 : decode cL_law 452 = .ok (.aload_n 2, 1) := by decide +kernel
theorem dL_law_453 : decode cL_law 453 = .ok (.aload_n 0, 1) := by decide +kernel
theorem dL_law_454 : decode cL_law 454 = .ok (.iload_n 3, 1) := by decide +kernel
theorem dL_law_455 : decode cL_law 455 = .ok (.iconst 1, 1) := by decide +kernel
theorem dL_law_456 : decode cL_law 456 = .ok (.iadd, 1) := by decide +kernel
theorem dL_law_457 : decode cL_law 457 = .ok (.iaload, 1) := by decide +kernel
theorem dL_law_458 : decode cL_law 458 = .ok (.invokevirtual 56, 3) := by decide +kernel
theorem dL_law_461 : decode cL_law 461 = .ok (.if_icmp .eq 662, 3) := by decide +kernel
theorem dL_law_464 : decode cL_law 464 = .ok (.iconst 0, 1) := by decide +kernel
theorem dL_law_465 : decode cL_law 465 = .ok (.ireturn, 1) := by decide +kernel
theorem dL_law_466 : decode cL_law 466 = .ok (.aload_n 1, 1) := by decide +kernel
theorem dL_law_467 : decode cL_law 467 = .ok (.aload_n 0, 1) := by decide +kernel
theorem dL_law_468 : decode cL_law 468 = .ok (.iload_n 3, 1) := by decide +kernel
theorem dL_law_469 : decode cL_law 469 = .ok (.iconst 1, 1) := by decide +kernel
theorem dL_law_470 : decode cL_law 470 = .ok (.iadd, 1) := by decide +kernel
theorem dL_law_471 : decode cL_law 471 = .ok (.iaload, 1) := by decide +kernel
theorem dL_law_472 : decode cL_law 472 = .ok (.invokevirtual 57, 3) := by decide +kernel
theorem dL_law_475 : decode cL_law 475 = .ok (.aload_n 2, 1) := by decide +kernel
theorem dL_law_476 : decode cL_law 476 = .ok (.aload_n 0, 1) := by decide +kernel
theorem dL_law_477 : decode cL_law 477 = .ok (.iload_n 3, 1) := by decide +kernel
theorem dL_law_478 : decode cL_law 478 = .ok (.iconst 1, 1) := by decide +kernel
theorem dL_law_479 : decode cL_law 479 = .ok (.iadd, 1) := by decide +kernel
theorem dL_law_480 : decode cL_law 480 = .ok (.iaload, 1) := by decide +kernel
theorem dL_law_481 : decode cL_law 481 = .ok (.invokevirtual 60, 3) := by decide +kernel
theorem dL_law_484 : decode cL_law 484 = .ok (.if_icmp .eq 639, 3) := by decide +kernel
theorem dL_law_487 : decode cL_law 487 = .ok (.iconst 0, 1) := by decide +kernel
theorem dL_law_488 : decode cL_law 488 = .ok (.ireturn, 1) := by decide +kernel
theorem dL_law_489 : decode cL_law 489 = .ok (.aload_n 1, 1) := by decide +kernel
theorem dL_law_490 : decode cL_law 490 = .ok (.aload_n 0, 1) := by decide +kernel
theorem dL_law_491 : decode cL_law 491 = .ok (.iload_n 3, 1) := by decide +kernel
theorem dL_law_492 : decode cL_law 492 = .ok (.iconst 1, 1) := by decide +kernel
theorem dL_law_493 : decode cL_law 493 = .ok (.iadd, 1) := by decide +kernel
theorem dL_law_494 : decode cL_law 494 = .ok (.iaload, 1) := by decide +kernel
theorem dL_law_495 : decode cL_law 495 = .ok (.invokevirtual 61, 3) := by decide +kernel
theorem dL_law_498 : decode cL_law 498 = .ok (.aload_n 2, 1) := by decide +kernel
theorem dL_law_499 : decode cL_law 499 = .ok (.aload_n 0, 1) := by decide +kernel
theorem dL_law_500 : decode cL_law 500 = .ok (.iload_n 3, 1) := by decide +kernel
theorem dL_law_501 : decode cL_law 501 = .ok (.iconst 1, 1) := by decide +kernel
theorem dL_law_502 : decode cL_law 502 = .ok (.iadd, 1) := by decide +kernel
theorem dL_law_503 : decode cL_law 503 = .ok (.iaload, 1) := by decide +kernel
theorem dL_law_504 : decode cL_law 504 = .ok (.invokevirtual 64, 3) := by decide +kernel
theorem dL_law_507 : decode cL_law 507 = .ok (.if_icmp .eq 616, 3) := by decide +kernel
theorem dL_law_510 : decode cL_law 510 = .ok (.iconst 0, 1) := by decide +kernel
theorem dL_law_511 : decode cL_law 511 = .ok (.ireturn, 1) := by decide +kernel
theorem dL_law_512 : decode cL_law 512 = .ok (.aload_n 1, 1) := by decide +kernel
theorem dL_law_513 : decode cL_law 513 = .ok (.aload_n 0, 1) := by decide +kernel
theorem dL_law_514 : decode cL_law 514 = .ok (.iload_n 3, 1) := by decide +kernel
theorem dL_law_515 : decode cL_law 515 = .ok (.iconst 1, 1) := by decide +kernel
theorem dL_law_516 : decode cL_law 516 = .ok (.iadd, 1) := by decide +kernel
theorem dL_law_517 : decode cL_law 517 = .ok (.iaload, 1) := by decide +kernel
theorem dL_law_518 : decode cL_law 518 = .ok (.aload_n 0, 1) := by decide +kernel
theorem dL_law_519 : decode cL_law 519 = .ok (.iload_n 3, 1) := by decide +kernel
theorem dL_law_520 : decode cL_law 520 = .ok (.iconst 2, 1) := by decide +kernel
theorem dL_law_521 : decode cL_law 521 = .ok (.iadd, 1) := by decide +kernel
theorem dL_law_522 : decode cL_law 522 = .ok (.iaload, 1) := by decide +kernel
theorem dL_law_523 : decode cL_law 523 = .ok (.invokevirtual 65, 3) := by decide +kernel
theorem dL_law_526 : decode cL_law 526 = .ok (.aload_n 2, 1) := by decide +kernel
theorem dL_law_527 : decode cL_law 527 = .ok (.aload_n 0, 1) := by decide +kernel
theorem dL_law_528 : decode cL_law 528 = .ok (.iload_n 3, 1) := by decide +kernel
theorem dL_law_529 : decode cL_law 529 = .ok (.iconst 1, 1) := by decide +kernel
theorem dL_law_530 : decode cL_law 530 = .ok (.iadd, 1) := by decide +kernel
theorem dL_law_531 : decode cL_law 531 = .ok (.iaload, 1) := by decide +kernel
theorem dL_law_532 : decode cL_law 532 = .ok (.aload_n 0, 1) := by decide +kernel
theorem dL_law_533 : decode cL_law 533 = .ok (.iload_n 3, 1) := by decide +kernel
theorem dL_law_534 : decode cL_law 534 = .ok (.iconst 2, 1) := by decide +kernel
theorem dL_law_535 : decode cL_law 535 = .ok (.iadd, 1) := by decide +kernel
theorem dL_law_536 : decode cL_law 536 = .ok (.iaload, 1) := by decide +kernel
theorem dL_law_537 : decode cL_law 537 = .ok (.invokevirtual 68, 3) := by decide +kernel
theorem dL_law_540 : decode cL_law 540 = .ok (.if_icmp .eq 583, 3) := by decide +kernel
theorem dL_law_543 : decode cL_law 543 = .ok (.iconst 0, 1) := by decide +kernel
theorem dL_law_544 : decode cL_law 544 = .ok (.ireturn, 1) := by decide +kernel
theorem dL_law_545 : decode cL_law 545 = .ok (.aload_n 1, 1) := by decide +kernel
theorem dL_law_546 : decode cL_law 546 = .ok (.aload_n 0, 1) := by decide +kernel
theorem dL_law_547 : decode cL_law 547 = .ok (.iload_n 3, 1) := by decide +kernel
theorem dL_law_548 : decode cL_law 548 = .ok (.iconst 1, 1) := by decide +kernel
theorem dL_law_549 : decode cL_law 549 = .ok (.iadd, 1) := by decide +kernel
theorem dL_law_550 : decode cL_law 550 = .ok (.iaload, 1) := by decide +kernel
theorem dL_law_551 : decode cL_law 551 = .ok (.aload_n 0, 1) := by decide +kernel
theorem dL_law_552 : decode cL_law 552 = .ok (.iload_n 3, 1) := by decide +kernel
theorem dL_law_553 : decode cL_law 553 = .ok (.iconst 2, 1) := by decide +kernel
theorem dL_law_554 : decode cL_law 554 = .ok (.iadd, 1) := by decide +kernel
theorem dL_law_555 : decode cL_law 555 = .ok (.iaload, 1) := by decide +kernel
theorem dL_law_556 : decode cL_law 556 = .ok (.invokevirtual 69, 3) := by decide +kernel
theorem dL_law_559 : decode cL_law 559 = .ok (.aload_n 2, 1) := by decide +kernel
theorem dL_law_560 : decode cL_law 560 = .ok (.aload_n 0, 1) := by decide +kernel
theorem dL_law_561 : decode cL_law 561 = .ok (.iload_n 3, 1) := by decide +kernel
theorem dL_law_562 : decode cL_law 562 = .ok (.iconst 1, 1) := by decide +kernel
theorem dL_law_563 : decode cL_law 563 = .ok (.iadd, 1) := by decide +kernel
theorem dL_law_564 : decode cL_law 564 = .ok (.iaload, 1) := by decide +kernel
theorem dL_law_565 : decode cL_law 565 = .ok (.aload_n 0, 1) := by decide +kernel
theorem dL_law_566 : decode cL_law 566 = .ok (.iload_n 3, 1) := by decide +kernel
theorem dL_law_567 : decode cL_law 567 = .ok (.iconst 2, 1) := by decide +kernel
theorem dL_law_568 : decode cL_law 568 = .ok (.iadd, 1) := by decide +kernel
theorem dL_law_569 : decode cL_law 569 = .ok (.iaload, 1) := by decide +kernel
theorem dL_law_570 : decode cL_law 570 = .ok (.invokevirtual 73, 3) := by decide +kernel
theorem dL_law_573 : decode cL_law 573 = .ok (.lcmp, 1) := by decide +kernel
theorem dL_law_574 : decode cL_law 574 = .ok (.ifCond .eq 549, 3) := by decide +kernel
theorem dL_law_577 : decode cL_law 577 = .ok (.iconst 0, 1) := by decide +kernel
theorem dL_law_578 : decode cL_law 578 = .ok (.ireturn, 1) := by decide +kernel
theorem dL_law_579 : decode cL_law 579 = .ok (.aload_n 1, 1) := by decide +kernel
theorem dL_law_580 : decode cL_law 580 = .ok (.aload_n 0, 1) := by decide +kernel
theorem dL_law_581 : decode cL_law 581 = .ok (.iload_n 3, 1) := by decide +kernel
theorem dL_law_582 : decode cL_law 582 = .ok (.iconst 1, 1) := by decide +kernel
theorem dL_law_583 : decode cL_law 583 = .ok (.iadd, 1) := by decide +kernel
theorem dL_law_584 : decode cL_law 584 = .ok (.iaload, 1) := by decide +kernel
theorem dL_law_585 : decode cL_law 585 = .ok (.aload_n 0, 1) := by decide +kernel
theorem dL_law_586 : decode cL_law 586 = .ok (.iload_n 3, 1) := by decide +kernel
theorem dL_law_587 : decode cL_law 587 = .ok (.iconst 2, 1) := by decide +kernel
theorem dL_law_588 : decode cL_law 588 = .ok (.iadd, 1) := by decide +kernel
theorem dL_law_589 : decode cL_law 589 = .ok (.iaload, 1) := by decide +kernel
theorem dL_law_590 : decode cL_law 590 = .ok (.invokevirtual 74, 3) := by decide +kernel
theorem dL_law_593 : decode cL_law 593 = .ok (.aload_n 2, 1) := by decide +kernel
theorem dL_law_594 : decode cL_law 594 = .ok (.aload_n 0, 1) := by decide +kernel
theorem dL_law_595 : decode cL_law 595 = .ok (.iload_n 3, 1) := by decide +kernel
theorem dL_law_596 : decode cL_law 596 = .ok (.iconst 1, 1) := by decide +kernel
theorem dL_law_597 : decode cL_law 597 = .ok (.iadd, 1) := by decide +kernel
theorem dL_law_598 : decode cL_law 598 = .ok (.iaload, 1) := by decide +kernel
theorem dL_law_599 : decode cL_law 599 = .ok (.aload_n 0, 1) := by decide +kernel
theorem dL_law_600 : decode cL_law 600 = .ok (.iload_n 3, 1) := by decide +kernel
theorem dL_law_601 : decode cL_law 601 = .ok (.iconst 2, 1) := by decide +kernel
theorem dL_law_602 : decode cL_law 602 = .ok (.iadd, 1) := by decide +kernel
theorem dL_law_603 : decode cL_law 603 = .ok (.iaload, 1) := by decide +kernel
theorem dL_law_604 : decode cL_law 604 = .ok (.invokevirtual 77, 3) := by decide +kernel
theorem dL_law_607 : decode cL_law 607 = .ok (.if_icmp .eq 516, 3) := by decide +kernel
theorem dL_law_610 : decode cL_law 610 = .ok (.iconst 0, 1) := by decide +kernel
theorem dL_law_611 : decode cL_law 611 = .ok (.ireturn, 1) := by decide +kernel
theorem dL_law_612 : decode cL_law 612 = .ok (.aload_n 1, 1) := by decide +kernel
theorem dL_law_613 : decode cL_law 613 = .ok (.aload_n 0, 1) := by decide +kernel
theorem dL_law_614 : decode cL_law 614 = .ok (.iload_n 3, 1) := by decide +kernel
theorem dL_law_615 : decode cL_law 615 = .ok (.iconst 1, 1) := by decide +kernel
theorem dL_law_616 : decode cL_law 616 = .ok (.iadd, 1) := by decide +kernel
theorem dL_law_617 : decode cL_law 617 = .ok (.iaload, 1) := by decide +kernel
theorem dL_law_618 : decode cL_law 618 = .ok (.invokevirtual 78, 3) := by decide +kernel
theorem dL_law_621 : decode cL_law 621 = .ok (.aload_n 2, 1) := by decide +kernel
theorem dL_law_622 : decode cL_law 622 = .ok (.aload_n 0, 1) := by decide +kernel
theorem dL_law_623 : decode cL_law 623 = .ok (.iload_n 3, 1) := by decide +kernel
theorem dL_law_624 : decode cL_law 624 = .ok (.iconst 1, 1) := by decide +kernel
theorem dL_law_625 : decode cL_law 625 = .ok (.iadd, 1) := by decide +kernel
theorem dL_law_626 : decode cL_law 626 = .ok (.iaload, 1) := by decide +kernel
theorem dL_law_627 : decode cL_law 627 = .ok (.invokevirtual 81, 3) := by decide +kernel
theorem dL_law_630 : decode cL_law 630 = .ok (.if_icmp .eq 493, 3) := by decide +kernel
theorem dL_law_633 : decode cL_law 633 = .ok (.iconst 0, 1) := by decide +kernel
theorem dL_law_634 : decode cL_law 634 = .ok (.ireturn, 1) := by decide +kernel
theorem dL_law_635 : decode cL_law 635 = .ok (.aload_n 1, 1) := by decide +kernel
theorem dL_law_636 : decode cL_law 636 = .ok (.aload_n 0, 1) := by decide +kernel
theorem dL_law_637 : decode cL_law 637 = .ok (.iload_n 3, 1) := by decide +kernel
theorem dL_law_638 : decode cL_law 638 = .ok (.iconst 1, 1) := by decide +kernel
theorem dL_law_639 : decode cL_law 639 = .ok (.iadd, 1) := by decide +kernel
theorem dL_law_640 : decode cL_law 640 = .ok (.iaload, 1) := by decide +kernel
theorem dL_law_641 : decode cL_law 641 = .ok (.invokevirtual 82, 3) := by decide +kernel
theorem dL_law_644 : decode cL_law 644 = .ok (.aload_n 2, 1) := by decide +kernel
theorem dL_law_645 : decode cL_law 645 = .ok (.aload_n 0, 1) := by decide +kernel
theorem dL_law_646 : decode cL_law 646 = .ok (.iload_n 3, 1) := by decide +kernel
theorem dL_law_647 : decode cL_law 647 = .ok (.iconst 1, 1) := by decide +kernel
theorem dL_law_648 : decode cL_law 648 = .ok (.iadd, 1) := by decide +kernel
theorem dL_law_649 : decode cL_law 649 = .ok (.iaload, 1) := by decide +kernel
theorem dL_law_650 : decode cL_law 650 = .ok (.invokevirtual 85, 3) := by decide +kernel
theorem dL_law_653 : decode cL_law 653 = .ok (.if_icmp .eq 470, 3) := by decide +kernel
theorem dL_law_656 : decode cL_law 656 = .ok (.iconst 0, 1) := by decide +kernel
theorem dL_law_657 : decode cL_law 657 = .ok (.ireturn, 1) := by decide +kernel
theorem dL_law_658 : decode cL_law 658 = .ok (.aload_n 1, 1) := by decide +kernel
theorem dL_law_659 : decode cL_law 659 = .ok (.aload_n 0, 1) := by decide +kernel
theorem dL_law_660 : decode cL_law 660 = .ok (.iload_n 3, 1) := by decide +kernel
theorem dL_law_661 : decode cL_law 661 = .ok (.iconst 1, 1) := by decide +kernel
theorem dL_law_662 : decode cL_law 662 = .ok (.iadd, 1) := by decide +kernel
theorem dL_law_663 : decode cL_law 663 = .ok (.iaload, 1) := by decide +kernel
theorem dL_law_664 : decode cL_law 664 = .ok (.invokevirtual 86, 3) := by decide +kernel
theorem dL_law_667 : decode cL_law 667 = .ok (.aload_n 2, 1) := by decide +kernel
theorem dL_law_668 : decode cL_law 668 = .ok (.aload_n 0, 1) := by decide +kernel
theorem dL_law_669 : decode cL_law 669 = .ok (.iload_n 3, 1) := by decide +kernel
theorem dL_law_670 : decode cL_law 670 = .ok (.iconst 1, 1) := by decide +kernel
theorem dL_law_671 : decode cL_law 671 = .ok (.iadd, 1) := by decide +kernel
theorem dL_law_672 : decode cL_law 672 = .ok (.iaload, 1) := by decide +kernel
theorem dL_law_673 : decode cL_law 673 = .ok (.invokevirtual 89, 3) := by decide +kernel
theorem dL_law_676 : decode cL_law 676 = .ok (.if_icmp .eq 447, 3) := by decide +kernel
theorem dL_law_679 : decode cL_law 679 = .ok (.iconst 0, 1) := by decide +kernel
theorem dL_law_680 : decode cL_law 680 = .ok (.ireturn, 1) := by decide +kernel
theorem dL_law_681 : decode cL_law 681 = .ok (.aload_n 1, 1) := by decide +kernel
theorem dL_law_682 : decode cL_law 682 = .ok (.aload_n 0, 1) := by decide +kernel
theorem dL_law_683 : decode cL_law 683 = .ok (.iload_n 3, 1) := by decide +kernel
theorem dL_law_684 : decode cL_law 684 = .ok (.iconst 1, 1) := by decide +kernel
theorem dL_law_685 : decode cL_law 685 = .ok (.iadd, 1) := by decide +kernel
theorem dL_law_686 : decode cL_law 686 = .ok (.iaload, 1) := by decide +kernel
theorem dL_law_687 : decode cL_law 687 = .ok (.invokevirtual 90, 3) := by decide +kernel
theorem dL_law_690 : decode cL_law 690 = .ok (.aload_n 2, 1) := by decide +kernel
theorem dL_law_691 : decode cL_law 691 = .ok (.aload_n 0, 1) := by decide +kernel
theorem dL_law_692 : decode cL_law 692 = .ok (.iload_n 3, 1) := by decide +kernel
theorem dL_law_693 : decode cL_law 693 = .ok (.iconst 1, 1) := by decide +kernel
theorem dL_law_694 : decode cL_law 694 = .ok (.iadd, 1) := by decide +kernel
theorem dL_law_695 : decode cL_law 695 = .ok (.iaload, 1) := by decide +kernel
theorem dL_law_696 : decode cL_law 696 = .ok (.invokevirtual 93, 3) := by decide +kernel
theorem dL_law_699 : decode cL_law 699 = .ok (.if_icmp .eq 424, 3) := by decide +kernel
theorem dL_law_702 : decode cL_law 702 = .ok (.iconst 0, 1) := by decide +kernel
theorem dL_law_703 : decode cL_law 703 = .ok (.ireturn, 1) := by decide +kernel
theorem dL_law_704 : decode cL_law 704 = .ok (.aload_n 1, 1) := by decide +kernel
theorem dL_law_705 : decode cL_law 705 = .ok (.aload_n 0, 1) := by decide +kernel
theorem dL_law_706 : decode cL_law 706 = .ok (.iload_n 3, 1) := by decide +kernel
theorem dL_law_707 : decode cL_law 707 = .ok (.iconst 1, 1) := by decide +kernel
theorem dL_law_708 : decode cL_law 708 = .ok (.iadd, 1) := by decide +kernel
theorem dL_law_709 : decode cL_law 709 = .ok (.iaload, 1) := by decide +kernel
theorem dL_law_710 : decode cL_law 710 = .ok (.invokevirtual 94, 3) := by decide +kernel
theorem dL_law_713 : decode cL_law 713 = .ok (.aload_n 2, 1) := by decide +kernel
theorem dL_law_714 : decode cL_law 714 = .ok (.aload_n 0, 1) := by decide +kernel
theorem dL_law_715 : decode cL_law 715 = .ok (.iload_n 3, 1) := by decide +kernel
theorem dL_law_716 : decode cL_law 716 = .ok (.iconst 1, 1) := by decide +kernel
theorem dL_law_717 : decode cL_law 717 = .ok (.iadd, 1) := by decide +kernel
theorem dL_law_718 : decode cL_law 718 = .ok (.iaload, 1) := by decide +kernel
theorem dL_law_719 : decode cL_law 719 = .ok (.invokevirtual 97, 3) := by decide +kernel
theorem dL_law_722 : decode cL_law 722 = .ok (.if_icmp .eq 401, 3) := by decide +kernel
theorem dL_law_725 : decode cL_law 725 = .ok (.iconst 0, 1) := by decide +kernel
theorem dL_law_726 : decode cL_law 726 = .ok (.ireturn, 1) := by decide +kernel
theorem dL_law_727 : decode cL_law 727 = .ok (.aload_n 1, 1) := by decide +kernel
theorem dL_law_728 : decode cL_law 728 = .ok (.aload_n 0, 1) := by decide +kernel
theorem dL_law_729 : decode cL_law 729 = .ok (.iload_n 3, 1) := by decide +kernel
theorem dL_law_730 : decode cL_law 730 = .ok (.iconst 1, 1) := by decide +kernel
theorem dL_law_731 : decode cL_law 731 = .ok (.iadd, 1) := by decide +kernel
theorem dL_law_732 : decode cL_law 732 = .ok (.iaload, 1) := by decide +kernel
theorem dL_law_733 : decode cL_law 733 = .ok (.invokevirtual 98, 3) := by decide +kernel
theorem dL_law_736 : decode cL_law 736 = .ok (.aload_n 2, 1) := by decide +kernel
theorem dL_law_737 : decode cL_law 737 = .ok (.aload_n 0, 1) := by decide +kernel
theorem dL_law_738 : decode cL_law 738 = .ok (.iload_n 3, 1) := by decide +kernel
theorem dL_law_739 : decode cL_law 739 = .ok (.iconst 1, 1) := by decide +kernel
theorem dL_law_740 : decode cL_law 740 = .ok (.iadd, 1) := by decide +kernel
theorem dL_law_741 : decode cL_law 741 = .ok (.iaload, 1) := by decide +kernel
theorem dL_law_742 : decode cL_law 742 = .ok (.invokevirtual 101, 3) := by decide +kernel
theorem dL_law_745 : decode cL_law 745 = .ok (.if_icmp .eq 378, 3) := by decide +kernel
theorem dL_law_748 : decode cL_law 748 = .ok (.iconst 0, 1) := by decide +kernel
theorem dL_law_749 : decode cL_law 749 = .ok (.ireturn, 1) := by decide +kernel
theorem dL_law_750 : decode cL_law 750 = .ok (.aload_n 1, 1) := by decide +kernel
theorem dL_law_751 : decode cL_law 751 = .ok (.aload_n 0, 1) := by decide +kernel
theorem dL_law_752 : decode cL_law 752 = .ok (.iload_n 3, 1) := by decide +kernel
theorem dL_law_753 : decode cL_law 753 = .ok (.iconst 1, 1) := by decide +kernel
theorem dL_law_754 : decode cL_law 754 = .ok (.iadd, 1) := by decide +kernel
theorem dL_law_755 : decode cL_law 755 = .ok (.iaload, 1) := by decide +kernel
theorem dL_law_756 : decode cL_law 756 = .ok (.invokevirtual 102, 3) := by decide +kernel
theorem dL_law_759 : decode cL_law 759 = .ok (.aload_n 2, 1) := by decide +kernel
theorem dL_law_760 : decode cL_law 760 = .ok (.aload_n 0, 1) := by decide +kernel
theorem dL_law_761 : decode cL_law 761 = .ok (.iload_n 3, 1) := by decide +kernel
theorem dL_law_762 : decode cL_law 762 = .ok (.iconst 1, 1) := by decide +kernel
theorem dL_law_763 : decode cL_law 763 = .ok (.iadd, 1) := by decide +kernel
theorem dL_law_764 : decode cL_law 764 = .ok (.iaload, 1) := by decide +kernel
theorem dL_law_765 : decode cL_law 765 = .ok (.invokevirtual 105, 3) := by decide +kernel
theorem dL_law_768 : decode cL_law 768 = .ok (.if_icmp .eq 355, 3) := by decide +kernel
theorem dL_law_771 : decode cL_law 771 = .ok (.iconst 0, 1) := by decide +kernel
theorem dL_law_772 : decode cL_law 772 = .ok (.ireturn, 1) := by decide +kernel
theorem dL_law_773 : decode cL_law 773 = .ok (.aload_n 1, 1) := by decide +kernel
theorem dL_law_774 : decode cL_law 774 = .ok (.aload_n 0, 1) := by decide +kernel
theorem dL_law_775 : decode cL_law 775 = .ok (.iload_n 3, 1) := by decide +kernel
theorem dL_law_776 : decode cL_law 776 = .ok (.iconst 1, 1) := by decide +kernel
theorem dL_law_777 : decode cL_law 777 = .ok (.iadd, 1) := by decide +kernel
theorem dL_law_778 : decode cL_law 778 = .ok (.iaload, 1) := by decide +kernel
theorem dL_law_779 : decode cL_law 779 = .ok (.aload_n 0, 1) := by decide +kernel
theorem dL_law_780 : decode cL_law 780 = .ok (.iload_n 3, 1) := by decide +kernel
theorem dL_law_781 : decode cL_law 781 = .ok (.iconst 2, 1) := by decide +kernel
theorem dL_law_782 : decode cL_law 782 = .ok (.iadd, 1) := by decide +kernel
theorem dL_law_783 : decode cL_law 783 = .ok (.iaload, 1) := by decide +kernel
theorem dL_law_784 : decode cL_law 784 = .ok (.invokevirtual 106, 3) := by decide +kernel
theorem dL_law_787 : decode cL_law 787 = .ok (.aload_n 2, 1) := by decide +kernel
theorem dL_law_788 : decode cL_law 788 = .ok (.aload_n 0, 1) := by decide +kernel
theorem dL_law_789 : decode cL_law 789 = .ok (.iload_n 3, 1) := by decide +kernel
theorem dL_law_790 : decode cL_law 790 = .ok (.iconst 1, 1) := by decide +kernel
theorem dL_law_791 : decode cL_law 791 = .ok (.iadd, 1) := by decide +kernel
theorem dL_law_792 : decode cL_law 792 = .ok (.iaload, 1) := by decide +kernel
theorem dL_law_793 : decode cL_law 793 = .ok (.aload_n 0, 1) := by decide +kernel
theorem dL_law_794 : decode cL_law 794 = .ok (.iload_n 3, 1) := by decide +kernel
theorem dL_law_795 : decode cL_law 795 = .ok (.iconst 2, 1) := by decide +kernel
theorem dL_law_796 : decode cL_law 796 = .ok (.iadd, 1) := by decide +kernel
theorem dL_law_797 : decode cL_law 797 = .ok (.iaload, 1) := by decide +kernel
theorem dL_law_798 : decode cL_law 798 = .ok (.invokevirtual 109, 3) := by decide +kernel
theorem dL_law_801 : decode cL_law 801 = .ok (.if_icmp .eq 322, 3) := by decide +kernel
theorem dL_law_804 : decode cL_law 804 = .ok (.iconst 0, 1) := by decide +kernel
theorem dL_law_805 : decode cL_law 805 = .ok (.ireturn, 1) := by decide +kernel
theorem dL_law_806 : decode cL_law 806 = .ok (.aload_n 1, 1) := by decide +kernel
theorem dL_law_807 : decode cL_law 807 = .ok (.aload_n 0, 1) := by decide +kernel
theorem dL_law_808 : decode cL_law 808 = .ok (.iload_n 3, 1) := by decide +kernel
theorem dL_law_809 : decode cL_law 809 = .ok (.iconst 1, 1) := by decide +kernel
theorem dL_law_810 : decode cL_law 810 = .ok (.iadd, 1) := by decide +kernel
theorem dL_law_811 : decode cL_law 811 = .ok (.iaload, 1) := by decide +kernel
theorem dL_law_812 : decode cL_law 812 = .ok (.aload_n 0, 1) := by decide +kernel
theorem dL_law_813 : decode cL_law 813 = .ok (.iload_n 3, 1) := by decide +kernel
theorem dL_law_814 : decode cL_law 814 = .ok (.iconst 2, 1) := by decide +kernel
theorem dL_law_815 : decode cL_law 815 = .ok (.iadd, 1) := by decide +kernel
theorem dL_law_816 : decode cL_law 816 = .ok (.iaload, 1) := by decide +kernel
theorem dL_law_817 : decode cL_law 817 = .ok (.invokevirtual 110, 3) := by decide +kernel
theorem dL_law_820 : decode cL_law 820 = .ok (.aload_n 2, 1) := by decide +kernel
theorem dL_law_821 : decode cL_law 821 = .ok (.aload_n 0, 1) := by decide +kernel
theorem dL_law_822 : decode cL_law 822 = .ok (.iload_n 3, 1) := by decide +kernel
theorem dL_law_823 : decode cL_law 823 = .ok (.iconst 1, 1) := by decide +kernel
theorem dL_law_824 : decode cL_law 824 = .ok (.iadd, 1) := by decide +kernel
theorem dL_law_825 : decode cL_law 825 = .ok (.iaload, 1) := by decide +kernel
theorem dL_law_826 : decode cL_law 826 = .ok (.aload_n 0, 1) := by decide +kernel
theorem dL_law_827 : decode cL_law 827 = .ok (.iload_n 3, 1) := by decide +kernel
theorem dL_law_828 : decode cL_law 828 = .ok (.iconst 2, 1) := by decide +kernel
theorem dL_law_829 : decode cL_law 829 = .ok (.iadd, 1) := by decide +kernel
theorem dL_law_830 : decode cL_law 830 = .ok (.iaload, 1) := by decide +kernel
theorem dL_law_831 : decode cL_law 831 = .ok (.invokevirtual 113, 3) := by decide +kernel
theorem dL_law_834 : decode cL_law 834 = .ok (.if_icmp .eq 289, 3) := by decide +kernel
theorem dL_law_837 : decode cL_law 837 = .ok (.iconst 0, 1) := by decide +kernel
theorem dL_law_838 : decode cL_law 838 = .ok (.ireturn, 1) := by decide +kernel
theorem dL_law_839 : decode cL_law 839 = .ok (.aload_n 1, 1) := by decide +kernel
theorem dL_law_840 : decode cL_law 840 = .ok (.invokevirtual 114, 3) := by decide +kernel
theorem dL_law_843 : decode cL_law 843 = .ok (.aload_n 2, 1) := by decide +kernel
theorem dL_law_844 : decode cL_law 844 = .ok (.invokevirtual 117, 3) := by decide +kernel
theorem dL_law_847 : decode cL_law 847 = .ok (.if_icmp .eq 276, 3) := by decide +kernel
theorem dL_law_850 : decode cL_law 850 = .ok (.iconst 0, 1) := by decide +kernel
theorem dL_law_851 : decode cL_law 851 = .ok (.ireturn, 1) := by decide +kernel
theorem dL_law_852 : decode cL_law 852 = .ok (.aload_n 1, 1) := by decide +kernel
theorem dL_law_853 : decode cL_law 853 = .ok (.invokevirtual 118, 3) := by decide +kernel
theorem dL_law_856 : decode cL_law 856 = .ok (.aload_n 2, 1) := by decide +kernel
theorem dL_law_857 : decode cL_law 857 = .ok (.invokevirtual 121, 3) := by decide +kernel
theorem dL_law_860 : decode cL_law 860 = .ok (.if_icmp .eq 263, 3) := by decide +kernel
theorem dL_law_863 : decode cL_law 863 = .ok (.iconst 0, 1) := by decide +kernel
theorem dL_law_864 : decode cL_law 864 = .ok (.ireturn, 1) := by decide +kernel
theorem dL_law_865 : decode cL_law 865 = .ok (.aload_n 1, 1) := by decide +kernel
theorem dL_law_866 : decode cL_law 866 = .ok (.aload_n 0, 1) := by decide +kernel
theorem dL_law_867 : decode cL_law 867 = .ok (.iload_n 3, 1) := by decide +kernel
theorem dL_law_868 : decode cL_law 868 = .ok (.iconst 1, 1) := by decide +kernel
theorem dL_law_869 : decode cL_law 869 = .ok (.iadd, 1) := by decide +kernel
theorem dL_law_870 : decode cL_law 870 = .ok (.iaload, 1) := by decide +kernel
theorem dL_law_871 : decode cL_law 871 = .ok (.invokevirtual 122, 3) := by decide +kernel
theorem dL_law_874 : decode cL_law 874 = .ok (.aload_n 2, 1) := by decide +kernel
theorem dL_law_875 : decode cL_law 875 = .ok (.aload_n 0, 1) := by decide +kernel
theorem dL_law_876 : decode cL_law 876 = .ok (.iload_n 3, 1) := by decide +kernel
theorem dL_law_877 : decode cL_law 877 = .ok (.iconst 1, 1) := by decide +kernel
theorem dL_law_878 : decode cL_law 878 = .ok (.iadd, 1) := by decide +kernel
theorem dL_law_879 : decode cL_law 879 = .ok (.iaload, 1) := by decide +kernel
theorem dL_law_880 : decode cL_law 880 = .ok (.invokevirtual 125, 3) := by decide +kernel
theorem dL_law_883 : decode cL_law 883 = .ok (.if_icmp .eq 240, 3) := by decide +kernel
theorem dL_law_886 : decode cL_law 886 = .ok (.iconst 0, 1) := by decide +kernel
theorem dL_law_887 : decode cL_law 887 = .ok (.ireturn, 1) := by decide +kernel
theorem dL_law_888 : decode cL_law 888 = .ok (.aload_n 1, 1) := by decide +kernel
theorem dL_law_889 : decode cL_law 889 = .ok (.aload_n 0, 1) := by decide +kernel
theorem dL_law_890 : decode cL_law 890 = .ok (.iload_n 3, 1) := by decide +kernel
theorem dL_law_891 : decode cL_law 891 = .ok (.iconst 1, 1) := by decide +kernel
theorem dL_law_892 : decode cL_law 892 = .ok (.iadd, 1) := by decide +kernel
theorem dL_law_893 : decode cL_law 893 = .ok (.iaload, 1) := by decide +kernel
theorem dL_law_894 : decode cL_law 894 = .ok (.aload_n 0, 1) := by decide +kernel
theorem dL_law_895 : decode cL_law 895 = .ok (.iload_n 3, 1) := by decide +kernel
theorem dL_law_896 : decode cL_law 896 = .ok (.iconst 2, 1) := by decide +kernel
theorem dL_law_897 : decode cL_law 897 = .ok (.iadd, 1) := by decide +kernel
theorem dL_law_898 : decode cL_law 898 = .ok (.iaload, 1) := by decide +kernel
theorem dL_law_899 : decode cL_law 899 = .ok (.aload_n 0, 1) := by decide +kernel
theorem dL_law_900 : decode cL_law 900 = .ok (.iload_n 3, 1) := by decide +kernel
theorem dL_law_901 : decode cL_law 901 = .ok (.iconst 3, 1) := by decide +kernel
theorem dL_law_902 : decode cL_law 902 = .ok (.iadd, 1) := by decide +kernel
theorem dL_law_903 : decode cL_law 903 = .ok (.iaload, 1) := by decide +kernel
theorem dL_law_904 : decode cL_law 904 = .ok (.invokevirtual 126, 3) := by decide +kernel
theorem dL_law_907 : decode cL_law 907 = .ok (.aload_n 2, 1) := by decide +kernel
theorem dL_law_908 : decode cL_law 908 = .ok (.aload_n 0, 1) := by decide +kernel
theorem dL_law_909 : decode cL_law 909 = .ok (.iload_n 3, 1) := by decide +kernel
theorem dL_law_910 : decode cL_law 910 = .ok (.iconst 1, 1) := by decide +kernel
theorem dL_law_911 : decode cL_law 911 = .ok (.iadd, 1) := by decide +kernel
theorem dL_law_912 : decode cL_law 912 = .ok (.iaload, 1) := by decide +kernel
theorem dL_law_913 : decode cL_law 913 = .ok (.aload_n 0, 1) := by decide +kernel
theorem dL_law_914 : decode cL_law 914 = .ok (.iload_n 3, 1) := by decide +kernel
theorem dL_law_915 : decode cL_law 915 = .ok (.iconst 2, 1) := by decide +kernel
theorem dL_law_916 : decode cL_law 916 = .ok (.iadd, 1) := by decide +kernel
theorem dL_law_917 : decode cL_law 917 = .ok (.iaload, 1) := by decide +kernel
theorem dL_law_918 : decode cL_law 918 = .ok (.aload_n 0, 1) := by decide +kernel
theorem dL_law_919 : decode cL_law 919 = .ok (.iload_n 3, 1) := by decide +kernel
theorem dL_law_920 : decode cL_law 920 = .ok (.iconst 3, 1) := by decide +kernel
theorem dL_law_921 : decode cL_law 921 = .ok (.iadd, 1) := by decide +kernel
theorem dL_law_922 : decode cL_law 922 = .ok (.iaload, 1) := by decide +kernel
theorem dL_law_923 : decode cL_law 923 = .ok (.invokevirtual 129, 3) := by decide +kernel
theorem dL_law_926 : decode cL_law 926 = .ok (.if_icmp .eq 197, 3) := by decide +kernel
theorem dL_law_929 : decode cL_law 929 = .ok (.iconst 0, 1) := by decide +kernel
theorem dL_law_930 : decode cL_law 930 = .ok (.ireturn, 1) := by decide +kernel
theorem dL_law_931 : decode cL_law 931 = .ok (.aload_n 1, 1) := by decide +kernel
theorem dL_law_932 : decode cL_law 932 = .ok (.aload_n 0, 1) := by decide +kernel
theorem dL_law_933 : decode cL_law 933 = .ok (.iload_n 3, 1) := by decide +kernel
theorem dL_law_934 : decode cL_law 934 = .ok (.iconst 1, 1) := by decide +kernel
theorem dL_law_935 : decode cL_law 935 = .ok (.iadd, 1) := by decide +kernel
theorem dL_law_936 : decode cL_law 936 = .ok (.iaload, 1) := by decide +kernel
theorem dL_law_937 : decode cL_law 937 = .ok (.aload_n 0, 1) := by decide +kernel
theorem dL_law_938 : decode cL_law 938 = .ok (.iload_n 3, 1) := by decide +kernel
theorem dL_law_939 : decode cL_law 939 = .ok (.iconst 2, 1) := by decide +kernel
theorem dL_law_940 : decode cL_law 940 = .ok (.iadd, 1) := by decide +kernel
theorem dL_law_941 : decode cL_law 941 = .ok (.iaload, 1) := by decide +kernel
theorem dL_law_942 : decode cL_law 942 = .ok (.aload_n 0, 1) := by decide +kernel
theorem dL_law_943 : decode cL_law 943 = .ok (.iload_n 3, 1) := by decide +kernel
theorem dL_law_944 : decode cL_law 944 = .ok (.iconst 3, 1) := by decide +kernel
theorem dL_law_945 : decode cL_law 945 = .ok (.iadd, 1) := by decide +kernel
theorem dL_law_946 : decode cL_law 946 = .ok (.iaload, 1) := by decide +kernel
theorem dL_law_947 : decode cL_law 947 = .ok (.invokevirtual 130, 3) := by decide +kernel
theorem dL_law_950 : decode cL_law 950 = .ok (.aload_n 2, 1) := by decide +kernel
theorem dL_law_951 : decode cL_law 951 = .ok (.aload_n 0, 1) := by decide +kernel
theorem dL_law_952 : decode cL_law 952 = .ok (.iload_n 3, 1) := by decide +kernel
theorem dL_law_953 : decode cL_law 953 = .ok (.iconst 1, 1) := by decide +kernel
theorem dL_law_954 : decode cL_law 954 = .ok (.iadd, 1) := by decide +kernel
theorem dL_law_955 : decode cL_law 955 = .ok (.iaload, 1) := by decide +kernel
theorem dL_law_956 : decode cL_law 956 = .ok (.aload_n 0, 1) := by decide +kernel
theorem dL_law_957 : decode cL_law 957 = .ok (.iload_n 3, 1) := by decide +kernel
theorem dL_law_958 : decode cL_law 958 = .ok (.iconst 2, 1) := by decide +kernel
theorem dL_law_959 : decode cL_law 959 = .ok (.iadd, 1) := by decide +kernel
theorem dL_law_960 : decode cL_law 960 = .ok (.iaload, 1) := by decide +kernel
theorem dL_law_961 : decode cL_law 961 = .ok (.aload_n 0, 1) := by decide +kernel
theorem dL_law_962 : decode cL_law 962 = .ok (.iload_n 3, 1) := by decide +kernel
theorem dL_law_963 : decode cL_law 963 = .ok (.iconst 3, 1) := by decide +kernel
theorem dL_law_964 : decode cL_law 964 = .ok (.iadd, 1) := by decide +kernel
theorem dL_law_965 : decode cL_law 965 = .ok (.iaload, 1) := by decide +kernel
theorem dL_law_966 : decode cL_law 966 = .ok (.invokevirtual 133, 3) := by decide +kernel
theorem dL_law_969 : decode cL_law 969 = .ok (.if_icmp .eq 154, 3) := by decide +kernel
theorem dL_law_972 : decode cL_law 972 = .ok (.iconst 0, 1) := by decide +kernel
theorem dL_law_973 : decode cL_law 973 = .ok (.ireturn, 1) := by decide +kernel
theorem dL_law_974 : decode cL_law 974 = .ok (.aload_n 1, 1) := by decide +kernel
theorem dL_law_975 : decode cL_law 975 = .ok (.aload_n 0, 1) := by decide +kernel
theorem dL_law_976 : decode cL_law 976 = .ok (.iload_n 3, 1) := by decide +kernel
theorem dL_law_977 : decode cL_law 977 = .ok (.iconst 1, 1) := by decide +kernel
theorem dL_law_978 : decode cL_law 978 = .ok (.iadd, 1) := by decide +kernel
theorem dL_law_979 : decode cL_law 979 = .ok (.iaload, 1) := by decide +kernel
theorem dL_law_980 : decode cL_law 980 = .ok (.aload_n 0, 1) := by decide +kernel
theorem dL_law_981 : decode cL_law 981 = .ok (.iload_n 3, 1) := by decide +kernel
theorem dL_law_982 : decode cL_law 982 = .ok (.iconst 2, 1) := by decide +kernel
theorem dL_law_983 : decode cL_law 983 = .ok (.iadd, 1) := by decide +kernel
theorem dL_law_984 : decode cL_law 984 = .ok (.iaload, 1) := by decide +kernel
theorem dL_law_985 : decode cL_law 985 = .ok (.aload_n 0, 1) := by decide +kernel
theorem dL_law_986 : decode cL_law 986 = .ok (.iload_n 3, 1) := by decide +kernel
theorem dL_law_987 : decode cL_law 987 = .ok (.iconst 3, 1) := by decide +kernel
theorem dL_law_988 : decode cL_law 988 = .ok (.iadd, 1) := by decide +kernel
theorem dL_law_989 : decode cL_law 989 = .ok (.iaload, 1) := by decide +kernel
theorem dL_law_990 : decode cL_law 990 = .ok (.aload_n 0, 1) := by decide +kernel
theorem dL_law_991 : decode cL_law 991 = .ok (.iload_n 3, 1) := by decide +kernel
theorem dL_law_992 : decode cL_law 992 = .ok (.iconst 4, 1) := by decide +kernel
theorem dL_law_993 : decode cL_law 993 = .ok (.iadd, 1) := by decide +kernel
theorem dL_law_994 : decode cL_law 994 = .ok (.iaload, 1) := by decide +kernel
theorem dL_law_995 : decode cL_law 995 = .ok (.aload_n 0, 1) := by decide +kernel
theorem dL_law_996 : decode cL_law 996 = .ok (.iload_n 3, 1) := by decide +kernel
theorem dL_law_997 : decode cL_law 997 = .ok (.iconst 5, 1) := by decide +kernel
theorem dL_law_998 : decode cL_law 998 = .ok (.iadd, 1) := by decide +kernel
theorem dL_law_999 : decode cL_law 999 = .ok (.iaload, 1) := by decide +kernel
theorem dL_law_1000 : decode cL_law 1000 = .ok (.invokevirtual 134, 3) := by decide +kernel
theorem dL_law_1003 : decode cL_law 1003 = .ok (.aload_n 2, 1) := by decide +kernel
theorem dL_law_1004 : decode cL_law 1004 = .ok (.aload_n 0, 1) := by decide +kernel
theorem dL_law_1005 : decode cL_law 1005 = .ok (.iload_n 3, 1) := by decide +kernel
theorem dL_law_1006 : decode cL_law 1006 = .ok (.iconst 1, 1) := by decide +kernel
theorem dL_law_1007 : decode cL_law 1007 = .ok (.iadd, 1) := by decide +kernel
theorem dL_law_1008 : decode cL_law 1008 = .ok (.iaload, 1) := by decide +kernel
theorem dL_law_1009 : decode cL_law 1009 = .ok (.aload_n 0, 1) := by decide +kernel
theorem dL_law_1010 : decode cL_law 1010 = .ok (.iload_n 3, 1) := by decide +kernel
theorem dL_law_1011 : decode cL_law 1011 = .ok (.iconst 2, 1) := by decide +kernel
theorem dL_law_1012 : decode cL_law 1012 = .ok (.iadd, 1) := by decide +kernel
theorem dL_law_1013 : decode cL_law 1013 = .ok (.iaload, 1) := by decide +kernel
theorem dL_law_1014 : decode cL_law 1014 = .ok (.aload_n 0, 1) := by decide +kernel
theorem dL_law_1015 : decode cL_law 1015 = .ok (.iload_n 3, 1) := by decide +kernel
theorem dL_law_1016 : decode cL_law 1016 = .ok (.iconst 3, 1) := by decide +kernel
theorem dL_law_1017 : decode cL_law 1017 = .ok (.iadd, 1) := by decide +kernel
theorem dL_law_1018 : decode cL_law 1018 = .ok (.iaload, 1) := by decide +kernel
theorem dL_law_1019 : decode cL_law 1019 = .ok (.aload_n 0, 1) := by decide +kernel
theorem dL_law_1020 : decode cL_law 1020 = .ok (.iload_n 3, 1) := by decide +kernel
theorem dL_law_1021 : decode cL_law 1021 = .ok (.iconst 4, 1) := by decide +kernel
theorem dL_law_1022 : decode cL_law 1022 = .ok (.iadd, 1) := by decide +kernel
theorem dL_law_1023 : decode cL_law 1023 = .ok (.iaload, 1) := by decide +kernel
theorem dL_law_1024 : decode cL_law 1024 = .ok (.aload_n 0, 1) := by decide +kernel
theorem dL_law_1025 : decode cL_law 1025 = .ok (.iload_n 3, 1) := by decide +kernel
theorem dL_law_1026 : decode cL_law 1026 = .ok (.iconst 5, 1) := by decide +kernel
theorem dL_law_1027 : decode cL_law 1027 = .ok (.iadd, 1) := by decide +kernel
theorem dL_law_1028 : decode cL_law 1028 = .ok (.iaload, 1) := by decide +kernel
theorem dL_law_1029 : decode cL_law 1029 = .ok (.invokevirtual 138, 3) := by decide +kernel
theorem dL_law_1032 : decode cL_law 1032 = .ok (.if_icmp .eq 91, 3) := by decide +kernel
theorem dL_law_1035 : decode cL_law 1035 = .ok (.iconst 0, 1) := by decide +kernel
theorem dL_law_1036 : decode cL_law 1036 = .ok (.ireturn, 1) := by decide +kernel
theorem dL_law_1037 : decode cL_law 1037 = .ok (.aload_n 1, 1) := by decide +kernel
theorem dL_law_1038 : decode cL_law 1038 = .ok (.aload_n 0, 1) := by decide +kernel
theorem dL_law_1039 : decode cL_law 1039 = .ok (.iload_n 3, 1) := by decide +kernel
theorem dL_law_1040 : decode cL_law 1040 = .ok (.iconst 1, 1) := by decide +kernel
theorem dL_law_1041 : decode cL_law 1041 = .ok (.iadd, 1) := by decide +kernel
theorem dL_law_1042 : decode cL_law 1042 = .ok (.iaload, 1) := by decide +kernel
theorem dL_law_1043 : decode cL_law 1043 = .ok (.aload_n 0, 1) := by decide +kernel
theorem dL_law_1044 : decode cL_law 1044 = .ok (.iload_n 3, 1) := by decide +kernel
theorem dL_law_1045 : decode cL_law 1045 = .ok (.iconst 2, 1) := by decide +kernel
theorem dL_law_1046 : decode cL_law 1046 = .ok (.iadd, 1) := by decide +kernel
theorem dL_law_1047 : decode cL_law 1047 = .ok (.iaload, 1) := by decide +kernel
theorem dL_law_1048 : decode cL_law 1048 = .ok (.aload_n 0, 1) := by decide +kernel
theorem dL_law_1049 : decode cL_law 1049 = .ok (.iload_n 3, 1) := by decide +kernel
theorem dL_law_1050 : decode cL_law 1050 = .ok (.iconst 3, 1) := by decide +kernel
theorem dL_law_1051 : decode cL_law 1051 = .ok (.iadd, 1) := by decide +kernel
theorem dL_law_1052 : decode cL_law 1052 = .ok (.iaload, 1) := by decide +kernel
theorem dL_law_1053 : decode cL_law 1053 = .ok (.aload_n 0, 1) := by decide +kernel
theorem dL_law_1054 : decode cL_law 1054 = .ok (.iload_n 3, 1) := by decide +kernel
theorem dL_law_1055 : decode cL_law 1055 = .ok (.iconst 4, 1) := by decide +kernel
theorem dL_law_1056 : decode cL_law 1056 = .ok (.iadd, 1) := by decide +kernel
theorem dL_law_1057 : decode cL_law 1057 = .ok (.iaload, 1) := by decide +kernel
theorem dL_law_1058 : decode cL_law 1058 = .ok (.invokevirtual 139, 3) := by decide +kernel
theorem dL_law_1061 : decode cL_law 1061 = .ok (.aload_n 2, 1) := by decide +kernel
theorem dL_law_1062 : decode cL_law 1062 = .ok (.aload_n 0, 1) := by decide +kernel
theorem dL_law_1063 : decode cL_law 1063 = .ok (.iload_n 3, 1) := by decide +kernel
theorem dL_law_1064 : decode cL_law 1064 = .ok (.iconst 1, 1) := by decide +kernel
theorem dL_law_1065 : decode cL_law 1065 = .ok (.iadd, 1) := by decide +kernel
theorem dL_law_1066 : decode cL_law 1066 = .ok (.iaload, 1) := by decide +kernel
theorem dL_law_1067 : decode cL_law 1067 = .ok (.aload_n 0, 1) := by decide +kernel
theorem dL_law_1068 : decode cL_law 1068 = .ok (.iload_n 3, 1) := by decide +kernel
theorem dL_law_1069 : decode cL_law 1069 = .ok (.iconst 2, 1) := by decide +kernel
theorem dL_law_1070 : decode cL_law 1070 = .ok (.iadd, 1) := by decide +kernel
theorem dL_law_1071 : decode cL_law 1071 = .ok (.iaload, 1) := by decide +kernel
theorem dL_law_1072 : decode cL_law 1072 = .ok (.aload_n 0, 1) := by decide +kernel
theorem dL_law_1073 : decode cL_law 1073 = .ok (.iload_n 3, 1) := by decide +kernel
theorem dL_law_1074 : decode cL_law 1074 = .ok (.iconst 3, 1) := by decide +kernel
theorem dL_law_1075 : decode cL_law 1075 = .ok (.iadd, 1) := by decide +kernel
theorem dL_law_1076 : decode cL_law 1076 = .ok (.iaload, 1) := by decide +kernel
theorem dL_law_1077 : decode cL_law 1077 = .ok (.aload_n 0, 1) := by decide +kernel
theorem dL_law_1078 : decode cL_law 1078 = .ok (.iload_n 3, 1) := by decide +kernel
theorem dL_law_1079 : decode cL_law 1079 = .ok (.iconst 4, 1) := by decide +kernel
theorem dL_law_1080 : decode cL_law 1080 = .ok (.iadd, 1) := by decide +kernel
theorem dL_law_1081 : decode cL_law 1081 = .ok (.iaload, 1) := by decide +kernel
theorem dL_law_1082 : decode cL_law 1082 = .ok (.invokevirtual 143, 3) := by decide +kernel
theorem dL_law_1085 : decode cL_law 1085 = .ok (.if_icmp .eq 38, 3) := by decide +kernel
theorem dL_law_1088 : decode cL_law 1088 = .ok (.iconst 0, 1) := by decide +kernel
theorem dL_law_1089 : decode cL_law 1089 = .ok (.ireturn, 1) := by decide +kernel
theorem dL_law_1090 : decode cL_law 1090 = .ok (.aload_n 1, 1) := by decide +kernel
theorem dL_law_1091 : decode cL_law 1091 = .ok (.aload_n 0, 1) := by decide +kernel
theorem dL_law_1092 : decode cL_law 1092 = .ok (.iload_n 3, 1) := by decide +kernel
theorem dL_law_1093 : decode cL_law 1093 = .ok (.iconst 1, 1) := by decide +kernel
theorem dL_law_1094 : decode cL_law 1094 = .ok (.iadd, 1) := by decide +kernel
theorem dL_law_1095 : decode cL_law 1095 = .ok (.iaload, 1) := by decide +kernel
theorem dL_law_1096 : decode cL_law 1096 = .ok (.aload_n 0, 1) := by decide +kernel
theorem dL_law_1097 : decode cL_law 1097 = .ok (.iload_n 3, 1) := by decide +kernel
theorem dL_law_1098 : decode cL_law 1098 = .ok (.iconst 2, 1) := by decide +kernel
theorem dL_law_1099 : decode cL_law 1099 = .ok (.iadd, 1) := by decide +kernel
theorem dL_law_1100 : decode cL_law 1100 = .ok (.iaload, 1) := by decide +kernel
theorem dL_law_1101 : decode cL_law 1101 = .ok (.invokevirtual 144, 3) := by decide +kernel
theorem dL_law_1104 : decode cL_law 1104 = .ok (.aload_n 2, 1) := by decide +kernel
theorem dL_law_1105 : decode cL_law 1105 = .ok (.aload_n 0, 1) := by decide +kernel
theorem dL_law_1106 : decode cL_law 1106 = .ok (.iload_n 3, 1) := by decide +kernel
theorem dL_law_1107 : decode cL_law 1107 = .ok (.iconst 1, 1) := by decide +kernel
theorem dL_law_1108 : decode cL_law 1108 = .ok (.iadd, 1) := by decide +kernel
theorem dL_law_1109 : decode cL_law 1109 = .ok (.iaload, 1) := by decide +kernel
theorem dL_law_1110 : decode cL_law 1110 = .ok (.aload_n 0, 1) := by decide +kernel
theorem dL_law_1111 : decode cL_law 1111 = .ok (.iload_n 3, 1) := by decide +kernel
theorem dL_law_1112 : decode cL_law 1112 = .ok (.iconst 2, 1) := by decide +kernel
theorem dL_law_1113 : decode cL_law 1113 = .ok (.iadd, 1) := by decide +kernel
theorem dL_law_1114 : decode cL_law 1114 = .ok (.iaload, 1) := by decide +kernel
theorem dL_law_1115 : decode cL_law 1115 = .ok (.invokevirtual 147, 3) := by decide +kernel
theorem dL_law_1118 : decode cL_law 1118 = .ok (.if_icmp .eq 5, 3) := by decide +kernel
theorem dL_law_1121 : decode cL_law 1121 = .ok (.iconst 0, 1) := by decide +kernel
theorem dL_law_1122 : decode cL_law 1122 = .ok (.ireturn, 1) := by decide +kernel
theorem dL_law_1123 : decode cL_law 1123 = .ok (.iinc 3 6, 3) := by decide +kernel
theorem dL_law_1126 : decode cL_law 1126 = .ok (.goto (-1108), 3) := by decide +kernel
theorem dL_law_1129 : decode cL_law 1129 = .ok (.iconst 1, 1) := by decide +kernel
theorem dL_law_1130 : decode cL_law 1130 = .ok (.ireturn, 1) := by decide +kernel
