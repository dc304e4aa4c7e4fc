theorem tw_0 : Cond.methodLink "GreaterPlatesModel" 7 ⟨"GreaterPlatesModel", "isIn", "(III)Z"⟩ ∈ TB := TB_of 905 (by decide +kernel) (by decide +kernel)
theorem tw_1 : Cond.code ⟨"GreaterPlatesModel", "isIn", "(III)Z"⟩ prog_14_method_1_code 3 (Option.some Jvm.ClassFile.FieldType.boolean) ∈ TB := TB_of 907 (by decide +kernel) (by decide +kernel)
theorem tw_2 : Cond.initialized "GreaterPlatesModel" ∈ TB := TB_of 88 (by decide +kernel) (by decide +kernel)
theorem tw_3 : Cond.static ⟨"GreaterPlatesModel", "isIn", "(III)Z"⟩ ∈ TB := TB_of 906 (by decide +kernel) (by decide +kernel)
theorem tw_4 : Cond.fieldLink "GreaterPlatesModel" 1 "GreaterPlatesModel" "plates" "I" ∈ TB := TB_of 1023 (by decide +kernel) (by decide +kernel)
theorem tw_5 : Cond.fieldLink "GreaterPlatesModel" 11 "GreaterPlatesModel" "layers" "I" ∈ TB := TB_of 1026 (by decide +kernel) (by decide +kernel)
theorem tw_6 : Cond.fieldLink "GreaterPlatesModel" 18 "GreaterPlatesModel" "depth" "[I" ∈ TB := TB_of 1025 (by decide +kernel) (by decide +kernel)
theorem tw_7 : Cond.fieldLink "GreaterPlatesModel" 14 "GreaterPlatesModel" "size" "[I" ∈ TB := TB_of 1024 (by decide +kernel) (by decide +kernel)
theorem tw_8 : Cond.fieldLink "GreaterPlatesModel" 24 "GreaterPlatesModel" "number" "[I" ∈ TB := TB_of 1028 (by decide +kernel) (by decide +kernel)
theorem tw_9 : Cond.fieldLink "GreaterPlatesModel" 21 "GreaterPlatesModel" "kind" "[I" ∈ TB := TB_of 1027 (by decide +kernel) (by decide +kernel)
theorem tw_10 : Cond.methodLink "GreaterPlatesModel" 27 ⟨"GreaterPlatesModel", "isPlate", "(I)Z"⟩ ∈ TB := TB_of 916 (by decide +kernel) (by decide +kernel)
theorem tw_11 : Cond.code ⟨"GreaterPlatesModel", "isPlate", "(I)Z"⟩ prog_14_method_2_code 2 (Option.some Jvm.ClassFile.FieldType.boolean) ∈ TB := TB_of 920 (by decide +kernel) (by decide +kernel)
theorem tw_12 : Cond.instanceMethod ⟨"GreaterPlatesModel", "isPlate", "(I)Z"⟩ ∈ TB := TB_of 918 (by decide +kernel) (by decide +kernel)
theorem tw_13 : Cond.selects "GreaterPlatesModel" ⟨"GreaterPlatesModel", "isPlate", "(I)Z"⟩ ⟨"GreaterPlatesModel", "isPlate", "(I)Z"⟩ ∈ TB := TB_of 39 (by decide +kernel) (by decide +kernel)
theorem tw_14 : Cond.fieldLink "GreaterPlatesModel" 31 "GreaterPlatesModel" "highest" "I" ∈ TB := TB_of 1029 (by decide +kernel) (by decide +kernel)
theorem tw_15 : Cond.methodLink "GreaterPlatesModel" 34 ⟨"GreaterPlatesModel", "isLayer", "(I)Z"⟩ ∈ TB := TB_of 925 (by decide +kernel) (by decide +kernel)
theorem tw_16 : Cond.code ⟨"GreaterPlatesModel", "isLayer", "(I)Z"⟩ prog_14_method_3_code 2 (Option.some Jvm.ClassFile.FieldType.boolean) ∈ TB := TB_of 928 (by decide +kernel) (by decide +kernel)
theorem tw_17 : Cond.instanceMethod ⟨"GreaterPlatesModel", "isLayer", "(I)Z"⟩ ∈ TB := TB_of 927 (by decide +kernel) (by decide +kernel)
theorem tw_18 : Cond.selects "GreaterPlatesModel" ⟨"GreaterPlatesModel", "isLayer", "(I)Z"⟩ ⟨"GreaterPlatesModel", "isLayer", "(I)Z"⟩ ∈ TB := TB_of 40 (by decide +kernel) (by decide +kernel)
theorem tw_19 : Cond.methodLink "GreaterPlatesModel" 37 ⟨"GreaterPlatesModel", "name", "(IIIII)V"⟩ ∈ TB := TB_of 929 (by decide +kernel) (by decide +kernel)
theorem tw_20 : Cond.fieldLink "GreaterPlatesModel" 167 "GreaterPlatesModel" "names" "[I" ∈ TB := TB_of 1050 (by decide +kernel) (by decide +kernel)
theorem tw_21 : Cond.methodLink "GreaterPlatesModel" 41 ⟨"GreaterPlatesModel", "worthOf", "(I)I"⟩ ∈ TB := TB_of 933 (by decide +kernel) (by decide +kernel)
theorem tw_22 : Cond.fieldLink "GreaterPlatesModel" 156 "GreaterPlatesModel" "rule" "I" ∈ TB := TB_of 1033 (by decide +kernel) (by decide +kernel)
theorem tw_23 : Cond.fieldLink "GreaterPlatesModel" 164 "GreaterPlatesModel" "stack" "[I" ∈ TB := TB_of 1049 (by decide +kernel) (by decide +kernel)
theorem tw_24 : Cond.methodLink "GreaterPlatesModel" 221 ⟨"GreaterPlatesModel", "done", "(III)I"⟩ ∈ TB := TB_of 937 (by decide +kernel) (by decide +kernel)
theorem tw_25 : Cond.code ⟨"GreaterPlatesModel", "done", "(III)I"⟩ prog_14_method_28_code 3 (Option.some Jvm.ClassFile.FieldType.int) ∈ TB := TB_of 939 (by decide +kernel) (by decide +kernel)
theorem tw_26 : Cond.static ⟨"GreaterPlatesModel", "done", "(III)I"⟩ ∈ TB := TB_of 938 (by decide +kernel) (by decide +kernel)
theorem tw_27 : Cond.fieldLink "GreaterPlatesModel" 86 "GreaterPlatesModel" "codes" "[I" ∈ TB := TB_of 1034 (by decide +kernel) (by decide +kernel)
theorem tw_28 : Cond.fieldLink "GreaterPlatesModel" 134 "GreaterPlatesModel" "codeMany" "[I" ∈ TB := TB_of 1035 (by decide +kernel) (by decide +kernel)
theorem tw_29 : Cond.methodLink "GreaterPlatesModel" 45 ⟨"GreaterPlatesModel", "bound", "(I)I"⟩ ∈ TB := TB_of 940 (by decide +kernel) (by decide +kernel)
theorem tw_30 : Cond.code ⟨"GreaterPlatesModel", "bound", "(I)I"⟩ prog_14_method_31_code 1 (Option.some Jvm.ClassFile.FieldType.int) ∈ TB := TB_of 942 (by decide +kernel) (by decide +kernel)
theorem tw_31 : Cond.static ⟨"GreaterPlatesModel", "bound", "(I)I"⟩ ∈ TB := TB_of 941 (by decide +kernel) (by decide +kernel)
theorem tw_32 : Cond.code ⟨"GreaterPlatesModel", "worthOf", "(I)I"⟩ prog_14_method_29_code 6 (Option.some Jvm.ClassFile.FieldType.int) ∈ TB := TB_of 936 (by decide +kernel) (by decide +kernel)
theorem tw_33 : Cond.instanceMethod ⟨"GreaterPlatesModel", "worthOf", "(I)I"⟩ ∈ TB := TB_of 935 (by decide +kernel) (by decide +kernel)
theorem tw_34 : Cond.selects "GreaterPlatesModel" ⟨"GreaterPlatesModel", "worthOf", "(I)I"⟩ ⟨"GreaterPlatesModel", "worthOf", "(I)I"⟩ ∈ TB := TB_of 42 (by decide +kernel) (by decide +kernel)
theorem tw_35 : Cond.code ⟨"GreaterPlatesModel", "name", "(IIIII)V"⟩ prog_14_method_30_code 6 none ∈ TB := TB_of 932 (by decide +kernel) (by decide +kernel)
theorem tw_36 : Cond.instanceMethod ⟨"GreaterPlatesModel", "name", "(IIIII)V"⟩ ∈ TB := TB_of 931 (by decide +kernel) (by decide +kernel)
theorem tw_37 : Cond.selects "GreaterPlatesModel" ⟨"GreaterPlatesModel", "name", "(IIIII)V"⟩ ⟨"GreaterPlatesModel", "name", "(IIIII)V"⟩ ∈ TB := TB_of 41 (by decide +kernel) (by decide +kernel)
theorem tw_38 : Cond.fieldLink "GreaterPlatesModel" 48 "GreaterPlatesModel" "taped" "I" ∈ TB := TB_of 1031 (by decide +kernel) (by decide +kernel)
theorem tw_39 : Cond.fieldLink "GreaterPlatesModel" 51 "GreaterPlatesModel" "tape" "[I" ∈ TB := TB_of 1030 (by decide +kernel) (by decide +kernel)
theorem tw_40 : Cond.methodLink "GreaterPlatesModel" 57 ⟨"GreaterPlatesModel", "isLetter", "(I)Z"⟩ ∈ TB := TB_of 959 (by decide +kernel) (by decide +kernel)
theorem tw_41 : Cond.fieldLink "GreaterPlatesModel" 60 "GreaterPlatesModel" "token" "I" ∈ TB := TB_of 1037 (by decide +kernel) (by decide +kernel)
theorem tw_42 : Cond.fieldLink "GreaterPlatesModel" 54 "GreaterPlatesModel" "at" "I" ∈ TB := TB_of 1036 (by decide +kernel) (by decide +kernel)
theorem tw_43 : Cond.code ⟨"GreaterPlatesModel", "isLetter", "(I)Z"⟩ prog_14_method_9_code 2 (Option.some Jvm.ClassFile.FieldType.boolean) ∈ TB := TB_of 962 (by decide +kernel) (by decide +kernel)
theorem tw_44 : Cond.instanceMethod ⟨"GreaterPlatesModel", "isLetter", "(I)Z"⟩ ∈ TB := TB_of 961 (by decide +kernel) (by decide +kernel)
theorem tw_45 : Cond.selects "GreaterPlatesModel" ⟨"GreaterPlatesModel", "isLetter", "(I)Z"⟩ ⟨"GreaterPlatesModel", "isLetter", "(I)Z"⟩ ∈ TB := TB_of 45 (by decide +kernel) (by decide +kernel)
theorem tw_46 : Cond.fieldLink "GreaterPlatesModel" 66 "GreaterPlatesModel" "place" "I" ∈ TB := TB_of 1039 (by decide +kernel) (by decide +kernel)
theorem tw_47 : Cond.fieldLink "GreaterPlatesModel" 63 "GreaterPlatesModel" "begins" "[I" ∈ TB := TB_of 1041 (by decide +kernel) (by decide +kernel)
theorem tw_48 : Cond.fieldLink "GreaterPlatesModel" 69 "GreaterPlatesModel" "letters" "[C" ∈ TB := TB_of 1040 (by decide +kernel) (by decide +kernel)
theorem tw_49 : Cond.fieldLink "GreaterPlatesModel" 73 "GreaterPlatesModel" "worth" "I" ∈ TB := TB_of 1038 (by decide +kernel) (by decide +kernel)
theorem tw_50 : Cond.methodLink "GreaterPlatesModel" 76 ⟨"GreaterPlatesModel", "isDigit", "(I)Z"⟩ ∈ TB := TB_of 967 (by decide +kernel) (by decide +kernel)
theorem tw_51 : Cond.code ⟨"GreaterPlatesModel", "isDigit", "(I)Z"⟩ prog_14_method_10_code 2 (Option.some Jvm.ClassFile.FieldType.boolean) ∈ TB := TB_of 970 (by decide +kernel) (by decide +kernel)
theorem tw_52 : Cond.instanceMethod ⟨"GreaterPlatesModel", "isDigit", "(I)Z"⟩ ∈ TB := TB_of 969 (by decide +kernel) (by decide +kernel)
theorem tw_53 : Cond.selects "GreaterPlatesModel" ⟨"GreaterPlatesModel", "isDigit", "(I)Z"⟩ ⟨"GreaterPlatesModel", "isDigit", "(I)Z"⟩ ∈ TB := TB_of 47 (by decide +kernel) (by decide +kernel)
theorem tw_54 : Cond.methodLink "GreaterPlatesModel" 83 ⟨"GreaterPlatesModel", "readNumber", "()V"⟩ ∈ TB := TB_of 971 (by decide +kernel) (by decide +kernel)
theorem tw_55 : Cond.code ⟨"GreaterPlatesModel", "readNumber", "()V"⟩ prog_14_method_12_code 1 none ∈ TB := TB_of 974 (by decide +kernel) (by decide +kernel)
theorem tw_56 : Cond.instanceMethod ⟨"GreaterPlatesModel", "readNumber", "()V"⟩ ∈ TB := TB_of 973 (by decide +kernel) (by decide +kernel)
theorem tw_57 : Cond.selects "GreaterPlatesModel" ⟨"GreaterPlatesModel", "readNumber", "()V"⟩ ⟨"GreaterPlatesModel", "readNumber", "()V"⟩ ∈ TB := TB_of 48 (by decide +kernel) (by decide +kernel)
theorem tw_58 : Cond.methodLink "GreaterPlatesModel" 79 ⟨"GreaterPlatesModel", "readWord", "()V"⟩ ∈ TB := TB_of 963 (by decide +kernel) (by decide +kernel)
theorem tw_59 : Cond.code ⟨"GreaterPlatesModel", "readWord", "()V"⟩ prog_14_method_11_code 5 none ∈ TB := TB_of 966 (by decide +kernel) (by decide +kernel)
theorem tw_60 : Cond.instanceMethod ⟨"GreaterPlatesModel", "readWord", "()V"⟩ ∈ TB := TB_of 965 (by decide +kernel) (by decide +kernel)
theorem tw_61 : Cond.selects "GreaterPlatesModel" ⟨"GreaterPlatesModel", "readWord", "()V"⟩ ⟨"GreaterPlatesModel", "readWord", "()V"⟩ ∈ TB := TB_of 46 (by decide +kernel) (by decide +kernel)
theorem tw_62 : Cond.fieldLink "GreaterPlatesModel" 92 "GreaterPlatesModel" "made" "I" ∈ TB := TB_of 1048 (by decide +kernel) (by decide +kernel)
theorem tw_63 : Cond.fieldLink "GreaterPlatesModel" 89 "GreaterPlatesModel" "codeAt" "I" ∈ TB := TB_of 1047 (by decide +kernel) (by decide +kernel)
theorem tw_64 : Cond.methodLink "GreaterPlatesModel" 101 ⟨"GreaterPlatesModel", "rank", "(I)I"⟩ ∈ TB := TB_of 991 (by decide +kernel) (by decide +kernel)
theorem tw_65 : Cond.fieldLink "GreaterPlatesModel" 95 "GreaterPlatesModel" "waiting" "I" ∈ TB := TB_of 1043 (by decide +kernel) (by decide +kernel)
theorem tw_66 : Cond.fieldLink "GreaterPlatesModel" 98 "GreaterPlatesModel" "waits" "[I" ∈ TB := TB_of 1042 (by decide +kernel) (by decide +kernel)
theorem tw_67 : Cond.fieldLink "GreaterPlatesModel" 104 "GreaterPlatesModel" "open" "I" ∈ TB := TB_of 1044 (by decide +kernel) (by decide +kernel)
theorem tw_68 : Cond.code ⟨"GreaterPlatesModel", "rank", "(I)I"⟩ prog_14_method_17_code 1 (Option.some Jvm.ClassFile.FieldType.int) ∈ TB := TB_of 993 (by decide +kernel) (by decide +kernel)
theorem tw_69 : Cond.static ⟨"GreaterPlatesModel", "rank", "(I)I"⟩ ∈ TB := TB_of 992 (by decide +kernel) (by decide +kernel)
theorem tw_70 : Cond.methodLink "GreaterPlatesModel" 107 ⟨"GreaterPlatesModel", "emit", "(I)V"⟩ ∈ TB := TB_of 983 (by decide +kernel) (by decide +kernel)
theorem tw_71 : Cond.code ⟨"GreaterPlatesModel", "emit", "(I)V"⟩ prog_14_method_16_code 2 none ∈ TB := TB_of 986 (by decide +kernel) (by decide +kernel)
theorem tw_72 : Cond.instanceMethod ⟨"GreaterPlatesModel", "emit", "(I)V"⟩ ∈ TB := TB_of 985 (by decide +kernel) (by decide +kernel)
theorem tw_73 : Cond.selects "GreaterPlatesModel" ⟨"GreaterPlatesModel", "emit", "(I)V"⟩ ⟨"GreaterPlatesModel", "emit", "(I)V"⟩ ∈ TB := TB_of 51 (by decide +kernel) (by decide +kernel)
theorem tw_74 : Cond.methodLink "GreaterPlatesModel" 111 ⟨"GreaterPlatesModel", "isSign", "(I)Z"⟩ ∈ TB := TB_of 994 (by decide +kernel) (by decide +kernel)
theorem tw_75 : Cond.methodLink "GreaterPlatesModel" 114 ⟨"GreaterPlatesModel", "isKey", "(I)Z"⟩ ∈ TB := TB_of 975 (by decide +kernel) (by decide +kernel)
theorem tw_76 : Cond.code ⟨"GreaterPlatesModel", "isKey", "(I)Z"⟩ prog_14_method_15_code 2 (Option.some Jvm.ClassFile.FieldType.boolean) ∈ TB := TB_of 978 (by decide +kernel) (by decide +kernel)
theorem tw_77 : Cond.instanceMethod ⟨"GreaterPlatesModel", "isKey", "(I)Z"⟩ ∈ TB := TB_of 977 (by decide +kernel) (by decide +kernel)
theorem tw_78 : Cond.selects "GreaterPlatesModel" ⟨"GreaterPlatesModel", "isKey", "(I)Z"⟩ ⟨"GreaterPlatesModel", "isKey", "(I)Z"⟩ ∈ TB := TB_of 49 (by decide +kernel) (by decide +kernel)
theorem tw_79 : Cond.code ⟨"GreaterPlatesModel", "isSign", "(I)Z"⟩ prog_14_method_14_code 2 (Option.some Jvm.ClassFile.FieldType.boolean) ∈ TB := TB_of 997 (by decide +kernel) (by decide +kernel)
theorem tw_80 : Cond.instanceMethod ⟨"GreaterPlatesModel", "isSign", "(I)Z"⟩ ∈ TB := TB_of 996 (by decide +kernel) (by decide +kernel)
theorem tw_81 : Cond.selects "GreaterPlatesModel" ⟨"GreaterPlatesModel", "isSign", "(I)Z"⟩ ⟨"GreaterPlatesModel", "isSign", "(I)Z"⟩ ∈ TB := TB_of 53 (by decide +kernel) (by decide +kernel)
theorem tw_82 : Cond.fieldLink "GreaterPlatesModel" 121 "GreaterPlatesModel" "nested" "I" ∈ TB := TB_of 1045 (by decide +kernel) (by decide +kernel)
theorem tw_83 : Cond.fieldLink "GreaterPlatesModel" 117 "GreaterPlatesModel" "compared" "[Z" ∈ TB := TB_of 1046 (by decide +kernel) (by decide +kernel)
theorem tw_84 : Cond.methodLink "GreaterPlatesModel" 124 ⟨"GreaterPlatesModel", "doAll", "(I)V"⟩ ∈ TB := TB_of 987 (by decide +kernel) (by decide +kernel)
theorem tw_85 : Cond.methodLink "GreaterPlatesModel" 127 ⟨"GreaterPlatesModel", "await", "(I)V"⟩ ∈ TB := TB_of 1002 (by decide +kernel) (by decide +kernel)
theorem tw_86 : Cond.code ⟨"GreaterPlatesModel", "await", "(I)V"⟩ prog_14_method_19_code 2 none ∈ TB := TB_of 1005 (by decide +kernel) (by decide +kernel)
theorem tw_87 : Cond.instanceMethod ⟨"GreaterPlatesModel", "await", "(I)V"⟩ ∈ TB := TB_of 1004 (by decide +kernel) (by decide +kernel)
theorem tw_88 : Cond.selects "GreaterPlatesModel" ⟨"GreaterPlatesModel", "await", "(I)V"⟩ ⟨"GreaterPlatesModel", "await", "(I)V"⟩ ∈ TB := TB_of 55 (by decide +kernel) (by decide +kernel)
theorem tw_89 : Cond.code ⟨"GreaterPlatesModel", "doAll", "(I)V"⟩ prog_14_method_18_code 2 none ∈ TB := TB_of 990 (by decide +kernel) (by decide +kernel)
theorem tw_90 : Cond.instanceMethod ⟨"GreaterPlatesModel", "doAll", "(I)V"⟩ ∈ TB := TB_of 989 (by decide +kernel) (by decide +kernel)
theorem tw_91 : Cond.selects "GreaterPlatesModel" ⟨"GreaterPlatesModel", "doAll", "(I)V"⟩ ⟨"GreaterPlatesModel", "doAll", "(I)V"⟩ ∈ TB := TB_of 52 (by decide +kernel) (by decide +kernel)
theorem tw_92 : Cond.methodLink "GreaterPlatesModel" 130 ⟨"GreaterPlatesModel", "ahead", "(Z)Z"⟩ ∈ TB := TB_of 998 (by decide +kernel) (by decide +kernel)
theorem tw_93 : Cond.code ⟨"GreaterPlatesModel", "ahead", "(Z)Z"⟩ prog_14_method_22_code 3 (Option.some Jvm.ClassFile.FieldType.boolean) ∈ TB := TB_of 1001 (by decide +kernel) (by decide +kernel)
theorem tw_94 : Cond.instanceMethod ⟨"GreaterPlatesModel", "ahead", "(Z)Z"⟩ ∈ TB := TB_of 1000 (by decide +kernel) (by decide +kernel)
theorem tw_95 : Cond.selects "GreaterPlatesModel" ⟨"GreaterPlatesModel", "ahead", "(Z)Z"⟩ ⟨"GreaterPlatesModel", "ahead", "(Z)Z"⟩ ∈ TB := TB_of 54 (by decide +kernel) (by decide +kernel)
theorem tw_96 : Cond.methodLink "GreaterPlatesModel" 137 ⟨"GreaterPlatesModel", "between", "()Z"⟩ ∈ TB := TB_of 1006 (by decide +kernel) (by decide +kernel)
theorem tw_97 : Cond.methodLink "GreaterPlatesModel" 141 ⟨"GreaterPlatesModel", "closes", "()Z"⟩ ∈ TB := TB_of 1010 (by decide +kernel) (by decide +kernel)
theorem tw_98 : Cond.code ⟨"GreaterPlatesModel", "closes", "()Z"⟩ prog_14_method_21_code 1 (Option.some Jvm.ClassFile.FieldType.boolean) ∈ TB := TB_of 1013 (by decide +kernel) (by decide +kernel)
theorem tw_99 : Cond.instanceMethod ⟨"GreaterPlatesModel", "closes", "()Z"⟩ ∈ TB := TB_of 1012 (by decide +kernel) (by decide +kernel)
theorem tw_100 : Cond.selects "GreaterPlatesModel" ⟨"GreaterPlatesModel", "closes", "()Z"⟩ ⟨"GreaterPlatesModel", "closes", "()Z"⟩ ∈ TB := TB_of 57 (by decide +kernel) (by decide +kernel)
theorem tw_101 : Cond.code ⟨"GreaterPlatesModel", "between", "()Z"⟩ prog_14_method_20_code 2 (Option.some Jvm.ClassFile.FieldType.boolean) ∈ TB := TB_of 1009 (by decide +kernel) (by decide +kernel)
theorem tw_102 : Cond.instanceMethod ⟨"GreaterPlatesModel", "between", "()Z"⟩ ∈ TB := TB_of 1008 (by decide +kernel) (by decide +kernel)
theorem tw_103 : Cond.selects "GreaterPlatesModel" ⟨"GreaterPlatesModel", "between", "()Z"⟩ ⟨"GreaterPlatesModel", "between", "()Z"⟩ ∈ TB := TB_of 56 (by decide +kernel) (by decide +kernel)
theorem tw_104 : Cond.methodLink "GreaterPlatesModel" 144 ⟨"GreaterPlatesModel", "next", "()V"⟩ ∈ TB := TB_of 955 (by decide +kernel) (by decide +kernel)
theorem tw_105 : Cond.code ⟨"GreaterPlatesModel", "next", "()V"⟩ prog_14_method_13_code 2 none ∈ TB := TB_of 958 (by decide +kernel) (by decide +kernel)
theorem tw_106 : Cond.instanceMethod ⟨"GreaterPlatesModel", "next", "()V"⟩ ∈ TB := TB_of 957 (by decide +kernel) (by decide +kernel)
theorem tw_107 : Cond.selects "GreaterPlatesModel" ⟨"GreaterPlatesModel", "next", "()V"⟩ ⟨"GreaterPlatesModel", "next", "()V"⟩ ∈ TB := TB_of 44 (by decide +kernel) (by decide +kernel)
theorem tw_108 : Cond.methodLink "GreaterPlatesModel" 147 ⟨"GreaterPlatesModel", "readE", "(I)Z"⟩ ∈ TB := TB_of 979 (by decide +kernel) (by decide +kernel)
theorem tw_109 : Cond.code ⟨"GreaterPlatesModel", "readE", "(I)Z"⟩ prog_14_method_23_code 5 (Option.some Jvm.ClassFile.FieldType.boolean) ∈ TB := TB_of 982 (by decide +kernel) (by decide +kernel)
theorem tw_110 : Cond.instanceMethod ⟨"GreaterPlatesModel", "readE", "(I)Z"⟩ ∈ TB := TB_of 981 (by decide +kernel) (by decide +kernel)
theorem tw_111 : Cond.selects "GreaterPlatesModel" ⟨"GreaterPlatesModel", "readE", "(I)Z"⟩ ⟨"GreaterPlatesModel", "readE", "(I)Z"⟩ ∈ TB := TB_of 50 (by decide +kernel) (by decide +kernel)
theorem tw_112 : Cond.methodLink "GreaterPlatesModel" 153 ⟨"GreaterPlatesModel", "readAll", "(I)I"⟩ ∈ TB := TB_of 951 (by decide +kernel) (by decide +kernel)
theorem tw_113 : Cond.fieldLink "GreaterPlatesModel" 150 "GreaterPlatesModel" "texts" "I" ∈ TB := TB_of 1032 (by decide +kernel) (by decide +kernel)
theorem tw_114 : Cond.code ⟨"GreaterPlatesModel", "readAll", "(I)I"⟩ prog_14_method_24_code 3 (Option.some Jvm.ClassFile.FieldType.int) ∈ TB := TB_of 954 (by decide +kernel) (by decide +kernel)
theorem tw_115 : Cond.instanceMethod ⟨"GreaterPlatesModel", "readAll", "(I)I"⟩ ∈ TB := TB_of 953 (by decide +kernel) (by decide +kernel)
theorem tw_116 : Cond.selects "GreaterPlatesModel" ⟨"GreaterPlatesModel", "readAll", "(I)I"⟩ ⟨"GreaterPlatesModel", "readAll", "(I)I"⟩ ∈ TB := TB_of 43 (by decide +kernel) (by decide +kernel)
theorem tw_117 : Cond.fieldLink "GreaterPlatesModel" 170 "GreaterPlatesModel" "on" "[I" ∈ TB := TB_of 1052 (by decide +kernel) (by decide +kernel)
theorem tw_118 : Cond.fieldLink "GreaterPlatesModel" 225 "GreaterPlatesModel" "heaps" "I" ∈ TB := TB_of 1051 (by decide +kernel) (by decide +kernel)
theorem tw_119 : Cond.fieldLink "GreaterPlatesModel" 173 "GreaterPlatesModel" "lies" "[I" ∈ TB := TB_of 1053 (by decide +kernel) (by decide +kernel)
theorem tw_120 : Cond.methodLink "GreaterPlatesModel" 228 ⟨"GreaterPlatesModel", "nameOn", "(II)V"⟩ ∈ TB := TB_of 1222 (by decide +kernel) (by decide +kernel)
theorem tw_121 : Cond.code ⟨"GreaterPlatesModel", "nameOn", "(II)V"⟩ prog_14_method_32_code 5 none ∈ TB := TB_of 1225 (by decide +kernel) (by decide +kernel)
theorem tw_122 : Cond.instanceMethod ⟨"GreaterPlatesModel", "nameOn", "(II)V"⟩ ∈ TB := TB_of 1224 (by decide +kernel) (by decide +kernel)
theorem tw_123 : Cond.selects "GreaterPlatesModel" ⟨"GreaterPlatesModel", "nameOn", "(II)V"⟩ ⟨"GreaterPlatesModel", "nameOn", "(II)V"⟩ ∈ TB := TB_of 61 (by decide +kernel) (by decide +kernel)
theorem tw_124 : Cond.methodLink "GreaterPlatesModel" 232 ⟨"java/lang/Math", "abs", "(I)I"⟩ ∈ TB := TB_of 1230 (by decide +kernel) (by decide +kernel)
theorem tw_125 : Cond.static ⟨"java/lang/Math", "abs", "(I)I"⟩ ∈ TB := TB_of 639 (by decide +kernel) (by decide +kernel)
theorem tw_126 : Cond.initialized "java/lang/Math" ∈ TB := TB_of 86 (by decide +kernel) (by decide +kernel)
theorem tw_127 : Cond.code ⟨"java/lang/Math", "abs", "(I)I"⟩ prog_17_method_59_code 1 (Option.some Jvm.ClassFile.FieldType.int) ∈ TB := TB_of 640 (by decide +kernel) (by decide +kernel)
theorem tw_128 : Cond.methodLink "GreaterPlatesModel" 243 ⟨"GreaterPlatesModel", "likes", "(II)Z"⟩ ∈ TB := TB_of 1231 (by decide +kernel) (by decide +kernel)
theorem tw_129 : Cond.code ⟨"GreaterPlatesModel", "likes", "(II)Z"⟩ prog_14_method_37_code 3 (Option.some Jvm.ClassFile.FieldType.boolean) ∈ TB := TB_of 1234 (by decide +kernel) (by decide +kernel)
theorem tw_130 : Cond.instanceMethod ⟨"GreaterPlatesModel", "likes", "(II)Z"⟩ ∈ TB := TB_of 1233 (by decide +kernel) (by decide +kernel)
theorem tw_131 : Cond.selects "GreaterPlatesModel" ⟨"GreaterPlatesModel", "likes", "(II)Z"⟩ ⟨"GreaterPlatesModel", "likes", "(II)Z"⟩ ∈ TB := TB_of 63 (by decide +kernel) (by decide +kernel)
theorem tw_132 : Cond.methodLink "GreaterPlatesModel" 237 ⟨"GreaterPlatesModel", "mayLie", "(II)Z"⟩ ∈ TB := TB_of 1218 (by decide +kernel) (by decide +kernel)
theorem tw_133 : Cond.methodLink "GreaterPlatesModel" 241 ⟨"GreaterPlatesModel", "rank", "(III)I"⟩ ∈ TB := TB_of 1226 (by decide +kernel) (by decide +kernel)
theorem tw_134 : Cond.code ⟨"GreaterPlatesModel", "rank", "(III)I"⟩ prog_14_method_36_code 6 (Option.some Jvm.ClassFile.FieldType.int) ∈ TB := TB_of 1229 (by decide +kernel) (by decide +kernel)
theorem tw_135 : Cond.instanceMethod ⟨"GreaterPlatesModel", "rank", "(III)I"⟩ ∈ TB := TB_of 1228 (by decide +kernel) (by decide +kernel)
theorem tw_136 : Cond.selects "GreaterPlatesModel" ⟨"GreaterPlatesModel", "rank", "(III)I"⟩ ⟨"GreaterPlatesModel", "rank", "(III)I"⟩ ∈ TB := TB_of 62 (by decide +kernel) (by decide +kernel)
theorem tw_137 : Cond.code ⟨"GreaterPlatesModel", "mayLie", "(II)Z"⟩ prog_14_method_33_code 3 (Option.some Jvm.ClassFile.FieldType.boolean) ∈ TB := TB_of 1221 (by decide +kernel) (by decide +kernel)
theorem tw_138 : Cond.instanceMethod ⟨"GreaterPlatesModel", "mayLie", "(II)Z"⟩ ∈ TB := TB_of 1220 (by decide +kernel) (by decide +kernel)
theorem tw_139 : Cond.selects "GreaterPlatesModel" ⟨"GreaterPlatesModel", "mayLie", "(II)Z"⟩ ⟨"GreaterPlatesModel", "mayLie", "(II)Z"⟩ ∈ TB := TB_of 60 (by decide +kernel) (by decide +kernel)
theorem tw_140 : Cond.fieldLink "GreaterPlatesModel" 246 "GreaterPlatesModel" "paid" "I" ∈ TB := TB_of 1057 (by decide +kernel) (by decide +kernel)
theorem tw_141 : Cond.methodLink "GreaterPlatesModel" 249 ⟨"GreaterPlatesModel", "choice", "(II)I"⟩ ∈ TB := TB_of 1214 (by decide +kernel) (by decide +kernel)
theorem tw_142 : Cond.fieldLink "GreaterPlatesModel" 182 "GreaterPlatesModel" "belowBy" "[I" ∈ TB := TB_of 1056 (by decide +kernel) (by decide +kernel)
theorem tw_143 : Cond.fieldLink "GreaterPlatesModel" 179 "GreaterPlatesModel" "heapBy" "[I" ∈ TB := TB_of 1055 (by decide +kernel) (by decide +kernel)
theorem tw_144 : Cond.code ⟨"GreaterPlatesModel", "choice", "(II)I"⟩ prog_14_method_38_code 7 (Option.some Jvm.ClassFile.FieldType.int) ∈ TB := TB_of 1217 (by decide +kernel) (by decide +kernel)
theorem tw_145 : Cond.instanceMethod ⟨"GreaterPlatesModel", "choice", "(II)I"⟩ ∈ TB := TB_of 1216 (by decide +kernel) (by decide +kernel)
theorem tw_146 : Cond.selects "GreaterPlatesModel" ⟨"GreaterPlatesModel", "choice", "(II)I"⟩ ⟨"GreaterPlatesModel", "choice", "(II)I"⟩ ∈ TB := TB_of 59 (by decide +kernel) (by decide +kernel)
theorem tw_147 : Cond.fieldLink "GreaterPlatesModel" 176 "GreaterPlatesModel" "turn" "[I" ∈ TB := TB_of 1054 (by decide +kernel) (by decide +kernel)
theorem tw_148 : Cond.methodLink "GreaterPlatesModel" 253 ⟨"GreaterPlatesModel", "put", "(II)V"⟩ ∈ TB := TB_of 1235 (by decide +kernel) (by decide +kernel)
theorem tw_149 : Cond.code ⟨"GreaterPlatesModel", "put", "(II)V"⟩ prog_14_method_34_code 3 none ∈ TB := TB_of 1238 (by decide +kernel) (by decide +kernel)
theorem tw_150 : Cond.instanceMethod ⟨"GreaterPlatesModel", "put", "(II)V"⟩ ∈ TB := TB_of 1237 (by decide +kernel) (by decide +kernel)
theorem tw_151 : Cond.selects "GreaterPlatesModel" ⟨"GreaterPlatesModel", "put", "(II)V"⟩ ⟨"GreaterPlatesModel", "put", "(II)V"⟩ ∈ TB := TB_of 64 (by decide +kernel) (by decide +kernel)
theorem tw_152 : Cond.methodLink "GreaterPlatesModel" 256 ⟨"GreaterPlatesModel", "layAll", "(I)V"⟩ ∈ TB := TB_of 1210 (by decide +kernel) (by decide +kernel)
theorem tw_153 : Cond.code ⟨"GreaterPlatesModel", "layAll", "(I)V"⟩ prog_14_method_39_code 5 none ∈ TB := TB_of 1213 (by decide +kernel) (by decide +kernel)
theorem tw_154 : Cond.instanceMethod ⟨"GreaterPlatesModel", "layAll", "(I)V"⟩ ∈ TB := TB_of 1212 (by decide +kernel) (by decide +kernel)
theorem tw_155 : Cond.selects "GreaterPlatesModel" ⟨"GreaterPlatesModel", "layAll", "(I)V"⟩ ⟨"GreaterPlatesModel", "layAll", "(I)V"⟩ ∈ TB := TB_of 58 (by decide +kernel) (by decide +kernel)
theorem tw_156 : Cond.methodLink "GreaterPlatesModel" 265 ⟨"GreaterPlatesModel", "ways", "(III)V"⟩ ∈ TB := TB_of 1251 (by decide +kernel) (by decide +kernel)
theorem tw_157 : Cond.fieldLink "GreaterPlatesModel" 259 "GreaterPlatesModel" "fewest" "I" ∈ TB := TB_of 1058 (by decide +kernel) (by decide +kernel)
theorem tw_158 : Cond.fieldLink "GreaterPlatesModel" 262 "GreaterPlatesModel" "cheapest" "I" ∈ TB := TB_of 1059 (by decide +kernel) (by decide +kernel)
theorem tw_159 : Cond.methodLink "GreaterPlatesModel" 269 ⟨"GreaterPlatesModel", "putBack", "(I)V"⟩ ∈ TB := TB_of 1255 (by decide +kernel) (by decide +kernel)
theorem tw_160 : Cond.code ⟨"GreaterPlatesModel", "putBack", "(I)V"⟩ prog_14_method_35_code 2 none ∈ TB := TB_of 1258 (by decide +kernel) (by decide +kernel)
theorem tw_161 : Cond.instanceMethod ⟨"GreaterPlatesModel", "putBack", "(I)V"⟩ ∈ TB := TB_of 1257 (by decide +kernel) (by decide +kernel)
theorem tw_162 : Cond.selects "GreaterPlatesModel" ⟨"GreaterPlatesModel", "putBack", "(I)V"⟩ ⟨"GreaterPlatesModel", "putBack", "(I)V"⟩ ∈ TB := TB_of 67 (by decide +kernel) (by decide +kernel)
theorem tw_163 : Cond.code ⟨"GreaterPlatesModel", "ways", "(III)V"⟩ prog_14_method_43_code 8 none ∈ TB := TB_of 1254 (by decide +kernel) (by decide +kernel)
theorem tw_164 : Cond.instanceMethod ⟨"GreaterPlatesModel", "ways", "(III)V"⟩ ∈ TB := TB_of 1253 (by decide +kernel) (by decide +kernel)
theorem tw_165 : Cond.selects "GreaterPlatesModel" ⟨"GreaterPlatesModel", "ways", "(III)V"⟩ ⟨"GreaterPlatesModel", "ways", "(III)V"⟩ ∈ TB := TB_of 66 (by decide +kernel) (by decide +kernel)
theorem tw_166 : Cond.methodLink "GreaterPlatesModel" 272 ⟨"GreaterPlatesModel", "goThrough", "(I)V"⟩ ∈ TB := TB_of 1247 (by decide +kernel) (by decide +kernel)
theorem tw_167 : Cond.code ⟨"GreaterPlatesModel", "goThrough", "(I)V"⟩ prog_14_method_44_code 2 none ∈ TB := TB_of 1250 (by decide +kernel) (by decide +kernel)
theorem tw_168 : Cond.instanceMethod ⟨"GreaterPlatesModel", "goThrough", "(I)V"⟩ ∈ TB := TB_of 1249 (by decide +kernel) (by decide +kernel)
theorem tw_169 : Cond.selects "GreaterPlatesModel" ⟨"GreaterPlatesModel", "goThrough", "(I)V"⟩ ⟨"GreaterPlatesModel", "goThrough", "(I)V"⟩ ∈ TB := TB_of 65 (by decide +kernel) (by decide +kernel)
theorem tw_170 : Cond.methodLink "GreaterPlatesModel" 275 ⟨"GreaterPlatesModel", "asTheyCame", "()V"⟩ ∈ TB := TB_of 1263 (by decide +kernel) (by decide +kernel)
theorem tw_171 : Cond.code ⟨"GreaterPlatesModel", "asTheyCame", "()V"⟩ prog_14_method_40_code 2 none ∈ TB := TB_of 1266 (by decide +kernel) (by decide +kernel)
theorem tw_172 : Cond.instanceMethod ⟨"GreaterPlatesModel", "asTheyCame", "()V"⟩ ∈ TB := TB_of 1265 (by decide +kernel) (by decide +kernel)
theorem tw_173 : Cond.selects "GreaterPlatesModel" ⟨"GreaterPlatesModel", "asTheyCame", "()V"⟩ ⟨"GreaterPlatesModel", "asTheyCame", "()V"⟩ ∈ TB := TB_of 68 (by decide +kernel) (by decide +kernel)
theorem tw_174 : Cond.methodLink "GreaterPlatesModel" 278 ⟨"GreaterPlatesModel", "couldLie", "(II)Z"⟩ ∈ TB := TB_of 1278 (by decide +kernel) (by decide +kernel)
theorem tw_175 : Cond.code ⟨"GreaterPlatesModel", "couldLie", "(II)Z"⟩ prog_14_method_47_code 3 (Option.some Jvm.ClassFile.FieldType.boolean) ∈ TB := TB_of 1281 (by decide +kernel) (by decide +kernel)
theorem tw_176 : Cond.instanceMethod ⟨"GreaterPlatesModel", "couldLie", "(II)Z"⟩ ∈ TB := TB_of 1280 (by decide +kernel) (by decide +kernel)
theorem tw_177 : Cond.selects "GreaterPlatesModel" ⟨"GreaterPlatesModel", "couldLie", "(II)Z"⟩ ⟨"GreaterPlatesModel", "couldLie", "(II)Z"⟩ ∈ TB := TB_of 70 (by decide +kernel) (by decide +kernel)
theorem tw_178 : Cond.methodLink "GreaterPlatesModel" 281 ⟨"GreaterPlatesModel", "bits", "(I)I"⟩ ∈ TB := TB_of 1271 (by decide +kernel) (by decide +kernel)
theorem tw_179 : Cond.methodLink "GreaterPlatesModel" 284 ⟨"GreaterPlatesModel", "isRow", "(I)Z"⟩ ∈ TB := TB_of 1274 (by decide +kernel) (by decide +kernel)
theorem tw_180 : Cond.code ⟨"GreaterPlatesModel", "isRow", "(I)Z"⟩ prog_14_method_48_code 5 (Option.some Jvm.ClassFile.FieldType.boolean) ∈ TB := TB_of 1277 (by decide +kernel) (by decide +kernel)
theorem tw_181 : Cond.instanceMethod ⟨"GreaterPlatesModel", "isRow", "(I)Z"⟩ ∈ TB := TB_of 1276 (by decide +kernel) (by decide +kernel)
theorem tw_182 : Cond.selects "GreaterPlatesModel" ⟨"GreaterPlatesModel", "isRow", "(I)Z"⟩ ⟨"GreaterPlatesModel", "isRow", "(I)Z"⟩ ∈ TB := TB_of 69 (by decide +kernel) (by decide +kernel)
theorem tw_183 : Cond.code ⟨"GreaterPlatesModel", "bits", "(I)I"⟩ prog_14_method_49_code 3 (Option.some Jvm.ClassFile.FieldType.int) ∈ TB := TB_of 1273 (by decide +kernel) (by decide +kernel)
theorem tw_184 : Cond.static ⟨"GreaterPlatesModel", "bits", "(I)I"⟩ ∈ TB := TB_of 1272 (by decide +kernel) (by decide +kernel)
theorem tw_185 : Cond.methodLink "GreaterPlatesModel" 287 ⟨"GreaterPlatesModel", "mostFrom", "(II)I"⟩ ∈ TB := TB_of 1286 (by decide +kernel) (by decide +kernel)
theorem tw_186 : Cond.code ⟨"GreaterPlatesModel", "mostFrom", "(II)I"⟩ prog_14_method_51_code 6 (Option.some Jvm.ClassFile.FieldType.int) ∈ TB := TB_of 1289 (by decide +kernel) (by decide +kernel)
theorem tw_187 : Cond.instanceMethod ⟨"GreaterPlatesModel", "mostFrom", "(II)I"⟩ ∈ TB := TB_of 1288 (by decide +kernel) (by decide +kernel)
theorem tw_188 : Cond.selects "GreaterPlatesModel" ⟨"GreaterPlatesModel", "mostFrom", "(II)I"⟩ ⟨"GreaterPlatesModel", "mostFrom", "(II)I"⟩ ∈ TB := TB_of 71 (by decide +kernel) (by decide +kernel)
theorem tw_189 : Cond.fieldLink "GreaterPlatesModel" 185 "GreaterPlatesModel" "ends" "[I" ∈ TB := TB_of 1060 (by decide +kernel) (by decide +kernel)
theorem tw_190 : Cond.methodLink "GreaterPlatesModel" 290 ⟨"java/lang/Math", "max", "(II)I"⟩ ∈ TB := TB_of 1290 (by decide +kernel) (by decide +kernel)
theorem tw_191 : Cond.static ⟨"java/lang/Math", "max", "(II)I"⟩ ∈ TB := TB_of 562 (by decide +kernel) (by decide +kernel)
theorem tw_192 : Cond.code ⟨"java/lang/Math", "max", "(II)I"⟩ prog_17_method_65_code 2 (Option.some Jvm.ClassFile.FieldType.int) ∈ TB := TB_of 563 (by decide +kernel) (by decide +kernel)
theorem tw_193 : Cond.fieldLink "GreaterPlatesModel" 194 "GreaterPlatesModel" "belowNow" "[I" ∈ TB := TB_of 1067 (by decide +kernel) (by decide +kernel)
theorem tw_194 : Cond.methodLink "GreaterPlatesModel" 305 ⟨"GreaterPlatesModel", "orders", "(III)V"⟩ ∈ TB := TB_of 1303 (by decide +kernel) (by decide +kernel)
theorem tw_195 : Cond.fieldLink "GreaterPlatesModel" 296 "GreaterPlatesModel" "all" "I" ∈ TB := TB_of 1063 (by decide +kernel) (by decide +kernel)
theorem tw_196 : Cond.fieldLink "GreaterPlatesModel" 293 "GreaterPlatesModel" "sum" "I" ∈ TB := TB_of 1062 (by decide +kernel) (by decide +kernel)
theorem tw_197 : Cond.fieldLink "GreaterPlatesModel" 188 "GreaterPlatesModel" "byHeaps" "[I" ∈ TB := TB_of 1061 (by decide +kernel) (by decide +kernel)
theorem tw_198 : Cond.code ⟨"GreaterPlatesModel", "orders", "(III)V"⟩ prog_14_method_54_code 6 none ∈ TB := TB_of 1306 (by decide +kernel) (by decide +kernel)
theorem tw_199 : Cond.instanceMethod ⟨"GreaterPlatesModel", "orders", "(III)V"⟩ ∈ TB := TB_of 1305 (by decide +kernel) (by decide +kernel)
theorem tw_200 : Cond.selects "GreaterPlatesModel" ⟨"GreaterPlatesModel", "orders", "(III)V"⟩ ⟨"GreaterPlatesModel", "orders", "(III)V"⟩ ∈ TB := TB_of 73 (by decide +kernel) (by decide +kernel)
theorem tw_201 : Cond.fieldLink "GreaterPlatesModel" 299 "GreaterPlatesModel" "alike" "I" ∈ TB := TB_of 1064 (by decide +kernel) (by decide +kernel)
theorem tw_202 : Cond.fieldLink "GreaterPlatesModel" 302 "GreaterPlatesModel" "best" "I" ∈ TB := TB_of 1065 (by decide +kernel) (by decide +kernel)
theorem tw_203 : Cond.fieldLink "GreaterPlatesModel" 191 "GreaterPlatesModel" "bestTurn" "[I" ∈ TB := TB_of 1066 (by decide +kernel) (by decide +kernel)
theorem tw_204 : Cond.methodLink "GreaterPlatesModel" 308 ⟨"GreaterPlatesModel", "allOrders", "(I)V"⟩ ∈ TB := TB_of 1299 (by decide +kernel) (by decide +kernel)
theorem tw_205 : Cond.code ⟨"GreaterPlatesModel", "allOrders", "(I)V"⟩ prog_14_method_55_code 3 none ∈ TB := TB_of 1302 (by decide +kernel) (by decide +kernel)
theorem tw_206 : Cond.instanceMethod ⟨"GreaterPlatesModel", "allOrders", "(I)V"⟩ ∈ TB := TB_of 1301 (by decide +kernel) (by decide +kernel)
theorem tw_207 : Cond.selects "GreaterPlatesModel" ⟨"GreaterPlatesModel", "allOrders", "(I)V"⟩ ⟨"GreaterPlatesModel", "allOrders", "(I)V"⟩ ∈ TB := TB_of 72 (by decide +kernel) (by decide +kernel)
theorem tw_208 : Cond.constantLong "GreaterPlatesModel" 311 (-4611686018427387904) ∈ TB := TB_of 1311 (by decide +kernel) (by decide +kernel)
theorem tw_209 : Cond.methodLink "GreaterPlatesModel" 313 ⟨"GreaterPlatesModel", "divisor", "(II)I"⟩ ∈ TB := TB_of 1312 (by decide +kernel) (by decide +kernel)
theorem tw_210 : Cond.code ⟨"GreaterPlatesModel", "divisor", "(II)I"⟩ prog_14_method_57_code 5 (Option.some Jvm.ClassFile.FieldType.int) ∈ TB := TB_of 1314 (by decide +kernel) (by decide +kernel)
theorem tw_211 : Cond.static ⟨"GreaterPlatesModel", "divisor", "(II)I"⟩ ∈ TB := TB_of 1313 (by decide +kernel) (by decide +kernel)
theorem tw_212 : Cond.constant "GreaterPlatesModel" 316 1103515245 ∈ TB := TB_of 1327 (by decide +kernel) (by decide +kernel)
theorem tw_213 : Cond.methodLink "GreaterPlatesModel" 317 ⟨"GreaterPlatesModel", "isSheet", "(I)Z"⟩ ∈ TB := TB_of 1332 (by decide +kernel) (by decide +kernel)
theorem tw_214 : Cond.fieldLink "GreaterPlatesModel" 209 "GreaterPlatesModel" "sorts" "[I" ∈ TB := TB_of 1079 (by decide +kernel) (by decide +kernel)
theorem tw_215 : Cond.code ⟨"GreaterPlatesModel", "isSheet", "(I)Z"⟩ prog_14_method_71_code 1 (Option.some Jvm.ClassFile.FieldType.boolean) ∈ TB := TB_of 1334 (by decide +kernel) (by decide +kernel)
theorem tw_216 : Cond.static ⟨"GreaterPlatesModel", "isSheet", "(I)Z"⟩ ∈ TB := TB_of 1333 (by decide +kernel) (by decide +kernel)
theorem tw_217 : Cond.fieldLink "GreaterPlatesModel" 215 "GreaterPlatesModel" "items" "[I" ∈ TB := TB_of 1081 (by decide +kernel) (by decide +kernel)
theorem tw_218 : Cond.fieldLink "GreaterPlatesModel" 212 "GreaterPlatesModel" "sizes" "[I" ∈ TB := TB_of 1080 (by decide +kernel) (by decide +kernel)
theorem tw_219 : Cond.methodLink "GreaterPlatesModel" 326 ⟨"GreaterPlatesModel", "move", "([I[I)V"⟩ ∈ TB := TB_of 1343 (by decide +kernel) (by decide +kernel)
theorem tw_220 : Cond.code ⟨"GreaterPlatesModel", "move", "([I[I)V"⟩ prog_14_method_64_code 3 none ∈ TB := TB_of 1345 (by decide +kernel) (by decide +kernel)
theorem tw_221 : Cond.static ⟨"GreaterPlatesModel", "move", "([I[I)V"⟩ ∈ TB := TB_of 1344 (by decide +kernel) (by decide +kernel)
theorem tw_222 : Cond.fieldLink "GreaterPlatesModel" 200 "GreaterPlatesModel" "tableLies" "[I" ∈ TB := TB_of 1071 (by decide +kernel) (by decide +kernel)
theorem tw_223 : Cond.fieldLink "GreaterPlatesModel" 197 "GreaterPlatesModel" "tableOn" "[I" ∈ TB := TB_of 1070 (by decide +kernel) (by decide +kernel)
theorem tw_224 : Cond.fieldLink "GreaterPlatesModel" 323 "GreaterPlatesModel" "tableHeaps" "I" ∈ TB := TB_of 1069 (by decide +kernel) (by decide +kernel)
theorem tw_225 : Cond.fieldLink "GreaterPlatesModel" 320 "GreaterPlatesModel" "laid" "I" ∈ TB := TB_of 1068 (by decide +kernel) (by decide +kernel)
theorem tw_226 : Cond.fieldLink "GreaterPlatesModel" 206 "GreaterPlatesModel" "liesThen" "[I" ∈ TB := TB_of 1078 (by decide +kernel) (by decide +kernel)
theorem tw_227 : Cond.fieldLink "GreaterPlatesModel" 203 "GreaterPlatesModel" "onThen" "[I" ∈ TB := TB_of 1077 (by decide +kernel) (by decide +kernel)
theorem tw_228 : Cond.fieldLink "GreaterPlatesModel" 343 "GreaterPlatesModel" "ruleThen" "I" ∈ TB := TB_of 1076 (by decide +kernel) (by decide +kernel)
theorem tw_229 : Cond.fieldLink "GreaterPlatesModel" 340 "GreaterPlatesModel" "highestThen" "I" ∈ TB := TB_of 1075 (by decide +kernel) (by decide +kernel)
theorem tw_230 : Cond.fieldLink "GreaterPlatesModel" 337 "GreaterPlatesModel" "heapsThen" "I" ∈ TB := TB_of 1074 (by decide +kernel) (by decide +kernel)
theorem tw_231 : Cond.fieldLink "GreaterPlatesModel" 334 "GreaterPlatesModel" "laidThen" "I" ∈ TB := TB_of 1073 (by decide +kernel) (by decide +kernel)
theorem tw_232 : Cond.fieldLink "GreaterPlatesModel" 330 "GreaterPlatesModel" "kept" "Z" ∈ TB := TB_of 1072 (by decide +kernel) (by decide +kernel)
theorem tw_233 : Cond.fieldLink "GreaterPlatesModel" 218 "GreaterPlatesModel" "moved" "[I" ∈ TB := TB_of 1082 (by decide +kernel) (by decide +kernel)
theorem tw_234 : Cond.constantLong "GreaterPlatesModel" 346 2 ∈ TB := TB_of 1382 (by decide +kernel) (by decide +kernel)
theorem tw_235 : Cond.methodLink "GreaterPlatesModel" 348 ⟨"GreaterPlatesModel", "plate", "(II)I"⟩ ∈ TB := TB_of 1383 (by decide +kernel) (by decide +kernel)
theorem tw_236 : Cond.code ⟨"GreaterPlatesModel", "plate", "(II)I"⟩ prog_14_method_4_code 3 (Option.some Jvm.ClassFile.FieldType.int) ∈ TB := TB_of 904 (by decide +kernel) (by decide +kernel)
theorem tw_237 : Cond.instanceMethod ⟨"GreaterPlatesModel", "plate", "(II)I"⟩ ∈ TB := TB_of 902 (by decide +kernel) (by decide +kernel)
theorem tw_238 : Cond.selects "GreaterPlatesModel" ⟨"GreaterPlatesModel", "plate", "(II)I"⟩ ⟨"GreaterPlatesModel", "plate", "(II)I"⟩ ∈ TB := TB_of 903 (by decide +kernel) (by decide +kernel)
theorem tg_M_37 : ((37, 12, 0) : Nat × Nat × Nat) ∈ tsM := by decide
theorem yw_X12_isIn : yW yX12_isIn cX12_isIn 3 (some .boolean) 3 := ⟨tw_1, tw_2, by decide, by decide, by decide, by decide +kernel⟩
theorem ys_X12_isIn : yS yX12_isIn := tw_3
theorem fok_12 : fOK RX12 TX12 60 (tyX 12) := ⟨by decide +kernel, tyX12_ok, nmX12⟩
theorem fl_X12_1_12 : fL RX12 1 12 0 true := ⟨RX12, TX12, 60, rfl, fok_12, by decide, rfl, by decide, tw_4⟩
theorem fl_X12_11_12 : fL RX12 11 12 3 true := ⟨RX12, TX12, 60, rfl, fok_12, by decide, rfl, by decide, tw_5⟩
theorem tg_M_38 : ((38, 14, 8) : Nat × Nat × Nat) ∈ tsM := by decide
theorem tg_M_39 : ((39, 14, 8) : Nat × Nat × Nat) ∈ tsM := by decide
theorem fw_X12_1_12 (nm : String) : fW RX12 nm 1 12 0 true := ⟨fl_X12_1_12, fun C T N h => by cases h; exact Or.inl rfl⟩
theorem fl_X12_18_12 : fL RX12 18 12 2 false := ⟨RX12, TX12, 60, rfl, fok_12, by decide, rfl, by decide, tw_6⟩
theorem pt_M_37_2 : ((37, 2, 39) : Nat × Nat × Nat) ∈ psM := by decide
theorem fl_X12_14_12 : fL RX12 14 12 1 false := ⟨RX12, TX12, 60, rfl, fok_12, by decide, rfl, by decide, tw_7⟩
theorem pt_M_37_1 : ((37, 1, 38) : Nat × Nat × Nat) ∈ psM := by decide
theorem tg_M_40 : ((40, 14, 5) : Nat × Nat × Nat) ∈ tsM := by decide
theorem tg_M_41 : ((41, 14, 5) : Nat × Nat × Nat) ∈ tsM := by decide
theorem fw_X12_11_12 (nm : String) : fW RX12 nm 11 12 3 true := ⟨fl_X12_11_12, fun C T N h => by cases h; exact Or.inl rfl⟩
theorem fl_X12_24_12 : fL RX12 24 12 5 false := ⟨RX12, TX12, 60, rfl, fok_12, by decide, rfl, by decide, tw_8⟩
theorem pt_M_37_5 : ((37, 5, 41) : Nat × Nat × Nat) ∈ psM := by decide
theorem fl_X12_21_12 : fL RX12 21 12 4 false := ⟨RX12, TX12, 60, rfl, fok_12, by decide, rfl, by decide, tw_9⟩
theorem pt_M_37_4 : ((37, 4, 40) : Nat × Nat × Nat) ∈ psM := by decide
theorem ycl_12_X12_isPlate : ∀ q : vw_C, vwCl[12]? = some q → q.1 = yX12_isPlate.cls := fun q h => by cases h; rfl
theorem yw_X12_isPlate : yW yX12_isPlate cX12_isPlate 2 (some .boolean) 1 := ⟨tw_11, tw_2, by decide, by decide, by decide, by decide +kernel⟩
theorem yv_X12_isPlate : yV yX12_isPlate := ⟨tw_12, tw_13⟩
theorem fl_X12_31_12 : fL RX12 31 12 6 true := ⟨RX12, TX12, 60, rfl, fok_12, by decide, rfl, by decide, tw_14⟩
theorem fw_X12_31_12 (nm : String) : fW RX12 nm 31 12 6 true := ⟨fl_X12_31_12, fun C T N h => by cases h; exact Or.inl rfl⟩
theorem ycl_12_X12_isLayer : ∀ q : vw_C, vwCl[12]? = some q → q.1 = yX12_isLayer.cls := fun q h => by cases h; rfl
theorem yw_X12_isLayer : yW yX12_isLayer cX12_isLayer 2 (some .boolean) 1 := ⟨tw_16, tw_2, by decide, by decide, by decide, by decide +kernel⟩
theorem yv_X12_isLayer : yV yX12_isLayer := ⟨tw_17, tw_18⟩
theorem tg_M_50 : ((50, 14, 6) : Nat × Nat × Nat) ∈ tsM := by decide
theorem fl_X12_167_12 : fL RX12 167 12 27 false := ⟨RX12, TX12, 60, rfl, fok_12, by decide, rfl, by decide, tw_20⟩
theorem pt_M_37_27 : ((37, 27, 50) : Nat × Nat × Nat) ∈ psM := by decide
theorem fl_X12_156_12 : fL RX12 156 12 10 true := ⟨RX12, TX12, 60, rfl, fok_12, by decide, rfl, by decide, tw_22⟩
theorem tg_M_44 : ((44, 14, 18) : Nat × Nat × Nat) ∈ tsM := by decide
theorem tg_M_49 : ((49, 14, 170) : Nat × Nat × Nat) ∈ tsM := by decide
theorem fl_X12_164_12 : fL RX12 164 12 26 false := ⟨RX12, TX12, 60, rfl, fok_12, by decide, rfl, by decide, tw_23⟩
theorem pt_M_37_26 : ((37, 26, 49) : Nat × Nat × Nat) ∈ psM := by decide
theorem tg_M_43 : ((43, 14, 2880) : Nat × Nat × Nat) ∈ tsM := by decide
theorem yw_X12_done : yW yX12_done cX12_done 3 (some .int) 3 := ⟨tw_25, tw_2, by decide, by decide, by decide, by decide +kernel⟩
theorem ys_X12_done : yS yX12_done := tw_26
theorem fl_X12_86_12 : fL RX12 86 12 11 false := ⟨RX12, TX12, 60, rfl, fok_12, by decide, rfl, by decide, tw_27⟩
theorem pt_M_37_11 : ((37, 11, 43) : Nat × Nat × Nat) ∈ psM := by decide
theorem fl_X12_134_12 : fL RX12 134 12 12 false := ⟨RX12, TX12, 60, rfl, fok_12, by decide, rfl, by decide, tw_28⟩
theorem pt_M_37_12 : ((37, 12, 44) : Nat × Nat × Nat) ∈ psM := by decide
theorem yw_X12_bound : yW yX12_bound cX12_bound 1 (some .int) 1 := ⟨tw_30, tw_2, by decide, by decide, by decide, by decide +kernel⟩
theorem ys_X12_bound : yS yX12_bound := tw_31
theorem ycl_12_X12_worthOf : ∀ q : vw_C, vwCl[12]? = some q → q.1 = yX12_worthOf.cls := fun q h => by cases h; rfl
theorem yw_X12_worthOf : yW yX12_worthOf cX12_worthOf 6 (some .int) 1 := ⟨tw_32, tw_2, by decide, by decide, by decide, by decide +kernel⟩
theorem yv_X12_worthOf : yV yX12_worthOf := ⟨tw_33, tw_34⟩
theorem ycl_12_X12_name : ∀ q : vw_C, vwCl[12]? = some q → q.1 = yX12_name.cls := fun q h => by cases h; rfl
theorem yw_X12_name : yW yX12_name cX12_name 6 none 5 := ⟨tw_35, tw_2, by decide, by decide, by decide, by decide +kernel⟩
theorem yv_X12_name : yV yX12_name := ⟨tw_36, tw_37⟩
theorem tg_M_42 : ((42, 14, 160) : Nat × Nat × Nat) ∈ tsM := by decide
theorem fl_X12_48_12 : fL RX12 48 12 8 true := ⟨RX12, TX12, 60, rfl, fok_12, by decide, rfl, by decide, tw_38⟩
theorem fw_X12_48_12 (nm : String) : fW RX12 nm 48 12 8 true := ⟨fl_X12_48_12, fun C T N h => by cases h; exact Or.inl rfl⟩
theorem fl_X12_51_12 : fL RX12 51 12 7 false := ⟨RX12, TX12, 60, rfl, fok_12, by decide, rfl, by decide, tw_39⟩
theorem pt_M_37_7 : ((37, 7, 42) : Nat × Nat × Nat) ∈ psM := by decide
theorem fl_X12_60_12 : fL RX12 60 12 14 true := ⟨RX12, TX12, 60, rfl, fok_12, by decide, rfl, by decide, tw_41⟩
theorem fw_X12_60_12 (nm : String) : fW RX12 nm 60 12 14 true := ⟨fl_X12_60_12, fun C T N h => by cases h; exact Or.inl rfl⟩
theorem fl_X12_54_12 : fL RX12 54 12 13 true := ⟨RX12, TX12, 60, rfl, fok_12, by decide, rfl, by decide, tw_42⟩
theorem fw_X12_54_12 (nm : String) : fW RX12 nm 54 12 13 true := ⟨fl_X12_54_12, fun C T N h => by cases h; exact Or.inl rfl⟩
theorem ycl_12_X12_isLetter : ∀ q : vw_C, vwCl[12]? = some q → q.1 = yX12_isLetter.cls := fun q h => by cases h; rfl
theorem yw_X12_isLetter : yW yX12_isLetter cX12_isLetter 2 (some .boolean) 1 := ⟨tw_43, tw_2, by decide, by decide, by decide, by decide +kernel⟩
theorem yv_X12_isLetter : yV yX12_isLetter := ⟨tw_44, tw_45⟩
theorem tg_M_46 : ((46, 14, 13) : Nat × Nat × Nat) ∈ tsM := by decide
theorem fl_X12_66_12 : fL RX12 66 12 16 true := ⟨RX12, TX12, 60, rfl, fok_12, by decide, rfl, by decide, tw_46⟩
theorem fl_X12_63_12 : fL RX12 63 12 18 false := ⟨RX12, TX12, 60, rfl, fok_12, by decide, rfl, by decide, tw_47⟩
theorem pt_M_37_18 : ((37, 18, 46) : Nat × Nat × Nat) ∈ psM := by decide
theorem tg_M_45 : ((45, 13, 45) : Nat × Nat × Nat) ∈ tsM := by decide
theorem fl_X12_69_12 : fL RX12 69 12 17 false := ⟨RX12, TX12, 60, rfl, fok_12, by decide, rfl, by decide, tw_48⟩
theorem pt_M_37_17 : ((37, 17, 45) : Nat × Nat × Nat) ∈ psM := by decide
theorem fl_X12_73_12 : fL RX12 73 12 15 true := ⟨RX12, TX12, 60, rfl, fok_12, by decide, rfl, by decide, tw_49⟩
theorem fw_X12_73_12 (nm : String) : fW RX12 nm 73 12 15 true := ⟨fl_X12_73_12, fun C T N h => by cases h; exact Or.inl rfl⟩
theorem ycl_12_X12_isDigit : ∀ q : vw_C, vwCl[12]? = some q → q.1 = yX12_isDigit.cls := fun q h => by cases h; rfl
theorem yw_X12_isDigit : yW yX12_isDigit cX12_isDigit 2 (some .boolean) 1 := ⟨tw_51, tw_2, by decide, by decide, by decide, by decide +kernel⟩
theorem yv_X12_isDigit : yV yX12_isDigit := ⟨tw_52, tw_53⟩
theorem ycl_12_X12_readNumber : ∀ q : vw_C, vwCl[12]? = some q → q.1 = yX12_readNumber.cls := fun q h => by cases h; rfl
theorem yw_X12_readNumber : yW yX12_readNumber cX12_readNumber 1 none 0 := ⟨tw_55, tw_2, by decide, by decide, by decide, by decide +kernel⟩
theorem yv_X12_readNumber : yV yX12_readNumber := ⟨tw_56, tw_57⟩
theorem ycl_12_X12_readWord : ∀ q : vw_C, vwCl[12]? = some q → q.1 = yX12_readWord.cls := fun q h => by cases h; rfl
theorem yw_X12_readWord : yW yX12_readWord cX12_readWord 5 none 0 := ⟨tw_59, tw_2, by decide, by decide, by decide, by decide +kernel⟩
theorem yv_X12_readWord : yV yX12_readWord := ⟨tw_60, tw_61⟩
theorem fw_X12_66_12 (nm : String) : fW RX12 nm 66 12 16 true := ⟨fl_X12_66_12, fun C T N h => by cases h; exact Or.inl rfl⟩
theorem fl_X12_92_12 : fL RX12 92 12 25 true := ⟨RX12, TX12, 60, rfl, fok_12, by decide, rfl, by decide, tw_62⟩
theorem fw_X12_92_12 (nm : String) : fW RX12 nm 92 12 25 true := ⟨fl_X12_92_12, fun C T N h => by cases h; exact Or.inl rfl⟩
theorem fl_X12_89_12 : fL RX12 89 12 24 true := ⟨RX12, TX12, 60, rfl, fok_12, by decide, rfl, by decide, tw_63⟩
theorem tg_M_47 : ((47, 14, 170) : Nat × Nat × Nat) ∈ tsM := by decide
theorem fl_X12_95_12 : fL RX12 95 12 20 true := ⟨RX12, TX12, 60, rfl, fok_12, by decide, rfl, by decide, tw_65⟩
theorem fl_X12_98_12 : fL RX12 98 12 19 false := ⟨RX12, TX12, 60, rfl, fok_12, by decide, rfl, by decide, tw_66⟩
theorem pt_M_37_19 : ((37, 19, 47) : Nat × Nat × Nat) ∈ psM := by decide
theorem fl_X12_104_12 : fL RX12 104 12 21 true := ⟨RX12, TX12, 60, rfl, fok_12, by decide, rfl, by decide, tw_67⟩
theorem fw_X12_95_12 (nm : String) : fW RX12 nm 95 12 20 true := ⟨fl_X12_95_12, fun C T N h => by cases h; exact Or.inl rfl⟩
theorem yw_X12_rank : yW yX12_rank cX12_rank 1 (some .int) 1 := ⟨tw_68, tw_2, by decide, by decide, by decide, by decide +kernel⟩
theorem ys_X12_rank : yS yX12_rank := tw_69
theorem ycl_12_X12_emit : ∀ q : vw_C, vwCl[12]? = some q → q.1 = yX12_emit.cls := fun q h => by cases h; rfl
theorem yw_X12_emit : yW yX12_emit cX12_emit 2 none 1 := ⟨tw_71, tw_2, by decide, by decide, by decide, by decide +kernel⟩
theorem yv_X12_emit : yV yX12_emit := ⟨tw_72, tw_73⟩
theorem fw_X12_104_12 (nm : String) : fW RX12 nm 104 12 21 true := ⟨fl_X12_104_12, fun C T N h => by cases h; exact Or.inl rfl⟩
theorem ycl_12_X12_isKey : ∀ q : vw_C, vwCl[12]? = some q → q.1 = yX12_isKey.cls := fun q h => by cases h; rfl
theorem yw_X12_isKey : yW yX12_isKey cX12_isKey 2 (some .boolean) 1 := ⟨tw_76, tw_2, by decide, by decide, by decide, by decide +kernel⟩
theorem yv_X12_isKey : yV yX12_isKey := ⟨tw_77, tw_78⟩
theorem ycl_12_X12_isSign : ∀ q : vw_C, vwCl[12]? = some q → q.1 = yX12_isSign.cls := fun q h => by cases h; rfl
theorem yw_X12_isSign : yW yX12_isSign cX12_isSign 2 (some .boolean) 1 := ⟨tw_79, tw_2, by decide, by decide, by decide, by decide +kernel⟩
theorem yv_X12_isSign : yV yX12_isSign := ⟨tw_80, tw_81⟩
theorem tg_M_48 : ((48, 15, 8) : Nat × Nat × Nat) ∈ tsM := by decide
theorem fl_X12_121_12 : fL RX12 121 12 22 true := ⟨RX12, TX12, 60, rfl, fok_12, by decide, rfl, by decide, tw_82⟩
theorem fl_X12_117_12 : fL RX12 117 12 23 false := ⟨RX12, TX12, 60, rfl, fok_12, by decide, rfl, by decide, tw_83⟩
theorem pt_M_37_23 : ((37, 23, 48) : Nat × Nat × Nat) ∈ psM := by decide
theorem ycl_12_X12_await : ∀ q : vw_C, vwCl[12]? = some q → q.1 = yX12_await.cls := fun q h => by cases h; rfl
theorem yw_X12_await : yW yX12_await cX12_await 2 none 1 := ⟨tw_86, tw_2, by decide, by decide, by decide, by decide +kernel⟩
theorem yv_X12_await : yV yX12_await := ⟨tw_87, tw_88⟩
theorem ycl_12_X12_doAll : ∀ q : vw_C, vwCl[12]? = some q → q.1 = yX12_doAll.cls := fun q h => by cases h; rfl
theorem yw_X12_doAll : yW yX12_doAll cX12_doAll 2 none 1 := ⟨tw_89, tw_2, by decide, by decide, by decide, by decide +kernel⟩
theorem yv_X12_doAll : yV yX12_doAll := ⟨tw_90, tw_91⟩
theorem fw_X12_121_12 (nm : String) : fW RX12 nm 121 12 22 true := ⟨fl_X12_121_12, fun C T N h => by cases h; exact Or.inl rfl⟩
theorem fw_X12_89_12 (nm : String) : fW RX12 nm 89 12 24 true := ⟨fl_X12_89_12, fun C T N h => by cases h; exact Or.inl rfl⟩
theorem ycl_12_X12_ahead : ∀ q : vw_C, vwCl[12]? = some q → q.1 = yX12_ahead.cls := fun q h => by cases h; rfl
theorem yw_X12_ahead : yW yX12_ahead cX12_ahead 3 (some .boolean) 1 := ⟨tw_93, tw_2, by decide, by decide, by decide, by decide +kernel⟩
theorem yv_X12_ahead : yV yX12_ahead := ⟨tw_94, tw_95⟩
theorem ycl_12_X12_closes : ∀ q : vw_C, vwCl[12]? = some q → q.1 = yX12_closes.cls := fun q h => by cases h; rfl
theorem yw_X12_closes : yW yX12_closes cX12_closes 1 (some .boolean) 0 := ⟨tw_98, tw_2, by decide, by decide, by decide, by decide +kernel⟩
theorem yv_X12_closes : yV yX12_closes := ⟨tw_99, tw_100⟩
theorem ycl_12_X12_between : ∀ q : vw_C, vwCl[12]? = some q → q.1 = yX12_between.cls := fun q h => by cases h; rfl
theorem yw_X12_between : yW yX12_between cX12_between 2 (some .boolean) 0 := ⟨tw_101, tw_2, by decide, by decide, by decide, by decide +kernel⟩
theorem yv_X12_between : yV yX12_between := ⟨tw_102, tw_103⟩
theorem ycl_12_X12_next : ∀ q : vw_C, vwCl[12]? = some q → q.1 = yX12_next.cls := fun q h => by cases h; rfl
theorem yw_X12_next : yW yX12_next cX12_next 2 none 0 := ⟨tw_105, tw_2, by decide, by decide, by decide, by decide +kernel⟩
theorem yv_X12_next : yV yX12_next := ⟨tw_106, tw_107⟩
theorem ycl_12_X12_readE : ∀ q : vw_C, vwCl[12]? = some q → q.1 = yX12_readE.cls := fun q h => by cases h; rfl
theorem yw_X12_readE : yW yX12_readE cX12_readE 5 (some .boolean) 1 := ⟨tw_109, tw_2, by decide, by decide, by decide, by decide +kernel⟩
theorem yv_X12_readE : yV yX12_readE := ⟨tw_110, tw_111⟩
theorem fl_X12_150_12 : fL RX12 150 12 9 true := ⟨RX12, TX12, 60, rfl, fok_12, by decide, rfl, by decide, tw_113⟩
theorem fw_X12_150_12 (nm : String) : fW RX12 nm 150 12 9 true := ⟨fl_X12_150_12, fun C T N h => by cases h; exact Or.inl rfl⟩
theorem ycl_12_X12_readAll : ∀ q : vw_C, vwCl[12]? = some q → q.1 = yX12_readAll.cls := fun q h => by cases h; rfl
theorem yw_X12_readAll : yW yX12_readAll cX12_readAll 3 (some .int) 1 := ⟨tw_114, tw_2, by decide, by decide, by decide, by decide +kernel⟩
theorem yv_X12_readAll : yV yX12_readAll := ⟨tw_115, tw_116⟩
theorem fw_X12_156_12 (nm : String) : fW RX12 nm 156 12 10 true := ⟨fl_X12_156_12, fun C T N h => by cases h; exact Or.inl rfl⟩
theorem tg_M_51 : ((51, 14, 8) : Nat × Nat × Nat) ∈ tsM := by decide
theorem fl_X12_170_12 : fL RX12 170 12 29 false := ⟨RX12, TX12, 60, rfl, fok_12, by decide, rfl, by decide, tw_117⟩
theorem pt_M_37_29 : ((37, 29, 51) : Nat × Nat × Nat) ∈ psM := by decide
theorem fl_X12_225_12 : fL RX12 225 12 28 true := ⟨RX12, TX12, 60, rfl, fok_12, by decide, rfl, by decide, tw_118⟩
theorem tg_M_52 : ((52, 14, 64) : Nat × Nat × Nat) ∈ tsM := by decide
theorem fl_X12_173_12 : fL RX12 173 12 30 false := ⟨RX12, TX12, 60, rfl, fok_12, by decide, rfl, by decide, tw_119⟩
theorem pt_M_37_30 : ((37, 30, 52) : Nat × Nat × Nat) ∈ psM := by decide
theorem ycl_12_X12_nameOn : ∀ q : vw_C, vwCl[12]? = some q → q.1 = yX12_nameOn.cls := fun q h => by cases h; rfl
theorem yw_X12_nameOn : yW yX12_nameOn cX12_nameOn 5 none 2 := ⟨tw_121, tw_2, by decide, by decide, by decide, by decide +kernel⟩
theorem yv_X12_nameOn : yV yX12_nameOn := ⟨tw_122, tw_123⟩
theorem fw_X12_225_12 (nm : String) : fW RX12 nm 225 12 28 true := ⟨fl_X12_225_12, fun C T N h => by cases h; exact Or.inl rfl⟩
theorem ycl_12_X12_likes : ∀ q : vw_C, vwCl[12]? = some q → q.1 = yX12_likes.cls := fun q h => by cases h; rfl
theorem yw_X12_likes : yW yX12_likes cX12_likes 3 (some .boolean) 2 := ⟨tw_129, tw_2, by decide, by decide, by decide, by decide +kernel⟩
theorem yv_X12_likes : yV yX12_likes := ⟨tw_130, tw_131⟩
theorem ycl_12_X12_rank_ : ∀ q : vw_C, vwCl[12]? = some q → q.1 = yX12_rank_.cls := fun q h => by cases h; rfl
theorem yw_X12_rank_ : yW yX12_rank_ cX12_rank_ 6 (some .int) 3 := ⟨tw_134, tw_2, by decide, by decide, by decide, by decide +kernel⟩
theorem yv_X12_rank_ : yV yX12_rank_ := ⟨tw_135, tw_136⟩
theorem ycl_12_X12_mayLie : ∀ q : vw_C, vwCl[12]? = some q → q.1 = yX12_mayLie.cls := fun q h => by cases h; rfl
theorem yw_X12_mayLie : yW yX12_mayLie cX12_mayLie 3 (some .boolean) 2 := ⟨tw_137, tw_2, by decide, by decide, by decide, by decide +kernel⟩
theorem yv_X12_mayLie : yV yX12_mayLie := ⟨tw_138, tw_139⟩
theorem fl_X12_246_12 : fL RX12 246 12 34 true := ⟨RX12, TX12, 60, rfl, fok_12, by decide, rfl, by decide, tw_140⟩
theorem fw_X12_246_12 (nm : String) : fW RX12 nm 246 12 34 true := ⟨fl_X12_246_12, fun C T N h => by cases h; exact Or.inl rfl⟩
theorem tg_M_53 : ((53, 14, 8) : Nat × Nat × Nat) ∈ tsM := by decide
theorem tg_M_54 : ((54, 14, 8) : Nat × Nat × Nat) ∈ tsM := by decide
theorem fl_X12_182_12 : fL RX12 182 12 33 false := ⟨RX12, TX12, 60, rfl, fok_12, by decide, rfl, by decide, tw_142⟩
theorem pt_M_37_33 : ((37, 33, 55) : Nat × Nat × Nat) ∈ psM := by decide
theorem fl_X12_179_12 : fL RX12 179 12 32 false := ⟨RX12, TX12, 60, rfl, fok_12, by decide, rfl, by decide, tw_143⟩
theorem pt_M_37_32 : ((37, 32, 54) : Nat × Nat × Nat) ∈ psM := by decide
theorem ycl_12_X12_choice : ∀ q : vw_C, vwCl[12]? = some q → q.1 = yX12_choice.cls := fun q h => by cases h; rfl
theorem yw_X12_choice : yW yX12_choice cX12_choice 7 (some .int) 2 := ⟨tw_144, tw_2, by decide, by decide, by decide, by decide +kernel⟩
theorem yv_X12_choice : yV yX12_choice := ⟨tw_145, tw_146⟩
theorem fl_X12_176_12 : fL RX12 176 12 31 false := ⟨RX12, TX12, 60, rfl, fok_12, by decide, rfl, by decide, tw_147⟩
theorem pt_M_37_31 : ((37, 31, 53) : Nat × Nat × Nat) ∈ psM := by decide
theorem tg_M_55 : ((55, 14, 8) : Nat × Nat × Nat) ∈ tsM := by decide
theorem ycl_12_X12_put : ∀ q : vw_C, vwCl[12]? = some q → q.1 = yX12_put.cls := fun q h => by cases h; rfl
theorem yw_X12_put : yW yX12_put cX12_put 3 none 2 := ⟨tw_149, tw_2, by decide, by decide, by decide, by decide +kernel⟩
theorem yv_X12_put : yV yX12_put := ⟨tw_150, tw_151⟩
theorem ycl_12_X12_layAll : ∀ q : vw_C, vwCl[12]? = some q → q.1 = yX12_layAll.cls := fun q h => by cases h; rfl
theorem yw_X12_layAll : yW yX12_layAll cX12_layAll 5 none 1 := ⟨tw_153, tw_2, by decide, by decide, by decide, by decide +kernel⟩
theorem yv_X12_layAll : yV yX12_layAll := ⟨tw_154, tw_155⟩
theorem fl_X12_259_12 : fL RX12 259 12 35 true := ⟨RX12, TX12, 60, rfl, fok_12, by decide, rfl, by decide, tw_157⟩
theorem fl_X12_262_12 : fL RX12 262 12 36 true := ⟨RX12, TX12, 60, rfl, fok_12, by decide, rfl, by decide, tw_158⟩
theorem fw_X12_262_12 (nm : String) : fW RX12 nm 262 12 36 true := ⟨fl_X12_262_12, fun C T N h => by cases h; exact Or.inl rfl⟩
theorem fw_X12_259_12 (nm : String) : fW RX12 nm 259 12 35 true := ⟨fl_X12_259_12, fun C T N h => by cases h; exact Or.inl rfl⟩
theorem ycl_12_X12_putBack : ∀ q : vw_C, vwCl[12]? = some q → q.1 = yX12_putBack.cls := fun q h => by cases h; rfl
theorem yw_X12_putBack : yW yX12_putBack cX12_putBack 2 none 1 := ⟨tw_160, tw_2, by decide, by decide, by decide, by decide +kernel⟩
theorem yv_X12_putBack : yV yX12_putBack := ⟨tw_161, tw_162⟩
theorem ycl_12_X12_ways : ∀ q : vw_C, vwCl[12]? = some q → q.1 = yX12_ways.cls := fun q h => by cases h; rfl
theorem yw_X12_ways : yW yX12_ways cX12_ways 8 none 3 := ⟨tw_163, tw_2, by decide, by decide, by decide, by decide +kernel⟩
theorem yv_X12_ways : yV yX12_ways := ⟨tw_164, tw_165⟩
theorem ycl_12_X12_goThrough : ∀ q : vw_C, vwCl[12]? = some q → q.1 = yX12_goThrough.cls := fun q h => by cases h; rfl
theorem yw_X12_goThrough : yW yX12_goThrough cX12_goThrough 2 none 1 := ⟨tw_167, tw_2, by decide, by decide, by decide, by decide +kernel⟩
theorem yv_X12_goThrough : yV yX12_goThrough := ⟨tw_168, tw_169⟩
theorem ycl_12_X12_asTheyCame : ∀ q : vw_C, vwCl[12]? = some q → q.1 = yX12_asTheyCame.cls := fun q h => by cases h; rfl
theorem yw_X12_asTheyCame : yW yX12_asTheyCame cX12_asTheyCame 2 none 0 := ⟨tw_171, tw_2, by decide, by decide, by decide, by decide +kernel⟩
theorem yv_X12_asTheyCame : yV yX12_asTheyCame := ⟨tw_172, tw_173⟩
theorem ycl_12_X12_couldLie : ∀ q : vw_C, vwCl[12]? = some q → q.1 = yX12_couldLie.cls := fun q h => by cases h; rfl
theorem yw_X12_couldLie : yW yX12_couldLie cX12_couldLie 3 (some .boolean) 2 := ⟨tw_175, tw_2, by decide, by decide, by decide, by decide +kernel⟩
theorem yv_X12_couldLie : yV yX12_couldLie := ⟨tw_176, tw_177⟩
theorem ycl_12_X12_isRow : ∀ q : vw_C, vwCl[12]? = some q → q.1 = yX12_isRow.cls := fun q h => by cases h; rfl
theorem yw_X12_isRow : yW yX12_isRow cX12_isRow 5 (some .boolean) 1 := ⟨tw_180, tw_2, by decide, by decide, by decide, by decide +kernel⟩
theorem yv_X12_isRow : yV yX12_isRow := ⟨tw_181, tw_182⟩
theorem yw_X12_bits : yW yX12_bits cX12_bits 3 (some .int) 1 := ⟨tw_183, tw_2, by decide, by decide, by decide, by decide +kernel⟩
theorem ys_X12_bits : yS yX12_bits := tw_184
theorem ycl_12_X12_mostFrom : ∀ q : vw_C, vwCl[12]? = some q → q.1 = yX12_mostFrom.cls := fun q h => by cases h; rfl
theorem yw_X12_mostFrom : yW yX12_mostFrom cX12_mostFrom 6 (some .int) 2 := ⟨tw_186, tw_2, by decide, by decide, by decide, by decide +kernel⟩
theorem yv_X12_mostFrom : yV yX12_mostFrom := ⟨tw_187, tw_188⟩
theorem tg_M_56 : ((56, 14, 3) : Nat × Nat × Nat) ∈ tsM := by decide
theorem fl_X12_185_12 : fL RX12 185 12 37 false := ⟨RX12, TX12, 60, rfl, fok_12, by decide, rfl, by decide, tw_189⟩
theorem pt_M_37_37 : ((37, 37, 56) : Nat × Nat × Nat) ∈ psM := by decide
theorem tg_M_59 : ((59, 14, 8) : Nat × Nat × Nat) ∈ tsM := by decide
theorem fl_X12_194_12 : fL RX12 194 12 44 false := ⟨RX12, TX12, 60, rfl, fok_12, by decide, rfl, by decide, tw_193⟩
theorem pt_M_37_44 : ((37, 44, 59) : Nat × Nat × Nat) ∈ psM := by decide
theorem tg_M_57 : ((57, 14, 9) : Nat × Nat × Nat) ∈ tsM := by decide
theorem fl_X12_296_12 : fL RX12 296 12 40 true := ⟨RX12, TX12, 60, rfl, fok_12, by decide, rfl, by decide, tw_195⟩
theorem fw_X12_296_12 (nm : String) : fW RX12 nm 296 12 40 true := ⟨fl_X12_296_12, fun C T N h => by cases h; exact Or.inl rfl⟩
theorem fl_X12_293_12 : fL RX12 293 12 39 true := ⟨RX12, TX12, 60, rfl, fok_12, by decide, rfl, by decide, tw_196⟩
theorem fw_X12_293_12 (nm : String) : fW RX12 nm 293 12 39 true := ⟨fl_X12_293_12, fun C T N h => by cases h; exact Or.inl rfl⟩
theorem fl_X12_188_12 : fL RX12 188 12 38 false := ⟨RX12, TX12, 60, rfl, fok_12, by decide, rfl, by decide, tw_197⟩
theorem pt_M_37_38 : ((37, 38, 57) : Nat × Nat × Nat) ∈ psM := by decide
theorem ycl_12_X12_orders : ∀ q : vw_C, vwCl[12]? = some q → q.1 = yX12_orders.cls := fun q h => by cases h; rfl
theorem yw_X12_orders : yW yX12_orders cX12_orders 6 none 3 := ⟨tw_198, tw_2, by decide, by decide, by decide, by decide +kernel⟩
theorem yv_X12_orders : yV yX12_orders := ⟨tw_199, tw_200⟩
theorem fl_X12_299_12 : fL RX12 299 12 41 true := ⟨RX12, TX12, 60, rfl, fok_12, by decide, rfl, by decide, tw_201⟩
theorem fl_X12_302_12 : fL RX12 302 12 42 true := ⟨RX12, TX12, 60, rfl, fok_12, by decide, rfl, by decide, tw_202⟩
theorem fw_X12_299_12 (nm : String) : fW RX12 nm 299 12 41 true := ⟨fl_X12_299_12, fun C T N h => by cases h; exact Or.inl rfl⟩
theorem fw_X12_302_12 (nm : String) : fW RX12 nm 302 12 42 true := ⟨fl_X12_302_12, fun C T N h => by cases h; exact Or.inl rfl⟩
theorem tg_M_58 : ((58, 14, 8) : Nat × Nat × Nat) ∈ tsM := by decide
theorem fl_X12_191_12 : fL RX12 191 12 43 false := ⟨RX12, TX12, 60, rfl, fok_12, by decide, rfl, by decide, tw_203⟩
theorem pt_M_37_43 : ((37, 43, 58) : Nat × Nat × Nat) ∈ psM := by decide
theorem ycl_12_X12_allOrders : ∀ q : vw_C, vwCl[12]? = some q → q.1 = yX12_allOrders.cls := fun q h => by cases h; rfl
theorem yw_X12_allOrders : yW yX12_allOrders cX12_allOrders 3 none 1 := ⟨tw_205, tw_2, by decide, by decide, by decide, by decide +kernel⟩
theorem yv_X12_allOrders : yV yX12_allOrders := ⟨tw_206, tw_207⟩
theorem yw_X12_divisor : yW yX12_divisor cX12_divisor 5 (some .int) 2 := ⟨tw_210, tw_2, by decide, by decide, by decide, by decide +kernel⟩
theorem ys_X12_divisor : yS yX12_divisor := tw_211
theorem tg_M_64 : ((64, 14, 4) : Nat × Nat × Nat) ∈ tsM := by decide
theorem fl_X12_209_12 : fL RX12 209 12 56 false := ⟨RX12, TX12, 60, rfl, fok_12, by decide, rfl, by decide, tw_214⟩
theorem pt_M_37_56 : ((37, 56, 64) : Nat × Nat × Nat) ∈ psM := by decide
theorem yw_X12_isSheet : yW yX12_isSheet cX12_isSheet 1 (some .boolean) 1 := ⟨tw_215, tw_2, by decide, by decide, by decide, by decide +kernel⟩
theorem ys_X12_isSheet : yS yX12_isSheet := tw_216
theorem tg_M_65 : ((65, 14, 4) : Nat × Nat × Nat) ∈ tsM := by decide
theorem tg_M_66 : ((66, 14, 160) : Nat × Nat × Nat) ∈ tsM := by decide
theorem fl_X12_215_12 : fL RX12 215 12 58 false := ⟨RX12, TX12, 60, rfl, fok_12, by decide, rfl, by decide, tw_217⟩
theorem pt_M_37_58 : ((37, 58, 66) : Nat × Nat × Nat) ∈ psM := by decide
theorem fl_X12_212_12 : fL RX12 212 12 57 false := ⟨RX12, TX12, 60, rfl, fok_12, by decide, rfl, by decide, tw_218⟩
theorem pt_M_37_57 : ((37, 57, 65) : Nat × Nat × Nat) ∈ psM := by decide
theorem tg_M_60 : ((60, 14, 8) : Nat × Nat × Nat) ∈ tsM := by decide
theorem tg_M_61 : ((61, 14, 64) : Nat × Nat × Nat) ∈ tsM := by decide
theorem yw_X12_move : yW yX12_move cX12_move 3 none 2 := ⟨tw_220, tw_2, by decide, by decide, by decide, by decide +kernel⟩
theorem ys_X12_move : yS yX12_move := tw_221
theorem fl_X12_200_12 : fL RX12 200 12 48 false := ⟨RX12, TX12, 60, rfl, fok_12, by decide, rfl, by decide, tw_222⟩
theorem pt_M_37_48 : ((37, 48, 61) : Nat × Nat × Nat) ∈ psM := by decide
theorem fl_X12_197_12 : fL RX12 197 12 47 false := ⟨RX12, TX12, 60, rfl, fok_12, by decide, rfl, by decide, tw_223⟩
theorem pt_M_37_47 : ((37, 47, 60) : Nat × Nat × Nat) ∈ psM := by decide
theorem fl_X12_323_12 : fL RX12 323 12 46 true := ⟨RX12, TX12, 60, rfl, fok_12, by decide, rfl, by decide, tw_224⟩
theorem fw_X12_323_12 (nm : String) : fW RX12 nm 323 12 46 true := ⟨fl_X12_323_12, fun C T N h => by cases h; exact Or.inl rfl⟩
theorem fl_X12_320_12 : fL RX12 320 12 45 true := ⟨RX12, TX12, 60, rfl, fok_12, by decide, rfl, by decide, tw_225⟩
theorem fw_X12_320_12 (nm : String) : fW RX12 nm 320 12 45 true := ⟨fl_X12_320_12, fun C T N h => by cases h; exact Or.inl rfl⟩
theorem tg_M_62 : ((62, 14, 8) : Nat × Nat × Nat) ∈ tsM := by decide
theorem tg_M_63 : ((63, 14, 64) : Nat × Nat × Nat) ∈ tsM := by decide
theorem fl_X12_206_12 : fL RX12 206 12 55 false := ⟨RX12, TX12, 60, rfl, fok_12, by decide, rfl, by decide, tw_226⟩
theorem pt_M_37_55 : ((37, 55, 63) : Nat × Nat × Nat) ∈ psM := by decide
theorem fl_X12_203_12 : fL RX12 203 12 54 false := ⟨RX12, TX12, 60, rfl, fok_12, by decide, rfl, by decide, tw_227⟩
theorem pt_M_37_54 : ((37, 54, 62) : Nat × Nat × Nat) ∈ psM := by decide
theorem fl_X12_343_12 : fL RX12 343 12 53 true := ⟨RX12, TX12, 60, rfl, fok_12, by decide, rfl, by decide, tw_228⟩
theorem fw_X12_343_12 (nm : String) : fW RX12 nm 343 12 53 true := ⟨fl_X12_343_12, fun C T N h => by cases h; exact Or.inl rfl⟩
theorem fl_X12_340_12 : fL RX12 340 12 52 true := ⟨RX12, TX12, 60, rfl, fok_12, by decide, rfl, by decide, tw_229⟩
theorem fw_X12_340_12 (nm : String) : fW RX12 nm 340 12 52 true := ⟨fl_X12_340_12, fun C T N h => by cases h; exact Or.inl rfl⟩
theorem fl_X12_337_12 : fL RX12 337 12 51 true := ⟨RX12, TX12, 60, rfl, fok_12, by decide, rfl, by decide, tw_230⟩
theorem fw_X12_337_12 (nm : String) : fW RX12 nm 337 12 51 true := ⟨fl_X12_337_12, fun C T N h => by cases h; exact Or.inl rfl⟩
theorem fl_X12_334_12 : fL RX12 334 12 50 true := ⟨RX12, TX12, 60, rfl, fok_12, by decide, rfl, by decide, tw_231⟩
theorem fw_X12_334_12 (nm : String) : fW RX12 nm 334 12 50 true := ⟨fl_X12_334_12, fun C T N h => by cases h; exact Or.inl rfl⟩
theorem fl_X12_330_12 : fL RX12 330 12 49 true := ⟨RX12, TX12, 60, rfl, fok_12, by decide, rfl, by decide, tw_232⟩
theorem fw_X12_330_12 (nm : String) : fW RX12 nm 330 12 49 true := ⟨fl_X12_330_12, fun C T N h => by cases h; exact Or.inl rfl⟩
theorem tg_M_67 : ((67, 14, 40) : Nat × Nat × Nat) ∈ tsM := by decide
theorem fl_X12_218_12 : fL RX12 218 12 59 false := ⟨RX12, TX12, 60, rfl, fok_12, by decide, rfl, by decide, tw_233⟩
theorem pt_M_37_59 : ((37, 59, 67) : Nat × Nat × Nat) ∈ psM := by decide
theorem ycl_12_X12_plate : ∀ q : vw_C, vwCl[12]? = some q → q.1 = yX12_plate.cls := fun q h => by cases h; rfl
theorem yw_X12_plate : yW yX12_plate cX12_plate 3 (some .int) 2 := ⟨tw_236, tw_2, by decide, by decide, by decide, by decide +kernel⟩
theorem yv_X12_plate : yV yX12_plate := ⟨tw_237, tw_238⟩
