def kM_0 (β : Mem) : Mem := mN β (12, 0)
def kM_1 (β : Mem) : Mem := mN (kM_0 β) (14, 8)
def kM_2 (β : Mem) : Mem := sP (kM_1 β) 37 1 (some 38)
def kM_3 (β : Mem) : Mem := mN (kM_2 β) (14, 8)
def kM_4 (β : Mem) : Mem := sP (kM_3 β) 37 2 (some 39)
def kM_5 (β : Mem) : Mem := mN (kM_4 β) (14, 5)
def kM_6 (β : Mem) : Mem := sP (kM_5 β) 37 4 (some 40)
def kM_7 (β : Mem) : Mem := mN (kM_6 β) (14, 5)
def kM_8 (β : Mem) : Mem := sP (kM_7 β) 37 5 (some 41)
def kM_9 (β : Mem) : Mem := sI (kM_8 β) 37 6 9
def kM_10 (β : Mem) : Mem := mN (kM_9 β) (14, 160)
def kM_11 (β : Mem) : Mem := sP (kM_10 β) 37 7 (some 42)
def kM_12 (β : Mem) : Mem := mN (kM_11 β) (14, 2880)
def kM_13 (β : Mem) : Mem := sP (kM_12 β) 37 11 (some 43)
def kM_14 (β : Mem) : Mem := mN (kM_13 β) (14, 18)
def kM_15 (β : Mem) : Mem := sP (kM_14 β) 37 12 (some 44)
def kM_16 (β : Mem) : Mem := mN (kM_15 β) (13, 45)
def kM_17 (β : Mem) : Mem := sI (kM_16 β) 45 0 115
def kM_18 (β : Mem) : Mem := sI (kM_17 β) 45 1 105
def kM_19 (β : Mem) : Mem := sI (kM_18 β) 45 2 122
def kM_20 (β : Mem) : Mem := sI (kM_19 β) 45 3 101
def kM_21 (β : Mem) : Mem := sI (kM_20 β) 45 4 116
def kM_22 (β : Mem) : Mem := sI (kM_21 β) 45 5 111
def kM_23 (β : Mem) : Mem := sI (kM_22 β) 45 6 112
def kM_24 (β : Mem) : Mem := sI (kM_23 β) 45 7 100
def kM_25 (β : Mem) : Mem := sI (kM_24 β) 45 8 101
def kM_26 (β : Mem) : Mem := sI (kM_25 β) 45 9 101
def kM_27 (β : Mem) : Mem := sI (kM_26 β) 45 10 112
def kM_28 (β : Mem) : Mem := sI (kM_27 β) 45 11 117
def kM_29 (β : Mem) : Mem := sI (kM_28 β) 45 12 110
def kM_30 (β : Mem) : Mem := sI (kM_29 β) 45 13 100
def kM_31 (β : Mem) : Mem := sI (kM_30 β) 45 14 101
def kM_32 (β : Mem) : Mem := sI (kM_31 β) 45 15 114
def kM_33 (β : Mem) : Mem := sI (kM_32 β) 45 16 104
def kM_34 (β : Mem) : Mem := sI (kM_33 β) 45 17 105
def kM_35 (β : Mem) : Mem := sI (kM_34 β) 45 18 103
def kM_36 (β : Mem) : Mem := sI (kM_35 β) 45 19 104
def kM_37 (β : Mem) : Mem := sI (kM_36 β) 45 20 104
def kM_38 (β : Mem) : Mem := sI (kM_37 β) 45 21 101
def kM_39 (β : Mem) : Mem := sI (kM_38 β) 45 22 97
def kM_40 (β : Mem) : Mem := sI (kM_39 β) 45 23 112
def kM_41 (β : Mem) : Mem := sI (kM_40 β) 45 24 109
def kM_42 (β : Mem) : Mem := sI (kM_41 β) 45 25 97
def kM_43 (β : Mem) : Mem := sI (kM_42 β) 45 26 121
def kM_44 (β : Mem) : Mem := sI (kM_43 β) 45 27 112
def kM_45 (β : Mem) : Mem := sI (kM_44 β) 45 28 97
def kM_46 (β : Mem) : Mem := sI (kM_45 β) 45 29 121
def kM_47 (β : Mem) : Mem := sI (kM_46 β) 45 30 115
def kM_48 (β : Mem) : Mem := sI (kM_47 β) 45 31 119
def kM_49 (β : Mem) : Mem := sI (kM_48 β) 45 32 101
def kM_50 (β : Mem) : Mem := sI (kM_49 β) 45 33 105
def kM_51 (β : Mem) : Mem := sI (kM_50 β) 45 34 103
def kM_52 (β : Mem) : Mem := sI (kM_51 β) 45 35 104
def kM_53 (β : Mem) : Mem := sI (kM_52 β) 45 36 115
def kM_54 (β : Mem) : Mem := sI (kM_53 β) 45 37 111
def kM_55 (β : Mem) : Mem := sI (kM_54 β) 45 38 114
def kM_56 (β : Mem) : Mem := sI (kM_55 β) 45 39 97
def kM_57 (β : Mem) : Mem := sI (kM_56 β) 45 40 110
def kM_58 (β : Mem) : Mem := sI (kM_57 β) 45 41 100
def kM_59 (β : Mem) : Mem := sI (kM_58 β) 45 42 110
def kM_60 (β : Mem) : Mem := sI (kM_59 β) 45 43 111
def kM_61 (β : Mem) : Mem := sI (kM_60 β) 45 44 116
def kM_62 (β : Mem) : Mem := sP (kM_61 β) 37 17 (some 45)
def kM_63 (β : Mem) : Mem := mN (kM_62 β) (14, 13)
def kM_64 (β : Mem) : Mem := sI (kM_63 β) 46 0 0
def kM_65 (β : Mem) : Mem := sI (kM_64 β) 46 1 4
def kM_66 (β : Mem) : Mem := sI (kM_65 β) 46 2 7
def kM_67 (β : Mem) : Mem := sI (kM_66 β) 46 3 11
def kM_68 (β : Mem) : Mem := sI (kM_67 β) 46 4 16
def kM_69 (β : Mem) : Mem := sI (kM_68 β) 46 5 20
def kM_70 (β : Mem) : Mem := sI (kM_69 β) 46 6 24
def kM_71 (β : Mem) : Mem := sI (kM_70 β) 46 7 27
def kM_72 (β : Mem) : Mem := sI (kM_71 β) 46 8 31
def kM_73 (β : Mem) : Mem := sI (kM_72 β) 46 9 37
def kM_74 (β : Mem) : Mem := sI (kM_73 β) 46 10 39
def kM_75 (β : Mem) : Mem := sI (kM_74 β) 46 11 42
def kM_76 (β : Mem) : Mem := sI (kM_75 β) 46 12 45
def kM_77 (β : Mem) : Mem := sP (kM_76 β) 37 18 (some 46)
def kM_78 (β : Mem) : Mem := mN (kM_77 β) (14, 170)
def kM_79 (β : Mem) : Mem := sP (kM_78 β) 37 19 (some 47)
def kM_80 (β : Mem) : Mem := mN (kM_79 β) (15, 8)
def kM_81 (β : Mem) : Mem := sP (kM_80 β) 37 23 (some 48)
def kM_82 (β : Mem) : Mem := mN (kM_81 β) (14, 170)
def kM_83 (β : Mem) : Mem := sP (kM_82 β) 37 26 (some 49)
def kM_84 (β : Mem) : Mem := mN (kM_83 β) (14, 6)
def kM_85 (β : Mem) : Mem := sP (kM_84 β) 37 27 (some 50)
def kM_86 (β : Mem) : Mem := mN (kM_85 β) (14, 8)
def kM_87 (β : Mem) : Mem := sP (kM_86 β) 37 29 (some 51)
def kM_88 (β : Mem) : Mem := mN (kM_87 β) (14, 64)
def kM_89 (β : Mem) : Mem := sP (kM_88 β) 37 30 (some 52)
def kM_90 (β : Mem) : Mem := mN (kM_89 β) (14, 8)
def kM_91 (β : Mem) : Mem := sP (kM_90 β) 37 31 (some 53)
def kM_92 (β : Mem) : Mem := mN (kM_91 β) (14, 8)
def kM_93 (β : Mem) : Mem := sP (kM_92 β) 37 32 (some 54)
def kM_94 (β : Mem) : Mem := mN (kM_93 β) (14, 8)
def kM_95 (β : Mem) : Mem := sP (kM_94 β) 37 33 (some 55)
def kM_96 (β : Mem) : Mem := mN (kM_95 β) (14, 3)
def kM_97 (β : Mem) : Mem := sP (kM_96 β) 37 37 (some 56)
def kM_98 (β : Mem) : Mem := mN (kM_97 β) (14, 9)
def kM_99 (β : Mem) : Mem := sP (kM_98 β) 37 38 (some 57)
def kM_100 (β : Mem) : Mem := mN (kM_99 β) (14, 8)
def kM_101 (β : Mem) : Mem := sP (kM_100 β) 37 43 (some 58)
def kM_102 (β : Mem) : Mem := mN (kM_101 β) (14, 8)
def kM_103 (β : Mem) : Mem := sP (kM_102 β) 37 44 (some 59)
def kM_104 (β : Mem) : Mem := mN (kM_103 β) (14, 8)
def kM_105 (β : Mem) : Mem := sP (kM_104 β) 37 47 (some 60)
def kM_106 (β : Mem) : Mem := mN (kM_105 β) (14, 64)
def kM_107 (β : Mem) : Mem := sP (kM_106 β) 37 48 (some 61)
def kM_108 (β : Mem) : Mem := mN (kM_107 β) (14, 8)
def kM_109 (β : Mem) : Mem := sP (kM_108 β) 37 54 (some 62)
def kM_110 (β : Mem) : Mem := mN (kM_109 β) (14, 64)
def kM_111 (β : Mem) : Mem := sP (kM_110 β) 37 55 (some 63)
def kM_112 (β : Mem) : Mem := mN (kM_111 β) (14, 4)
def kM_113 (β : Mem) : Mem := sI (kM_112 β) 64 0 (-1)
def kM_114 (β : Mem) : Mem := sI (kM_113 β) 64 1 (-1)
def kM_115 (β : Mem) : Mem := sI (kM_114 β) 64 2 (-1)
def kM_116 (β : Mem) : Mem := sI (kM_115 β) 64 3 (-1)
def kM_117 (β : Mem) : Mem := sP (kM_116 β) 37 56 (some 64)
def kM_118 (β : Mem) : Mem := mN (kM_117 β) (14, 4)
def kM_119 (β : Mem) : Mem := sP (kM_118 β) 37 57 (some 65)
def kM_120 (β : Mem) : Mem := mN (kM_119 β) (14, 160)
def kM_121 (β : Mem) : Mem := sP (kM_120 β) 37 58 (some 66)
def kM_122 (β : Mem) : Mem := mN (kM_121 β) (14, 40)
def kM_123 (β : Mem) : Mem := sP (kM_122 β) 37 59 (some 67)
def kM_124 (β : Mem) : Mem := sI (kM_123 β) 43 0 0
def kM_125 (β : Mem) : Mem := sI (kM_124 β) 43 1 1
def kM_126 (β : Mem) : Mem := sI (kM_125 β) 43 2 13
def kM_127 (β : Mem) : Mem := sI (kM_126 β) 44 0 3
def kM_128 (β : Mem) : Mem := sI (kM_127 β) 43 160 (-2)
def kM_129 (β : Mem) : Mem := sI (kM_128 β) 43 161 4
def kM_130 (β : Mem) : Mem := sI (kM_129 β) 43 162 16
def kM_131 (β : Mem) : Mem := sI (kM_130 β) 44 1 3
def kM_132 (β : Mem) : Mem := sI (kM_131 β) 43 320 0
def kM_133 (β : Mem) : Mem := sI (kM_132 β) 44 2 1
def kM_134 (β : Mem) : Mem := sI (kM_133 β) 37 9 1
def kM_135 (β : Mem) : Mem := sI (kM_134 β) 53 0 0
def kM_136 (β : Mem) : Mem := sI (kM_135 β) 53 1 1
def kM_137 (β : Mem) : Mem := sI (kM_136 β) 53 2 2
def kM_138 (β : Mem) : Mem := sI (kM_137 β) 53 3 3
def kM_139 (β : Mem) : Mem := sI (kM_138 β) 53 4 4
def kM_140 (β : Mem) : Mem := sI (kM_139 β) 53 5 5
def kM_141 (β : Mem) : Mem := sI (kM_140 β) 53 6 6
def kM_142 (β : Mem) : Mem := sI (kM_141 β) 53 7 7
theorem kM_s0 {β : Mem} (hb : mL β = 37) : Sim β (kM_0 β) (kM_0 zb) := (Sim.rf hb).mN (12, 0)
theorem kM_s1 {β : Mem} (hb : mL β = 37) : Sim β (kM_1 β) (kM_1 zb) := (kM_s0 hb).mN (14, 8)
theorem kM_s2 {β : Mem} (hb : mL β = 37) : Sim β (kM_2 β) (kM_2 zb) := (kM_s1 hb).sP (by decide) 1 (some 38)
theorem kM_s3 {β : Mem} (hb : mL β = 37) : Sim β (kM_3 β) (kM_3 zb) := (kM_s2 hb).mN (14, 8)
theorem kM_s4 {β : Mem} (hb : mL β = 37) : Sim β (kM_4 β) (kM_4 zb) := (kM_s3 hb).sP (by decide) 2 (some 39)
theorem kM_s5 {β : Mem} (hb : mL β = 37) : Sim β (kM_5 β) (kM_5 zb) := (kM_s4 hb).mN (14, 5)
theorem kM_s6 {β : Mem} (hb : mL β = 37) : Sim β (kM_6 β) (kM_6 zb) := (kM_s5 hb).sP (by decide) 4 (some 40)
theorem kM_s7 {β : Mem} (hb : mL β = 37) : Sim β (kM_7 β) (kM_7 zb) := (kM_s6 hb).mN (14, 5)
theorem kM_s8 {β : Mem} (hb : mL β = 37) : Sim β (kM_8 β) (kM_8 zb) := (kM_s7 hb).sP (by decide) 5 (some 41)
theorem kM_s9 {β : Mem} (hb : mL β = 37) : Sim β (kM_9 β) (kM_9 zb) := (kM_s8 hb).sI (by decide) 6 9
theorem kM_s10 {β : Mem} (hb : mL β = 37) : Sim β (kM_10 β) (kM_10 zb) := (kM_s9 hb).mN (14, 160)
theorem kM_s11 {β : Mem} (hb : mL β = 37) : Sim β (kM_11 β) (kM_11 zb) := (kM_s10 hb).sP (by decide) 7 (some 42)
theorem kM_s12 {β : Mem} (hb : mL β = 37) : Sim β (kM_12 β) (kM_12 zb) := (kM_s11 hb).mN (14, 2880)
theorem kM_s13 {β : Mem} (hb : mL β = 37) : Sim β (kM_13 β) (kM_13 zb) := (kM_s12 hb).sP (by decide) 11 (some 43)
theorem kM_s14 {β : Mem} (hb : mL β = 37) : Sim β (kM_14 β) (kM_14 zb) := (kM_s13 hb).mN (14, 18)
theorem kM_s15 {β : Mem} (hb : mL β = 37) : Sim β (kM_15 β) (kM_15 zb) := (kM_s14 hb).sP (by decide) 12 (some 44)
theorem kM_s16 {β : Mem} (hb : mL β = 37) : Sim β (kM_16 β) (kM_16 zb) := (kM_s15 hb).mN (13, 45)
theorem kM_s17 {β : Mem} (hb : mL β = 37) : Sim β (kM_17 β) (kM_17 zb) := (kM_s16 hb).sI (by decide) 0 115
theorem kM_s18 {β : Mem} (hb : mL β = 37) : Sim β (kM_18 β) (kM_18 zb) := (kM_s17 hb).sI (by decide) 1 105
theorem kM_s19 {β : Mem} (hb : mL β = 37) : Sim β (kM_19 β) (kM_19 zb) := (kM_s18 hb).sI (by decide) 2 122
theorem kM_s20 {β : Mem} (hb : mL β = 37) : Sim β (kM_20 β) (kM_20 zb) := (kM_s19 hb).sI (by decide) 3 101
theorem kM_s21 {β : Mem} (hb : mL β = 37) : Sim β (kM_21 β) (kM_21 zb) := (kM_s20 hb).sI (by decide) 4 116
theorem kM_s22 {β : Mem} (hb : mL β = 37) : Sim β (kM_22 β) (kM_22 zb) := (kM_s21 hb).sI (by decide) 5 111
theorem kM_s23 {β : Mem} (hb : mL β = 37) : Sim β (kM_23 β) (kM_23 zb) := (kM_s22 hb).sI (by decide) 6 112
theorem kM_s24 {β : Mem} (hb : mL β = 37) : Sim β (kM_24 β) (kM_24 zb) := (kM_s23 hb).sI (by decide) 7 100
theorem kM_s25 {β : Mem} (hb : mL β = 37) : Sim β (kM_25 β) (kM_25 zb) := (kM_s24 hb).sI (by decide) 8 101
theorem kM_s26 {β : Mem} (hb : mL β = 37) : Sim β (kM_26 β) (kM_26 zb) := (kM_s25 hb).sI (by decide) 9 101
theorem kM_s27 {β : Mem} (hb : mL β = 37) : Sim β (kM_27 β) (kM_27 zb) := (kM_s26 hb).sI (by decide) 10 112
theorem kM_s28 {β : Mem} (hb : mL β = 37) : Sim β (kM_28 β) (kM_28 zb) := (kM_s27 hb).sI (by decide) 11 117
theorem kM_s29 {β : Mem} (hb : mL β = 37) : Sim β (kM_29 β) (kM_29 zb) := (kM_s28 hb).sI (by decide) 12 110
theorem kM_s30 {β : Mem} (hb : mL β = 37) : Sim β (kM_30 β) (kM_30 zb) := (kM_s29 hb).sI (by decide) 13 100
theorem kM_s31 {β : Mem} (hb : mL β = 37) : Sim β (kM_31 β) (kM_31 zb) := (kM_s30 hb).sI (by decide) 14 101
theorem kM_s32 {β : Mem} (hb : mL β = 37) : Sim β (kM_32 β) (kM_32 zb) := (kM_s31 hb).sI (by decide) 15 114
theorem kM_s33 {β : Mem} (hb : mL β = 37) : Sim β (kM_33 β) (kM_33 zb) := (kM_s32 hb).sI (by decide) 16 104
theorem kM_s34 {β : Mem} (hb : mL β = 37) : Sim β (kM_34 β) (kM_34 zb) := (kM_s33 hb).sI (by decide) 17 105
theorem kM_s35 {β : Mem} (hb : mL β = 37) : Sim β (kM_35 β) (kM_35 zb) := (kM_s34 hb).sI (by decide) 18 103
theorem kM_s36 {β : Mem} (hb : mL β = 37) : Sim β (kM_36 β) (kM_36 zb) := (kM_s35 hb).sI (by decide) 19 104
theorem kM_s37 {β : Mem} (hb : mL β = 37) : Sim β (kM_37 β) (kM_37 zb) := (kM_s36 hb).sI (by decide) 20 104
theorem kM_s38 {β : Mem} (hb : mL β = 37) : Sim β (kM_38 β) (kM_38 zb) := (kM_s37 hb).sI (by decide) 21 101
theorem kM_s39 {β : Mem} (hb : mL β = 37) : Sim β (kM_39 β) (kM_39 zb) := (kM_s38 hb).sI (by decide) 22 97
theorem kM_s40 {β : Mem} (hb : mL β = 37) : Sim β (kM_40 β) (kM_40 zb) := (kM_s39 hb).sI (by decide) 23 112
theorem kM_s41 {β : Mem} (hb : mL β = 37) : Sim β (kM_41 β) (kM_41 zb) := (kM_s40 hb).sI (by decide) 24 109
theorem kM_s42 {β : Mem} (hb : mL β = 37) : Sim β (kM_42 β) (kM_42 zb) := (kM_s41 hb).sI (by decide) 25 97
theorem kM_s43 {β : Mem} (hb : mL β = 37) : Sim β (kM_43 β) (kM_43 zb) := (kM_s42 hb).sI (by decide) 26 121
theorem kM_s44 {β : Mem} (hb : mL β = 37) : Sim β (kM_44 β) (kM_44 zb) := (kM_s43 hb).sI (by decide) 27 112
theorem kM_s45 {β : Mem} (hb : mL β = 37) : Sim β (kM_45 β) (kM_45 zb) := (kM_s44 hb).sI (by decide) 28 97
theorem kM_s46 {β : Mem} (hb : mL β = 37) : Sim β (kM_46 β) (kM_46 zb) := (kM_s45 hb).sI (by decide) 29 121
theorem kM_s47 {β : Mem} (hb : mL β = 37) : Sim β (kM_47 β) (kM_47 zb) := (kM_s46 hb).sI (by decide) 30 115
theorem kM_s48 {β : Mem} (hb : mL β = 37) : Sim β (kM_48 β) (kM_48 zb) := (kM_s47 hb).sI (by decide) 31 119
theorem kM_s49 {β : Mem} (hb : mL β = 37) : Sim β (kM_49 β) (kM_49 zb) := (kM_s48 hb).sI (by decide) 32 101
theorem kM_s50 {β : Mem} (hb : mL β = 37) : Sim β (kM_50 β) (kM_50 zb) := (kM_s49 hb).sI (by decide) 33 105
theorem kM_s51 {β : Mem} (hb : mL β = 37) : Sim β (kM_51 β) (kM_51 zb) := (kM_s50 hb).sI (by decide) 34 103
theorem kM_s52 {β : Mem} (hb : mL β = 37) : Sim β (kM_52 β) (kM_52 zb) := (kM_s51 hb).sI (by decide) 35 104
theorem kM_s53 {β : Mem} (hb : mL β = 37) : Sim β (kM_53 β) (kM_53 zb) := (kM_s52 hb).sI (by decide) 36 115
theorem kM_s54 {β : Mem} (hb : mL β = 37) : Sim β (kM_54 β) (kM_54 zb) := (kM_s53 hb).sI (by decide) 37 111
theorem kM_s55 {β : Mem} (hb : mL β = 37) : Sim β (kM_55 β) (kM_55 zb) := (kM_s54 hb).sI (by decide) 38 114
theorem kM_s56 {β : Mem} (hb : mL β = 37) : Sim β (kM_56 β) (kM_56 zb) := (kM_s55 hb).sI (by decide) 39 97
theorem kM_s57 {β : Mem} (hb : mL β = 37) : Sim β (kM_57 β) (kM_57 zb) := (kM_s56 hb).sI (by decide) 40 110
theorem kM_s58 {β : Mem} (hb : mL β = 37) : Sim β (kM_58 β) (kM_58 zb) := (kM_s57 hb).sI (by decide) 41 100
theorem kM_s59 {β : Mem} (hb : mL β = 37) : Sim β (kM_59 β) (kM_59 zb) := (kM_s58 hb).sI (by decide) 42 110
theorem kM_s60 {β : Mem} (hb : mL β = 37) : Sim β (kM_60 β) (kM_60 zb) := (kM_s59 hb).sI (by decide) 43 111
theorem kM_s61 {β : Mem} (hb : mL β = 37) : Sim β (kM_61 β) (kM_61 zb) := (kM_s60 hb).sI (by decide) 44 116
theorem kM_s62 {β : Mem} (hb : mL β = 37) : Sim β (kM_62 β) (kM_62 zb) := (kM_s61 hb).sP (by decide) 17 (some 45)
theorem kM_s63 {β : Mem} (hb : mL β = 37) : Sim β (kM_63 β) (kM_63 zb) := (kM_s62 hb).mN (14, 13)
theorem kM_s64 {β : Mem} (hb : mL β = 37) : Sim β (kM_64 β) (kM_64 zb) := (kM_s63 hb).sI (by decide) 0 0
theorem kM_s65 {β : Mem} (hb : mL β = 37) : Sim β (kM_65 β) (kM_65 zb) := (kM_s64 hb).sI (by decide) 1 4
theorem kM_s66 {β : Mem} (hb : mL β = 37) : Sim β (kM_66 β) (kM_66 zb) := (kM_s65 hb).sI (by decide) 2 7
theorem kM_s67 {β : Mem} (hb : mL β = 37) : Sim β (kM_67 β) (kM_67 zb) := (kM_s66 hb).sI (by decide) 3 11
theorem kM_s68 {β : Mem} (hb : mL β = 37) : Sim β (kM_68 β) (kM_68 zb) := (kM_s67 hb).sI (by decide) 4 16
theorem kM_s69 {β : Mem} (hb : mL β = 37) : Sim β (kM_69 β) (kM_69 zb) := (kM_s68 hb).sI (by decide) 5 20
theorem kM_s70 {β : Mem} (hb : mL β = 37) : Sim β (kM_70 β) (kM_70 zb) := (kM_s69 hb).sI (by decide) 6 24
theorem kM_s71 {β : Mem} (hb : mL β = 37) : Sim β (kM_71 β) (kM_71 zb) := (kM_s70 hb).sI (by decide) 7 27
theorem kM_s72 {β : Mem} (hb : mL β = 37) : Sim β (kM_72 β) (kM_72 zb) := (kM_s71 hb).sI (by decide) 8 31
theorem kM_s73 {β : Mem} (hb : mL β = 37) : Sim β (kM_73 β) (kM_73 zb) := (kM_s72 hb).sI (by decide) 9 37
theorem kM_s74 {β : Mem} (hb : mL β = 37) : Sim β (kM_74 β) (kM_74 zb) := (kM_s73 hb).sI (by decide) 10 39
theorem kM_s75 {β : Mem} (hb : mL β = 37) : Sim β (kM_75 β) (kM_75 zb) := (kM_s74 hb).sI (by decide) 11 42
theorem kM_s76 {β : Mem} (hb : mL β = 37) : Sim β (kM_76 β) (kM_76 zb) := (kM_s75 hb).sI (by decide) 12 45
theorem kM_s77 {β : Mem} (hb : mL β = 37) : Sim β (kM_77 β) (kM_77 zb) := (kM_s76 hb).sP (by decide) 18 (some 46)
theorem kM_s78 {β : Mem} (hb : mL β = 37) : Sim β (kM_78 β) (kM_78 zb) := (kM_s77 hb).mN (14, 170)
theorem kM_s79 {β : Mem} (hb : mL β = 37) : Sim β (kM_79 β) (kM_79 zb) := (kM_s78 hb).sP (by decide) 19 (some 47)
theorem kM_s80 {β : Mem} (hb : mL β = 37) : Sim β (kM_80 β) (kM_80 zb) := (kM_s79 hb).mN (15, 8)
theorem kM_s81 {β : Mem} (hb : mL β = 37) : Sim β (kM_81 β) (kM_81 zb) := (kM_s80 hb).sP (by decide) 23 (some 48)
theorem kM_s82 {β : Mem} (hb : mL β = 37) : Sim β (kM_82 β) (kM_82 zb) := (kM_s81 hb).mN (14, 170)
theorem kM_s83 {β : Mem} (hb : mL β = 37) : Sim β (kM_83 β) (kM_83 zb) := (kM_s82 hb).sP (by decide) 26 (some 49)
theorem kM_s84 {β : Mem} (hb : mL β = 37) : Sim β (kM_84 β) (kM_84 zb) := (kM_s83 hb).mN (14, 6)
theorem kM_s85 {β : Mem} (hb : mL β = 37) : Sim β (kM_85 β) (kM_85 zb) := (kM_s84 hb).sP (by decide) 27 (some 50)
theorem kM_s86 {β : Mem} (hb : mL β = 37) : Sim β (kM_86 β) (kM_86 zb) := (kM_s85 hb).mN (14, 8)
theorem kM_s87 {β : Mem} (hb : mL β = 37) : Sim β (kM_87 β) (kM_87 zb) := (kM_s86 hb).sP (by decide) 29 (some 51)
theorem kM_s88 {β : Mem} (hb : mL β = 37) : Sim β (kM_88 β) (kM_88 zb) := (kM_s87 hb).mN (14, 64)
theorem kM_s89 {β : Mem} (hb : mL β = 37) : Sim β (kM_89 β) (kM_89 zb) := (kM_s88 hb).sP (by decide) 30 (some 52)
theorem kM_s90 {β : Mem} (hb : mL β = 37) : Sim β (kM_90 β) (kM_90 zb) := (kM_s89 hb).mN (14, 8)
theorem kM_s91 {β : Mem} (hb : mL β = 37) : Sim β (kM_91 β) (kM_91 zb) := (kM_s90 hb).sP (by decide) 31 (some 53)
theorem kM_s92 {β : Mem} (hb : mL β = 37) : Sim β (kM_92 β) (kM_92 zb) := (kM_s91 hb).mN (14, 8)
theorem kM_s93 {β : Mem} (hb : mL β = 37) : Sim β (kM_93 β) (kM_93 zb) := (kM_s92 hb).sP (by decide) 32 (some 54)
theorem kM_s94 {β : Mem} (hb : mL β = 37) : Sim β (kM_94 β) (kM_94 zb) := (kM_s93 hb).mN (14, 8)
theorem kM_s95 {β : Mem} (hb : mL β = 37) : Sim β (kM_95 β) (kM_95 zb) := (kM_s94 hb).sP (by decide) 33 (some 55)
theorem kM_s96 {β : Mem} (hb : mL β = 37) : Sim β (kM_96 β) (kM_96 zb) := (kM_s95 hb).mN (14, 3)
theorem kM_s97 {β : Mem} (hb : mL β = 37) : Sim β (kM_97 β) (kM_97 zb) := (kM_s96 hb).sP (by decide) 37 (some 56)
theorem kM_s98 {β : Mem} (hb : mL β = 37) : Sim β (kM_98 β) (kM_98 zb) := (kM_s97 hb).mN (14, 9)
theorem kM_s99 {β : Mem} (hb : mL β = 37) : Sim β (kM_99 β) (kM_99 zb) := (kM_s98 hb).sP (by decide) 38 (some 57)
theorem kM_s100 {β : Mem} (hb : mL β = 37) : Sim β (kM_100 β) (kM_100 zb) := (kM_s99 hb).mN (14, 8)
theorem kM_s101 {β : Mem} (hb : mL β = 37) : Sim β (kM_101 β) (kM_101 zb) := (kM_s100 hb).sP (by decide) 43 (some 58)
theorem kM_s102 {β : Mem} (hb : mL β = 37) : Sim β (kM_102 β) (kM_102 zb) := (kM_s101 hb).mN (14, 8)
theorem kM_s103 {β : Mem} (hb : mL β = 37) : Sim β (kM_103 β) (kM_103 zb) := (kM_s102 hb).sP (by decide) 44 (some 59)
theorem kM_s104 {β : Mem} (hb : mL β = 37) : Sim β (kM_104 β) (kM_104 zb) := (kM_s103 hb).mN (14, 8)
theorem kM_s105 {β : Mem} (hb : mL β = 37) : Sim β (kM_105 β) (kM_105 zb) := (kM_s104 hb).sP (by decide) 47 (some 60)
theorem kM_s106 {β : Mem} (hb : mL β = 37) : Sim β (kM_106 β) (kM_106 zb) := (kM_s105 hb).mN (14, 64)
theorem kM_s107 {β : Mem} (hb : mL β = 37) : Sim β (kM_107 β) (kM_107 zb) := (kM_s106 hb).sP (by decide) 48 (some 61)
theorem kM_s108 {β : Mem} (hb : mL β = 37) : Sim β (kM_108 β) (kM_108 zb) := (kM_s107 hb).mN (14, 8)
theorem kM_s109 {β : Mem} (hb : mL β = 37) : Sim β (kM_109 β) (kM_109 zb) := (kM_s108 hb).sP (by decide) 54 (some 62)
theorem kM_s110 {β : Mem} (hb : mL β = 37) : Sim β (kM_110 β) (kM_110 zb) := (kM_s109 hb).mN (14, 64)
theorem kM_s111 {β : Mem} (hb : mL β = 37) : Sim β (kM_111 β) (kM_111 zb) := (kM_s110 hb).sP (by decide) 55 (some 63)
theorem kM_s112 {β : Mem} (hb : mL β = 37) : Sim β (kM_112 β) (kM_112 zb) := (kM_s111 hb).mN (14, 4)
theorem kM_s113 {β : Mem} (hb : mL β = 37) : Sim β (kM_113 β) (kM_113 zb) := (kM_s112 hb).sI (by decide) 0 (-1)
theorem kM_s114 {β : Mem} (hb : mL β = 37) : Sim β (kM_114 β) (kM_114 zb) := (kM_s113 hb).sI (by decide) 1 (-1)
theorem kM_s115 {β : Mem} (hb : mL β = 37) : Sim β (kM_115 β) (kM_115 zb) := (kM_s114 hb).sI (by decide) 2 (-1)
theorem kM_s116 {β : Mem} (hb : mL β = 37) : Sim β (kM_116 β) (kM_116 zb) := (kM_s115 hb).sI (by decide) 3 (-1)
theorem kM_s117 {β : Mem} (hb : mL β = 37) : Sim β (kM_117 β) (kM_117 zb) := (kM_s116 hb).sP (by decide) 56 (some 64)
theorem kM_s118 {β : Mem} (hb : mL β = 37) : Sim β (kM_118 β) (kM_118 zb) := (kM_s117 hb).mN (14, 4)
theorem kM_s119 {β : Mem} (hb : mL β = 37) : Sim β (kM_119 β) (kM_119 zb) := (kM_s118 hb).sP (by decide) 57 (some 65)
theorem kM_s120 {β : Mem} (hb : mL β = 37) : Sim β (kM_120 β) (kM_120 zb) := (kM_s119 hb).mN (14, 160)
theorem kM_s121 {β : Mem} (hb : mL β = 37) : Sim β (kM_121 β) (kM_121 zb) := (kM_s120 hb).sP (by decide) 58 (some 66)
theorem kM_s122 {β : Mem} (hb : mL β = 37) : Sim β (kM_122 β) (kM_122 zb) := (kM_s121 hb).mN (14, 40)
theorem kM_s123 {β : Mem} (hb : mL β = 37) : Sim β (kM_123 β) (kM_123 zb) := (kM_s122 hb).sP (by decide) 59 (some 67)
theorem kM_s124 {β : Mem} (hb : mL β = 37) : Sim β (kM_124 β) (kM_124 zb) := (kM_s123 hb).sI (by decide) 0 0
theorem kM_s125 {β : Mem} (hb : mL β = 37) : Sim β (kM_125 β) (kM_125 zb) := (kM_s124 hb).sI (by decide) 1 1
theorem kM_s126 {β : Mem} (hb : mL β = 37) : Sim β (kM_126 β) (kM_126 zb) := (kM_s125 hb).sI (by decide) 2 13
theorem kM_s127 {β : Mem} (hb : mL β = 37) : Sim β (kM_127 β) (kM_127 zb) := (kM_s126 hb).sI (by decide) 0 3
theorem kM_s128 {β : Mem} (hb : mL β = 37) : Sim β (kM_128 β) (kM_128 zb) := (kM_s127 hb).sI (by decide) 160 (-2)
theorem kM_s129 {β : Mem} (hb : mL β = 37) : Sim β (kM_129 β) (kM_129 zb) := (kM_s128 hb).sI (by decide) 161 4
theorem kM_s130 {β : Mem} (hb : mL β = 37) : Sim β (kM_130 β) (kM_130 zb) := (kM_s129 hb).sI (by decide) 162 16
theorem kM_s131 {β : Mem} (hb : mL β = 37) : Sim β (kM_131 β) (kM_131 zb) := (kM_s130 hb).sI (by decide) 1 3
theorem kM_s132 {β : Mem} (hb : mL β = 37) : Sim β (kM_132 β) (kM_132 zb) := (kM_s131 hb).sI (by decide) 320 0
theorem kM_s133 {β : Mem} (hb : mL β = 37) : Sim β (kM_133 β) (kM_133 zb) := (kM_s132 hb).sI (by decide) 2 1
theorem kM_s134 {β : Mem} (hb : mL β = 37) : Sim β (kM_134 β) (kM_134 zb) := (kM_s133 hb).sI (by decide) 9 1
theorem kM_s135 {β : Mem} (hb : mL β = 37) : Sim β (kM_135 β) (kM_135 zb) := (kM_s134 hb).sI (by decide) 0 0
theorem kM_s136 {β : Mem} (hb : mL β = 37) : Sim β (kM_136 β) (kM_136 zb) := (kM_s135 hb).sI (by decide) 1 1
theorem kM_s137 {β : Mem} (hb : mL β = 37) : Sim β (kM_137 β) (kM_137 zb) := (kM_s136 hb).sI (by decide) 2 2
theorem kM_s138 {β : Mem} (hb : mL β = 37) : Sim β (kM_138 β) (kM_138 zb) := (kM_s137 hb).sI (by decide) 3 3
theorem kM_s139 {β : Mem} (hb : mL β = 37) : Sim β (kM_139 β) (kM_139 zb) := (kM_s138 hb).sI (by decide) 4 4
theorem kM_s140 {β : Mem} (hb : mL β = 37) : Sim β (kM_140 β) (kM_140 zb) := (kM_s139 hb).sI (by decide) 5 5
theorem kM_s141 {β : Mem} (hb : mL β = 37) : Sim β (kM_141 β) (kM_141 zb) := (kM_s140 hb).sI (by decide) 6 6
theorem kM_s142 {β : Mem} (hb : mL β = 37) : Sim β (kM_142 β) (kM_142 zb) := (kM_s141 hb).sI (by decide) 7 7
theorem kM_L0 {β : Mem} (hb : mL β = 37) : mL (kM_0 β) = 38 := (kM_s0 hb).1.trans (by decide +kernel)
theorem kM_T1_37 {β : Mem} (hb : mL β = 37) : mT (kM_1 β) 37 = some (12, 0) := ((kM_s1 hb).2.1 37 (by decide)).trans (by decide +kernel)
theorem kM_L2 {β : Mem} (hb : mL β = 37) : mL (kM_2 β) = 39 := (kM_s2 hb).1.trans (by decide +kernel)
theorem kM_T3_37 {β : Mem} (hb : mL β = 37) : mT (kM_3 β) 37 = some (12, 0) := ((kM_s3 hb).2.1 37 (by decide)).trans (by decide +kernel)
theorem kM_L4 {β : Mem} (hb : mL β = 37) : mL (kM_4 β) = 40 := (kM_s4 hb).1.trans (by decide +kernel)
theorem kM_T5_37 {β : Mem} (hb : mL β = 37) : mT (kM_5 β) 37 = some (12, 0) := ((kM_s5 hb).2.1 37 (by decide)).trans (by decide +kernel)
theorem kM_L6 {β : Mem} (hb : mL β = 37) : mL (kM_6 β) = 41 := (kM_s6 hb).1.trans (by decide +kernel)
theorem kM_T7_37 {β : Mem} (hb : mL β = 37) : mT (kM_7 β) 37 = some (12, 0) := ((kM_s7 hb).2.1 37 (by decide)).trans (by decide +kernel)
theorem kM_T8_37 {β : Mem} (hb : mL β = 37) : mT (kM_8 β) 37 = some (12, 0) := ((kM_s8 hb).2.1 37 (by decide)).trans (by decide +kernel)
theorem kM_L9 {β : Mem} (hb : mL β = 37) : mL (kM_9 β) = 42 := (kM_s9 hb).1.trans (by decide +kernel)
theorem kM_T10_37 {β : Mem} (hb : mL β = 37) : mT (kM_10 β) 37 = some (12, 0) := ((kM_s10 hb).2.1 37 (by decide)).trans (by decide +kernel)
theorem kM_L11 {β : Mem} (hb : mL β = 37) : mL (kM_11 β) = 43 := (kM_s11 hb).1.trans (by decide +kernel)
theorem kM_T12_37 {β : Mem} (hb : mL β = 37) : mT (kM_12 β) 37 = some (12, 0) := ((kM_s12 hb).2.1 37 (by decide)).trans (by decide +kernel)
theorem kM_L13 {β : Mem} (hb : mL β = 37) : mL (kM_13 β) = 44 := (kM_s13 hb).1.trans (by decide +kernel)
theorem kM_T14_37 {β : Mem} (hb : mL β = 37) : mT (kM_14 β) 37 = some (12, 0) := ((kM_s14 hb).2.1 37 (by decide)).trans (by decide +kernel)
theorem kM_L15 {β : Mem} (hb : mL β = 37) : mL (kM_15 β) = 45 := (kM_s15 hb).1.trans (by decide +kernel)
theorem kM_T16_45 {β : Mem} (hb : mL β = 37) : mT (kM_16 β) 45 = some (13, 45) := ((kM_s16 hb).2.1 45 (by decide)).trans (by decide +kernel)
theorem kM_T17_45 {β : Mem} (hb : mL β = 37) : mT (kM_17 β) 45 = some (13, 45) := ((kM_s17 hb).2.1 45 (by decide)).trans (by decide +kernel)
theorem kM_T18_45 {β : Mem} (hb : mL β = 37) : mT (kM_18 β) 45 = some (13, 45) := ((kM_s18 hb).2.1 45 (by decide)).trans (by decide +kernel)
theorem kM_T19_45 {β : Mem} (hb : mL β = 37) : mT (kM_19 β) 45 = some (13, 45) := ((kM_s19 hb).2.1 45 (by decide)).trans (by decide +kernel)
theorem kM_T20_45 {β : Mem} (hb : mL β = 37) : mT (kM_20 β) 45 = some (13, 45) := ((kM_s20 hb).2.1 45 (by decide)).trans (by decide +kernel)
theorem kM_T21_45 {β : Mem} (hb : mL β = 37) : mT (kM_21 β) 45 = some (13, 45) := ((kM_s21 hb).2.1 45 (by decide)).trans (by decide +kernel)
theorem kM_T22_45 {β : Mem} (hb : mL β = 37) : mT (kM_22 β) 45 = some (13, 45) := ((kM_s22 hb).2.1 45 (by decide)).trans (by decide +kernel)
theorem kM_T23_45 {β : Mem} (hb : mL β = 37) : mT (kM_23 β) 45 = some (13, 45) := ((kM_s23 hb).2.1 45 (by decide)).trans (by decide +kernel)
theorem kM_T24_45 {β : Mem} (hb : mL β = 37) : mT (kM_24 β) 45 = some (13, 45) := ((kM_s24 hb).2.1 45 (by decide)).trans (by decide +kernel)
theorem kM_T25_45 {β : Mem} (hb : mL β = 37) : mT (kM_25 β) 45 = some (13, 45) := ((kM_s25 hb).2.1 45 (by decide)).trans (by decide +kernel)
theorem kM_T26_45 {β : Mem} (hb : mL β = 37) : mT (kM_26 β) 45 = some (13, 45) := ((kM_s26 hb).2.1 45 (by decide)).trans (by decide +kernel)
theorem kM_T27_45 {β : Mem} (hb : mL β = 37) : mT (kM_27 β) 45 = some (13, 45) := ((kM_s27 hb).2.1 45 (by decide)).trans (by decide +kernel)
theorem kM_T28_45 {β : Mem} (hb : mL β = 37) : mT (kM_28 β) 45 = some (13, 45) := ((kM_s28 hb).2.1 45 (by decide)).trans (by decide +kernel)
theorem kM_T29_45 {β : Mem} (hb : mL β = 37) : mT (kM_29 β) 45 = some (13, 45) := ((kM_s29 hb).2.1 45 (by decide)).trans (by decide +kernel)
theorem kM_T30_45 {β : Mem} (hb : mL β = 37) : mT (kM_30 β) 45 = some (13, 45) := ((kM_s30 hb).2.1 45 (by decide)).trans (by decide +kernel)
theorem kM_T31_45 {β : Mem} (hb : mL β = 37) : mT (kM_31 β) 45 = some (13, 45) := ((kM_s31 hb).2.1 45 (by decide)).trans (by decide +kernel)
theorem kM_T32_45 {β : Mem} (hb : mL β = 37) : mT (kM_32 β) 45 = some (13, 45) := ((kM_s32 hb).2.1 45 (by decide)).trans (by decide +kernel)
theorem kM_T33_45 {β : Mem} (hb : mL β = 37) : mT (kM_33 β) 45 = some (13, 45) := ((kM_s33 hb).2.1 45 (by decide)).trans (by decide +kernel)
theorem kM_T34_45 {β : Mem} (hb : mL β = 37) : mT (kM_34 β) 45 = some (13, 45) := ((kM_s34 hb).2.1 45 (by decide)).trans (by decide +kernel)
theorem kM_T35_45 {β : Mem} (hb : mL β = 37) : mT (kM_35 β) 45 = some (13, 45) := ((kM_s35 hb).2.1 45 (by decide)).trans (by decide +kernel)
theorem kM_T36_45 {β : Mem} (hb : mL β = 37) : mT (kM_36 β) 45 = some (13, 45) := ((kM_s36 hb).2.1 45 (by decide)).trans (by decide +kernel)
theorem kM_T37_45 {β : Mem} (hb : mL β = 37) : mT (kM_37 β) 45 = some (13, 45) := ((kM_s37 hb).2.1 45 (by decide)).trans (by decide +kernel)
theorem kM_T38_45 {β : Mem} (hb : mL β = 37) : mT (kM_38 β) 45 = some (13, 45) := ((kM_s38 hb).2.1 45 (by decide)).trans (by decide +kernel)
theorem kM_T39_45 {β : Mem} (hb : mL β = 37) : mT (kM_39 β) 45 = some (13, 45) := ((kM_s39 hb).2.1 45 (by decide)).trans (by decide +kernel)
theorem kM_T40_45 {β : Mem} (hb : mL β = 37) : mT (kM_40 β) 45 = some (13, 45) := ((kM_s40 hb).2.1 45 (by decide)).trans (by decide +kernel)
theorem kM_T41_45 {β : Mem} (hb : mL β = 37) : mT (kM_41 β) 45 = some (13, 45) := ((kM_s41 hb).2.1 45 (by decide)).trans (by decide +kernel)
theorem kM_T42_45 {β : Mem} (hb : mL β = 37) : mT (kM_42 β) 45 = some (13, 45) := ((kM_s42 hb).2.1 45 (by decide)).trans (by decide +kernel)
theorem kM_T43_45 {β : Mem} (hb : mL β = 37) : mT (kM_43 β) 45 = some (13, 45) := ((kM_s43 hb).2.1 45 (by decide)).trans (by decide +kernel)
theorem kM_T44_45 {β : Mem} (hb : mL β = 37) : mT (kM_44 β) 45 = some (13, 45) := ((kM_s44 hb).2.1 45 (by decide)).trans (by decide +kernel)
theorem kM_T45_45 {β : Mem} (hb : mL β = 37) : mT (kM_45 β) 45 = some (13, 45) := ((kM_s45 hb).2.1 45 (by decide)).trans (by decide +kernel)
theorem kM_T46_45 {β : Mem} (hb : mL β = 37) : mT (kM_46 β) 45 = some (13, 45) := ((kM_s46 hb).2.1 45 (by decide)).trans (by decide +kernel)
theorem kM_T47_45 {β : Mem} (hb : mL β = 37) : mT (kM_47 β) 45 = some (13, 45) := ((kM_s47 hb).2.1 45 (by decide)).trans (by decide +kernel)
theorem kM_T48_45 {β : Mem} (hb : mL β = 37) : mT (kM_48 β) 45 = some (13, 45) := ((kM_s48 hb).2.1 45 (by decide)).trans (by decide +kernel)
theorem kM_T49_45 {β : Mem} (hb : mL β = 37) : mT (kM_49 β) 45 = some (13, 45) := ((kM_s49 hb).2.1 45 (by decide)).trans (by decide +kernel)
theorem kM_T50_45 {β : Mem} (hb : mL β = 37) : mT (kM_50 β) 45 = some (13, 45) := ((kM_s50 hb).2.1 45 (by decide)).trans (by decide +kernel)
theorem kM_T51_45 {β : Mem} (hb : mL β = 37) : mT (kM_51 β) 45 = some (13, 45) := ((kM_s51 hb).2.1 45 (by decide)).trans (by decide +kernel)
theorem kM_T52_45 {β : Mem} (hb : mL β = 37) : mT (kM_52 β) 45 = some (13, 45) := ((kM_s52 hb).2.1 45 (by decide)).trans (by decide +kernel)
theorem kM_T53_45 {β : Mem} (hb : mL β = 37) : mT (kM_53 β) 45 = some (13, 45) := ((kM_s53 hb).2.1 45 (by decide)).trans (by decide +kernel)
theorem kM_T54_45 {β : Mem} (hb : mL β = 37) : mT (kM_54 β) 45 = some (13, 45) := ((kM_s54 hb).2.1 45 (by decide)).trans (by decide +kernel)
theorem kM_T55_45 {β : Mem} (hb : mL β = 37) : mT (kM_55 β) 45 = some (13, 45) := ((kM_s55 hb).2.1 45 (by decide)).trans (by decide +kernel)
theorem kM_T56_45 {β : Mem} (hb : mL β = 37) : mT (kM_56 β) 45 = some (13, 45) := ((kM_s56 hb).2.1 45 (by decide)).trans (by decide +kernel)
theorem kM_T57_45 {β : Mem} (hb : mL β = 37) : mT (kM_57 β) 45 = some (13, 45) := ((kM_s57 hb).2.1 45 (by decide)).trans (by decide +kernel)
theorem kM_T58_45 {β : Mem} (hb : mL β = 37) : mT (kM_58 β) 45 = some (13, 45) := ((kM_s58 hb).2.1 45 (by decide)).trans (by decide +kernel)
theorem kM_T59_45 {β : Mem} (hb : mL β = 37) : mT (kM_59 β) 45 = some (13, 45) := ((kM_s59 hb).2.1 45 (by decide)).trans (by decide +kernel)
theorem kM_T60_45 {β : Mem} (hb : mL β = 37) : mT (kM_60 β) 45 = some (13, 45) := ((kM_s60 hb).2.1 45 (by decide)).trans (by decide +kernel)
theorem kM_T61_37 {β : Mem} (hb : mL β = 37) : mT (kM_61 β) 37 = some (12, 0) := ((kM_s61 hb).2.1 37 (by decide)).trans (by decide +kernel)
theorem kM_L62 {β : Mem} (hb : mL β = 37) : mL (kM_62 β) = 46 := (kM_s62 hb).1.trans (by decide +kernel)
theorem kM_T63_46 {β : Mem} (hb : mL β = 37) : mT (kM_63 β) 46 = some (14, 13) := ((kM_s63 hb).2.1 46 (by decide)).trans (by decide +kernel)
theorem kM_T64_46 {β : Mem} (hb : mL β = 37) : mT (kM_64 β) 46 = some (14, 13) := ((kM_s64 hb).2.1 46 (by decide)).trans (by decide +kernel)
theorem kM_T65_46 {β : Mem} (hb : mL β = 37) : mT (kM_65 β) 46 = some (14, 13) := ((kM_s65 hb).2.1 46 (by decide)).trans (by decide +kernel)
theorem kM_T66_46 {β : Mem} (hb : mL β = 37) : mT (kM_66 β) 46 = some (14, 13) := ((kM_s66 hb).2.1 46 (by decide)).trans (by decide +kernel)
theorem kM_T67_46 {β : Mem} (hb : mL β = 37) : mT (kM_67 β) 46 = some (14, 13) := ((kM_s67 hb).2.1 46 (by decide)).trans (by decide +kernel)
theorem kM_T68_46 {β : Mem} (hb : mL β = 37) : mT (kM_68 β) 46 = some (14, 13) := ((kM_s68 hb).2.1 46 (by decide)).trans (by decide +kernel)
theorem kM_T69_46 {β : Mem} (hb : mL β = 37) : mT (kM_69 β) 46 = some (14, 13) := ((kM_s69 hb).2.1 46 (by decide)).trans (by decide +kernel)
theorem kM_T70_46 {β : Mem} (hb : mL β = 37) : mT (kM_70 β) 46 = some (14, 13) := ((kM_s70 hb).2.1 46 (by decide)).trans (by decide +kernel)
theorem kM_T71_46 {β : Mem} (hb : mL β = 37) : mT (kM_71 β) 46 = some (14, 13) := ((kM_s71 hb).2.1 46 (by decide)).trans (by decide +kernel)
theorem kM_T72_46 {β : Mem} (hb : mL β = 37) : mT (kM_72 β) 46 = some (14, 13) := ((kM_s72 hb).2.1 46 (by decide)).trans (by decide +kernel)
theorem kM_T73_46 {β : Mem} (hb : mL β = 37) : mT (kM_73 β) 46 = some (14, 13) := ((kM_s73 hb).2.1 46 (by decide)).trans (by decide +kernel)
theorem kM_T74_46 {β : Mem} (hb : mL β = 37) : mT (kM_74 β) 46 = some (14, 13) := ((kM_s74 hb).2.1 46 (by decide)).trans (by decide +kernel)
theorem kM_T75_46 {β : Mem} (hb : mL β = 37) : mT (kM_75 β) 46 = some (14, 13) := ((kM_s75 hb).2.1 46 (by decide)).trans (by decide +kernel)
theorem kM_T76_37 {β : Mem} (hb : mL β = 37) : mT (kM_76 β) 37 = some (12, 0) := ((kM_s76 hb).2.1 37 (by decide)).trans (by decide +kernel)
theorem kM_L77 {β : Mem} (hb : mL β = 37) : mL (kM_77 β) = 47 := (kM_s77 hb).1.trans (by decide +kernel)
theorem kM_T78_37 {β : Mem} (hb : mL β = 37) : mT (kM_78 β) 37 = some (12, 0) := ((kM_s78 hb).2.1 37 (by decide)).trans (by decide +kernel)
theorem kM_L79 {β : Mem} (hb : mL β = 37) : mL (kM_79 β) = 48 := (kM_s79 hb).1.trans (by decide +kernel)
theorem kM_T80_37 {β : Mem} (hb : mL β = 37) : mT (kM_80 β) 37 = some (12, 0) := ((kM_s80 hb).2.1 37 (by decide)).trans (by decide +kernel)
theorem kM_L81 {β : Mem} (hb : mL β = 37) : mL (kM_81 β) = 49 := (kM_s81 hb).1.trans (by decide +kernel)
theorem kM_T82_37 {β : Mem} (hb : mL β = 37) : mT (kM_82 β) 37 = some (12, 0) := ((kM_s82 hb).2.1 37 (by decide)).trans (by decide +kernel)
theorem kM_L83 {β : Mem} (hb : mL β = 37) : mL (kM_83 β) = 50 := (kM_s83 hb).1.trans (by decide +kernel)
theorem kM_T84_37 {β : Mem} (hb : mL β = 37) : mT (kM_84 β) 37 = some (12, 0) := ((kM_s84 hb).2.1 37 (by decide)).trans (by decide +kernel)
theorem kM_L85 {β : Mem} (hb : mL β = 37) : mL (kM_85 β) = 51 := (kM_s85 hb).1.trans (by decide +kernel)
theorem kM_T86_37 {β : Mem} (hb : mL β = 37) : mT (kM_86 β) 37 = some (12, 0) := ((kM_s86 hb).2.1 37 (by decide)).trans (by decide +kernel)
theorem kM_L87 {β : Mem} (hb : mL β = 37) : mL (kM_87 β) = 52 := (kM_s87 hb).1.trans (by decide +kernel)
theorem kM_T88_37 {β : Mem} (hb : mL β = 37) : mT (kM_88 β) 37 = some (12, 0) := ((kM_s88 hb).2.1 37 (by decide)).trans (by decide +kernel)
theorem kM_L89 {β : Mem} (hb : mL β = 37) : mL (kM_89 β) = 53 := (kM_s89 hb).1.trans (by decide +kernel)
theorem kM_T90_37 {β : Mem} (hb : mL β = 37) : mT (kM_90 β) 37 = some (12, 0) := ((kM_s90 hb).2.1 37 (by decide)).trans (by decide +kernel)
theorem kM_L91 {β : Mem} (hb : mL β = 37) : mL (kM_91 β) = 54 := (kM_s91 hb).1.trans (by decide +kernel)
theorem kM_T92_37 {β : Mem} (hb : mL β = 37) : mT (kM_92 β) 37 = some (12, 0) := ((kM_s92 hb).2.1 37 (by decide)).trans (by decide +kernel)
theorem kM_L93 {β : Mem} (hb : mL β = 37) : mL (kM_93 β) = 55 := (kM_s93 hb).1.trans (by decide +kernel)
theorem kM_T94_37 {β : Mem} (hb : mL β = 37) : mT (kM_94 β) 37 = some (12, 0) := ((kM_s94 hb).2.1 37 (by decide)).trans (by decide +kernel)
theorem kM_L95 {β : Mem} (hb : mL β = 37) : mL (kM_95 β) = 56 := (kM_s95 hb).1.trans (by decide +kernel)
theorem kM_T96_37 {β : Mem} (hb : mL β = 37) : mT (kM_96 β) 37 = some (12, 0) := ((kM_s96 hb).2.1 37 (by decide)).trans (by decide +kernel)
theorem kM_L97 {β : Mem} (hb : mL β = 37) : mL (kM_97 β) = 57 := (kM_s97 hb).1.trans (by decide +kernel)
theorem kM_T98_37 {β : Mem} (hb : mL β = 37) : mT (kM_98 β) 37 = some (12, 0) := ((kM_s98 hb).2.1 37 (by decide)).trans (by decide +kernel)
theorem kM_L99 {β : Mem} (hb : mL β = 37) : mL (kM_99 β) = 58 := (kM_s99 hb).1.trans (by decide +kernel)
theorem kM_T100_37 {β : Mem} (hb : mL β = 37) : mT (kM_100 β) 37 = some (12, 0) := ((kM_s100 hb).2.1 37 (by decide)).trans (by decide +kernel)
theorem kM_L101 {β : Mem} (hb : mL β = 37) : mL (kM_101 β) = 59 := (kM_s101 hb).1.trans (by decide +kernel)
theorem kM_T102_37 {β : Mem} (hb : mL β = 37) : mT (kM_102 β) 37 = some (12, 0) := ((kM_s102 hb).2.1 37 (by decide)).trans (by decide +kernel)
theorem kM_L103 {β : Mem} (hb : mL β = 37) : mL (kM_103 β) = 60 := (kM_s103 hb).1.trans (by decide +kernel)
theorem kM_T104_37 {β : Mem} (hb : mL β = 37) : mT (kM_104 β) 37 = some (12, 0) := ((kM_s104 hb).2.1 37 (by decide)).trans (by decide +kernel)
theorem kM_L105 {β : Mem} (hb : mL β = 37) : mL (kM_105 β) = 61 := (kM_s105 hb).1.trans (by decide +kernel)
theorem kM_T106_37 {β : Mem} (hb : mL β = 37) : mT (kM_106 β) 37 = some (12, 0) := ((kM_s106 hb).2.1 37 (by decide)).trans (by decide +kernel)
theorem kM_L107 {β : Mem} (hb : mL β = 37) : mL (kM_107 β) = 62 := (kM_s107 hb).1.trans (by decide +kernel)
theorem kM_T108_37 {β : Mem} (hb : mL β = 37) : mT (kM_108 β) 37 = some (12, 0) := ((kM_s108 hb).2.1 37 (by decide)).trans (by decide +kernel)
theorem kM_L109 {β : Mem} (hb : mL β = 37) : mL (kM_109 β) = 63 := (kM_s109 hb).1.trans (by decide +kernel)
theorem kM_T110_37 {β : Mem} (hb : mL β = 37) : mT (kM_110 β) 37 = some (12, 0) := ((kM_s110 hb).2.1 37 (by decide)).trans (by decide +kernel)
theorem kM_L111 {β : Mem} (hb : mL β = 37) : mL (kM_111 β) = 64 := (kM_s111 hb).1.trans (by decide +kernel)
theorem kM_T112_64 {β : Mem} (hb : mL β = 37) : mT (kM_112 β) 64 = some (14, 4) := ((kM_s112 hb).2.1 64 (by decide)).trans (by decide +kernel)
theorem kM_T113_64 {β : Mem} (hb : mL β = 37) : mT (kM_113 β) 64 = some (14, 4) := ((kM_s113 hb).2.1 64 (by decide)).trans (by decide +kernel)
theorem kM_T114_64 {β : Mem} (hb : mL β = 37) : mT (kM_114 β) 64 = some (14, 4) := ((kM_s114 hb).2.1 64 (by decide)).trans (by decide +kernel)
theorem kM_T115_64 {β : Mem} (hb : mL β = 37) : mT (kM_115 β) 64 = some (14, 4) := ((kM_s115 hb).2.1 64 (by decide)).trans (by decide +kernel)
theorem kM_T116_37 {β : Mem} (hb : mL β = 37) : mT (kM_116 β) 37 = some (12, 0) := ((kM_s116 hb).2.1 37 (by decide)).trans (by decide +kernel)
theorem kM_L117 {β : Mem} (hb : mL β = 37) : mL (kM_117 β) = 65 := (kM_s117 hb).1.trans (by decide +kernel)
theorem kM_T118_37 {β : Mem} (hb : mL β = 37) : mT (kM_118 β) 37 = some (12, 0) := ((kM_s118 hb).2.1 37 (by decide)).trans (by decide +kernel)
theorem kM_L119 {β : Mem} (hb : mL β = 37) : mL (kM_119 β) = 66 := (kM_s119 hb).1.trans (by decide +kernel)
theorem kM_T120_37 {β : Mem} (hb : mL β = 37) : mT (kM_120 β) 37 = some (12, 0) := ((kM_s120 hb).2.1 37 (by decide)).trans (by decide +kernel)
theorem kM_L121 {β : Mem} (hb : mL β = 37) : mL (kM_121 β) = 67 := (kM_s121 hb).1.trans (by decide +kernel)
theorem kM_T122_37 {β : Mem} (hb : mL β = 37) : mT (kM_122 β) 37 = some (12, 0) := ((kM_s122 hb).2.1 37 (by decide)).trans (by decide +kernel)
theorem kM_T123_37 {β : Mem} (hb : mL β = 37) : mT (kM_123 β) 37 = some (12, 0) := ((kM_s123 hb).2.1 37 (by decide)).trans (by decide +kernel)
theorem kM_P123_37_11 {β : Mem} (hb : mL β = 37) : mP (kM_123 β) 37 11 = some 43 := ((kM_s123 hb).2.2.1 37 11 (by decide +kernel)).2.trans (by decide +kernel)
theorem kM_T123_43 {β : Mem} (hb : mL β = 37) : mT (kM_123 β) 43 = some (14, 2880) := ((kM_s123 hb).2.1 43 (by decide)).trans (by decide +kernel)
theorem kM_T124_37 {β : Mem} (hb : mL β = 37) : mT (kM_124 β) 37 = some (12, 0) := ((kM_s124 hb).2.1 37 (by decide)).trans (by decide +kernel)
theorem kM_P124_37_11 {β : Mem} (hb : mL β = 37) : mP (kM_124 β) 37 11 = some 43 := ((kM_s124 hb).2.2.1 37 11 (by decide +kernel)).2.trans (by decide +kernel)
theorem kM_T124_43 {β : Mem} (hb : mL β = 37) : mT (kM_124 β) 43 = some (14, 2880) := ((kM_s124 hb).2.1 43 (by decide)).trans (by decide +kernel)
theorem kM_T125_37 {β : Mem} (hb : mL β = 37) : mT (kM_125 β) 37 = some (12, 0) := ((kM_s125 hb).2.1 37 (by decide)).trans (by decide +kernel)
theorem kM_P125_37_11 {β : Mem} (hb : mL β = 37) : mP (kM_125 β) 37 11 = some 43 := ((kM_s125 hb).2.2.1 37 11 (by decide +kernel)).2.trans (by decide +kernel)
theorem kM_T125_43 {β : Mem} (hb : mL β = 37) : mT (kM_125 β) 43 = some (14, 2880) := ((kM_s125 hb).2.1 43 (by decide)).trans (by decide +kernel)
theorem kM_T126_37 {β : Mem} (hb : mL β = 37) : mT (kM_126 β) 37 = some (12, 0) := ((kM_s126 hb).2.1 37 (by decide)).trans (by decide +kernel)
theorem kM_P126_37_12 {β : Mem} (hb : mL β = 37) : mP (kM_126 β) 37 12 = some 44 := ((kM_s126 hb).2.2.1 37 12 (by decide +kernel)).2.trans (by decide +kernel)
theorem kM_T126_44 {β : Mem} (hb : mL β = 37) : mT (kM_126 β) 44 = some (14, 18) := ((kM_s126 hb).2.1 44 (by decide)).trans (by decide +kernel)
theorem kM_T127_37 {β : Mem} (hb : mL β = 37) : mT (kM_127 β) 37 = some (12, 0) := ((kM_s127 hb).2.1 37 (by decide)).trans (by decide +kernel)
theorem kM_P127_37_11 {β : Mem} (hb : mL β = 37) : mP (kM_127 β) 37 11 = some 43 := ((kM_s127 hb).2.2.1 37 11 (by decide +kernel)).2.trans (by decide +kernel)
theorem kM_T127_43 {β : Mem} (hb : mL β = 37) : mT (kM_127 β) 43 = some (14, 2880) := ((kM_s127 hb).2.1 43 (by decide)).trans (by decide +kernel)
theorem kM_T128_37 {β : Mem} (hb : mL β = 37) : mT (kM_128 β) 37 = some (12, 0) := ((kM_s128 hb).2.1 37 (by decide)).trans (by decide +kernel)
theorem kM_P128_37_11 {β : Mem} (hb : mL β = 37) : mP (kM_128 β) 37 11 = some 43 := ((kM_s128 hb).2.2.1 37 11 (by decide +kernel)).2.trans (by decide +kernel)
theorem kM_T128_43 {β : Mem} (hb : mL β = 37) : mT (kM_128 β) 43 = some (14, 2880) := ((kM_s128 hb).2.1 43 (by decide)).trans (by decide +kernel)
theorem kM_T129_37 {β : Mem} (hb : mL β = 37) : mT (kM_129 β) 37 = some (12, 0) := ((kM_s129 hb).2.1 37 (by decide)).trans (by decide +kernel)
theorem kM_P129_37_11 {β : Mem} (hb : mL β = 37) : mP (kM_129 β) 37 11 = some 43 := ((kM_s129 hb).2.2.1 37 11 (by decide +kernel)).2.trans (by decide +kernel)
theorem kM_T129_43 {β : Mem} (hb : mL β = 37) : mT (kM_129 β) 43 = some (14, 2880) := ((kM_s129 hb).2.1 43 (by decide)).trans (by decide +kernel)
theorem kM_T130_37 {β : Mem} (hb : mL β = 37) : mT (kM_130 β) 37 = some (12, 0) := ((kM_s130 hb).2.1 37 (by decide)).trans (by decide +kernel)
theorem kM_P130_37_12 {β : Mem} (hb : mL β = 37) : mP (kM_130 β) 37 12 = some 44 := ((kM_s130 hb).2.2.1 37 12 (by decide +kernel)).2.trans (by decide +kernel)
theorem kM_T130_44 {β : Mem} (hb : mL β = 37) : mT (kM_130 β) 44 = some (14, 18) := ((kM_s130 hb).2.1 44 (by decide)).trans (by decide +kernel)
theorem kM_T131_37 {β : Mem} (hb : mL β = 37) : mT (kM_131 β) 37 = some (12, 0) := ((kM_s131 hb).2.1 37 (by decide)).trans (by decide +kernel)
theorem kM_P131_37_11 {β : Mem} (hb : mL β = 37) : mP (kM_131 β) 37 11 = some 43 := ((kM_s131 hb).2.2.1 37 11 (by decide +kernel)).2.trans (by decide +kernel)
theorem kM_T131_43 {β : Mem} (hb : mL β = 37) : mT (kM_131 β) 43 = some (14, 2880) := ((kM_s131 hb).2.1 43 (by decide)).trans (by decide +kernel)
theorem kM_T132_37 {β : Mem} (hb : mL β = 37) : mT (kM_132 β) 37 = some (12, 0) := ((kM_s132 hb).2.1 37 (by decide)).trans (by decide +kernel)
theorem kM_P132_37_12 {β : Mem} (hb : mL β = 37) : mP (kM_132 β) 37 12 = some 44 := ((kM_s132 hb).2.2.1 37 12 (by decide +kernel)).2.trans (by decide +kernel)
theorem kM_T132_44 {β : Mem} (hb : mL β = 37) : mT (kM_132 β) 44 = some (14, 18) := ((kM_s132 hb).2.1 44 (by decide)).trans (by decide +kernel)
theorem kM_T133_37 {β : Mem} (hb : mL β = 37) : mT (kM_133 β) 37 = some (12, 0) := ((kM_s133 hb).2.1 37 (by decide)).trans (by decide +kernel)
theorem kM_T134_37 {β : Mem} (hb : mL β = 37) : mT (kM_134 β) 37 = some (12, 0) := ((kM_s134 hb).2.1 37 (by decide)).trans (by decide +kernel)
theorem kM_P134_37_31 {β : Mem} (hb : mL β = 37) : mP (kM_134 β) 37 31 = some 53 := ((kM_s134 hb).2.2.1 37 31 (by decide +kernel)).2.trans (by decide +kernel)
theorem kM_T134_53 {β : Mem} (hb : mL β = 37) : mT (kM_134 β) 53 = some (14, 8) := ((kM_s134 hb).2.1 53 (by decide)).trans (by decide +kernel)
theorem kM_T135_37 {β : Mem} (hb : mL β = 37) : mT (kM_135 β) 37 = some (12, 0) := ((kM_s135 hb).2.1 37 (by decide)).trans (by decide +kernel)
theorem kM_P135_37_31 {β : Mem} (hb : mL β = 37) : mP (kM_135 β) 37 31 = some 53 := ((kM_s135 hb).2.2.1 37 31 (by decide +kernel)).2.trans (by decide +kernel)
theorem kM_T135_53 {β : Mem} (hb : mL β = 37) : mT (kM_135 β) 53 = some (14, 8) := ((kM_s135 hb).2.1 53 (by decide)).trans (by decide +kernel)
theorem kM_T136_37 {β : Mem} (hb : mL β = 37) : mT (kM_136 β) 37 = some (12, 0) := ((kM_s136 hb).2.1 37 (by decide)).trans (by decide +kernel)
theorem kM_P136_37_31 {β : Mem} (hb : mL β = 37) : mP (kM_136 β) 37 31 = some 53 := ((kM_s136 hb).2.2.1 37 31 (by decide +kernel)).2.trans (by decide +kernel)
theorem kM_T136_53 {β : Mem} (hb : mL β = 37) : mT (kM_136 β) 53 = some (14, 8) := ((kM_s136 hb).2.1 53 (by decide)).trans (by decide +kernel)
theorem kM_T137_37 {β : Mem} (hb : mL β = 37) : mT (kM_137 β) 37 = some (12, 0) := ((kM_s137 hb).2.1 37 (by decide)).trans (by decide +kernel)
theorem kM_P137_37_31 {β : Mem} (hb : mL β = 37) : mP (kM_137 β) 37 31 = some 53 := ((kM_s137 hb).2.2.1 37 31 (by decide +kernel)).2.trans (by decide +kernel)
theorem kM_T137_53 {β : Mem} (hb : mL β = 37) : mT (kM_137 β) 53 = some (14, 8) := ((kM_s137 hb).2.1 53 (by decide)).trans (by decide +kernel)
theorem kM_T138_37 {β : Mem} (hb : mL β = 37) : mT (kM_138 β) 37 = some (12, 0) := ((kM_s138 hb).2.1 37 (by decide)).trans (by decide +kernel)
theorem kM_P138_37_31 {β : Mem} (hb : mL β = 37) : mP (kM_138 β) 37 31 = some 53 := ((kM_s138 hb).2.2.1 37 31 (by decide +kernel)).2.trans (by decide +kernel)
theorem kM_T138_53 {β : Mem} (hb : mL β = 37) : mT (kM_138 β) 53 = some (14, 8) := ((kM_s138 hb).2.1 53 (by decide)).trans (by decide +kernel)
theorem kM_T139_37 {β : Mem} (hb : mL β = 37) : mT (kM_139 β) 37 = some (12, 0) := ((kM_s139 hb).2.1 37 (by decide)).trans (by decide +kernel)
theorem kM_P139_37_31 {β : Mem} (hb : mL β = 37) : mP (kM_139 β) 37 31 = some 53 := ((kM_s139 hb).2.2.1 37 31 (by decide +kernel)).2.trans (by decide +kernel)
theorem kM_T139_53 {β : Mem} (hb : mL β = 37) : mT (kM_139 β) 53 = some (14, 8) := ((kM_s139 hb).2.1 53 (by decide)).trans (by decide +kernel)
theorem kM_T140_37 {β : Mem} (hb : mL β = 37) : mT (kM_140 β) 37 = some (12, 0) := ((kM_s140 hb).2.1 37 (by decide)).trans (by decide +kernel)
theorem kM_P140_37_31 {β : Mem} (hb : mL β = 37) : mP (kM_140 β) 37 31 = some 53 := ((kM_s140 hb).2.2.1 37 31 (by decide +kernel)).2.trans (by decide +kernel)
theorem kM_T140_53 {β : Mem} (hb : mL β = 37) : mT (kM_140 β) 53 = some (14, 8) := ((kM_s140 hb).2.1 53 (by decide)).trans (by decide +kernel)
theorem kM_T141_37 {β : Mem} (hb : mL β = 37) : mT (kM_141 β) 37 = some (12, 0) := ((kM_s141 hb).2.1 37 (by decide)).trans (by decide +kernel)
theorem kM_P141_37_31 {β : Mem} (hb : mL β = 37) : mP (kM_141 β) 37 31 = some 53 := ((kM_s141 hb).2.2.1 37 31 (by decide +kernel)).2.trans (by decide +kernel)
theorem kM_T141_53 {β : Mem} (hb : mL β = 37) : mT (kM_141 β) 53 = some (14, 8) := ((kM_s141 hb).2.1 53 (by decide)).trans (by decide +kernel)
set_option maxRecDepth 4000 in
theorem kM_p0 {X : Cx} {d : Nat} (hC : mOK X cX12_init RX12 "<init>" none d 30 3972) (hd : 1 ≤ d) (hN : ∀ i, i < 2 → i < xN X) (hp : xP X = []) {β : Mem} (hb : mL β = 37) {Q : State → Prop} (kk : mG X 12 [(0, .ref (xB X + 37))] [] (kM_2 β) 1 8 Q) : mG X 0 [(0, .ref (xB X + 37))] [] (kM_0 β) 0 0 Q := by
  refine g_aload_n hC dX12_init_0 rfl ?_
  refine g_objInit hC tw_1023 tw_39 tw_40 (Nat.le_of_ble_eq_true rfl) (by omega) dX12_init_1 ?_
  refine g_aload_n hC dX12_init_4 rfl ?_
  refine g_bipush (v := 8) hC dX12_init_5 (by decide) ?_
  refine k_newa (N := 8) (r := 38) (τ := (kM_1 β)) hC na_14 (by decide) (by decide) (by decide) (by decide) (by decide) dX12_init_7 (kM_L0 hb) rfl ?_
  refine mG.st (st1 := [va_rf (Option.map (fun r => xB X + r) (some 38)), .ref (xB X + 37)]) rfl ?_
  refine k_putR (τ := (kM_2 β)) hC fw_X12_14_12i (kM_T1_37 hb) (fun v => by cases v <;> rfl) (fun v => by cases v <;> rfl) (nil_s hp) dX12_init_9 rfl ?_
  exact kk
set_option maxRecDepth 4000 in
theorem kM_p1 {X : Cx} {d : Nat} (hC : mOK X cX12_init RX12 "<init>" none d 30 3972) (hd : 1 ≤ d) (hN : ∀ i, i < 2 → i < xN X) (hp : xP X = []) {β : Mem} (hb : mL β = 37) {Q : State → Prop} (kk : mG X 20 [(0, .ref (xB X + 37))] [] (kM_4 β) 2 16 Q) : mG X 12 [(0, .ref (xB X + 37))] [] (kM_2 β) 1 8 Q := by
  refine g_aload_n hC dX12_init_12 rfl ?_
  refine g_bipush (v := 8) hC dX12_init_13 (by decide) ?_
  refine k_newa (N := 8) (r := 39) (τ := (kM_3 β)) hC na_14 (by decide) (by decide) (by decide) (by decide) (by decide) dX12_init_15 (kM_L2 hb) rfl ?_
  refine mG.st (st1 := [va_rf (Option.map (fun r => xB X + r) (some 39)), .ref (xB X + 37)]) rfl ?_
  refine k_putR (τ := (kM_4 β)) hC fw_X12_18_12i (kM_T3_37 hb) (fun v => by cases v <;> rfl) (fun v => by cases v <;> rfl) (nil_s hp) dX12_init_17 rfl ?_
  exact kk
set_option maxRecDepth 4000 in
theorem kM_p2 {X : Cx} {d : Nat} (hC : mOK X cX12_init RX12 "<init>" none d 30 3972) (hd : 1 ≤ d) (hN : ∀ i, i < 2 → i < xN X) (hp : xP X = []) {β : Mem} (hb : mL β = 37) {Q : State → Prop} (kk : mG X 27 [(0, .ref (xB X + 37))] [] (kM_6 β) 3 21 Q) : mG X 20 [(0, .ref (xB X + 37))] [] (kM_4 β) 2 16 Q := by
  refine g_aload_n hC dX12_init_20 rfl ?_
  refine g_iconst (v := 5) hC dX12_init_21 (by decide) ?_
  refine k_newa (N := 5) (r := 40) (τ := (kM_5 β)) hC na_14 (by decide) (by decide) (by decide) (by decide) (by decide) dX12_init_22 (kM_L4 hb) rfl ?_
  refine mG.st (st1 := [va_rf (Option.map (fun r => xB X + r) (some 40)), .ref (xB X + 37)]) rfl ?_
  refine k_putR (τ := (kM_6 β)) hC fw_X12_21_12i (kM_T5_37 hb) (fun v => by cases v <;> rfl) (fun v => by cases v <;> rfl) (nil_s hp) dX12_init_24 rfl ?_
  exact kk
set_option maxRecDepth 4000 in
theorem kM_p3 {X : Cx} {d : Nat} (hC : mOK X cX12_init RX12 "<init>" none d 30 3972) (hd : 1 ≤ d) (hN : ∀ i, i < 2 → i < xN X) (hp : xP X = []) {β : Mem} (hb : mL β = 37) {Q : State → Prop} (kk : mG X 34 [(0, .ref (xB X + 37))] [] (kM_8 β) 4 26 Q) : mG X 27 [(0, .ref (xB X + 37))] [] (kM_6 β) 3 21 Q := by
  refine g_aload_n hC dX12_init_27 rfl ?_
  refine g_iconst (v := 5) hC dX12_init_28 (by decide) ?_
  refine k_newa (N := 5) (r := 41) (τ := (kM_7 β)) hC na_14 (by decide) (by decide) (by decide) (by decide) (by decide) dX12_init_29 (kM_L6 hb) rfl ?_
  refine mG.st (st1 := [va_rf (Option.map (fun r => xB X + r) (some 41)), .ref (xB X + 37)]) rfl ?_
  refine k_putR (τ := (kM_8 β)) hC fw_X12_24_12i (kM_T7_37 hb) (fun v => by cases v <;> rfl) (fun v => by cases v <;> rfl) (nil_s hp) dX12_init_31 rfl ?_
  exact kk
set_option maxRecDepth 4000 in
theorem kM_p4 {X : Cx} {d : Nat} (hC : mOK X cX12_init RX12 "<init>" none d 30 3972) (hd : 1 ≤ d) (hN : ∀ i, i < 2 → i < xN X) (hp : xP X = []) {β : Mem} (hb : mL β = 37) {Q : State → Prop} (kk : mG X 40 [(0, .ref (xB X + 37))] [] (kM_9 β) 4 26 Q) : mG X 34 [(0, .ref (xB X + 37))] [] (kM_8 β) 4 26 Q := by
  refine g_aload_n hC dX12_init_34 rfl ?_
  refine g_bipush (v := 9) hC dX12_init_35 (by decide) ?_
  refine k_putI (τ := (kM_9 β)) hC fw_X12_31_12i (kM_T8_37 hb) rfl rfl dX12_init_37 rfl ?_
  exact kk
set_option maxRecDepth 4000 in
theorem kM_p5 {X : Cx} {d : Nat} (hC : mOK X cX12_init RX12 "<init>" none d 30 3972) (hd : 1 ≤ d) (hN : ∀ i, i < 2 → i < xN X) (hp : xP X = []) {β : Mem} (hb : mL β = 37) {Q : State → Prop} (kk : mG X 49 [(0, .ref (xB X + 37))] [] (kM_11 β) 5 186 Q) : mG X 40 [(0, .ref (xB X + 37))] [] (kM_9 β) 4 26 Q := by
  refine g_aload_n hC dX12_init_40 rfl ?_
  refine g_sipush (v := 160) hC dX12_init_41 (by decide) ?_
  refine k_newa (N := 160) (r := 42) (τ := (kM_10 β)) hC na_14 (by decide) (by decide) (by decide) (by decide) (by decide) dX12_init_44 (kM_L9 hb) rfl ?_
  refine mG.st (st1 := [va_rf (Option.map (fun r => xB X + r) (some 42)), .ref (xB X + 37)]) rfl ?_
  refine k_putR (τ := (kM_11 β)) hC fw_X12_51_12i (kM_T10_37 hb) (fun v => by cases v <;> rfl) (fun v => by cases v <;> rfl) (nil_s hp) dX12_init_46 rfl ?_
  exact kk
set_option maxRecDepth 4000 in
theorem kM_p6 {X : Cx} {d : Nat} (hC : mOK X cX12_init RX12 "<init>" none d 30 3972) (hd : 1 ≤ d) (hN : ∀ i, i < 2 → i < xN X) (hp : xP X = []) {β : Mem} (hb : mL β = 37) {Q : State → Prop} (kk : mG X 58 [(0, .ref (xB X + 37))] [] (kM_13 β) 6 3066 Q) : mG X 49 [(0, .ref (xB X + 37))] [] (kM_11 β) 5 186 Q := by
  refine g_aload_n hC dX12_init_49 rfl ?_
  refine g_sipush (v := 2880) hC dX12_init_50 (by decide) ?_
  refine k_newa (N := 2880) (r := 43) (τ := (kM_12 β)) hC na_14 (by decide) (by decide) (by decide) (by decide) (by decide) dX12_init_53 (kM_L11 hb) rfl ?_
  refine mG.st (st1 := [va_rf (Option.map (fun r => xB X + r) (some 43)), .ref (xB X + 37)]) rfl ?_
  refine k_putR (τ := (kM_13 β)) hC fw_X12_86_12i (kM_T12_37 hb) (fun v => by cases v <;> rfl) (fun v => by cases v <;> rfl) (nil_s hp) dX12_init_55 rfl ?_
  exact kk
set_option maxRecDepth 4000 in
theorem kM_p7 {X : Cx} {d : Nat} (hC : mOK X cX12_init RX12 "<init>" none d 30 3972) (hd : 1 ≤ d) (hN : ∀ i, i < 2 → i < xN X) (hp : xP X = []) {β : Mem} (hb : mL β = 37) {Q : State → Prop} (kk : mG X 66 [(0, .ref (xB X + 37))] [] (kM_15 β) 7 3084 Q) : mG X 58 [(0, .ref (xB X + 37))] [] (kM_13 β) 6 3066 Q := by
  refine g_aload_n hC dX12_init_58 rfl ?_
  refine g_bipush (v := 18) hC dX12_init_59 (by decide) ?_
  refine k_newa (N := 18) (r := 44) (τ := (kM_14 β)) hC na_14 (by decide) (by decide) (by decide) (by decide) (by decide) dX12_init_61 (kM_L13 hb) rfl ?_
  refine mG.st (st1 := [va_rf (Option.map (fun r => xB X + r) (some 44)), .ref (xB X + 37)]) rfl ?_
  refine k_putR (τ := (kM_15 β)) hC fw_X12_134_12i (kM_T14_37 hb) (fun v => by cases v <;> rfl) (fun v => by cases v <;> rfl) (nil_s hp) dX12_init_63 rfl ?_
  exact kk
set_option maxRecDepth 4000 in
theorem kM_p8 {X : Cx} {d : Nat} (hC : mOK X cX12_init RX12 "<init>" none d 30 3972) (hd : 1 ≤ d) (hN : ∀ i, i < 2 → i < xN X) (hp : xP X = []) {β : Mem} (hb : mL β = 37) {Q : State → Prop} (kk : mG X 101 [(0, .ref (xB X + 37))] [.ref (xB X + 45), .ref (xB X + 37)] (kM_22 β) 8 3129 Q) : mG X 66 [(0, .ref (xB X + 37))] [] (kM_15 β) 7 3084 Q := by
  refine g_aload_n hC dX12_init_66 rfl ?_
  refine g_bipush (v := 45) hC dX12_init_67 (by decide) ?_
  refine k_newa (N := 45) (r := 45) (τ := (kM_16 β)) hC na_13 (by decide) (by decide) (by decide) (by decide) (by decide) dX12_init_69 (kM_L15 hb) rfl ?_
  refine g_dup hC dX12_init_71 rfl ?_
  refine g_iconst (v := 0) hC dX12_init_72 (by decide) ?_
  refine g_bipush (v := 115) hC dX12_init_73 (by decide) ?_
  refine k_cast (τ := (kM_17 β)) (k := 0) hC (kM_T16_45 hb) (by decide) (vpl (by decide)) rfl dX12_init_75 rfl ?_
  refine g_dup hC dX12_init_76 rfl ?_
  refine g_iconst (v := 1) hC dX12_init_77 (by decide) ?_
  refine g_bipush (v := 105) hC dX12_init_78 (by decide) ?_
  refine k_cast (τ := (kM_18 β)) (k := 1) hC (kM_T17_45 hb) (by decide) (vpl (by decide)) rfl dX12_init_80 rfl ?_
  refine g_dup hC dX12_init_81 rfl ?_
  refine g_iconst (v := 2) hC dX12_init_82 (by decide) ?_
  refine g_bipush (v := 122) hC dX12_init_83 (by decide) ?_
  refine k_cast (τ := (kM_19 β)) (k := 2) hC (kM_T18_45 hb) (by decide) (vpl (by decide)) rfl dX12_init_85 rfl ?_
  refine g_dup hC dX12_init_86 rfl ?_
  refine g_iconst (v := 3) hC dX12_init_87 (by decide) ?_
  refine g_bipush (v := 101) hC dX12_init_88 (by decide) ?_
  refine k_cast (τ := (kM_20 β)) (k := 3) hC (kM_T19_45 hb) (by decide) (vpl (by decide)) rfl dX12_init_90 rfl ?_
  refine g_dup hC dX12_init_91 rfl ?_
  refine g_iconst (v := 4) hC dX12_init_92 (by decide) ?_
  refine g_bipush (v := 116) hC dX12_init_93 (by decide) ?_
  refine k_cast (τ := (kM_21 β)) (k := 4) hC (kM_T20_45 hb) (by decide) (vpl (by decide)) rfl dX12_init_95 rfl ?_
  refine g_dup hC dX12_init_96 rfl ?_
  refine g_iconst (v := 5) hC dX12_init_97 (by decide) ?_
  refine g_bipush (v := 111) hC dX12_init_98 (by decide) ?_
  refine k_cast (τ := (kM_22 β)) (k := 5) hC (kM_T21_45 hb) (by decide) (vpl (by decide)) rfl dX12_init_100 rfl ?_
  exact kk
set_option maxRecDepth 4000 in
theorem kM_p9 {X : Cx} {d : Nat} (hC : mOK X cX12_init RX12 "<init>" none d 30 3972) (hd : 1 ≤ d) (hN : ∀ i, i < 2 → i < xN X) (hp : xP X = []) {β : Mem} (hb : mL β = 37) {Q : State → Prop} (kk : mG X 137 [(0, .ref (xB X + 37))] [.ref (xB X + 45), .ref (xB X + 37)] (kM_28 β) 8 3129 Q) : mG X 101 [(0, .ref (xB X + 37))] [.ref (xB X + 45), .ref (xB X + 37)] (kM_22 β) 8 3129 Q := by
  refine g_dup hC dX12_init_101 rfl ?_
  refine g_bipush (v := 6) hC dX12_init_102 (by decide) ?_
  refine g_bipush (v := 112) hC dX12_init_104 (by decide) ?_
  refine k_cast (τ := (kM_23 β)) (k := 6) hC (kM_T22_45 hb) (by decide) (vpl (by decide)) rfl dX12_init_106 rfl ?_
  refine g_dup hC dX12_init_107 rfl ?_
  refine g_bipush (v := 7) hC dX12_init_108 (by decide) ?_
  refine g_bipush (v := 100) hC dX12_init_110 (by decide) ?_
  refine k_cast (τ := (kM_24 β)) (k := 7) hC (kM_T23_45 hb) (by decide) (vpl (by decide)) rfl dX12_init_112 rfl ?_
  refine g_dup hC dX12_init_113 rfl ?_
  refine g_bipush (v := 8) hC dX12_init_114 (by decide) ?_
  refine g_bipush (v := 101) hC dX12_init_116 (by decide) ?_
  refine k_cast (τ := (kM_25 β)) (k := 8) hC (kM_T24_45 hb) (by decide) (vpl (by decide)) rfl dX12_init_118 rfl ?_
  refine g_dup hC dX12_init_119 rfl ?_
  refine g_bipush (v := 9) hC dX12_init_120 (by decide) ?_
  refine g_bipush (v := 101) hC dX12_init_122 (by decide) ?_
  refine k_cast (τ := (kM_26 β)) (k := 9) hC (kM_T25_45 hb) (by decide) (vpl (by decide)) rfl dX12_init_124 rfl ?_
  refine g_dup hC dX12_init_125 rfl ?_
  refine g_bipush (v := 10) hC dX12_init_126 (by decide) ?_
  refine g_bipush (v := 112) hC dX12_init_128 (by decide) ?_
  refine k_cast (τ := (kM_27 β)) (k := 10) hC (kM_T26_45 hb) (by decide) (vpl (by decide)) rfl dX12_init_130 rfl ?_
  refine g_dup hC dX12_init_131 rfl ?_
  refine g_bipush (v := 11) hC dX12_init_132 (by decide) ?_
  refine g_bipush (v := 117) hC dX12_init_134 (by decide) ?_
  refine k_cast (τ := (kM_28 β)) (k := 11) hC (kM_T27_45 hb) (by decide) (vpl (by decide)) rfl dX12_init_136 rfl ?_
  exact kk
set_option maxRecDepth 4000 in
theorem kM_p10 {X : Cx} {d : Nat} (hC : mOK X cX12_init RX12 "<init>" none d 30 3972) (hd : 1 ≤ d) (hN : ∀ i, i < 2 → i < xN X) (hp : xP X = []) {β : Mem} (hb : mL β = 37) {Q : State → Prop} (kk : mG X 173 [(0, .ref (xB X + 37))] [.ref (xB X + 45), .ref (xB X + 37)] (kM_34 β) 8 3129 Q) : mG X 137 [(0, .ref (xB X + 37))] [.ref (xB X + 45), .ref (xB X + 37)] (kM_28 β) 8 3129 Q := by
  refine g_dup hC dX12_init_137 rfl ?_
  refine g_bipush (v := 12) hC dX12_init_138 (by decide) ?_
  refine g_bipush (v := 110) hC dX12_init_140 (by decide) ?_
  refine k_cast (τ := (kM_29 β)) (k := 12) hC (kM_T28_45 hb) (by decide) (vpl (by decide)) rfl dX12_init_142 rfl ?_
  refine g_dup hC dX12_init_143 rfl ?_
  refine g_bipush (v := 13) hC dX12_init_144 (by decide) ?_
  refine g_bipush (v := 100) hC dX12_init_146 (by decide) ?_
  refine k_cast (τ := (kM_30 β)) (k := 13) hC (kM_T29_45 hb) (by decide) (vpl (by decide)) rfl dX12_init_148 rfl ?_
  refine g_dup hC dX12_init_149 rfl ?_
  refine g_bipush (v := 14) hC dX12_init_150 (by decide) ?_
  refine g_bipush (v := 101) hC dX12_init_152 (by decide) ?_
  refine k_cast (τ := (kM_31 β)) (k := 14) hC (kM_T30_45 hb) (by decide) (vpl (by decide)) rfl dX12_init_154 rfl ?_
  refine g_dup hC dX12_init_155 rfl ?_
  refine g_bipush (v := 15) hC dX12_init_156 (by decide) ?_
  refine g_bipush (v := 114) hC dX12_init_158 (by decide) ?_
  refine k_cast (τ := (kM_32 β)) (k := 15) hC (kM_T31_45 hb) (by decide) (vpl (by decide)) rfl dX12_init_160 rfl ?_
  refine g_dup hC dX12_init_161 rfl ?_
  refine g_bipush (v := 16) hC dX12_init_162 (by decide) ?_
  refine g_bipush (v := 104) hC dX12_init_164 (by decide) ?_
  refine k_cast (τ := (kM_33 β)) (k := 16) hC (kM_T32_45 hb) (by decide) (vpl (by decide)) rfl dX12_init_166 rfl ?_
  refine g_dup hC dX12_init_167 rfl ?_
  refine g_bipush (v := 17) hC dX12_init_168 (by decide) ?_
  refine g_bipush (v := 105) hC dX12_init_170 (by decide) ?_
  refine k_cast (τ := (kM_34 β)) (k := 17) hC (kM_T33_45 hb) (by decide) (vpl (by decide)) rfl dX12_init_172 rfl ?_
  exact kk
set_option maxRecDepth 4000 in
theorem kM_p11 {X : Cx} {d : Nat} (hC : mOK X cX12_init RX12 "<init>" none d 30 3972) (hd : 1 ≤ d) (hN : ∀ i, i < 2 → i < xN X) (hp : xP X = []) {β : Mem} (hb : mL β = 37) {Q : State → Prop} (kk : mG X 209 [(0, .ref (xB X + 37))] [.ref (xB X + 45), .ref (xB X + 37)] (kM_40 β) 8 3129 Q) : mG X 173 [(0, .ref (xB X + 37))] [.ref (xB X + 45), .ref (xB X + 37)] (kM_34 β) 8 3129 Q := by
  refine g_dup hC dX12_init_173 rfl ?_
  refine g_bipush (v := 18) hC dX12_init_174 (by decide) ?_
  refine g_bipush (v := 103) hC dX12_init_176 (by decide) ?_
  refine k_cast (τ := (kM_35 β)) (k := 18) hC (kM_T34_45 hb) (by decide) (vpl (by decide)) rfl dX12_init_178 rfl ?_
  refine g_dup hC dX12_init_179 rfl ?_
  refine g_bipush (v := 19) hC dX12_init_180 (by decide) ?_
  refine g_bipush (v := 104) hC dX12_init_182 (by decide) ?_
  refine k_cast (τ := (kM_36 β)) (k := 19) hC (kM_T35_45 hb) (by decide) (vpl (by decide)) rfl dX12_init_184 rfl ?_
  refine g_dup hC dX12_init_185 rfl ?_
  refine g_bipush (v := 20) hC dX12_init_186 (by decide) ?_
  refine g_bipush (v := 104) hC dX12_init_188 (by decide) ?_
  refine k_cast (τ := (kM_37 β)) (k := 20) hC (kM_T36_45 hb) (by decide) (vpl (by decide)) rfl dX12_init_190 rfl ?_
  refine g_dup hC dX12_init_191 rfl ?_
  refine g_bipush (v := 21) hC dX12_init_192 (by decide) ?_
  refine g_bipush (v := 101) hC dX12_init_194 (by decide) ?_
  refine k_cast (τ := (kM_38 β)) (k := 21) hC (kM_T37_45 hb) (by decide) (vpl (by decide)) rfl dX12_init_196 rfl ?_
  refine g_dup hC dX12_init_197 rfl ?_
  refine g_bipush (v := 22) hC dX12_init_198 (by decide) ?_
  refine g_bipush (v := 97) hC dX12_init_200 (by decide) ?_
  refine k_cast (τ := (kM_39 β)) (k := 22) hC (kM_T38_45 hb) (by decide) (vpl (by decide)) rfl dX12_init_202 rfl ?_
  refine g_dup hC dX12_init_203 rfl ?_
  refine g_bipush (v := 23) hC dX12_init_204 (by decide) ?_
  refine g_bipush (v := 112) hC dX12_init_206 (by decide) ?_
  refine k_cast (τ := (kM_40 β)) (k := 23) hC (kM_T39_45 hb) (by decide) (vpl (by decide)) rfl dX12_init_208 rfl ?_
  exact kk
set_option maxRecDepth 4000 in
theorem kM_p12 {X : Cx} {d : Nat} (hC : mOK X cX12_init RX12 "<init>" none d 30 3972) (hd : 1 ≤ d) (hN : ∀ i, i < 2 → i < xN X) (hp : xP X = []) {β : Mem} (hb : mL β = 37) {Q : State → Prop} (kk : mG X 245 [(0, .ref (xB X + 37))] [.ref (xB X + 45), .ref (xB X + 37)] (kM_46 β) 8 3129 Q) : mG X 209 [(0, .ref (xB X + 37))] [.ref (xB X + 45), .ref (xB X + 37)] (kM_40 β) 8 3129 Q := by
  refine g_dup hC dX12_init_209 rfl ?_
  refine g_bipush (v := 24) hC dX12_init_210 (by decide) ?_
  refine g_bipush (v := 109) hC dX12_init_212 (by decide) ?_
  refine k_cast (τ := (kM_41 β)) (k := 24) hC (kM_T40_45 hb) (by decide) (vpl (by decide)) rfl dX12_init_214 rfl ?_
  refine g_dup hC dX12_init_215 rfl ?_
  refine g_bipush (v := 25) hC dX12_init_216 (by decide) ?_
  refine g_bipush (v := 97) hC dX12_init_218 (by decide) ?_
  refine k_cast (τ := (kM_42 β)) (k := 25) hC (kM_T41_45 hb) (by decide) (vpl (by decide)) rfl dX12_init_220 rfl ?_
  refine g_dup hC dX12_init_221 rfl ?_
  refine g_bipush (v := 26) hC dX12_init_222 (by decide) ?_
  refine g_bipush (v := 121) hC dX12_init_224 (by decide) ?_
  refine k_cast (τ := (kM_43 β)) (k := 26) hC (kM_T42_45 hb) (by decide) (vpl (by decide)) rfl dX12_init_226 rfl ?_
  refine g_dup hC dX12_init_227 rfl ?_
  refine g_bipush (v := 27) hC dX12_init_228 (by decide) ?_
  refine g_bipush (v := 112) hC dX12_init_230 (by decide) ?_
  refine k_cast (τ := (kM_44 β)) (k := 27) hC (kM_T43_45 hb) (by decide) (vpl (by decide)) rfl dX12_init_232 rfl ?_
  refine g_dup hC dX12_init_233 rfl ?_
  refine g_bipush (v := 28) hC dX12_init_234 (by decide) ?_
  refine g_bipush (v := 97) hC dX12_init_236 (by decide) ?_
  refine k_cast (τ := (kM_45 β)) (k := 28) hC (kM_T44_45 hb) (by decide) (vpl (by decide)) rfl dX12_init_238 rfl ?_
  refine g_dup hC dX12_init_239 rfl ?_
  refine g_bipush (v := 29) hC dX12_init_240 (by decide) ?_
  refine g_bipush (v := 121) hC dX12_init_242 (by decide) ?_
  refine k_cast (τ := (kM_46 β)) (k := 29) hC (kM_T45_45 hb) (by decide) (vpl (by decide)) rfl dX12_init_244 rfl ?_
  exact kk
set_option maxRecDepth 4000 in
theorem kM_p13 {X : Cx} {d : Nat} (hC : mOK X cX12_init RX12 "<init>" none d 30 3972) (hd : 1 ≤ d) (hN : ∀ i, i < 2 → i < xN X) (hp : xP X = []) {β : Mem} (hb : mL β = 37) {Q : State → Prop} (kk : mG X 281 [(0, .ref (xB X + 37))] [.ref (xB X + 45), .ref (xB X + 37)] (kM_52 β) 8 3129 Q) : mG X 245 [(0, .ref (xB X + 37))] [.ref (xB X + 45), .ref (xB X + 37)] (kM_46 β) 8 3129 Q := by
  refine g_dup hC dX12_init_245 rfl ?_
  refine g_bipush (v := 30) hC dX12_init_246 (by decide) ?_
  refine g_bipush (v := 115) hC dX12_init_248 (by decide) ?_
  refine k_cast (τ := (kM_47 β)) (k := 30) hC (kM_T46_45 hb) (by decide) (vpl (by decide)) rfl dX12_init_250 rfl ?_
  refine g_dup hC dX12_init_251 rfl ?_
  refine g_bipush (v := 31) hC dX12_init_252 (by decide) ?_
  refine g_bipush (v := 119) hC dX12_init_254 (by decide) ?_
  refine k_cast (τ := (kM_48 β)) (k := 31) hC (kM_T47_45 hb) (by decide) (vpl (by decide)) rfl dX12_init_256 rfl ?_
  refine g_dup hC dX12_init_257 rfl ?_
  refine g_bipush (v := 32) hC dX12_init_258 (by decide) ?_
  refine g_bipush (v := 101) hC dX12_init_260 (by decide) ?_
  refine k_cast (τ := (kM_49 β)) (k := 32) hC (kM_T48_45 hb) (by decide) (vpl (by decide)) rfl dX12_init_262 rfl ?_
  refine g_dup hC dX12_init_263 rfl ?_
  refine g_bipush (v := 33) hC dX12_init_264 (by decide) ?_
  refine g_bipush (v := 105) hC dX12_init_266 (by decide) ?_
  refine k_cast (τ := (kM_50 β)) (k := 33) hC (kM_T49_45 hb) (by decide) (vpl (by decide)) rfl dX12_init_268 rfl ?_
  refine g_dup hC dX12_init_269 rfl ?_
  refine g_bipush (v := 34) hC dX12_init_270 (by decide) ?_
  refine g_bipush (v := 103) hC dX12_init_272 (by decide) ?_
  refine k_cast (τ := (kM_51 β)) (k := 34) hC (kM_T50_45 hb) (by decide) (vpl (by decide)) rfl dX12_init_274 rfl ?_
  refine g_dup hC dX12_init_275 rfl ?_
  refine g_bipush (v := 35) hC dX12_init_276 (by decide) ?_
  refine g_bipush (v := 104) hC dX12_init_278 (by decide) ?_
  refine k_cast (τ := (kM_52 β)) (k := 35) hC (kM_T51_45 hb) (by decide) (vpl (by decide)) rfl dX12_init_280 rfl ?_
  exact kk
set_option maxRecDepth 4000 in
theorem kM_p14 {X : Cx} {d : Nat} (hC : mOK X cX12_init RX12 "<init>" none d 30 3972) (hd : 1 ≤ d) (hN : ∀ i, i < 2 → i < xN X) (hp : xP X = []) {β : Mem} (hb : mL β = 37) {Q : State → Prop} (kk : mG X 317 [(0, .ref (xB X + 37))] [.ref (xB X + 45), .ref (xB X + 37)] (kM_58 β) 8 3129 Q) : mG X 281 [(0, .ref (xB X + 37))] [.ref (xB X + 45), .ref (xB X + 37)] (kM_52 β) 8 3129 Q := by
  refine g_dup hC dX12_init_281 rfl ?_
  refine g_bipush (v := 36) hC dX12_init_282 (by decide) ?_
  refine g_bipush (v := 115) hC dX12_init_284 (by decide) ?_
  refine k_cast (τ := (kM_53 β)) (k := 36) hC (kM_T52_45 hb) (by decide) (vpl (by decide)) rfl dX12_init_286 rfl ?_
  refine g_dup hC dX12_init_287 rfl ?_
  refine g_bipush (v := 37) hC dX12_init_288 (by decide) ?_
  refine g_bipush (v := 111) hC dX12_init_290 (by decide) ?_
  refine k_cast (τ := (kM_54 β)) (k := 37) hC (kM_T53_45 hb) (by decide) (vpl (by decide)) rfl dX12_init_292 rfl ?_
  refine g_dup hC dX12_init_293 rfl ?_
  refine g_bipush (v := 38) hC dX12_init_294 (by decide) ?_
  refine g_bipush (v := 114) hC dX12_init_296 (by decide) ?_
  refine k_cast (τ := (kM_55 β)) (k := 38) hC (kM_T54_45 hb) (by decide) (vpl (by decide)) rfl dX12_init_298 rfl ?_
  refine g_dup hC dX12_init_299 rfl ?_
  refine g_bipush (v := 39) hC dX12_init_300 (by decide) ?_
  refine g_bipush (v := 97) hC dX12_init_302 (by decide) ?_
  refine k_cast (τ := (kM_56 β)) (k := 39) hC (kM_T55_45 hb) (by decide) (vpl (by decide)) rfl dX12_init_304 rfl ?_
  refine g_dup hC dX12_init_305 rfl ?_
  refine g_bipush (v := 40) hC dX12_init_306 (by decide) ?_
  refine g_bipush (v := 110) hC dX12_init_308 (by decide) ?_
  refine k_cast (τ := (kM_57 β)) (k := 40) hC (kM_T56_45 hb) (by decide) (vpl (by decide)) rfl dX12_init_310 rfl ?_
  refine g_dup hC dX12_init_311 rfl ?_
  refine g_bipush (v := 41) hC dX12_init_312 (by decide) ?_
  refine g_bipush (v := 100) hC dX12_init_314 (by decide) ?_
  refine k_cast (τ := (kM_58 β)) (k := 41) hC (kM_T57_45 hb) (by decide) (vpl (by decide)) rfl dX12_init_316 rfl ?_
  exact kk
set_option maxRecDepth 4000 in
theorem kM_p15 {X : Cx} {d : Nat} (hC : mOK X cX12_init RX12 "<init>" none d 30 3972) (hd : 1 ≤ d) (hN : ∀ i, i < 2 → i < xN X) (hp : xP X = []) {β : Mem} (hb : mL β = 37) {Q : State → Prop} (kk : mG X 338 [(0, .ref (xB X + 37))] [] (kM_62 β) 8 3129 Q) : mG X 317 [(0, .ref (xB X + 37))] [.ref (xB X + 45), .ref (xB X + 37)] (kM_58 β) 8 3129 Q := by
  refine g_dup hC dX12_init_317 rfl ?_
  refine g_bipush (v := 42) hC dX12_init_318 (by decide) ?_
  refine g_bipush (v := 110) hC dX12_init_320 (by decide) ?_
  refine k_cast (τ := (kM_59 β)) (k := 42) hC (kM_T58_45 hb) (by decide) (vpl (by decide)) rfl dX12_init_322 rfl ?_
  refine g_dup hC dX12_init_323 rfl ?_
  refine g_bipush (v := 43) hC dX12_init_324 (by decide) ?_
  refine g_bipush (v := 111) hC dX12_init_326 (by decide) ?_
  refine k_cast (τ := (kM_60 β)) (k := 43) hC (kM_T59_45 hb) (by decide) (vpl (by decide)) rfl dX12_init_328 rfl ?_
  refine g_dup hC dX12_init_329 rfl ?_
  refine g_bipush (v := 44) hC dX12_init_330 (by decide) ?_
  refine g_bipush (v := 116) hC dX12_init_332 (by decide) ?_
  refine k_cast (τ := (kM_61 β)) (k := 44) hC (kM_T60_45 hb) (by decide) (vpl (by decide)) rfl dX12_init_334 rfl ?_
  refine mG.st (st1 := [va_rf (Option.map (fun r => xB X + r) (some 45)), .ref (xB X + 37)]) rfl ?_
  refine k_putR (τ := (kM_62 β)) hC fw_X12_69_12i (kM_T61_37 hb) (fun v => by cases v <;> rfl) (fun v => by cases v <;> rfl) (nil_s hp) dX12_init_335 rfl ?_
  exact kk
set_option maxRecDepth 4000 in
theorem kM_p16 {X : Cx} {d : Nat} (hC : mOK X cX12_init RX12 "<init>" none d 30 3972) (hd : 1 ≤ d) (hN : ∀ i, i < 2 → i < xN X) (hp : xP X = []) {β : Mem} (hb : mL β = 37) {Q : State → Prop} (kk : mG X 371 [(0, .ref (xB X + 37))] [.ref (xB X + 46), .ref (xB X + 37)] (kM_69 β) 9 3142 Q) : mG X 338 [(0, .ref (xB X + 37))] [] (kM_62 β) 8 3129 Q := by
  refine g_aload_n hC dX12_init_338 rfl ?_
  refine g_bipush (v := 13) hC dX12_init_339 (by decide) ?_
  refine k_newa (N := 13) (r := 46) (τ := (kM_63 β)) hC na_14 (by decide) (by decide) (by decide) (by decide) (by decide) dX12_init_341 (kM_L62 hb) rfl ?_
  refine g_dup hC dX12_init_343 rfl ?_
  refine g_iconst (v := 0) hC dX12_init_344 (by decide) ?_
  refine g_iconst (v := 0) hC dX12_init_345 (by decide) ?_
  refine k_iast (τ := (kM_64 β)) (k := 0) hC (kM_T63_46 hb) (by decide) (vpl (by decide)) dX12_init_346 rfl ?_
  refine g_dup hC dX12_init_347 rfl ?_
  refine g_iconst (v := 1) hC dX12_init_348 (by decide) ?_
  refine g_iconst (v := 4) hC dX12_init_349 (by decide) ?_
  refine k_iast (τ := (kM_65 β)) (k := 1) hC (kM_T64_46 hb) (by decide) (vpl (by decide)) dX12_init_350 rfl ?_
  refine g_dup hC dX12_init_351 rfl ?_
  refine g_iconst (v := 2) hC dX12_init_352 (by decide) ?_
  refine g_bipush (v := 7) hC dX12_init_353 (by decide) ?_
  refine k_iast (τ := (kM_66 β)) (k := 2) hC (kM_T65_46 hb) (by decide) (vpl (by decide)) dX12_init_355 rfl ?_
  refine g_dup hC dX12_init_356 rfl ?_
  refine g_iconst (v := 3) hC dX12_init_357 (by decide) ?_
  refine g_bipush (v := 11) hC dX12_init_358 (by decide) ?_
  refine k_iast (τ := (kM_67 β)) (k := 3) hC (kM_T66_46 hb) (by decide) (vpl (by decide)) dX12_init_360 rfl ?_
  refine g_dup hC dX12_init_361 rfl ?_
  refine g_iconst (v := 4) hC dX12_init_362 (by decide) ?_
  refine g_bipush (v := 16) hC dX12_init_363 (by decide) ?_
  refine k_iast (τ := (kM_68 β)) (k := 4) hC (kM_T67_46 hb) (by decide) (vpl (by decide)) dX12_init_365 rfl ?_
  refine g_dup hC dX12_init_366 rfl ?_
  refine g_iconst (v := 5) hC dX12_init_367 (by decide) ?_
  refine g_bipush (v := 20) hC dX12_init_368 (by decide) ?_
  refine k_iast (τ := (kM_69 β)) (k := 5) hC (kM_T68_46 hb) (by decide) (vpl (by decide)) dX12_init_370 rfl ?_
  exact kk
set_option maxRecDepth 4000 in
theorem kM_p17 {X : Cx} {d : Nat} (hC : mOK X cX12_init RX12 "<init>" none d 30 3972) (hd : 1 ≤ d) (hN : ∀ i, i < 2 → i < xN X) (hp : xP X = []) {β : Mem} (hb : mL β = 37) {Q : State → Prop} (kk : mG X 407 [(0, .ref (xB X + 37))] [.ref (xB X + 46), .ref (xB X + 37)] (kM_75 β) 9 3142 Q) : mG X 371 [(0, .ref (xB X + 37))] [.ref (xB X + 46), .ref (xB X + 37)] (kM_69 β) 9 3142 Q := by
  refine g_dup hC dX12_init_371 rfl ?_
  refine g_bipush (v := 6) hC dX12_init_372 (by decide) ?_
  refine g_bipush (v := 24) hC dX12_init_374 (by decide) ?_
  refine k_iast (τ := (kM_70 β)) (k := 6) hC (kM_T69_46 hb) (by decide) (vpl (by decide)) dX12_init_376 rfl ?_
  refine g_dup hC dX12_init_377 rfl ?_
  refine g_bipush (v := 7) hC dX12_init_378 (by decide) ?_
  refine g_bipush (v := 27) hC dX12_init_380 (by decide) ?_
  refine k_iast (τ := (kM_71 β)) (k := 7) hC (kM_T70_46 hb) (by decide) (vpl (by decide)) dX12_init_382 rfl ?_
  refine g_dup hC dX12_init_383 rfl ?_
  refine g_bipush (v := 8) hC dX12_init_384 (by decide) ?_
  refine g_bipush (v := 31) hC dX12_init_386 (by decide) ?_
  refine k_iast (τ := (kM_72 β)) (k := 8) hC (kM_T71_46 hb) (by decide) (vpl (by decide)) dX12_init_388 rfl ?_
  refine g_dup hC dX12_init_389 rfl ?_
  refine g_bipush (v := 9) hC dX12_init_390 (by decide) ?_
  refine g_bipush (v := 37) hC dX12_init_392 (by decide) ?_
  refine k_iast (τ := (kM_73 β)) (k := 9) hC (kM_T72_46 hb) (by decide) (vpl (by decide)) dX12_init_394 rfl ?_
  refine g_dup hC dX12_init_395 rfl ?_
  refine g_bipush (v := 10) hC dX12_init_396 (by decide) ?_
  refine g_bipush (v := 39) hC dX12_init_398 (by decide) ?_
  refine k_iast (τ := (kM_74 β)) (k := 10) hC (kM_T73_46 hb) (by decide) (vpl (by decide)) dX12_init_400 rfl ?_
  refine g_dup hC dX12_init_401 rfl ?_
  refine g_bipush (v := 11) hC dX12_init_402 (by decide) ?_
  refine g_bipush (v := 42) hC dX12_init_404 (by decide) ?_
  refine k_iast (τ := (kM_75 β)) (k := 11) hC (kM_T74_46 hb) (by decide) (vpl (by decide)) dX12_init_406 rfl ?_
  exact kk
set_option maxRecDepth 4000 in
theorem kM_p18 {X : Cx} {d : Nat} (hC : mOK X cX12_init RX12 "<init>" none d 30 3972) (hd : 1 ≤ d) (hN : ∀ i, i < 2 → i < xN X) (hp : xP X = []) {β : Mem} (hb : mL β = 37) {Q : State → Prop} (kk : mG X 416 [(0, .ref (xB X + 37))] [] (kM_77 β) 9 3142 Q) : mG X 407 [(0, .ref (xB X + 37))] [.ref (xB X + 46), .ref (xB X + 37)] (kM_75 β) 9 3142 Q := by
  refine g_dup hC dX12_init_407 rfl ?_
  refine g_bipush (v := 12) hC dX12_init_408 (by decide) ?_
  refine g_bipush (v := 45) hC dX12_init_410 (by decide) ?_
  refine k_iast (τ := (kM_76 β)) (k := 12) hC (kM_T75_46 hb) (by decide) (vpl (by decide)) dX12_init_412 rfl ?_
  refine mG.st (st1 := [va_rf (Option.map (fun r => xB X + r) (some 46)), .ref (xB X + 37)]) rfl ?_
  refine k_putR (τ := (kM_77 β)) hC fw_X12_63_12i (kM_T76_37 hb) (fun v => by cases v <;> rfl) (fun v => by cases v <;> rfl) (nil_s hp) dX12_init_413 rfl ?_
  exact kk
set_option maxRecDepth 4000 in
theorem kM_p19 {X : Cx} {d : Nat} (hC : mOK X cX12_init RX12 "<init>" none d 30 3972) (hd : 1 ≤ d) (hN : ∀ i, i < 2 → i < xN X) (hp : xP X = []) {β : Mem} (hb : mL β = 37) {Q : State → Prop} (kk : mG X 425 [(0, .ref (xB X + 37))] [] (kM_79 β) 10 3312 Q) : mG X 416 [(0, .ref (xB X + 37))] [] (kM_77 β) 9 3142 Q := by
  refine g_aload_n hC dX12_init_416 rfl ?_
  refine g_sipush (v := 170) hC dX12_init_417 (by decide) ?_
  refine k_newa (N := 170) (r := 47) (τ := (kM_78 β)) hC na_14 (by decide) (by decide) (by decide) (by decide) (by decide) dX12_init_420 (kM_L77 hb) rfl ?_
  refine mG.st (st1 := [va_rf (Option.map (fun r => xB X + r) (some 47)), .ref (xB X + 37)]) rfl ?_
  refine k_putR (τ := (kM_79 β)) hC fw_X12_98_12i (kM_T78_37 hb) (fun v => by cases v <;> rfl) (fun v => by cases v <;> rfl) (nil_s hp) dX12_init_422 rfl ?_
  exact kk
set_option maxRecDepth 4000 in
theorem kM_p20 {X : Cx} {d : Nat} (hC : mOK X cX12_init RX12 "<init>" none d 30 3972) (hd : 1 ≤ d) (hN : ∀ i, i < 2 → i < xN X) (hp : xP X = []) {β : Mem} (hb : mL β = 37) {Q : State → Prop} (kk : mG X 433 [(0, .ref (xB X + 37))] [] (kM_81 β) 11 3320 Q) : mG X 425 [(0, .ref (xB X + 37))] [] (kM_79 β) 10 3312 Q := by
  refine g_aload_n hC dX12_init_425 rfl ?_
  refine g_bipush (v := 8) hC dX12_init_426 (by decide) ?_
  refine k_newa (N := 8) (r := 48) (τ := (kM_80 β)) hC na_15 (by decide) (by decide) (by decide) (by decide) (by decide) dX12_init_428 (kM_L79 hb) rfl ?_
  refine mG.st (st1 := [va_rf (Option.map (fun r => xB X + r) (some 48)), .ref (xB X + 37)]) rfl ?_
  refine k_putR (τ := (kM_81 β)) hC fw_X12_117_12i (kM_T80_37 hb) (fun v => by cases v <;> rfl) (fun v => by cases v <;> rfl) (nil_s hp) dX12_init_430 rfl ?_
  exact kk
set_option maxRecDepth 4000 in
theorem kM_p21 {X : Cx} {d : Nat} (hC : mOK X cX12_init RX12 "<init>" none d 30 3972) (hd : 1 ≤ d) (hN : ∀ i, i < 2 → i < xN X) (hp : xP X = []) {β : Mem} (hb : mL β = 37) {Q : State → Prop} (kk : mG X 442 [(0, .ref (xB X + 37))] [] (kM_83 β) 12 3490 Q) : mG X 433 [(0, .ref (xB X + 37))] [] (kM_81 β) 11 3320 Q := by
  refine g_aload_n hC dX12_init_433 rfl ?_
  refine g_sipush (v := 170) hC dX12_init_434 (by decide) ?_
  refine k_newa (N := 170) (r := 49) (τ := (kM_82 β)) hC na_14 (by decide) (by decide) (by decide) (by decide) (by decide) dX12_init_437 (kM_L81 hb) rfl ?_
  refine mG.st (st1 := [va_rf (Option.map (fun r => xB X + r) (some 49)), .ref (xB X + 37)]) rfl ?_
  refine k_putR (τ := (kM_83 β)) hC fw_X12_164_12i (kM_T82_37 hb) (fun v => by cases v <;> rfl) (fun v => by cases v <;> rfl) (nil_s hp) dX12_init_439 rfl ?_
  exact kk
set_option maxRecDepth 4000 in
theorem kM_p22 {X : Cx} {d : Nat} (hC : mOK X cX12_init RX12 "<init>" none d 30 3972) (hd : 1 ≤ d) (hN : ∀ i, i < 2 → i < xN X) (hp : xP X = []) {β : Mem} (hb : mL β = 37) {Q : State → Prop} (kk : mG X 450 [(0, .ref (xB X + 37))] [] (kM_85 β) 13 3496 Q) : mG X 442 [(0, .ref (xB X + 37))] [] (kM_83 β) 12 3490 Q := by
  refine g_aload_n hC dX12_init_442 rfl ?_
  refine g_bipush (v := 6) hC dX12_init_443 (by decide) ?_
  refine k_newa (N := 6) (r := 50) (τ := (kM_84 β)) hC na_14 (by decide) (by decide) (by decide) (by decide) (by decide) dX12_init_445 (kM_L83 hb) rfl ?_
  refine mG.st (st1 := [va_rf (Option.map (fun r => xB X + r) (some 50)), .ref (xB X + 37)]) rfl ?_
  refine k_putR (τ := (kM_85 β)) hC fw_X12_167_12i (kM_T84_37 hb) (fun v => by cases v <;> rfl) (fun v => by cases v <;> rfl) (nil_s hp) dX12_init_447 rfl ?_
  exact kk
set_option maxRecDepth 4000 in
theorem kM_p23 {X : Cx} {d : Nat} (hC : mOK X cX12_init RX12 "<init>" none d 30 3972) (hd : 1 ≤ d) (hN : ∀ i, i < 2 → i < xN X) (hp : xP X = []) {β : Mem} (hb : mL β = 37) {Q : State → Prop} (kk : mG X 458 [(0, .ref (xB X + 37))] [] (kM_87 β) 14 3504 Q) : mG X 450 [(0, .ref (xB X + 37))] [] (kM_85 β) 13 3496 Q := by
  refine g_aload_n hC dX12_init_450 rfl ?_
  refine g_bipush (v := 8) hC dX12_init_451 (by decide) ?_
  refine k_newa (N := 8) (r := 51) (τ := (kM_86 β)) hC na_14 (by decide) (by decide) (by decide) (by decide) (by decide) dX12_init_453 (kM_L85 hb) rfl ?_
  refine mG.st (st1 := [va_rf (Option.map (fun r => xB X + r) (some 51)), .ref (xB X + 37)]) rfl ?_
  refine k_putR (τ := (kM_87 β)) hC fw_X12_170_12i (kM_T86_37 hb) (fun v => by cases v <;> rfl) (fun v => by cases v <;> rfl) (nil_s hp) dX12_init_455 rfl ?_
  exact kk
set_option maxRecDepth 4000 in
theorem kM_p24 {X : Cx} {d : Nat} (hC : mOK X cX12_init RX12 "<init>" none d 30 3972) (hd : 1 ≤ d) (hN : ∀ i, i < 2 → i < xN X) (hp : xP X = []) {β : Mem} (hb : mL β = 37) {Q : State → Prop} (kk : mG X 466 [(0, .ref (xB X + 37))] [] (kM_89 β) 15 3568 Q) : mG X 458 [(0, .ref (xB X + 37))] [] (kM_87 β) 14 3504 Q := by
  refine g_aload_n hC dX12_init_458 rfl ?_
  refine g_bipush (v := 64) hC dX12_init_459 (by decide) ?_
  refine k_newa (N := 64) (r := 52) (τ := (kM_88 β)) hC na_14 (by decide) (by decide) (by decide) (by decide) (by decide) dX12_init_461 (kM_L87 hb) rfl ?_
  refine mG.st (st1 := [va_rf (Option.map (fun r => xB X + r) (some 52)), .ref (xB X + 37)]) rfl ?_
  refine k_putR (τ := (kM_89 β)) hC fw_X12_173_12i (kM_T88_37 hb) (fun v => by cases v <;> rfl) (fun v => by cases v <;> rfl) (nil_s hp) dX12_init_463 rfl ?_
  exact kk
set_option maxRecDepth 4000 in
theorem kM_p25 {X : Cx} {d : Nat} (hC : mOK X cX12_init RX12 "<init>" none d 30 3972) (hd : 1 ≤ d) (hN : ∀ i, i < 2 → i < xN X) (hp : xP X = []) {β : Mem} (hb : mL β = 37) {Q : State → Prop} (kk : mG X 474 [(0, .ref (xB X + 37))] [] (kM_91 β) 16 3576 Q) : mG X 466 [(0, .ref (xB X + 37))] [] (kM_89 β) 15 3568 Q := by
  refine g_aload_n hC dX12_init_466 rfl ?_
  refine g_bipush (v := 8) hC dX12_init_467 (by decide) ?_
  refine k_newa (N := 8) (r := 53) (τ := (kM_90 β)) hC na_14 (by decide) (by decide) (by decide) (by decide) (by decide) dX12_init_469 (kM_L89 hb) rfl ?_
  refine mG.st (st1 := [va_rf (Option.map (fun r => xB X + r) (some 53)), .ref (xB X + 37)]) rfl ?_
  refine k_putR (τ := (kM_91 β)) hC fw_X12_176_12i (kM_T90_37 hb) (fun v => by cases v <;> rfl) (fun v => by cases v <;> rfl) (nil_s hp) dX12_init_471 rfl ?_
  exact kk
set_option maxRecDepth 4000 in
theorem kM_p26 {X : Cx} {d : Nat} (hC : mOK X cX12_init RX12 "<init>" none d 30 3972) (hd : 1 ≤ d) (hN : ∀ i, i < 2 → i < xN X) (hp : xP X = []) {β : Mem} (hb : mL β = 37) {Q : State → Prop} (kk : mG X 482 [(0, .ref (xB X + 37))] [] (kM_93 β) 17 3584 Q) : mG X 474 [(0, .ref (xB X + 37))] [] (kM_91 β) 16 3576 Q := by
  refine g_aload_n hC dX12_init_474 rfl ?_
  refine g_bipush (v := 8) hC dX12_init_475 (by decide) ?_
  refine k_newa (N := 8) (r := 54) (τ := (kM_92 β)) hC na_14 (by decide) (by decide) (by decide) (by decide) (by decide) dX12_init_477 (kM_L91 hb) rfl ?_
  refine mG.st (st1 := [va_rf (Option.map (fun r => xB X + r) (some 54)), .ref (xB X + 37)]) rfl ?_
  refine k_putR (τ := (kM_93 β)) hC fw_X12_179_12i (kM_T92_37 hb) (fun v => by cases v <;> rfl) (fun v => by cases v <;> rfl) (nil_s hp) dX12_init_479 rfl ?_
  exact kk
set_option maxRecDepth 4000 in
theorem kM_p27 {X : Cx} {d : Nat} (hC : mOK X cX12_init RX12 "<init>" none d 30 3972) (hd : 1 ≤ d) (hN : ∀ i, i < 2 → i < xN X) (hp : xP X = []) {β : Mem} (hb : mL β = 37) {Q : State → Prop} (kk : mG X 490 [(0, .ref (xB X + 37))] [] (kM_95 β) 18 3592 Q) : mG X 482 [(0, .ref (xB X + 37))] [] (kM_93 β) 17 3584 Q := by
  refine g_aload_n hC dX12_init_482 rfl ?_
  refine g_bipush (v := 8) hC dX12_init_483 (by decide) ?_
  refine k_newa (N := 8) (r := 55) (τ := (kM_94 β)) hC na_14 (by decide) (by decide) (by decide) (by decide) (by decide) dX12_init_485 (kM_L93 hb) rfl ?_
  refine mG.st (st1 := [va_rf (Option.map (fun r => xB X + r) (some 55)), .ref (xB X + 37)]) rfl ?_
  refine k_putR (τ := (kM_95 β)) hC fw_X12_182_12i (kM_T94_37 hb) (fun v => by cases v <;> rfl) (fun v => by cases v <;> rfl) (nil_s hp) dX12_init_487 rfl ?_
  exact kk
set_option maxRecDepth 4000 in
theorem kM_p28 {X : Cx} {d : Nat} (hC : mOK X cX12_init RX12 "<init>" none d 30 3972) (hd : 1 ≤ d) (hN : ∀ i, i < 2 → i < xN X) (hp : xP X = []) {β : Mem} (hb : mL β = 37) {Q : State → Prop} (kk : mG X 497 [(0, .ref (xB X + 37))] [] (kM_97 β) 19 3595 Q) : mG X 490 [(0, .ref (xB X + 37))] [] (kM_95 β) 18 3592 Q := by
  refine g_aload_n hC dX12_init_490 rfl ?_
  refine g_iconst (v := 3) hC dX12_init_491 (by decide) ?_
  refine k_newa (N := 3) (r := 56) (τ := (kM_96 β)) hC na_14 (by decide) (by decide) (by decide) (by decide) (by decide) dX12_init_492 (kM_L95 hb) rfl ?_
  refine mG.st (st1 := [va_rf (Option.map (fun r => xB X + r) (some 56)), .ref (xB X + 37)]) rfl ?_
  refine k_putR (τ := (kM_97 β)) hC fw_X12_185_12i (kM_T96_37 hb) (fun v => by cases v <;> rfl) (fun v => by cases v <;> rfl) (nil_s hp) dX12_init_494 rfl ?_
  exact kk
set_option maxRecDepth 4000 in
theorem kM_p29 {X : Cx} {d : Nat} (hC : mOK X cX12_init RX12 "<init>" none d 30 3972) (hd : 1 ≤ d) (hN : ∀ i, i < 2 → i < xN X) (hp : xP X = []) {β : Mem} (hb : mL β = 37) {Q : State → Prop} (kk : mG X 505 [(0, .ref (xB X + 37))] [] (kM_99 β) 20 3604 Q) : mG X 497 [(0, .ref (xB X + 37))] [] (kM_97 β) 19 3595 Q := by
  refine g_aload_n hC dX12_init_497 rfl ?_
  refine g_bipush (v := 9) hC dX12_init_498 (by decide) ?_
  refine k_newa (N := 9) (r := 57) (τ := (kM_98 β)) hC na_14 (by decide) (by decide) (by decide) (by decide) (by decide) dX12_init_500 (kM_L97 hb) rfl ?_
  refine mG.st (st1 := [va_rf (Option.map (fun r => xB X + r) (some 57)), .ref (xB X + 37)]) rfl ?_
  refine k_putR (τ := (kM_99 β)) hC fw_X12_188_12i (kM_T98_37 hb) (fun v => by cases v <;> rfl) (fun v => by cases v <;> rfl) (nil_s hp) dX12_init_502 rfl ?_
  exact kk
set_option maxRecDepth 4000 in
theorem kM_p30 {X : Cx} {d : Nat} (hC : mOK X cX12_init RX12 "<init>" none d 30 3972) (hd : 1 ≤ d) (hN : ∀ i, i < 2 → i < xN X) (hp : xP X = []) {β : Mem} (hb : mL β = 37) {Q : State → Prop} (kk : mG X 513 [(0, .ref (xB X + 37))] [] (kM_101 β) 21 3612 Q) : mG X 505 [(0, .ref (xB X + 37))] [] (kM_99 β) 20 3604 Q := by
  refine g_aload_n hC dX12_init_505 rfl ?_
  refine g_bipush (v := 8) hC dX12_init_506 (by decide) ?_
  refine k_newa (N := 8) (r := 58) (τ := (kM_100 β)) hC na_14 (by decide) (by decide) (by decide) (by decide) (by decide) dX12_init_508 (kM_L99 hb) rfl ?_
  refine mG.st (st1 := [va_rf (Option.map (fun r => xB X + r) (some 58)), .ref (xB X + 37)]) rfl ?_
  refine k_putR (τ := (kM_101 β)) hC fw_X12_191_12i (kM_T100_37 hb) (fun v => by cases v <;> rfl) (fun v => by cases v <;> rfl) (nil_s hp) dX12_init_510 rfl ?_
  exact kk
set_option maxRecDepth 4000 in
theorem kM_p31 {X : Cx} {d : Nat} (hC : mOK X cX12_init RX12 "<init>" none d 30 3972) (hd : 1 ≤ d) (hN : ∀ i, i < 2 → i < xN X) (hp : xP X = []) {β : Mem} (hb : mL β = 37) {Q : State → Prop} (kk : mG X 521 [(0, .ref (xB X + 37))] [] (kM_103 β) 22 3620 Q) : mG X 513 [(0, .ref (xB X + 37))] [] (kM_101 β) 21 3612 Q := by
  refine g_aload_n hC dX12_init_513 rfl ?_
  refine g_bipush (v := 8) hC dX12_init_514 (by decide) ?_
  refine k_newa (N := 8) (r := 59) (τ := (kM_102 β)) hC na_14 (by decide) (by decide) (by decide) (by decide) (by decide) dX12_init_516 (kM_L101 hb) rfl ?_
  refine mG.st (st1 := [va_rf (Option.map (fun r => xB X + r) (some 59)), .ref (xB X + 37)]) rfl ?_
  refine k_putR (τ := (kM_103 β)) hC fw_X12_194_12i (kM_T102_37 hb) (fun v => by cases v <;> rfl) (fun v => by cases v <;> rfl) (nil_s hp) dX12_init_518 rfl ?_
  exact kk
set_option maxRecDepth 4000 in
theorem kM_p32 {X : Cx} {d : Nat} (hC : mOK X cX12_init RX12 "<init>" none d 30 3972) (hd : 1 ≤ d) (hN : ∀ i, i < 2 → i < xN X) (hp : xP X = []) {β : Mem} (hb : mL β = 37) {Q : State → Prop} (kk : mG X 529 [(0, .ref (xB X + 37))] [] (kM_105 β) 23 3628 Q) : mG X 521 [(0, .ref (xB X + 37))] [] (kM_103 β) 22 3620 Q := by
  refine g_aload_n hC dX12_init_521 rfl ?_
  refine g_bipush (v := 8) hC dX12_init_522 (by decide) ?_
  refine k_newa (N := 8) (r := 60) (τ := (kM_104 β)) hC na_14 (by decide) (by decide) (by decide) (by decide) (by decide) dX12_init_524 (kM_L103 hb) rfl ?_
  refine mG.st (st1 := [va_rf (Option.map (fun r => xB X + r) (some 60)), .ref (xB X + 37)]) rfl ?_
  refine k_putR (τ := (kM_105 β)) hC fw_X12_197_12i (kM_T104_37 hb) (fun v => by cases v <;> rfl) (fun v => by cases v <;> rfl) (nil_s hp) dX12_init_526 rfl ?_
  exact kk
set_option maxRecDepth 4000 in
theorem kM_p33 {X : Cx} {d : Nat} (hC : mOK X cX12_init RX12 "<init>" none d 30 3972) (hd : 1 ≤ d) (hN : ∀ i, i < 2 → i < xN X) (hp : xP X = []) {β : Mem} (hb : mL β = 37) {Q : State → Prop} (kk : mG X 537 [(0, .ref (xB X + 37))] [] (kM_107 β) 24 3692 Q) : mG X 529 [(0, .ref (xB X + 37))] [] (kM_105 β) 23 3628 Q := by
  refine g_aload_n hC dX12_init_529 rfl ?_
  refine g_bipush (v := 64) hC dX12_init_530 (by decide) ?_
  refine k_newa (N := 64) (r := 61) (τ := (kM_106 β)) hC na_14 (by decide) (by decide) (by decide) (by decide) (by decide) dX12_init_532 (kM_L105 hb) rfl ?_
  refine mG.st (st1 := [va_rf (Option.map (fun r => xB X + r) (some 61)), .ref (xB X + 37)]) rfl ?_
  refine k_putR (τ := (kM_107 β)) hC fw_X12_200_12i (kM_T106_37 hb) (fun v => by cases v <;> rfl) (fun v => by cases v <;> rfl) (nil_s hp) dX12_init_534 rfl ?_
  exact kk
set_option maxRecDepth 4000 in
theorem kM_p34 {X : Cx} {d : Nat} (hC : mOK X cX12_init RX12 "<init>" none d 30 3972) (hd : 1 ≤ d) (hN : ∀ i, i < 2 → i < xN X) (hp : xP X = []) {β : Mem} (hb : mL β = 37) {Q : State → Prop} (kk : mG X 545 [(0, .ref (xB X + 37))] [] (kM_109 β) 25 3700 Q) : mG X 537 [(0, .ref (xB X + 37))] [] (kM_107 β) 24 3692 Q := by
  refine g_aload_n hC dX12_init_537 rfl ?_
  refine g_bipush (v := 8) hC dX12_init_538 (by decide) ?_
  refine k_newa (N := 8) (r := 62) (τ := (kM_108 β)) hC na_14 (by decide) (by decide) (by decide) (by decide) (by decide) dX12_init_540 (kM_L107 hb) rfl ?_
  refine mG.st (st1 := [va_rf (Option.map (fun r => xB X + r) (some 62)), .ref (xB X + 37)]) rfl ?_
  refine k_putR (τ := (kM_109 β)) hC fw_X12_203_12i (kM_T108_37 hb) (fun v => by cases v <;> rfl) (fun v => by cases v <;> rfl) (nil_s hp) dX12_init_542 rfl ?_
  exact kk
set_option maxRecDepth 4000 in
theorem kM_p35 {X : Cx} {d : Nat} (hC : mOK X cX12_init RX12 "<init>" none d 30 3972) (hd : 1 ≤ d) (hN : ∀ i, i < 2 → i < xN X) (hp : xP X = []) {β : Mem} (hb : mL β = 37) {Q : State → Prop} (kk : mG X 553 [(0, .ref (xB X + 37))] [] (kM_111 β) 26 3764 Q) : mG X 545 [(0, .ref (xB X + 37))] [] (kM_109 β) 25 3700 Q := by
  refine g_aload_n hC dX12_init_545 rfl ?_
  refine g_bipush (v := 64) hC dX12_init_546 (by decide) ?_
  refine k_newa (N := 64) (r := 63) (τ := (kM_110 β)) hC na_14 (by decide) (by decide) (by decide) (by decide) (by decide) dX12_init_548 (kM_L109 hb) rfl ?_
  refine mG.st (st1 := [va_rf (Option.map (fun r => xB X + r) (some 63)), .ref (xB X + 37)]) rfl ?_
  refine k_putR (τ := (kM_111 β)) hC fw_X12_206_12i (kM_T110_37 hb) (fun v => by cases v <;> rfl) (fun v => by cases v <;> rfl) (nil_s hp) dX12_init_550 rfl ?_
  exact kk
set_option maxRecDepth 4000 in
theorem kM_p36 {X : Cx} {d : Nat} (hC : mOK X cX12_init RX12 "<init>" none d 30 3972) (hd : 1 ≤ d) (hN : ∀ i, i < 2 → i < xN X) (hp : xP X = []) {β : Mem} (hb : mL β = 37) {Q : State → Prop} (kk : mG X 576 [(0, .ref (xB X + 37))] [] (kM_117 β) 27 3768 Q) : mG X 553 [(0, .ref (xB X + 37))] [] (kM_111 β) 26 3764 Q := by
  refine g_aload_n hC dX12_init_553 rfl ?_
  refine g_iconst (v := 4) hC dX12_init_554 (by decide) ?_
  refine k_newa (N := 4) (r := 64) (τ := (kM_112 β)) hC na_14 (by decide) (by decide) (by decide) (by decide) (by decide) dX12_init_555 (kM_L111 hb) rfl ?_
  refine g_dup hC dX12_init_557 rfl ?_
  refine g_iconst (v := 0) hC dX12_init_558 (by decide) ?_
  refine g_iconst (v := (-1)) hC dX12_init_559 (by decide) ?_
  refine k_iast (τ := (kM_113 β)) (k := 0) hC (kM_T112_64 hb) (by decide) (vpl (by decide)) dX12_init_560 rfl ?_
  refine g_dup hC dX12_init_561 rfl ?_
  refine g_iconst (v := 1) hC dX12_init_562 (by decide) ?_
  refine g_iconst (v := (-1)) hC dX12_init_563 (by decide) ?_
  refine k_iast (τ := (kM_114 β)) (k := 1) hC (kM_T113_64 hb) (by decide) (vpl (by decide)) dX12_init_564 rfl ?_
  refine g_dup hC dX12_init_565 rfl ?_
  refine g_iconst (v := 2) hC dX12_init_566 (by decide) ?_
  refine g_iconst (v := (-1)) hC dX12_init_567 (by decide) ?_
  refine k_iast (τ := (kM_115 β)) (k := 2) hC (kM_T114_64 hb) (by decide) (vpl (by decide)) dX12_init_568 rfl ?_
  refine g_dup hC dX12_init_569 rfl ?_
  refine g_iconst (v := 3) hC dX12_init_570 (by decide) ?_
  refine g_iconst (v := (-1)) hC dX12_init_571 (by decide) ?_
  refine k_iast (τ := (kM_116 β)) (k := 3) hC (kM_T115_64 hb) (by decide) (vpl (by decide)) dX12_init_572 rfl ?_
  refine mG.st (st1 := [va_rf (Option.map (fun r => xB X + r) (some 64)), .ref (xB X + 37)]) rfl ?_
  refine k_putR (τ := (kM_117 β)) hC fw_X12_209_12i (kM_T116_37 hb) (fun v => by cases v <;> rfl) (fun v => by cases v <;> rfl) (nil_s hp) dX12_init_573 rfl ?_
  exact kk
set_option maxRecDepth 4000 in
theorem kM_p37 {X : Cx} {d : Nat} (hC : mOK X cX12_init RX12 "<init>" none d 30 3972) (hd : 1 ≤ d) (hN : ∀ i, i < 2 → i < xN X) (hp : xP X = []) {β : Mem} (hb : mL β = 37) {Q : State → Prop} (kk : mG X 583 [(0, .ref (xB X + 37))] [] (kM_119 β) 28 3772 Q) : mG X 576 [(0, .ref (xB X + 37))] [] (kM_117 β) 27 3768 Q := by
  refine g_aload_n hC dX12_init_576 rfl ?_
  refine g_iconst (v := 4) hC dX12_init_577 (by decide) ?_
  refine k_newa (N := 4) (r := 65) (τ := (kM_118 β)) hC na_14 (by decide) (by decide) (by decide) (by decide) (by decide) dX12_init_578 (kM_L117 hb) rfl ?_
  refine mG.st (st1 := [va_rf (Option.map (fun r => xB X + r) (some 65)), .ref (xB X + 37)]) rfl ?_
  refine k_putR (τ := (kM_119 β)) hC fw_X12_212_12i (kM_T118_37 hb) (fun v => by cases v <;> rfl) (fun v => by cases v <;> rfl) (nil_s hp) dX12_init_580 rfl ?_
  exact kk
set_option maxRecDepth 4000 in
theorem kM_p38 {X : Cx} {d : Nat} (hC : mOK X cX12_init RX12 "<init>" none d 30 3972) (hd : 1 ≤ d) (hN : ∀ i, i < 2 → i < xN X) (hp : xP X = []) {β : Mem} (hb : mL β = 37) {Q : State → Prop} (kk : mG X 592 [(0, .ref (xB X + 37))] [] (kM_121 β) 29 3932 Q) : mG X 583 [(0, .ref (xB X + 37))] [] (kM_119 β) 28 3772 Q := by
  refine g_aload_n hC dX12_init_583 rfl ?_
  refine g_sipush (v := 160) hC dX12_init_584 (by decide) ?_
  refine k_newa (N := 160) (r := 66) (τ := (kM_120 β)) hC na_14 (by decide) (by decide) (by decide) (by decide) (by decide) dX12_init_587 (kM_L119 hb) rfl ?_
  refine mG.st (st1 := [va_rf (Option.map (fun r => xB X + r) (some 66)), .ref (xB X + 37)]) rfl ?_
  refine k_putR (τ := (kM_121 β)) hC fw_X12_215_12i (kM_T120_37 hb) (fun v => by cases v <;> rfl) (fun v => by cases v <;> rfl) (nil_s hp) dX12_init_589 rfl ?_
  exact kk
set_option maxRecDepth 4000 in
theorem kM_p39 {X : Cx} {d : Nat} (hC : mOK X cX12_init RX12 "<init>" none d 30 3972) (hd : 1 ≤ d) (hN : ∀ i, i < 2 → i < xN X) (hp : xP X = []) {β : Mem} (hb : mL β = 37) {Q : State → Prop} (kk : mG X 600 [(0, .ref (xB X + 37))] [] (kM_123 β) 30 3972 Q) : mG X 592 [(0, .ref (xB X + 37))] [] (kM_121 β) 29 3932 Q := by
  refine g_aload_n hC dX12_init_592 rfl ?_
  refine g_bipush (v := 40) hC dX12_init_593 (by decide) ?_
  refine k_newa (N := 40) (r := 67) (τ := (kM_122 β)) hC na_14 (by decide) (by decide) (by decide) (by decide) (by decide) dX12_init_595 (kM_L121 hb) rfl ?_
  refine mG.st (st1 := [va_rf (Option.map (fun r => xB X + r) (some 67)), .ref (xB X + 37)]) rfl ?_
  refine k_putR (τ := (kM_123 β)) hC fw_X12_218_12i (kM_T122_37 hb) (fun v => by cases v <;> rfl) (fun v => by cases v <;> rfl) (nil_s hp) dX12_init_597 rfl ?_
  exact kk
set_option maxRecDepth 4000 in
theorem kM_p40 {X : Cx} {d : Nat} (hC : mOK X cX12_init RX12 "<init>" none d 30 3972) (hd : 1 ≤ d) (hN : ∀ i, i < 2 → i < xN X) (hp : xP X = []) {β : Mem} (hb : mL β = 37) {Q : State → Prop} (kk : mG X 607 [(0, .ref (xB X + 37))] [] (kM_124 β) 30 3972 Q) : mG X 600 [(0, .ref (xB X + 37))] [] (kM_123 β) 30 3972 Q := by
  refine g_aload_n hC dX12_init_600 rfl ?_
  refine g_getr hC fl_X12_86_12.s (kM_T123_37 hb) (kM_P123_37_11 hb) dX12_init_601 ?_
  refine g_iconst (v := 0) hC dX12_init_604 (by decide) ?_
  refine g_iconst (v := 0) hC dX12_init_605 (by decide) ?_
  refine k_iast (τ := (kM_124 β)) (k := 0) hC (kM_T123_43 hb) (by decide) (vpl (by decide)) dX12_init_606 rfl ?_
  exact kk
set_option maxRecDepth 4000 in
theorem kM_p41 {X : Cx} {d : Nat} (hC : mOK X cX12_init RX12 "<init>" none d 30 3972) (hd : 1 ≤ d) (hN : ∀ i, i < 2 → i < xN X) (hp : xP X = []) {β : Mem} (hb : mL β = 37) {Q : State → Prop} (kk : mG X 614 [(0, .ref (xB X + 37))] [] (kM_125 β) 30 3972 Q) : mG X 607 [(0, .ref (xB X + 37))] [] (kM_124 β) 30 3972 Q := by
  refine g_aload_n hC dX12_init_607 rfl ?_
  refine g_getr hC fl_X12_86_12.s (kM_T124_37 hb) (kM_P124_37_11 hb) dX12_init_608 ?_
  refine g_iconst (v := 1) hC dX12_init_611 (by decide) ?_
  refine g_iconst (v := 1) hC dX12_init_612 (by decide) ?_
  refine k_iast (τ := (kM_125 β)) (k := 1) hC (kM_T124_43 hb) (by decide) (vpl (by decide)) dX12_init_613 rfl ?_
  exact kk
set_option maxRecDepth 4000 in
theorem kM_p42 {X : Cx} {d : Nat} (hC : mOK X cX12_init RX12 "<init>" none d 30 3972) (hd : 1 ≤ d) (hN : ∀ i, i < 2 → i < xN X) (hp : xP X = []) {β : Mem} (hb : mL β = 37) {Q : State → Prop} (kk : mG X 622 [(0, .ref (xB X + 37))] [] (kM_126 β) 30 3972 Q) : mG X 614 [(0, .ref (xB X + 37))] [] (kM_125 β) 30 3972 Q := by
  refine g_aload_n hC dX12_init_614 rfl ?_
  refine g_getr hC fl_X12_86_12.s (kM_T125_37 hb) (kM_P125_37_11 hb) dX12_init_615 ?_
  refine g_iconst (v := 2) hC dX12_init_618 (by decide) ?_
  refine g_bipush (v := 13) hC dX12_init_619 (by decide) ?_
  refine k_iast (τ := (kM_126 β)) (k := 2) hC (kM_T125_43 hb) (by decide) (vpl (by decide)) dX12_init_621 rfl ?_
  exact kk
set_option maxRecDepth 4000 in
theorem kM_p43 {X : Cx} {d : Nat} (hC : mOK X cX12_init RX12 "<init>" none d 30 3972) (hd : 1 ≤ d) (hN : ∀ i, i < 2 → i < xN X) (hp : xP X = []) {β : Mem} (hb : mL β = 37) {Q : State → Prop} (kk : mG X 629 [(0, .ref (xB X + 37))] [] (kM_127 β) 30 3972 Q) : mG X 622 [(0, .ref (xB X + 37))] [] (kM_126 β) 30 3972 Q := by
  refine g_aload_n hC dX12_init_622 rfl ?_
  refine g_getr hC fl_X12_134_12.s (kM_T126_37 hb) (kM_P126_37_12 hb) dX12_init_623 ?_
  refine g_iconst (v := 0) hC dX12_init_626 (by decide) ?_
  refine g_iconst (v := 3) hC dX12_init_627 (by decide) ?_
  refine k_iast (τ := (kM_127 β)) (k := 0) hC (kM_T126_44 hb) (by decide) (vpl (by decide)) dX12_init_628 rfl ?_
  exact kk
set_option maxRecDepth 4000 in
theorem kM_p44 {X : Cx} {d : Nat} (hC : mOK X cX12_init RX12 "<init>" none d 30 3972) (hd : 1 ≤ d) (hN : ∀ i, i < 2 → i < xN X) (hp : xP X = []) {β : Mem} (hb : mL β = 37) {Q : State → Prop} (kk : mG X 639 [(0, .ref (xB X + 37))] [] (kM_128 β) 30 3972 Q) : mG X 629 [(0, .ref (xB X + 37))] [] (kM_127 β) 30 3972 Q := by
  refine g_aload_n hC dX12_init_629 rfl ?_
  refine g_getr hC fl_X12_86_12.s (kM_T127_37 hb) (kM_P127_37_11 hb) dX12_init_630 ?_
  refine g_sipush (v := 160) hC dX12_init_633 (by decide) ?_
  refine g_bipush (v := (-2)) hC dX12_init_636 (by decide) ?_
  refine k_iast (τ := (kM_128 β)) (k := 160) hC (kM_T127_43 hb) (by decide) (vpl (by decide)) dX12_init_638 rfl ?_
  exact kk
set_option maxRecDepth 4000 in
theorem kM_p45 {X : Cx} {d : Nat} (hC : mOK X cX12_init RX12 "<init>" none d 30 3972) (hd : 1 ≤ d) (hN : ∀ i, i < 2 → i < xN X) (hp : xP X = []) {β : Mem} (hb : mL β = 37) {Q : State → Prop} (kk : mG X 648 [(0, .ref (xB X + 37))] [] (kM_129 β) 30 3972 Q) : mG X 639 [(0, .ref (xB X + 37))] [] (kM_128 β) 30 3972 Q := by
  refine g_aload_n hC dX12_init_639 rfl ?_
  refine g_getr hC fl_X12_86_12.s (kM_T128_37 hb) (kM_P128_37_11 hb) dX12_init_640 ?_
  refine g_sipush (v := 161) hC dX12_init_643 (by decide) ?_
  refine g_iconst (v := 4) hC dX12_init_646 (by decide) ?_
  refine k_iast (τ := (kM_129 β)) (k := 161) hC (kM_T128_43 hb) (by decide) (vpl (by decide)) dX12_init_647 rfl ?_
  exact kk
set_option maxRecDepth 4000 in
theorem kM_p46 {X : Cx} {d : Nat} (hC : mOK X cX12_init RX12 "<init>" none d 30 3972) (hd : 1 ≤ d) (hN : ∀ i, i < 2 → i < xN X) (hp : xP X = []) {β : Mem} (hb : mL β = 37) {Q : State → Prop} (kk : mG X 658 [(0, .ref (xB X + 37))] [] (kM_130 β) 30 3972 Q) : mG X 648 [(0, .ref (xB X + 37))] [] (kM_129 β) 30 3972 Q := by
  refine g_aload_n hC dX12_init_648 rfl ?_
  refine g_getr hC fl_X12_86_12.s (kM_T129_37 hb) (kM_P129_37_11 hb) dX12_init_649 ?_
  refine g_sipush (v := 162) hC dX12_init_652 (by decide) ?_
  refine g_bipush (v := 16) hC dX12_init_655 (by decide) ?_
  refine k_iast (τ := (kM_130 β)) (k := 162) hC (kM_T129_43 hb) (by decide) (vpl (by decide)) dX12_init_657 rfl ?_
  exact kk
set_option maxRecDepth 4000 in
theorem kM_p47 {X : Cx} {d : Nat} (hC : mOK X cX12_init RX12 "<init>" none d 30 3972) (hd : 1 ≤ d) (hN : ∀ i, i < 2 → i < xN X) (hp : xP X = []) {β : Mem} (hb : mL β = 37) {Q : State → Prop} (kk : mG X 665 [(0, .ref (xB X + 37))] [] (kM_131 β) 30 3972 Q) : mG X 658 [(0, .ref (xB X + 37))] [] (kM_130 β) 30 3972 Q := by
  refine g_aload_n hC dX12_init_658 rfl ?_
  refine g_getr hC fl_X12_134_12.s (kM_T130_37 hb) (kM_P130_37_12 hb) dX12_init_659 ?_
  refine g_iconst (v := 1) hC dX12_init_662 (by decide) ?_
  refine g_iconst (v := 3) hC dX12_init_663 (by decide) ?_
  refine k_iast (τ := (kM_131 β)) (k := 1) hC (kM_T130_44 hb) (by decide) (vpl (by decide)) dX12_init_664 rfl ?_
  exact kk
set_option maxRecDepth 4000 in
theorem kM_p48 {X : Cx} {d : Nat} (hC : mOK X cX12_init RX12 "<init>" none d 30 3972) (hd : 1 ≤ d) (hN : ∀ i, i < 2 → i < xN X) (hp : xP X = []) {β : Mem} (hb : mL β = 37) {Q : State → Prop} (kk : mG X 674 [(0, .ref (xB X + 37))] [] (kM_132 β) 30 3972 Q) : mG X 665 [(0, .ref (xB X + 37))] [] (kM_131 β) 30 3972 Q := by
  refine g_aload_n hC dX12_init_665 rfl ?_
  refine g_getr hC fl_X12_86_12.s (kM_T131_37 hb) (kM_P131_37_11 hb) dX12_init_666 ?_
  refine g_sipush (v := 320) hC dX12_init_669 (by decide) ?_
  refine g_iconst (v := 0) hC dX12_init_672 (by decide) ?_
  refine k_iast (τ := (kM_132 β)) (k := 320) hC (kM_T131_43 hb) (by decide) (vpl (by decide)) dX12_init_673 rfl ?_
  exact kk
set_option maxRecDepth 4000 in
theorem kM_p49 {X : Cx} {d : Nat} (hC : mOK X cX12_init RX12 "<init>" none d 30 3972) (hd : 1 ≤ d) (hN : ∀ i, i < 2 → i < xN X) (hp : xP X = []) {β : Mem} (hb : mL β = 37) {Q : State → Prop} (kk : mG X 681 [(0, .ref (xB X + 37))] [] (kM_133 β) 30 3972 Q) : mG X 674 [(0, .ref (xB X + 37))] [] (kM_132 β) 30 3972 Q := by
  refine g_aload_n hC dX12_init_674 rfl ?_
  refine g_getr hC fl_X12_134_12.s (kM_T132_37 hb) (kM_P132_37_12 hb) dX12_init_675 ?_
  refine g_iconst (v := 2) hC dX12_init_678 (by decide) ?_
  refine g_iconst (v := 1) hC dX12_init_679 (by decide) ?_
  refine k_iast (τ := (kM_133 β)) (k := 2) hC (kM_T132_44 hb) (by decide) (vpl (by decide)) dX12_init_680 rfl ?_
  exact kk
set_option maxRecDepth 4000 in
theorem kM_p50 {X : Cx} {d : Nat} (hC : mOK X cX12_init RX12 "<init>" none d 30 3972) (hd : 1 ≤ d) (hN : ∀ i, i < 2 → i < xN X) (hp : xP X = []) {β : Mem} (hb : mL β = 37) {Q : State → Prop} (kk : mG X 686 [(0, .ref (xB X + 37))] [] (kM_134 β) 30 3972 Q) : mG X 681 [(0, .ref (xB X + 37))] [] (kM_133 β) 30 3972 Q := by
  refine g_aload_n hC dX12_init_681 rfl ?_
  refine g_iconst (v := 1) hC dX12_init_682 (by decide) ?_
  refine k_putI (τ := (kM_134 β)) hC fw_X12_150_12i (kM_T133_37 hb) rfl rfl dX12_init_683 rfl ?_
  exact kk
set_option maxRecDepth 4000 in
theorem kM_p51 {X : Cx} {d : Nat} (hC : mOK X cX12_init RX12 "<init>" none d 30 3972) (hd : 1 ≤ d) (hN : ∀ i, i < 2 → i < xN X) (hp : xP X = []) {β : Mem} (hb : mL β = 37) {Q : State → Prop} (kk : mG X 701 [(1, .int 0), (0, .ref (xB X + 37))] [] (kM_135 β) 30 3972 Q) : mG X 686 [(0, .ref (xB X + 37))] [] (kM_134 β) 30 3972 Q := by
  refine g_iconst (v := 0) hC dX12_init_686 (by decide) ?_
  refine g_istore_n (lv' := [(1, .int 0), (0, .ref (xB X + 37))]) hC dX12_init_687 (hN 1 (by decide)) rfl ?_
  refine g_iload_n hC dX12_init_688 rfl ?_
  refine g_bipush (v := 8) hC dX12_init_689 (by decide) ?_
  refine g_icmp_ge (tgt := 707) hC dX12_init_691 rfl (fun c => absurd c (by decide)) (fun c => ?_)
  refine g_aload_n hC dX12_init_694 rfl ?_
  refine g_getr hC fl_X12_176_12.s (kM_T134_37 hb) (kM_P134_37_31 hb) dX12_init_695 ?_
  refine g_iload_n hC dX12_init_698 rfl ?_
  refine g_iload_n hC dX12_init_699 rfl ?_
  refine k_iast (τ := (kM_135 β)) (k := 0) hC (kM_T134_53 hb) (by decide) (vpl (by decide)) dX12_init_700 rfl ?_
  exact kk
set_option maxRecDepth 4000 in
theorem kM_p52 {X : Cx} {d : Nat} (hC : mOK X cX12_init RX12 "<init>" none d 30 3972) (hd : 1 ≤ d) (hN : ∀ i, i < 2 → i < xN X) (hp : xP X = []) {β : Mem} (hb : mL β = 37) {Q : State → Prop} (kk : mG X 701 [(1, .int 1), (0, .ref (xB X + 37))] [] (kM_136 β) 30 3972 Q) : mG X 701 [(1, .int 0), (0, .ref (xB X + 37))] [] (kM_135 β) 30 3972 Q := by
  refine g_iinc (v := 1) (lv' := [(1, .int 1), (0, .ref (xB X + 37))]) hC dX12_init_701 rfl (by decide) (hN 1 (by decide)) rfl ?_
  refine g_goto (tgt := 688) hC dX12_init_704 rfl ?_
  refine g_iload_n hC dX12_init_688 rfl ?_
  refine g_bipush (v := 8) hC dX12_init_689 (by decide) ?_
  refine g_icmp_ge (tgt := 707) hC dX12_init_691 rfl (fun c => absurd c (by decide)) (fun c => ?_)
  refine g_aload_n hC dX12_init_694 rfl ?_
  refine g_getr hC fl_X12_176_12.s (kM_T135_37 hb) (kM_P135_37_31 hb) dX12_init_695 ?_
  refine g_iload_n hC dX12_init_698 rfl ?_
  refine g_iload_n hC dX12_init_699 rfl ?_
  refine k_iast (τ := (kM_136 β)) (k := 1) hC (kM_T135_53 hb) (by decide) (vpl (by decide)) dX12_init_700 rfl ?_
  exact kk
set_option maxRecDepth 4000 in
theorem kM_p53 {X : Cx} {d : Nat} (hC : mOK X cX12_init RX12 "<init>" none d 30 3972) (hd : 1 ≤ d) (hN : ∀ i, i < 2 → i < xN X) (hp : xP X = []) {β : Mem} (hb : mL β = 37) {Q : State → Prop} (kk : mG X 701 [(1, .int 2), (0, .ref (xB X + 37))] [] (kM_137 β) 30 3972 Q) : mG X 701 [(1, .int 1), (0, .ref (xB X + 37))] [] (kM_136 β) 30 3972 Q := by
  refine g_iinc (v := 2) (lv' := [(1, .int 2), (0, .ref (xB X + 37))]) hC dX12_init_701 rfl (by decide) (hN 1 (by decide)) rfl ?_
  refine g_goto (tgt := 688) hC dX12_init_704 rfl ?_
  refine g_iload_n hC dX12_init_688 rfl ?_
  refine g_bipush (v := 8) hC dX12_init_689 (by decide) ?_
  refine g_icmp_ge (tgt := 707) hC dX12_init_691 rfl (fun c => absurd c (by decide)) (fun c => ?_)
  refine g_aload_n hC dX12_init_694 rfl ?_
  refine g_getr hC fl_X12_176_12.s (kM_T136_37 hb) (kM_P136_37_31 hb) dX12_init_695 ?_
  refine g_iload_n hC dX12_init_698 rfl ?_
  refine g_iload_n hC dX12_init_699 rfl ?_
  refine k_iast (τ := (kM_137 β)) (k := 2) hC (kM_T136_53 hb) (by decide) (vpl (by decide)) dX12_init_700 rfl ?_
  exact kk
set_option maxRecDepth 4000 in
theorem kM_p54 {X : Cx} {d : Nat} (hC : mOK X cX12_init RX12 "<init>" none d 30 3972) (hd : 1 ≤ d) (hN : ∀ i, i < 2 → i < xN X) (hp : xP X = []) {β : Mem} (hb : mL β = 37) {Q : State → Prop} (kk : mG X 701 [(1, .int 3), (0, .ref (xB X + 37))] [] (kM_138 β) 30 3972 Q) : mG X 701 [(1, .int 2), (0, .ref (xB X + 37))] [] (kM_137 β) 30 3972 Q := by
  refine g_iinc (v := 3) (lv' := [(1, .int 3), (0, .ref (xB X + 37))]) hC dX12_init_701 rfl (by decide) (hN 1 (by decide)) rfl ?_
  refine g_goto (tgt := 688) hC dX12_init_704 rfl ?_
  refine g_iload_n hC dX12_init_688 rfl ?_
  refine g_bipush (v := 8) hC dX12_init_689 (by decide) ?_
  refine g_icmp_ge (tgt := 707) hC dX12_init_691 rfl (fun c => absurd c (by decide)) (fun c => ?_)
  refine g_aload_n hC dX12_init_694 rfl ?_
  refine g_getr hC fl_X12_176_12.s (kM_T137_37 hb) (kM_P137_37_31 hb) dX12_init_695 ?_
  refine g_iload_n hC dX12_init_698 rfl ?_
  refine g_iload_n hC dX12_init_699 rfl ?_
  refine k_iast (τ := (kM_138 β)) (k := 3) hC (kM_T137_53 hb) (by decide) (vpl (by decide)) dX12_init_700 rfl ?_
  exact kk
set_option maxRecDepth 4000 in
theorem kM_p55 {X : Cx} {d : Nat} (hC : mOK X cX12_init RX12 "<init>" none d 30 3972) (hd : 1 ≤ d) (hN : ∀ i, i < 2 → i < xN X) (hp : xP X = []) {β : Mem} (hb : mL β = 37) {Q : State → Prop} (kk : mG X 701 [(1, .int 4), (0, .ref (xB X + 37))] [] (kM_139 β) 30 3972 Q) : mG X 701 [(1, .int 3), (0, .ref (xB X + 37))] [] (kM_138 β) 30 3972 Q := by
  refine g_iinc (v := 4) (lv' := [(1, .int 4), (0, .ref (xB X + 37))]) hC dX12_init_701 rfl (by decide) (hN 1 (by decide)) rfl ?_
  refine g_goto (tgt := 688) hC dX12_init_704 rfl ?_
  refine g_iload_n hC dX12_init_688 rfl ?_
  refine g_bipush (v := 8) hC dX12_init_689 (by decide) ?_
  refine g_icmp_ge (tgt := 707) hC dX12_init_691 rfl (fun c => absurd c (by decide)) (fun c => ?_)
  refine g_aload_n hC dX12_init_694 rfl ?_
  refine g_getr hC fl_X12_176_12.s (kM_T138_37 hb) (kM_P138_37_31 hb) dX12_init_695 ?_
  refine g_iload_n hC dX12_init_698 rfl ?_
  refine g_iload_n hC dX12_init_699 rfl ?_
  refine k_iast (τ := (kM_139 β)) (k := 4) hC (kM_T138_53 hb) (by decide) (vpl (by decide)) dX12_init_700 rfl ?_
  exact kk
set_option maxRecDepth 4000 in
theorem kM_p56 {X : Cx} {d : Nat} (hC : mOK X cX12_init RX12 "<init>" none d 30 3972) (hd : 1 ≤ d) (hN : ∀ i, i < 2 → i < xN X) (hp : xP X = []) {β : Mem} (hb : mL β = 37) {Q : State → Prop} (kk : mG X 701 [(1, .int 5), (0, .ref (xB X + 37))] [] (kM_140 β) 30 3972 Q) : mG X 701 [(1, .int 4), (0, .ref (xB X + 37))] [] (kM_139 β) 30 3972 Q := by
  refine g_iinc (v := 5) (lv' := [(1, .int 5), (0, .ref (xB X + 37))]) hC dX12_init_701 rfl (by decide) (hN 1 (by decide)) rfl ?_
  refine g_goto (tgt := 688) hC dX12_init_704 rfl ?_
  refine g_iload_n hC dX12_init_688 rfl ?_
  refine g_bipush (v := 8) hC dX12_init_689 (by decide) ?_
  refine g_icmp_ge (tgt := 707) hC dX12_init_691 rfl (fun c => absurd c (by decide)) (fun c => ?_)
  refine g_aload_n hC dX12_init_694 rfl ?_
  refine g_getr hC fl_X12_176_12.s (kM_T139_37 hb) (kM_P139_37_31 hb) dX12_init_695 ?_
  refine g_iload_n hC dX12_init_698 rfl ?_
  refine g_iload_n hC dX12_init_699 rfl ?_
  refine k_iast (τ := (kM_140 β)) (k := 5) hC (kM_T139_53 hb) (by decide) (vpl (by decide)) dX12_init_700 rfl ?_
  exact kk
set_option maxRecDepth 4000 in
theorem kM_p57 {X : Cx} {d : Nat} (hC : mOK X cX12_init RX12 "<init>" none d 30 3972) (hd : 1 ≤ d) (hN : ∀ i, i < 2 → i < xN X) (hp : xP X = []) {β : Mem} (hb : mL β = 37) {Q : State → Prop} (kk : mG X 701 [(1, .int 6), (0, .ref (xB X + 37))] [] (kM_141 β) 30 3972 Q) : mG X 701 [(1, .int 5), (0, .ref (xB X + 37))] [] (kM_140 β) 30 3972 Q := by
  refine g_iinc (v := 6) (lv' := [(1, .int 6), (0, .ref (xB X + 37))]) hC dX12_init_701 rfl (by decide) (hN 1 (by decide)) rfl ?_
  refine g_goto (tgt := 688) hC dX12_init_704 rfl ?_
  refine g_iload_n hC dX12_init_688 rfl ?_
  refine g_bipush (v := 8) hC dX12_init_689 (by decide) ?_
  refine g_icmp_ge (tgt := 707) hC dX12_init_691 rfl (fun c => absurd c (by decide)) (fun c => ?_)
  refine g_aload_n hC dX12_init_694 rfl ?_
  refine g_getr hC fl_X12_176_12.s (kM_T140_37 hb) (kM_P140_37_31 hb) dX12_init_695 ?_
  refine g_iload_n hC dX12_init_698 rfl ?_
  refine g_iload_n hC dX12_init_699 rfl ?_
  refine k_iast (τ := (kM_141 β)) (k := 6) hC (kM_T140_53 hb) (by decide) (vpl (by decide)) dX12_init_700 rfl ?_
  exact kk
set_option maxRecDepth 4000 in
theorem kM_p58 {X : Cx} {d : Nat} (hC : mOK X cX12_init RX12 "<init>" none d 30 3972) (hd : 1 ≤ d) (hN : ∀ i, i < 2 → i < xN X) (hp : xP X = []) {β : Mem} (hb : mL β = 37) {Q : State → Prop} (kk : mG X 701 [(1, .int 7), (0, .ref (xB X + 37))] [] (kM_142 β) 30 3972 Q) : mG X 701 [(1, .int 6), (0, .ref (xB X + 37))] [] (kM_141 β) 30 3972 Q := by
  refine g_iinc (v := 7) (lv' := [(1, .int 7), (0, .ref (xB X + 37))]) hC dX12_init_701 rfl (by decide) (hN 1 (by decide)) rfl ?_
  refine g_goto (tgt := 688) hC dX12_init_704 rfl ?_
  refine g_iload_n hC dX12_init_688 rfl ?_
  refine g_bipush (v := 8) hC dX12_init_689 (by decide) ?_
  refine g_icmp_ge (tgt := 707) hC dX12_init_691 rfl (fun c => absurd c (by decide)) (fun c => ?_)
  refine g_aload_n hC dX12_init_694 rfl ?_
  refine g_getr hC fl_X12_176_12.s (kM_T141_37 hb) (kM_P141_37_31 hb) dX12_init_695 ?_
  refine g_iload_n hC dX12_init_698 rfl ?_
  refine g_iload_n hC dX12_init_699 rfl ?_
  refine k_iast (τ := (kM_142 β)) (k := 7) hC (kM_T141_53 hb) (by decide) (vpl (by decide)) dX12_init_700 rfl ?_
  exact kk
set_option maxRecDepth 4000 in
theorem kM_p59 {X : Cx} {d : Nat} (hC : mOK X cX12_init RX12 "<init>" none d 30 3972) (hd : 1 ≤ d) (hN : ∀ i, i < 2 → i < xN X) (hp : xP X = []) {β : Mem} (hb : mL β = 37) {Q : State → Prop} (kk : mG X 707 [(1, .int 8), (0, .ref (xB X + 37))] [] (kM_142 β) 30 3972 Q) : mG X 701 [(1, .int 7), (0, .ref (xB X + 37))] [] (kM_142 β) 30 3972 Q := by
  refine g_iinc (v := 8) (lv' := [(1, .int 8), (0, .ref (xB X + 37))]) hC dX12_init_701 rfl (by decide) (hN 1 (by decide)) rfl ?_
  refine g_goto (tgt := 688) hC dX12_init_704 rfl ?_
  refine g_iload_n hC dX12_init_688 rfl ?_
  refine g_bipush (v := 8) hC dX12_init_689 (by decide) ?_
  refine g_icmp_ge (tgt := 707) hC dX12_init_691 rfl (fun c => ?_) (fun c => absurd (by decide) c)
  exact kk
