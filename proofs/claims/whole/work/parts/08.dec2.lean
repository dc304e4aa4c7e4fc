theorem dX12_told_27 : decode cX12_told 27 = .ok (.invokevirtual 34, 3) := by decide +kernel
theorem dX12_told_30 : decode cX12_told 30 = .ok (.ifCond .ne 6, 3) := by decide +kernel
theorem dX12_told_33 : decode cX12_told 33 = .ok (.bipush (-2), 2) := by decide +kernel
theorem dX12_told_35 : decode cX12_told 35 = .ok (.ireturn, 1) := by decide +kernel
theorem dX12_told_36 : decode cX12_told 36 = .ok (.iload_n 2, 1) := by decide +kernel
theorem dX12_told_37 : decode cX12_told 37 = .ok (.tableswitch 70 0 3 #[31, 38, 45, 63], 31) := by decide +kernel
theorem dX12_told_68 : decode cX12_told 68 = .ok (.aload_n 0, 1) := by decide +kernel
theorem dX12_told_69 : decode cX12_told 69 = .ok (.getfield 14, 3) := by decide +kernel
theorem dX12_told_72 : decode cX12_told 72 = .ok (.iload_n 1, 1) := by decide +kernel
theorem dX12_told_73 : decode cX12_told 73 = .ok (.iaload, 1) := by decide +kernel
theorem dX12_told_74 : decode cX12_told 74 = .ok (.ireturn, 1) := by decide +kernel
theorem dX12_told_75 : decode cX12_told 75 = .ok (.aload_n 0, 1) := by decide +kernel
theorem dX12_told_76 : decode cX12_told 76 = .ok (.getfield 18, 3) := by decide +kernel
theorem dX12_told_79 : decode cX12_told 79 = .ok (.iload_n 1, 1) := by decide +kernel
theorem dX12_told_80 : decode cX12_told 80 = .ok (.iaload, 1) := by decide +kernel
theorem dX12_told_81 : decode cX12_told 81 = .ok (.ireturn, 1) := by decide +kernel
theorem dX12_told_82 : decode cX12_told 82 = .ok (.aload_n 0, 1) := by decide +kernel
theorem dX12_told_83 : decode cX12_told 83 = .ok (.iload_n 1, 1) := by decide +kernel
theorem dX12_told_84 : decode cX12_told 84 = .ok (.iconst 0, 1) := by decide +kernel
theorem dX12_told_85 : decode cX12_told 85 = .ok (.iconst 0, 1) := by decide +kernel
theorem dX12_told_86 : decode cX12_told 86 = .ok (.iconst 0, 1) := by decide +kernel
theorem dX12_told_87 : decode cX12_told 87 = .ok (.iconst 0, 1) := by decide +kernel
theorem dX12_told_88 : decode cX12_told 88 = .ok (.invokevirtual 37, 3) := by decide +kernel
theorem dX12_told_91 : decode cX12_told 91 = .ok (.aload_n 0, 1) := by decide +kernel
theorem dX12_told_92 : decode cX12_told 92 = .ok (.iconst 2, 1) := by decide +kernel
theorem dX12_told_93 : decode cX12_told 93 = .ok (.invokevirtual 41, 3) := by decide +kernel
theorem dX12_told_96 : decode cX12_told 96 = .ok (.invokestatic 45, 3) := by decide +kernel
theorem dX12_told_99 : decode cX12_told 99 = .ok (.ireturn, 1) := by decide +kernel
theorem dX12_told_100 : decode cX12_told 100 = .ok (.aload_n 0, 1) := by decide +kernel
theorem dX12_told_101 : decode cX12_told 101 = .ok (.getfield 21, 3) := by decide +kernel
theorem dX12_told_104 : decode cX12_told 104 = .ok (.iload_n 1, 1) := by decide +kernel
theorem dX12_told_105 : decode cX12_told 105 = .ok (.iaload, 1) := by decide +kernel
theorem dX12_told_106 : decode cX12_told 106 = .ok (.ireturn, 1) := by decide +kernel
theorem dX12_told_107 : decode cX12_told 107 = .ok (.aload_n 0, 1) := by decide +kernel
theorem dX12_told_108 : decode cX12_told 108 = .ok (.getfield 24, 3) := by decide +kernel
theorem dX12_told_111 : decode cX12_told 111 = .ok (.iload_n 1, 1) := by decide +kernel
theorem dX12_told_112 : decode cX12_told 112 = .ok (.iaload, 1) := by decide +kernel
theorem dX12_told_113 : decode cX12_told 113 = .ok (.ireturn, 1) := by decide +kernel
theorem dX12_feed_0 : decode cX12_feed 0 = .ok (.iload_n 1, 1) := by decide +kernel
theorem dX12_feed_1 : decode cX12_feed 1 = .ok (.iconst 0, 1) := by decide +kernel
theorem dX12_feed_2 : decode cX12_feed 2 = .ok (.sipush 255, 3) := by decide +kernel
theorem dX12_feed_5 : decode cX12_feed 5 = .ok (.invokestatic 7, 3) := by decide +kernel
theorem dX12_feed_8 : decode cX12_feed 8 = .ok (.ifCond .ne 6, 3) := by decide +kernel
theorem dX12_feed_11 : decode cX12_feed 11 = .ok (.bipush (-2), 2) := by decide +kernel
theorem dX12_feed_13 : decode cX12_feed 13 = .ok (.ireturn, 1) := by decide +kernel
theorem dX12_feed_14 : decode cX12_feed 14 = .ok (.aload_n 0, 1) := by decide +kernel
theorem dX12_feed_15 : decode cX12_feed 15 = .ok (.getfield 48, 3) := by decide +kernel
theorem dX12_feed_18 : decode cX12_feed 18 = .ok (.sipush 160, 3) := by decide +kernel
theorem dX12_feed_21 : decode cX12_feed 21 = .ok (.if_icmp .ne 6, 3) := by decide +kernel
theorem dX12_feed_24 : decode cX12_feed 24 = .ok (.bipush (-4), 2) := by decide +kernel
theorem dX12_feed_26 : decode cX12_feed 26 = .ok (.ireturn, 1) := by decide +kernel
theorem dX12_feed_27 : decode cX12_feed 27 = .ok (.aload_n 0, 1) := by decide +kernel
theorem dX12_feed_28 : decode cX12_feed 28 = .ok (.getfield 51, 3) := by decide +kernel
theorem dX12_feed_31 : decode cX12_feed 31 = .ok (.aload_n 0, 1) := by decide +kernel
theorem dX12_feed_32 : decode cX12_feed 32 = .ok (.getfield 48, 3) := by decide +kernel
theorem dX12_feed_35 : decode cX12_feed 35 = .ok (.iload_n 1, 1) := by decide +kernel
theorem dX12_feed_36 : decode cX12_feed 36 = .ok (.iastore, 1) := by decide +kernel
theorem dX12_feed_37 : decode cX12_feed 37 = .ok (.aload_n 0, 1) := by decide +kernel
theorem dX12_feed_38 : decode cX12_feed 38 = .ok (.dup, 1) := by decide +kernel
theorem dX12_feed_39 : decode cX12_feed 39 = .ok (.getfield 48, 3) := by decide +kernel
theorem dX12_feed_42 : decode cX12_feed 42 = .ok (.iconst 1, 1) := by decide +kernel
theorem dX12_feed_43 : decode cX12_feed 43 = .ok (.iadd, 1) := by decide +kernel
theorem dX12_feed_44 : decode cX12_feed 44 = .ok (.putfield 48, 3) := by decide +kernel
theorem dX12_feed_47 : decode cX12_feed 47 = .ok (.aload_n 0, 1) := by decide +kernel
theorem dX12_feed_48 : decode cX12_feed 48 = .ok (.getfield 48, 3) := by decide +kernel
theorem dX12_feed_51 : decode cX12_feed 51 = .ok (.ireturn, 1) := by decide +kernel
theorem dX12_isLetter_0 : decode cX12_isLetter 0 = .ok (.iload_n 1, 1) := by decide +kernel
theorem dX12_isLetter_1 : decode cX12_isLetter 1 = .ok (.aload_n 0, 1) := by decide +kernel
theorem dX12_isLetter_2 : decode cX12_isLetter 2 = .ok (.getfield 48, 3) := by decide +kernel
theorem dX12_isLetter_5 : decode cX12_isLetter 5 = .ok (.if_icmp .ge 29, 3) := by decide +kernel
theorem dX12_isLetter_8 : decode cX12_isLetter 8 = .ok (.aload_n 0, 1) := by decide +kernel
theorem dX12_isLetter_9 : decode cX12_isLetter 9 = .ok (.getfield 51, 3) := by decide +kernel
theorem dX12_isLetter_12 : decode cX12_isLetter 12 = .ok (.iload_n 1, 1) := by decide +kernel
theorem dX12_isLetter_13 : decode cX12_isLetter 13 = .ok (.iaload, 1) := by decide +kernel
theorem dX12_isLetter_14 : decode cX12_isLetter 14 = .ok (.bipush 97, 2) := by decide +kernel
theorem dX12_isLetter_16 : decode cX12_isLetter 16 = .ok (.if_icmp .lt 18, 3) := by decide +kernel
theorem dX12_isLetter_19 : decode cX12_isLetter 19 = .ok (.aload_n 0, 1) := by decide +kernel
theorem dX12_isLetter_20 : decode cX12_isLetter 20 = .ok (.getfield 51, 3) := by decide +kernel
theorem dX12_isLetter_23 : decode cX12_isLetter 23 = .ok (.iload_n 1, 1) := by decide +kernel
theorem dX12_isLetter_24 : decode cX12_isLetter 24 = .ok (.iaload, 1) := by decide +kernel
theorem dX12_isLetter_25 : decode cX12_isLetter 25 = .ok (.bipush 122, 2) := by decide +kernel
theorem dX12_isLetter_27 : decode cX12_isLetter 27 = .ok (.if_icmp .gt 7, 3) := by decide +kernel
theorem dX12_isLetter_30 : decode cX12_isLetter 30 = .ok (.iconst 1, 1) := by decide +kernel
theorem dX12_isLetter_31 : decode cX12_isLetter 31 = .ok (.goto 4, 3) := by decide +kernel
theorem dX12_isLetter_34 : decode cX12_isLetter 34 = .ok (.iconst 0, 1) := by decide +kernel
theorem dX12_isLetter_35 : decode cX12_isLetter 35 = .ok (.ireturn, 1) := by decide +kernel
theorem dX12_isDigit_0 : decode cX12_isDigit 0 = .ok (.iload_n 1, 1) := by decide +kernel
theorem dX12_isDigit_1 : decode cX12_isDigit 1 = .ok (.aload_n 0, 1) := by decide +kernel
theorem dX12_isDigit_2 : decode cX12_isDigit 2 = .ok (.getfield 48, 3) := by decide +kernel
theorem dX12_isDigit_5 : decode cX12_isDigit 5 = .ok (.if_icmp .ge 29, 3) := by decide +kernel
theorem dX12_isDigit_8 : decode cX12_isDigit 8 = .ok (.aload_n 0, 1) := by decide +kernel
theorem dX12_isDigit_9 : decode cX12_isDigit 9 = .ok (.getfield 51, 3) := by decide +kernel
theorem dX12_isDigit_12 : decode cX12_isDigit 12 = .ok (.iload_n 1, 1) := by decide +kernel
theorem dX12_isDigit_13 : decode cX12_isDigit 13 = .ok (.iaload, 1) := by decide +kernel
theorem dX12_isDigit_14 : decode cX12_isDigit 14 = .ok (.bipush 48, 2) := by decide +kernel
theorem dX12_isDigit_16 : decode cX12_isDigit 16 = .ok (.if_icmp .lt 18, 3) := by decide +kernel
theorem dX12_isDigit_19 : decode cX12_isDigit 19 = .ok (.aload_n 0, 1) := by decide +kernel
theorem dX12_isDigit_20 : decode cX12_isDigit 20 = .ok (.getfield 51, 3) := by decide +kernel
theorem dX12_isDigit_23 : decode cX12_isDigit 23 = .ok (.iload_n 1, 1) := by decide +kernel
theorem dX12_isDigit_24 : decode cX12_isDigit 24 = .ok (.iaload, 1) := by decide +kernel
theorem dX12_isDigit_25 : decode cX12_isDigit 25 = .ok (.bipush 57, 2) := by decide +kernel
theorem dX12_isDigit_27 : decode cX12_isDigit 27 = .ok (.if_icmp .gt 7, 3) := by decide +kernel
theorem dX12_isDigit_30 : decode cX12_isDigit 30 = .ok (.iconst 1, 1) := by decide +kernel
theorem dX12_isDigit_31 : decode cX12_isDigit 31 = .ok (.goto 4, 3) := by decide +kernel
theorem dX12_isDigit_34 : decode cX12_isDigit 34 = .ok (.iconst 0, 1) := by decide +kernel
theorem dX12_isDigit_35 : decode cX12_isDigit 35 = .ok (.ireturn, 1) := by decide +kernel
theorem dX12_readWord_0 : decode cX12_readWord 0 = .ok (.aload_n 0, 1) := by decide +kernel
theorem dX12_readWord_1 : decode cX12_readWord 1 = .ok (.aload_n 0, 1) := by decide +kernel
theorem dX12_readWord_2 : decode cX12_readWord 2 = .ok (.getfield 54, 3) := by decide +kernel
theorem dX12_readWord_5 : decode cX12_readWord 5 = .ok (.invokevirtual 57, 3) := by decide +kernel
theorem dX12_readWord_8 : decode cX12_readWord 8 = .ok (.ifCond .eq 16, 3) := by decide +kernel
theorem dX12_readWord_11 : decode cX12_readWord 11 = .ok (.aload_n 0, 1) := by decide +kernel
theorem dX12_readWord_12 : decode cX12_readWord 12 = .ok (.dup, 1) := by decide +kernel
theorem dX12_readWord_13 : decode cX12_readWord 13 = .ok (.getfield 54, 3) := by decide +kernel
theorem dX12_readWord_16 : decode cX12_readWord 16 = .ok (.iconst 1, 1) := by decide +kernel
theorem dX12_readWord_17 : decode cX12_readWord 17 = .ok (.iadd, 1) := by decide +kernel
theorem dX12_readWord_18 : decode cX12_readWord 18 = .ok (.putfield 54, 3) := by decide +kernel
theorem dX12_readWord_21 : decode cX12_readWord 21 = .ok (.goto (-21), 3) := by decide +kernel
theorem dX12_readWord_24 : decode cX12_readWord 24 = .ok (.aload_n 0, 1) := by decide +kernel
theorem dX12_readWord_25 : decode cX12_readWord 25 = .ok (.bipush 6, 2) := by decide +kernel
theorem dX12_readWord_27 : decode cX12_readWord 27 = .ok (.putfield 60, 3) := by decide +kernel
theorem dX12_readWord_30 : decode cX12_readWord 30 = .ok (.iconst 0, 1) := by decide +kernel
theorem dX12_readWord_31 : decode cX12_readWord 31 = .ok (.istore_n 1, 1) := by decide +kernel
theorem dX12_readWord_32 : decode cX12_readWord 32 = .ok (.iload_n 1, 1) := by decide +kernel
theorem dX12_readWord_33 : decode cX12_readWord 33 = .ok (.bipush 12, 2) := by decide +kernel
theorem dX12_readWord_35 : decode cX12_readWord 35 = .ok (.if_icmp .ge 135, 3) := by decide +kernel
theorem dX12_readWord_38 : decode cX12_readWord 38 = .ok (.aload_n 0, 1) := by decide +kernel
theorem dX12_readWord_39 : decode cX12_readWord 39 = .ok (.getfield 63, 3) := by decide +kernel
theorem dX12_readWord_42 : decode cX12_readWord 42 = .ok (.iload_n 1, 1) := by decide +kernel
theorem dX12_readWord_43 : decode cX12_readWord 43 = .ok (.iconst 1, 1) := by decide +kernel
theorem dX12_readWord_44 : decode cX12_readWord 44 = .ok (.iadd, 1) := by decide +kernel
theorem dX12_readWord_45 : decode cX12_readWord 45 = .ok (.iaload, 1) := by decide +kernel
theorem dX12_readWord_46 : decode cX12_readWord 46 = .ok (.aload_n 0, 1) := by decide +kernel
theorem dX12_readWord_47 : decode cX12_readWord 47 = .ok (.getfield 63, 3) := by decide +kernel
theorem dX12_readWord_50 : decode cX12_readWord 50 = .ok (.iload_n 1, 1) := by decide +kernel
theorem dX12_readWord_51 : decode cX12_readWord 51 = .ok (.iaload, 1) := by decide +kernel
theorem dX12_readWord_52 : decode cX12_readWord 52 = .ok (.isub, 1) := by decide +kernel
theorem dX12_readWord_53 : decode cX12_readWord 53 = .ok (.istore_n 2, 1) := by decide +kernel
theorem dX12_readWord_54 : decode cX12_readWord 54 = .ok (.iload_n 2, 1) := by decide +kernel
theorem dX12_readWord_55 : decode cX12_readWord 55 = .ok (.aload_n 0, 1) := by decide +kernel
theorem dX12_readWord_56 : decode cX12_readWord 56 = .ok (.getfield 54, 3) := by decide +kernel
theorem dX12_readWord_59 : decode cX12_readWord 59 = .ok (.aload_n 0, 1) := by decide +kernel
theorem dX12_readWord_60 : decode cX12_readWord 60 = .ok (.getfield 66, 3) := by decide +kernel
theorem dX12_readWord_63 : decode cX12_readWord 63 = .ok (.isub, 1) := by decide +kernel
theorem dX12_readWord_64 : decode cX12_readWord 64 = .ok (.if_icmp .ne 7, 3) := by decide +kernel
theorem dX12_readWord_67 : decode cX12_readWord 67 = .ok (.iconst 1, 1) := by decide +kernel
theorem dX12_readWord_68 : decode cX12_readWord 68 = .ok (.goto 4, 3) := by decide +kernel
theorem dX12_readWord_71 : decode cX12_readWord 71 = .ok (.iconst 0, 1) := by decide +kernel
theorem dX12_readWord_72 : decode cX12_readWord 72 = .ok (.istore_n 3, 1) := by decide +kernel
theorem dX12_readWord_73 : decode cX12_readWord 73 = .ok (.iconst 0, 1) := by decide +kernel
theorem dX12_readWord_74 : decode cX12_readWord 74 = .ok (.istore 4, 2) := by decide +kernel
theorem dX12_readWord_76 : decode cX12_readWord 76 = .ok (.iload 4, 2) := by decide +kernel
theorem dX12_readWord_78 : decode cX12_readWord 78 = .ok (.iload_n 2, 1) := by decide +kernel
theorem dX12_readWord_79 : decode cX12_readWord 79 = .ok (.if_icmp .ge 48, 3) := by decide +kernel
theorem dX12_readWord_82 : decode cX12_readWord 82 = .ok (.iload_n 3, 1) := by decide +kernel
theorem dX12_readWord_83 : decode cX12_readWord 83 = .ok (.ifCond .eq 44, 3) := by decide +kernel
theorem dX12_readWord_86 : decode cX12_readWord 86 = .ok (.aload_n 0, 1) := by decide +kernel
theorem dX12_readWord_87 : decode cX12_readWord 87 = .ok (.getfield 51, 3) := by decide +kernel
theorem dX12_readWord_90 : decode cX12_readWord 90 = .ok (.aload_n 0, 1) := by decide +kernel
theorem dX12_readWord_91 : decode cX12_readWord 91 = .ok (.getfield 66, 3) := by decide +kernel
theorem dX12_readWord_94 : decode cX12_readWord 94 = .ok (.iload 4, 2) := by decide +kernel
theorem dX12_readWord_96 : decode cX12_readWord 96 = .ok (.iadd, 1) := by decide +kernel
theorem dX12_readWord_97 : decode cX12_readWord 97 = .ok (.iaload, 1) := by decide +kernel
theorem dX12_readWord_98 : decode cX12_readWord 98 = .ok (.aload_n 0, 1) := by decide +kernel
theorem dX12_readWord_99 : decode cX12_readWord 99 = .ok (.getfield 69, 3) := by decide +kernel
theorem dX12_readWord_102 : decode cX12_readWord 102 = .ok (.aload_n 0, 1) := by decide +kernel
theorem dX12_readWord_103 : decode cX12_readWord 103 = .ok (.getfield 63, 3) := by decide +kernel
theorem dX12_readWord_106 : decode cX12_readWord 106 = .ok (.iload_n 1, 1) := by decide +kernel
theorem dX12_readWord_107 : decode cX12_readWord 107 = .ok (.iaload, 1) := by decide +kernel
theorem dX12_readWord_108 : decode cX12_readWord 108 = .ok (.iload 4, 2) := by decide +kernel
theorem dX12_readWord_110 : decode cX12_readWord 110 = .ok (.iadd, 1) := by decide +kernel
theorem dX12_readWord_111 : decode cX12_readWord 111 = .ok (.caload, 1) := by decide +kernel
theorem dX12_readWord_112 : decode cX12_readWord 112 = .ok (.if_icmp .ne 7, 3) := by decide +kernel
theorem dX12_readWord_115 : decode cX12_readWord 115 = .ok (.iconst 1, 1) := by decide +kernel
theorem dX12_readWord_116 : decode cX12_readWord 116 = .ok (.goto 4, 3) := by decide +kernel
theorem dX12_readWord_119 : decode cX12_readWord 119 = .ok (.iconst 0, 1) := by decide +kernel
theorem dX12_readWord_120 : decode cX12_readWord 120 = .ok (.istore_n 3, 1) := by decide +kernel
theorem dX12_readWord_121 : decode cX12_readWord 121 = .ok (.iinc 4 1, 3) := by decide +kernel
theorem dX12_readWord_124 : decode cX12_readWord 124 = .ok (.goto (-48), 3) := by decide +kernel
theorem dX12_readWord_127 : decode cX12_readWord 127 = .ok (.iload_n 3, 1) := by decide +kernel
theorem dX12_readWord_128 : decode cX12_readWord 128 = .ok (.ifCond .eq 36, 3) := by decide +kernel
theorem dX12_readWord_131 : decode cX12_readWord 131 = .ok (.aload_n 0, 1) := by decide +kernel
theorem dX12_readWord_132 : decode cX12_readWord 132 = .ok (.iload_n 1, 1) := by decide +kernel
theorem dX12_readWord_133 : decode cX12_readWord 133 = .ok (.bipush 6, 2) := by decide +kernel
theorem dX12_readWord_135 : decode cX12_readWord 135 = .ok (.if_icmp .ge 7, 3) := by decide +kernel
theorem dX12_readWord_138 : decode cX12_readWord 138 = .ok (.iconst 2, 1) := by decide +kernel
theorem dX12_readWord_139 : decode cX12_readWord 139 = .ok (.goto 4, 3) := by decide +kernel
theorem dX12_readWord_142 : decode cX12_readWord 142 = .ok (.iconst 3, 1) := by decide +kernel
theorem dX12_readWord_143 : decode cX12_readWord 143 = .ok (.putfield 60, 3) := by decide +kernel
theorem dX12_readWord_146 : decode cX12_readWord 146 = .ok (.aload_n 0, 1) := by decide +kernel
theorem dX12_readWord_147 : decode cX12_readWord 147 = .ok (.iload_n 1, 1) := by decide +kernel
theorem dX12_readWord_148 : decode cX12_readWord 148 = .ok (.bipush 6, 2) := by decide +kernel
theorem dX12_readWord_150 : decode cX12_readWord 150 = .ok (.if_icmp .ge 7, 3) := by decide +kernel
theorem dX12_readWord_153 : decode cX12_readWord 153 = .ok (.iload_n 1, 1) := by decide +kernel
theorem dX12_readWord_154 : decode cX12_readWord 154 = .ok (.goto 7, 3) := by decide +kernel
theorem dX12_readWord_157 : decode cX12_readWord 157 = .ok (.iload_n 1, 1) := by decide +kernel
theorem dX12_readWord_158 : decode cX12_readWord 158 = .ok (.bipush 6, 2) := by decide +kernel
theorem dX12_readWord_160 : decode cX12_readWord 160 = .ok (.isub, 1) := by decide +kernel
theorem dX12_readWord_161 : decode cX12_readWord 161 = .ok (.putfield 73, 3) := by decide +kernel
theorem dX12_readWord_164 : decode cX12_readWord 164 = .ok (.iinc 1 1, 3) := by decide +kernel
theorem dX12_readWord_167 : decode cX12_readWord 167 = .ok (.goto (-135), 3) := by decide +kernel
theorem dX12_readWord_170 : decode cX12_readWord 170 = .ok (.return_, 1) := by decide +kernel
theorem dX12_readNumber_0 : decode cX12_readNumber 0 = .ok (.aload_n 0, 1) := by decide +kernel
theorem dX12_readNumber_1 : decode cX12_readNumber 1 = .ok (.iconst 0, 1) := by decide +kernel
theorem dX12_readNumber_2 : decode cX12_readNumber 2 = .ok (.putfield 73, 3) := by decide +kernel
theorem dX12_readNumber_5 : decode cX12_readNumber 5 = .ok (.aload_n 0, 1) := by decide +kernel
theorem dX12_readNumber_6 : decode cX12_readNumber 6 = .ok (.aload_n 0, 1) := by decide +kernel
theorem dX12_readNumber_7 : decode cX12_readNumber 7 = .ok (.getfield 54, 3) := by decide +kernel
theorem dX12_readNumber_10 : decode cX12_readNumber 10 = .ok (.invokevirtual 76, 3) := by decide +kernel
theorem dX12_readNumber_13 : decode cX12_readNumber 13 = .ok (.ifCond .eq 60, 3) := by decide +kernel
theorem dX12_readNumber_16 : decode cX12_readNumber 16 = .ok (.aload_n 0, 1) := by decide +kernel
theorem dX12_readNumber_17 : decode cX12_readNumber 17 = .ok (.aload_n 0, 1) := by decide +kernel
theorem dX12_readNumber_18 : decode cX12_readNumber 18 = .ok (.getfield 54, 3) := by decide +kernel
theorem dX12_readNumber_21 : decode cX12_readNumber 21 = .ok (.aload_n 0, 1) := by decide +kernel
theorem dX12_readNumber_22 : decode cX12_readNumber 22 = .ok (.getfield 66, 3) := by decide +kernel
theorem dX12_readNumber_25 : decode cX12_readNumber 25 = .ok (.isub, 1) := by decide +kernel
theorem dX12_readNumber_26 : decode cX12_readNumber 26 = .ok (.iconst 4, 1) := by decide +kernel
theorem dX12_readNumber_27 : decode cX12_readNumber 27 = .ok (.if_icmp .ge 26, 3) := by decide +kernel
theorem dX12_readNumber_30 : decode cX12_readNumber 30 = .ok (.bipush 10, 2) := by decide +kernel
theorem dX12_readNumber_32 : decode cX12_readNumber 32 = .ok (.aload_n 0, 1) := by decide +kernel
theorem dX12_readNumber_33 : decode cX12_readNumber 33 = .ok (.getfield 73, 3) := by decide +kernel
theorem dX12_readNumber_36 : decode cX12_readNumber 36 = .ok (.imul, 1) := by decide +kernel
theorem dX12_readNumber_37 : decode cX12_readNumber 37 = .ok (.aload_n 0, 1) := by decide +kernel
theorem dX12_readNumber_38 : decode cX12_readNumber 38 = .ok (.getfield 51, 3) := by decide +kernel
theorem dX12_readNumber_41 : decode cX12_readNumber 41 = .ok (.aload_n 0, 1) := by decide +kernel
theorem dX12_readNumber_42 : decode cX12_readNumber 42 = .ok (.getfield 54, 3) := by decide +kernel
theorem dX12_readNumber_45 : decode cX12_readNumber 45 = .ok (.iaload, 1) := by decide +kernel
theorem dX12_readNumber_46 : decode cX12_readNumber 46 = .ok (.iadd, 1) := by decide +kernel
theorem dX12_readNumber_47 : decode cX12_readNumber 47 = .ok (.bipush 48, 2) := by decide +kernel
theorem dX12_readNumber_49 : decode cX12_readNumber 49 = .ok (.isub, 1) := by decide +kernel
theorem dX12_readNumber_50 : decode cX12_readNumber 50 = .ok (.goto 7, 3) := by decide +kernel
theorem dX12_readNumber_53 : decode cX12_readNumber 53 = .ok (.aload_n 0, 1) := by decide +kernel
theorem dX12_readNumber_54 : decode cX12_readNumber 54 = .ok (.getfield 73, 3) := by decide +kernel
theorem dX12_readNumber_57 : decode cX12_readNumber 57 = .ok (.putfield 73, 3) := by decide +kernel
theorem dX12_readNumber_60 : decode cX12_readNumber 60 = .ok (.aload_n 0, 1) := by decide +kernel
theorem dX12_readNumber_61 : decode cX12_readNumber 61 = .ok (.dup, 1) := by decide +kernel
theorem dX12_readNumber_62 : decode cX12_readNumber 62 = .ok (.getfield 54, 3) := by decide +kernel
theorem dX12_readNumber_65 : decode cX12_readNumber 65 = .ok (.iconst 1, 1) := by decide +kernel
theorem dX12_readNumber_66 : decode cX12_readNumber 66 = .ok (.iadd, 1) := by decide +kernel
theorem dX12_readNumber_67 : decode cX12_readNumber 67 = .ok (.putfield 54, 3) := by decide +kernel
theorem dX12_readNumber_70 : decode cX12_readNumber 70 = .ok (.goto (-65), 3) := by decide +kernel
theorem dX12_readNumber_73 : decode cX12_readNumber 73 = .ok (.aload_n 0, 1) := by decide +kernel
theorem dX12_readNumber_74 : decode cX12_readNumber 74 = .ok (.aload_n 0, 1) := by decide +kernel
theorem dX12_readNumber_75 : decode cX12_readNumber 75 = .ok (.getfield 54, 3) := by decide +kernel
theorem dX12_readNumber_78 : decode cX12_readNumber 78 = .ok (.aload_n 0, 1) := by decide +kernel
theorem dX12_readNumber_79 : decode cX12_readNumber 79 = .ok (.getfield 66, 3) := by decide +kernel
theorem dX12_readNumber_82 : decode cX12_readNumber 82 = .ok (.isub, 1) := by decide +kernel
theorem dX12_readNumber_83 : decode cX12_readNumber 83 = .ok (.iconst 4, 1) := by decide +kernel
theorem dX12_readNumber_84 : decode cX12_readNumber 84 = .ok (.if_icmp .le 8, 3) := by decide +kernel
theorem dX12_readNumber_87 : decode cX12_readNumber 87 = .ok (.bipush 6, 2) := by decide +kernel
theorem dX12_readNumber_89 : decode cX12_readNumber 89 = .ok (.goto 4, 3) := by decide +kernel
theorem dX12_readNumber_92 : decode cX12_readNumber 92 = .ok (.iconst 1, 1) := by decide +kernel
theorem dX12_readNumber_93 : decode cX12_readNumber 93 = .ok (.putfield 60, 3) := by decide +kernel
theorem dX12_readNumber_96 : decode cX12_readNumber 96 = .ok (.return_, 1) := by decide +kernel
theorem dX12_next_0 : decode cX12_next 0 = .ok (.aload_n 0, 1) := by decide +kernel
theorem dX12_next_1 : decode cX12_next 1 = .ok (.getfield 54, 3) := by decide +kernel
theorem dX12_next_4 : decode cX12_next 4 = .ok (.aload_n 0, 1) := by decide +kernel
theorem dX12_next_5 : decode cX12_next 5 = .ok (.getfield 48, 3) := by decide +kernel
theorem dX12_next_8 : decode cX12_next 8 = .ok (.if_icmp .ge 44, 3) := by decide +kernel
theorem dX12_next_11 : decode cX12_next 11 = .ok (.aload_n 0, 1) := by decide +kernel
theorem dX12_next_12 : decode cX12_next 12 = .ok (.getfield 51, 3) := by decide +kernel
theorem dX12_next_15 : decode cX12_next 15 = .ok (.aload_n 0, 1) := by decide +kernel
theorem dX12_next_16 : decode cX12_next 16 = .ok (.getfield 54, 3) := by decide +kernel
theorem dX12_next_19 : decode cX12_next 19 = .ok (.iaload, 1) := by decide +kernel
theorem dX12_next_20 : decode cX12_next 20 = .ok (.bipush 32, 2) := by decide +kernel
theorem dX12_next_22 : decode cX12_next 22 = .ok (.if_icmp .eq 17, 3) := by decide +kernel
theorem dX12_next_25 : decode cX12_next 25 = .ok (.aload_n 0, 1) := by decide +kernel
theorem dX12_next_26 : decode cX12_next 26 = .ok (.getfield 51, 3) := by decide +kernel
theorem dX12_next_29 : decode cX12_next 29 = .ok (.aload_n 0, 1) := by decide +kernel
theorem dX12_next_30 : decode cX12_next 30 = .ok (.getfield 54, 3) := by decide +kernel
theorem dX12_next_33 : decode cX12_next 33 = .ok (.iaload, 1) := by decide +kernel
theorem dX12_next_34 : decode cX12_next 34 = .ok (.bipush 10, 2) := by decide +kernel
theorem dX12_next_36 : decode cX12_next 36 = .ok (.if_icmp .ne 16, 3) := by decide +kernel
theorem dX12_next_39 : decode cX12_next 39 = .ok (.aload_n 0, 1) := by decide +kernel
theorem dX12_next_40 : decode cX12_next 40 = .ok (.dup, 1) := by decide +kernel
theorem dX12_next_41 : decode cX12_next 41 = .ok (.getfield 54, 3) := by decide +kernel
theorem dX12_next_44 : decode cX12_next 44 = .ok (.iconst 1, 1) := by decide +kernel
theorem dX12_next_45 : decode cX12_next 45 = .ok (.iadd, 1) := by decide +kernel
theorem dX12_next_46 : decode cX12_next 46 = .ok (.putfield 54, 3) := by decide +kernel
theorem dX12_next_49 : decode cX12_next 49 = .ok (.goto (-49), 3) := by decide +kernel
theorem dX12_next_52 : decode cX12_next 52 = .ok (.aload_n 0, 1) := by decide +kernel
theorem dX12_next_53 : decode cX12_next 53 = .ok (.aload_n 0, 1) := by decide +kernel
theorem dX12_next_54 : decode cX12_next 54 = .ok (.getfield 54, 3) := by decide +kernel
theorem dX12_next_57 : decode cX12_next 57 = .ok (.putfield 66, 3) := by decide +kernel
theorem dX12_next_60 : decode cX12_next 60 = .ok (.aload_n 0, 1) := by decide +kernel
theorem dX12_next_61 : decode cX12_next 61 = .ok (.getfield 54, 3) := by decide +kernel
theorem dX12_next_64 : decode cX12_next 64 = .ok (.aload_n 0, 1) := by decide +kernel
theorem dX12_next_65 : decode cX12_next 65 = .ok (.getfield 48, 3) := by decide +kernel
theorem dX12_next_68 : decode cX12_next 68 = .ok (.if_icmp .ne 11, 3) := by decide +kernel
theorem dX12_next_71 : decode cX12_next 71 = .ok (.aload_n 0, 1) := by decide +kernel
theorem dX12_next_72 : decode cX12_next 72 = .ok (.iconst 5, 1) := by decide +kernel
theorem dX12_next_73 : decode cX12_next 73 = .ok (.putfield 60, 3) := by decide +kernel
theorem dX12_next_76 : decode cX12_next 76 = .ok (.goto 154, 3) := by decide +kernel
theorem dX12_next_79 : decode cX12_next 79 = .ok (.aload_n 0, 1) := by decide +kernel
theorem dX12_next_80 : decode cX12_next 80 = .ok (.aload_n 0, 1) := by decide +kernel
theorem dX12_next_81 : decode cX12_next 81 = .ok (.getfield 54, 3) := by decide +kernel
theorem dX12_next_84 : decode cX12_next 84 = .ok (.invokevirtual 57, 3) := by decide +kernel
theorem dX12_next_87 : decode cX12_next 87 = .ok (.ifCond .eq 10, 3) := by decide +kernel
theorem dX12_next_90 : decode cX12_next 90 = .ok (.aload_n 0, 1) := by decide +kernel
theorem dX12_next_91 : decode cX12_next 91 = .ok (.invokevirtual 79, 3) := by decide +kernel
theorem dX12_next_94 : decode cX12_next 94 = .ok (.goto 136, 3) := by decide +kernel
theorem dX12_next_97 : decode cX12_next 97 = .ok (.aload_n 0, 1) := by decide +kernel
theorem dX12_next_98 : decode cX12_next 98 = .ok (.aload_n 0, 1) := by decide +kernel
theorem dX12_next_99 : decode cX12_next 99 = .ok (.getfield 54, 3) := by decide +kernel
theorem dX12_next_102 : decode cX12_next 102 = .ok (.invokevirtual 76, 3) := by decide +kernel
theorem dX12_next_105 : decode cX12_next 105 = .ok (.ifCond .eq 10, 3) := by decide +kernel
theorem dX12_next_108 : decode cX12_next 108 = .ok (.aload_n 0, 1) := by decide +kernel
theorem dX12_next_109 : decode cX12_next 109 = .ok (.invokevirtual 83, 3) := by decide +kernel
theorem dX12_next_112 : decode cX12_next 112 = .ok (.goto 118, 3) := by decide +kernel
theorem dX12_next_115 : decode cX12_next 115 = .ok (.aload_n 0, 1) := by decide +kernel
theorem dX12_next_116 : decode cX12_next 116 = .ok (.aload_n 0, 1) := by decide +kernel
theorem dX12_next_117 : decode cX12_next 117 = .ok (.getfield 51, 3) := by decide +kernel
theorem dX12_next_120 : decode cX12_next 120 = .ok (.aload_n 0, 1) := by decide +kernel
theorem dX12_next_121 : decode cX12_next 121 = .ok (.getfield 54, 3) := by decide +kernel
theorem dX12_next_124 : decode cX12_next 124 = .ok (.iaload, 1) := by decide +kernel
theorem dX12_next_125 : decode cX12_next 125 = .ok (.putfield 73, 3) := by decide +kernel
theorem dX12_next_128 : decode cX12_next 128 = .ok (.aload_n 0, 1) := by decide +kernel
theorem dX12_next_129 : decode cX12_next 129 = .ok (.getfield 73, 3) := by decide +kernel
theorem dX12_next_132 : decode cX12_next 132 = .ok (.bipush 40, 2) := by decide +kernel
theorem dX12_next_134 : decode cX12_next 134 = .ok (.if_icmp .eq 66, 3) := by decide +kernel
theorem dX12_next_137 : decode cX12_next 137 = .ok (.aload_n 0, 1) := by decide +kernel
theorem dX12_next_138 : decode cX12_next 138 = .ok (.getfield 73, 3) := by decide +kernel
theorem dX12_next_141 : decode cX12_next 141 = .ok (.bipush 41, 2) := by decide +kernel
theorem dX12_next_143 : decode cX12_next 143 = .ok (.if_icmp .eq 57, 3) := by decide +kernel
theorem dX12_next_146 : decode cX12_next 146 = .ok (.aload_n 0, 1) := by decide +kernel
theorem dX12_next_147 : decode cX12_next 147 = .ok (.getfield 73, 3) := by decide +kernel
theorem dX12_next_150 : decode cX12_next 150 = .ok (.bipush 59, 2) := by decide +kernel
theorem dX12_next_152 : decode cX12_next 152 = .ok (.if_icmp .eq 48, 3) := by decide +kernel
theorem dX12_next_155 : decode cX12_next 155 = .ok (.aload_n 0, 1) := by decide +kernel
theorem dX12_next_156 : decode cX12_next 156 = .ok (.getfield 73, 3) := by decide +kernel
theorem dX12_next_159 : decode cX12_next 159 = .ok (.bipush 43, 2) := by decide +kernel
theorem dX12_next_161 : decode cX12_next 161 = .ok (.if_icmp .eq 39, 3) := by decide +kernel
theorem dX12_next_164 : decode cX12_next 164 = .ok (.aload_n 0, 1) := by decide +kernel
theorem dX12_next_165 : decode cX12_next 165 = .ok (.getfield 73, 3) := by decide +kernel
theorem dX12_next_168 : decode cX12_next 168 = .ok (.bipush 45, 2) := by decide +kernel
theorem dX12_next_170 : decode cX12_next 170 = .ok (.if_icmp .eq 30, 3) := by decide +kernel
theorem dX12_next_173 : decode cX12_next 173 = .ok (.aload_n 0, 1) := by decide +kernel
theorem dX12_next_174 : decode cX12_next 174 = .ok (.getfield 73, 3) := by decide +kernel
theorem dX12_next_177 : decode cX12_next 177 = .ok (.bipush 42, 2) := by decide +kernel
theorem dX12_next_179 : decode cX12_next 179 = .ok (.if_icmp .eq 21, 3) := by decide +kernel
theorem dX12_next_182 : decode cX12_next 182 = .ok (.aload_n 0, 1) := by decide +kernel
theorem dX12_next_183 : decode cX12_next 183 = .ok (.getfield 73, 3) := by decide +kernel
theorem dX12_next_186 : decode cX12_next 186 = .ok (.bipush 60, 2) := by decide +kernel
theorem dX12_next_188 : decode cX12_next 188 = .ok (.if_icmp .eq 12, 3) := by decide +kernel
theorem dX12_next_191 : decode cX12_next 191 = .ok (.aload_n 0, 1) := by decide +kernel
theorem dX12_next_192 : decode cX12_next 192 = .ok (.getfield 73, 3) := by decide +kernel
theorem dX12_next_195 : decode cX12_next 195 = .ok (.bipush 61, 2) := by decide +kernel
theorem dX12_next_197 : decode cX12_next 197 = .ok (.if_icmp .ne 7, 3) := by decide +kernel
theorem dX12_next_200 : decode cX12_next 200 = .ok (.iconst 1, 1) := by decide +kernel
theorem dX12_next_201 : decode cX12_next 201 = .ok (.goto 4, 3) := by decide +kernel
theorem dX12_next_204 : decode cX12_next 204 = .ok (.iconst 0, 1) := by decide +kernel
theorem dX12_next_205 : decode cX12_next 205 = .ok (.istore_n 1, 1) := by decide +kernel
theorem dX12_next_206 : decode cX12_next 206 = .ok (.aload_n 0, 1) := by decide +kernel
theorem dX12_next_207 : decode cX12_next 207 = .ok (.iload_n 1, 1) := by decide +kernel
theorem dX12_next_208 : decode cX12_next 208 = .ok (.ifCond .eq 7, 3) := by decide +kernel
theorem dX12_next_211 : decode cX12_next 211 = .ok (.iconst 4, 1) := by decide +kernel
theorem dX12_next_212 : decode cX12_next 212 = .ok (.goto 5, 3) := by decide +kernel
theorem dX12_next_215 : decode cX12_next 215 = .ok (.bipush 6, 2) := by decide +kernel
theorem dX12_next_217 : decode cX12_next 217 = .ok (.putfield 60, 3) := by decide +kernel
theorem dX12_next_220 : decode cX12_next 220 = .ok (.aload_n 0, 1) := by decide +kernel
theorem dX12_next_221 : decode cX12_next 221 = .ok (.dup, 1) := by decide +kernel
theorem dX12_next_222 : decode cX12_next 222 = .ok (.getfield 54, 3) := by decide +kernel
theorem dX12_next_225 : decode cX12_next 225 = .ok (.iconst 1, 1) := by decide +kernel
theorem dX12_next_226 : decode cX12_next 226 = .ok (.iadd, 1) := by decide +kernel
theorem dX12_next_227 : decode cX12_next 227 = .ok (.putfield 54, 3) := by decide +kernel
theorem dX12_next_230 : decode cX12_next 230 = .ok (.return_, 1) := by decide +kernel
theorem dX12_isSign_0 : decode cX12_isSign 0 = .ok (.aload_n 0, 1) := by decide +kernel
theorem dX12_isSign_1 : decode cX12_isSign 1 = .ok (.getfield 60, 3) := by decide +kernel
theorem dX12_isSign_4 : decode cX12_isSign 4 = .ok (.iconst 4, 1) := by decide +kernel
theorem dX12_isSign_5 : decode cX12_isSign 5 = .ok (.if_icmp .ne 15, 3) := by decide +kernel
theorem dX12_isSign_8 : decode cX12_isSign 8 = .ok (.aload_n 0, 1) := by decide +kernel
theorem dX12_isSign_9 : decode cX12_isSign 9 = .ok (.getfield 73, 3) := by decide +kernel
theorem dX12_isSign_12 : decode cX12_isSign 12 = .ok (.iload_n 1, 1) := by decide +kernel
theorem dX12_isSign_13 : decode cX12_isSign 13 = .ok (.if_icmp .ne 7, 3) := by decide +kernel
theorem dX12_isSign_16 : decode cX12_isSign 16 = .ok (.iconst 1, 1) := by decide +kernel
theorem dX12_isSign_17 : decode cX12_isSign 17 = .ok (.goto 4, 3) := by decide +kernel
theorem dX12_isSign_20 : decode cX12_isSign 20 = .ok (.iconst 0, 1) := by decide +kernel
theorem dX12_isSign_21 : decode cX12_isSign 21 = .ok (.ireturn, 1) := by decide +kernel
theorem dX12_isKey_0 : decode cX12_isKey 0 = .ok (.aload_n 0, 1) := by decide +kernel
theorem dX12_isKey_1 : decode cX12_isKey 1 = .ok (.getfield 60, 3) := by decide +kernel
theorem dX12_isKey_4 : decode cX12_isKey 4 = .ok (.iconst 3, 1) := by decide +kernel
theorem dX12_isKey_5 : decode cX12_isKey 5 = .ok (.if_icmp .ne 15, 3) := by decide +kernel
theorem dX12_isKey_8 : decode cX12_isKey 8 = .ok (.aload_n 0, 1) := by decide +kernel
theorem dX12_isKey_9 : decode cX12_isKey 9 = .ok (.getfield 73, 3) := by decide +kernel
theorem dX12_isKey_12 : decode cX12_isKey 12 = .ok (.iload_n 1, 1) := by decide +kernel
theorem dX12_isKey_13 : decode cX12_isKey 13 = .ok (.if_icmp .ne 7, 3) := by decide +kernel
theorem dX12_isKey_16 : decode cX12_isKey 16 = .ok (.iconst 1, 1) := by decide +kernel
theorem dX12_isKey_17 : decode cX12_isKey 17 = .ok (.goto 4, 3) := by decide +kernel
theorem dX12_isKey_20 : decode cX12_isKey 20 = .ok (.iconst 0, 1) := by decide +kernel
theorem dX12_isKey_21 : decode cX12_isKey 21 = .ok (.ireturn, 1) := by decide +kernel
theorem dX12_emit_0 : decode cX12_emit 0 = .ok (.aload_n 0, 1) := by decide +kernel
theorem dX12_emit_1 : decode cX12_emit 1 = .ok (.getfield 86, 3) := by decide +kernel
theorem dX12_emit_4 : decode cX12_emit 4 = .ok (.aload_n 0, 1) := by decide +kernel
theorem dX12_emit_5 : decode cX12_emit 5 = .ok (.getfield 89, 3) := by decide +kernel
theorem dX12_emit_8 : decode cX12_emit 8 = .ok (.aload_n 0, 1) := by decide +kernel
theorem dX12_emit_9 : decode cX12_emit 9 = .ok (.getfield 92, 3) := by decide +kernel
theorem dX12_emit_12 : decode cX12_emit 12 = .ok (.iadd, 1) := by decide +kernel
theorem dX12_emit_13 : decode cX12_emit 13 = .ok (.iload_n 1, 1) := by decide +kernel
theorem dX12_emit_14 : decode cX12_emit 14 = .ok (.iastore, 1) := by decide +kernel
theorem dX12_emit_15 : decode cX12_emit 15 = .ok (.aload_n 0, 1) := by decide +kernel
theorem dX12_emit_16 : decode cX12_emit 16 = .ok (.dup, 1) := by decide +kernel
theorem dX12_emit_17 : decode cX12_emit 17 = .ok (.getfield 92, 3) := by decide +kernel
theorem dX12_emit_20 : decode cX12_emit 20 = .ok (.iconst 1, 1) := by decide +kernel
theorem dX12_emit_21 : decode cX12_emit 21 = .ok (.iadd, 1) := by decide +kernel
theorem dX12_emit_22 : decode cX12_emit 22 = .ok (.putfield 92, 3) := by decide +kernel
theorem dX12_emit_25 : decode cX12_emit 25 = .ok (.return_, 1) := by decide +kernel
theorem dX12_rank_0 : decode cX12_rank 0 = .ok (.iload_n 0, 1) := by decide +kernel
theorem dX12_rank_1 : decode cX12_rank 1 = .ok (.bipush 10, 2) := by decide +kernel
theorem dX12_rank_3 : decode cX12_rank 3 = .ok (.if_icmp .ne 7, 3) := by decide +kernel
theorem dX12_rank_6 : decode cX12_rank 6 = .ok (.iconst 1, 1) := by decide +kernel
theorem dX12_rank_7 : decode cX12_rank 7 = .ok (.goto 78, 3) := by decide +kernel
theorem dX12_rank_10 : decode cX12_rank 10 = .ok (.iload_n 0, 1) := by decide +kernel
theorem dX12_rank_11 : decode cX12_rank 11 = .ok (.bipush 11, 2) := by decide +kernel
theorem dX12_rank_13 : decode cX12_rank 13 = .ok (.if_icmp .ne 7, 3) := by decide +kernel
theorem dX12_rank_16 : decode cX12_rank 16 = .ok (.iconst 2, 1) := by decide +kernel
theorem dX12_rank_17 : decode cX12_rank 17 = .ok (.goto 68, 3) := by decide +kernel
theorem dX12_rank_20 : decode cX12_rank 20 = .ok (.iload_n 0, 1) := by decide +kernel
theorem dX12_rank_21 : decode cX12_rank 21 = .ok (.bipush 12, 2) := by decide +kernel
theorem dX12_rank_23 : decode cX12_rank 23 = .ok (.if_icmp .ne 7, 3) := by decide +kernel
theorem dX12_rank_26 : decode cX12_rank 26 = .ok (.iconst 3, 1) := by decide +kernel
theorem dX12_rank_27 : decode cX12_rank 27 = .ok (.goto 58, 3) := by decide +kernel
theorem dX12_rank_30 : decode cX12_rank 30 = .ok (.iload_n 0, 1) := by decide +kernel
theorem dX12_rank_31 : decode cX12_rank 31 = .ok (.bipush 13, 2) := by decide +kernel
theorem dX12_rank_33 : decode cX12_rank 33 = .ok (.if_icmp .eq 9, 3) := by decide +kernel
theorem dX12_rank_36 : decode cX12_rank 36 = .ok (.iload_n 0, 1) := by decide +kernel
theorem dX12_rank_37 : decode cX12_rank 37 = .ok (.bipush 14, 2) := by decide +kernel
theorem dX12_rank_39 : decode cX12_rank 39 = .ok (.if_icmp .ne 7, 3) := by decide +kernel
theorem dX12_rank_42 : decode cX12_rank 42 = .ok (.iconst 4, 1) := by decide +kernel
theorem dX12_rank_43 : decode cX12_rank 43 = .ok (.goto 42, 3) := by decide +kernel
theorem dX12_rank_46 : decode cX12_rank 46 = .ok (.iload_n 0, 1) := by decide +kernel
theorem dX12_rank_47 : decode cX12_rank 47 = .ok (.bipush 15, 2) := by decide +kernel
theorem dX12_rank_49 : decode cX12_rank 49 = .ok (.if_icmp .eq 9, 3) := by decide +kernel
theorem dX12_rank_52 : decode cX12_rank 52 = .ok (.iload_n 0, 1) := by decide +kernel
theorem dX12_rank_53 : decode cX12_rank 53 = .ok (.bipush 16, 2) := by decide +kernel
theorem dX12_rank_55 : decode cX12_rank 55 = .ok (.if_icmp .ne 7, 3) := by decide +kernel
theorem dX12_rank_58 : decode cX12_rank 58 = .ok (.iconst 5, 1) := by decide +kernel
theorem dX12_rank_59 : decode cX12_rank 59 = .ok (.goto 26, 3) := by decide +kernel
theorem dX12_rank_62 : decode cX12_rank 62 = .ok (.iload_n 0, 1) := by decide +kernel
theorem dX12_rank_63 : decode cX12_rank 63 = .ok (.bipush 17, 2) := by decide +kernel
theorem dX12_rank_65 : decode cX12_rank 65 = .ok (.if_icmp .ne 8, 3) := by decide +kernel
theorem dX12_rank_68 : decode cX12_rank 68 = .ok (.bipush 6, 2) := by decide +kernel
theorem dX12_rank_70 : decode cX12_rank 70 = .ok (.goto 15, 3) := by decide +kernel
theorem dX12_rank_73 : decode cX12_rank 73 = .ok (.iload_n 0, 1) := by decide +kernel
theorem dX12_rank_74 : decode cX12_rank 74 = .ok (.bipush 18, 2) := by decide +kernel
theorem dX12_rank_76 : decode cX12_rank 76 = .ok (.if_icmp .ne 8, 3) := by decide +kernel
theorem dX12_rank_79 : decode cX12_rank 79 = .ok (.bipush 7, 2) := by decide +kernel
theorem dX12_rank_81 : decode cX12_rank 81 = .ok (.goto 4, 3) := by decide +kernel
theorem dX12_rank_84 : decode cX12_rank 84 = .ok (.iconst 0, 1) := by decide +kernel
theorem dX12_rank_85 : decode cX12_rank 85 = .ok (.ireturn, 1) := by decide +kernel
theorem dX12_doAll_0 : decode cX12_doAll 0 = .ok (.aload_n 0, 1) := by decide +kernel
theorem dX12_doAll_1 : decode cX12_doAll 1 = .ok (.getfield 95, 3) := by decide +kernel
theorem dX12_doAll_4 : decode cX12_doAll 4 = .ok (.ifCond .le 105, 3) := by decide +kernel
theorem dX12_doAll_7 : decode cX12_doAll 7 = .ok (.aload_n 0, 1) := by decide +kernel
theorem dX12_doAll_8 : decode cX12_doAll 8 = .ok (.getfield 98, 3) := by decide +kernel
theorem dX12_doAll_11 : decode cX12_doAll 11 = .ok (.aload_n 0, 1) := by decide +kernel
theorem dX12_doAll_12 : decode cX12_doAll 12 = .ok (.getfield 95, 3) := by decide +kernel
theorem dX12_doAll_15 : decode cX12_doAll 15 = .ok (.iconst 1, 1) := by decide +kernel
theorem dX12_doAll_16 : decode cX12_doAll 16 = .ok (.isub, 1) := by decide +kernel
theorem dX12_doAll_17 : decode cX12_doAll 17 = .ok (.iaload, 1) := by decide +kernel
theorem dX12_doAll_18 : decode cX12_doAll 18 = .ok (.bipush 30, 2) := by decide +kernel
theorem dX12_doAll_20 : decode cX12_doAll 20 = .ok (.if_icmp .eq 89, 3) := by decide +kernel
theorem dX12_doAll_23 : decode cX12_doAll 23 = .ok (.aload_n 0, 1) := by decide +kernel
theorem dX12_doAll_24 : decode cX12_doAll 24 = .ok (.getfield 98, 3) := by decide +kernel
theorem dX12_doAll_27 : decode cX12_doAll 27 = .ok (.aload_n 0, 1) := by decide +kernel
theorem dX12_doAll_28 : decode cX12_doAll 28 = .ok (.getfield 95, 3) := by decide +kernel
theorem dX12_doAll_31 : decode cX12_doAll 31 = .ok (.iconst 1, 1) := by decide +kernel
theorem dX12_doAll_32 : decode cX12_doAll 32 = .ok (.isub, 1) := by decide +kernel
theorem dX12_doAll_33 : decode cX12_doAll 33 = .ok (.iaload, 1) := by decide +kernel
theorem dX12_doAll_34 : decode cX12_doAll 34 = .ok (.invokestatic 101, 3) := by decide +kernel
theorem dX12_doAll_37 : decode cX12_doAll 37 = .ok (.iload_n 1, 1) := by decide +kernel
theorem dX12_doAll_38 : decode cX12_doAll 38 = .ok (.if_icmp .lt 71, 3) := by decide +kernel
theorem dX12_doAll_41 : decode cX12_doAll 41 = .ok (.aload_n 0, 1) := by decide +kernel
theorem dX12_doAll_42 : decode cX12_doAll 42 = .ok (.dup, 1) := by decide +kernel
theorem dX12_doAll_43 : decode cX12_doAll 43 = .ok (.getfield 95, 3) := by decide +kernel
theorem dX12_doAll_46 : decode cX12_doAll 46 = .ok (.iconst 1, 1) := by decide +kernel
theorem dX12_doAll_47 : decode cX12_doAll 47 = .ok (.isub, 1) := by decide +kernel
theorem dX12_doAll_48 : decode cX12_doAll 48 = .ok (.putfield 95, 3) := by decide +kernel
theorem dX12_doAll_51 : decode cX12_doAll 51 = .ok (.aload_n 0, 1) := by decide +kernel
theorem dX12_doAll_52 : decode cX12_doAll 52 = .ok (.dup, 1) := by decide +kernel
theorem dX12_doAll_53 : decode cX12_doAll 53 = .ok (.getfield 104, 3) := by decide +kernel
theorem dX12_doAll_56 : decode cX12_doAll 56 = .ok (.aload_n 0, 1) := by decide +kernel
theorem dX12_doAll_57 : decode cX12_doAll 57 = .ok (.getfield 98, 3) := by decide +kernel
theorem dX12_doAll_60 : decode cX12_doAll 60 = .ok (.aload_n 0, 1) := by decide +kernel
theorem dX12_doAll_61 : decode cX12_doAll 61 = .ok (.getfield 95, 3) := by decide +kernel
theorem dX12_doAll_64 : decode cX12_doAll 64 = .ok (.iaload, 1) := by decide +kernel
theorem dX12_doAll_65 : decode cX12_doAll 65 = .ok (.bipush 12, 2) := by decide +kernel
theorem dX12_doAll_67 : decode cX12_doAll 67 = .ok (.if_icmp .eq 17, 3) := by decide +kernel
theorem dX12_doAll_70 : decode cX12_doAll 70 = .ok (.aload_n 0, 1) := by decide +kernel
theorem dX12_doAll_71 : decode cX12_doAll 71 = .ok (.getfield 98, 3) := by decide +kernel
theorem dX12_doAll_74 : decode cX12_doAll 74 = .ok (.aload_n 0, 1) := by decide +kernel
theorem dX12_doAll_75 : decode cX12_doAll 75 = .ok (.getfield 95, 3) := by decide +kernel
theorem dX12_doAll_78 : decode cX12_doAll 78 = .ok (.iaload, 1) := by decide +kernel
theorem dX12_doAll_79 : decode cX12_doAll 79 = .ok (.bipush 18, 2) := by decide +kernel
theorem dX12_doAll_81 : decode cX12_doAll 81 = .ok (.if_icmp .ne 7, 3) := by decide +kernel
theorem dX12_doAll_84 : decode cX12_doAll 84 = .ok (.iconst 1, 1) := by decide +kernel
theorem dX12_doAll_85 : decode cX12_doAll 85 = .ok (.goto 4, 3) := by decide +kernel
theorem dX12_doAll_88 : decode cX12_doAll 88 = .ok (.iconst 0, 1) := by decide +kernel
theorem dX12_doAll_89 : decode cX12_doAll 89 = .ok (.isub, 1) := by decide +kernel
theorem dX12_doAll_90 : decode cX12_doAll 90 = .ok (.putfield 104, 3) := by decide +kernel
theorem dX12_doAll_93 : decode cX12_doAll 93 = .ok (.aload_n 0, 1) := by decide +kernel
theorem dX12_doAll_94 : decode cX12_doAll 94 = .ok (.aload_n 0, 1) := by decide +kernel
theorem dX12_doAll_95 : decode cX12_doAll 95 = .ok (.getfield 98, 3) := by decide +kernel
theorem dX12_doAll_98 : decode cX12_doAll 98 = .ok (.aload_n 0, 1) := by decide +kernel
theorem dX12_doAll_99 : decode cX12_doAll 99 = .ok (.getfield 95, 3) := by decide +kernel
theorem dX12_doAll_102 : decode cX12_doAll 102 = .ok (.iaload, 1) := by decide +kernel
theorem dX12_doAll_103 : decode cX12_doAll 103 = .ok (.invokevirtual 107, 3) := by decide +kernel
theorem dX12_doAll_106 : decode cX12_doAll 106 = .ok (.goto (-106), 3) := by decide +kernel
theorem dX12_doAll_109 : decode cX12_doAll 109 = .ok (.return_, 1) := by decide +kernel
theorem dX12_await_0 : decode cX12_await 0 = .ok (.aload_n 0, 1) := by decide +kernel
theorem dX12_await_1 : decode cX12_await 1 = .ok (.getfield 98, 3) := by decide +kernel
theorem dX12_await_4 : decode cX12_await 4 = .ok (.aload_n 0, 1) := by decide +kernel
theorem dX12_await_5 : decode cX12_await 5 = .ok (.getfield 95, 3) := by decide +kernel
theorem dX12_await_8 : decode cX12_await 8 = .ok (.iload_n 1, 1) := by decide +kernel
theorem dX12_await_9 : decode cX12_await 9 = .ok (.iastore, 1) := by decide +kernel
theorem dX12_await_10 : decode cX12_await 10 = .ok (.aload_n 0, 1) := by decide +kernel
theorem dX12_await_11 : decode cX12_await 11 = .ok (.dup, 1) := by decide +kernel
theorem dX12_await_12 : decode cX12_await 12 = .ok (.getfield 95, 3) := by decide +kernel
theorem dX12_await_15 : decode cX12_await 15 = .ok (.iconst 1, 1) := by decide +kernel
theorem dX12_await_16 : decode cX12_await 16 = .ok (.iadd, 1) := by decide +kernel
theorem dX12_await_17 : decode cX12_await 17 = .ok (.putfield 95, 3) := by decide +kernel
theorem dX12_await_20 : decode cX12_await 20 = .ok (.return_, 1) := by decide +kernel
theorem dX12_between_0 : decode cX12_between 0 = .ok (.aload_n 0, 1) := by decide +kernel
theorem dX12_between_1 : decode cX12_between 1 = .ok (.bipush 43, 2) := by decide +kernel
theorem dX12_between_3 : decode cX12_between 3 = .ok (.invokevirtual 111, 3) := by decide +kernel
theorem dX12_between_6 : decode cX12_between 6 = .ok (.ifCond .eq 8, 3) := by decide +kernel
theorem dX12_between_9 : decode cX12_between 9 = .ok (.bipush 15, 2) := by decide +kernel
theorem dX12_between_11 : decode cX12_between 11 = .ok (.goto 86, 3) := by decide +kernel
theorem dX12_between_14 : decode cX12_between 14 = .ok (.aload_n 0, 1) := by decide +kernel
theorem dX12_between_15 : decode cX12_between 15 = .ok (.bipush 45, 2) := by decide +kernel
theorem dX12_between_17 : decode cX12_between 17 = .ok (.invokevirtual 111, 3) := by decide +kernel
theorem dX12_between_20 : decode cX12_between 20 = .ok (.ifCond .eq 8, 3) := by decide +kernel
theorem dX12_between_23 : decode cX12_between 23 = .ok (.bipush 16, 2) := by decide +kernel
theorem dX12_between_25 : decode cX12_between 25 = .ok (.goto 72, 3) := by decide +kernel
theorem dX12_between_28 : decode cX12_between 28 = .ok (.aload_n 0, 1) := by decide +kernel
theorem dX12_between_29 : decode cX12_between 29 = .ok (.bipush 42, 2) := by decide +kernel
theorem dX12_between_31 : decode cX12_between 31 = .ok (.invokevirtual 111, 3) := by decide +kernel
theorem dX12_between_34 : decode cX12_between 34 = .ok (.ifCond .eq 8, 3) := by decide +kernel
theorem dX12_between_37 : decode cX12_between 37 = .ok (.bipush 17, 2) := by decide +kernel
theorem dX12_between_39 : decode cX12_between 39 = .ok (.goto 58, 3) := by decide +kernel
theorem dX12_between_42 : decode cX12_between 42 = .ok (.aload_n 0, 1) := by decide +kernel
theorem dX12_between_43 : decode cX12_between 43 = .ok (.bipush 60, 2) := by decide +kernel
theorem dX12_between_45 : decode cX12_between 45 = .ok (.invokevirtual 111, 3) := by decide +kernel
theorem dX12_between_48 : decode cX12_between 48 = .ok (.ifCond .eq 8, 3) := by decide +kernel
theorem dX12_between_51 : decode cX12_between 51 = .ok (.bipush 13, 2) := by decide +kernel
theorem dX12_between_53 : decode cX12_between 53 = .ok (.goto 44, 3) := by decide +kernel
theorem dX12_between_56 : decode cX12_between 56 = .ok (.aload_n 0, 1) := by decide +kernel
theorem dX12_between_57 : decode cX12_between 57 = .ok (.bipush 61, 2) := by decide +kernel
theorem dX12_between_59 : decode cX12_between 59 = .ok (.invokevirtual 111, 3) := by decide +kernel
theorem dX12_between_62 : decode cX12_between 62 = .ok (.ifCond .eq 8, 3) := by decide +kernel
theorem dX12_between_65 : decode cX12_between 65 = .ok (.bipush 14, 2) := by decide +kernel
theorem dX12_between_67 : decode cX12_between 67 = .ok (.goto 30, 3) := by decide +kernel
theorem dX12_between_70 : decode cX12_between 70 = .ok (.aload_n 0, 1) := by decide +kernel
theorem dX12_between_71 : decode cX12_between 71 = .ok (.iconst 4, 1) := by decide +kernel
theorem dX12_between_72 : decode cX12_between 72 = .ok (.invokevirtual 114, 3) := by decide +kernel
theorem dX12_between_75 : decode cX12_between 75 = .ok (.ifCond .eq 8, 3) := by decide +kernel
theorem dX12_between_78 : decode cX12_between 78 = .ok (.bipush 11, 2) := by decide +kernel
theorem dX12_between_80 : decode cX12_between 80 = .ok (.goto 17, 3) := by decide +kernel
theorem dX12_between_83 : decode cX12_between 83 = .ok (.aload_n 0, 1) := by decide +kernel
theorem dX12_between_84 : decode cX12_between 84 = .ok (.iconst 3, 1) := by decide +kernel
theorem dX12_between_85 : decode cX12_between 85 = .ok (.invokevirtual 114, 3) := by decide +kernel
theorem dX12_between_88 : decode cX12_between 88 = .ok (.ifCond .eq 8, 3) := by decide +kernel
theorem dX12_between_91 : decode cX12_between 91 = .ok (.bipush 10, 2) := by decide +kernel
theorem dX12_between_93 : decode cX12_between 93 = .ok (.goto 4, 3) := by decide +kernel
theorem dX12_between_96 : decode cX12_between 96 = .ok (.iconst (-1), 1) := by decide +kernel
theorem dX12_between_97 : decode cX12_between 97 = .ok (.istore_n 1, 1) := by decide +kernel
theorem dX12_between_98 : decode cX12_between 98 = .ok (.iload_n 1, 1) := by decide +kernel
theorem dX12_between_99 : decode cX12_between 99 = .ok (.iconst (-1), 1) := by decide +kernel
theorem dX12_between_100 : decode cX12_between 100 = .ok (.if_icmp .eq 23, 3) := by decide +kernel
theorem dX12_between_103 : decode cX12_between 103 = .ok (.iload_n 1, 1) := by decide +kernel
theorem dX12_between_104 : decode cX12_between 104 = .ok (.invokestatic 101, 3) := by decide +kernel
theorem dX12_between_107 : decode cX12_between 107 = .ok (.iconst 4, 1) := by decide +kernel
theorem dX12_between_108 : decode cX12_between 108 = .ok (.if_icmp .ne 17, 3) := by decide +kernel
theorem dX12_between_111 : decode cX12_between 111 = .ok (.aload_n 0, 1) := by decide +kernel
theorem dX12_between_112 : decode cX12_between 112 = .ok (.getfield 117, 3) := by decide +kernel
theorem dX12_between_115 : decode cX12_between 115 = .ok (.aload_n 0, 1) := by decide +kernel
theorem dX12_between_116 : decode cX12_between 116 = .ok (.getfield 121, 3) := by decide +kernel
theorem dX12_between_119 : decode cX12_between 119 = .ok (.baload, 1) := by decide +kernel
theorem dX12_between_120 : decode cX12_between 120 = .ok (.ifCond .eq 5, 3) := by decide +kernel
theorem dX12_between_123 : decode cX12_between 123 = .ok (.iconst 0, 1) := by decide +kernel
theorem dX12_between_124 : decode cX12_between 124 = .ok (.ireturn, 1) := by decide +kernel
theorem dX12_between_125 : decode cX12_between 125 = .ok (.aload_n 0, 1) := by decide +kernel
theorem dX12_between_126 : decode cX12_between 126 = .ok (.iload_n 1, 1) := by decide +kernel
theorem dX12_between_127 : decode cX12_between 127 = .ok (.invokestatic 101, 3) := by decide +kernel
theorem dX12_between_130 : decode cX12_between 130 = .ok (.invokevirtual 124, 3) := by decide +kernel
theorem dX12_between_133 : decode cX12_between 133 = .ok (.aload_n 0, 1) := by decide +kernel
theorem dX12_between_134 : decode cX12_between 134 = .ok (.iload_n 1, 1) := by decide +kernel
theorem dX12_between_135 : decode cX12_between 135 = .ok (.invokevirtual 127, 3) := by decide +kernel
theorem dX12_between_138 : decode cX12_between 138 = .ok (.aload_n 0, 1) := by decide +kernel
theorem dX12_between_139 : decode cX12_between 139 = .ok (.getfield 117, 3) := by decide +kernel
theorem dX12_between_142 : decode cX12_between 142 = .ok (.aload_n 0, 1) := by decide +kernel
theorem dX12_between_143 : decode cX12_between 143 = .ok (.getfield 121, 3) := by decide +kernel
theorem dX12_between_146 : decode cX12_between 146 = .ok (.iload_n 1, 1) := by decide +kernel
theorem dX12_between_147 : decode cX12_between 147 = .ok (.invokestatic 101, 3) := by decide +kernel
theorem dX12_between_150 : decode cX12_between 150 = .ok (.iconst 4, 1) := by decide +kernel
theorem dX12_between_151 : decode cX12_between 151 = .ok (.if_icmp .eq 23, 3) := by decide +kernel
theorem dX12_between_154 : decode cX12_between 154 = .ok (.iload_n 1, 1) := by decide +kernel
theorem dX12_between_155 : decode cX12_between 155 = .ok (.invokestatic 101, 3) := by decide +kernel
theorem dX12_between_158 : decode cX12_between 158 = .ok (.iconst 4, 1) := by decide +kernel
theorem dX12_between_159 : decode cX12_between 159 = .ok (.if_icmp .le 19, 3) := by decide +kernel
theorem dX12_between_162 : decode cX12_between 162 = .ok (.aload_n 0, 1) := by decide +kernel
theorem dX12_between_163 : decode cX12_between 163 = .ok (.getfield 117, 3) := by decide +kernel
theorem dX12_between_166 : decode cX12_between 166 = .ok (.aload_n 0, 1) := by decide +kernel
theorem dX12_between_167 : decode cX12_between 167 = .ok (.getfield 121, 3) := by decide +kernel
theorem dX12_between_170 : decode cX12_between 170 = .ok (.baload, 1) := by decide +kernel
theorem dX12_between_171 : decode cX12_between 171 = .ok (.ifCond .eq 7, 3) := by decide +kernel
theorem dX12_between_174 : decode cX12_between 174 = .ok (.iconst 1, 1) := by decide +kernel
theorem dX12_between_175 : decode cX12_between 175 = .ok (.goto 4, 3) := by decide +kernel
theorem dX12_between_178 : decode cX12_between 178 = .ok (.iconst 0, 1) := by decide +kernel
theorem dX12_between_179 : decode cX12_between 179 = .ok (.bastore, 1) := by decide +kernel
theorem dX12_between_180 : decode cX12_between 180 = .ok (.iconst 1, 1) := by decide +kernel
theorem dX12_between_181 : decode cX12_between 181 = .ok (.ireturn, 1) := by decide +kernel
theorem dX12_closes_0 : decode cX12_closes 0 = .ok (.aload_n 0, 1) := by decide +kernel
theorem dX12_closes_1 : decode cX12_closes 1 = .ok (.bipush 41, 2) := by decide +kernel
theorem dX12_closes_3 : decode cX12_closes 3 = .ok (.invokevirtual 111, 3) := by decide +kernel
theorem dX12_closes_6 : decode cX12_closes 6 = .ok (.ifCond .eq 10, 3) := by decide +kernel
theorem dX12_closes_9 : decode cX12_closes 9 = .ok (.aload_n 0, 1) := by decide +kernel
theorem dX12_closes_10 : decode cX12_closes 10 = .ok (.getfield 121, 3) := by decide +kernel
theorem dX12_closes_13 : decode cX12_closes 13 = .ok (.ifCond .ne 5, 3) := by decide +kernel
theorem dX12_closes_16 : decode cX12_closes 16 = .ok (.iconst 0, 1) := by decide +kernel
theorem dX12_closes_17 : decode cX12_closes 17 = .ok (.ireturn, 1) := by decide +kernel
theorem dX12_closes_18 : decode cX12_closes 18 = .ok (.aload_n 0, 1) := by decide +kernel
theorem dX12_closes_19 : decode cX12_closes 19 = .ok (.iconst 1, 1) := by decide +kernel
theorem dX12_closes_20 : decode cX12_closes 20 = .ok (.invokevirtual 124, 3) := by decide +kernel
theorem dX12_closes_23 : decode cX12_closes 23 = .ok (.aload_n 0, 1) := by decide +kernel
theorem dX12_closes_24 : decode cX12_closes 24 = .ok (.dup, 1) := by decide +kernel
theorem dX12_closes_25 : decode cX12_closes 25 = .ok (.getfield 95, 3) := by decide +kernel
theorem dX12_closes_28 : decode cX12_closes 28 = .ok (.iconst 1, 1) := by decide +kernel
theorem dX12_closes_29 : decode cX12_closes 29 = .ok (.isub, 1) := by decide +kernel
theorem dX12_closes_30 : decode cX12_closes 30 = .ok (.putfield 95, 3) := by decide +kernel
theorem dX12_closes_33 : decode cX12_closes 33 = .ok (.aload_n 0, 1) := by decide +kernel
theorem dX12_closes_34 : decode cX12_closes 34 = .ok (.dup, 1) := by decide +kernel
theorem dX12_closes_35 : decode cX12_closes 35 = .ok (.getfield 121, 3) := by decide +kernel
theorem dX12_closes_38 : decode cX12_closes 38 = .ok (.iconst 1, 1) := by decide +kernel
theorem dX12_closes_39 : decode cX12_closes 39 = .ok (.isub, 1) := by decide +kernel
theorem dX12_closes_40 : decode cX12_closes 40 = .ok (.putfield 121, 3) := by decide +kernel
theorem dX12_closes_43 : decode cX12_closes 43 = .ok (.aload_n 0, 1) := by decide +kernel
theorem dX12_closes_44 : decode cX12_closes 44 = .ok (.dup, 1) := by decide +kernel
theorem dX12_closes_45 : decode cX12_closes 45 = .ok (.getfield 104, 3) := by decide +kernel
theorem dX12_closes_48 : decode cX12_closes 48 = .ok (.iconst 1, 1) := by decide +kernel
theorem dX12_closes_49 : decode cX12_closes 49 = .ok (.isub, 1) := by decide +kernel
theorem dX12_closes_50 : decode cX12_closes 50 = .ok (.putfield 104, 3) := by decide +kernel
theorem dX12_closes_53 : decode cX12_closes 53 = .ok (.aload_n 0, 1) := by decide +kernel
theorem dX12_closes_54 : decode cX12_closes 54 = .ok (.bipush 7, 2) := by decide +kernel
theorem dX12_closes_56 : decode cX12_closes 56 = .ok (.invokevirtual 124, 3) := by decide +kernel
theorem dX12_closes_59 : decode cX12_closes 59 = .ok (.iconst 1, 1) := by decide +kernel
theorem dX12_closes_60 : decode cX12_closes 60 = .ok (.ireturn, 1) := by decide +kernel
theorem dX12_ahead_0 : decode cX12_ahead 0 = .ok (.aload_n 0, 1) := by decide +kernel
theorem dX12_ahead_1 : decode cX12_ahead 1 = .ok (.bipush 40, 2) := by decide +kernel
theorem dX12_ahead_3 : decode cX12_ahead 3 = .ok (.invokevirtual 111, 3) := by decide +kernel
theorem dX12_ahead_6 : decode cX12_ahead 6 = .ok (.ifCond .ne 24, 3) := by decide +kernel
theorem dX12_ahead_9 : decode cX12_ahead 9 = .ok (.aload_n 0, 1) := by decide +kernel
theorem dX12_ahead_10 : decode cX12_ahead 10 = .ok (.bipush 45, 2) := by decide +kernel
theorem dX12_ahead_12 : decode cX12_ahead 12 = .ok (.invokevirtual 111, 3) := by decide +kernel
theorem dX12_ahead_15 : decode cX12_ahead 15 = .ok (.ifCond .ne 15, 3) := by decide +kernel
theorem dX12_ahead_18 : decode cX12_ahead 18 = .ok (.iload_n 1, 1) := by decide +kernel
theorem dX12_ahead_19 : decode cX12_ahead 19 = .ok (.ifCond .eq 15, 3) := by decide +kernel
theorem dX12_ahead_22 : decode cX12_ahead 22 = .ok (.aload_n 0, 1) := by decide +kernel
theorem dX12_ahead_23 : decode cX12_ahead 23 = .ok (.iconst 5, 1) := by decide +kernel
theorem dX12_ahead_24 : decode cX12_ahead 24 = .ok (.invokevirtual 114, 3) := by decide +kernel
theorem dX12_ahead_27 : decode cX12_ahead 27 = .ok (.ifCond .eq 7, 3) := by decide +kernel
theorem dX12_ahead_30 : decode cX12_ahead 30 = .ok (.iconst 1, 1) := by decide +kernel
theorem dX12_ahead_31 : decode cX12_ahead 31 = .ok (.goto 4, 3) := by decide +kernel
theorem dX12_ahead_34 : decode cX12_ahead 34 = .ok (.iconst 0, 1) := by decide +kernel
theorem dX12_ahead_35 : decode cX12_ahead 35 = .ok (.istore_n 2, 1) := by decide +kernel
theorem dX12_ahead_36 : decode cX12_ahead 36 = .ok (.iload_n 2, 1) := by decide +kernel
theorem dX12_ahead_37 : decode cX12_ahead 37 = .ok (.ifCond .eq 11, 3) := by decide +kernel
theorem dX12_ahead_40 : decode cX12_ahead 40 = .ok (.aload_n 0, 1) := by decide +kernel
theorem dX12_ahead_41 : decode cX12_ahead 41 = .ok (.getfield 104, 3) := by decide +kernel
theorem dX12_ahead_44 : decode cX12_ahead 44 = .ok (.iconst 5, 1) := by decide +kernel
theorem dX12_ahead_45 : decode cX12_ahead 45 = .ok (.if_icmp .ne 5, 3) := by decide +kernel
theorem dX12_ahead_48 : decode cX12_ahead 48 = .ok (.iconst 0, 1) := by decide +kernel
theorem dX12_ahead_49 : decode cX12_ahead 49 = .ok (.ireturn, 1) := by decide +kernel
theorem dX12_ahead_50 : decode cX12_ahead 50 = .ok (.aload_n 0, 1) := by decide +kernel
theorem dX12_ahead_51 : decode cX12_ahead 51 = .ok (.dup, 1) := by decide +kernel
theorem dX12_ahead_52 : decode cX12_ahead 52 = .ok (.getfield 104, 3) := by decide +kernel
theorem dX12_ahead_55 : decode cX12_ahead 55 = .ok (.iconst 1, 1) := by decide +kernel
theorem dX12_ahead_56 : decode cX12_ahead 56 = .ok (.iadd, 1) := by decide +kernel
theorem dX12_ahead_57 : decode cX12_ahead 57 = .ok (.putfield 104, 3) := by decide +kernel
theorem dX12_ahead_60 : decode cX12_ahead 60 = .ok (.aload_n 0, 1) := by decide +kernel
theorem dX12_ahead_61 : decode cX12_ahead 61 = .ok (.bipush 40, 2) := by decide +kernel
theorem dX12_ahead_63 : decode cX12_ahead 63 = .ok (.invokevirtual 111, 3) := by decide +kernel
theorem dX12_ahead_66 : decode cX12_ahead 66 = .ok (.ifCond .eq 32, 3) := by decide +kernel
theorem dX12_ahead_69 : decode cX12_ahead 69 = .ok (.aload_n 0, 1) := by decide +kernel
theorem dX12_ahead_70 : decode cX12_ahead 70 = .ok (.bipush 30, 2) := by decide +kernel
theorem dX12_ahead_72 : decode cX12_ahead 72 = .ok (.invokevirtual 127, 3) := by decide +kernel
theorem dX12_ahead_75 : decode cX12_ahead 75 = .ok (.aload_n 0, 1) := by decide +kernel
theorem dX12_ahead_76 : decode cX12_ahead 76 = .ok (.dup, 1) := by decide +kernel
theorem dX12_ahead_77 : decode cX12_ahead 77 = .ok (.getfield 121, 3) := by decide +kernel
theorem dX12_ahead_80 : decode cX12_ahead 80 = .ok (.iconst 1, 1) := by decide +kernel
theorem dX12_ahead_81 : decode cX12_ahead 81 = .ok (.iadd, 1) := by decide +kernel
theorem dX12_ahead_82 : decode cX12_ahead 82 = .ok (.putfield 121, 3) := by decide +kernel
theorem dX12_ahead_85 : decode cX12_ahead 85 = .ok (.aload_n 0, 1) := by decide +kernel
theorem dX12_ahead_86 : decode cX12_ahead 86 = .ok (.getfield 117, 3) := by decide +kernel
theorem dX12_ahead_89 : decode cX12_ahead 89 = .ok (.aload_n 0, 1) := by decide +kernel
theorem dX12_ahead_90 : decode cX12_ahead 90 = .ok (.getfield 121, 3) := by decide +kernel
theorem dX12_ahead_93 : decode cX12_ahead 93 = .ok (.iconst 0, 1) := by decide +kernel
theorem dX12_ahead_94 : decode cX12_ahead 94 = .ok (.bastore, 1) := by decide +kernel
theorem dX12_ahead_95 : decode cX12_ahead 95 = .ok (.goto 22, 3) := by decide +kernel
theorem dX12_ahead_98 : decode cX12_ahead 98 = .ok (.aload_n 0, 1) := by decide +kernel
theorem dX12_ahead_99 : decode cX12_ahead 99 = .ok (.aload_n 0, 1) := by decide +kernel
theorem dX12_ahead_100 : decode cX12_ahead 100 = .ok (.getfield 60, 3) := by decide +kernel
theorem dX12_ahead_103 : decode cX12_ahead 103 = .ok (.iconst 3, 1) := by decide +kernel
theorem dX12_ahead_104 : decode cX12_ahead 104 = .ok (.if_icmp .ne 8, 3) := by decide +kernel
theorem dX12_ahead_107 : decode cX12_ahead 107 = .ok (.bipush 12, 2) := by decide +kernel
theorem dX12_ahead_109 : decode cX12_ahead 109 = .ok (.goto 5, 3) := by decide +kernel
theorem dX12_ahead_112 : decode cX12_ahead 112 = .ok (.bipush 18, 2) := by decide +kernel
theorem dX12_ahead_114 : decode cX12_ahead 114 = .ok (.invokevirtual 127, 3) := by decide +kernel
theorem dX12_ahead_117 : decode cX12_ahead 117 = .ok (.iconst 1, 1) := by decide +kernel
theorem dX12_ahead_118 : decode cX12_ahead 118 = .ok (.ireturn, 1) := by decide +kernel
theorem dX12_readE_0 : decode cX12_readE 0 = .ok (.aload_n 0, 1) := by decide +kernel
theorem dX12_readE_1 : decode cX12_readE 1 = .ok (.sipush 160, 3) := by decide +kernel
theorem dX12_readE_4 : decode cX12_readE 4 = .ok (.iload_n 1, 1) := by decide +kernel
theorem dX12_readE_5 : decode cX12_readE 5 = .ok (.imul, 1) := by decide +kernel
theorem dX12_readE_6 : decode cX12_readE 6 = .ok (.putfield 89, 3) := by decide +kernel
theorem dX12_readE_9 : decode cX12_readE 9 = .ok (.aload_n 0, 1) := by decide +kernel
theorem dX12_readE_10 : decode cX12_readE 10 = .ok (.iconst 0, 1) := by decide +kernel
theorem dX12_readE_11 : decode cX12_readE 11 = .ok (.putfield 92, 3) := by decide +kernel
theorem dX12_readE_14 : decode cX12_readE 14 = .ok (.aload_n 0, 1) := by decide +kernel
theorem dX12_readE_15 : decode cX12_readE 15 = .ok (.iconst 0, 1) := by decide +kernel
theorem dX12_readE_16 : decode cX12_readE 16 = .ok (.putfield 95, 3) := by decide +kernel
theorem dX12_readE_19 : decode cX12_readE 19 = .ok (.aload_n 0, 1) := by decide +kernel
theorem dX12_readE_20 : decode cX12_readE 20 = .ok (.iconst 0, 1) := by decide +kernel
theorem dX12_readE_21 : decode cX12_readE 21 = .ok (.putfield 104, 3) := by decide +kernel
theorem dX12_readE_24 : decode cX12_readE 24 = .ok (.aload_n 0, 1) := by decide +kernel
theorem dX12_readE_25 : decode cX12_readE 25 = .ok (.iconst 0, 1) := by decide +kernel
theorem dX12_readE_26 : decode cX12_readE 26 = .ok (.putfield 121, 3) := by decide +kernel
theorem dX12_readE_29 : decode cX12_readE 29 = .ok (.aload_n 0, 1) := by decide +kernel
theorem dX12_readE_30 : decode cX12_readE 30 = .ok (.getfield 117, 3) := by decide +kernel
theorem dX12_readE_33 : decode cX12_readE 33 = .ok (.iconst 0, 1) := by decide +kernel
theorem dX12_readE_34 : decode cX12_readE 34 = .ok (.iconst 0, 1) := by decide +kernel
theorem dX12_readE_35 : decode cX12_readE 35 = .ok (.bastore, 1) := by decide +kernel
theorem dX12_readE_36 : decode cX12_readE 36 = .ok (.iconst 1, 1) := by decide +kernel
theorem dX12_readE_37 : decode cX12_readE 37 = .ok (.istore_n 2, 1) := by decide +kernel
theorem dX12_readE_38 : decode cX12_readE 38 = .ok (.iconst 1, 1) := by decide +kernel
theorem dX12_readE_39 : decode cX12_readE 39 = .ok (.istore_n 3, 1) := by decide +kernel
theorem dX12_readE_40 : decode cX12_readE 40 = .ok (.iload_n 2, 1) := by decide +kernel
theorem dX12_readE_41 : decode cX12_readE 41 = .ok (.ifCond .eq 55, 3) := by decide +kernel
theorem dX12_readE_44 : decode cX12_readE 44 = .ok (.aload_n 0, 1) := by decide +kernel
theorem dX12_readE_45 : decode cX12_readE 45 = .ok (.getfield 60, 3) := by decide +kernel
theorem dX12_readE_48 : decode cX12_readE 48 = .ok (.iconst 1, 1) := by decide +kernel
theorem dX12_readE_49 : decode cX12_readE 49 = .ok (.if_icmp .eq 11, 3) := by decide +kernel
theorem dX12_readE_52 : decode cX12_readE 52 = .ok (.aload_n 0, 1) := by decide +kernel
theorem dX12_readE_53 : decode cX12_readE 53 = .ok (.getfield 60, 3) := by decide +kernel
theorem dX12_readE_56 : decode cX12_readE 56 = .ok (.iconst 2, 1) := by decide +kernel
theorem dX12_readE_57 : decode cX12_readE 57 = .ok (.if_icmp .ne 39, 3) := by decide +kernel
theorem dX12_readE_60 : decode cX12_readE 60 = .ok (.aload_n 0, 1) := by decide +kernel
theorem dX12_readE_61 : decode cX12_readE 61 = .ok (.aload_n 0, 1) := by decide +kernel
theorem dX12_readE_62 : decode cX12_readE 62 = .ok (.getfield 60, 3) := by decide +kernel
theorem dX12_readE_65 : decode cX12_readE 65 = .ok (.iconst 1, 1) := by decide +kernel
theorem dX12_readE_66 : decode cX12_readE 66 = .ok (.if_icmp .ne 12, 3) := by decide +kernel
theorem dX12_readE_69 : decode cX12_readE 69 = .ok (.iconst (-1), 1) := by decide +kernel
theorem dX12_readE_70 : decode cX12_readE 70 = .ok (.aload_n 0, 1) := by decide +kernel
theorem dX12_readE_71 : decode cX12_readE 71 = .ok (.getfield 73, 3) := by decide +kernel
theorem dX12_readE_74 : decode cX12_readE 74 = .ok (.isub, 1) := by decide +kernel
theorem dX12_readE_75 : decode cX12_readE 75 = .ok (.goto 7, 3) := by decide +kernel
theorem dX12_readE_78 : decode cX12_readE 78 = .ok (.aload_n 0, 1) := by decide +kernel
theorem dX12_readE_79 : decode cX12_readE 79 = .ok (.getfield 73, 3) := by decide +kernel
theorem dX12_readE_82 : decode cX12_readE 82 = .ok (.invokevirtual 107, 3) := by decide +kernel
theorem dX12_readE_85 : decode cX12_readE 85 = .ok (.aload_n 0, 1) := by decide +kernel
theorem dX12_readE_86 : decode cX12_readE 86 = .ok (.bipush 7, 2) := by decide +kernel
theorem dX12_readE_88 : decode cX12_readE 88 = .ok (.invokevirtual 124, 3) := by decide +kernel
theorem dX12_readE_91 : decode cX12_readE 91 = .ok (.iconst 0, 1) := by decide +kernel
theorem dX12_readE_92 : decode cX12_readE 92 = .ok (.istore_n 2, 1) := by decide +kernel
theorem dX12_readE_93 : decode cX12_readE 93 = .ok (.goto 115, 3) := by decide +kernel
theorem dX12_readE_96 : decode cX12_readE 96 = .ok (.iload_n 2, 1) := by decide +kernel
theorem dX12_readE_97 : decode cX12_readE 97 = .ok (.ifCond .eq 35, 3) := by decide +kernel
theorem dX12_readE_100 : decode cX12_readE 100 = .ok (.aload_n 0, 1) := by decide +kernel
theorem dX12_readE_101 : decode cX12_readE 101 = .ok (.bipush 45, 2) := by decide +kernel
theorem dX12_readE_103 : decode cX12_readE 103 = .ok (.invokevirtual 111, 3) := by decide +kernel
theorem dX12_readE_106 : decode cX12_readE 106 = .ok (.istore 4, 2) := by decide +kernel
theorem dX12_readE_108 : decode cX12_readE 108 = .ok (.aload_n 0, 1) := by decide +kernel
theorem dX12_readE_109 : decode cX12_readE 109 = .ok (.iload_n 3, 1) := by decide +kernel
theorem dX12_readE_110 : decode cX12_readE 110 = .ok (.invokevirtual 130, 3) := by decide +kernel
theorem dX12_readE_113 : decode cX12_readE 113 = .ok (.ifCond .ne 5, 3) := by decide +kernel
theorem dX12_readE_116 : decode cX12_readE 116 = .ok (.iconst 0, 1) := by decide +kernel
theorem dX12_readE_117 : decode cX12_readE 117 = .ok (.ireturn, 1) := by decide +kernel
theorem dX12_readE_118 : decode cX12_readE 118 = .ok (.iload 4, 2) := by decide +kernel
theorem dX12_readE_120 : decode cX12_readE 120 = .ok (.ifCond .ne 7, 3) := by decide +kernel
theorem dX12_readE_123 : decode cX12_readE 123 = .ok (.iconst 1, 1) := by decide +kernel
theorem dX12_readE_124 : decode cX12_readE 124 = .ok (.goto 4, 3) := by decide +kernel
theorem dX12_readE_127 : decode cX12_readE 127 = .ok (.iconst 0, 1) := by decide +kernel
theorem dX12_readE_128 : decode cX12_readE 128 = .ok (.istore_n 3, 1) := by decide +kernel
theorem dX12_readE_129 : decode cX12_readE 129 = .ok (.goto 79, 3) := by decide +kernel
theorem dX12_readE_132 : decode cX12_readE 132 = .ok (.aload_n 0, 1) := by decide +kernel
theorem dX12_readE_133 : decode cX12_readE 133 = .ok (.bipush 59, 2) := by decide +kernel
theorem dX12_readE_135 : decode cX12_readE 135 = .ok (.invokevirtual 111, 3) := by decide +kernel
theorem dX12_readE_138 : decode cX12_readE 138 = .ok (.ifCond .eq 27, 3) := by decide +kernel
theorem dX12_readE_141 : decode cX12_readE 141 = .ok (.aload_n 0, 1) := by decide +kernel
theorem dX12_readE_142 : decode cX12_readE 142 = .ok (.getfield 121, 3) := by decide +kernel
theorem dX12_readE_145 : decode cX12_readE 145 = .ok (.ifCond .ne 20, 3) := by decide +kernel
theorem dX12_readE_148 : decode cX12_readE 148 = .ok (.aload_n 0, 1) := by decide +kernel
theorem dX12_readE_149 : decode cX12_readE 149 = .ok (.iconst 1, 1) := by decide +kernel
theorem dX12_readE_150 : decode cX12_readE 150 = .ok (.invokevirtual 124, 3) := by decide +kernel
theorem dX12_readE_153 : decode cX12_readE 153 = .ok (.aload_n 0, 1) := by decide +kernel
theorem dX12_readE_154 : decode cX12_readE 154 = .ok (.getfield 134, 3) := by decide +kernel
theorem dX12_readE_157 : decode cX12_readE 157 = .ok (.iload_n 1, 1) := by decide +kernel
theorem dX12_readE_158 : decode cX12_readE 158 = .ok (.aload_n 0, 1) := by decide +kernel
theorem dX12_readE_159 : decode cX12_readE 159 = .ok (.getfield 92, 3) := by decide +kernel
theorem dX12_readE_162 : decode cX12_readE 162 = .ok (.iastore, 1) := by decide +kernel
theorem dX12_readE_163 : decode cX12_readE 163 = .ok (.iconst 1, 1) := by decide +kernel
theorem dX12_readE_164 : decode cX12_readE 164 = .ok (.ireturn, 1) := by decide +kernel
theorem dX12_readE_165 : decode cX12_readE 165 = .ok (.aload_n 0, 1) := by decide +kernel
theorem dX12_readE_166 : decode cX12_readE 166 = .ok (.invokevirtual 137, 3) := by decide +kernel
theorem dX12_readE_169 : decode cX12_readE 169 = .ok (.ifCond .eq 30, 3) := by decide +kernel
theorem dX12_readE_172 : decode cX12_readE 172 = .ok (.iconst 1, 1) := by decide +kernel
theorem dX12_readE_173 : decode cX12_readE 173 = .ok (.istore_n 2, 1) := by decide +kernel
theorem dX12_readE_174 : decode cX12_readE 174 = .ok (.aload_n 0, 1) := by decide +kernel
theorem dX12_readE_175 : decode cX12_readE 175 = .ok (.iconst 4, 1) := by decide +kernel
theorem dX12_readE_176 : decode cX12_readE 176 = .ok (.invokevirtual 114, 3) := by decide +kernel
theorem dX12_readE_179 : decode cX12_readE 179 = .ok (.ifCond .ne 11, 3) := by decide +kernel
theorem dX12_readE_182 : decode cX12_readE 182 = .ok (.aload_n 0, 1) := by decide +kernel
theorem dX12_readE_183 : decode cX12_readE 183 = .ok (.iconst 3, 1) := by decide +kernel
theorem dX12_readE_184 : decode cX12_readE 184 = .ok (.invokevirtual 114, 3) := by decide +kernel
theorem dX12_readE_187 : decode cX12_readE 187 = .ok (.ifCond .eq 7, 3) := by decide +kernel
theorem dX12_readE_190 : decode cX12_readE 190 = .ok (.iconst 1, 1) := by decide +kernel
theorem dX12_readE_191 : decode cX12_readE 191 = .ok (.goto 4, 3) := by decide +kernel
theorem dX12_readE_194 : decode cX12_readE 194 = .ok (.iconst 0, 1) := by decide +kernel
theorem dX12_readE_195 : decode cX12_readE 195 = .ok (.istore_n 3, 1) := by decide +kernel
theorem dX12_readE_196 : decode cX12_readE 196 = .ok (.goto 12, 3) := by decide +kernel
theorem dX12_readE_199 : decode cX12_readE 199 = .ok (.aload_n 0, 1) := by decide +kernel
theorem dX12_readE_200 : decode cX12_readE 200 = .ok (.invokevirtual 141, 3) := by decide +kernel
theorem dX12_readE_203 : decode cX12_readE 203 = .ok (.ifCond .ne 5, 3) := by decide +kernel
theorem dX12_readE_206 : decode cX12_readE 206 = .ok (.iconst 0, 1) := by decide +kernel
theorem dX12_readE_207 : decode cX12_readE 207 = .ok (.ireturn, 1) := by decide +kernel
theorem dX12_readE_208 : decode cX12_readE 208 = .ok (.aload_n 0, 1) := by decide +kernel
theorem dX12_readE_209 : decode cX12_readE 209 = .ok (.invokevirtual 144, 3) := by decide +kernel
theorem dX12_readE_212 : decode cX12_readE 212 = .ok (.goto (-172), 3) := by decide +kernel
theorem dX12_readAll_0 : decode cX12_readAll 0 = .ok (.aload_n 0, 1) := by decide +kernel
theorem dX12_readAll_1 : decode cX12_readAll 1 = .ok (.iconst 0, 1) := by decide +kernel
theorem dX12_readAll_2 : decode cX12_readAll 2 = .ok (.putfield 54, 3) := by decide +kernel
theorem dX12_readAll_5 : decode cX12_readAll 5 = .ok (.iconst 0, 1) := by decide +kernel
theorem dX12_readAll_6 : decode cX12_readAll 6 = .ok (.istore_n 2, 1) := by decide +kernel
theorem dX12_readAll_7 : decode cX12_readAll 7 = .ok (.iload_n 2, 1) := by decide +kernel
theorem dX12_readAll_8 : decode cX12_readAll 8 = .ok (.iconst 3, 1) := by decide +kernel
theorem dX12_readAll_9 : decode cX12_readAll 9 = .ok (.if_icmp .ge 47, 3) := by decide +kernel
theorem dX12_readAll_12 : decode cX12_readAll 12 = .ok (.aload_n 0, 1) := by decide +kernel
theorem dX12_readAll_13 : decode cX12_readAll 13 = .ok (.invokevirtual 144, 3) := by decide +kernel
theorem dX12_readAll_16 : decode cX12_readAll 16 = .ok (.aload_n 0, 1) := by decide +kernel
theorem dX12_readAll_17 : decode cX12_readAll 17 = .ok (.iload_n 2, 1) := by decide +kernel
theorem dX12_readAll_18 : decode cX12_readAll 18 = .ok (.invokevirtual 114, 3) := by decide +kernel
theorem dX12_readAll_21 : decode cX12_readAll 21 = .ok (.ifCond .ne 8, 3) := by decide +kernel
theorem dX12_readAll_24 : decode cX12_readAll 24 = .ok (.aload_n 0, 1) := by decide +kernel
theorem dX12_readAll_25 : decode cX12_readAll 25 = .ok (.getfield 66, 3) := by decide +kernel
theorem dX12_readAll_28 : decode cX12_readAll 28 = .ok (.ireturn, 1) := by decide +kernel
theorem dX12_readAll_29 : decode cX12_readAll 29 = .ok (.aload_n 0, 1) := by decide +kernel
theorem dX12_readAll_30 : decode cX12_readAll 30 = .ok (.invokevirtual 144, 3) := by decide +kernel
theorem dX12_readAll_33 : decode cX12_readAll 33 = .ok (.aload_n 0, 1) := by decide +kernel
theorem dX12_readAll_34 : decode cX12_readAll 34 = .ok (.iconst 3, 1) := by decide +kernel
theorem dX12_readAll_35 : decode cX12_readAll 35 = .ok (.iload_n 1, 1) := by decide +kernel
theorem dX12_readAll_36 : decode cX12_readAll 36 = .ok (.imul, 1) := by decide +kernel
theorem dX12_readAll_37 : decode cX12_readAll 37 = .ok (.iload_n 2, 1) := by decide +kernel
theorem dX12_readAll_38 : decode cX12_readAll 38 = .ok (.iadd, 1) := by decide +kernel
theorem dX12_readAll_39 : decode cX12_readAll 39 = .ok (.invokevirtual 147, 3) := by decide +kernel
theorem dX12_readAll_42 : decode cX12_readAll 42 = .ok (.ifCond .ne 8, 3) := by decide +kernel
theorem dX12_readAll_45 : decode cX12_readAll 45 = .ok (.aload_n 0, 1) := by decide +kernel
theorem dX12_readAll_46 : decode cX12_readAll 46 = .ok (.getfield 66, 3) := by decide +kernel
theorem dX12_readAll_49 : decode cX12_readAll 49 = .ok (.ireturn, 1) := by decide +kernel
theorem dX12_readAll_50 : decode cX12_readAll 50 = .ok (.iinc 2 1, 3) := by decide +kernel
theorem dX12_readAll_53 : decode cX12_readAll 53 = .ok (.goto (-46), 3) := by decide +kernel
theorem dX12_readAll_56 : decode cX12_readAll 56 = .ok (.aload_n 0, 1) := by decide +kernel
theorem dX12_readAll_57 : decode cX12_readAll 57 = .ok (.invokevirtual 144, 3) := by decide +kernel
theorem dX12_readAll_60 : decode cX12_readAll 60 = .ok (.aload_n 0, 1) := by decide +kernel
theorem dX12_readAll_61 : decode cX12_readAll 61 = .ok (.getfield 60, 3) := by decide +kernel
theorem dX12_readAll_64 : decode cX12_readAll 64 = .ok (.iconst 5, 1) := by decide +kernel
theorem dX12_readAll_65 : decode cX12_readAll 65 = .ok (.if_icmp .ne 7, 3) := by decide +kernel
theorem dX12_readAll_68 : decode cX12_readAll 68 = .ok (.iconst (-1), 1) := by decide +kernel
theorem dX12_readAll_69 : decode cX12_readAll 69 = .ok (.goto 7, 3) := by decide +kernel
theorem dX12_readAll_72 : decode cX12_readAll 72 = .ok (.aload_n 0, 1) := by decide +kernel
theorem dX12_readAll_73 : decode cX12_readAll 73 = .ok (.getfield 66, 3) := by decide +kernel
theorem dX12_readAll_76 : decode cX12_readAll 76 = .ok (.ireturn, 1) := by decide +kernel
theorem dX12_text_0 : decode cX12_text 0 = .ok (.aload_n 0, 1) := by decide +kernel
theorem dX12_text_1 : decode cX12_text 1 = .ok (.getfield 150, 3) := by decide +kernel
theorem dX12_text_4 : decode cX12_text 4 = .ok (.bipush 6, 2) := by decide +kernel
theorem dX12_text_6 : decode cX12_text 6 = .ok (.if_icmp .ne 6, 3) := by decide +kernel
theorem dX12_text_9 : decode cX12_text 9 = .ok (.bipush (-4), 2) := by decide +kernel
theorem dX12_text_11 : decode cX12_text 11 = .ok (.ireturn, 1) := by decide +kernel
theorem dX12_text_12 : decode cX12_text 12 = .ok (.aload_n 0, 1) := by decide +kernel
theorem dX12_text_13 : decode cX12_text 13 = .ok (.aload_n 0, 1) := by decide +kernel
theorem dX12_text_14 : decode cX12_text 14 = .ok (.getfield 150, 3) := by decide +kernel
theorem dX12_text_17 : decode cX12_text 17 = .ok (.invokevirtual 153, 3) := by decide +kernel
theorem dX12_text_20 : decode cX12_text 20 = .ok (.istore_n 1, 1) := by decide +kernel
theorem dX12_text_21 : decode cX12_text 21 = .ok (.aload_n 0, 1) := by decide +kernel
theorem dX12_text_22 : decode cX12_text 22 = .ok (.iconst 0, 1) := by decide +kernel
theorem dX12_text_23 : decode cX12_text 23 = .ok (.putfield 48, 3) := by decide +kernel
theorem dX12_text_26 : decode cX12_text 26 = .ok (.iload_n 1, 1) := by decide +kernel
theorem dX12_text_27 : decode cX12_text 27 = .ok (.iconst (-1), 1) := by decide +kernel
theorem dX12_text_28 : decode cX12_text 28 = .ok (.if_icmp .eq 8, 3) := by decide +kernel
theorem dX12_text_31 : decode cX12_text 31 = .ok (.bipush (-100), 2) := by decide +kernel
theorem dX12_text_33 : decode cX12_text 33 = .ok (.iload_n 1, 1) := by decide +kernel
theorem dX12_text_34 : decode cX12_text 34 = .ok (.isub, 1) := by decide +kernel
theorem dX12_text_35 : decode cX12_text 35 = .ok (.ireturn, 1) := by decide +kernel
theorem dX12_text_36 : decode cX12_text 36 = .ok (.aload_n 0, 1) := by decide +kernel
theorem dX12_text_37 : decode cX12_text 37 = .ok (.dup, 1) := by decide +kernel
theorem dX12_text_38 : decode cX12_text 38 = .ok (.getfield 150, 3) := by decide +kernel
theorem dX12_text_41 : decode cX12_text 41 = .ok (.iconst 1, 1) := by decide +kernel
theorem dX12_text_42 : decode cX12_text 42 = .ok (.iadd, 1) := by decide +kernel
theorem dX12_text_43 : decode cX12_text 43 = .ok (.putfield 150, 3) := by decide +kernel
theorem dX12_text_46 : decode cX12_text 46 = .ok (.aload_n 0, 1) := by decide +kernel
theorem dX12_text_47 : decode cX12_text 47 = .ok (.getfield 150, 3) := by decide +kernel
theorem dX12_text_50 : decode cX12_text 50 = .ok (.iconst 1, 1) := by decide +kernel
theorem dX12_text_51 : decode cX12_text 51 = .ok (.isub, 1) := by decide +kernel
theorem dX12_text_52 : decode cX12_text 52 = .ok (.ireturn, 1) := by decide +kernel
theorem dX12_force_0 : decode cX12_force 0 = .ok (.iload_n 1, 1) := by decide +kernel
theorem dX12_force_1 : decode cX12_force 1 = .ok (.iconst 0, 1) := by decide +kernel
theorem dX12_force_2 : decode cX12_force 2 = .ok (.aload_n 0, 1) := by decide +kernel
theorem dX12_force_3 : decode cX12_force 3 = .ok (.getfield 150, 3) := by decide +kernel
theorem dX12_force_6 : decode cX12_force 6 = .ok (.iconst 1, 1) := by decide +kernel
theorem dX12_force_7 : decode cX12_force 7 = .ok (.isub, 1) := by decide +kernel
theorem dX12_force_8 : decode cX12_force 8 = .ok (.invokestatic 7, 3) := by decide +kernel
theorem dX12_force_11 : decode cX12_force 11 = .ok (.ifCond .ne 6, 3) := by decide +kernel
theorem dX12_force_14 : decode cX12_force 14 = .ok (.bipush (-2), 2) := by decide +kernel
theorem dX12_force_16 : decode cX12_force 16 = .ok (.ireturn, 1) := by decide +kernel
theorem dX12_force_17 : decode cX12_force 17 = .ok (.aload_n 0, 1) := by decide +kernel
theorem dX12_force_18 : decode cX12_force 18 = .ok (.getfield 156, 3) := by decide +kernel
theorem dX12_force_21 : decode cX12_force 21 = .ok (.istore_n 2, 1) := by decide +kernel
theorem dX12_force_22 : decode cX12_force 22 = .ok (.aload_n 0, 1) := by decide +kernel
theorem dX12_force_23 : decode cX12_force 23 = .ok (.iload_n 1, 1) := by decide +kernel
theorem dX12_force_24 : decode cX12_force 24 = .ok (.putfield 156, 3) := by decide +kernel
theorem dX12_force_27 : decode cX12_force 27 = .ok (.iload_n 2, 1) := by decide +kernel
theorem dX12_force_28 : decode cX12_force 28 = .ok (.ireturn, 1) := by decide +kernel
theorem dX12_nameOn_0 : decode cX12_nameOn 0 = .ok (.iload_n 2, 1) := by decide +kernel
theorem dX12_nameOn_1 : decode cX12_nameOn 1 = .ok (.aload_n 0, 1) := by decide +kernel
theorem dX12_nameOn_2 : decode cX12_nameOn 2 = .ok (.getfield 225, 3) := by decide +kernel
theorem dX12_nameOn_5 : decode cX12_nameOn 5 = .ok (.if_icmp .eq 12, 3) := by decide +kernel
theorem dX12_nameOn_8 : decode cX12_nameOn 8 = .ok (.aload_n 0, 1) := by decide +kernel
theorem dX12_nameOn_9 : decode cX12_nameOn 9 = .ok (.getfield 170, 3) := by decide +kernel
theorem dX12_nameOn_12 : decode cX12_nameOn 12 = .ok (.iload_n 2, 1) := by decide +kernel
theorem dX12_nameOn_13 : decode cX12_nameOn 13 = .ok (.iaload, 1) := by decide +kernel
theorem dX12_nameOn_14 : decode cX12_nameOn 14 = .ok (.ifCond .ne 7, 3) := by decide +kernel
theorem dX12_nameOn_17 : decode cX12_nameOn 17 = .ok (.iconst 1, 1) := by decide +kernel
theorem dX12_nameOn_18 : decode cX12_nameOn 18 = .ok (.goto 4, 3) := by decide +kernel
theorem dX12_nameOn_21 : decode cX12_nameOn 21 = .ok (.iconst 0, 1) := by decide +kernel
theorem dX12_nameOn_22 : decode cX12_nameOn 22 = .ok (.istore_n 3, 1) := by decide +kernel
theorem dX12_nameOn_23 : decode cX12_nameOn 23 = .ok (.iload_n 3, 1) := by decide +kernel
theorem dX12_nameOn_24 : decode cX12_nameOn 24 = .ok (.ifCond .eq 7, 3) := by decide +kernel
theorem dX12_nameOn_27 : decode cX12_nameOn 27 = .ok (.iconst 0, 1) := by decide +kernel
theorem dX12_nameOn_28 : decode cX12_nameOn 28 = .ok (.goto 21, 3) := by decide +kernel
theorem dX12_nameOn_31 : decode cX12_nameOn 31 = .ok (.aload_n 0, 1) := by decide +kernel
theorem dX12_nameOn_32 : decode cX12_nameOn 32 = .ok (.getfield 173, 3) := by decide +kernel
theorem dX12_nameOn_35 : decode cX12_nameOn 35 = .ok (.bipush 8, 2) := by decide +kernel
theorem dX12_nameOn_37 : decode cX12_nameOn 37 = .ok (.iload_n 2, 1) := by decide +kernel
theorem dX12_nameOn_38 : decode cX12_nameOn 38 = .ok (.imul, 1) := by decide +kernel
theorem dX12_nameOn_39 : decode cX12_nameOn 39 = .ok (.aload_n 0, 1) := by decide +kernel
theorem dX12_nameOn_40 : decode cX12_nameOn 40 = .ok (.getfield 170, 3) := by decide +kernel
theorem dX12_nameOn_43 : decode cX12_nameOn 43 = .ok (.iload_n 2, 1) := by decide +kernel
theorem dX12_nameOn_44 : decode cX12_nameOn 44 = .ok (.iaload, 1) := by decide +kernel
theorem dX12_nameOn_45 : decode cX12_nameOn 45 = .ok (.iadd, 1) := by decide +kernel
theorem dX12_nameOn_46 : decode cX12_nameOn 46 = .ok (.iconst 1, 1) := by decide +kernel
theorem dX12_nameOn_47 : decode cX12_nameOn 47 = .ok (.isub, 1) := by decide +kernel
theorem dX12_nameOn_48 : decode cX12_nameOn 48 = .ok (.iaload, 1) := by decide +kernel
theorem dX12_nameOn_49 : decode cX12_nameOn 49 = .ok (.istore 4, 2) := by decide +kernel
theorem dX12_nameOn_51 : decode cX12_nameOn 51 = .ok (.aload_n 0, 1) := by decide +kernel
theorem dX12_nameOn_52 : decode cX12_nameOn 52 = .ok (.iload_n 1, 1) := by decide +kernel
theorem dX12_nameOn_53 : decode cX12_nameOn 53 = .ok (.iload_n 3, 1) := by decide +kernel
theorem dX12_nameOn_54 : decode cX12_nameOn 54 = .ok (.ifCond .eq 7, 3) := by decide +kernel
theorem dX12_nameOn_57 : decode cX12_nameOn 57 = .ok (.iconst 0, 1) := by decide +kernel
theorem dX12_nameOn_58 : decode cX12_nameOn 58 = .ok (.goto 10, 3) := by decide +kernel
theorem dX12_nameOn_61 : decode cX12_nameOn 61 = .ok (.aload_n 0, 1) := by decide +kernel
theorem dX12_nameOn_62 : decode cX12_nameOn 62 = .ok (.getfield 14, 3) := by decide +kernel
theorem dX12_nameOn_65 : decode cX12_nameOn 65 = .ok (.iload 4, 2) := by decide +kernel
theorem dX12_nameOn_67 : decode cX12_nameOn 67 = .ok (.iaload, 1) := by decide +kernel
theorem dX12_nameOn_68 : decode cX12_nameOn 68 = .ok (.iload_n 3, 1) := by decide +kernel
theorem dX12_nameOn_69 : decode cX12_nameOn 69 = .ok (.ifCond .eq 7, 3) := by decide +kernel
theorem dX12_nameOn_72 : decode cX12_nameOn 72 = .ok (.iconst 0, 1) := by decide +kernel
theorem dX12_nameOn_73 : decode cX12_nameOn 73 = .ok (.goto 10, 3) := by decide +kernel
theorem dX12_nameOn_76 : decode cX12_nameOn 76 = .ok (.aload_n 0, 1) := by decide +kernel
theorem dX12_nameOn_77 : decode cX12_nameOn 77 = .ok (.getfield 18, 3) := by decide +kernel
theorem dX12_nameOn_80 : decode cX12_nameOn 80 = .ok (.iload 4, 2) := by decide +kernel
theorem dX12_nameOn_82 : decode cX12_nameOn 82 = .ok (.iaload, 1) := by decide +kernel
theorem dX12_nameOn_83 : decode cX12_nameOn 83 = .ok (.iload_n 3, 1) := by decide +kernel
theorem dX12_nameOn_84 : decode cX12_nameOn 84 = .ok (.ifCond .eq 7, 3) := by decide +kernel
theorem dX12_nameOn_87 : decode cX12_nameOn 87 = .ok (.iconst 0, 1) := by decide +kernel
theorem dX12_nameOn_88 : decode cX12_nameOn 88 = .ok (.goto 9, 3) := by decide +kernel
theorem dX12_nameOn_91 : decode cX12_nameOn 91 = .ok (.aload_n 0, 1) := by decide +kernel
theorem dX12_nameOn_92 : decode cX12_nameOn 92 = .ok (.getfield 170, 3) := by decide +kernel
theorem dX12_nameOn_95 : decode cX12_nameOn 95 = .ok (.iload_n 2, 1) := by decide +kernel
theorem dX12_nameOn_96 : decode cX12_nameOn 96 = .ok (.iaload, 1) := by decide +kernel
theorem dX12_nameOn_97 : decode cX12_nameOn 97 = .ok (.iload_n 2, 1) := by decide +kernel
theorem dX12_nameOn_98 : decode cX12_nameOn 98 = .ok (.invokevirtual 37, 3) := by decide +kernel
theorem dX12_nameOn_101 : decode cX12_nameOn 101 = .ok (.return_, 1) := by decide +kernel
theorem dX12_mayLie_0 : decode cX12_mayLie 0 = .ok (.aload_n 0, 1) := by decide +kernel
theorem dX12_mayLie_1 : decode cX12_mayLie 1 = .ok (.getfield 170, 3) := by decide +kernel
theorem dX12_mayLie_4 : decode cX12_mayLie 4 = .ok (.iload_n 2, 1) := by decide +kernel
theorem dX12_mayLie_5 : decode cX12_mayLie 5 = .ok (.iaload, 1) := by decide +kernel
theorem dX12_mayLie_6 : decode cX12_mayLie 6 = .ok (.aload_n 0, 1) := by decide +kernel
theorem dX12_mayLie_7 : decode cX12_mayLie 7 = .ok (.getfield 31, 3) := by decide +kernel
theorem dX12_mayLie_10 : decode cX12_mayLie 10 = .ok (.if_icmp .lt 5, 3) := by decide +kernel
theorem dX12_mayLie_13 : decode cX12_mayLie 13 = .ok (.iconst 0, 1) := by decide +kernel
theorem dX12_mayLie_14 : decode cX12_mayLie 14 = .ok (.ireturn, 1) := by decide +kernel
theorem dX12_mayLie_15 : decode cX12_mayLie 15 = .ok (.aload_n 0, 1) := by decide +kernel
theorem dX12_mayLie_16 : decode cX12_mayLie 16 = .ok (.iload_n 1, 1) := by decide +kernel
theorem dX12_mayLie_17 : decode cX12_mayLie 17 = .ok (.iload_n 2, 1) := by decide +kernel
theorem dX12_mayLie_18 : decode cX12_mayLie 18 = .ok (.invokevirtual 228, 3) := by decide +kernel
theorem dX12_mayLie_21 : decode cX12_mayLie 21 = .ok (.aload_n 0, 1) := by decide +kernel
theorem dX12_mayLie_22 : decode cX12_mayLie 22 = .ok (.getfield 170, 3) := by decide +kernel
theorem dX12_mayLie_25 : decode cX12_mayLie 25 = .ok (.iload_n 2, 1) := by decide +kernel
theorem dX12_mayLie_26 : decode cX12_mayLie 26 = .ok (.iaload, 1) := by decide +kernel
theorem dX12_mayLie_27 : decode cX12_mayLie 27 = .ok (.ifCond .eq 11, 3) := by decide +kernel
theorem dX12_mayLie_30 : decode cX12_mayLie 30 = .ok (.aload_n 0, 1) := by decide +kernel
theorem dX12_mayLie_31 : decode cX12_mayLie 31 = .ok (.iconst 0, 1) := by decide +kernel
theorem dX12_mayLie_32 : decode cX12_mayLie 32 = .ok (.invokevirtual 41, 3) := by decide +kernel
theorem dX12_mayLie_35 : decode cX12_mayLie 35 = .ok (.ifCond .eq 7, 3) := by decide +kernel
theorem dX12_mayLie_38 : decode cX12_mayLie 38 = .ok (.iconst 1, 1) := by decide +kernel
theorem dX12_mayLie_39 : decode cX12_mayLie 39 = .ok (.goto 4, 3) := by decide +kernel
theorem dX12_mayLie_42 : decode cX12_mayLie 42 = .ok (.iconst 0, 1) := by decide +kernel
theorem dX12_mayLie_43 : decode cX12_mayLie 43 = .ok (.ireturn, 1) := by decide +kernel
theorem dX12_put_0 : decode cX12_put 0 = .ok (.iload_n 2, 1) := by decide +kernel
theorem dX12_put_1 : decode cX12_put 1 = .ok (.aload_n 0, 1) := by decide +kernel
theorem dX12_put_2 : decode cX12_put 2 = .ok (.getfield 225, 3) := by decide +kernel
theorem dX12_put_5 : decode cX12_put 5 = .ok (.if_icmp .ne 20, 3) := by decide +kernel
theorem dX12_put_8 : decode cX12_put 8 = .ok (.aload_n 0, 1) := by decide +kernel
theorem dX12_put_9 : decode cX12_put 9 = .ok (.getfield 170, 3) := by decide +kernel
theorem dX12_put_12 : decode cX12_put 12 = .ok (.iload_n 2, 1) := by decide +kernel
theorem dX12_put_13 : decode cX12_put 13 = .ok (.iconst 0, 1) := by decide +kernel
theorem dX12_put_14 : decode cX12_put 14 = .ok (.iastore, 1) := by decide +kernel
theorem dX12_put_15 : decode cX12_put 15 = .ok (.aload_n 0, 1) := by decide +kernel
theorem dX12_put_16 : decode cX12_put 16 = .ok (.dup, 1) := by decide +kernel
theorem dX12_put_17 : decode cX12_put 17 = .ok (.getfield 225, 3) := by decide +kernel
theorem dX12_put_20 : decode cX12_put 20 = .ok (.iconst 1, 1) := by decide +kernel
theorem dX12_put_21 : decode cX12_put 21 = .ok (.iadd, 1) := by decide +kernel
theorem dX12_put_22 : decode cX12_put 22 = .ok (.putfield 225, 3) := by decide +kernel
theorem dX12_put_25 : decode cX12_put 25 = .ok (.aload_n 0, 1) := by decide +kernel
theorem dX12_put_26 : decode cX12_put 26 = .ok (.getfield 173, 3) := by decide +kernel
theorem dX12_put_29 : decode cX12_put 29 = .ok (.bipush 8, 2) := by decide +kernel
theorem dX12_put_31 : decode cX12_put 31 = .ok (.iload_n 2, 1) := by decide +kernel
theorem dX12_put_32 : decode cX12_put 32 = .ok (.imul, 1) := by decide +kernel
theorem dX12_put_33 : decode cX12_put 33 = .ok (.aload_n 0, 1) := by decide +kernel
theorem dX12_put_34 : decode cX12_put 34 = .ok (.getfield 170, 3) := by decide +kernel
theorem dX12_put_37 : decode cX12_put 37 = .ok (.iload_n 2, 1) := by decide +kernel
theorem dX12_put_38 : decode cX12_put 38 = .ok (.iaload, 1) := by decide +kernel
theorem dX12_put_39 : decode cX12_put 39 = .ok (.iadd, 1) := by decide +kernel
theorem dX12_put_40 : decode cX12_put 40 = .ok (.iload_n 1, 1) := by decide +kernel
theorem dX12_put_41 : decode cX12_put 41 = .ok (.iastore, 1) := by decide +kernel
theorem dX12_put_42 : decode cX12_put 42 = .ok (.aload_n 0, 1) := by decide +kernel
theorem dX12_put_43 : decode cX12_put 43 = .ok (.getfield 170, 3) := by decide +kernel
theorem dX12_put_46 : decode cX12_put 46 = .ok (.iload_n 2, 1) := by decide +kernel
theorem dX12_put_47 : decode cX12_put 47 = .ok (.dup2, 1) := by decide +kernel
theorem dX12_put_48 : decode cX12_put 48 = .ok (.iaload, 1) := by decide +kernel
theorem dX12_put_49 : decode cX12_put 49 = .ok (.iconst 1, 1) := by decide +kernel
theorem dX12_put_50 : decode cX12_put 50 = .ok (.iadd, 1) := by decide +kernel
theorem dX12_put_51 : decode cX12_put 51 = .ok (.iastore, 1) := by decide +kernel
theorem dX12_put_52 : decode cX12_put 52 = .ok (.return_, 1) := by decide +kernel
theorem dX12_putBack_0 : decode cX12_putBack 0 = .ok (.aload_n 0, 1) := by decide +kernel
theorem dX12_putBack_1 : decode cX12_putBack 1 = .ok (.getfield 170, 3) := by decide +kernel
theorem dX12_putBack_4 : decode cX12_putBack 4 = .ok (.iload_n 1, 1) := by decide +kernel
theorem dX12_putBack_5 : decode cX12_putBack 5 = .ok (.dup2, 1) := by decide +kernel
theorem dX12_putBack_6 : decode cX12_putBack 6 = .ok (.iaload, 1) := by decide +kernel
theorem dX12_putBack_7 : decode cX12_putBack 7 = .ok (.iconst 1, 1) := by decide +kernel
theorem dX12_putBack_8 : decode cX12_putBack 8 = .ok (.isub, 1) := by decide +kernel
theorem dX12_putBack_9 : decode cX12_putBack 9 = .ok (.iastore, 1) := by decide +kernel
theorem dX12_putBack_10 : decode cX12_putBack 10 = .ok (.aload_n 0, 1) := by decide +kernel
theorem dX12_putBack_11 : decode cX12_putBack 11 = .ok (.dup, 1) := by decide +kernel
theorem dX12_putBack_12 : decode cX12_putBack 12 = .ok (.getfield 225, 3) := by decide +kernel
theorem dX12_putBack_15 : decode cX12_putBack 15 = .ok (.iload_n 1, 1) := by decide +kernel
theorem dX12_putBack_16 : decode cX12_putBack 16 = .ok (.aload_n 0, 1) := by decide +kernel
theorem dX12_putBack_17 : decode cX12_putBack 17 = .ok (.getfield 225, 3) := by decide +kernel
theorem dX12_putBack_20 : decode cX12_putBack 20 = .ok (.iconst 1, 1) := by decide +kernel
theorem dX12_putBack_21 : decode cX12_putBack 21 = .ok (.isub, 1) := by decide +kernel
theorem dX12_putBack_22 : decode cX12_putBack 22 = .ok (.if_icmp .ne 16, 3) := by decide +kernel
theorem dX12_putBack_25 : decode cX12_putBack 25 = .ok (.aload_n 0, 1) := by decide +kernel
theorem dX12_putBack_26 : decode cX12_putBack 26 = .ok (.getfield 170, 3) := by decide +kernel
theorem dX12_putBack_29 : decode cX12_putBack 29 = .ok (.iload_n 1, 1) := by decide +kernel
theorem dX12_putBack_30 : decode cX12_putBack 30 = .ok (.iaload, 1) := by decide +kernel
theorem dX12_putBack_31 : decode cX12_putBack 31 = .ok (.ifCond .ne 7, 3) := by decide +kernel
theorem dX12_putBack_34 : decode cX12_putBack 34 = .ok (.iconst 1, 1) := by decide +kernel
theorem dX12_putBack_35 : decode cX12_putBack 35 = .ok (.goto 4, 3) := by decide +kernel
theorem dX12_putBack_38 : decode cX12_putBack 38 = .ok (.iconst 0, 1) := by decide +kernel
theorem dX12_putBack_39 : decode cX12_putBack 39 = .ok (.isub, 1) := by decide +kernel
theorem dX12_putBack_40 : decode cX12_putBack 40 = .ok (.putfield 225, 3) := by decide +kernel
theorem dX12_putBack_43 : decode cX12_putBack 43 = .ok (.return_, 1) := by decide +kernel
theorem dX12_rank__0 : decode cX12_rank_ 0 = .ok (.aload_n 0, 1) := by decide +kernel
theorem dX12_rank__1 : decode cX12_rank_ 1 = .ok (.getfield 170, 3) := by decide +kernel
theorem dX12_rank__4 : decode cX12_rank_ 4 = .ok (.iload_n 3, 1) := by decide +kernel
theorem dX12_rank__5 : decode cX12_rank_ 5 = .ok (.iaload, 1) := by decide +kernel
theorem dX12_rank__6 : decode cX12_rank_ 6 = .ok (.ifCond .ne 7, 3) := by decide +kernel
theorem dX12_rank__9 : decode cX12_rank_ 9 = .ok (.sipush 1000, 3) := by decide +kernel
theorem dX12_rank__12 : decode cX12_rank_ 12 = .ok (.ireturn, 1) := by decide +kernel
theorem dX12_rank__13 : decode cX12_rank_ 13 = .ok (.aload_n 0, 1) := by decide +kernel
theorem dX12_rank__14 : decode cX12_rank_ 14 = .ok (.getfield 14, 3) := by decide +kernel
theorem dX12_rank__17 : decode cX12_rank_ 17 = .ok (.aload_n 0, 1) := by decide +kernel
theorem dX12_rank__18 : decode cX12_rank_ 18 = .ok (.getfield 173, 3) := by decide +kernel
theorem dX12_rank__21 : decode cX12_rank_ 21 = .ok (.bipush 8, 2) := by decide +kernel
theorem dX12_rank__23 : decode cX12_rank_ 23 = .ok (.iload_n 3, 1) := by decide +kernel
theorem dX12_rank__24 : decode cX12_rank_ 24 = .ok (.imul, 1) := by decide +kernel
theorem dX12_rank__25 : decode cX12_rank_ 25 = .ok (.aload_n 0, 1) := by decide +kernel
theorem dX12_rank__26 : decode cX12_rank_ 26 = .ok (.getfield 170, 3) := by decide +kernel
theorem dX12_rank__29 : decode cX12_rank_ 29 = .ok (.iload_n 3, 1) := by decide +kernel
theorem dX12_rank__30 : decode cX12_rank_ 30 = .ok (.iaload, 1) := by decide +kernel
theorem dX12_rank__31 : decode cX12_rank_ 31 = .ok (.iadd, 1) := by decide +kernel
theorem dX12_rank__32 : decode cX12_rank_ 32 = .ok (.iconst 1, 1) := by decide +kernel
theorem dX12_rank__33 : decode cX12_rank_ 33 = .ok (.isub, 1) := by decide +kernel
theorem dX12_rank__34 : decode cX12_rank_ 34 = .ok (.iaload, 1) := by decide +kernel
theorem dX12_rank__35 : decode cX12_rank_ 35 = .ok (.iaload, 1) := by decide +kernel
theorem dX12_rank__36 : decode cX12_rank_ 36 = .ok (.istore 4, 2) := by decide +kernel
theorem dX12_rank__38 : decode cX12_rank_ 38 = .ok (.iload 4, 2) := by decide +kernel
theorem dX12_rank__40 : decode cX12_rank_ 40 = .ok (.aload_n 0, 1) := by decide +kernel
theorem dX12_rank__41 : decode cX12_rank_ 41 = .ok (.getfield 14, 3) := by decide +kernel
theorem dX12_rank__44 : decode cX12_rank_ 44 = .ok (.iload_n 2, 1) := by decide +kernel
theorem dX12_rank__45 : decode cX12_rank_ 45 = .ok (.iaload, 1) := by decide +kernel
theorem dX12_rank__46 : decode cX12_rank_ 46 = .ok (.isub, 1) := by decide +kernel
theorem dX12_rank__47 : decode cX12_rank_ 47 = .ok (.invokestatic 232, 3) := by decide +kernel
theorem dX12_rank__50 : decode cX12_rank_ 50 = .ok (.aload_n 0, 1) := by decide +kernel
theorem dX12_rank__51 : decode cX12_rank_ 51 = .ok (.getfield 24, 3) := by decide +kernel
theorem dX12_rank__54 : decode cX12_rank_ 54 = .ok (.iload_n 1, 1) := by decide +kernel
theorem dX12_rank__55 : decode cX12_rank_ 55 = .ok (.iaload, 1) := by decide +kernel
theorem dX12_rank__56 : decode cX12_rank_ 56 = .ok (.iadd, 1) := by decide +kernel
theorem dX12_rank__57 : decode cX12_rank_ 57 = .ok (.istore 5, 2) := by decide +kernel
theorem dX12_rank__59 : decode cX12_rank_ 59 = .ok (.aload_n 0, 1) := by decide +kernel
theorem dX12_rank__60 : decode cX12_rank_ 60 = .ok (.getfield 21, 3) := by decide +kernel
theorem dX12_rank__63 : decode cX12_rank_ 63 = .ok (.iload_n 1, 1) := by decide +kernel
theorem dX12_rank__64 : decode cX12_rank_ 64 = .ok (.iaload, 1) := by decide +kernel
theorem dX12_rank__65 : decode cX12_rank_ 65 = .ok (.tableswitch 67 0 4 #[35, 38, 41, 43, 56], 35) := by decide +kernel
theorem dX12_rank__100 : decode cX12_rank_ 100 = .ok (.iload 4, 2) := by decide +kernel
theorem dX12_rank__102 : decode cX12_rank_ 102 = .ok (.ireturn, 1) := by decide +kernel
theorem dX12_rank__103 : decode cX12_rank_ 103 = .ok (.iload 5, 2) := by decide +kernel
theorem dX12_rank__105 : decode cX12_rank_ 105 = .ok (.ireturn, 1) := by decide +kernel
theorem dX12_rank__106 : decode cX12_rank_ 106 = .ok (.iload_n 3, 1) := by decide +kernel
theorem dX12_rank__107 : decode cX12_rank_ 107 = .ok (.ireturn, 1) := by decide +kernel
theorem dX12_rank__108 : decode cX12_rank_ 108 = .ok (.iload 5, 2) := by decide +kernel
theorem dX12_rank__110 : decode cX12_rank_ 110 = .ok (.bipush 10, 2) := by decide +kernel
theorem dX12_rank__112 : decode cX12_rank_ 112 = .ok (.aload_n 0, 1) := by decide +kernel
theorem dX12_rank__113 : decode cX12_rank_ 113 = .ok (.getfield 170, 3) := by decide +kernel
theorem dX12_rank__116 : decode cX12_rank_ 116 = .ok (.iload_n 3, 1) := by decide +kernel
theorem dX12_rank__117 : decode cX12_rank_ 117 = .ok (.iaload, 1) := by decide +kernel
theorem dX12_rank__118 : decode cX12_rank_ 118 = .ok (.imul, 1) := by decide +kernel
theorem dX12_rank__119 : decode cX12_rank_ 119 = .ok (.iadd, 1) := by decide +kernel
theorem dX12_rank__120 : decode cX12_rank_ 120 = .ok (.ireturn, 1) := by decide +kernel
theorem dX12_rank__121 : decode cX12_rank_ 121 = .ok (.iload_n 3, 1) := by decide +kernel
theorem dX12_rank__122 : decode cX12_rank_ 122 = .ok (.aload_n 0, 1) := by decide +kernel
theorem dX12_rank__123 : decode cX12_rank_ 123 = .ok (.getfield 24, 3) := by decide +kernel
theorem dX12_rank__126 : decode cX12_rank_ 126 = .ok (.iload_n 1, 1) := by decide +kernel
theorem dX12_rank__127 : decode cX12_rank_ 127 = .ok (.iaload, 1) := by decide +kernel
theorem dX12_rank__128 : decode cX12_rank_ 128 = .ok (.iadd, 1) := by decide +kernel
theorem dX12_rank__129 : decode cX12_rank_ 129 = .ok (.iconst 4, 1) := by decide +kernel
theorem dX12_rank__130 : decode cX12_rank_ 130 = .ok (.irem, 1) := by decide +kernel
theorem dX12_rank__131 : decode cX12_rank_ 131 = .ok (.ireturn, 1) := by decide +kernel
theorem dX12_rank__132 : decode cX12_rank_ 132 = .ok (.bipush 100, 2) := by decide +kernel
theorem dX12_rank__134 : decode cX12_rank_ 134 = .ok (.iload 5, 2) := by decide +kernel
theorem dX12_rank__136 : decode cX12_rank_ 136 = .ok (.isub, 1) := by decide +kernel
theorem dX12_rank__137 : decode cX12_rank_ 137 = .ok (.ireturn, 1) := by decide +kernel
theorem dX12_likes_0 : decode cX12_likes 0 = .ok (.aload_n 0, 1) := by decide +kernel
theorem dX12_likes_1 : decode cX12_likes 1 = .ok (.getfield 21, 3) := by decide +kernel
theorem dX12_likes_4 : decode cX12_likes 4 = .ok (.iload_n 1, 1) := by decide +kernel
theorem dX12_likes_5 : decode cX12_likes 5 = .ok (.iaload, 1) := by decide +kernel
theorem dX12_likes_6 : decode cX12_likes 6 = .ok (.tableswitch 87 1 5 #[34, 87, 34, 46, 67], 34) := by decide +kernel
theorem dX12_likes_40 : decode cX12_likes 40 = .ok (.iload_n 2, 1) := by decide +kernel
theorem dX12_likes_41 : decode cX12_likes 41 = .ok (.bipush 50, 2) := by decide +kernel
theorem dX12_likes_43 : decode cX12_likes 43 = .ok (.if_icmp .le 7, 3) := by decide +kernel
theorem dX12_likes_46 : decode cX12_likes 46 = .ok (.iconst 1, 1) := by decide +kernel
theorem dX12_likes_47 : decode cX12_likes 47 = .ok (.goto 4, 3) := by decide +kernel
theorem dX12_likes_50 : decode cX12_likes 50 = .ok (.iconst 0, 1) := by decide +kernel
theorem dX12_likes_51 : decode cX12_likes 51 = .ok (.ireturn, 1) := by decide +kernel
theorem dX12_likes_52 : decode cX12_likes 52 = .ok (.aload_n 0, 1) := by decide +kernel
theorem dX12_likes_53 : decode cX12_likes 53 = .ok (.getfield 225, 3) := by decide +kernel
theorem dX12_likes_56 : decode cX12_likes 56 = .ok (.aload_n 0, 1) := by decide +kernel
theorem dX12_likes_57 : decode cX12_likes 57 = .ok (.getfield 24, 3) := by decide +kernel
theorem dX12_likes_60 : decode cX12_likes 60 = .ok (.iload_n 1, 1) := by decide +kernel
theorem dX12_likes_61 : decode cX12_likes 61 = .ok (.iaload, 1) := by decide +kernel
theorem dX12_likes_62 : decode cX12_likes 62 = .ok (.iconst 3, 1) := by decide +kernel
theorem dX12_likes_63 : decode cX12_likes 63 = .ok (.irem, 1) := by decide +kernel
theorem dX12_likes_64 : decode cX12_likes 64 = .ok (.if_icmp .ge 7, 3) := by decide +kernel
theorem dX12_likes_67 : decode cX12_likes 67 = .ok (.iconst 1, 1) := by decide +kernel
theorem dX12_likes_68 : decode cX12_likes 68 = .ok (.goto 4, 3) := by decide +kernel
theorem dX12_likes_71 : decode cX12_likes 71 = .ok (.iconst 0, 1) := by decide +kernel
theorem dX12_likes_72 : decode cX12_likes 72 = .ok (.ireturn, 1) := by decide +kernel
theorem dX12_likes_73 : decode cX12_likes 73 = .ok (.iload_n 2, 1) := by decide +kernel
theorem dX12_likes_74 : decode cX12_likes 74 = .ok (.bipush 50, 2) := by decide +kernel
theorem dX12_likes_76 : decode cX12_likes 76 = .ok (.if_icmp .gt 11, 3) := by decide +kernel
theorem dX12_likes_79 : decode cX12_likes 79 = .ok (.aload_n 0, 1) := by decide +kernel
theorem dX12_likes_80 : decode cX12_likes 80 = .ok (.getfield 225, 3) := by decide +kernel
theorem dX12_likes_83 : decode cX12_likes 83 = .ok (.iconst 1, 1) := by decide +kernel
theorem dX12_likes_84 : decode cX12_likes 84 = .ok (.if_icmp .ne 7, 3) := by decide +kernel
theorem dX12_likes_87 : decode cX12_likes 87 = .ok (.iconst 1, 1) := by decide +kernel
theorem dX12_likes_88 : decode cX12_likes 88 = .ok (.goto 4, 3) := by decide +kernel
theorem dX12_likes_91 : decode cX12_likes 91 = .ok (.iconst 0, 1) := by decide +kernel
theorem dX12_likes_92 : decode cX12_likes 92 = .ok (.ireturn, 1) := by decide +kernel
theorem dX12_likes_93 : decode cX12_likes 93 = .ok (.iconst 0, 1) := by decide +kernel
theorem dX12_likes_94 : decode cX12_likes 94 = .ok (.ireturn, 1) := by decide +kernel
theorem dX12_choice_0 : decode cX12_choice 0 = .ok (.iconst (-1), 1) := by decide +kernel
theorem dX12_choice_1 : decode cX12_choice 1 = .ok (.istore_n 3, 1) := by decide +kernel
theorem dX12_choice_2 : decode cX12_choice 2 = .ok (.iconst 0, 1) := by decide +kernel
theorem dX12_choice_3 : decode cX12_choice 3 = .ok (.istore 4, 2) := by decide +kernel
theorem dX12_choice_5 : decode cX12_choice 5 = .ok (.iconst 0, 1) := by decide +kernel
theorem dX12_choice_6 : decode cX12_choice 6 = .ok (.istore 5, 2) := by decide +kernel
theorem dX12_choice_8 : decode cX12_choice 8 = .ok (.iload 5, 2) := by decide +kernel
theorem dX12_choice_10 : decode cX12_choice 10 = .ok (.aload_n 0, 1) := by decide +kernel
theorem dX12_choice_11 : decode cX12_choice 11 = .ok (.getfield 225, 3) := by decide +kernel
theorem dX12_choice_14 : decode cX12_choice 14 = .ok (.if_icmp .ge 48, 3) := by decide +kernel
theorem dX12_choice_17 : decode cX12_choice 17 = .ok (.aload_n 0, 1) := by decide +kernel
theorem dX12_choice_18 : decode cX12_choice 18 = .ok (.iload_n 2, 1) := by decide +kernel
theorem dX12_choice_19 : decode cX12_choice 19 = .ok (.iload 5, 2) := by decide +kernel
theorem dX12_choice_21 : decode cX12_choice 21 = .ok (.invokevirtual 237, 3) := by decide +kernel
theorem dX12_choice_24 : decode cX12_choice 24 = .ok (.ifCond .eq 32, 3) := by decide +kernel
theorem dX12_choice_27 : decode cX12_choice 27 = .ok (.aload_n 0, 1) := by decide +kernel
theorem dX12_choice_28 : decode cX12_choice 28 = .ok (.iload_n 1, 1) := by decide +kernel
theorem dX12_choice_29 : decode cX12_choice 29 = .ok (.iload_n 2, 1) := by decide +kernel
theorem dX12_choice_30 : decode cX12_choice 30 = .ok (.iload 5, 2) := by decide +kernel
theorem dX12_choice_32 : decode cX12_choice 32 = .ok (.invokevirtual 241, 3) := by decide +kernel
theorem dX12_choice_35 : decode cX12_choice 35 = .ok (.istore 6, 2) := by decide +kernel
theorem dX12_choice_37 : decode cX12_choice 37 = .ok (.iload_n 3, 1) := by decide +kernel
theorem dX12_choice_38 : decode cX12_choice 38 = .ok (.iconst (-1), 1) := by decide +kernel
theorem dX12_choice_39 : decode cX12_choice 39 = .ok (.if_icmp .eq 10, 3) := by decide +kernel
theorem dX12_choice_42 : decode cX12_choice 42 = .ok (.iload 6, 2) := by decide +kernel
theorem dX12_choice_44 : decode cX12_choice 44 = .ok (.iload 4, 2) := by decide +kernel
theorem dX12_choice_46 : decode cX12_choice 46 = .ok (.if_icmp .ge 10, 3) := by decide +kernel
theorem dX12_choice_49 : decode cX12_choice 49 = .ok (.iload 5, 2) := by decide +kernel
theorem dX12_choice_51 : decode cX12_choice 51 = .ok (.istore_n 3, 1) := by decide +kernel
theorem dX12_choice_52 : decode cX12_choice 52 = .ok (.iload 6, 2) := by decide +kernel
theorem dX12_choice_54 : decode cX12_choice 54 = .ok (.istore 4, 2) := by decide +kernel
theorem dX12_choice_56 : decode cX12_choice 56 = .ok (.iinc 5 1, 3) := by decide +kernel
theorem dX12_choice_59 : decode cX12_choice 59 = .ok (.goto (-51), 3) := by decide +kernel
theorem dX12_choice_62 : decode cX12_choice 62 = .ok (.iload_n 3, 1) := by decide +kernel
theorem dX12_choice_63 : decode cX12_choice 63 = .ok (.iconst (-1), 1) := by decide +kernel
theorem dX12_choice_64 : decode cX12_choice 64 = .ok (.if_icmp .eq 13, 3) := by decide +kernel
theorem dX12_choice_67 : decode cX12_choice 67 = .ok (.aload_n 0, 1) := by decide +kernel
theorem dX12_choice_68 : decode cX12_choice 68 = .ok (.iload_n 1, 1) := by decide +kernel
theorem dX12_choice_69 : decode cX12_choice 69 = .ok (.iload 4, 2) := by decide +kernel
theorem dX12_choice_71 : decode cX12_choice 71 = .ok (.invokevirtual 243, 3) := by decide +kernel
theorem dX12_choice_74 : decode cX12_choice 74 = .ok (.ifCond .eq 10, 3) := by decide +kernel
theorem dX12_choice_77 : decode cX12_choice 77 = .ok (.aload_n 0, 1) := by decide +kernel
theorem dX12_choice_78 : decode cX12_choice 78 = .ok (.getfield 225, 3) := by decide +kernel
theorem dX12_choice_81 : decode cX12_choice 81 = .ok (.goto 4, 3) := by decide +kernel
theorem dX12_choice_84 : decode cX12_choice 84 = .ok (.iload_n 3, 1) := by decide +kernel
theorem dX12_choice_85 : decode cX12_choice 85 = .ok (.ireturn, 1) := by decide +kernel
theorem dX12_layAll_0 : decode cX12_layAll 0 = .ok (.aload_n 0, 1) := by decide +kernel
theorem dX12_layAll_1 : decode cX12_layAll 1 = .ok (.iconst 0, 1) := by decide +kernel
theorem dX12_layAll_2 : decode cX12_layAll 2 = .ok (.putfield 225, 3) := by decide +kernel
theorem dX12_layAll_5 : decode cX12_layAll 5 = .ok (.aload_n 0, 1) := by decide +kernel
theorem dX12_layAll_6 : decode cX12_layAll 6 = .ok (.iconst 0, 1) := by decide +kernel
theorem dX12_layAll_7 : decode cX12_layAll 7 = .ok (.putfield 246, 3) := by decide +kernel
theorem dX12_layAll_10 : decode cX12_layAll 10 = .ok (.iconst 0, 1) := by decide +kernel
theorem dX12_layAll_11 : decode cX12_layAll 11 = .ok (.istore_n 2, 1) := by decide +kernel
theorem dX12_layAll_12 : decode cX12_layAll 12 = .ok (.iload_n 2, 1) := by decide +kernel
theorem dX12_layAll_13 : decode cX12_layAll 13 = .ok (.aload_n 0, 1) := by decide +kernel
theorem dX12_layAll_14 : decode cX12_layAll 14 = .ok (.getfield 1, 3) := by decide +kernel
theorem dX12_layAll_17 : decode cX12_layAll 17 = .ok (.if_icmp .ge 102, 3) := by decide +kernel
theorem dX12_layAll_20 : decode cX12_layAll 20 = .ok (.aload_n 0, 1) := by decide +kernel
theorem dX12_layAll_21 : decode cX12_layAll 21 = .ok (.getfield 176, 3) := by decide +kernel
theorem dX12_layAll_24 : decode cX12_layAll 24 = .ok (.iload_n 2, 1) := by decide +kernel
theorem dX12_layAll_25 : decode cX12_layAll 25 = .ok (.iaload, 1) := by decide +kernel
theorem dX12_layAll_26 : decode cX12_layAll 26 = .ok (.istore_n 3, 1) := by decide +kernel
theorem dX12_layAll_27 : decode cX12_layAll 27 = .ok (.aload_n 0, 1) := by decide +kernel
theorem dX12_layAll_28 : decode cX12_layAll 28 = .ok (.iload_n 1, 1) := by decide +kernel
theorem dX12_layAll_29 : decode cX12_layAll 29 = .ok (.iload_n 3, 1) := by decide +kernel
theorem dX12_layAll_30 : decode cX12_layAll 30 = .ok (.invokevirtual 249, 3) := by decide +kernel
theorem dX12_layAll_33 : decode cX12_layAll 33 = .ok (.istore 4, 2) := by decide +kernel
theorem dX12_layAll_35 : decode cX12_layAll 35 = .ok (.aload_n 0, 1) := by decide +kernel
theorem dX12_layAll_36 : decode cX12_layAll 36 = .ok (.iload_n 3, 1) := by decide +kernel
theorem dX12_layAll_37 : decode cX12_layAll 37 = .ok (.iload 4, 2) := by decide +kernel
theorem dX12_layAll_39 : decode cX12_layAll 39 = .ok (.invokevirtual 228, 3) := by decide +kernel
theorem dX12_layAll_42 : decode cX12_layAll 42 = .ok (.aload_n 0, 1) := by decide +kernel
theorem dX12_layAll_43 : decode cX12_layAll 43 = .ok (.dup, 1) := by decide +kernel
theorem dX12_layAll_44 : decode cX12_layAll 44 = .ok (.getfield 246, 3) := by decide +kernel
theorem dX12_layAll_47 : decode cX12_layAll 47 = .ok (.aload_n 0, 1) := by decide +kernel
theorem dX12_layAll_48 : decode cX12_layAll 48 = .ok (.iconst 1, 1) := by decide +kernel
theorem dX12_layAll_49 : decode cX12_layAll 49 = .ok (.invokevirtual 41, 3) := by decide +kernel
theorem dX12_layAll_52 : decode cX12_layAll 52 = .ok (.invokestatic 45, 3) := by decide +kernel
theorem dX12_layAll_55 : decode cX12_layAll 55 = .ok (.iadd, 1) := by decide +kernel
theorem dX12_layAll_56 : decode cX12_layAll 56 = .ok (.putfield 246, 3) := by decide +kernel
theorem dX12_layAll_59 : decode cX12_layAll 59 = .ok (.aload_n 0, 1) := by decide +kernel
theorem dX12_layAll_60 : decode cX12_layAll 60 = .ok (.getfield 179, 3) := by decide +kernel
theorem dX12_layAll_63 : decode cX12_layAll 63 = .ok (.iload_n 3, 1) := by decide +kernel
theorem dX12_layAll_64 : decode cX12_layAll 64 = .ok (.iload 4, 2) := by decide +kernel
theorem dX12_layAll_66 : decode cX12_layAll 66 = .ok (.iastore, 1) := by decide +kernel
theorem dX12_layAll_67 : decode cX12_layAll 67 = .ok (.aload_n 0, 1) := by decide +kernel
theorem dX12_layAll_68 : decode cX12_layAll 68 = .ok (.getfield 182, 3) := by decide +kernel
theorem dX12_layAll_71 : decode cX12_layAll 71 = .ok (.iload_n 3, 1) := by decide +kernel
theorem dX12_layAll_72 : decode cX12_layAll 72 = .ok (.iload 4, 2) := by decide +kernel
theorem dX12_layAll_74 : decode cX12_layAll 74 = .ok (.aload_n 0, 1) := by decide +kernel
theorem dX12_layAll_75 : decode cX12_layAll 75 = .ok (.getfield 225, 3) := by decide +kernel
theorem dX12_layAll_78 : decode cX12_layAll 78 = .ok (.if_icmp .ne 7, 3) := by decide +kernel
theorem dX12_layAll_81 : decode cX12_layAll 81 = .ok (.iconst (-1), 1) := by decide +kernel
theorem dX12_layAll_82 : decode cX12_layAll 82 = .ok (.goto 23, 3) := by decide +kernel
theorem dX12_layAll_85 : decode cX12_layAll 85 = .ok (.aload_n 0, 1) := by decide +kernel
theorem dX12_layAll_86 : decode cX12_layAll 86 = .ok (.getfield 173, 3) := by decide +kernel
theorem dX12_layAll_89 : decode cX12_layAll 89 = .ok (.bipush 8, 2) := by decide +kernel
theorem dX12_layAll_91 : decode cX12_layAll 91 = .ok (.iload 4, 2) := by decide +kernel
theorem dX12_layAll_93 : decode cX12_layAll 93 = .ok (.imul, 1) := by decide +kernel
theorem dX12_layAll_94 : decode cX12_layAll 94 = .ok (.aload_n 0, 1) := by decide +kernel
theorem dX12_layAll_95 : decode cX12_layAll 95 = .ok (.getfield 170, 3) := by decide +kernel
theorem dX12_layAll_98 : decode cX12_layAll 98 = .ok (.iload 4, 2) := by decide +kernel
theorem dX12_layAll_100 : decode cX12_layAll 100 = .ok (.iaload, 1) := by decide +kernel
theorem dX12_layAll_101 : decode cX12_layAll 101 = .ok (.iadd, 1) := by decide +kernel
theorem dX12_layAll_102 : decode cX12_layAll 102 = .ok (.iconst 1, 1) := by decide +kernel
theorem dX12_layAll_103 : decode cX12_layAll 103 = .ok (.isub, 1) := by decide +kernel
theorem dX12_layAll_104 : decode cX12_layAll 104 = .ok (.iaload, 1) := by decide +kernel
theorem dX12_layAll_105 : decode cX12_layAll 105 = .ok (.iastore, 1) := by decide +kernel
theorem dX12_layAll_106 : decode cX12_layAll 106 = .ok (.aload_n 0, 1) := by decide +kernel
theorem dX12_layAll_107 : decode cX12_layAll 107 = .ok (.iload_n 3, 1) := by decide +kernel
theorem dX12_layAll_108 : decode cX12_layAll 108 = .ok (.iload 4, 2) := by decide +kernel
theorem dX12_layAll_110 : decode cX12_layAll 110 = .ok (.invokevirtual 253, 3) := by decide +kernel
theorem dX12_layAll_113 : decode cX12_layAll 113 = .ok (.iinc 2 1, 3) := by decide +kernel
theorem dX12_layAll_116 : decode cX12_layAll 116 = .ok (.goto (-104), 3) := by decide +kernel
theorem dX12_layAll_119 : decode cX12_layAll 119 = .ok (.return_, 1) := by decide +kernel
theorem dX12_asTheyCame_0 : decode cX12_asTheyCame 0 = .ok (.iconst 0, 1) := by decide +kernel
theorem dX12_asTheyCame_1 : decode cX12_asTheyCame 1 = .ok (.istore_n 1, 1) := by decide +kernel
theorem dX12_asTheyCame_2 : decode cX12_asTheyCame 2 = .ok (.iload_n 1, 1) := by decide +kernel
theorem dX12_asTheyCame_3 : decode cX12_asTheyCame 3 = .ok (.bipush 8, 2) := by decide +kernel
theorem dX12_asTheyCame_5 : decode cX12_asTheyCame 5 = .ok (.if_icmp .ge 16, 3) := by decide +kernel
theorem dX12_asTheyCame_8 : decode cX12_asTheyCame 8 = .ok (.aload_n 0, 1) := by decide +kernel
theorem dX12_asTheyCame_9 : decode cX12_asTheyCame 9 = .ok (.getfield 176, 3) := by decide +kernel
theorem dX12_asTheyCame_12 : decode cX12_asTheyCame 12 = .ok (.iload_n 1, 1) := by decide +kernel
theorem dX12_asTheyCame_13 : decode cX12_asTheyCame 13 = .ok (.iload_n 1, 1) := by decide +kernel
theorem dX12_asTheyCame_14 : decode cX12_asTheyCame 14 = .ok (.iastore, 1) := by decide +kernel
theorem dX12_asTheyCame_15 : decode cX12_asTheyCame 15 = .ok (.iinc 1 1, 3) := by decide +kernel
theorem dX12_asTheyCame_18 : decode cX12_asTheyCame 18 = .ok (.goto (-16), 3) := by decide +kernel
theorem dX12_asTheyCame_21 : decode cX12_asTheyCame 21 = .ok (.return_, 1) := by decide +kernel
theorem dX12_by_0 : decode cX12_by 0 = .ok (.aload_n 0, 1) := by decide +kernel
theorem dX12_by_1 : decode cX12_by 1 = .ok (.iload_n 1, 1) := by decide +kernel
theorem dX12_by_2 : decode cX12_by 2 = .ok (.invokevirtual 34, 3) := by decide +kernel
theorem dX12_by_5 : decode cX12_by 5 = .ok (.ifCond .eq 12, 3) := by decide +kernel
theorem dX12_by_8 : decode cX12_by 8 = .ok (.iload_n 2, 1) := by decide +kernel
theorem dX12_by_9 : decode cX12_by 9 = .ok (.iconst 0, 1) := by decide +kernel
theorem dX12_by_10 : decode cX12_by 10 = .ok (.iconst 1, 1) := by decide +kernel
theorem dX12_by_11 : decode cX12_by 11 = .ok (.invokestatic 7, 3) := by decide +kernel
theorem dX12_by_14 : decode cX12_by 14 = .ok (.ifCond .ne 6, 3) := by decide +kernel
theorem dX12_by_17 : decode cX12_by 17 = .ok (.bipush (-2), 2) := by decide +kernel
theorem dX12_by_19 : decode cX12_by 19 = .ok (.ireturn, 1) := by decide +kernel
theorem dX12_by_20 : decode cX12_by 20 = .ok (.aload_n 0, 1) := by decide +kernel
theorem dX12_by_21 : decode cX12_by 21 = .ok (.iload_n 1, 1) := by decide +kernel
theorem dX12_by_22 : decode cX12_by 22 = .ok (.invokevirtual 256, 3) := by decide +kernel
theorem dX12_by_25 : decode cX12_by 25 = .ok (.iload_n 2, 1) := by decide +kernel
theorem dX12_by_26 : decode cX12_by 26 = .ok (.ifCond .ne 10, 3) := by decide +kernel
theorem dX12_by_29 : decode cX12_by 29 = .ok (.aload_n 0, 1) := by decide +kernel
theorem dX12_by_30 : decode cX12_by 30 = .ok (.getfield 225, 3) := by decide +kernel
theorem dX12_by_33 : decode cX12_by 33 = .ok (.goto 7, 3) := by decide +kernel
theorem dX12_by_36 : decode cX12_by 36 = .ok (.aload_n 0, 1) := by decide +kernel
theorem dX12_by_37 : decode cX12_by 37 = .ok (.getfield 246, 3) := by decide +kernel
theorem dX12_by_40 : decode cX12_by 40 = .ok (.ireturn, 1) := by decide +kernel
theorem dX12_heapOf_0 : decode cX12_heapOf 0 = .ok (.aload_n 0, 1) := by decide +kernel
theorem dX12_heapOf_1 : decode cX12_heapOf 1 = .ok (.iload_n 1, 1) := by decide +kernel
theorem dX12_heapOf_2 : decode cX12_heapOf 2 = .ok (.invokevirtual 34, 3) := by decide +kernel
theorem dX12_heapOf_5 : decode cX12_heapOf 5 = .ok (.ifCond .eq 11, 3) := by decide +kernel
theorem dX12_heapOf_8 : decode cX12_heapOf 8 = .ok (.aload_n 0, 1) := by decide +kernel
theorem dX12_heapOf_9 : decode cX12_heapOf 9 = .ok (.iload_n 2, 1) := by decide +kernel
theorem dX12_heapOf_10 : decode cX12_heapOf 10 = .ok (.invokevirtual 27, 3) := by decide +kernel
theorem dX12_heapOf_13 : decode cX12_heapOf 13 = .ok (.ifCond .ne 6, 3) := by decide +kernel
theorem dX12_heapOf_16 : decode cX12_heapOf 16 = .ok (.bipush (-2), 2) := by decide +kernel
theorem dX12_heapOf_18 : decode cX12_heapOf 18 = .ok (.ireturn, 1) := by decide +kernel
theorem dX12_heapOf_19 : decode cX12_heapOf 19 = .ok (.aload_n 0, 1) := by decide +kernel
theorem dX12_heapOf_20 : decode cX12_heapOf 20 = .ok (.iload_n 1, 1) := by decide +kernel
theorem dX12_heapOf_21 : decode cX12_heapOf 21 = .ok (.invokevirtual 256, 3) := by decide +kernel
theorem dX12_heapOf_24 : decode cX12_heapOf 24 = .ok (.aload_n 0, 1) := by decide +kernel
theorem dX12_heapOf_25 : decode cX12_heapOf 25 = .ok (.getfield 179, 3) := by decide +kernel
theorem dX12_heapOf_28 : decode cX12_heapOf 28 = .ok (.iload_n 2, 1) := by decide +kernel
theorem dX12_heapOf_29 : decode cX12_heapOf 29 = .ok (.iaload, 1) := by decide +kernel
theorem dX12_heapOf_30 : decode cX12_heapOf 30 = .ok (.ireturn, 1) := by decide +kernel
theorem dX12_ways_0 : decode cX12_ways 0 = .ok (.iload_n 1, 1) := by decide +kernel
theorem dX12_ways_1 : decode cX12_ways 1 = .ok (.iload_n 2, 1) := by decide +kernel
theorem dX12_ways_2 : decode cX12_ways 2 = .ok (.if_icmp .ne 64, 3) := by decide +kernel
theorem dX12_ways_5 : decode cX12_ways 5 = .ok (.aload_n 0, 1) := by decide +kernel
theorem dX12_ways_6 : decode cX12_ways 6 = .ok (.aload_n 0, 1) := by decide +kernel
theorem dX12_ways_7 : decode cX12_ways 7 = .ok (.getfield 259, 3) := by decide +kernel
theorem dX12_ways_10 : decode cX12_ways 10 = .ok (.ifCond .lt 14, 3) := by decide +kernel
theorem dX12_ways_13 : decode cX12_ways 13 = .ok (.aload_n 0, 1) := by decide +kernel
theorem dX12_ways_14 : decode cX12_ways 14 = .ok (.getfield 225, 3) := by decide +kernel
theorem dX12_ways_17 : decode cX12_ways 17 = .ok (.aload_n 0, 1) := by decide +kernel
theorem dX12_ways_18 : decode cX12_ways 18 = .ok (.getfield 259, 3) := by decide +kernel
theorem dX12_ways_21 : decode cX12_ways 21 = .ok (.if_icmp .ge 10, 3) := by decide +kernel
theorem dX12_ways_24 : decode cX12_ways 24 = .ok (.aload_n 0, 1) := by decide +kernel
theorem dX12_ways_25 : decode cX12_ways 25 = .ok (.getfield 225, 3) := by decide +kernel
theorem dX12_ways_28 : decode cX12_ways 28 = .ok (.goto 7, 3) := by decide +kernel
theorem dX12_ways_31 : decode cX12_ways 31 = .ok (.aload_n 0, 1) := by decide +kernel
theorem dX12_ways_32 : decode cX12_ways 32 = .ok (.getfield 259, 3) := by decide +kernel
theorem dX12_ways_35 : decode cX12_ways 35 = .ok (.putfield 259, 3) := by decide +kernel
theorem dX12_ways_38 : decode cX12_ways 38 = .ok (.aload_n 0, 1) := by decide +kernel
theorem dX12_ways_39 : decode cX12_ways 39 = .ok (.aload_n 0, 1) := by decide +kernel
theorem dX12_ways_40 : decode cX12_ways 40 = .ok (.getfield 262, 3) := by decide +kernel
theorem dX12_ways_43 : decode cX12_ways 43 = .ok (.ifCond .lt 11, 3) := by decide +kernel
theorem dX12_ways_46 : decode cX12_ways 46 = .ok (.iload_n 3, 1) := by decide +kernel
theorem dX12_ways_47 : decode cX12_ways 47 = .ok (.aload_n 0, 1) := by decide +kernel
theorem dX12_ways_48 : decode cX12_ways 48 = .ok (.getfield 262, 3) := by decide +kernel
theorem dX12_ways_51 : decode cX12_ways 51 = .ok (.if_icmp .ge 7, 3) := by decide +kernel
theorem dX12_ways_54 : decode cX12_ways 54 = .ok (.iload_n 3, 1) := by decide +kernel
theorem dX12_ways_55 : decode cX12_ways 55 = .ok (.goto 7, 3) := by decide +kernel
theorem dX12_ways_58 : decode cX12_ways 58 = .ok (.aload_n 0, 1) := by decide +kernel
theorem dX12_ways_59 : decode cX12_ways 59 = .ok (.getfield 262, 3) := by decide +kernel
theorem dX12_ways_62 : decode cX12_ways 62 = .ok (.putfield 262, 3) := by decide +kernel
theorem dX12_ways_65 : decode cX12_ways 65 = .ok (.return_, 1) := by decide +kernel
theorem dX12_ways_66 : decode cX12_ways 66 = .ok (.aload_n 0, 1) := by decide +kernel
theorem dX12_ways_67 : decode cX12_ways 67 = .ok (.getfield 176, 3) := by decide +kernel
theorem dX12_ways_70 : decode cX12_ways 70 = .ok (.iload_n 1, 1) := by decide +kernel
theorem dX12_ways_71 : decode cX12_ways 71 = .ok (.iaload, 1) := by decide +kernel
theorem dX12_ways_72 : decode cX12_ways 72 = .ok (.istore 4, 2) := by decide +kernel
theorem dX12_ways_74 : decode cX12_ways 74 = .ok (.aload_n 0, 1) := by decide +kernel
theorem dX12_ways_75 : decode cX12_ways 75 = .ok (.getfield 225, 3) := by decide +kernel
theorem dX12_ways_78 : decode cX12_ways 78 = .ok (.istore 5, 2) := by decide +kernel
theorem dX12_ways_80 : decode cX12_ways 80 = .ok (.iconst 0, 1) := by decide +kernel
theorem dX12_ways_81 : decode cX12_ways 81 = .ok (.istore 6, 2) := by decide +kernel
theorem dX12_ways_83 : decode cX12_ways 83 = .ok (.iload 6, 2) := by decide +kernel
theorem dX12_ways_85 : decode cX12_ways 85 = .ok (.iload 5, 2) := by decide +kernel
theorem dX12_ways_87 : decode cX12_ways 87 = .ok (.if_icmp .gt 71, 3) := by decide +kernel
theorem dX12_ways_90 : decode cX12_ways 90 = .ok (.iload 6, 2) := by decide +kernel
theorem dX12_ways_92 : decode cX12_ways 92 = .ok (.iload 5, 2) := by decide +kernel
theorem dX12_ways_94 : decode cX12_ways 94 = .ok (.if_icmp .eq 14, 3) := by decide +kernel
theorem dX12_ways_97 : decode cX12_ways 97 = .ok (.aload_n 0, 1) := by decide +kernel
theorem dX12_ways_98 : decode cX12_ways 98 = .ok (.iload 4, 2) := by decide +kernel
theorem dX12_ways_100 : decode cX12_ways 100 = .ok (.iload 6, 2) := by decide +kernel
theorem dX12_ways_102 : decode cX12_ways 102 = .ok (.invokevirtual 237, 3) := by decide +kernel
theorem dX12_ways_105 : decode cX12_ways 105 = .ok (.ifCond .eq 47, 3) := by decide +kernel
theorem dX12_ways_108 : decode cX12_ways 108 = .ok (.aload_n 0, 1) := by decide +kernel
theorem dX12_ways_109 : decode cX12_ways 109 = .ok (.iload 4, 2) := by decide +kernel
theorem dX12_ways_111 : decode cX12_ways 111 = .ok (.iload 6, 2) := by decide +kernel
theorem dX12_ways_113 : decode cX12_ways 113 = .ok (.invokevirtual 228, 3) := by decide +kernel
theorem dX12_ways_116 : decode cX12_ways 116 = .ok (.aload_n 0, 1) := by decide +kernel
theorem dX12_ways_117 : decode cX12_ways 117 = .ok (.iconst 1, 1) := by decide +kernel
theorem dX12_ways_118 : decode cX12_ways 118 = .ok (.invokevirtual 41, 3) := by decide +kernel
theorem dX12_ways_121 : decode cX12_ways 121 = .ok (.invokestatic 45, 3) := by decide +kernel
theorem dX12_ways_124 : decode cX12_ways 124 = .ok (.istore 7, 2) := by decide +kernel
theorem dX12_ways_126 : decode cX12_ways 126 = .ok (.aload_n 0, 1) := by decide +kernel
theorem dX12_ways_127 : decode cX12_ways 127 = .ok (.iload 4, 2) := by decide +kernel
theorem dX12_ways_129 : decode cX12_ways 129 = .ok (.iload 6, 2) := by decide +kernel
theorem dX12_ways_131 : decode cX12_ways 131 = .ok (.invokevirtual 253, 3) := by decide +kernel
theorem dX12_ways_134 : decode cX12_ways 134 = .ok (.aload_n 0, 1) := by decide +kernel
theorem dX12_ways_135 : decode cX12_ways 135 = .ok (.iload_n 1, 1) := by decide +kernel
theorem dX12_ways_136 : decode cX12_ways 136 = .ok (.iconst 1, 1) := by decide +kernel
theorem dX12_ways_137 : decode cX12_ways 137 = .ok (.iadd, 1) := by decide +kernel
theorem dX12_ways_138 : decode cX12_ways 138 = .ok (.iload_n 2, 1) := by decide +kernel
theorem dX12_ways_139 : decode cX12_ways 139 = .ok (.iload_n 3, 1) := by decide +kernel
theorem dX12_ways_140 : decode cX12_ways 140 = .ok (.iload 7, 2) := by decide +kernel
theorem dX12_ways_142 : decode cX12_ways 142 = .ok (.iadd, 1) := by decide +kernel
theorem dX12_ways_143 : decode cX12_ways 143 = .ok (.invokevirtual 265, 3) := by decide +kernel
theorem dX12_ways_146 : decode cX12_ways 146 = .ok (.aload_n 0, 1) := by decide +kernel
theorem dX12_ways_147 : decode cX12_ways 147 = .ok (.iload 6, 2) := by decide +kernel
theorem dX12_ways_149 : decode cX12_ways 149 = .ok (.invokevirtual 269, 3) := by decide +kernel
theorem dX12_ways_152 : decode cX12_ways 152 = .ok (.iinc 6 1, 3) := by decide +kernel
theorem dX12_ways_155 : decode cX12_ways 155 = .ok (.goto (-72), 3) := by decide +kernel
theorem dX12_ways_158 : decode cX12_ways 158 = .ok (.return_, 1) := by decide +kernel
theorem dX12_goThrough_0 : decode cX12_goThrough 0 = .ok (.aload_n 0, 1) := by decide +kernel
theorem dX12_goThrough_1 : decode cX12_goThrough 1 = .ok (.iconst 0, 1) := by decide +kernel
theorem dX12_goThrough_2 : decode cX12_goThrough 2 = .ok (.putfield 225, 3) := by decide +kernel
theorem dX12_goThrough_5 : decode cX12_goThrough 5 = .ok (.aload_n 0, 1) := by decide +kernel
theorem dX12_goThrough_6 : decode cX12_goThrough 6 = .ok (.iconst (-1), 1) := by decide +kernel
theorem dX12_goThrough_7 : decode cX12_goThrough 7 = .ok (.putfield 259, 3) := by decide +kernel
theorem dX12_goThrough_10 : decode cX12_goThrough 10 = .ok (.aload_n 0, 1) := by decide +kernel
theorem dX12_goThrough_11 : decode cX12_goThrough 11 = .ok (.iconst (-1), 1) := by decide +kernel
theorem dX12_goThrough_12 : decode cX12_goThrough 12 = .ok (.putfield 262, 3) := by decide +kernel
theorem dX12_goThrough_15 : decode cX12_goThrough 15 = .ok (.aload_n 0, 1) := by decide +kernel
theorem dX12_goThrough_16 : decode cX12_goThrough 16 = .ok (.iconst 0, 1) := by decide +kernel
theorem dX12_goThrough_17 : decode cX12_goThrough 17 = .ok (.iload_n 1, 1) := by decide +kernel
theorem dX12_goThrough_18 : decode cX12_goThrough 18 = .ok (.iconst 0, 1) := by decide +kernel
theorem dX12_goThrough_19 : decode cX12_goThrough 19 = .ok (.invokevirtual 265, 3) := by decide +kernel
theorem dX12_goThrough_22 : decode cX12_goThrough 22 = .ok (.return_, 1) := by decide +kernel
theorem dX12_fewest_0 : decode cX12_fewest 0 = .ok (.iload_n 1, 1) := by decide +kernel
theorem dX12_fewest_1 : decode cX12_fewest 1 = .ok (.iconst 0, 1) := by decide +kernel
theorem dX12_fewest_2 : decode cX12_fewest 2 = .ok (.iconst 1, 1) := by decide +kernel
theorem dX12_fewest_3 : decode cX12_fewest 3 = .ok (.invokestatic 7, 3) := by decide +kernel
theorem dX12_fewest_6 : decode cX12_fewest 6 = .ok (.ifCond .ne 6, 3) := by decide +kernel
theorem dX12_fewest_9 : decode cX12_fewest 9 = .ok (.bipush (-2), 2) := by decide +kernel
theorem dX12_fewest_11 : decode cX12_fewest 11 = .ok (.ireturn, 1) := by decide +kernel
theorem dX12_fewest_12 : decode cX12_fewest 12 = .ok (.aload_n 0, 1) := by decide +kernel
theorem dX12_fewest_13 : decode cX12_fewest 13 = .ok (.aload_n 0, 1) := by decide +kernel
theorem dX12_fewest_14 : decode cX12_fewest 14 = .ok (.getfield 1, 3) := by decide +kernel
theorem dX12_fewest_17 : decode cX12_fewest 17 = .ok (.invokevirtual 272, 3) := by decide +kernel
theorem dX12_fewest_20 : decode cX12_fewest 20 = .ok (.iload_n 1, 1) := by decide +kernel
theorem dX12_fewest_21 : decode cX12_fewest 21 = .ok (.ifCond .ne 10, 3) := by decide +kernel
theorem dX12_fewest_24 : decode cX12_fewest 24 = .ok (.aload_n 0, 1) := by decide +kernel
theorem dX12_fewest_25 : decode cX12_fewest 25 = .ok (.getfield 259, 3) := by decide +kernel
theorem dX12_fewest_28 : decode cX12_fewest 28 = .ok (.goto 7, 3) := by decide +kernel
theorem dX12_fewest_31 : decode cX12_fewest 31 = .ok (.aload_n 0, 1) := by decide +kernel
theorem dX12_fewest_32 : decode cX12_fewest 32 = .ok (.getfield 262, 3) := by decide +kernel
theorem dX12_fewest_35 : decode cX12_fewest 35 = .ok (.ireturn, 1) := by decide +kernel
theorem dX12_less_0 : decode cX12_less 0 = .ok (.iload_n 1, 1) := by decide +kernel
theorem dX12_less_1 : decode cX12_less 1 = .ok (.iconst 0, 1) := by decide +kernel
theorem dX12_less_2 : decode cX12_less 2 = .ok (.iconst 1, 1) := by decide +kernel
theorem dX12_less_3 : decode cX12_less 3 = .ok (.invokestatic 7, 3) := by decide +kernel
theorem dX12_less_6 : decode cX12_less 6 = .ok (.ifCond .ne 6, 3) := by decide +kernel
theorem dX12_less_9 : decode cX12_less 9 = .ok (.bipush (-2), 2) := by decide +kernel
theorem dX12_less_11 : decode cX12_less 11 = .ok (.ireturn, 1) := by decide +kernel
theorem dX12_less_12 : decode cX12_less 12 = .ok (.aload_n 0, 1) := by decide +kernel
theorem dX12_less_13 : decode cX12_less 13 = .ok (.aload_n 0, 1) := by decide +kernel
theorem dX12_less_14 : decode cX12_less 14 = .ok (.getfield 1, 3) := by decide +kernel
theorem dX12_less_17 : decode cX12_less 17 = .ok (.invokevirtual 272, 3) := by decide +kernel
theorem dX12_less_20 : decode cX12_less 20 = .ok (.aload_n 0, 1) := by decide +kernel
theorem dX12_less_21 : decode cX12_less 21 = .ok (.getfield 259, 3) := by decide +kernel
theorem dX12_less_24 : decode cX12_less 24 = .ok (.istore_n 2, 1) := by decide +kernel
theorem dX12_less_25 : decode cX12_less 25 = .ok (.iconst (-1), 1) := by decide +kernel
theorem dX12_less_26 : decode cX12_less 26 = .ok (.istore_n 3, 1) := by decide +kernel
theorem dX12_less_27 : decode cX12_less 27 = .ok (.iconst 0, 1) := by decide +kernel
theorem dX12_less_28 : decode cX12_less 28 = .ok (.istore 4, 2) := by decide +kernel
theorem dX12_less_30 : decode cX12_less 30 = .ok (.iload 4, 2) := by decide +kernel
theorem dX12_less_32 : decode cX12_less 32 = .ok (.aload_n 0, 1) := by decide +kernel
theorem dX12_less_33 : decode cX12_less 33 = .ok (.getfield 1, 3) := by decide +kernel
theorem dX12_less_36 : decode cX12_less 36 = .ok (.iload_n 1, 1) := by decide +kernel
theorem dX12_less_37 : decode cX12_less 37 = .ok (.isub, 1) := by decide +kernel
theorem dX12_less_38 : decode cX12_less 38 = .ok (.if_icmp .ge 115, 3) := by decide +kernel
theorem dX12_less_41 : decode cX12_less 41 = .ok (.iload_n 3, 1) := by decide +kernel
theorem dX12_less_42 : decode cX12_less 42 = .ok (.iconst (-1), 1) := by decide +kernel
theorem dX12_less_43 : decode cX12_less 43 = .ok (.if_icmp .ne 110, 3) := by decide +kernel
theorem dX12_less_46 : decode cX12_less 46 = .ok (.iload_n 1, 1) := by decide +kernel
theorem dX12_less_47 : decode cX12_less 47 = .ok (.ifCond .ne 38, 3) := by decide +kernel
theorem dX12_less_50 : decode cX12_less 50 = .ok (.iload 4, 2) := by decide +kernel
theorem dX12_less_52 : decode cX12_less 52 = .ok (.istore 5, 2) := by decide +kernel
theorem dX12_less_54 : decode cX12_less 54 = .ok (.iload 5, 2) := by decide +kernel
theorem dX12_less_56 : decode cX12_less 56 = .ok (.aload_n 0, 1) := by decide +kernel
theorem dX12_less_57 : decode cX12_less 57 = .ok (.getfield 1, 3) := by decide +kernel
theorem dX12_less_60 : decode cX12_less 60 = .ok (.iconst 1, 1) := by decide +kernel
theorem dX12_less_61 : decode cX12_less 61 = .ok (.isub, 1) := by decide +kernel
theorem dX12_less_62 : decode cX12_less 62 = .ok (.if_icmp .ge 20, 3) := by decide +kernel
theorem dX12_less_65 : decode cX12_less 65 = .ok (.aload_n 0, 1) := by decide +kernel
theorem dX12_less_66 : decode cX12_less 66 = .ok (.getfield 176, 3) := by decide +kernel
theorem dX12_less_69 : decode cX12_less 69 = .ok (.iload 5, 2) := by decide +kernel
theorem dX12_less_71 : decode cX12_less 71 = .ok (.iload 5, 2) := by decide +kernel
theorem dX12_less_73 : decode cX12_less 73 = .ok (.iconst 1, 1) := by decide +kernel
theorem dX12_less_74 : decode cX12_less 74 = .ok (.iadd, 1) := by decide +kernel
theorem dX12_less_75 : decode cX12_less 75 = .ok (.iastore, 1) := by decide +kernel
theorem dX12_less_76 : decode cX12_less 76 = .ok (.iinc 5 1, 3) := by decide +kernel
theorem dX12_less_79 : decode cX12_less 79 = .ok (.goto (-25), 3) := by decide +kernel
theorem dX12_less_82 : decode cX12_less 82 = .ok (.goto 25, 3) := by decide +kernel
theorem dX12_less_85 : decode cX12_less 85 = .ok (.aload_n 0, 1) := by decide +kernel
theorem dX12_less_86 : decode cX12_less 86 = .ok (.getfield 176, 3) := by decide +kernel
theorem dX12_less_89 : decode cX12_less 89 = .ok (.iload 4, 2) := by decide +kernel
theorem dX12_less_91 : decode cX12_less 91 = .ok (.iload 4, 2) := by decide +kernel
theorem dX12_less_93 : decode cX12_less 93 = .ok (.iconst 1, 1) := by decide +kernel
theorem dX12_less_94 : decode cX12_less 94 = .ok (.iadd, 1) := by decide +kernel
theorem dX12_less_95 : decode cX12_less 95 = .ok (.iastore, 1) := by decide +kernel
theorem dX12_less_96 : decode cX12_less 96 = .ok (.aload_n 0, 1) := by decide +kernel
theorem dX12_less_97 : decode cX12_less 97 = .ok (.getfield 176, 3) := by decide +kernel
theorem dX12_less_100 : decode cX12_less 100 = .ok (.iload 4, 2) := by decide +kernel
theorem dX12_less_102 : decode cX12_less 102 = .ok (.iconst 1, 1) := by decide +kernel
theorem dX12_less_103 : decode cX12_less 103 = .ok (.iadd, 1) := by decide +kernel
theorem dX12_less_104 : decode cX12_less 104 = .ok (.iload 4, 2) := by decide +kernel
theorem dX12_less_106 : decode cX12_less 106 = .ok (.iastore, 1) := by decide +kernel
theorem dX12_less_107 : decode cX12_less 107 = .ok (.aload_n 0, 1) := by decide +kernel
theorem dX12_less_108 : decode cX12_less 108 = .ok (.iload_n 1, 1) := by decide +kernel
theorem dX12_less_109 : decode cX12_less 109 = .ok (.ifCond .ne 12, 3) := by decide +kernel
theorem dX12_less_112 : decode cX12_less 112 = .ok (.aload_n 0, 1) := by decide +kernel
theorem dX12_less_113 : decode cX12_less 113 = .ok (.getfield 1, 3) := by decide +kernel
theorem dX12_less_116 : decode cX12_less 116 = .ok (.iconst 1, 1) := by decide +kernel
theorem dX12_less_117 : decode cX12_less 117 = .ok (.isub, 1) := by decide +kernel
theorem dX12_less_118 : decode cX12_less 118 = .ok (.goto 7, 3) := by decide +kernel
theorem dX12_less_121 : decode cX12_less 121 = .ok (.aload_n 0, 1) := by decide +kernel
theorem dX12_less_122 : decode cX12_less 122 = .ok (.getfield 1, 3) := by decide +kernel
theorem dX12_less_125 : decode cX12_less 125 = .ok (.invokevirtual 272, 3) := by decide +kernel
theorem dX12_less_128 : decode cX12_less 128 = .ok (.aload_n 0, 1) := by decide +kernel
theorem dX12_less_129 : decode cX12_less 129 = .ok (.getfield 259, 3) := by decide +kernel
theorem dX12_less_132 : decode cX12_less 132 = .ok (.iload_n 2, 1) := by decide +kernel
theorem dX12_less_133 : decode cX12_less 133 = .ok (.if_icmp .ge 8, 3) := by decide +kernel
theorem dX12_less_136 : decode cX12_less 136 = .ok (.iload 4, 2) := by decide +kernel
theorem dX12_less_138 : decode cX12_less 138 = .ok (.goto 4, 3) := by decide +kernel
theorem dX12_less_141 : decode cX12_less 141 = .ok (.iconst (-1), 1) := by decide +kernel
theorem dX12_less_142 : decode cX12_less 142 = .ok (.istore_n 3, 1) := by decide +kernel
theorem dX12_less_143 : decode cX12_less 143 = .ok (.aload_n 0, 1) := by decide +kernel
theorem dX12_less_144 : decode cX12_less 144 = .ok (.invokevirtual 275, 3) := by decide +kernel
theorem dX12_less_147 : decode cX12_less 147 = .ok (.iinc 4 1, 3) := by decide +kernel
theorem dX12_less_150 : decode cX12_less 150 = .ok (.goto (-120), 3) := by decide +kernel
theorem dX12_less_153 : decode cX12_less 153 = .ok (.iload_n 3, 1) := by decide +kernel
theorem dX12_less_154 : decode cX12_less 154 = .ok (.ireturn, 1) := by decide +kernel
theorem dX12_couldLie_0 : decode cX12_couldLie 0 = .ok (.aload_n 0, 1) := by decide +kernel
theorem dX12_couldLie_1 : decode cX12_couldLie 1 = .ok (.iload_n 1, 1) := by decide +kernel
theorem dX12_couldLie_2 : decode cX12_couldLie 2 = .ok (.aload_n 0, 1) := by decide +kernel
theorem dX12_couldLie_3 : decode cX12_couldLie 3 = .ok (.getfield 14, 3) := by decide +kernel
theorem dX12_couldLie_6 : decode cX12_couldLie 6 = .ok (.iload_n 2, 1) := by decide +kernel
theorem dX12_couldLie_7 : decode cX12_couldLie 7 = .ok (.iaload, 1) := by decide +kernel
theorem dX12_couldLie_8 : decode cX12_couldLie 8 = .ok (.aload_n 0, 1) := by decide +kernel
theorem dX12_couldLie_9 : decode cX12_couldLie 9 = .ok (.getfield 18, 3) := by decide +kernel
theorem dX12_couldLie_12 : decode cX12_couldLie 12 = .ok (.iload_n 2, 1) := by decide +kernel
theorem dX12_couldLie_13 : decode cX12_couldLie 13 = .ok (.iaload, 1) := by decide +kernel
theorem dX12_couldLie_14 : decode cX12_couldLie 14 = .ok (.iconst 1, 1) := by decide +kernel
theorem dX12_couldLie_15 : decode cX12_couldLie 15 = .ok (.iconst 0, 1) := by decide +kernel
theorem dX12_couldLie_16 : decode cX12_couldLie 16 = .ok (.invokevirtual 37, 3) := by decide +kernel
theorem dX12_couldLie_19 : decode cX12_couldLie 19 = .ok (.aload_n 0, 1) := by decide +kernel
theorem dX12_couldLie_20 : decode cX12_couldLie 20 = .ok (.iconst 0, 1) := by decide +kernel
theorem dX12_couldLie_21 : decode cX12_couldLie 21 = .ok (.invokevirtual 41, 3) := by decide +kernel
theorem dX12_couldLie_24 : decode cX12_couldLie 24 = .ok (.ifCond .eq 7, 3) := by decide +kernel
theorem dX12_couldLie_27 : decode cX12_couldLie 27 = .ok (.iconst 1, 1) := by decide +kernel
theorem dX12_couldLie_28 : decode cX12_couldLie 28 = .ok (.goto 4, 3) := by decide +kernel
theorem dX12_couldLie_31 : decode cX12_couldLie 31 = .ok (.iconst 0, 1) := by decide +kernel
theorem dX12_couldLie_32 : decode cX12_couldLie 32 = .ok (.ireturn, 1) := by decide +kernel
theorem dX12_isRow_0 : decode cX12_isRow 0 = .ok (.iconst (-1), 1) := by decide +kernel
theorem dX12_isRow_1 : decode cX12_isRow 1 = .ok (.istore_n 2, 1) := by decide +kernel
theorem dX12_isRow_2 : decode cX12_isRow 2 = .ok (.iconst 1, 1) := by decide +kernel
theorem dX12_isRow_3 : decode cX12_isRow 3 = .ok (.istore_n 3, 1) := by decide +kernel
theorem dX12_isRow_4 : decode cX12_isRow 4 = .ok (.iconst 0, 1) := by decide +kernel
theorem dX12_isRow_5 : decode cX12_isRow 5 = .ok (.istore 4, 2) := by decide +kernel
theorem dX12_isRow_7 : decode cX12_isRow 7 = .ok (.iload 4, 2) := by decide +kernel
theorem dX12_isRow_9 : decode cX12_isRow 9 = .ok (.aload_n 0, 1) := by decide +kernel
theorem dX12_isRow_10 : decode cX12_isRow 10 = .ok (.getfield 1, 3) := by decide +kernel
theorem dX12_isRow_13 : decode cX12_isRow 13 = .ok (.if_icmp .ge 47, 3) := by decide +kernel
theorem dX12_isRow_16 : decode cX12_isRow 16 = .ok (.iload_n 3, 1) := by decide +kernel
theorem dX12_isRow_17 : decode cX12_isRow 17 = .ok (.ifCond .eq 43, 3) := by decide +kernel
theorem dX12_isRow_20 : decode cX12_isRow 20 = .ok (.iload_n 1, 1) := by decide +kernel
theorem dX12_isRow_21 : decode cX12_isRow 21 = .ok (.iload 4, 2) := by decide +kernel
theorem dX12_isRow_23 : decode cX12_isRow 23 = .ok (.ishr, 1) := by decide +kernel
theorem dX12_isRow_24 : decode cX12_isRow 24 = .ok (.iconst 1, 1) := by decide +kernel
theorem dX12_isRow_25 : decode cX12_isRow 25 = .ok (.iand, 1) := by decide +kernel
theorem dX12_isRow_26 : decode cX12_isRow 26 = .ok (.iconst 1, 1) := by decide +kernel
theorem dX12_isRow_27 : decode cX12_isRow 27 = .ok (.if_icmp .ne 27, 3) := by decide +kernel
theorem dX12_isRow_30 : decode cX12_isRow 30 = .ok (.iload_n 2, 1) := by decide +kernel
theorem dX12_isRow_31 : decode cX12_isRow 31 = .ok (.iconst (-1), 1) := by decide +kernel
theorem dX12_isRow_32 : decode cX12_isRow 32 = .ok (.if_icmp .eq 13, 3) := by decide +kernel
theorem dX12_isRow_35 : decode cX12_isRow 35 = .ok (.aload_n 0, 1) := by decide +kernel
theorem dX12_isRow_36 : decode cX12_isRow 36 = .ok (.iload 4, 2) := by decide +kernel
theorem dX12_isRow_38 : decode cX12_isRow 38 = .ok (.iload_n 2, 1) := by decide +kernel
theorem dX12_isRow_39 : decode cX12_isRow 39 = .ok (.invokevirtual 278, 3) := by decide +kernel
theorem dX12_isRow_42 : decode cX12_isRow 42 = .ok (.ifCond .ne 7, 3) := by decide +kernel
theorem dX12_isRow_45 : decode cX12_isRow 45 = .ok (.iconst 1, 1) := by decide +kernel
theorem dX12_isRow_46 : decode cX12_isRow 46 = .ok (.goto 4, 3) := by decide +kernel
theorem dX12_isRow_49 : decode cX12_isRow 49 = .ok (.iconst 0, 1) := by decide +kernel
theorem dX12_isRow_50 : decode cX12_isRow 50 = .ok (.istore_n 3, 1) := by decide +kernel
theorem dX12_isRow_51 : decode cX12_isRow 51 = .ok (.iload 4, 2) := by decide +kernel
theorem dX12_isRow_53 : decode cX12_isRow 53 = .ok (.istore_n 2, 1) := by decide +kernel
theorem dX12_isRow_54 : decode cX12_isRow 54 = .ok (.iinc 4 1, 3) := by decide +kernel
theorem dX12_isRow_57 : decode cX12_isRow 57 = .ok (.goto (-50), 3) := by decide +kernel
theorem dX12_isRow_60 : decode cX12_isRow 60 = .ok (.iload_n 3, 1) := by decide +kernel
theorem dX12_isRow_61 : decode cX12_isRow 61 = .ok (.ireturn, 1) := by decide +kernel
theorem dX12_bits_0 : decode cX12_bits 0 = .ok (.iconst 0, 1) := by decide +kernel
theorem dX12_bits_1 : decode cX12_bits 1 = .ok (.istore_n 1, 1) := by decide +kernel
theorem dX12_bits_2 : decode cX12_bits 2 = .ok (.iconst 0, 1) := by decide +kernel
theorem dX12_bits_3 : decode cX12_bits 3 = .ok (.istore_n 2, 1) := by decide +kernel
theorem dX12_bits_4 : decode cX12_bits 4 = .ok (.iload_n 2, 1) := by decide +kernel
theorem dX12_bits_5 : decode cX12_bits 5 = .ok (.bipush 8, 2) := by decide +kernel
theorem dX12_bits_7 : decode cX12_bits 7 = .ok (.if_icmp .ge 17, 3) := by decide +kernel
theorem dX12_bits_10 : decode cX12_bits 10 = .ok (.iload_n 1, 1) := by decide +kernel
theorem dX12_bits_11 : decode cX12_bits 11 = .ok (.iload_n 0, 1) := by decide +kernel
theorem dX12_bits_12 : decode cX12_bits 12 = .ok (.iload_n 2, 1) := by decide +kernel
theorem dX12_bits_13 : decode cX12_bits 13 = .ok (.ishr, 1) := by decide +kernel
theorem dX12_bits_14 : decode cX12_bits 14 = .ok (.iconst 1, 1) := by decide +kernel
theorem dX12_bits_15 : decode cX12_bits 15 = .ok (.iand, 1) := by decide +kernel
theorem dX12_bits_16 : decode cX12_bits 16 = .ok (.iadd, 1) := by decide +kernel
theorem dX12_bits_17 : decode cX12_bits 17 = .ok (.istore_n 1, 1) := by decide +kernel
theorem dX12_bits_18 : decode cX12_bits 18 = .ok (.iinc 2 1, 3) := by decide +kernel
theorem dX12_bits_21 : decode cX12_bits 21 = .ok (.goto (-17), 3) := by decide +kernel
theorem dX12_bits_24 : decode cX12_bits 24 = .ok (.iload_n 1, 1) := by decide +kernel
theorem dX12_bits_25 : decode cX12_bits 25 = .ok (.ireturn, 1) := by decide +kernel
theorem dX12_longest_0 : decode cX12_longest 0 = .ok (.iload_n 1, 1) := by decide +kernel
theorem dX12_longest_1 : decode cX12_longest 1 = .ok (.iconst 0, 1) := by decide +kernel
theorem dX12_longest_2 : decode cX12_longest 2 = .ok (.iconst 3, 1) := by decide +kernel
theorem dX12_longest_3 : decode cX12_longest 3 = .ok (.invokestatic 7, 3) := by decide +kernel
theorem dX12_longest_6 : decode cX12_longest 6 = .ok (.ifCond .ne 6, 3) := by decide +kernel
theorem dX12_longest_9 : decode cX12_longest 9 = .ok (.bipush (-2), 2) := by decide +kernel
theorem dX12_longest_11 : decode cX12_longest 11 = .ok (.ireturn, 1) := by decide +kernel
theorem dX12_longest_12 : decode cX12_longest 12 = .ok (.iconst 0, 1) := by decide +kernel
theorem dX12_longest_13 : decode cX12_longest 13 = .ok (.istore_n 2, 1) := by decide +kernel
theorem dX12_longest_14 : decode cX12_longest 14 = .ok (.iconst 0, 1) := by decide +kernel
theorem dX12_longest_15 : decode cX12_longest 15 = .ok (.istore_n 3, 1) := by decide +kernel
theorem dX12_longest_16 : decode cX12_longest 16 = .ok (.iconst 0, 1) := by decide +kernel
theorem dX12_longest_17 : decode cX12_longest 17 = .ok (.istore 4, 2) := by decide +kernel
theorem dX12_longest_19 : decode cX12_longest 19 = .ok (.iconst 0, 1) := by decide +kernel
theorem dX12_longest_20 : decode cX12_longest 20 = .ok (.istore 5, 2) := by decide +kernel
theorem dX12_longest_22 : decode cX12_longest 22 = .ok (.iconst 1, 1) := by decide +kernel
theorem dX12_longest_23 : decode cX12_longest 23 = .ok (.istore 6, 2) := by decide +kernel
theorem dX12_longest_25 : decode cX12_longest 25 = .ok (.iload 6, 2) := by decide +kernel
theorem dX12_longest_27 : decode cX12_longest 27 = .ok (.iconst 1, 1) := by decide +kernel
theorem dX12_longest_28 : decode cX12_longest 28 = .ok (.aload_n 0, 1) := by decide +kernel
theorem dX12_longest_29 : decode cX12_longest 29 = .ok (.getfield 1, 3) := by decide +kernel
theorem dX12_longest_32 : decode cX12_longest 32 = .ok (.ishl, 1) := by decide +kernel
theorem dX12_longest_33 : decode cX12_longest 33 = .ok (.if_icmp .ge 81, 3) := by decide +kernel
theorem dX12_longest_36 : decode cX12_longest 36 = .ok (.iload 6, 2) := by decide +kernel
theorem dX12_longest_38 : decode cX12_longest 38 = .ok (.invokestatic 281, 3) := by decide +kernel
theorem dX12_longest_41 : decode cX12_longest 41 = .ok (.istore 7, 2) := by decide +kernel
theorem dX12_longest_43 : decode cX12_longest 43 = .ok (.iload 7, 2) := by decide +kernel
theorem dX12_longest_45 : decode cX12_longest 45 = .ok (.iload_n 2, 1) := by decide +kernel
theorem dX12_longest_46 : decode cX12_longest 46 = .ok (.if_icmp .lt 62, 3) := by decide +kernel
theorem dX12_longest_49 : decode cX12_longest 49 = .ok (.aload_n 0, 1) := by decide +kernel
theorem dX12_longest_50 : decode cX12_longest 50 = .ok (.iload 6, 2) := by decide +kernel
theorem dX12_longest_52 : decode cX12_longest 52 = .ok (.invokevirtual 284, 3) := by decide +kernel
theorem dX12_longest_55 : decode cX12_longest 55 = .ok (.ifCond .eq 53, 3) := by decide +kernel
theorem dX12_longest_58 : decode cX12_longest 58 = .ok (.iload 7, 2) := by decide +kernel
theorem dX12_longest_60 : decode cX12_longest 60 = .ok (.iload_n 2, 1) := by decide +kernel
theorem dX12_longest_61 : decode cX12_longest 61 = .ok (.if_icmp .le 8, 3) := by decide +kernel
theorem dX12_longest_64 : decode cX12_longest 64 = .ok (.iload 6, 2) := by decide +kernel
theorem dX12_longest_66 : decode cX12_longest 66 = .ok (.goto 8, 3) := by decide +kernel
theorem dX12_longest_69 : decode cX12_longest 69 = .ok (.iload 4, 2) := by decide +kernel
theorem dX12_longest_71 : decode cX12_longest 71 = .ok (.iload 6, 2) := by decide +kernel
theorem dX12_longest_73 : decode cX12_longest 73 = .ok (.iand, 1) := by decide +kernel
theorem dX12_longest_74 : decode cX12_longest 74 = .ok (.istore 4, 2) := by decide +kernel
theorem dX12_longest_76 : decode cX12_longest 76 = .ok (.iload 7, 2) := by decide +kernel
theorem dX12_longest_78 : decode cX12_longest 78 = .ok (.iload_n 2, 1) := by decide +kernel
theorem dX12_longest_79 : decode cX12_longest 79 = .ok (.if_icmp .le 8, 3) := by decide +kernel
theorem dX12_longest_82 : decode cX12_longest 82 = .ok (.iload 6, 2) := by decide +kernel
theorem dX12_longest_84 : decode cX12_longest 84 = .ok (.goto 5, 3) := by decide +kernel
theorem dX12_longest_87 : decode cX12_longest 87 = .ok (.iload 5, 2) := by decide +kernel
theorem dX12_longest_89 : decode cX12_longest 89 = .ok (.istore 5, 2) := by decide +kernel
theorem dX12_longest_91 : decode cX12_longest 91 = .ok (.iload 7, 2) := by decide +kernel
theorem dX12_longest_93 : decode cX12_longest 93 = .ok (.iload_n 2, 1) := by decide +kernel
theorem dX12_longest_94 : decode cX12_longest 94 = .ok (.if_icmp .le 7, 3) := by decide +kernel
theorem dX12_longest_97 : decode cX12_longest 97 = .ok (.iconst 1, 1) := by decide +kernel
theorem dX12_longest_98 : decode cX12_longest 98 = .ok (.goto 6, 3) := by decide +kernel
theorem dX12_longest_101 : decode cX12_longest 101 = .ok (.iload_n 3, 1) := by decide +kernel
theorem dX12_longest_102 : decode cX12_longest 102 = .ok (.iconst 1, 1) := by decide +kernel
theorem dX12_longest_103 : decode cX12_longest 103 = .ok (.iadd, 1) := by decide +kernel
theorem dX12_longest_104 : decode cX12_longest 104 = .ok (.istore_n 3, 1) := by decide +kernel
theorem dX12_longest_105 : decode cX12_longest 105 = .ok (.iload 7, 2) := by decide +kernel
theorem dX12_longest_107 : decode cX12_longest 107 = .ok (.istore_n 2, 1) := by decide +kernel
theorem dX12_longest_108 : decode cX12_longest 108 = .ok (.iinc 6 1, 3) := by decide +kernel
theorem dX12_longest_111 : decode cX12_longest 111 = .ok (.goto (-86), 3) := by decide +kernel
theorem dX12_longest_114 : decode cX12_longest 114 = .ok (.iload_n 1, 1) := by decide +kernel
theorem dX12_longest_115 : decode cX12_longest 115 = .ok (.ifCond .ne 7, 3) := by decide +kernel
theorem dX12_longest_118 : decode cX12_longest 118 = .ok (.iload_n 2, 1) := by decide +kernel
theorem dX12_longest_119 : decode cX12_longest 119 = .ok (.goto 24, 3) := by decide +kernel
theorem dX12_longest_122 : decode cX12_longest 122 = .ok (.iload_n 1, 1) := by decide +kernel
theorem dX12_longest_123 : decode cX12_longest 123 = .ok (.iconst 1, 1) := by decide +kernel
theorem dX12_longest_124 : decode cX12_longest 124 = .ok (.if_icmp .ne 7, 3) := by decide +kernel
theorem dX12_longest_127 : decode cX12_longest 127 = .ok (.iload_n 3, 1) := by decide +kernel
theorem dX12_longest_128 : decode cX12_longest 128 = .ok (.goto 15, 3) := by decide +kernel
theorem dX12_longest_131 : decode cX12_longest 131 = .ok (.iload_n 1, 1) := by decide +kernel
theorem dX12_longest_132 : decode cX12_longest 132 = .ok (.iconst 2, 1) := by decide +kernel
theorem dX12_longest_133 : decode cX12_longest 133 = .ok (.if_icmp .ne 8, 3) := by decide +kernel
theorem dX12_longest_136 : decode cX12_longest 136 = .ok (.iload 4, 2) := by decide +kernel
theorem dX12_longest_138 : decode cX12_longest 138 = .ok (.goto 5, 3) := by decide +kernel
theorem dX12_longest_141 : decode cX12_longest 141 = .ok (.iload 5, 2) := by decide +kernel
theorem dX12_longest_143 : decode cX12_longest 143 = .ok (.ireturn, 1) := by decide +kernel
theorem dX12_mostFrom_0 : decode cX12_mostFrom 0 = .ok (.iload_n 1, 1) := by decide +kernel
theorem dX12_mostFrom_1 : decode cX12_mostFrom 1 = .ok (.aload_n 0, 1) := by decide +kernel
theorem dX12_mostFrom_2 : decode cX12_mostFrom 2 = .ok (.getfield 1, 3) := by decide +kernel
theorem dX12_mostFrom_5 : decode cX12_mostFrom 5 = .ok (.if_icmp .ne 5, 3) := by decide +kernel
theorem dX12_mostFrom_8 : decode cX12_mostFrom 8 = .ok (.iconst 0, 1) := by decide +kernel
theorem dX12_mostFrom_9 : decode cX12_mostFrom 9 = .ok (.ireturn, 1) := by decide +kernel
theorem dX12_mostFrom_10 : decode cX12_mostFrom 10 = .ok (.aload_n 0, 1) := by decide +kernel
theorem dX12_mostFrom_11 : decode cX12_mostFrom 11 = .ok (.iload_n 1, 1) := by decide +kernel
theorem dX12_mostFrom_12 : decode cX12_mostFrom 12 = .ok (.iconst 1, 1) := by decide +kernel
theorem dX12_mostFrom_13 : decode cX12_mostFrom 13 = .ok (.iadd, 1) := by decide +kernel
theorem dX12_mostFrom_14 : decode cX12_mostFrom 14 = .ok (.iload_n 2, 1) := by decide +kernel
theorem dX12_mostFrom_15 : decode cX12_mostFrom 15 = .ok (.invokevirtual 287, 3) := by decide +kernel
theorem dX12_mostFrom_18 : decode cX12_mostFrom 18 = .ok (.istore_n 3, 1) := by decide +kernel
theorem dX12_mostFrom_19 : decode cX12_mostFrom 19 = .ok (.iconst 0, 1) := by decide +kernel
theorem dX12_mostFrom_20 : decode cX12_mostFrom 20 = .ok (.istore 4, 2) := by decide +kernel
theorem dX12_mostFrom_22 : decode cX12_mostFrom 22 = .ok (.iload 4, 2) := by decide +kernel
theorem dX12_mostFrom_24 : decode cX12_mostFrom 24 = .ok (.iload_n 2, 1) := by decide +kernel
theorem dX12_mostFrom_25 : decode cX12_mostFrom 25 = .ok (.if_icmp .ge 66, 3) := by decide +kernel
theorem dX12_mostFrom_28 : decode cX12_mostFrom 28 = .ok (.aload_n 0, 1) := by decide +kernel
theorem dX12_mostFrom_29 : decode cX12_mostFrom 29 = .ok (.getfield 185, 3) := by decide +kernel
theorem dX12_mostFrom_32 : decode cX12_mostFrom 32 = .ok (.iload 4, 2) := by decide +kernel
theorem dX12_mostFrom_34 : decode cX12_mostFrom 34 = .ok (.iaload, 1) := by decide +kernel
theorem dX12_mostFrom_35 : decode cX12_mostFrom 35 = .ok (.istore 5, 2) := by decide +kernel
theorem dX12_mostFrom_37 : decode cX12_mostFrom 37 = .ok (.iload 5, 2) := by decide +kernel
theorem dX12_mostFrom_39 : decode cX12_mostFrom 39 = .ok (.iconst (-1), 1) := by decide +kernel
theorem dX12_mostFrom_40 : decode cX12_mostFrom 40 = .ok (.if_icmp .eq 13, 3) := by decide +kernel
theorem dX12_mostFrom_43 : decode cX12_mostFrom 43 = .ok (.aload_n 0, 1) := by decide +kernel
theorem dX12_mostFrom_44 : decode cX12_mostFrom 44 = .ok (.iload_n 1, 1) := by decide +kernel
theorem dX12_mostFrom_45 : decode cX12_mostFrom 45 = .ok (.iload 5, 2) := by decide +kernel
theorem dX12_mostFrom_47 : decode cX12_mostFrom 47 = .ok (.invokevirtual 278, 3) := by decide +kernel
theorem dX12_mostFrom_50 : decode cX12_mostFrom 50 = .ok (.ifCond .ne 35, 3) := by decide +kernel
theorem dX12_mostFrom_53 : decode cX12_mostFrom 53 = .ok (.aload_n 0, 1) := by decide +kernel
theorem dX12_mostFrom_54 : decode cX12_mostFrom 54 = .ok (.getfield 185, 3) := by decide +kernel
theorem dX12_mostFrom_57 : decode cX12_mostFrom 57 = .ok (.iload 4, 2) := by decide +kernel
theorem dX12_mostFrom_59 : decode cX12_mostFrom 59 = .ok (.iload_n 1, 1) := by decide +kernel
theorem dX12_mostFrom_60 : decode cX12_mostFrom 60 = .ok (.iastore, 1) := by decide +kernel
theorem dX12_mostFrom_61 : decode cX12_mostFrom 61 = .ok (.iload_n 3, 1) := by decide +kernel
theorem dX12_mostFrom_62 : decode cX12_mostFrom 62 = .ok (.iconst 1, 1) := by decide +kernel
theorem dX12_mostFrom_63 : decode cX12_mostFrom 63 = .ok (.aload_n 0, 1) := by decide +kernel
theorem dX12_mostFrom_64 : decode cX12_mostFrom 64 = .ok (.iload_n 1, 1) := by decide +kernel
theorem dX12_mostFrom_65 : decode cX12_mostFrom 65 = .ok (.iconst 1, 1) := by decide +kernel
theorem dX12_mostFrom_66 : decode cX12_mostFrom 66 = .ok (.iadd, 1) := by decide +kernel
theorem dX12_mostFrom_67 : decode cX12_mostFrom 67 = .ok (.iload_n 2, 1) := by decide +kernel
theorem dX12_mostFrom_68 : decode cX12_mostFrom 68 = .ok (.invokevirtual 287, 3) := by decide +kernel
theorem dX12_mostFrom_71 : decode cX12_mostFrom 71 = .ok (.iadd, 1) := by decide +kernel
theorem dX12_mostFrom_72 : decode cX12_mostFrom 72 = .ok (.invokestatic 290, 3) := by decide +kernel
theorem dX12_mostFrom_75 : decode cX12_mostFrom 75 = .ok (.istore_n 3, 1) := by decide +kernel
theorem dX12_mostFrom_76 : decode cX12_mostFrom 76 = .ok (.aload_n 0, 1) := by decide +kernel
theorem dX12_mostFrom_77 : decode cX12_mostFrom 77 = .ok (.getfield 185, 3) := by decide +kernel
theorem dX12_mostFrom_80 : decode cX12_mostFrom 80 = .ok (.iload 4, 2) := by decide +kernel
theorem dX12_mostFrom_82 : decode cX12_mostFrom 82 = .ok (.iload 5, 2) := by decide +kernel
theorem dX12_mostFrom_84 : decode cX12_mostFrom 84 = .ok (.iastore, 1) := by decide +kernel
theorem dX12_mostFrom_85 : decode cX12_mostFrom 85 = .ok (.iinc 4 1, 3) := by decide +kernel
theorem dX12_mostFrom_88 : decode cX12_mostFrom 88 = .ok (.goto (-66), 3) := by decide +kernel
theorem dX12_mostFrom_91 : decode cX12_mostFrom 91 = .ok (.iload_n 3, 1) := by decide +kernel
theorem dX12_mostFrom_92 : decode cX12_mostFrom 92 = .ok (.ireturn, 1) := by decide +kernel
theorem dX12_several_0 : decode cX12_several 0 = .ok (.iload_n 1, 1) := by decide +kernel
theorem dX12_several_1 : decode cX12_several 1 = .ok (.iconst 1, 1) := by decide +kernel
theorem dX12_several_2 : decode cX12_several 2 = .ok (.iconst 3, 1) := by decide +kernel
theorem dX12_several_3 : decode cX12_several 3 = .ok (.invokestatic 7, 3) := by decide +kernel
theorem dX12_several_6 : decode cX12_several 6 = .ok (.ifCond .ne 6, 3) := by decide +kernel
theorem dX12_several_9 : decode cX12_several 9 = .ok (.bipush (-2), 2) := by decide +kernel
theorem dX12_several_11 : decode cX12_several 11 = .ok (.ireturn, 1) := by decide +kernel
theorem dX12_several_12 : decode cX12_several 12 = .ok (.iconst 0, 1) := by decide +kernel
theorem dX12_several_13 : decode cX12_several 13 = .ok (.istore_n 2, 1) := by decide +kernel
theorem dX12_several_14 : decode cX12_several 14 = .ok (.iload_n 2, 1) := by decide +kernel
theorem dX12_several_15 : decode cX12_several 15 = .ok (.iconst 3, 1) := by decide +kernel
theorem dX12_several_16 : decode cX12_several 16 = .ok (.if_icmp .ge 16, 3) := by decide +kernel
theorem dX12_several_19 : decode cX12_several 19 = .ok (.aload_n 0, 1) := by decide +kernel
theorem dX12_several_20 : decode cX12_several 20 = .ok (.getfield 185, 3) := by decide +kernel
theorem dX12_several_23 : decode cX12_several 23 = .ok (.iload_n 2, 1) := by decide +kernel
theorem dX12_several_24 : decode cX12_several 24 = .ok (.iconst (-1), 1) := by decide +kernel
theorem dX12_several_25 : decode cX12_several 25 = .ok (.iastore, 1) := by decide +kernel
theorem dX12_several_26 : decode cX12_several 26 = .ok (.iinc 2 1, 3) := by decide +kernel
theorem dX12_several_29 : decode cX12_several 29 = .ok (.goto (-15), 3) := by decide +kernel
theorem dX12_several_32 : decode cX12_several 32 = .ok (.aload_n 0, 1) := by decide +kernel
theorem dX12_several_33 : decode cX12_several 33 = .ok (.iconst 0, 1) := by decide +kernel
theorem dX12_several_34 : decode cX12_several 34 = .ok (.iload_n 1, 1) := by decide +kernel
theorem dX12_several_35 : decode cX12_several 35 = .ok (.invokevirtual 287, 3) := by decide +kernel
theorem dX12_several_38 : decode cX12_several 38 = .ok (.ireturn, 1) := by decide +kernel
theorem dX12_rises_0 : decode cX12_rises 0 = .ok (.iload_n 1, 1) := by decide +kernel
theorem dX12_rises_1 : decode cX12_rises 1 = .ok (.iconst 0, 1) := by decide +kernel
theorem dX12_rises_2 : decode cX12_rises 2 = .ok (.iconst 1, 1) := by decide +kernel
theorem dX12_rises_3 : decode cX12_rises 3 = .ok (.invokestatic 7, 3) := by decide +kernel
theorem dX12_rises_6 : decode cX12_rises 6 = .ok (.ifCond .ne 6, 3) := by decide +kernel
theorem dX12_rises_9 : decode cX12_rises 9 = .ok (.bipush (-2), 2) := by decide +kernel
theorem dX12_rises_11 : decode cX12_rises 11 = .ok (.ireturn, 1) := by decide +kernel
theorem dX12_rises_12 : decode cX12_rises 12 = .ok (.iconst 0, 1) := by decide +kernel
theorem dX12_rises_13 : decode cX12_rises 13 = .ok (.istore_n 2, 1) := by decide +kernel
theorem dX12_rises_14 : decode cX12_rises 14 = .ok (.iconst 0, 1) := by decide +kernel
theorem dX12_rises_15 : decode cX12_rises 15 = .ok (.istore_n 3, 1) := by decide +kernel
theorem dX12_rises_16 : decode cX12_rises 16 = .ok (.iload_n 3, 1) := by decide +kernel
theorem dX12_rises_17 : decode cX12_rises 17 = .ok (.iconst 1, 1) := by decide +kernel
theorem dX12_rises_18 : decode cX12_rises 18 = .ok (.aload_n 0, 1) := by decide +kernel
theorem dX12_rises_19 : decode cX12_rises 19 = .ok (.getfield 1, 3) := by decide +kernel
theorem dX12_rises_22 : decode cX12_rises 22 = .ok (.ishl, 1) := by decide +kernel
theorem dX12_rises_23 : decode cX12_rises 23 = .ok (.if_icmp .ge 124, 3) := by decide +kernel
theorem dX12_rises_26 : decode cX12_rises 26 = .ok (.iconst (-1), 1) := by decide +kernel
theorem dX12_rises_27 : decode cX12_rises 27 = .ok (.istore 4, 2) := by decide +kernel
theorem dX12_rises_29 : decode cX12_rises 29 = .ok (.iconst 1, 1) := by decide +kernel
theorem dX12_rises_30 : decode cX12_rises 30 = .ok (.istore 5, 2) := by decide +kernel
theorem dX12_rises_32 : decode cX12_rises 32 = .ok (.iconst 0, 1) := by decide +kernel
theorem dX12_rises_33 : decode cX12_rises 33 = .ok (.istore 6, 2) := by decide +kernel
theorem dX12_rises_35 : decode cX12_rises 35 = .ok (.iload 6, 2) := by decide +kernel
theorem dX12_rises_37 : decode cX12_rises 37 = .ok (.aload_n 0, 1) := by decide +kernel
theorem dX12_rises_38 : decode cX12_rises 38 = .ok (.getfield 1, 3) := by decide +kernel
theorem dX12_rises_41 : decode cX12_rises 41 = .ok (.if_icmp .ge 82, 3) := by decide +kernel
theorem dX12_rises_44 : decode cX12_rises 44 = .ok (.iload_n 3, 1) := by decide +kernel
theorem dX12_rises_45 : decode cX12_rises 45 = .ok (.iload 6, 2) := by decide +kernel
theorem dX12_rises_47 : decode cX12_rises 47 = .ok (.ishr, 1) := by decide +kernel
theorem dX12_rises_48 : decode cX12_rises 48 = .ok (.iconst 1, 1) := by decide +kernel
theorem dX12_rises_49 : decode cX12_rises 49 = .ok (.iand, 1) := by decide +kernel
theorem dX12_rises_50 : decode cX12_rises 50 = .ok (.iconst 1, 1) := by decide +kernel
theorem dX12_rises_51 : decode cX12_rises 51 = .ok (.if_icmp .ne 66, 3) := by decide +kernel
theorem dX12_rises_54 : decode cX12_rises 54 = .ok (.iload 5, 2) := by decide +kernel
theorem dX12_rises_56 : decode cX12_rises 56 = .ok (.ifCond .eq 54, 3) := by decide +kernel
theorem dX12_rises_59 : decode cX12_rises 59 = .ok (.iload 4, 2) := by decide +kernel
theorem dX12_rises_61 : decode cX12_rises 61 = .ok (.iconst (-1), 1) := by decide +kernel
theorem dX12_rises_62 : decode cX12_rises 62 = .ok (.if_icmp .eq 44, 3) := by decide +kernel
theorem dX12_rises_65 : decode cX12_rises 65 = .ok (.iload_n 1, 1) := by decide +kernel
theorem dX12_rises_66 : decode cX12_rises 66 = .ok (.ifCond .ne 23, 3) := by decide +kernel
theorem dX12_rises_69 : decode cX12_rises 69 = .ok (.aload_n 0, 1) := by decide +kernel
theorem dX12_rises_70 : decode cX12_rises 70 = .ok (.getfield 14, 3) := by decide +kernel
theorem dX12_rises_73 : decode cX12_rises 73 = .ok (.iload 6, 2) := by decide +kernel
theorem dX12_rises_75 : decode cX12_rises 75 = .ok (.iaload, 1) := by decide +kernel
theorem dX12_rises_76 : decode cX12_rises 76 = .ok (.aload_n 0, 1) := by decide +kernel
theorem dX12_rises_77 : decode cX12_rises 77 = .ok (.getfield 14, 3) := by decide +kernel
theorem dX12_rises_80 : decode cX12_rises 80 = .ok (.iload 4, 2) := by decide +kernel
theorem dX12_rises_82 : decode cX12_rises 82 = .ok (.iaload, 1) := by decide +kernel
theorem dX12_rises_83 : decode cX12_rises 83 = .ok (.if_icmp .le 27, 3) := by decide +kernel
theorem dX12_rises_86 : decode cX12_rises 86 = .ok (.goto 20, 3) := by decide +kernel
theorem dX12_rises_89 : decode cX12_rises 89 = .ok (.aload_n 0, 1) := by decide +kernel
theorem dX12_rises_90 : decode cX12_rises 90 = .ok (.getfield 14, 3) := by decide +kernel
theorem dX12_rises_93 : decode cX12_rises 93 = .ok (.iload 6, 2) := by decide +kernel
theorem dX12_rises_95 : decode cX12_rises 95 = .ok (.iaload, 1) := by decide +kernel
theorem dX12_rises_96 : decode cX12_rises 96 = .ok (.aload_n 0, 1) := by decide +kernel
theorem dX12_rises_97 : decode cX12_rises 97 = .ok (.getfield 14, 3) := by decide +kernel
theorem dX12_rises_100 : decode cX12_rises 100 = .ok (.iload 4, 2) := by decide +kernel
theorem dX12_rises_102 : decode cX12_rises 102 = .ok (.iaload, 1) := by decide +kernel
theorem dX12_rises_103 : decode cX12_rises 103 = .ok (.if_icmp .ge 7, 3) := by decide +kernel
theorem dX12_rises_106 : decode cX12_rises 106 = .ok (.iconst 1, 1) := by decide +kernel
theorem dX12_rises_107 : decode cX12_rises 107 = .ok (.goto 4, 3) := by decide +kernel
theorem dX12_rises_110 : decode cX12_rises 110 = .ok (.iconst 0, 1) := by decide +kernel
theorem dX12_rises_111 : decode cX12_rises 111 = .ok (.istore 5, 2) := by decide +kernel
theorem dX12_rises_113 : decode cX12_rises 113 = .ok (.iload 6, 2) := by decide +kernel
theorem dX12_rises_115 : decode cX12_rises 115 = .ok (.istore 4, 2) := by decide +kernel
theorem dX12_rises_117 : decode cX12_rises 117 = .ok (.iinc 6 1, 3) := by decide +kernel
theorem dX12_rises_120 : decode cX12_rises 120 = .ok (.goto (-85), 3) := by decide +kernel
theorem dX12_rises_123 : decode cX12_rises 123 = .ok (.iload 5, 2) := by decide +kernel
theorem dX12_rises_125 : decode cX12_rises 125 = .ok (.ifCond .eq 14, 3) := by decide +kernel
theorem dX12_rises_128 : decode cX12_rises 128 = .ok (.iload_n 2, 1) := by decide +kernel
theorem dX12_rises_129 : decode cX12_rises 129 = .ok (.iload_n 3, 1) := by decide +kernel
theorem dX12_rises_130 : decode cX12_rises 130 = .ok (.invokestatic 281, 3) := by decide +kernel
theorem dX12_rises_133 : decode cX12_rises 133 = .ok (.invokestatic 290, 3) := by decide +kernel
theorem dX12_rises_136 : decode cX12_rises 136 = .ok (.goto 4, 3) := by decide +kernel
theorem dX12_rises_139 : decode cX12_rises 139 = .ok (.iload_n 2, 1) := by decide +kernel
theorem dX12_rises_140 : decode cX12_rises 140 = .ok (.istore_n 2, 1) := by decide +kernel
theorem dX12_rises_141 : decode cX12_rises 141 = .ok (.iinc 3 1, 3) := by decide +kernel
theorem dX12_rises_144 : decode cX12_rises 144 = .ok (.goto (-128), 3) := by decide +kernel
theorem dX12_rises_147 : decode cX12_rises 147 = .ok (.iload_n 2, 1) := by decide +kernel
theorem dX12_rises_148 : decode cX12_rises 148 = .ok (.ireturn, 1) := by decide +kernel
theorem dX12_orders_0 : decode cX12_orders 0 = .ok (.iload_n 2, 1) := by decide +kernel
theorem dX12_orders_1 : decode cX12_orders 1 = .ok (.aload_n 0, 1) := by decide +kernel
theorem dX12_orders_2 : decode cX12_orders 2 = .ok (.getfield 1, 3) := by decide +kernel
theorem dX12_orders_5 : decode cX12_orders 5 = .ok (.if_icmp .ne 172, 3) := by decide +kernel
theorem dX12_orders_8 : decode cX12_orders 8 = .ok (.aload_n 0, 1) := by decide +kernel
theorem dX12_orders_9 : decode cX12_orders 9 = .ok (.iload_n 1, 1) := by decide +kernel
theorem dX12_orders_10 : decode cX12_orders 10 = .ok (.invokevirtual 256, 3) := by decide +kernel
theorem dX12_orders_13 : decode cX12_orders 13 = .ok (.aload_n 0, 1) := by decide +kernel
theorem dX12_orders_14 : decode cX12_orders 14 = .ok (.getfield 188, 3) := by decide +kernel
theorem dX12_orders_17 : decode cX12_orders 17 = .ok (.aload_n 0, 1) := by decide +kernel
theorem dX12_orders_18 : decode cX12_orders 18 = .ok (.getfield 225, 3) := by decide +kernel
theorem dX12_orders_21 : decode cX12_orders 21 = .ok (.dup2, 1) := by decide +kernel
theorem dX12_orders_22 : decode cX12_orders 22 = .ok (.iaload, 1) := by decide +kernel
theorem dX12_orders_23 : decode cX12_orders 23 = .ok (.iconst 1, 1) := by decide +kernel
theorem dX12_orders_24 : decode cX12_orders 24 = .ok (.iadd, 1) := by decide +kernel
theorem dX12_orders_25 : decode cX12_orders 25 = .ok (.iastore, 1) := by decide +kernel
theorem dX12_orders_26 : decode cX12_orders 26 = .ok (.aload_n 0, 1) := by decide +kernel
theorem dX12_orders_27 : decode cX12_orders 27 = .ok (.dup, 1) := by decide +kernel
theorem dX12_orders_28 : decode cX12_orders 28 = .ok (.getfield 293, 3) := by decide +kernel
theorem dX12_orders_31 : decode cX12_orders 31 = .ok (.aload_n 0, 1) := by decide +kernel
theorem dX12_orders_32 : decode cX12_orders 32 = .ok (.getfield 225, 3) := by decide +kernel
theorem dX12_orders_35 : decode cX12_orders 35 = .ok (.iadd, 1) := by decide +kernel
theorem dX12_orders_36 : decode cX12_orders 36 = .ok (.putfield 293, 3) := by decide +kernel
theorem dX12_orders_39 : decode cX12_orders 39 = .ok (.aload_n 0, 1) := by decide +kernel
theorem dX12_orders_40 : decode cX12_orders 40 = .ok (.dup, 1) := by decide +kernel
theorem dX12_orders_41 : decode cX12_orders 41 = .ok (.getfield 296, 3) := by decide +kernel
theorem dX12_orders_44 : decode cX12_orders 44 = .ok (.iconst 1, 1) := by decide +kernel
theorem dX12_orders_45 : decode cX12_orders 45 = .ok (.iadd, 1) := by decide +kernel
theorem dX12_orders_46 : decode cX12_orders 46 = .ok (.putfield 296, 3) := by decide +kernel
theorem dX12_orders_49 : decode cX12_orders 49 = .ok (.iconst 1, 1) := by decide +kernel
theorem dX12_orders_50 : decode cX12_orders 50 = .ok (.istore 4, 2) := by decide +kernel
theorem dX12_orders_52 : decode cX12_orders 52 = .ok (.iconst 0, 1) := by decide +kernel
theorem dX12_orders_53 : decode cX12_orders 53 = .ok (.istore 5, 2) := by decide +kernel
theorem dX12_orders_55 : decode cX12_orders 55 = .ok (.iload 5, 2) := by decide +kernel
theorem dX12_orders_57 : decode cX12_orders 57 = .ok (.aload_n 0, 1) := by decide +kernel
theorem dX12_orders_58 : decode cX12_orders 58 = .ok (.getfield 1, 3) := by decide +kernel
theorem dX12_orders_61 : decode cX12_orders 61 = .ok (.if_icmp .ge 38, 3) := by decide +kernel
theorem dX12_orders_64 : decode cX12_orders 64 = .ok (.iload 4, 2) := by decide +kernel
theorem dX12_orders_66 : decode cX12_orders 66 = .ok (.ifCond .eq 24, 3) := by decide +kernel
theorem dX12_orders_69 : decode cX12_orders 69 = .ok (.aload_n 0, 1) := by decide +kernel
theorem dX12_orders_70 : decode cX12_orders 70 = .ok (.getfield 182, 3) := by decide +kernel
theorem dX12_orders_73 : decode cX12_orders 73 = .ok (.iload 5, 2) := by decide +kernel
theorem dX12_orders_75 : decode cX12_orders 75 = .ok (.iaload, 1) := by decide +kernel
theorem dX12_orders_76 : decode cX12_orders 76 = .ok (.aload_n 0, 1) := by decide +kernel
theorem dX12_orders_77 : decode cX12_orders 77 = .ok (.getfield 194, 3) := by decide +kernel
theorem dX12_orders_80 : decode cX12_orders 80 = .ok (.iload 5, 2) := by decide +kernel
theorem dX12_orders_82 : decode cX12_orders 82 = .ok (.iaload, 1) := by decide +kernel
theorem dX12_orders_83 : decode cX12_orders 83 = .ok (.if_icmp .ne 7, 3) := by decide +kernel
theorem dX12_orders_86 : decode cX12_orders 86 = .ok (.iconst 1, 1) := by decide +kernel
theorem dX12_orders_87 : decode cX12_orders 87 = .ok (.goto 4, 3) := by decide +kernel
theorem dX12_orders_90 : decode cX12_orders 90 = .ok (.iconst 0, 1) := by decide +kernel
theorem dX12_orders_91 : decode cX12_orders 91 = .ok (.istore 4, 2) := by decide +kernel
theorem dX12_orders_93 : decode cX12_orders 93 = .ok (.iinc 5 1, 3) := by decide +kernel
theorem dX12_orders_96 : decode cX12_orders 96 = .ok (.goto (-41), 3) := by decide +kernel
theorem dX12_orders_99 : decode cX12_orders 99 = .ok (.aload_n 0, 1) := by decide +kernel
theorem dX12_orders_100 : decode cX12_orders 100 = .ok (.dup, 1) := by decide +kernel
theorem dX12_orders_101 : decode cX12_orders 101 = .ok (.getfield 299, 3) := by decide +kernel
theorem dX12_orders_104 : decode cX12_orders 104 = .ok (.iload 4, 2) := by decide +kernel
theorem dX12_orders_106 : decode cX12_orders 106 = .ok (.ifCond .eq 7, 3) := by decide +kernel
theorem dX12_orders_109 : decode cX12_orders 109 = .ok (.iconst 1, 1) := by decide +kernel
theorem dX12_orders_110 : decode cX12_orders 110 = .ok (.goto 4, 3) := by decide +kernel
theorem dX12_orders_113 : decode cX12_orders 113 = .ok (.iconst 0, 1) := by decide +kernel
theorem dX12_orders_114 : decode cX12_orders 114 = .ok (.iadd, 1) := by decide +kernel
theorem dX12_orders_115 : decode cX12_orders 115 = .ok (.putfield 299, 3) := by decide +kernel
theorem dX12_orders_118 : decode cX12_orders 118 = .ok (.aload_n 0, 1) := by decide +kernel
theorem dX12_orders_119 : decode cX12_orders 119 = .ok (.getfield 302, 3) := by decide +kernel
theorem dX12_orders_122 : decode cX12_orders 122 = .ok (.ifCond .lt 14, 3) := by decide +kernel
theorem dX12_orders_125 : decode cX12_orders 125 = .ok (.aload_n 0, 1) := by decide +kernel
theorem dX12_orders_126 : decode cX12_orders 126 = .ok (.getfield 225, 3) := by decide +kernel
theorem dX12_orders_129 : decode cX12_orders 129 = .ok (.aload_n 0, 1) := by decide +kernel
theorem dX12_orders_130 : decode cX12_orders 130 = .ok (.getfield 302, 3) := by decide +kernel
theorem dX12_orders_133 : decode cX12_orders 133 = .ok (.if_icmp .ge 43, 3) := by decide +kernel
theorem dX12_orders_136 : decode cX12_orders 136 = .ok (.aload_n 0, 1) := by decide +kernel
theorem dX12_orders_137 : decode cX12_orders 137 = .ok (.aload_n 0, 1) := by decide +kernel
theorem dX12_orders_138 : decode cX12_orders 138 = .ok (.getfield 225, 3) := by decide +kernel
theorem dX12_orders_141 : decode cX12_orders 141 = .ok (.putfield 302, 3) := by decide +kernel
theorem dX12_orders_144 : decode cX12_orders 144 = .ok (.iconst 0, 1) := by decide +kernel
theorem dX12_orders_145 : decode cX12_orders 145 = .ok (.istore 5, 2) := by decide +kernel
theorem dX12_orders_147 : decode cX12_orders 147 = .ok (.iload 5, 2) := by decide +kernel
theorem dX12_orders_149 : decode cX12_orders 149 = .ok (.aload_n 0, 1) := by decide +kernel
theorem dX12_orders_150 : decode cX12_orders 150 = .ok (.getfield 1, 3) := by decide +kernel
theorem dX12_orders_153 : decode cX12_orders 153 = .ok (.if_icmp .ge 23, 3) := by decide +kernel
theorem dX12_orders_156 : decode cX12_orders 156 = .ok (.aload_n 0, 1) := by decide +kernel
theorem dX12_orders_157 : decode cX12_orders 157 = .ok (.getfield 191, 3) := by decide +kernel
theorem dX12_orders_160 : decode cX12_orders 160 = .ok (.iload 5, 2) := by decide +kernel
theorem dX12_orders_162 : decode cX12_orders 162 = .ok (.aload_n 0, 1) := by decide +kernel
theorem dX12_orders_163 : decode cX12_orders 163 = .ok (.getfield 176, 3) := by decide +kernel
theorem dX12_orders_166 : decode cX12_orders 166 = .ok (.iload 5, 2) := by decide +kernel
theorem dX12_orders_168 : decode cX12_orders 168 = .ok (.iaload, 1) := by decide +kernel
theorem dX12_orders_169 : decode cX12_orders 169 = .ok (.iastore, 1) := by decide +kernel
theorem dX12_orders_170 : decode cX12_orders 170 = .ok (.iinc 5 1, 3) := by decide +kernel
theorem dX12_orders_173 : decode cX12_orders 173 = .ok (.goto (-26), 3) := by decide +kernel
theorem dX12_orders_176 : decode cX12_orders 176 = .ok (.return_, 1) := by decide +kernel
theorem dX12_orders_177 : decode cX12_orders 177 = .ok (.iconst 0, 1) := by decide +kernel
theorem dX12_orders_178 : decode cX12_orders 178 = .ok (.istore 4, 2) := by decide +kernel
theorem dX12_orders_180 : decode cX12_orders 180 = .ok (.iload 4, 2) := by decide +kernel
theorem dX12_orders_182 : decode cX12_orders 182 = .ok (.aload_n 0, 1) := by decide +kernel
theorem dX12_orders_183 : decode cX12_orders 183 = .ok (.getfield 1, 3) := by decide +kernel
theorem dX12_orders_186 : decode cX12_orders 186 = .ok (.if_icmp .ge 40, 3) := by decide +kernel
theorem dX12_orders_189 : decode cX12_orders 189 = .ok (.iload_n 3, 1) := by decide +kernel
theorem dX12_orders_190 : decode cX12_orders 190 = .ok (.iload 4, 2) := by decide +kernel
theorem dX12_orders_192 : decode cX12_orders 192 = .ok (.ishr, 1) := by decide +kernel
theorem dX12_orders_193 : decode cX12_orders 193 = .ok (.iconst 1, 1) := by decide +kernel
theorem dX12_orders_194 : decode cX12_orders 194 = .ok (.iand, 1) := by decide +kernel
theorem dX12_orders_195 : decode cX12_orders 195 = .ok (.ifCond .ne 25, 3) := by decide +kernel
theorem dX12_orders_198 : decode cX12_orders 198 = .ok (.aload_n 0, 1) := by decide +kernel
theorem dX12_orders_199 : decode cX12_orders 199 = .ok (.getfield 176, 3) := by decide +kernel
theorem dX12_orders_202 : decode cX12_orders 202 = .ok (.iload_n 2, 1) := by decide +kernel
theorem dX12_orders_203 : decode cX12_orders 203 = .ok (.iload 4, 2) := by decide +kernel
theorem dX12_orders_205 : decode cX12_orders 205 = .ok (.iastore, 1) := by decide +kernel
theorem dX12_orders_206 : decode cX12_orders 206 = .ok (.aload_n 0, 1) := by decide +kernel
theorem dX12_orders_207 : decode cX12_orders 207 = .ok (.iload_n 1, 1) := by decide +kernel
theorem dX12_orders_208 : decode cX12_orders 208 = .ok (.iload_n 2, 1) := by decide +kernel
theorem dX12_orders_209 : decode cX12_orders 209 = .ok (.iconst 1, 1) := by decide +kernel
theorem dX12_orders_210 : decode cX12_orders 210 = .ok (.iadd, 1) := by decide +kernel
theorem dX12_orders_211 : decode cX12_orders 211 = .ok (.iload_n 3, 1) := by decide +kernel
theorem dX12_orders_212 : decode cX12_orders 212 = .ok (.iconst 1, 1) := by decide +kernel
theorem dX12_orders_213 : decode cX12_orders 213 = .ok (.iload 4, 2) := by decide +kernel
theorem dX12_orders_215 : decode cX12_orders 215 = .ok (.ishl, 1) := by decide +kernel
theorem dX12_orders_216 : decode cX12_orders 216 = .ok (.ior, 1) := by decide +kernel
theorem dX12_orders_217 : decode cX12_orders 217 = .ok (.invokevirtual 305, 3) := by decide +kernel
theorem dX12_orders_220 : decode cX12_orders 220 = .ok (.iinc 4 1, 3) := by decide +kernel
theorem dX12_orders_223 : decode cX12_orders 223 = .ok (.goto (-43), 3) := by decide +kernel
theorem dX12_orders_226 : decode cX12_orders 226 = .ok (.return_, 1) := by decide +kernel
theorem dX12_allOrders_0 : decode cX12_allOrders 0 = .ok (.aload_n 0, 1) := by decide +kernel
theorem dX12_allOrders_1 : decode cX12_allOrders 1 = .ok (.iload_n 1, 1) := by decide +kernel
theorem dX12_allOrders_2 : decode cX12_allOrders 2 = .ok (.invokevirtual 256, 3) := by decide +kernel
theorem dX12_allOrders_5 : decode cX12_allOrders 5 = .ok (.iconst 0, 1) := by decide +kernel
theorem dX12_allOrders_6 : decode cX12_allOrders 6 = .ok (.istore_n 2, 1) := by decide +kernel
theorem dX12_allOrders_7 : decode cX12_allOrders 7 = .ok (.iload_n 2, 1) := by decide +kernel
theorem dX12_allOrders_8 : decode cX12_allOrders 8 = .ok (.aload_n 0, 1) := by decide +kernel
theorem dX12_allOrders_9 : decode cX12_allOrders 9 = .ok (.getfield 1, 3) := by decide +kernel
theorem dX12_allOrders_12 : decode cX12_allOrders 12 = .ok (.if_icmp .ge 21, 3) := by decide +kernel
theorem dX12_allOrders_15 : decode cX12_allOrders 15 = .ok (.aload_n 0, 1) := by decide +kernel
theorem dX12_allOrders_16 : decode cX12_allOrders 16 = .ok (.getfield 194, 3) := by decide +kernel
theorem dX12_allOrders_19 : decode cX12_allOrders 19 = .ok (.iload_n 2, 1) := by decide +kernel
