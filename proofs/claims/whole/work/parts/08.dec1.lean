theorem dX11_leastOf_16 : decode cX11_leastOf 16 = .ok (.iconst 0, 1) := by decide +kernel
theorem dX11_leastOf_17 : decode cX11_leastOf 17 = .ok (.invokevirtual 244, 3) := by decide +kernel
theorem dX11_leastOf_20 : decode cX11_leastOf 20 = .ok (.aload_n 0, 1) := by decide +kernel
theorem dX11_leastOf_21 : decode cX11_leastOf 21 = .ok (.getfield 241, 3) := by decide +kernel
theorem dX11_leastOf_24 : decode cX11_leastOf 24 = .ok (.ireturn, 1) := by decide +kernel
theorem dX11_fewest_0 : decode cX11_fewest 0 = .ok (.iload_n 1, 1) := by decide +kernel
theorem dX11_fewest_1 : decode cX11_fewest 1 = .ok (.ifCond .lt 8, 3) := by decide +kernel
theorem dX11_fewest_4 : decode cX11_fewest 4 = .ok (.iload_n 1, 1) := by decide +kernel
theorem dX11_fewest_5 : decode cX11_fewest 5 = .ok (.iconst 1, 1) := by decide +kernel
theorem dX11_fewest_6 : decode cX11_fewest 6 = .ok (.if_icmp .le 6, 3) := by decide +kernel
theorem dX11_fewest_9 : decode cX11_fewest 9 = .ok (.bipush (-2), 2) := by decide +kernel
theorem dX11_fewest_11 : decode cX11_fewest 11 = .ok (.ireturn, 1) := by decide +kernel
theorem dX11_fewest_12 : decode cX11_fewest 12 = .ok (.aload_n 0, 1) := by decide +kernel
theorem dX11_fewest_13 : decode cX11_fewest 13 = .ok (.invokevirtual 178, 3) := by decide +kernel
theorem dX11_fewest_16 : decode cX11_fewest 16 = .ok (.aload_n 0, 1) := by decide +kernel
theorem dX11_fewest_17 : decode cX11_fewest 17 = .ok (.iload_n 1, 1) := by decide +kernel
theorem dX11_fewest_18 : decode cX11_fewest 18 = .ok (.aload_n 0, 1) := by decide +kernel
theorem dX11_fewest_19 : decode cX11_fewest 19 = .ok (.getfield 101, 3) := by decide +kernel
theorem dX11_fewest_22 : decode cX11_fewest 22 = .ok (.sipush 793, 3) := by decide +kernel
theorem dX11_fewest_25 : decode cX11_fewest 25 = .ok (.invokevirtual 191, 3) := by decide +kernel
theorem dX11_fewest_28 : decode cX11_fewest 28 = .ok (.ireturn, 1) := by decide +kernel
theorem dX11_lastOf_0 : decode cX11_lastOf 0 = .ok (.bipush 7, 2) := by decide +kernel
theorem dX11_lastOf_2 : decode cX11_lastOf 2 = .ok (.istore_n 1, 1) := by decide +kernel
theorem dX11_lastOf_3 : decode cX11_lastOf 3 = .ok (.iload_n 1, 1) := by decide +kernel
theorem dX11_lastOf_4 : decode cX11_lastOf 4 = .ok (.ifCond .le 19, 3) := by decide +kernel
theorem dX11_lastOf_7 : decode cX11_lastOf 7 = .ok (.iload_n 0, 1) := by decide +kernel
theorem dX11_lastOf_8 : decode cX11_lastOf 8 = .ok (.iload_n 1, 1) := by decide +kernel
theorem dX11_lastOf_9 : decode cX11_lastOf 9 = .ok (.ishr, 1) := by decide +kernel
theorem dX11_lastOf_10 : decode cX11_lastOf 10 = .ok (.iconst 1, 1) := by decide +kernel
theorem dX11_lastOf_11 : decode cX11_lastOf 11 = .ok (.iand, 1) := by decide +kernel
theorem dX11_lastOf_12 : decode cX11_lastOf 12 = .ok (.ifCond .eq 5, 3) := by decide +kernel
theorem dX11_lastOf_15 : decode cX11_lastOf 15 = .ok (.iload_n 1, 1) := by decide +kernel
theorem dX11_lastOf_16 : decode cX11_lastOf 16 = .ok (.ireturn, 1) := by decide +kernel
theorem dX11_lastOf_17 : decode cX11_lastOf 17 = .ok (.iinc 1 (-1), 3) := by decide +kernel
theorem dX11_lastOf_20 : decode cX11_lastOf 20 = .ok (.goto (-17), 3) := by decide +kernel
theorem dX11_lastOf_23 : decode cX11_lastOf 23 = .ok (.iconst 0, 1) := by decide +kernel
theorem dX11_lastOf_24 : decode cX11_lastOf 24 = .ok (.ireturn, 1) := by decide +kernel
theorem dX11_isRow_0 : decode cX11_isRow 0 = .ok (.iload_n 1, 1) := by decide +kernel
theorem dX11_isRow_1 : decode cX11_isRow 1 = .ok (.invokestatic 258, 3) := by decide +kernel
theorem dX11_isRow_4 : decode cX11_isRow 4 = .ok (.istore_n 2, 1) := by decide +kernel
theorem dX11_isRow_5 : decode cX11_isRow 5 = .ok (.iload_n 1, 1) := by decide +kernel
theorem dX11_isRow_6 : decode cX11_isRow 6 = .ok (.iconst 1, 1) := by decide +kernel
theorem dX11_isRow_7 : decode cX11_isRow 7 = .ok (.iload_n 2, 1) := by decide +kernel
theorem dX11_isRow_8 : decode cX11_isRow 8 = .ok (.ishl, 1) := by decide +kernel
theorem dX11_isRow_9 : decode cX11_isRow 9 = .ok (.iconst (-1), 1) := by decide +kernel
theorem dX11_isRow_10 : decode cX11_isRow 10 = .ok (.ixor, 1) := by decide +kernel
theorem dX11_isRow_11 : decode cX11_isRow 11 = .ok (.iand, 1) := by decide +kernel
theorem dX11_isRow_12 : decode cX11_isRow 12 = .ok (.istore_n 3, 1) := by decide +kernel
theorem dX11_isRow_13 : decode cX11_isRow 13 = .ok (.iload_n 3, 1) := by decide +kernel
theorem dX11_isRow_14 : decode cX11_isRow 14 = .ok (.ifCond .ne 5, 3) := by decide +kernel
theorem dX11_isRow_17 : decode cX11_isRow 17 = .ok (.iconst 1, 1) := by decide +kernel
theorem dX11_isRow_18 : decode cX11_isRow 18 = .ok (.ireturn, 1) := by decide +kernel
theorem dX11_isRow_19 : decode cX11_isRow 19 = .ok (.aload_n 0, 1) := by decide +kernel
theorem dX11_isRow_20 : decode cX11_isRow 20 = .ok (.getfield 67, 3) := by decide +kernel
theorem dX11_isRow_23 : decode cX11_isRow 23 = .ok (.iload_n 3, 1) := by decide +kernel
theorem dX11_isRow_24 : decode cX11_isRow 24 = .ok (.iaload, 1) := by decide +kernel
theorem dX11_isRow_25 : decode cX11_isRow 25 = .ok (.iconst 1, 1) := by decide +kernel
theorem dX11_isRow_26 : decode cX11_isRow 26 = .ok (.if_icmp .ne 22, 3) := by decide +kernel
theorem dX11_isRow_29 : decode cX11_isRow 29 = .ok (.aload_n 0, 1) := by decide +kernel
theorem dX11_isRow_30 : decode cX11_isRow 30 = .ok (.iconst 0, 1) := by decide +kernel
theorem dX11_isRow_31 : decode cX11_isRow 31 = .ok (.iload_n 2, 1) := by decide +kernel
theorem dX11_isRow_32 : decode cX11_isRow 32 = .ok (.iload_n 3, 1) := by decide +kernel
theorem dX11_isRow_33 : decode cX11_isRow 33 = .ok (.invokestatic 258, 3) := by decide +kernel
theorem dX11_isRow_36 : decode cX11_isRow 36 = .ok (.iconst 1, 1) := by decide +kernel
theorem dX11_isRow_37 : decode cX11_isRow 37 = .ok (.iconst 0, 1) := by decide +kernel
theorem dX11_isRow_38 : decode cX11_isRow 38 = .ok (.invokevirtual 131, 3) := by decide +kernel
theorem dX11_isRow_41 : decode cX11_isRow 41 = .ok (.ifCond .ne 7, 3) := by decide +kernel
theorem dX11_isRow_44 : decode cX11_isRow 44 = .ok (.iconst 1, 1) := by decide +kernel
theorem dX11_isRow_45 : decode cX11_isRow 45 = .ok (.goto 4, 3) := by decide +kernel
theorem dX11_isRow_48 : decode cX11_isRow 48 = .ok (.iconst 0, 1) := by decide +kernel
theorem dX11_isRow_49 : decode cX11_isRow 49 = .ok (.ireturn, 1) := by decide +kernel
theorem dX11_rowsThatMake_0 : decode cX11_rowsThatMake 0 = .ok (.iload_n 1, 1) := by decide +kernel
theorem dX11_rowsThatMake_1 : decode cX11_rowsThatMake 1 = .ok (.iload_n 1, 1) := by decide +kernel
theorem dX11_rowsThatMake_2 : decode cX11_rowsThatMake 2 = .ok (.ineg, 1) := by decide +kernel
theorem dX11_rowsThatMake_3 : decode cX11_rowsThatMake 3 = .ok (.iand, 1) := by decide +kernel
theorem dX11_rowsThatMake_4 : decode cX11_rowsThatMake 4 = .ok (.istore_n 2, 1) := by decide +kernel
theorem dX11_rowsThatMake_5 : decode cX11_rowsThatMake 5 = .ok (.bipush 8, 2) := by decide +kernel
theorem dX11_rowsThatMake_7 : decode cX11_rowsThatMake 7 = .ok (.istore_n 3, 1) := by decide +kernel
theorem dX11_rowsThatMake_8 : decode cX11_rowsThatMake 8 = .ok (.iload_n 1, 1) := by decide +kernel
theorem dX11_rowsThatMake_9 : decode cX11_rowsThatMake 9 = .ok (.iconst 1, 1) := by decide +kernel
theorem dX11_rowsThatMake_10 : decode cX11_rowsThatMake 10 = .ok (.isub, 1) := by decide +kernel
theorem dX11_rowsThatMake_11 : decode cX11_rowsThatMake 11 = .ok (.iload_n 1, 1) := by decide +kernel
theorem dX11_rowsThatMake_12 : decode cX11_rowsThatMake 12 = .ok (.iand, 1) := by decide +kernel
theorem dX11_rowsThatMake_13 : decode cX11_rowsThatMake 13 = .ok (.istore 4, 2) := by decide +kernel
theorem dX11_rowsThatMake_15 : decode cX11_rowsThatMake 15 = .ok (.iload 4, 2) := by decide +kernel
theorem dX11_rowsThatMake_17 : decode cX11_rowsThatMake 17 = .ok (.ifCond .le 50, 3) := by decide +kernel
theorem dX11_rowsThatMake_20 : decode cX11_rowsThatMake 20 = .ok (.iload 4, 2) := by decide +kernel
theorem dX11_rowsThatMake_22 : decode cX11_rowsThatMake 22 = .ok (.iload_n 2, 1) := by decide +kernel
theorem dX11_rowsThatMake_23 : decode cX11_rowsThatMake 23 = .ok (.iand, 1) := by decide +kernel
theorem dX11_rowsThatMake_24 : decode cX11_rowsThatMake 24 = .ok (.ifCond .eq 32, 3) := by decide +kernel
theorem dX11_rowsThatMake_27 : decode cX11_rowsThatMake 27 = .ok (.aload_n 0, 1) := by decide +kernel
theorem dX11_rowsThatMake_28 : decode cX11_rowsThatMake 28 = .ok (.getfield 67, 3) := by decide +kernel
theorem dX11_rowsThatMake_31 : decode cX11_rowsThatMake 31 = .ok (.iload 4, 2) := by decide +kernel
theorem dX11_rowsThatMake_33 : decode cX11_rowsThatMake 33 = .ok (.iaload, 1) := by decide +kernel
theorem dX11_rowsThatMake_34 : decode cX11_rowsThatMake 34 = .ok (.iconst 1, 1) := by decide +kernel
theorem dX11_rowsThatMake_35 : decode cX11_rowsThatMake 35 = .ok (.if_icmp .ne 21, 3) := by decide +kernel
theorem dX11_rowsThatMake_38 : decode cX11_rowsThatMake 38 = .ok (.iload_n 3, 1) := by decide +kernel
theorem dX11_rowsThatMake_39 : decode cX11_rowsThatMake 39 = .ok (.iconst 1, 1) := by decide +kernel
theorem dX11_rowsThatMake_40 : decode cX11_rowsThatMake 40 = .ok (.aload_n 0, 1) := by decide +kernel
theorem dX11_rowsThatMake_41 : decode cX11_rowsThatMake 41 = .ok (.getfield 67, 3) := by decide +kernel
theorem dX11_rowsThatMake_44 : decode cX11_rowsThatMake 44 = .ok (.iload_n 1, 1) := by decide +kernel
theorem dX11_rowsThatMake_45 : decode cX11_rowsThatMake 45 = .ok (.iload 4, 2) := by decide +kernel
theorem dX11_rowsThatMake_47 : decode cX11_rowsThatMake 47 = .ok (.iconst (-1), 1) := by decide +kernel
theorem dX11_rowsThatMake_48 : decode cX11_rowsThatMake 48 = .ok (.ixor, 1) := by decide +kernel
theorem dX11_rowsThatMake_49 : decode cX11_rowsThatMake 49 = .ok (.iand, 1) := by decide +kernel
theorem dX11_rowsThatMake_50 : decode cX11_rowsThatMake 50 = .ok (.iaload, 1) := by decide +kernel
theorem dX11_rowsThatMake_51 : decode cX11_rowsThatMake 51 = .ok (.iadd, 1) := by decide +kernel
theorem dX11_rowsThatMake_52 : decode cX11_rowsThatMake 52 = .ok (.invokestatic 169, 3) := by decide +kernel
theorem dX11_rowsThatMake_55 : decode cX11_rowsThatMake 55 = .ok (.istore_n 3, 1) := by decide +kernel
theorem dX11_rowsThatMake_56 : decode cX11_rowsThatMake 56 = .ok (.iload 4, 2) := by decide +kernel
theorem dX11_rowsThatMake_58 : decode cX11_rowsThatMake 58 = .ok (.iconst 1, 1) := by decide +kernel
theorem dX11_rowsThatMake_59 : decode cX11_rowsThatMake 59 = .ok (.isub, 1) := by decide +kernel
theorem dX11_rowsThatMake_60 : decode cX11_rowsThatMake 60 = .ok (.iload_n 1, 1) := by decide +kernel
theorem dX11_rowsThatMake_61 : decode cX11_rowsThatMake 61 = .ok (.iand, 1) := by decide +kernel
theorem dX11_rowsThatMake_62 : decode cX11_rowsThatMake 62 = .ok (.istore 4, 2) := by decide +kernel
theorem dX11_rowsThatMake_64 : decode cX11_rowsThatMake 64 = .ok (.goto (-49), 3) := by decide +kernel
theorem dX11_rowsThatMake_67 : decode cX11_rowsThatMake 67 = .ok (.iload_n 3, 1) := by decide +kernel
theorem dX11_rowsThatMake_68 : decode cX11_rowsThatMake 68 = .ok (.ireturn, 1) := by decide +kernel
theorem dX11_fillCover_0 : decode cX11_fillCover 0 = .ok (.aload_n 0, 1) := by decide +kernel
theorem dX11_fillCover_1 : decode cX11_fillCover 1 = .ok (.getfield 67, 3) := by decide +kernel
theorem dX11_fillCover_4 : decode cX11_fillCover 4 = .ok (.iconst 0, 1) := by decide +kernel
theorem dX11_fillCover_5 : decode cX11_fillCover 5 = .ok (.iconst 0, 1) := by decide +kernel
theorem dX11_fillCover_6 : decode cX11_fillCover 6 = .ok (.iastore, 1) := by decide +kernel
theorem dX11_fillCover_7 : decode cX11_fillCover 7 = .ok (.iconst 1, 1) := by decide +kernel
theorem dX11_fillCover_8 : decode cX11_fillCover 8 = .ok (.istore_n 1, 1) := by decide +kernel
theorem dX11_fillCover_9 : decode cX11_fillCover 9 = .ok (.iload_n 1, 1) := by decide +kernel
theorem dX11_fillCover_10 : decode cX11_fillCover 10 = .ok (.iconst 1, 1) := by decide +kernel
theorem dX11_fillCover_11 : decode cX11_fillCover 11 = .ok (.aload_n 0, 1) := by decide +kernel
theorem dX11_fillCover_12 : decode cX11_fillCover 12 = .ok (.getfield 101, 3) := by decide +kernel
theorem dX11_fillCover_15 : decode cX11_fillCover 15 = .ok (.ishl, 1) := by decide +kernel
theorem dX11_fillCover_16 : decode cX11_fillCover 16 = .ok (.if_icmp .ge 32, 3) := by decide +kernel
theorem dX11_fillCover_19 : decode cX11_fillCover 19 = .ok (.aload_n 0, 1) := by decide +kernel
theorem dX11_fillCover_20 : decode cX11_fillCover 20 = .ok (.getfield 67, 3) := by decide +kernel
theorem dX11_fillCover_23 : decode cX11_fillCover 23 = .ok (.iload_n 1, 1) := by decide +kernel
theorem dX11_fillCover_24 : decode cX11_fillCover 24 = .ok (.aload_n 0, 1) := by decide +kernel
theorem dX11_fillCover_25 : decode cX11_fillCover 25 = .ok (.iload_n 1, 1) := by decide +kernel
theorem dX11_fillCover_26 : decode cX11_fillCover 26 = .ok (.invokevirtual 252, 3) := by decide +kernel
theorem dX11_fillCover_29 : decode cX11_fillCover 29 = .ok (.ifCond .eq 7, 3) := by decide +kernel
theorem dX11_fillCover_32 : decode cX11_fillCover 32 = .ok (.iconst 1, 1) := by decide +kernel
theorem dX11_fillCover_33 : decode cX11_fillCover 33 = .ok (.goto 8, 3) := by decide +kernel
theorem dX11_fillCover_36 : decode cX11_fillCover 36 = .ok (.aload_n 0, 1) := by decide +kernel
theorem dX11_fillCover_37 : decode cX11_fillCover 37 = .ok (.iload_n 1, 1) := by decide +kernel
theorem dX11_fillCover_38 : decode cX11_fillCover 38 = .ok (.invokevirtual 255, 3) := by decide +kernel
theorem dX11_fillCover_41 : decode cX11_fillCover 41 = .ok (.iastore, 1) := by decide +kernel
theorem dX11_fillCover_42 : decode cX11_fillCover 42 = .ok (.iinc 1 1, 3) := by decide +kernel
theorem dX11_fillCover_45 : decode cX11_fillCover 45 = .ok (.goto (-36), 3) := by decide +kernel
theorem dX11_fillCover_48 : decode cX11_fillCover 48 = .ok (.return_, 1) := by decide +kernel
theorem dJ6_bitCount_0f7a4_0 : decode cJ6_bitCount_0f7a4 0 = .ok (.iload_n 0, 1) := by decide +kernel
theorem dJ6_bitCount_0f7a4_1 : decode cJ6_bitCount_0f7a4 1 = .ok (.iload_n 0, 1) := by decide +kernel
theorem dJ6_bitCount_0f7a4_2 : decode cJ6_bitCount_0f7a4 2 = .ok (.iconst 1, 1) := by decide +kernel
theorem dJ6_bitCount_0f7a4_3 : decode cJ6_bitCount_0f7a4 3 = .ok (.iushr, 1) := by decide +kernel
theorem dJ6_bitCount_0f7a4_4 : decode cJ6_bitCount_0f7a4 4 = .ok (.ldc_w 265, 3) := by decide +kernel
theorem dJ6_bitCount_0f7a4_7 : decode cJ6_bitCount_0f7a4 7 = .ok (.iand, 1) := by decide +kernel
theorem dJ6_bitCount_0f7a4_8 : decode cJ6_bitCount_0f7a4 8 = .ok (.isub, 1) := by decide +kernel
theorem dJ6_bitCount_0f7a4_9 : decode cJ6_bitCount_0f7a4 9 = .ok (.istore_n 0, 1) := by decide +kernel
theorem dJ6_bitCount_0f7a4_10 : decode cJ6_bitCount_0f7a4 10 = .ok (.iload_n 0, 1) := by decide +kernel
theorem dJ6_bitCount_0f7a4_11 : decode cJ6_bitCount_0f7a4 11 = .ok (.ldc_w 266, 3) := by decide +kernel
theorem dJ6_bitCount_0f7a4_14 : decode cJ6_bitCount_0f7a4 14 = .ok (.iand, 1) := by decide +kernel
theorem dJ6_bitCount_0f7a4_15 : decode cJ6_bitCount_0f7a4 15 = .ok (.iload_n 0, 1) := by decide +kernel
theorem dJ6_bitCount_0f7a4_16 : decode cJ6_bitCount_0f7a4 16 = .ok (.iconst 2, 1) := by decide +kernel
theorem dJ6_bitCount_0f7a4_17 : decode cJ6_bitCount_0f7a4 17 = .ok (.iushr, 1) := by decide +kernel
theorem dJ6_bitCount_0f7a4_18 : decode cJ6_bitCount_0f7a4 18 = .ok (.ldc_w 266, 3) := by decide +kernel
theorem dJ6_bitCount_0f7a4_21 : decode cJ6_bitCount_0f7a4 21 = .ok (.iand, 1) := by decide +kernel
theorem dJ6_bitCount_0f7a4_22 : decode cJ6_bitCount_0f7a4 22 = .ok (.iadd, 1) := by decide +kernel
theorem dJ6_bitCount_0f7a4_23 : decode cJ6_bitCount_0f7a4 23 = .ok (.istore_n 0, 1) := by decide +kernel
theorem dJ6_bitCount_0f7a4_24 : decode cJ6_bitCount_0f7a4 24 = .ok (.iload_n 0, 1) := by decide +kernel
theorem dJ6_bitCount_0f7a4_25 : decode cJ6_bitCount_0f7a4 25 = .ok (.iload_n 0, 1) := by decide +kernel
theorem dJ6_bitCount_0f7a4_26 : decode cJ6_bitCount_0f7a4 26 = .ok (.iconst 4, 1) := by decide +kernel
theorem dJ6_bitCount_0f7a4_27 : decode cJ6_bitCount_0f7a4 27 = .ok (.iushr, 1) := by decide +kernel
theorem dJ6_bitCount_0f7a4_28 : decode cJ6_bitCount_0f7a4 28 = .ok (.iadd, 1) := by decide +kernel
theorem dJ6_bitCount_0f7a4_29 : decode cJ6_bitCount_0f7a4 29 = .ok (.ldc_w 267, 3) := by decide +kernel
theorem dJ6_bitCount_0f7a4_32 : decode cJ6_bitCount_0f7a4 32 = .ok (.iand, 1) := by decide +kernel
theorem dJ6_bitCount_0f7a4_33 : decode cJ6_bitCount_0f7a4 33 = .ok (.istore_n 0, 1) := by decide +kernel
theorem dJ6_bitCount_0f7a4_34 : decode cJ6_bitCount_0f7a4 34 = .ok (.iload_n 0, 1) := by decide +kernel
theorem dJ6_bitCount_0f7a4_35 : decode cJ6_bitCount_0f7a4 35 = .ok (.iload_n 0, 1) := by decide +kernel
theorem dJ6_bitCount_0f7a4_36 : decode cJ6_bitCount_0f7a4 36 = .ok (.bipush 8, 2) := by decide +kernel
theorem dJ6_bitCount_0f7a4_38 : decode cJ6_bitCount_0f7a4 38 = .ok (.iushr, 1) := by decide +kernel
theorem dJ6_bitCount_0f7a4_39 : decode cJ6_bitCount_0f7a4 39 = .ok (.iadd, 1) := by decide +kernel
theorem dJ6_bitCount_0f7a4_40 : decode cJ6_bitCount_0f7a4 40 = .ok (.istore_n 0, 1) := by decide +kernel
theorem dJ6_bitCount_0f7a4_41 : decode cJ6_bitCount_0f7a4 41 = .ok (.iload_n 0, 1) := by decide +kernel
theorem dJ6_bitCount_0f7a4_42 : decode cJ6_bitCount_0f7a4 42 = .ok (.iload_n 0, 1) := by decide +kernel
theorem dJ6_bitCount_0f7a4_43 : decode cJ6_bitCount_0f7a4 43 = .ok (.bipush 16, 2) := by decide +kernel
theorem dJ6_bitCount_0f7a4_45 : decode cJ6_bitCount_0f7a4 45 = .ok (.iushr, 1) := by decide +kernel
theorem dJ6_bitCount_0f7a4_46 : decode cJ6_bitCount_0f7a4 46 = .ok (.iadd, 1) := by decide +kernel
theorem dJ6_bitCount_0f7a4_47 : decode cJ6_bitCount_0f7a4 47 = .ok (.istore_n 0, 1) := by decide +kernel
theorem dJ6_bitCount_0f7a4_48 : decode cJ6_bitCount_0f7a4 48 = .ok (.iload_n 0, 1) := by decide +kernel
theorem dJ6_bitCount_0f7a4_49 : decode cJ6_bitCount_0f7a4 49 = .ok (.bipush 63, 2) := by decide +kernel
theorem dJ6_bitCount_0f7a4_51 : decode cJ6_bitCount_0f7a4 51 = .ok (.iand, 1) := by decide +kernel
theorem dJ6_bitCount_0f7a4_52 : decode cJ6_bitCount_0f7a4 52 = .ok (.ireturn, 1) := by decide +kernel
theorem dX11_longest_0 : decode cX11_longest 0 = .ok (.iload_n 1, 1) := by decide +kernel
theorem dX11_longest_1 : decode cX11_longest 1 = .ok (.ifCond .lt 8, 3) := by decide +kernel
theorem dX11_longest_4 : decode cX11_longest 4 = .ok (.iload_n 1, 1) := by decide +kernel
theorem dX11_longest_5 : decode cX11_longest 5 = .ok (.iconst 3, 1) := by decide +kernel
theorem dX11_longest_6 : decode cX11_longest 6 = .ok (.if_icmp .le 6, 3) := by decide +kernel
theorem dX11_longest_9 : decode cX11_longest 9 = .ok (.bipush (-2), 2) := by decide +kernel
theorem dX11_longest_11 : decode cX11_longest 11 = .ok (.ireturn, 1) := by decide +kernel
theorem dX11_longest_12 : decode cX11_longest 12 = .ok (.aload_n 0, 1) := by decide +kernel
theorem dX11_longest_13 : decode cX11_longest 13 = .ok (.invokevirtual 195, 3) := by decide +kernel
theorem dX11_longest_16 : decode cX11_longest 16 = .ok (.iconst 0, 1) := by decide +kernel
theorem dX11_longest_17 : decode cX11_longest 17 = .ok (.istore_n 2, 1) := by decide +kernel
theorem dX11_longest_18 : decode cX11_longest 18 = .ok (.iconst 0, 1) := by decide +kernel
theorem dX11_longest_19 : decode cX11_longest 19 = .ok (.istore_n 3, 1) := by decide +kernel
theorem dX11_longest_20 : decode cX11_longest 20 = .ok (.iconst 0, 1) := by decide +kernel
theorem dX11_longest_21 : decode cX11_longest 21 = .ok (.istore 4, 2) := by decide +kernel
theorem dX11_longest_23 : decode cX11_longest 23 = .ok (.iconst 0, 1) := by decide +kernel
theorem dX11_longest_24 : decode cX11_longest 24 = .ok (.istore 5, 2) := by decide +kernel
theorem dX11_longest_26 : decode cX11_longest 26 = .ok (.iconst 1, 1) := by decide +kernel
theorem dX11_longest_27 : decode cX11_longest 27 = .ok (.istore 6, 2) := by decide +kernel
theorem dX11_longest_29 : decode cX11_longest 29 = .ok (.iload 6, 2) := by decide +kernel
theorem dX11_longest_31 : decode cX11_longest 31 = .ok (.iconst 1, 1) := by decide +kernel
theorem dX11_longest_32 : decode cX11_longest 32 = .ok (.aload_n 0, 1) := by decide +kernel
theorem dX11_longest_33 : decode cX11_longest 33 = .ok (.getfield 101, 3) := by decide +kernel
theorem dX11_longest_36 : decode cX11_longest 36 = .ok (.ishl, 1) := by decide +kernel
theorem dX11_longest_37 : decode cX11_longest 37 = .ok (.if_icmp .ge 96, 3) := by decide +kernel
theorem dX11_longest_40 : decode cX11_longest 40 = .ok (.iload 6, 2) := by decide +kernel
theorem dX11_longest_42 : decode cX11_longest 42 = .ok (.invokestatic 198, 3) := by decide +kernel
theorem dX11_longest_45 : decode cX11_longest 45 = .ok (.istore 7, 2) := by decide +kernel
theorem dX11_longest_47 : decode cX11_longest 47 = .ok (.aload_n 0, 1) := by decide +kernel
theorem dX11_longest_48 : decode cX11_longest 48 = .ok (.getfield 67, 3) := by decide +kernel
theorem dX11_longest_51 : decode cX11_longest 51 = .ok (.iload 6, 2) := by decide +kernel
theorem dX11_longest_53 : decode cX11_longest 53 = .ok (.iaload, 1) := by decide +kernel
theorem dX11_longest_54 : decode cX11_longest 54 = .ok (.iconst 1, 1) := by decide +kernel
theorem dX11_longest_55 : decode cX11_longest 55 = .ok (.if_icmp .ne 72, 3) := by decide +kernel
theorem dX11_longest_58 : decode cX11_longest 58 = .ok (.iload 7, 2) := by decide +kernel
theorem dX11_longest_60 : decode cX11_longest 60 = .ok (.iload_n 2, 1) := by decide +kernel
theorem dX11_longest_61 : decode cX11_longest 61 = .ok (.if_icmp .ge 6, 3) := by decide +kernel
theorem dX11_longest_64 : decode cX11_longest 64 = .ok (.goto 63, 3) := by decide +kernel
theorem dX11_longest_67 : decode cX11_longest 67 = .ok (.iload 7, 2) := by decide +kernel
theorem dX11_longest_69 : decode cX11_longest 69 = .ok (.iload_n 2, 1) := by decide +kernel
theorem dX11_longest_70 : decode cX11_longest 70 = .ok (.if_icmp .le 7, 3) := by decide +kernel
theorem dX11_longest_73 : decode cX11_longest 73 = .ok (.iconst 1, 1) := by decide +kernel
theorem dX11_longest_74 : decode cX11_longest 74 = .ok (.goto 4, 3) := by decide +kernel
theorem dX11_longest_77 : decode cX11_longest 77 = .ok (.iconst 0, 1) := by decide +kernel
theorem dX11_longest_78 : decode cX11_longest 78 = .ok (.istore 8, 2) := by decide +kernel
theorem dX11_longest_80 : decode cX11_longest 80 = .ok (.iload 7, 2) := by decide +kernel
theorem dX11_longest_82 : decode cX11_longest 82 = .ok (.istore_n 2, 1) := by decide +kernel
theorem dX11_longest_83 : decode cX11_longest 83 = .ok (.iload 8, 2) := by decide +kernel
theorem dX11_longest_85 : decode cX11_longest 85 = .ok (.ifCond .eq 7, 3) := by decide +kernel
theorem dX11_longest_88 : decode cX11_longest 88 = .ok (.iconst 1, 1) := by decide +kernel
theorem dX11_longest_89 : decode cX11_longest 89 = .ok (.goto 6, 3) := by decide +kernel
theorem dX11_longest_92 : decode cX11_longest 92 = .ok (.iload_n 3, 1) := by decide +kernel
theorem dX11_longest_93 : decode cX11_longest 93 = .ok (.iconst 1, 1) := by decide +kernel
theorem dX11_longest_94 : decode cX11_longest 94 = .ok (.iadd, 1) := by decide +kernel
theorem dX11_longest_95 : decode cX11_longest 95 = .ok (.istore_n 3, 1) := by decide +kernel
theorem dX11_longest_96 : decode cX11_longest 96 = .ok (.iload 8, 2) := by decide +kernel
theorem dX11_longest_98 : decode cX11_longest 98 = .ok (.ifCond .eq 8, 3) := by decide +kernel
theorem dX11_longest_101 : decode cX11_longest 101 = .ok (.iload 6, 2) := by decide +kernel
theorem dX11_longest_103 : decode cX11_longest 103 = .ok (.goto 8, 3) := by decide +kernel
theorem dX11_longest_106 : decode cX11_longest 106 = .ok (.iload 4, 2) := by decide +kernel
theorem dX11_longest_108 : decode cX11_longest 108 = .ok (.iload 6, 2) := by decide +kernel
theorem dX11_longest_110 : decode cX11_longest 110 = .ok (.iand, 1) := by decide +kernel
theorem dX11_longest_111 : decode cX11_longest 111 = .ok (.istore 4, 2) := by decide +kernel
theorem dX11_longest_113 : decode cX11_longest 113 = .ok (.iload 8, 2) := by decide +kernel
theorem dX11_longest_115 : decode cX11_longest 115 = .ok (.ifCond .eq 8, 3) := by decide +kernel
theorem dX11_longest_118 : decode cX11_longest 118 = .ok (.iload 6, 2) := by decide +kernel
theorem dX11_longest_120 : decode cX11_longest 120 = .ok (.goto 5, 3) := by decide +kernel
theorem dX11_longest_123 : decode cX11_longest 123 = .ok (.iload 5, 2) := by decide +kernel
theorem dX11_longest_125 : decode cX11_longest 125 = .ok (.istore 5, 2) := by decide +kernel
theorem dX11_longest_127 : decode cX11_longest 127 = .ok (.iinc 6 1, 3) := by decide +kernel
theorem dX11_longest_130 : decode cX11_longest 130 = .ok (.goto (-101), 3) := by decide +kernel
theorem dX11_longest_133 : decode cX11_longest 133 = .ok (.iload_n 1, 1) := by decide +kernel
theorem dX11_longest_134 : decode cX11_longest 134 = .ok (.tableswitch 33 0 2 #[26, 28, 30], 26) := by decide +kernel
theorem dX11_longest_160 : decode cX11_longest 160 = .ok (.iload_n 2, 1) := by decide +kernel
theorem dX11_longest_161 : decode cX11_longest 161 = .ok (.ireturn, 1) := by decide +kernel
theorem dX11_longest_162 : decode cX11_longest 162 = .ok (.iload_n 3, 1) := by decide +kernel
theorem dX11_longest_163 : decode cX11_longest 163 = .ok (.ireturn, 1) := by decide +kernel
theorem dX11_longest_164 : decode cX11_longest 164 = .ok (.iload 4, 2) := by decide +kernel
theorem dX11_longest_166 : decode cX11_longest 166 = .ok (.ireturn, 1) := by decide +kernel
theorem dX11_longest_167 : decode cX11_longest 167 = .ok (.iload 5, 2) := by decide +kernel
theorem dX11_longest_169 : decode cX11_longest 169 = .ok (.ireturn, 1) := by decide +kernel
theorem dX11_several_0 : decode cX11_several 0 = .ok (.iload_n 1, 1) := by decide +kernel
theorem dX11_several_1 : decode cX11_several 1 = .ok (.iconst 1, 1) := by decide +kernel
theorem dX11_several_2 : decode cX11_several 2 = .ok (.if_icmp .lt 8, 3) := by decide +kernel
theorem dX11_several_5 : decode cX11_several 5 = .ok (.iload_n 1, 1) := by decide +kernel
theorem dX11_several_6 : decode cX11_several 6 = .ok (.iconst 3, 1) := by decide +kernel
theorem dX11_several_7 : decode cX11_several 7 = .ok (.if_icmp .le 6, 3) := by decide +kernel
theorem dX11_several_10 : decode cX11_several 10 = .ok (.bipush (-2), 2) := by decide +kernel
theorem dX11_several_12 : decode cX11_several 12 = .ok (.ireturn, 1) := by decide +kernel
theorem dX11_several_13 : decode cX11_several 13 = .ok (.aload_n 0, 1) := by decide +kernel
theorem dX11_several_14 : decode cX11_several 14 = .ok (.invokevirtual 195, 3) := by decide +kernel
theorem dX11_several_17 : decode cX11_several 17 = .ok (.iconst 0, 1) := by decide +kernel
theorem dX11_several_18 : decode cX11_several 18 = .ok (.istore_n 2, 1) := by decide +kernel
theorem dX11_several_19 : decode cX11_several 19 = .ok (.iconst 0, 1) := by decide +kernel
theorem dX11_several_20 : decode cX11_several 20 = .ok (.istore_n 3, 1) := by decide +kernel
theorem dX11_several_21 : decode cX11_several 21 = .ok (.iload_n 3, 1) := by decide +kernel
theorem dX11_several_22 : decode cX11_several 22 = .ok (.iconst 1, 1) := by decide +kernel
theorem dX11_several_23 : decode cX11_several 23 = .ok (.aload_n 0, 1) := by decide +kernel
theorem dX11_several_24 : decode cX11_several 24 = .ok (.getfield 101, 3) := by decide +kernel
theorem dX11_several_27 : decode cX11_several 27 = .ok (.ishl, 1) := by decide +kernel
theorem dX11_several_28 : decode cX11_several 28 = .ok (.if_icmp .ge 28, 3) := by decide +kernel
theorem dX11_several_31 : decode cX11_several 31 = .ok (.aload_n 0, 1) := by decide +kernel
theorem dX11_several_32 : decode cX11_several 32 = .ok (.getfield 67, 3) := by decide +kernel
theorem dX11_several_35 : decode cX11_several 35 = .ok (.iload_n 3, 1) := by decide +kernel
theorem dX11_several_36 : decode cX11_several 36 = .ok (.iaload, 1) := by decide +kernel
theorem dX11_several_37 : decode cX11_several 37 = .ok (.iload_n 1, 1) := by decide +kernel
theorem dX11_several_38 : decode cX11_several 38 = .ok (.if_icmp .gt 12, 3) := by decide +kernel
theorem dX11_several_41 : decode cX11_several 41 = .ok (.iload_n 2, 1) := by decide +kernel
theorem dX11_several_42 : decode cX11_several 42 = .ok (.iload_n 3, 1) := by decide +kernel
theorem dX11_several_43 : decode cX11_several 43 = .ok (.invokestatic 198, 3) := by decide +kernel
theorem dX11_several_46 : decode cX11_several 46 = .ok (.invokestatic 175, 3) := by decide +kernel
theorem dX11_several_49 : decode cX11_several 49 = .ok (.istore_n 2, 1) := by decide +kernel
theorem dX11_several_50 : decode cX11_several 50 = .ok (.iinc 3 1, 3) := by decide +kernel
theorem dX11_several_53 : decode cX11_several 53 = .ok (.goto (-32), 3) := by decide +kernel
theorem dX11_several_56 : decode cX11_several 56 = .ok (.iload_n 2, 1) := by decide +kernel
theorem dX11_several_57 : decode cX11_several 57 = .ok (.ireturn, 1) := by decide +kernel
theorem dJ7_fill_53178_0 : decode cJ7_fill_53178 0 = .ok (.iconst 0, 1) := by decide +kernel
theorem dJ7_fill_53178_1 : decode cJ7_fill_53178 1 = .ok (.istore_n 2, 1) := by decide +kernel
theorem dJ7_fill_53178_2 : decode cJ7_fill_53178 2 = .ok (.aload_n 0, 1) := by decide +kernel
theorem dJ7_fill_53178_3 : decode cJ7_fill_53178 3 = .ok (.arraylength, 1) := by decide +kernel
theorem dJ7_fill_53178_4 : decode cJ7_fill_53178 4 = .ok (.istore_n 3, 1) := by decide +kernel
theorem dJ7_fill_53178_5 : decode cJ7_fill_53178 5 = .ok (.iload_n 2, 1) := by decide +kernel
theorem dJ7_fill_53178_6 : decode cJ7_fill_53178 6 = .ok (.iload_n 3, 1) := by decide +kernel
theorem dJ7_fill_53178_7 : decode cJ7_fill_53178 7 = .ok (.if_icmp .ge 13, 3) := by decide +kernel
theorem dJ7_fill_53178_10 : decode cJ7_fill_53178 10 = .ok (.aload_n 0, 1) := by decide +kernel
theorem dJ7_fill_53178_11 : decode cJ7_fill_53178 11 = .ok (.iload_n 2, 1) := by decide +kernel
theorem dJ7_fill_53178_12 : decode cJ7_fill_53178 12 = .ok (.iload_n 1, 1) := by decide +kernel
theorem dJ7_fill_53178_13 : decode cJ7_fill_53178 13 = .ok (.iastore, 1) := by decide +kernel
theorem dJ7_fill_53178_14 : decode cJ7_fill_53178 14 = .ok (.iinc 2 1, 3) := by decide +kernel
theorem dJ7_fill_53178_17 : decode cJ7_fill_53178 17 = .ok (.goto (-12), 3) := by decide +kernel
theorem dJ7_fill_53178_20 : decode cJ7_fill_53178 20 = .ok (.return_, 1) := by decide +kernel
theorem dX11_noteOrder_0 : decode cX11_noteOrder 0 = .ok (.iconst 0, 1) := by decide +kernel
theorem dX11_noteOrder_1 : decode cX11_noteOrder 1 = .ok (.bipush 8, 2) := by decide +kernel
theorem dX11_noteOrder_3 : decode cX11_noteOrder 3 = .ok (.aload_n 0, 1) := by decide +kernel
theorem dX11_noteOrder_4 : decode cX11_noteOrder 4 = .ok (.getfield 51, 3) := by decide +kernel
theorem dX11_noteOrder_7 : decode cX11_noteOrder 7 = .ok (.getfield 185, 3) := by decide +kernel
theorem dX11_noteOrder_10 : decode cX11_noteOrder 10 = .ok (.invokestatic 169, 3) := by decide +kernel
theorem dX11_noteOrder_13 : decode cX11_noteOrder 13 = .ok (.invokestatic 175, 3) := by decide +kernel
theorem dX11_noteOrder_16 : decode cX11_noteOrder 16 = .ok (.istore_n 1, 1) := by decide +kernel
theorem dX11_noteOrder_17 : decode cX11_noteOrder 17 = .ok (.aload_n 0, 1) := by decide +kernel
theorem dX11_noteOrder_18 : decode cX11_noteOrder 18 = .ok (.getfield 61, 3) := by decide +kernel
theorem dX11_noteOrder_21 : decode cX11_noteOrder 21 = .ok (.iload_n 1, 1) := by decide +kernel
theorem dX11_noteOrder_22 : decode cX11_noteOrder 22 = .ok (.dup2, 1) := by decide +kernel
theorem dX11_noteOrder_23 : decode cX11_noteOrder 23 = .ok (.iaload, 1) := by decide +kernel
theorem dX11_noteOrder_24 : decode cX11_noteOrder 24 = .ok (.iconst 1, 1) := by decide +kernel
theorem dX11_noteOrder_25 : decode cX11_noteOrder 25 = .ok (.iadd, 1) := by decide +kernel
theorem dX11_noteOrder_26 : decode cX11_noteOrder 26 = .ok (.iastore, 1) := by decide +kernel
theorem dX11_noteOrder_27 : decode cX11_noteOrder 27 = .ok (.iload_n 1, 1) := by decide +kernel
theorem dX11_noteOrder_28 : decode cX11_noteOrder 28 = .ok (.aload_n 0, 1) := by decide +kernel
theorem dX11_noteOrder_29 : decode cX11_noteOrder 29 = .ok (.getfield 241, 3) := by decide +kernel
theorem dX11_noteOrder_32 : decode cX11_noteOrder 32 = .ok (.if_icmp .ge 25, 3) := by decide +kernel
theorem dX11_noteOrder_35 : decode cX11_noteOrder 35 = .ok (.aload_n 0, 1) := by decide +kernel
theorem dX11_noteOrder_36 : decode cX11_noteOrder 36 = .ok (.iload_n 1, 1) := by decide +kernel
theorem dX11_noteOrder_37 : decode cX11_noteOrder 37 = .ok (.putfield 241, 3) := by decide +kernel
theorem dX11_noteOrder_40 : decode cX11_noteOrder 40 = .ok (.aload_n 0, 1) := by decide +kernel
theorem dX11_noteOrder_41 : decode cX11_noteOrder 41 = .ok (.getfield 55, 3) := by decide +kernel
theorem dX11_noteOrder_44 : decode cX11_noteOrder 44 = .ok (.iconst 0, 1) := by decide +kernel
theorem dX11_noteOrder_45 : decode cX11_noteOrder 45 = .ok (.aload_n 0, 1) := by decide +kernel
theorem dX11_noteOrder_46 : decode cX11_noteOrder 46 = .ok (.getfield 58, 3) := by decide +kernel
theorem dX11_noteOrder_49 : decode cX11_noteOrder 49 = .ok (.iconst 0, 1) := by decide +kernel
theorem dX11_noteOrder_50 : decode cX11_noteOrder 50 = .ok (.aload_n 0, 1) := by decide +kernel
theorem dX11_noteOrder_51 : decode cX11_noteOrder 51 = .ok (.getfield 101, 3) := by decide +kernel
theorem dX11_noteOrder_54 : decode cX11_noteOrder 54 = .ok (.invokestatic 304, 3) := by decide +kernel
theorem dX11_noteOrder_57 : decode cX11_noteOrder 57 = .ok (.iconst 1, 1) := by decide +kernel
theorem dX11_noteOrder_58 : decode cX11_noteOrder 58 = .ok (.istore_n 2, 1) := by decide +kernel
theorem dX11_noteOrder_59 : decode cX11_noteOrder 59 = .ok (.iconst 0, 1) := by decide +kernel
theorem dX11_noteOrder_60 : decode cX11_noteOrder 60 = .ok (.istore_n 3, 1) := by decide +kernel
theorem dX11_noteOrder_61 : decode cX11_noteOrder 61 = .ok (.iload_n 3, 1) := by decide +kernel
theorem dX11_noteOrder_62 : decode cX11_noteOrder 62 = .ok (.aload_n 0, 1) := by decide +kernel
theorem dX11_noteOrder_63 : decode cX11_noteOrder 63 = .ok (.getfield 101, 3) := by decide +kernel
theorem dX11_noteOrder_66 : decode cX11_noteOrder 66 = .ok (.if_icmp .ge 37, 3) := by decide +kernel
theorem dX11_noteOrder_69 : decode cX11_noteOrder 69 = .ok (.iload_n 2, 1) := by decide +kernel
theorem dX11_noteOrder_70 : decode cX11_noteOrder 70 = .ok (.ifCond .eq 25, 3) := by decide +kernel
theorem dX11_noteOrder_73 : decode cX11_noteOrder 73 = .ok (.aload_n 0, 1) := by decide +kernel
theorem dX11_noteOrder_74 : decode cX11_noteOrder 74 = .ok (.getfield 51, 3) := by decide +kernel
theorem dX11_noteOrder_77 : decode cX11_noteOrder 77 = .ok (.getfield 301, 3) := by decide +kernel
theorem dX11_noteOrder_80 : decode cX11_noteOrder 80 = .ok (.iload_n 3, 1) := by decide +kernel
theorem dX11_noteOrder_81 : decode cX11_noteOrder 81 = .ok (.iaload, 1) := by decide +kernel
theorem dX11_noteOrder_82 : decode cX11_noteOrder 82 = .ok (.aload_n 0, 1) := by decide +kernel
theorem dX11_noteOrder_83 : decode cX11_noteOrder 83 = .ok (.getfield 64, 3) := by decide +kernel
theorem dX11_noteOrder_86 : decode cX11_noteOrder 86 = .ok (.iload_n 3, 1) := by decide +kernel
theorem dX11_noteOrder_87 : decode cX11_noteOrder 87 = .ok (.iaload, 1) := by decide +kernel
theorem dX11_noteOrder_88 : decode cX11_noteOrder 88 = .ok (.if_icmp .ne 7, 3) := by decide +kernel
theorem dX11_noteOrder_91 : decode cX11_noteOrder 91 = .ok (.iconst 1, 1) := by decide +kernel
theorem dX11_noteOrder_92 : decode cX11_noteOrder 92 = .ok (.goto 4, 3) := by decide +kernel
theorem dX11_noteOrder_95 : decode cX11_noteOrder 95 = .ok (.iconst 0, 1) := by decide +kernel
theorem dX11_noteOrder_96 : decode cX11_noteOrder 96 = .ok (.istore_n 2, 1) := by decide +kernel
theorem dX11_noteOrder_97 : decode cX11_noteOrder 97 = .ok (.iinc 3 1, 3) := by decide +kernel
theorem dX11_noteOrder_100 : decode cX11_noteOrder 100 = .ok (.goto (-39), 3) := by decide +kernel
theorem dX11_noteOrder_103 : decode cX11_noteOrder 103 = .ok (.iload_n 2, 1) := by decide +kernel
theorem dX11_noteOrder_104 : decode cX11_noteOrder 104 = .ok (.ifCond .eq 13, 3) := by decide +kernel
theorem dX11_noteOrder_107 : decode cX11_noteOrder 107 = .ok (.aload_n 0, 1) := by decide +kernel
theorem dX11_noteOrder_108 : decode cX11_noteOrder 108 = .ok (.dup, 1) := by decide +kernel
theorem dX11_noteOrder_109 : decode cX11_noteOrder 109 = .ok (.getfield 273, 3) := by decide +kernel
theorem dX11_noteOrder_112 : decode cX11_noteOrder 112 = .ok (.iconst 1, 1) := by decide +kernel
theorem dX11_noteOrder_113 : decode cX11_noteOrder 113 = .ok (.iadd, 1) := by decide +kernel
theorem dX11_noteOrder_114 : decode cX11_noteOrder 114 = .ok (.putfield 273, 3) := by decide +kernel
theorem dX11_noteOrder_117 : decode cX11_noteOrder 117 = .ok (.return_, 1) := by decide +kernel
theorem dX11_goOn_0 : decode cX11_goOn 0 = .ok (.iload_n 2, 1) := by decide +kernel
theorem dX11_goOn_1 : decode cX11_goOn 1 = .ok (.aload_n 0, 1) := by decide +kernel
theorem dX11_goOn_2 : decode cX11_goOn 2 = .ok (.getfield 101, 3) := by decide +kernel
theorem dX11_goOn_5 : decode cX11_goOn 5 = .ok (.if_icmp .ge 9, 3) := by decide +kernel
theorem dX11_goOn_8 : decode cX11_goOn 8 = .ok (.iload_n 2, 1) := by decide +kernel
theorem dX11_goOn_9 : decode cX11_goOn 9 = .ok (.bipush 8, 2) := by decide +kernel
theorem dX11_goOn_11 : decode cX11_goOn 11 = .ok (.if_icmp .lt 8, 3) := by decide +kernel
theorem dX11_goOn_14 : decode cX11_goOn 14 = .ok (.aload_n 0, 1) := by decide +kernel
theorem dX11_goOn_15 : decode cX11_goOn 15 = .ok (.invokevirtual 320, 3) := by decide +kernel
theorem dX11_goOn_18 : decode cX11_goOn 18 = .ok (.return_, 1) := by decide +kernel
theorem dX11_goOn_19 : decode cX11_goOn 19 = .ok (.iconst 0, 1) := by decide +kernel
theorem dX11_goOn_20 : decode cX11_goOn 20 = .ok (.istore 4, 2) := by decide +kernel
theorem dX11_goOn_22 : decode cX11_goOn 22 = .ok (.iload 4, 2) := by decide +kernel
theorem dX11_goOn_24 : decode cX11_goOn 24 = .ok (.aload_n 0, 1) := by decide +kernel
theorem dX11_goOn_25 : decode cX11_goOn 25 = .ok (.getfield 101, 3) := by decide +kernel
theorem dX11_goOn_28 : decode cX11_goOn 28 = .ok (.if_icmp .ge 76, 3) := by decide +kernel
theorem dX11_goOn_31 : decode cX11_goOn 31 = .ok (.iload_n 3, 1) := by decide +kernel
theorem dX11_goOn_32 : decode cX11_goOn 32 = .ok (.iload 4, 2) := by decide +kernel
theorem dX11_goOn_34 : decode cX11_goOn 34 = .ok (.ishr, 1) := by decide +kernel
theorem dX11_goOn_35 : decode cX11_goOn 35 = .ok (.iconst 1, 1) := by decide +kernel
theorem dX11_goOn_36 : decode cX11_goOn 36 = .ok (.iand, 1) := by decide +kernel
theorem dX11_goOn_37 : decode cX11_goOn 37 = .ok (.ifCond .eq 6, 3) := by decide +kernel
theorem dX11_goOn_40 : decode cX11_goOn 40 = .ok (.goto 58, 3) := by decide +kernel
theorem dX11_goOn_43 : decode cX11_goOn 43 = .ok (.aload_n 0, 1) := by decide +kernel
theorem dX11_goOn_44 : decode cX11_goOn 44 = .ok (.aload_n 1, 1) := by decide +kernel
theorem dX11_goOn_45 : decode cX11_goOn 45 = .ok (.aload_n 0, 1) := by decide +kernel
theorem dX11_goOn_46 : decode cX11_goOn 46 = .ok (.getfield 51, 3) := by decide +kernel
theorem dX11_goOn_49 : decode cX11_goOn 49 = .ok (.iload 4, 2) := by decide +kernel
theorem dX11_goOn_51 : decode cX11_goOn 51 = .ok (.invokevirtual 206, 3) := by decide +kernel
theorem dX11_goOn_54 : decode cX11_goOn 54 = .ok (.istore 5, 2) := by decide +kernel
theorem dX11_goOn_56 : decode cX11_goOn 56 = .ok (.aload_n 0, 1) := by decide +kernel
theorem dX11_goOn_57 : decode cX11_goOn 57 = .ok (.getfield 55, 3) := by decide +kernel
theorem dX11_goOn_60 : decode cX11_goOn 60 = .ok (.iload_n 2, 1) := by decide +kernel
theorem dX11_goOn_61 : decode cX11_goOn 61 = .ok (.iload 4, 2) := by decide +kernel
theorem dX11_goOn_63 : decode cX11_goOn 63 = .ok (.iastore, 1) := by decide +kernel
theorem dX11_goOn_64 : decode cX11_goOn 64 = .ok (.aload_n 0, 1) := by decide +kernel
theorem dX11_goOn_65 : decode cX11_goOn 65 = .ok (.getfield 51, 3) := by decide +kernel
theorem dX11_goOn_68 : decode cX11_goOn 68 = .ok (.iload 5, 2) := by decide +kernel
theorem dX11_goOn_70 : decode cX11_goOn 70 = .ok (.iload 4, 2) := by decide +kernel
theorem dX11_goOn_72 : decode cX11_goOn 72 = .ok (.invokevirtual 213, 3) := by decide +kernel
theorem dX11_goOn_75 : decode cX11_goOn 75 = .ok (.aload_n 0, 1) := by decide +kernel
theorem dX11_goOn_76 : decode cX11_goOn 76 = .ok (.aload_n 1, 1) := by decide +kernel
theorem dX11_goOn_77 : decode cX11_goOn 77 = .ok (.iload_n 2, 1) := by decide +kernel
theorem dX11_goOn_78 : decode cX11_goOn 78 = .ok (.iconst 1, 1) := by decide +kernel
theorem dX11_goOn_79 : decode cX11_goOn 79 = .ok (.iadd, 1) := by decide +kernel
theorem dX11_goOn_80 : decode cX11_goOn 80 = .ok (.iload_n 3, 1) := by decide +kernel
theorem dX11_goOn_81 : decode cX11_goOn 81 = .ok (.iconst 1, 1) := by decide +kernel
theorem dX11_goOn_82 : decode cX11_goOn 82 = .ok (.iload 4, 2) := by decide +kernel
theorem dX11_goOn_84 : decode cX11_goOn 84 = .ok (.ishl, 1) := by decide +kernel
theorem dX11_goOn_85 : decode cX11_goOn 85 = .ok (.ior, 1) := by decide +kernel
theorem dX11_goOn_86 : decode cX11_goOn 86 = .ok (.invokevirtual 316, 3) := by decide +kernel
theorem dX11_goOn_89 : decode cX11_goOn 89 = .ok (.aload_n 0, 1) := by decide +kernel
theorem dX11_goOn_90 : decode cX11_goOn 90 = .ok (.getfield 51, 3) := by decide +kernel
theorem dX11_goOn_93 : decode cX11_goOn 93 = .ok (.iload 5, 2) := by decide +kernel
theorem dX11_goOn_95 : decode cX11_goOn 95 = .ok (.invokevirtual 248, 3) := by decide +kernel
theorem dX11_goOn_98 : decode cX11_goOn 98 = .ok (.iinc 4 1, 3) := by decide +kernel
theorem dX11_goOn_101 : decode cX11_goOn 101 = .ok (.goto (-79), 3) := by decide +kernel
theorem dX11_goOn_104 : decode cX11_goOn 104 = .ok (.return_, 1) := by decide +kernel
theorem dX11_goThroughOrders_0 : decode cX11_goThroughOrders 0 = .ok (.aload_n 0, 1) := by decide +kernel
theorem dX11_goThroughOrders_1 : decode cX11_goThroughOrders 1 = .ok (.invokevirtual 178, 3) := by decide +kernel
theorem dX11_goThroughOrders_4 : decode cX11_goThroughOrders 4 = .ok (.aload_n 0, 1) := by decide +kernel
theorem dX11_goThroughOrders_5 : decode cX11_goThroughOrders 5 = .ok (.aload_n 1, 1) := by decide +kernel
theorem dX11_goThroughOrders_6 : decode cX11_goThroughOrders 6 = .ok (.aload_n 0, 1) := by decide +kernel
theorem dX11_goThroughOrders_7 : decode cX11_goThroughOrders 7 = .ok (.getfield 101, 3) := by decide +kernel
theorem dX11_goThroughOrders_10 : decode cX11_goThroughOrders 10 = .ok (.invokevirtual 181, 3) := by decide +kernel
theorem dX11_goThroughOrders_13 : decode cX11_goThroughOrders 13 = .ok (.pop, 1) := by decide +kernel
theorem dX11_goThroughOrders_14 : decode cX11_goThroughOrders 14 = .ok (.aload_n 0, 1) := by decide +kernel
theorem dX11_goThroughOrders_15 : decode cX11_goThroughOrders 15 = .ok (.getfield 51, 3) := by decide +kernel
theorem dX11_goThroughOrders_18 : decode cX11_goThroughOrders 18 = .ok (.getfield 301, 3) := by decide +kernel
theorem dX11_goThroughOrders_21 : decode cX11_goThroughOrders 21 = .ok (.iconst 0, 1) := by decide +kernel
theorem dX11_goThroughOrders_22 : decode cX11_goThroughOrders 22 = .ok (.aload_n 0, 1) := by decide +kernel
theorem dX11_goThroughOrders_23 : decode cX11_goThroughOrders 23 = .ok (.getfield 64, 3) := by decide +kernel
theorem dX11_goThroughOrders_26 : decode cX11_goThroughOrders 26 = .ok (.iconst 0, 1) := by decide +kernel
theorem dX11_goThroughOrders_27 : decode cX11_goThroughOrders 27 = .ok (.aload_n 0, 1) := by decide +kernel
theorem dX11_goThroughOrders_28 : decode cX11_goThroughOrders 28 = .ok (.getfield 101, 3) := by decide +kernel
theorem dX11_goThroughOrders_31 : decode cX11_goThroughOrders 31 = .ok (.invokestatic 304, 3) := by decide +kernel
theorem dX11_goThroughOrders_34 : decode cX11_goThroughOrders 34 = .ok (.aload_n 0, 1) := by decide +kernel
theorem dX11_goThroughOrders_35 : decode cX11_goThroughOrders 35 = .ok (.getfield 61, 3) := by decide +kernel
theorem dX11_goThroughOrders_38 : decode cX11_goThroughOrders 38 = .ok (.iconst 0, 1) := by decide +kernel
theorem dX11_goThroughOrders_39 : decode cX11_goThroughOrders 39 = .ok (.invokestatic 310, 3) := by decide +kernel
theorem dX11_goThroughOrders_42 : decode cX11_goThroughOrders 42 = .ok (.aload_n 0, 1) := by decide +kernel
theorem dX11_goThroughOrders_43 : decode cX11_goThroughOrders 43 = .ok (.iconst 0, 1) := by decide +kernel
theorem dX11_goThroughOrders_44 : decode cX11_goThroughOrders 44 = .ok (.putfield 273, 3) := by decide +kernel
theorem dX11_goThroughOrders_47 : decode cX11_goThroughOrders 47 = .ok (.aload_n 0, 1) := by decide +kernel
theorem dX11_goThroughOrders_48 : decode cX11_goThroughOrders 48 = .ok (.sipush 793, 3) := by decide +kernel
theorem dX11_goThroughOrders_51 : decode cX11_goThroughOrders 51 = .ok (.putfield 241, 3) := by decide +kernel
theorem dX11_goThroughOrders_54 : decode cX11_goThroughOrders 54 = .ok (.aload_n 0, 1) := by decide +kernel
theorem dX11_goThroughOrders_55 : decode cX11_goThroughOrders 55 = .ok (.getfield 51, 3) := by decide +kernel
theorem dX11_goThroughOrders_58 : decode cX11_goThroughOrders 58 = .ok (.invokevirtual 203, 3) := by decide +kernel
theorem dX11_goThroughOrders_61 : decode cX11_goThroughOrders 61 = .ok (.aload_n 0, 1) := by decide +kernel
theorem dX11_goThroughOrders_62 : decode cX11_goThroughOrders 62 = .ok (.aload_n 1, 1) := by decide +kernel
theorem dX11_goThroughOrders_63 : decode cX11_goThroughOrders 63 = .ok (.iconst 0, 1) := by decide +kernel
theorem dX11_goThroughOrders_64 : decode cX11_goThroughOrders 64 = .ok (.iconst 0, 1) := by decide +kernel
theorem dX11_goThroughOrders_65 : decode cX11_goThroughOrders 65 = .ok (.invokevirtual 316, 3) := by decide +kernel
theorem dX11_goThroughOrders_68 : decode cX11_goThroughOrders 68 = .ok (.return_, 1) := by decide +kernel
theorem dX11_orders_0 : decode cX11_orders 0 = .ok (.aload_n 0, 1) := by decide +kernel
theorem dX11_orders_1 : decode cX11_orders 1 = .ok (.iload_n 1, 1) := by decide +kernel
theorem dX11_orders_2 : decode cX11_orders 2 = .ok (.invokevirtual 121, 3) := by decide +kernel
theorem dX11_orders_5 : decode cX11_orders 5 = .ok (.astore_n 3, 1) := by decide +kernel
theorem dX11_orders_6 : decode cX11_orders 6 = .ok (.aload_n 3, 1) := by decide +kernel
theorem dX11_orders_7 : decode cX11_orders 7 = .ok (.ifnull 13, 3) := by decide +kernel
theorem dX11_orders_10 : decode cX11_orders 10 = .ok (.iload_n 2, 1) := by decide +kernel
theorem dX11_orders_11 : decode cX11_orders 11 = .ok (.ifCond .lt 9, 3) := by decide +kernel
theorem dX11_orders_14 : decode cX11_orders 14 = .ok (.iload_n 2, 1) := by decide +kernel
theorem dX11_orders_15 : decode cX11_orders 15 = .ok (.bipush 8, 2) := by decide +kernel
theorem dX11_orders_17 : decode cX11_orders 17 = .ok (.if_icmp .le 6, 3) := by decide +kernel
theorem dX11_orders_20 : decode cX11_orders 20 = .ok (.bipush (-2), 2) := by decide +kernel
theorem dX11_orders_22 : decode cX11_orders 22 = .ok (.ireturn, 1) := by decide +kernel
theorem dX11_orders_23 : decode cX11_orders 23 = .ok (.aload_n 0, 1) := by decide +kernel
theorem dX11_orders_24 : decode cX11_orders 24 = .ok (.getfield 101, 3) := by decide +kernel
theorem dX11_orders_27 : decode cX11_orders 27 = .ok (.bipush 6, 2) := by decide +kernel
theorem dX11_orders_29 : decode cX11_orders 29 = .ok (.if_icmp .le 6, 3) := by decide +kernel
theorem dX11_orders_32 : decode cX11_orders 32 = .ok (.bipush (-3), 2) := by decide +kernel
theorem dX11_orders_34 : decode cX11_orders 34 = .ok (.ireturn, 1) := by decide +kernel
theorem dX11_orders_35 : decode cX11_orders 35 = .ok (.aload_n 0, 1) := by decide +kernel
theorem dX11_orders_36 : decode cX11_orders 36 = .ok (.aload_n 3, 1) := by decide +kernel
theorem dX11_orders_37 : decode cX11_orders 37 = .ok (.invokevirtual 261, 3) := by decide +kernel
theorem dX11_orders_40 : decode cX11_orders 40 = .ok (.aload_n 0, 1) := by decide +kernel
theorem dX11_orders_41 : decode cX11_orders 41 = .ok (.getfield 61, 3) := by decide +kernel
theorem dX11_orders_44 : decode cX11_orders 44 = .ok (.iload_n 2, 1) := by decide +kernel
theorem dX11_orders_45 : decode cX11_orders 45 = .ok (.iaload, 1) := by decide +kernel
theorem dX11_orders_46 : decode cX11_orders 46 = .ok (.ireturn, 1) := by decide +kernel
theorem dX11_sharedDivisor_0 : decode cX11_sharedDivisor 0 = .ok (.iconst 0, 1) := by decide +kernel
theorem dX11_sharedDivisor_1 : decode cX11_sharedDivisor 1 = .ok (.istore 4, 2) := by decide +kernel
theorem dX11_sharedDivisor_3 : decode cX11_sharedDivisor 3 = .ok (.iload 4, 2) := by decide +kernel
theorem dX11_sharedDivisor_5 : decode cX11_sharedDivisor 5 = .ok (.bipush 100, 2) := by decide +kernel
theorem dX11_sharedDivisor_7 : decode cX11_sharedDivisor 7 = .ok (.if_icmp .ge 25, 3) := by decide +kernel
theorem dX11_sharedDivisor_10 : decode cX11_sharedDivisor 10 = .ok (.lload_n 2, 1) := by decide +kernel
theorem dX11_sharedDivisor_11 : decode cX11_sharedDivisor 11 = .ok (.lconst 0, 1) := by decide +kernel
theorem dX11_sharedDivisor_12 : decode cX11_sharedDivisor 12 = .ok (.lcmp, 1) := by decide +kernel
theorem dX11_sharedDivisor_13 : decode cX11_sharedDivisor 13 = .ok (.ifCond .eq 19, 3) := by decide +kernel
theorem dX11_sharedDivisor_16 : decode cX11_sharedDivisor 16 = .ok (.lload_n 0, 1) := by decide +kernel
theorem dX11_sharedDivisor_17 : decode cX11_sharedDivisor 17 = .ok (.lload_n 2, 1) := by decide +kernel
theorem dX11_sharedDivisor_18 : decode cX11_sharedDivisor 18 = .ok (.lrem, 1) := by decide +kernel
theorem dX11_sharedDivisor_19 : decode cX11_sharedDivisor 19 = .ok (.lstore 5, 2) := by decide +kernel
theorem dX11_sharedDivisor_21 : decode cX11_sharedDivisor 21 = .ok (.lload_n 2, 1) := by decide +kernel
theorem dX11_sharedDivisor_22 : decode cX11_sharedDivisor 22 = .ok (.lstore_n 0, 1) := by decide +kernel
theorem dX11_sharedDivisor_23 : decode cX11_sharedDivisor 23 = .ok (.lload 5, 2) := by decide +kernel
theorem dX11_sharedDivisor_25 : decode cX11_sharedDivisor 25 = .ok (.lstore_n 2, 1) := by decide +kernel
theorem dX11_sharedDivisor_26 : decode cX11_sharedDivisor 26 = .ok (.iinc 4 1, 3) := by decide +kernel
theorem dX11_sharedDivisor_29 : decode cX11_sharedDivisor 29 = .ok (.goto (-26), 3) := by decide +kernel
theorem dX11_sharedDivisor_32 : decode cX11_sharedDivisor 32 = .ok (.lload_n 0, 1) := by decide +kernel
theorem dX11_sharedDivisor_33 : decode cX11_sharedDivisor 33 = .ok (.lreturn, 1) := by decide +kernel
theorem dX11_mean_0 : decode cX11_mean 0 = .ok (.aload_n 0, 1) := by decide +kernel
theorem dX11_mean_1 : decode cX11_mean 1 = .ok (.iload_n 1, 1) := by decide +kernel
theorem dX11_mean_2 : decode cX11_mean 2 = .ok (.invokevirtual 121, 3) := by decide +kernel
theorem dX11_mean_5 : decode cX11_mean 5 = .ok (.astore_n 3, 1) := by decide +kernel
theorem dX11_mean_6 : decode cX11_mean 6 = .ok (.aload_n 3, 1) := by decide +kernel
theorem dX11_mean_7 : decode cX11_mean 7 = .ok (.ifnull 21, 3) := by decide +kernel
theorem dX11_mean_10 : decode cX11_mean 10 = .ok (.iload_n 2, 1) := by decide +kernel
theorem dX11_mean_11 : decode cX11_mean 11 = .ok (.ifCond .lt 17, 3) := by decide +kernel
theorem dX11_mean_14 : decode cX11_mean 14 = .ok (.iload_n 2, 1) := by decide +kernel
theorem dX11_mean_15 : decode cX11_mean 15 = .ok (.iconst 1, 1) := by decide +kernel
theorem dX11_mean_16 : decode cX11_mean 16 = .ok (.if_icmp .gt 12, 3) := by decide +kernel
theorem dX11_mean_19 : decode cX11_mean 19 = .ok (.aload_n 0, 1) := by decide +kernel
theorem dX11_mean_20 : decode cX11_mean 20 = .ok (.getfield 101, 3) := by decide +kernel
theorem dX11_mean_23 : decode cX11_mean 23 = .ok (.bipush 6, 2) := by decide +kernel
theorem dX11_mean_25 : decode cX11_mean 25 = .ok (.if_icmp .le 7, 3) := by decide +kernel
theorem dX11_mean_28 : decode cX11_mean 28 = .ok (.ldc2_w 265, 3) := by decide +kernel
theorem dX11_mean_31 : decode cX11_mean 31 = .ok (.lreturn, 1) := by decide +kernel
theorem dX11_mean_32 : decode cX11_mean 32 = .ok (.aload_n 0, 1) := by decide +kernel
theorem dX11_mean_33 : decode cX11_mean 33 = .ok (.aload_n 3, 1) := by decide +kernel
theorem dX11_mean_34 : decode cX11_mean 34 = .ok (.invokevirtual 261, 3) := by decide +kernel
theorem dX11_mean_37 : decode cX11_mean 37 = .ok (.lconst 0, 1) := by decide +kernel
theorem dX11_mean_38 : decode cX11_mean 38 = .ok (.lstore 4, 2) := by decide +kernel
theorem dX11_mean_40 : decode cX11_mean 40 = .ok (.lconst 0, 1) := by decide +kernel
theorem dX11_mean_41 : decode cX11_mean 41 = .ok (.lstore 6, 2) := by decide +kernel
theorem dX11_mean_43 : decode cX11_mean 43 = .ok (.iconst 0, 1) := by decide +kernel
theorem dX11_mean_44 : decode cX11_mean 44 = .ok (.istore 8, 2) := by decide +kernel
theorem dX11_mean_46 : decode cX11_mean 46 = .ok (.iload 8, 2) := by decide +kernel
theorem dX11_mean_48 : decode cX11_mean 48 = .ok (.bipush 8, 2) := by decide +kernel
theorem dX11_mean_50 : decode cX11_mean 50 = .ok (.if_icmp .gt 39, 3) := by decide +kernel
theorem dX11_mean_53 : decode cX11_mean 53 = .ok (.lload 4, 2) := by decide +kernel
theorem dX11_mean_55 : decode cX11_mean 55 = .ok (.iload 8, 2) := by decide +kernel
theorem dX11_mean_57 : decode cX11_mean 57 = .ok (.i2l, 1) := by decide +kernel
theorem dX11_mean_58 : decode cX11_mean 58 = .ok (.aload_n 0, 1) := by decide +kernel
theorem dX11_mean_59 : decode cX11_mean 59 = .ok (.getfield 61, 3) := by decide +kernel
theorem dX11_mean_62 : decode cX11_mean 62 = .ok (.iload 8, 2) := by decide +kernel
theorem dX11_mean_64 : decode cX11_mean 64 = .ok (.iaload, 1) := by decide +kernel
theorem dX11_mean_65 : decode cX11_mean 65 = .ok (.i2l, 1) := by decide +kernel
theorem dX11_mean_66 : decode cX11_mean 66 = .ok (.lmul, 1) := by decide +kernel
theorem dX11_mean_67 : decode cX11_mean 67 = .ok (.ladd, 1) := by decide +kernel
theorem dX11_mean_68 : decode cX11_mean 68 = .ok (.lstore 4, 2) := by decide +kernel
theorem dX11_mean_70 : decode cX11_mean 70 = .ok (.lload 6, 2) := by decide +kernel
theorem dX11_mean_72 : decode cX11_mean 72 = .ok (.aload_n 0, 1) := by decide +kernel
theorem dX11_mean_73 : decode cX11_mean 73 = .ok (.getfield 61, 3) := by decide +kernel
theorem dX11_mean_76 : decode cX11_mean 76 = .ok (.iload 8, 2) := by decide +kernel
theorem dX11_mean_78 : decode cX11_mean 78 = .ok (.iaload, 1) := by decide +kernel
theorem dX11_mean_79 : decode cX11_mean 79 = .ok (.i2l, 1) := by decide +kernel
theorem dX11_mean_80 : decode cX11_mean 80 = .ok (.ladd, 1) := by decide +kernel
theorem dX11_mean_81 : decode cX11_mean 81 = .ok (.lstore 6, 2) := by decide +kernel
theorem dX11_mean_83 : decode cX11_mean 83 = .ok (.iinc 8 1, 3) := by decide +kernel
theorem dX11_mean_86 : decode cX11_mean 86 = .ok (.goto (-40), 3) := by decide +kernel
theorem dX11_mean_89 : decode cX11_mean 89 = .ok (.lconst 1, 1) := by decide +kernel
theorem dX11_mean_90 : decode cX11_mean 90 = .ok (.lload 4, 2) := by decide +kernel
theorem dX11_mean_92 : decode cX11_mean 92 = .ok (.lload 6, 2) := by decide +kernel
theorem dX11_mean_94 : decode cX11_mean 94 = .ok (.invokestatic 267, 3) := by decide +kernel
theorem dX11_mean_97 : decode cX11_mean 97 = .ok (.invokestatic 271, 3) := by decide +kernel
theorem dX11_mean_100 : decode cX11_mean 100 = .ok (.lstore 8, 2) := by decide +kernel
theorem dX11_mean_102 : decode cX11_mean 102 = .ok (.iload_n 2, 1) := by decide +kernel
theorem dX11_mean_103 : decode cX11_mean 103 = .ok (.ifCond .ne 8, 3) := by decide +kernel
theorem dX11_mean_106 : decode cX11_mean 106 = .ok (.lload 4, 2) := by decide +kernel
theorem dX11_mean_108 : decode cX11_mean 108 = .ok (.goto 5, 3) := by decide +kernel
theorem dX11_mean_111 : decode cX11_mean 111 = .ok (.lload 6, 2) := by decide +kernel
theorem dX11_mean_113 : decode cX11_mean 113 = .ok (.lload 8, 2) := by decide +kernel
theorem dX11_mean_115 : decode cX11_mean 115 = .ok (.ldiv, 1) := by decide +kernel
theorem dX11_mean_116 : decode cX11_mean 116 = .ok (.lreturn, 1) := by decide +kernel
theorem dX11_bestOrder_0 : decode cX11_bestOrder 0 = .ok (.aload_n 0, 1) := by decide +kernel
theorem dX11_bestOrder_1 : decode cX11_bestOrder 1 = .ok (.iload_n 1, 1) := by decide +kernel
theorem dX11_bestOrder_2 : decode cX11_bestOrder 2 = .ok (.invokevirtual 121, 3) := by decide +kernel
theorem dX11_bestOrder_5 : decode cX11_bestOrder 5 = .ok (.astore_n 3, 1) := by decide +kernel
theorem dX11_bestOrder_6 : decode cX11_bestOrder 6 = .ok (.aload_n 3, 1) := by decide +kernel
theorem dX11_bestOrder_7 : decode cX11_bestOrder 7 = .ok (.ifnull 11, 3) := by decide +kernel
theorem dX11_bestOrder_10 : decode cX11_bestOrder 10 = .ok (.aload_n 0, 1) := by decide +kernel
theorem dX11_bestOrder_11 : decode cX11_bestOrder 11 = .ok (.iload_n 2, 1) := by decide +kernel
theorem dX11_bestOrder_12 : decode cX11_bestOrder 12 = .ok (.invokevirtual 115, 3) := by decide +kernel
theorem dX11_bestOrder_15 : decode cX11_bestOrder 15 = .ok (.ifCond .ne 6, 3) := by decide +kernel
theorem dX11_bestOrder_18 : decode cX11_bestOrder 18 = .ok (.bipush (-2), 2) := by decide +kernel
theorem dX11_bestOrder_20 : decode cX11_bestOrder 20 = .ok (.ireturn, 1) := by decide +kernel
theorem dX11_bestOrder_21 : decode cX11_bestOrder 21 = .ok (.aload_n 0, 1) := by decide +kernel
theorem dX11_bestOrder_22 : decode cX11_bestOrder 22 = .ok (.getfield 101, 3) := by decide +kernel
theorem dX11_bestOrder_25 : decode cX11_bestOrder 25 = .ok (.bipush 6, 2) := by decide +kernel
theorem dX11_bestOrder_27 : decode cX11_bestOrder 27 = .ok (.if_icmp .le 6, 3) := by decide +kernel
theorem dX11_bestOrder_30 : decode cX11_bestOrder 30 = .ok (.bipush (-3), 2) := by decide +kernel
theorem dX11_bestOrder_32 : decode cX11_bestOrder 32 = .ok (.ireturn, 1) := by decide +kernel
theorem dX11_bestOrder_33 : decode cX11_bestOrder 33 = .ok (.aload_n 0, 1) := by decide +kernel
theorem dX11_bestOrder_34 : decode cX11_bestOrder 34 = .ok (.aload_n 3, 1) := by decide +kernel
theorem dX11_bestOrder_35 : decode cX11_bestOrder 35 = .ok (.invokevirtual 261, 3) := by decide +kernel
theorem dX11_bestOrder_38 : decode cX11_bestOrder 38 = .ok (.aload_n 0, 1) := by decide +kernel
theorem dX11_bestOrder_39 : decode cX11_bestOrder 39 = .ok (.getfield 58, 3) := by decide +kernel
theorem dX11_bestOrder_42 : decode cX11_bestOrder 42 = .ok (.iload_n 2, 1) := by decide +kernel
theorem dX11_bestOrder_43 : decode cX11_bestOrder 43 = .ok (.iaload, 1) := by decide +kernel
theorem dX11_bestOrder_44 : decode cX11_bestOrder 44 = .ok (.ireturn, 1) := by decide +kernel
theorem dX11_came_0 : decode cX11_came 0 = .ok (.aload_n 0, 1) := by decide +kernel
theorem dX11_came_1 : decode cX11_came 1 = .ok (.iload_n 1, 1) := by decide +kernel
theorem dX11_came_2 : decode cX11_came 2 = .ok (.invokevirtual 121, 3) := by decide +kernel
theorem dX11_came_5 : decode cX11_came 5 = .ok (.astore_n 2, 1) := by decide +kernel
theorem dX11_came_6 : decode cX11_came 6 = .ok (.aload_n 2, 1) := by decide +kernel
theorem dX11_came_7 : decode cX11_came 7 = .ok (.ifnonnull 6, 3) := by decide +kernel
theorem dX11_came_10 : decode cX11_came 10 = .ok (.bipush (-2), 2) := by decide +kernel
theorem dX11_came_12 : decode cX11_came 12 = .ok (.ireturn, 1) := by decide +kernel
theorem dX11_came_13 : decode cX11_came 13 = .ok (.aload_n 0, 1) := by decide +kernel
theorem dX11_came_14 : decode cX11_came 14 = .ok (.getfield 101, 3) := by decide +kernel
theorem dX11_came_17 : decode cX11_came 17 = .ok (.bipush 6, 2) := by decide +kernel
theorem dX11_came_19 : decode cX11_came 19 = .ok (.if_icmp .le 6, 3) := by decide +kernel
theorem dX11_came_22 : decode cX11_came 22 = .ok (.bipush (-3), 2) := by decide +kernel
theorem dX11_came_24 : decode cX11_came 24 = .ok (.ireturn, 1) := by decide +kernel
theorem dX11_came_25 : decode cX11_came 25 = .ok (.aload_n 0, 1) := by decide +kernel
theorem dX11_came_26 : decode cX11_came 26 = .ok (.aload_n 2, 1) := by decide +kernel
theorem dX11_came_27 : decode cX11_came 27 = .ok (.invokevirtual 261, 3) := by decide +kernel
theorem dX11_came_30 : decode cX11_came 30 = .ok (.aload_n 0, 1) := by decide +kernel
theorem dX11_came_31 : decode cX11_came 31 = .ok (.getfield 273, 3) := by decide +kernel
theorem dX11_came_34 : decode cX11_came 34 = .ok (.ireturn, 1) := by decide +kernel
theorem dX11_changeAbout_0 : decode cX11_changeAbout 0 = .ok (.aload_n 0, 1) := by decide +kernel
theorem dX11_changeAbout_1 : decode cX11_changeAbout 1 = .ok (.iload_n 1, 1) := by decide +kernel
theorem dX11_changeAbout_2 : decode cX11_changeAbout 2 = .ok (.invokevirtual 115, 3) := by decide +kernel
theorem dX11_changeAbout_5 : decode cX11_changeAbout 5 = .ok (.ifCond .eq 37, 3) := by decide +kernel
theorem dX11_changeAbout_8 : decode cX11_changeAbout 8 = .ok (.aload_n 0, 1) := by decide +kernel
theorem dX11_changeAbout_9 : decode cX11_changeAbout 9 = .ok (.iload_n 2, 1) := by decide +kernel
theorem dX11_changeAbout_10 : decode cX11_changeAbout 10 = .ok (.invokevirtual 115, 3) := by decide +kernel
theorem dX11_changeAbout_13 : decode cX11_changeAbout 13 = .ok (.ifCond .eq 29, 3) := by decide +kernel
theorem dX11_changeAbout_16 : decode cX11_changeAbout 16 = .ok (.aload_n 0, 1) := by decide +kernel
theorem dX11_changeAbout_17 : decode cX11_changeAbout 17 = .ok (.getfield 55, 3) := by decide +kernel
theorem dX11_changeAbout_20 : decode cX11_changeAbout 20 = .ok (.iload_n 1, 1) := by decide +kernel
theorem dX11_changeAbout_21 : decode cX11_changeAbout 21 = .ok (.iaload, 1) := by decide +kernel
theorem dX11_changeAbout_22 : decode cX11_changeAbout 22 = .ok (.istore_n 3, 1) := by decide +kernel
theorem dX11_changeAbout_23 : decode cX11_changeAbout 23 = .ok (.aload_n 0, 1) := by decide +kernel
theorem dX11_changeAbout_24 : decode cX11_changeAbout 24 = .ok (.getfield 55, 3) := by decide +kernel
theorem dX11_changeAbout_27 : decode cX11_changeAbout 27 = .ok (.iload_n 1, 1) := by decide +kernel
theorem dX11_changeAbout_28 : decode cX11_changeAbout 28 = .ok (.aload_n 0, 1) := by decide +kernel
theorem dX11_changeAbout_29 : decode cX11_changeAbout 29 = .ok (.getfield 55, 3) := by decide +kernel
theorem dX11_changeAbout_32 : decode cX11_changeAbout 32 = .ok (.iload_n 2, 1) := by decide +kernel
theorem dX11_changeAbout_33 : decode cX11_changeAbout 33 = .ok (.iaload, 1) := by decide +kernel
theorem dX11_changeAbout_34 : decode cX11_changeAbout 34 = .ok (.iastore, 1) := by decide +kernel
theorem dX11_changeAbout_35 : decode cX11_changeAbout 35 = .ok (.aload_n 0, 1) := by decide +kernel
theorem dX11_changeAbout_36 : decode cX11_changeAbout 36 = .ok (.getfield 55, 3) := by decide +kernel
theorem dX11_changeAbout_39 : decode cX11_changeAbout 39 = .ok (.iload_n 2, 1) := by decide +kernel
theorem dX11_changeAbout_40 : decode cX11_changeAbout 40 = .ok (.iload_n 3, 1) := by decide +kernel
theorem dX11_changeAbout_41 : decode cX11_changeAbout 41 = .ok (.iastore, 1) := by decide +kernel
theorem dX11_changeAbout_42 : decode cX11_changeAbout 42 = .ok (.return_, 1) := by decide +kernel
theorem dX11_firstSwap_0 : decode cX11_firstSwap 0 = .ok (.iconst 0, 1) := by decide +kernel
theorem dX11_firstSwap_1 : decode cX11_firstSwap 1 = .ok (.istore_n 2, 1) := by decide +kernel
theorem dX11_firstSwap_2 : decode cX11_firstSwap 2 = .ok (.iload_n 2, 1) := by decide +kernel
theorem dX11_firstSwap_3 : decode cX11_firstSwap 3 = .ok (.iconst 1, 1) := by decide +kernel
theorem dX11_firstSwap_4 : decode cX11_firstSwap 4 = .ok (.iadd, 1) := by decide +kernel
theorem dX11_firstSwap_5 : decode cX11_firstSwap 5 = .ok (.aload_n 0, 1) := by decide +kernel
theorem dX11_firstSwap_6 : decode cX11_firstSwap 6 = .ok (.getfield 101, 3) := by decide +kernel
theorem dX11_firstSwap_9 : decode cX11_firstSwap 9 = .ok (.if_icmp .ge 37, 3) := by decide +kernel
theorem dX11_firstSwap_12 : decode cX11_firstSwap 12 = .ok (.aload_n 0, 1) := by decide +kernel
theorem dX11_firstSwap_13 : decode cX11_firstSwap 13 = .ok (.invokevirtual 178, 3) := by decide +kernel
theorem dX11_firstSwap_16 : decode cX11_firstSwap 16 = .ok (.aload_n 0, 1) := by decide +kernel
theorem dX11_firstSwap_17 : decode cX11_firstSwap 17 = .ok (.iload_n 2, 1) := by decide +kernel
theorem dX11_firstSwap_18 : decode cX11_firstSwap 18 = .ok (.iload_n 2, 1) := by decide +kernel
theorem dX11_firstSwap_19 : decode cX11_firstSwap 19 = .ok (.iconst 1, 1) := by decide +kernel
theorem dX11_firstSwap_20 : decode cX11_firstSwap 20 = .ok (.iadd, 1) := by decide +kernel
theorem dX11_firstSwap_21 : decode cX11_firstSwap 21 = .ok (.invokevirtual 323, 3) := by decide +kernel
theorem dX11_firstSwap_24 : decode cX11_firstSwap 24 = .ok (.aload_n 0, 1) := by decide +kernel
theorem dX11_firstSwap_25 : decode cX11_firstSwap 25 = .ok (.iconst 0, 1) := by decide +kernel
theorem dX11_firstSwap_26 : decode cX11_firstSwap 26 = .ok (.aload_n 0, 1) := by decide +kernel
theorem dX11_firstSwap_27 : decode cX11_firstSwap 27 = .ok (.getfield 101, 3) := by decide +kernel
theorem dX11_firstSwap_30 : decode cX11_firstSwap 30 = .ok (.iload_n 1, 1) := by decide +kernel
theorem dX11_firstSwap_31 : decode cX11_firstSwap 31 = .ok (.invokevirtual 191, 3) := by decide +kernel
theorem dX11_firstSwap_34 : decode cX11_firstSwap 34 = .ok (.iload_n 1, 1) := by decide +kernel
theorem dX11_firstSwap_35 : decode cX11_firstSwap 35 = .ok (.if_icmp .ge 5, 3) := by decide +kernel
theorem dX11_firstSwap_38 : decode cX11_firstSwap 38 = .ok (.iload_n 2, 1) := by decide +kernel
theorem dX11_firstSwap_39 : decode cX11_firstSwap 39 = .ok (.ireturn, 1) := by decide +kernel
theorem dX11_firstSwap_40 : decode cX11_firstSwap 40 = .ok (.iinc 2 1, 3) := by decide +kernel
theorem dX11_firstSwap_43 : decode cX11_firstSwap 43 = .ok (.goto (-41), 3) := by decide +kernel
theorem dX11_firstSwap_46 : decode cX11_firstSwap 46 = .ok (.iconst (-1), 1) := by decide +kernel
theorem dX11_firstSwap_47 : decode cX11_firstSwap 47 = .ok (.ireturn, 1) := by decide +kernel
theorem dX11_firstOut_0 : decode cX11_firstOut 0 = .ok (.iconst 0, 1) := by decide +kernel
theorem dX11_firstOut_1 : decode cX11_firstOut 1 = .ok (.istore_n 2, 1) := by decide +kernel
theorem dX11_firstOut_2 : decode cX11_firstOut 2 = .ok (.iload_n 2, 1) := by decide +kernel
theorem dX11_firstOut_3 : decode cX11_firstOut 3 = .ok (.aload_n 0, 1) := by decide +kernel
theorem dX11_firstOut_4 : decode cX11_firstOut 4 = .ok (.getfield 101, 3) := by decide +kernel
theorem dX11_firstOut_7 : decode cX11_firstOut 7 = .ok (.if_icmp .ge 58, 3) := by decide +kernel
theorem dX11_firstOut_10 : decode cX11_firstOut 10 = .ok (.aload_n 0, 1) := by decide +kernel
theorem dX11_firstOut_11 : decode cX11_firstOut 11 = .ok (.invokevirtual 178, 3) := by decide +kernel
theorem dX11_firstOut_14 : decode cX11_firstOut 14 = .ok (.iload_n 2, 1) := by decide +kernel
theorem dX11_firstOut_15 : decode cX11_firstOut 15 = .ok (.istore_n 3, 1) := by decide +kernel
theorem dX11_firstOut_16 : decode cX11_firstOut 16 = .ok (.iload_n 3, 1) := by decide +kernel
theorem dX11_firstOut_17 : decode cX11_firstOut 17 = .ok (.iconst 1, 1) := by decide +kernel
theorem dX11_firstOut_18 : decode cX11_firstOut 18 = .ok (.iadd, 1) := by decide +kernel
theorem dX11_firstOut_19 : decode cX11_firstOut 19 = .ok (.aload_n 0, 1) := by decide +kernel
theorem dX11_firstOut_20 : decode cX11_firstOut 20 = .ok (.getfield 101, 3) := by decide +kernel
theorem dX11_firstOut_23 : decode cX11_firstOut 23 = .ok (.if_icmp .ge 18, 3) := by decide +kernel
theorem dX11_firstOut_26 : decode cX11_firstOut 26 = .ok (.aload_n 0, 1) := by decide +kernel
theorem dX11_firstOut_27 : decode cX11_firstOut 27 = .ok (.getfield 55, 3) := by decide +kernel
theorem dX11_firstOut_30 : decode cX11_firstOut 30 = .ok (.iload_n 3, 1) := by decide +kernel
theorem dX11_firstOut_31 : decode cX11_firstOut 31 = .ok (.iload_n 3, 1) := by decide +kernel
theorem dX11_firstOut_32 : decode cX11_firstOut 32 = .ok (.iconst 1, 1) := by decide +kernel
theorem dX11_firstOut_33 : decode cX11_firstOut 33 = .ok (.iadd, 1) := by decide +kernel
theorem dX11_firstOut_34 : decode cX11_firstOut 34 = .ok (.iastore, 1) := by decide +kernel
theorem dX11_firstOut_35 : decode cX11_firstOut 35 = .ok (.iinc 3 1, 3) := by decide +kernel
theorem dX11_firstOut_38 : decode cX11_firstOut 38 = .ok (.goto (-22), 3) := by decide +kernel
theorem dX11_firstOut_41 : decode cX11_firstOut 41 = .ok (.aload_n 0, 1) := by decide +kernel
theorem dX11_firstOut_42 : decode cX11_firstOut 42 = .ok (.iconst 0, 1) := by decide +kernel
theorem dX11_firstOut_43 : decode cX11_firstOut 43 = .ok (.aload_n 0, 1) := by decide +kernel
theorem dX11_firstOut_44 : decode cX11_firstOut 44 = .ok (.getfield 101, 3) := by decide +kernel
theorem dX11_firstOut_47 : decode cX11_firstOut 47 = .ok (.iconst 1, 1) := by decide +kernel
theorem dX11_firstOut_48 : decode cX11_firstOut 48 = .ok (.isub, 1) := by decide +kernel
theorem dX11_firstOut_49 : decode cX11_firstOut 49 = .ok (.iload_n 1, 1) := by decide +kernel
theorem dX11_firstOut_50 : decode cX11_firstOut 50 = .ok (.invokevirtual 191, 3) := by decide +kernel
theorem dX11_firstOut_53 : decode cX11_firstOut 53 = .ok (.iload_n 1, 1) := by decide +kernel
theorem dX11_firstOut_54 : decode cX11_firstOut 54 = .ok (.if_icmp .ge 5, 3) := by decide +kernel
theorem dX11_firstOut_57 : decode cX11_firstOut 57 = .ok (.iload_n 2, 1) := by decide +kernel
theorem dX11_firstOut_58 : decode cX11_firstOut 58 = .ok (.ireturn, 1) := by decide +kernel
theorem dX11_firstOut_59 : decode cX11_firstOut 59 = .ok (.iinc 2 1, 3) := by decide +kernel
theorem dX11_firstOut_62 : decode cX11_firstOut 62 = .ok (.goto (-60), 3) := by decide +kernel
theorem dX11_firstOut_65 : decode cX11_firstOut 65 = .ok (.iconst (-1), 1) := by decide +kernel
theorem dX11_firstOut_66 : decode cX11_firstOut 66 = .ok (.ireturn, 1) := by decide +kernel
theorem dX11_less_0 : decode cX11_less 0 = .ok (.iload_n 1, 1) := by decide +kernel
theorem dX11_less_1 : decode cX11_less 1 = .ok (.ifCond .lt 8, 3) := by decide +kernel
theorem dX11_less_4 : decode cX11_less 4 = .ok (.iload_n 1, 1) := by decide +kernel
theorem dX11_less_5 : decode cX11_less 5 = .ok (.iconst 1, 1) := by decide +kernel
theorem dX11_less_6 : decode cX11_less 6 = .ok (.if_icmp .le 6, 3) := by decide +kernel
theorem dX11_less_9 : decode cX11_less 9 = .ok (.bipush (-2), 2) := by decide +kernel
theorem dX11_less_11 : decode cX11_less 11 = .ok (.ireturn, 1) := by decide +kernel
theorem dX11_less_12 : decode cX11_less 12 = .ok (.aload_n 0, 1) := by decide +kernel
theorem dX11_less_13 : decode cX11_less 13 = .ok (.invokevirtual 178, 3) := by decide +kernel
theorem dX11_less_16 : decode cX11_less 16 = .ok (.aload_n 0, 1) := by decide +kernel
theorem dX11_less_17 : decode cX11_less 17 = .ok (.iconst 0, 1) := by decide +kernel
theorem dX11_less_18 : decode cX11_less 18 = .ok (.aload_n 0, 1) := by decide +kernel
theorem dX11_less_19 : decode cX11_less 19 = .ok (.getfield 101, 3) := by decide +kernel
theorem dX11_less_22 : decode cX11_less 22 = .ok (.sipush 793, 3) := by decide +kernel
theorem dX11_less_25 : decode cX11_less 25 = .ok (.invokevirtual 191, 3) := by decide +kernel
theorem dX11_less_28 : decode cX11_less 28 = .ok (.istore_n 2, 1) := by decide +kernel
theorem dX11_less_29 : decode cX11_less 29 = .ok (.iload_n 1, 1) := by decide +kernel
theorem dX11_less_30 : decode cX11_less 30 = .ok (.ifCond .ne 11, 3) := by decide +kernel
theorem dX11_less_33 : decode cX11_less 33 = .ok (.aload_n 0, 1) := by decide +kernel
theorem dX11_less_34 : decode cX11_less 34 = .ok (.iload_n 2, 1) := by decide +kernel
theorem dX11_less_35 : decode cX11_less 35 = .ok (.invokevirtual 276, 3) := by decide +kernel
theorem dX11_less_38 : decode cX11_less 38 = .ok (.goto 8, 3) := by decide +kernel
theorem dX11_less_41 : decode cX11_less 41 = .ok (.aload_n 0, 1) := by decide +kernel
theorem dX11_less_42 : decode cX11_less 42 = .ok (.iload_n 2, 1) := by decide +kernel
theorem dX11_less_43 : decode cX11_less 43 = .ok (.invokevirtual 279, 3) := by decide +kernel
theorem dX11_less_46 : decode cX11_less 46 = .ok (.ireturn, 1) := by decide +kernel
theorem dX11_riseBehind_0 : decode cX11_riseBehind 0 = .ok (.iconst 0, 1) := by decide +kernel
theorem dX11_riseBehind_1 : decode cX11_riseBehind 1 = .ok (.istore_n 3, 1) := by decide +kernel
theorem dX11_riseBehind_2 : decode cX11_riseBehind 2 = .ok (.iload_n 1, 1) := by decide +kernel
theorem dX11_riseBehind_3 : decode cX11_riseBehind 3 = .ok (.iconst 1, 1) := by decide +kernel
theorem dX11_riseBehind_4 : decode cX11_riseBehind 4 = .ok (.iadd, 1) := by decide +kernel
theorem dX11_riseBehind_5 : decode cX11_riseBehind 5 = .ok (.istore 4, 2) := by decide +kernel
theorem dX11_riseBehind_7 : decode cX11_riseBehind 7 = .ok (.iload 4, 2) := by decide +kernel
theorem dX11_riseBehind_9 : decode cX11_riseBehind 9 = .ok (.aload_n 0, 1) := by decide +kernel
theorem dX11_riseBehind_10 : decode cX11_riseBehind 10 = .ok (.getfield 101, 3) := by decide +kernel
theorem dX11_riseBehind_13 : decode cX11_riseBehind 13 = .ok (.if_icmp .ge 78, 3) := by decide +kernel
theorem dX11_riseBehind_16 : decode cX11_riseBehind 16 = .ok (.iload_n 1, 1) := by decide +kernel
theorem dX11_riseBehind_17 : decode cX11_riseBehind 17 = .ok (.ifCond .lt 42, 3) := by decide +kernel
theorem dX11_riseBehind_20 : decode cX11_riseBehind 20 = .ok (.iload_n 2, 1) := by decide +kernel
theorem dX11_riseBehind_21 : decode cX11_riseBehind 21 = .ok (.ifCond .ne 22, 3) := by decide +kernel
theorem dX11_riseBehind_24 : decode cX11_riseBehind 24 = .ok (.aload_n 0, 1) := by decide +kernel
theorem dX11_riseBehind_25 : decode cX11_riseBehind 25 = .ok (.getfield 9, 3) := by decide +kernel
theorem dX11_riseBehind_28 : decode cX11_riseBehind 28 = .ok (.iload 4, 2) := by decide +kernel
theorem dX11_riseBehind_30 : decode cX11_riseBehind 30 = .ok (.iaload, 1) := by decide +kernel
theorem dX11_riseBehind_31 : decode cX11_riseBehind 31 = .ok (.aload_n 0, 1) := by decide +kernel
theorem dX11_riseBehind_32 : decode cX11_riseBehind 32 = .ok (.getfield 9, 3) := by decide +kernel
theorem dX11_riseBehind_35 : decode cX11_riseBehind 35 = .ok (.iload_n 1, 1) := by decide +kernel
theorem dX11_riseBehind_36 : decode cX11_riseBehind 36 = .ok (.iaload, 1) := by decide +kernel
theorem dX11_riseBehind_37 : decode cX11_riseBehind 37 = .ok (.if_icmp .le 26, 3) := by decide +kernel
theorem dX11_riseBehind_40 : decode cX11_riseBehind 40 = .ok (.goto 19, 3) := by decide +kernel
theorem dX11_riseBehind_43 : decode cX11_riseBehind 43 = .ok (.aload_n 0, 1) := by decide +kernel
theorem dX11_riseBehind_44 : decode cX11_riseBehind 44 = .ok (.getfield 9, 3) := by decide +kernel
theorem dX11_riseBehind_47 : decode cX11_riseBehind 47 = .ok (.iload 4, 2) := by decide +kernel
theorem dX11_riseBehind_49 : decode cX11_riseBehind 49 = .ok (.iaload, 1) := by decide +kernel
theorem dX11_riseBehind_50 : decode cX11_riseBehind 50 = .ok (.aload_n 0, 1) := by decide +kernel
theorem dX11_riseBehind_51 : decode cX11_riseBehind 51 = .ok (.getfield 9, 3) := by decide +kernel
theorem dX11_riseBehind_54 : decode cX11_riseBehind 54 = .ok (.iload_n 1, 1) := by decide +kernel
theorem dX11_riseBehind_55 : decode cX11_riseBehind 55 = .ok (.iaload, 1) := by decide +kernel
theorem dX11_riseBehind_56 : decode cX11_riseBehind 56 = .ok (.if_icmp .ge 7, 3) := by decide +kernel
theorem dX11_riseBehind_59 : decode cX11_riseBehind 59 = .ok (.iconst 1, 1) := by decide +kernel
theorem dX11_riseBehind_60 : decode cX11_riseBehind 60 = .ok (.goto 4, 3) := by decide +kernel
theorem dX11_riseBehind_63 : decode cX11_riseBehind 63 = .ok (.iconst 0, 1) := by decide +kernel
theorem dX11_riseBehind_64 : decode cX11_riseBehind 64 = .ok (.istore 5, 2) := by decide +kernel
theorem dX11_riseBehind_66 : decode cX11_riseBehind 66 = .ok (.iload 5, 2) := by decide +kernel
theorem dX11_riseBehind_68 : decode cX11_riseBehind 68 = .ok (.ifCond .eq 17, 3) := by decide +kernel
theorem dX11_riseBehind_71 : decode cX11_riseBehind 71 = .ok (.iload_n 3, 1) := by decide +kernel
theorem dX11_riseBehind_72 : decode cX11_riseBehind 72 = .ok (.iconst 1, 1) := by decide +kernel
theorem dX11_riseBehind_73 : decode cX11_riseBehind 73 = .ok (.aload_n 0, 1) := by decide +kernel
theorem dX11_riseBehind_74 : decode cX11_riseBehind 74 = .ok (.iload 4, 2) := by decide +kernel
theorem dX11_riseBehind_76 : decode cX11_riseBehind 76 = .ok (.iload_n 2, 1) := by decide +kernel
theorem dX11_riseBehind_77 : decode cX11_riseBehind 77 = .ok (.invokevirtual 282, 3) := by decide +kernel
theorem dX11_riseBehind_80 : decode cX11_riseBehind 80 = .ok (.iadd, 1) := by decide +kernel
theorem dX11_riseBehind_81 : decode cX11_riseBehind 81 = .ok (.invokestatic 175, 3) := by decide +kernel
theorem dX11_riseBehind_84 : decode cX11_riseBehind 84 = .ok (.istore_n 3, 1) := by decide +kernel
theorem dX11_riseBehind_85 : decode cX11_riseBehind 85 = .ok (.iinc 4 1, 3) := by decide +kernel
theorem dX11_riseBehind_88 : decode cX11_riseBehind 88 = .ok (.goto (-81), 3) := by decide +kernel
theorem dX11_riseBehind_91 : decode cX11_riseBehind 91 = .ok (.iload_n 3, 1) := by decide +kernel
theorem dX11_riseBehind_92 : decode cX11_riseBehind 92 = .ok (.ireturn, 1) := by decide +kernel
theorem dX11_rises_0 : decode cX11_rises 0 = .ok (.iload_n 1, 1) := by decide +kernel
theorem dX11_rises_1 : decode cX11_rises 1 = .ok (.ifCond .lt 8, 3) := by decide +kernel
theorem dX11_rises_4 : decode cX11_rises 4 = .ok (.iload_n 1, 1) := by decide +kernel
theorem dX11_rises_5 : decode cX11_rises 5 = .ok (.iconst 1, 1) := by decide +kernel
theorem dX11_rises_6 : decode cX11_rises 6 = .ok (.if_icmp .le 6, 3) := by decide +kernel
theorem dX11_rises_9 : decode cX11_rises 9 = .ok (.bipush (-2), 2) := by decide +kernel
theorem dX11_rises_11 : decode cX11_rises 11 = .ok (.ireturn, 1) := by decide +kernel
theorem dX11_rises_12 : decode cX11_rises 12 = .ok (.aload_n 0, 1) := by decide +kernel
theorem dX11_rises_13 : decode cX11_rises 13 = .ok (.iconst (-1), 1) := by decide +kernel
theorem dX11_rises_14 : decode cX11_rises 14 = .ok (.iload_n 1, 1) := by decide +kernel
theorem dX11_rises_15 : decode cX11_rises 15 = .ok (.invokevirtual 282, 3) := by decide +kernel
theorem dX11_rises_18 : decode cX11_rises 18 = .ok (.ireturn, 1) := by decide +kernel
theorem dX11_sheetAt_0 : decode cX11_sheetAt 0 = .ok (.iload_n 1, 1) := by decide +kernel
theorem dX11_sheetAt_1 : decode cX11_sheetAt 1 = .ok (.ifCond .lt 17, 3) := by decide +kernel
theorem dX11_sheetAt_4 : decode cX11_sheetAt 4 = .ok (.iload_n 1, 1) := by decide +kernel
theorem dX11_sheetAt_5 : decode cX11_sheetAt 5 = .ok (.iconst 4, 1) := by decide +kernel
theorem dX11_sheetAt_6 : decode cX11_sheetAt 6 = .ok (.if_icmp .ge 12, 3) := by decide +kernel
theorem dX11_sheetAt_9 : decode cX11_sheetAt 9 = .ok (.aload_n 0, 1) := by decide +kernel
theorem dX11_sheetAt_10 : decode cX11_sheetAt 10 = .ok (.getfield 44, 3) := by decide +kernel
theorem dX11_sheetAt_13 : decode cX11_sheetAt 13 = .ok (.iload_n 1, 1) := by decide +kernel
theorem dX11_sheetAt_14 : decode cX11_sheetAt 14 = .ok (.aaload, 1) := by decide +kernel
theorem dX11_sheetAt_15 : decode cX11_sheetAt 15 = .ok (.goto 4, 3) := by decide +kernel
theorem dX11_sheetAt_18 : decode cX11_sheetAt 18 = .ok (.aconst_null, 1) := by decide +kernel
theorem dX11_sheetAt_19 : decode cX11_sheetAt 19 = .ok (.areturn, 1) := by decide +kernel
theorem dX7_isMissing_0 : decode cX7_isMissing 0 = .ok (.aload_n 0, 1) := by decide +kernel
theorem dX7_isMissing_1 : decode cX7_isMissing 1 = .ok (.getfield 15, 3) := by decide +kernel
theorem dX7_isMissing_4 : decode cX7_isMissing 4 = .ok (.iconst (-1), 1) := by decide +kernel
theorem dX7_isMissing_5 : decode cX7_isMissing 5 = .ok (.if_icmp .ne 7, 3) := by decide +kernel
theorem dX7_isMissing_8 : decode cX7_isMissing 8 = .ok (.iconst 1, 1) := by decide +kernel
theorem dX7_isMissing_9 : decode cX7_isMissing 9 = .ok (.goto 4, 3) := by decide +kernel
theorem dX7_isMissing_12 : decode cX7_isMissing 12 = .ok (.iconst 0, 1) := by decide +kernel
theorem dX7_isMissing_13 : decode cX7_isMissing 13 = .ok (.ireturn, 1) := by decide +kernel
theorem dX11_judge_0 : decode cX11_judge 0 = .ok (.aload_n 0, 1) := by decide +kernel
theorem dX11_judge_1 : decode cX11_judge 1 = .ok (.iload_n 1, 1) := by decide +kernel
theorem dX11_judge_2 : decode cX11_judge 2 = .ok (.invokevirtual 285, 3) := by decide +kernel
theorem dX11_judge_5 : decode cX11_judge 5 = .ok (.astore_n 2, 1) := by decide +kernel
theorem dX11_judge_6 : decode cX11_judge 6 = .ok (.aload_n 2, 1) := by decide +kernel
theorem dX11_judge_7 : decode cX11_judge 7 = .ok (.ifnonnull 6, 3) := by decide +kernel
theorem dX11_judge_10 : decode cX11_judge 10 = .ok (.bipush (-2), 2) := by decide +kernel
theorem dX11_judge_12 : decode cX11_judge 12 = .ok (.ireturn, 1) := by decide +kernel
theorem dX11_judge_13 : decode cX11_judge 13 = .ok (.aload_n 2, 1) := by decide +kernel
theorem dX11_judge_14 : decode cX11_judge 14 = .ok (.invokevirtual 289, 3) := by decide +kernel
theorem dX11_judge_17 : decode cX11_judge 17 = .ok (.ifCond .eq 6, 3) := by decide +kernel
theorem dX11_judge_20 : decode cX11_judge 20 = .ok (.bipush (-11), 2) := by decide +kernel
theorem dX11_judge_22 : decode cX11_judge 22 = .ok (.ireturn, 1) := by decide +kernel
theorem dX11_judge_23 : decode cX11_judge 23 = .ok (.aload_n 0, 1) := by decide +kernel
theorem dX11_judge_24 : decode cX11_judge 24 = .ok (.getfield 51, 3) := by decide +kernel
theorem dX11_judge_27 : decode cX11_judge 27 = .ok (.invokevirtual 203, 3) := by decide +kernel
theorem dX11_judge_30 : decode cX11_judge 30 = .ok (.iconst 0, 1) := by decide +kernel
theorem dX11_judge_31 : decode cX11_judge 31 = .ok (.istore_n 3, 1) := by decide +kernel
theorem dX11_judge_32 : decode cX11_judge 32 = .ok (.iload_n 3, 1) := by decide +kernel
theorem dX11_judge_33 : decode cX11_judge 33 = .ok (.aload_n 2, 1) := by decide +kernel
theorem dX11_judge_34 : decode cX11_judge 34 = .ok (.getfield 293, 3) := by decide +kernel
theorem dX11_judge_37 : decode cX11_judge 37 = .ok (.if_icmp .ge 75, 3) := by decide +kernel
theorem dX11_judge_40 : decode cX11_judge 40 = .ok (.aload_n 2, 1) := by decide +kernel
theorem dX11_judge_41 : decode cX11_judge 41 = .ok (.getfield 294, 3) := by decide +kernel
theorem dX11_judge_44 : decode cX11_judge 44 = .ok (.iload_n 3, 1) := by decide +kernel
theorem dX11_judge_45 : decode cX11_judge 45 = .ok (.iaload, 1) := by decide +kernel
theorem dX11_judge_46 : decode cX11_judge 46 = .ok (.istore 4, 2) := by decide +kernel
theorem dX11_judge_48 : decode cX11_judge 48 = .ok (.aload_n 0, 1) := by decide +kernel
theorem dX11_judge_49 : decode cX11_judge 49 = .ok (.iload_n 3, 1) := by decide +kernel
theorem dX11_judge_50 : decode cX11_judge 50 = .ok (.invokevirtual 115, 3) := by decide +kernel
theorem dX11_judge_53 : decode cX11_judge 53 = .ok (.ifCond .eq 33, 3) := by decide +kernel
theorem dX11_judge_56 : decode cX11_judge 56 = .ok (.iload 4, 2) := by decide +kernel
theorem dX11_judge_58 : decode cX11_judge 58 = .ok (.aload_n 0, 1) := by decide +kernel
theorem dX11_judge_59 : decode cX11_judge 59 = .ok (.getfield 51, 3) := by decide +kernel
theorem dX11_judge_62 : decode cX11_judge 62 = .ok (.getfield 185, 3) := by decide +kernel
theorem dX11_judge_65 : decode cX11_judge 65 = .ok (.if_icmp .eq 17, 3) := by decide +kernel
theorem dX11_judge_68 : decode cX11_judge 68 = .ok (.aload_n 0, 1) := by decide +kernel
theorem dX11_judge_69 : decode cX11_judge 69 = .ok (.aload_n 0, 1) := by decide +kernel
theorem dX11_judge_70 : decode cX11_judge 70 = .ok (.getfield 51, 3) := by decide +kernel
theorem dX11_judge_73 : decode cX11_judge 73 = .ok (.iload 4, 2) := by decide +kernel
theorem dX11_judge_75 : decode cX11_judge 75 = .ok (.iload_n 3, 1) := by decide +kernel
theorem dX11_judge_76 : decode cX11_judge 76 = .ok (.invokevirtual 216, 3) := by decide +kernel
theorem dX11_judge_79 : decode cX11_judge 79 = .ok (.ifCond .eq 7, 3) := by decide +kernel
theorem dX11_judge_82 : decode cX11_judge 82 = .ok (.iconst 1, 1) := by decide +kernel
theorem dX11_judge_83 : decode cX11_judge 83 = .ok (.goto 4, 3) := by decide +kernel
theorem dX11_judge_86 : decode cX11_judge 86 = .ok (.iconst 0, 1) := by decide +kernel
theorem dX11_judge_87 : decode cX11_judge 87 = .ok (.istore 5, 2) := by decide +kernel
theorem dX11_judge_89 : decode cX11_judge 89 = .ok (.iload 5, 2) := by decide +kernel
theorem dX11_judge_91 : decode cX11_judge 91 = .ok (.ifCond .ne 5, 3) := by decide +kernel
theorem dX11_judge_94 : decode cX11_judge 94 = .ok (.iload_n 3, 1) := by decide +kernel
theorem dX11_judge_95 : decode cX11_judge 95 = .ok (.ireturn, 1) := by decide +kernel
theorem dX11_judge_96 : decode cX11_judge 96 = .ok (.aload_n 0, 1) := by decide +kernel
theorem dX11_judge_97 : decode cX11_judge 97 = .ok (.getfield 51, 3) := by decide +kernel
theorem dX11_judge_100 : decode cX11_judge 100 = .ok (.iload 4, 2) := by decide +kernel
theorem dX11_judge_102 : decode cX11_judge 102 = .ok (.iload_n 3, 1) := by decide +kernel
theorem dX11_judge_103 : decode cX11_judge 103 = .ok (.invokevirtual 213, 3) := by decide +kernel
theorem dX11_judge_106 : decode cX11_judge 106 = .ok (.iinc 3 1, 3) := by decide +kernel
theorem dX11_judge_109 : decode cX11_judge 109 = .ok (.goto (-77), 3) := by decide +kernel
theorem dX11_judge_112 : decode cX11_judge 112 = .ok (.iconst (-1), 1) := by decide +kernel
theorem dX11_judge_113 : decode cX11_judge 113 = .ok (.ireturn, 1) := by decide +kernel
theorem dX11_laysJustSo_0 : decode cX11_laysJustSo 0 = .ok (.aload_n 1, 1) := by decide +kernel
theorem dX11_laysJustSo_1 : decode cX11_laysJustSo 1 = .ok (.ifnonnull 5, 3) := by decide +kernel
theorem dX11_laysJustSo_4 : decode cX11_laysJustSo 4 = .ok (.iconst 0, 1) := by decide +kernel
theorem dX11_laysJustSo_5 : decode cX11_laysJustSo 5 = .ok (.ireturn, 1) := by decide +kernel
theorem dX11_laysJustSo_6 : decode cX11_laysJustSo 6 = .ok (.aload_n 0, 1) := by decide +kernel
theorem dX11_laysJustSo_7 : decode cX11_laysJustSo 7 = .ok (.invokevirtual 178, 3) := by decide +kernel
theorem dX11_laysJustSo_10 : decode cX11_laysJustSo 10 = .ok (.aload_n 0, 1) := by decide +kernel
theorem dX11_laysJustSo_11 : decode cX11_laysJustSo 11 = .ok (.aload_n 1, 1) := by decide +kernel
theorem dX11_laysJustSo_12 : decode cX11_laysJustSo 12 = .ok (.aload_n 0, 1) := by decide +kernel
theorem dX11_laysJustSo_13 : decode cX11_laysJustSo 13 = .ok (.getfield 101, 3) := by decide +kernel
theorem dX11_laysJustSo_16 : decode cX11_laysJustSo 16 = .ok (.invokevirtual 181, 3) := by decide +kernel
theorem dX11_laysJustSo_19 : decode cX11_laysJustSo 19 = .ok (.pop, 1) := by decide +kernel
theorem dX11_laysJustSo_20 : decode cX11_laysJustSo 20 = .ok (.iconst 0, 1) := by decide +kernel
theorem dX11_laysJustSo_21 : decode cX11_laysJustSo 21 = .ok (.istore_n 3, 1) := by decide +kernel
theorem dX11_laysJustSo_22 : decode cX11_laysJustSo 22 = .ok (.iload_n 3, 1) := by decide +kernel
theorem dX11_laysJustSo_23 : decode cX11_laysJustSo 23 = .ok (.aload_n 0, 1) := by decide +kernel
theorem dX11_laysJustSo_24 : decode cX11_laysJustSo 24 = .ok (.getfield 101, 3) := by decide +kernel
theorem dX11_laysJustSo_27 : decode cX11_laysJustSo 27 = .ok (.if_icmp .ge 29, 3) := by decide +kernel
theorem dX11_laysJustSo_30 : decode cX11_laysJustSo 30 = .ok (.aload_n 0, 1) := by decide +kernel
theorem dX11_laysJustSo_31 : decode cX11_laysJustSo 31 = .ok (.getfield 51, 3) := by decide +kernel
theorem dX11_laysJustSo_34 : decode cX11_laysJustSo 34 = .ok (.getfield 188, 3) := by decide +kernel
theorem dX11_laysJustSo_37 : decode cX11_laysJustSo 37 = .ok (.iload_n 3, 1) := by decide +kernel
theorem dX11_laysJustSo_38 : decode cX11_laysJustSo 38 = .ok (.iaload, 1) := by decide +kernel
theorem dX11_laysJustSo_39 : decode cX11_laysJustSo 39 = .ok (.aload_n 2, 1) := by decide +kernel
theorem dX11_laysJustSo_40 : decode cX11_laysJustSo 40 = .ok (.getfield 294, 3) := by decide +kernel
theorem dX11_laysJustSo_43 : decode cX11_laysJustSo 43 = .ok (.iload_n 3, 1) := by decide +kernel
theorem dX11_laysJustSo_44 : decode cX11_laysJustSo 44 = .ok (.iaload, 1) := by decide +kernel
theorem dX11_laysJustSo_45 : decode cX11_laysJustSo 45 = .ok (.if_icmp .eq 5, 3) := by decide +kernel
theorem dX11_laysJustSo_48 : decode cX11_laysJustSo 48 = .ok (.iconst 0, 1) := by decide +kernel
theorem dX11_laysJustSo_49 : decode cX11_laysJustSo 49 = .ok (.ireturn, 1) := by decide +kernel
theorem dX11_laysJustSo_50 : decode cX11_laysJustSo 50 = .ok (.iinc 3 1, 3) := by decide +kernel
theorem dX11_laysJustSo_53 : decode cX11_laysJustSo 53 = .ok (.goto (-31), 3) := by decide +kernel
theorem dX11_laysJustSo_56 : decode cX11_laysJustSo 56 = .ok (.iconst 1, 1) := by decide +kernel
theorem dX11_laysJustSo_57 : decode cX11_laysJustSo 57 = .ok (.ireturn, 1) := by decide +kernel
theorem dX11_stranger_0 : decode cX11_stranger 0 = .ok (.aload_n 0, 1) := by decide +kernel
theorem dX11_stranger_1 : decode cX11_stranger 1 = .ok (.iload_n 1, 1) := by decide +kernel
theorem dX11_stranger_2 : decode cX11_stranger 2 = .ok (.invokevirtual 285, 3) := by decide +kernel
theorem dX11_stranger_5 : decode cX11_stranger 5 = .ok (.astore_n 2, 1) := by decide +kernel
theorem dX11_stranger_6 : decode cX11_stranger 6 = .ok (.aload_n 2, 1) := by decide +kernel
theorem dX11_stranger_7 : decode cX11_stranger 7 = .ok (.ifnonnull 6, 3) := by decide +kernel
theorem dX11_stranger_10 : decode cX11_stranger 10 = .ok (.bipush (-2), 2) := by decide +kernel
theorem dX11_stranger_12 : decode cX11_stranger 12 = .ok (.ireturn, 1) := by decide +kernel
theorem dX11_stranger_13 : decode cX11_stranger 13 = .ok (.aload_n 2, 1) := by decide +kernel
theorem dX11_stranger_14 : decode cX11_stranger 14 = .ok (.invokevirtual 289, 3) := by decide +kernel
theorem dX11_stranger_17 : decode cX11_stranger 17 = .ok (.ifCond .eq 6, 3) := by decide +kernel
theorem dX11_stranger_20 : decode cX11_stranger 20 = .ok (.bipush (-11), 2) := by decide +kernel
theorem dX11_stranger_22 : decode cX11_stranger 22 = .ok (.ireturn, 1) := by decide +kernel
theorem dX11_stranger_23 : decode cX11_stranger 23 = .ok (.aload_n 2, 1) := by decide +kernel
theorem dX11_stranger_24 : decode cX11_stranger 24 = .ok (.getfield 293, 3) := by decide +kernel
theorem dX11_stranger_27 : decode cX11_stranger 27 = .ok (.aload_n 0, 1) := by decide +kernel
theorem dX11_stranger_28 : decode cX11_stranger 28 = .ok (.getfield 101, 3) := by decide +kernel
theorem dX11_stranger_31 : decode cX11_stranger 31 = .ok (.if_icmp .eq 6, 3) := by decide +kernel
theorem dX11_stranger_34 : decode cX11_stranger 34 = .ok (.bipush (-2), 2) := by decide +kernel
theorem dX11_stranger_36 : decode cX11_stranger 36 = .ok (.ireturn, 1) := by decide +kernel
theorem dX11_stranger_37 : decode cX11_stranger 37 = .ok (.iconst 0, 1) := by decide +kernel
theorem dX11_stranger_38 : decode cX11_stranger 38 = .ok (.istore_n 3, 1) := by decide +kernel
theorem dX11_stranger_39 : decode cX11_stranger 39 = .ok (.iconst 0, 1) := by decide +kernel
theorem dX11_stranger_40 : decode cX11_stranger 40 = .ok (.istore 4, 2) := by decide +kernel
theorem dX11_stranger_42 : decode cX11_stranger 42 = .ok (.iload 4, 2) := by decide +kernel
theorem dX11_stranger_44 : decode cX11_stranger 44 = .ok (.aload_n 0, 1) := by decide +kernel
theorem dX11_stranger_45 : decode cX11_stranger 45 = .ok (.getfield 104, 3) := by decide +kernel
theorem dX11_stranger_48 : decode cX11_stranger 48 = .ok (.if_icmp .ge 30, 3) := by decide +kernel
theorem dX11_stranger_51 : decode cX11_stranger 51 = .ok (.aload_n 0, 1) := by decide +kernel
theorem dX11_stranger_52 : decode cX11_stranger 52 = .ok (.aload_n 0, 1) := by decide +kernel
theorem dX11_stranger_53 : decode cX11_stranger 53 = .ok (.iload 4, 2) := by decide +kernel
theorem dX11_stranger_55 : decode cX11_stranger 55 = .ok (.invokevirtual 121, 3) := by decide +kernel
theorem dX11_stranger_58 : decode cX11_stranger 58 = .ok (.aload_n 2, 1) := by decide +kernel
theorem dX11_stranger_59 : decode cX11_stranger 59 = .ok (.invokevirtual 297, 3) := by decide +kernel
theorem dX11_stranger_62 : decode cX11_stranger 62 = .ok (.ifCond .eq 10, 3) := by decide +kernel
theorem dX11_stranger_65 : decode cX11_stranger 65 = .ok (.iload_n 3, 1) := by decide +kernel
theorem dX11_stranger_66 : decode cX11_stranger 66 = .ok (.iconst 1, 1) := by decide +kernel
theorem dX11_stranger_67 : decode cX11_stranger 67 = .ok (.iload 4, 2) := by decide +kernel
theorem dX11_stranger_69 : decode cX11_stranger 69 = .ok (.ishl, 1) := by decide +kernel
theorem dX11_stranger_70 : decode cX11_stranger 70 = .ok (.ior, 1) := by decide +kernel
theorem dX11_stranger_71 : decode cX11_stranger 71 = .ok (.istore_n 3, 1) := by decide +kernel
theorem dX11_stranger_72 : decode cX11_stranger 72 = .ok (.iinc 4 1, 3) := by decide +kernel
theorem dX11_stranger_75 : decode cX11_stranger 75 = .ok (.goto (-33), 3) := by decide +kernel
theorem dX11_stranger_78 : decode cX11_stranger 78 = .ok (.iload_n 3, 1) := by decide +kernel
theorem dX11_stranger_79 : decode cX11_stranger 79 = .ok (.ireturn, 1) := by decide +kernel
theorem dX11_lay_0 : decode cX11_lay 0 = .ok (.aload_n 0, 1) := by decide +kernel
theorem dX11_lay_1 : decode cX11_lay 1 = .ok (.iload_n 1, 1) := by decide +kernel
theorem dX11_lay_2 : decode cX11_lay 2 = .ok (.invokevirtual 121, 3) := by decide +kernel
theorem dX11_lay_5 : decode cX11_lay 5 = .ok (.astore_n 2, 1) := by decide +kernel
theorem dX11_lay_6 : decode cX11_lay 6 = .ok (.aload_n 2, 1) := by decide +kernel
theorem dX11_lay_7 : decode cX11_lay 7 = .ok (.ifnonnull 6, 3) := by decide +kernel
theorem dX11_lay_10 : decode cX11_lay 10 = .ok (.bipush (-2), 2) := by decide +kernel
theorem dX11_lay_12 : decode cX11_lay 12 = .ok (.ireturn, 1) := by decide +kernel
theorem dX11_lay_13 : decode cX11_lay 13 = .ok (.aload_n 0, 1) := by decide +kernel
theorem dX11_lay_14 : decode cX11_lay 14 = .ok (.getfield 38, 3) := by decide +kernel
theorem dX11_lay_17 : decode cX11_lay 17 = .ok (.getfield 326, 3) := by decide +kernel
theorem dX11_lay_20 : decode cX11_lay 20 = .ok (.aload_n 0, 1) := by decide +kernel
theorem dX11_lay_21 : decode cX11_lay 21 = .ok (.getfield 101, 3) := by decide +kernel
theorem dX11_lay_24 : decode cX11_lay 24 = .ok (.if_icmp .lt 6, 3) := by decide +kernel
theorem dX11_lay_27 : decode cX11_lay 27 = .ok (.bipush (-3), 2) := by decide +kernel
theorem dX11_lay_29 : decode cX11_lay 29 = .ok (.ireturn, 1) := by decide +kernel
theorem dX11_lay_30 : decode cX11_lay 30 = .ok (.aload_n 0, 1) := by decide +kernel
theorem dX11_lay_31 : decode cX11_lay 31 = .ok (.aload_n 2, 1) := by decide +kernel
theorem dX11_lay_32 : decode cX11_lay 32 = .ok (.aload_n 0, 1) := by decide +kernel
theorem dX11_lay_33 : decode cX11_lay 33 = .ok (.getfield 38, 3) := by decide +kernel
theorem dX11_lay_36 : decode cX11_lay 36 = .ok (.getfield 329, 3) := by decide +kernel
theorem dX11_lay_39 : decode cX11_lay 39 = .ok (.aload_n 0, 1) := by decide +kernel
theorem dX11_lay_40 : decode cX11_lay 40 = .ok (.getfield 38, 3) := by decide +kernel
theorem dX11_lay_43 : decode cX11_lay 43 = .ok (.getfield 326, 3) := by decide +kernel
theorem dX11_lay_46 : decode cX11_lay 46 = .ok (.invokevirtual 206, 3) := by decide +kernel
theorem dX11_lay_49 : decode cX11_lay 49 = .ok (.istore_n 3, 1) := by decide +kernel
theorem dX11_lay_50 : decode cX11_lay 50 = .ok (.aload_n 0, 1) := by decide +kernel
theorem dX11_lay_51 : decode cX11_lay 51 = .ok (.getfield 38, 3) := by decide +kernel
theorem dX11_lay_54 : decode cX11_lay 54 = .ok (.getfield 329, 3) := by decide +kernel
theorem dX11_lay_57 : decode cX11_lay 57 = .ok (.iload_n 3, 1) := by decide +kernel
theorem dX11_lay_58 : decode cX11_lay 58 = .ok (.aload_n 0, 1) := by decide +kernel
theorem dX11_lay_59 : decode cX11_lay 59 = .ok (.getfield 38, 3) := by decide +kernel
theorem dX11_lay_62 : decode cX11_lay 62 = .ok (.getfield 326, 3) := by decide +kernel
theorem dX11_lay_65 : decode cX11_lay 65 = .ok (.invokevirtual 213, 3) := by decide +kernel
theorem dX11_lay_68 : decode cX11_lay 68 = .ok (.aload_n 0, 1) := by decide +kernel
theorem dX11_lay_69 : decode cX11_lay 69 = .ok (.getfield 38, 3) := by decide +kernel
theorem dX11_lay_72 : decode cX11_lay 72 = .ok (.dup, 1) := by decide +kernel
theorem dX11_lay_73 : decode cX11_lay 73 = .ok (.getfield 326, 3) := by decide +kernel
theorem dX11_lay_76 : decode cX11_lay 76 = .ok (.iconst 1, 1) := by decide +kernel
theorem dX11_lay_77 : decode cX11_lay 77 = .ok (.iadd, 1) := by decide +kernel
theorem dX11_lay_78 : decode cX11_lay 78 = .ok (.putfield 326, 3) := by decide +kernel
theorem dX11_lay_81 : decode cX11_lay 81 = .ok (.iload_n 3, 1) := by decide +kernel
theorem dX11_lay_82 : decode cX11_lay 82 = .ok (.ireturn, 1) := by decide +kernel
theorem dX11_take_0 : decode cX11_take 0 = .ok (.aload_n 0, 1) := by decide +kernel
theorem dX11_take_1 : decode cX11_take 1 = .ok (.getfield 38, 3) := by decide +kernel
theorem dX11_take_4 : decode cX11_take 4 = .ok (.getfield 329, 3) := by decide +kernel
theorem dX11_take_7 : decode cX11_take 7 = .ok (.iload_n 1, 1) := by decide +kernel
theorem dX11_take_8 : decode cX11_take 8 = .ok (.invokevirtual 238, 3) := by decide +kernel
theorem dX11_take_11 : decode cX11_take 11 = .ok (.ifCond .ne 6, 3) := by decide +kernel
theorem dX11_take_14 : decode cX11_take 14 = .ok (.bipush (-2), 2) := by decide +kernel
theorem dX11_take_16 : decode cX11_take 16 = .ok (.ireturn, 1) := by decide +kernel
theorem dX11_take_17 : decode cX11_take 17 = .ok (.aload_n 0, 1) := by decide +kernel
theorem dX11_take_18 : decode cX11_take 18 = .ok (.getfield 38, 3) := by decide +kernel
theorem dX11_take_21 : decode cX11_take 21 = .ok (.getfield 329, 3) := by decide +kernel
theorem dX11_take_24 : decode cX11_take 24 = .ok (.iload_n 1, 1) := by decide +kernel
theorem dX11_take_25 : decode cX11_take 25 = .ok (.invokevirtual 231, 3) := by decide +kernel
theorem dX11_take_28 : decode cX11_take 28 = .ok (.ifCond .ne 6, 3) := by decide +kernel
theorem dX11_take_31 : decode cX11_take 31 = .ok (.bipush (-3), 2) := by decide +kernel
theorem dX11_take_33 : decode cX11_take 33 = .ok (.ireturn, 1) := by decide +kernel
theorem dX11_take_34 : decode cX11_take 34 = .ok (.aload_n 0, 1) := by decide +kernel
theorem dX11_take_35 : decode cX11_take 35 = .ok (.getfield 38, 3) := by decide +kernel
theorem dX11_take_38 : decode cX11_take 38 = .ok (.getfield 329, 3) := by decide +kernel
theorem dX11_take_41 : decode cX11_take 41 = .ok (.iload_n 1, 1) := by decide +kernel
theorem dX11_take_42 : decode cX11_take 42 = .ok (.invokevirtual 332, 3) := by decide +kernel
theorem dX11_take_45 : decode cX11_take 45 = .ok (.ireturn, 1) := by decide +kernel
theorem dX1_at_0 : decode cX1_at 0 = .ok (.iload_n 2, 1) := by decide +kernel
theorem dX1_at_1 : decode cX1_at 1 = .ok (.ifCond .lt 12, 3) := by decide +kernel
theorem dX1_at_4 : decode cX1_at 4 = .ok (.iload_n 2, 1) := by decide +kernel
theorem dX1_at_5 : decode cX1_at 5 = .ok (.aload_n 0, 1) := by decide +kernel
theorem dX1_at_6 : decode cX1_at 6 = .ok (.iload_n 1, 1) := by decide +kernel
theorem dX1_at_7 : decode cX1_at 7 = .ok (.invokevirtual 28, 3) := by decide +kernel
theorem dX1_at_10 : decode cX1_at 10 = .ok (.if_icmp .lt 5, 3) := by decide +kernel
theorem dX1_at_13 : decode cX1_at 13 = .ok (.iconst (-1), 1) := by decide +kernel
theorem dX1_at_14 : decode cX1_at 14 = .ok (.ireturn, 1) := by decide +kernel
theorem dX1_at_15 : decode cX1_at 15 = .ok (.aload_n 0, 1) := by decide +kernel
theorem dX1_at_16 : decode cX1_at 16 = .ok (.getfield 9, 3) := by decide +kernel
theorem dX1_at_19 : decode cX1_at 19 = .ok (.iload_n 1, 1) := by decide +kernel
theorem dX1_at_20 : decode cX1_at 20 = .ok (.bipush 8, 2) := by decide +kernel
theorem dX1_at_22 : decode cX1_at 22 = .ok (.imul, 1) := by decide +kernel
theorem dX1_at_23 : decode cX1_at 23 = .ok (.iload_n 2, 1) := by decide +kernel
theorem dX1_at_24 : decode cX1_at 24 = .ok (.iadd, 1) := by decide +kernel
theorem dX1_at_25 : decode cX1_at 25 = .ok (.iaload, 1) := by decide +kernel
theorem dX1_at_26 : decode cX1_at 26 = .ok (.ireturn, 1) := by decide +kernel
theorem dX11_on_0 : decode cX11_on 0 = .ok (.aload_n 0, 1) := by decide +kernel
theorem dX11_on_1 : decode cX11_on 1 = .ok (.getfield 38, 3) := by decide +kernel
theorem dX11_on_4 : decode cX11_on 4 = .ok (.getfield 329, 3) := by decide +kernel
theorem dX11_on_7 : decode cX11_on 7 = .ok (.iload_n 1, 1) := by decide +kernel
theorem dX11_on_8 : decode cX11_on 8 = .ok (.invokevirtual 238, 3) := by decide +kernel
theorem dX11_on_11 : decode cX11_on 11 = .ok (.ifCond .ne 6, 3) := by decide +kernel
theorem dX11_on_14 : decode cX11_on 14 = .ok (.bipush (-2), 2) := by decide +kernel
theorem dX11_on_16 : decode cX11_on 16 = .ok (.ireturn, 1) := by decide +kernel
theorem dX11_on_17 : decode cX11_on 17 = .ok (.aload_n 0, 1) := by decide +kernel
theorem dX11_on_18 : decode cX11_on 18 = .ok (.getfield 38, 3) := by decide +kernel
theorem dX11_on_21 : decode cX11_on 21 = .ok (.getfield 329, 3) := by decide +kernel
theorem dX11_on_24 : decode cX11_on 24 = .ok (.iload_n 1, 1) := by decide +kernel
theorem dX11_on_25 : decode cX11_on 25 = .ok (.iload_n 2, 1) := by decide +kernel
theorem dX11_on_26 : decode cX11_on 26 = .ok (.invokevirtual 335, 3) := by decide +kernel
theorem dX11_on_29 : decode cX11_on 29 = .ok (.ireturn, 1) := by decide +kernel
theorem dX11_drawn_0 : decode cX11_drawn 0 = .ok (.aload_n 0, 1) := by decide +kernel
theorem dX11_drawn_1 : decode cX11_drawn 1 = .ok (.iload_n 1, 1) := by decide +kernel
theorem dX11_drawn_2 : decode cX11_drawn 2 = .ok (.invokevirtual 121, 3) := by decide +kernel
theorem dX11_drawn_5 : decode cX11_drawn 5 = .ok (.astore_n 3, 1) := by decide +kernel
theorem dX11_drawn_6 : decode cX11_drawn 6 = .ok (.aload_n 3, 1) := by decide +kernel
theorem dX11_drawn_7 : decode cX11_drawn 7 = .ok (.ifnonnull 6, 3) := by decide +kernel
theorem dX11_drawn_10 : decode cX11_drawn 10 = .ok (.bipush (-2), 2) := by decide +kernel
theorem dX11_drawn_12 : decode cX11_drawn 12 = .ok (.ireturn, 1) := by decide +kernel
theorem dX11_drawn_13 : decode cX11_drawn 13 = .ok (.aload_n 0, 1) := by decide +kernel
theorem dX11_drawn_14 : decode cX11_drawn 14 = .ok (.invokevirtual 178, 3) := by decide +kernel
theorem dX11_drawn_17 : decode cX11_drawn 17 = .ok (.iload_n 2, 1) := by decide +kernel
theorem dX11_drawn_18 : decode cX11_drawn 18 = .ok (.istore 4, 2) := by decide +kernel
theorem dX11_drawn_20 : decode cX11_drawn 20 = .ok (.iconst 0, 1) := by decide +kernel
theorem dX11_drawn_21 : decode cX11_drawn 21 = .ok (.istore 5, 2) := by decide +kernel
theorem dX11_drawn_23 : decode cX11_drawn 23 = .ok (.iload 5, 2) := by decide +kernel
theorem dX11_drawn_25 : decode cX11_drawn 25 = .ok (.iconst 1, 1) := by decide +kernel
theorem dX11_drawn_26 : decode cX11_drawn 26 = .ok (.iadd, 1) := by decide +kernel
theorem dX11_drawn_27 : decode cX11_drawn 27 = .ok (.aload_n 0, 1) := by decide +kernel
theorem dX11_drawn_28 : decode cX11_drawn 28 = .ok (.getfield 101, 3) := by decide +kernel
theorem dX11_drawn_31 : decode cX11_drawn 31 = .ok (.if_icmp .ge 43, 3) := by decide +kernel
theorem dX11_drawn_34 : decode cX11_drawn 34 = .ok (.iload 4, 2) := by decide +kernel
theorem dX11_drawn_36 : decode cX11_drawn 36 = .ok (.ldc_w 338, 3) := by decide +kernel
theorem dX11_drawn_39 : decode cX11_drawn 39 = .ok (.imul, 1) := by decide +kernel
theorem dX11_drawn_40 : decode cX11_drawn 40 = .ok (.sipush 12345, 3) := by decide +kernel
theorem dX11_drawn_43 : decode cX11_drawn 43 = .ok (.iadd, 1) := by decide +kernel
theorem dX11_drawn_44 : decode cX11_drawn 44 = .ok (.istore 4, 2) := by decide +kernel
theorem dX11_drawn_46 : decode cX11_drawn 46 = .ok (.aload_n 0, 1) := by decide +kernel
theorem dX11_drawn_47 : decode cX11_drawn 47 = .ok (.iload 5, 2) := by decide +kernel
theorem dX11_drawn_49 : decode cX11_drawn 49 = .ok (.iload 5, 2) := by decide +kernel
theorem dX11_drawn_51 : decode cX11_drawn 51 = .ok (.iload 4, 2) := by decide +kernel
theorem dX11_drawn_53 : decode cX11_drawn 53 = .ok (.bipush 9, 2) := by decide +kernel
theorem dX11_drawn_55 : decode cX11_drawn 55 = .ok (.iushr, 1) := by decide +kernel
theorem dX11_drawn_56 : decode cX11_drawn 56 = .ok (.aload_n 0, 1) := by decide +kernel
theorem dX11_drawn_57 : decode cX11_drawn 57 = .ok (.getfield 101, 3) := by decide +kernel
theorem dX11_drawn_60 : decode cX11_drawn 60 = .ok (.iload 5, 2) := by decide +kernel
theorem dX11_drawn_62 : decode cX11_drawn 62 = .ok (.isub, 1) := by decide +kernel
theorem dX11_drawn_63 : decode cX11_drawn 63 = .ok (.irem, 1) := by decide +kernel
theorem dX11_drawn_64 : decode cX11_drawn 64 = .ok (.iadd, 1) := by decide +kernel
theorem dX11_drawn_65 : decode cX11_drawn 65 = .ok (.invokevirtual 323, 3) := by decide +kernel
theorem dX11_drawn_68 : decode cX11_drawn 68 = .ok (.iinc 5 1, 3) := by decide +kernel
theorem dX11_drawn_71 : decode cX11_drawn 71 = .ok (.goto (-48), 3) := by decide +kernel
theorem dX11_drawn_74 : decode cX11_drawn 74 = .ok (.aload_n 0, 1) := by decide +kernel
theorem dX11_drawn_75 : decode cX11_drawn 75 = .ok (.aload_n 3, 1) := by decide +kernel
theorem dX11_drawn_76 : decode cX11_drawn 76 = .ok (.aload_n 0, 1) := by decide +kernel
theorem dX11_drawn_77 : decode cX11_drawn 77 = .ok (.getfield 101, 3) := by decide +kernel
theorem dX11_drawn_80 : decode cX11_drawn 80 = .ok (.invokevirtual 181, 3) := by decide +kernel
theorem dX11_drawn_83 : decode cX11_drawn 83 = .ok (.pop, 1) := by decide +kernel
theorem dX11_drawn_84 : decode cX11_drawn 84 = .ok (.aload_n 0, 1) := by decide +kernel
theorem dX11_drawn_85 : decode cX11_drawn 85 = .ok (.getfield 51, 3) := by decide +kernel
theorem dX11_drawn_88 : decode cX11_drawn 88 = .ok (.getfield 185, 3) := by decide +kernel
theorem dX11_drawn_91 : decode cX11_drawn 91 = .ok (.ireturn, 1) := by decide +kernel
theorem dX1_init_0 : decode cX1_init 0 = .ok (.aload_n 0, 1) := by decide +kernel
theorem dX1_init_1 : decode cX1_init 1 = .ok (.invokespecial 3, 3) := by decide +kernel
theorem dX1_init_4 : decode cX1_init 4 = .ok (.aload_n 0, 1) := by decide +kernel
theorem dX1_init_5 : decode cX1_init 5 = .ok (.bipush 64, 2) := by decide +kernel
theorem dX1_init_7 : decode cX1_init 7 = .ok (.newarray .int, 2) := by decide +kernel
theorem dX1_init_9 : decode cX1_init 9 = .ok (.putfield 9, 3) := by decide +kernel
theorem dX1_init_12 : decode cX1_init 12 = .ok (.aload_n 0, 1) := by decide +kernel
theorem dX1_init_13 : decode cX1_init 13 = .ok (.bipush 8, 2) := by decide +kernel
theorem dX1_init_15 : decode cX1_init 15 = .ok (.newarray .int, 2) := by decide +kernel
theorem dX1_init_17 : decode cX1_init 17 = .ok (.putfield 15, 3) := by decide +kernel
theorem dX1_init_20 : decode cX1_init 20 = .ok (.aload_n 0, 1) := by decide +kernel
theorem dX1_init_21 : decode cX1_init 21 = .ok (.bipush 8, 2) := by decide +kernel
theorem dX1_init_23 : decode cX1_init 23 = .ok (.newarray .int, 2) := by decide +kernel
theorem dX1_init_25 : decode cX1_init 25 = .ok (.putfield 18, 3) := by decide +kernel
theorem dX1_init_28 : decode cX1_init 28 = .ok (.aload_n 0, 1) := by decide +kernel
theorem dX1_init_29 : decode cX1_init 29 = .ok (.bipush 8, 2) := by decide +kernel
theorem dX1_init_31 : decode cX1_init 31 = .ok (.newarray .int, 2) := by decide +kernel
theorem dX1_init_33 : decode cX1_init 33 = .ok (.putfield 21, 3) := by decide +kernel
theorem dX1_init_36 : decode cX1_init 36 = .ok (.return_, 1) := by decide +kernel
theorem dX9_init_0 : decode cX9_init 0 = .ok (.aload_n 0, 1) := by decide +kernel
theorem dX9_init_1 : decode cX9_init 1 = .ok (.invokespecial 3, 3) := by decide +kernel
theorem dX9_init_4 : decode cX9_init 4 = .ok (.aload_n 0, 1) := by decide +kernel
theorem dX9_init_5 : decode cX9_init 5 = .ok (.new 9, 3) := by decide +kernel
theorem dX9_init_8 : decode cX9_init 8 = .ok (.dup, 1) := by decide +kernel
theorem dX9_init_9 : decode cX9_init 9 = .ok (.invokespecial 11, 3) := by decide +kernel
theorem dX9_init_12 : decode cX9_init 12 = .ok (.putfield 12, 3) := by decide +kernel
theorem dX9_init_15 : decode cX9_init 15 = .ok (.aload_n 0, 1) := by decide +kernel
theorem dX9_init_16 : decode cX9_init 16 = .ok (.bipush 9, 2) := by decide +kernel
theorem dX9_init_18 : decode cX9_init 18 = .ok (.putfield 18, 3) := by decide +kernel
theorem dX9_init_21 : decode cX9_init 21 = .ok (.return_, 1) := by decide +kernel
theorem dX1_become_0 : decode cX1_become 0 = .ok (.aload_n 1, 1) := by decide +kernel
theorem dX1_become_1 : decode cX1_become 1 = .ok (.getfield 9, 3) := by decide +kernel
theorem dX1_become_4 : decode cX1_become 4 = .ok (.iconst 0, 1) := by decide +kernel
theorem dX1_become_5 : decode cX1_become 5 = .ok (.aload_n 0, 1) := by decide +kernel
theorem dX1_become_6 : decode cX1_become 6 = .ok (.getfield 9, 3) := by decide +kernel
theorem dX1_become_9 : decode cX1_become 9 = .ok (.iconst 0, 1) := by decide +kernel
theorem dX1_become_10 : decode cX1_become 10 = .ok (.aload_n 0, 1) := by decide +kernel
theorem dX1_become_11 : decode cX1_become 11 = .ok (.getfield 9, 3) := by decide +kernel
theorem dX1_become_14 : decode cX1_become 14 = .ok (.arraylength, 1) := by decide +kernel
theorem dX1_become_15 : decode cX1_become 15 = .ok (.invokestatic 42, 3) := by decide +kernel
theorem dX1_become_18 : decode cX1_become 18 = .ok (.aload_n 1, 1) := by decide +kernel
theorem dX1_become_19 : decode cX1_become 19 = .ok (.getfield 15, 3) := by decide +kernel
theorem dX1_become_22 : decode cX1_become 22 = .ok (.iconst 0, 1) := by decide +kernel
theorem dX1_become_23 : decode cX1_become 23 = .ok (.aload_n 0, 1) := by decide +kernel
theorem dX1_become_24 : decode cX1_become 24 = .ok (.getfield 15, 3) := by decide +kernel
theorem dX1_become_27 : decode cX1_become 27 = .ok (.iconst 0, 1) := by decide +kernel
theorem dX1_become_28 : decode cX1_become 28 = .ok (.aload_n 0, 1) := by decide +kernel
theorem dX1_become_29 : decode cX1_become 29 = .ok (.getfield 15, 3) := by decide +kernel
theorem dX1_become_32 : decode cX1_become 32 = .ok (.arraylength, 1) := by decide +kernel
theorem dX1_become_33 : decode cX1_become 33 = .ok (.invokestatic 42, 3) := by decide +kernel
theorem dX1_become_36 : decode cX1_become 36 = .ok (.aload_n 1, 1) := by decide +kernel
theorem dX1_become_37 : decode cX1_become 37 = .ok (.getfield 18, 3) := by decide +kernel
theorem dX1_become_40 : decode cX1_become 40 = .ok (.iconst 0, 1) := by decide +kernel
theorem dX1_become_41 : decode cX1_become 41 = .ok (.aload_n 0, 1) := by decide +kernel
theorem dX1_become_42 : decode cX1_become 42 = .ok (.getfield 18, 3) := by decide +kernel
theorem dX1_become_45 : decode cX1_become 45 = .ok (.iconst 0, 1) := by decide +kernel
theorem dX1_become_46 : decode cX1_become 46 = .ok (.aload_n 0, 1) := by decide +kernel
theorem dX1_become_47 : decode cX1_become 47 = .ok (.getfield 18, 3) := by decide +kernel
theorem dX1_become_50 : decode cX1_become 50 = .ok (.arraylength, 1) := by decide +kernel
theorem dX1_become_51 : decode cX1_become 51 = .ok (.invokestatic 42, 3) := by decide +kernel
theorem dX1_become_54 : decode cX1_become 54 = .ok (.aload_n 1, 1) := by decide +kernel
theorem dX1_become_55 : decode cX1_become 55 = .ok (.getfield 21, 3) := by decide +kernel
theorem dX1_become_58 : decode cX1_become 58 = .ok (.iconst 0, 1) := by decide +kernel
theorem dX1_become_59 : decode cX1_become 59 = .ok (.aload_n 0, 1) := by decide +kernel
theorem dX1_become_60 : decode cX1_become 60 = .ok (.getfield 21, 3) := by decide +kernel
theorem dX1_become_63 : decode cX1_become 63 = .ok (.iconst 0, 1) := by decide +kernel
theorem dX1_become_64 : decode cX1_become 64 = .ok (.aload_n 0, 1) := by decide +kernel
theorem dX1_become_65 : decode cX1_become 65 = .ok (.getfield 21, 3) := by decide +kernel
theorem dX1_become_68 : decode cX1_become 68 = .ok (.arraylength, 1) := by decide +kernel
theorem dX1_become_69 : decode cX1_become 69 = .ok (.invokestatic 42, 3) := by decide +kernel
theorem dX1_become_72 : decode cX1_become 72 = .ok (.aload_n 0, 1) := by decide +kernel
theorem dX1_become_73 : decode cX1_become 73 = .ok (.aload_n 1, 1) := by decide +kernel
theorem dX1_become_74 : decode cX1_become 74 = .ok (.getfield 24, 3) := by decide +kernel
theorem dX1_become_77 : decode cX1_become 77 = .ok (.putfield 24, 3) := by decide +kernel
theorem dX1_become_80 : decode cX1_become 80 = .ok (.return_, 1) := by decide +kernel
theorem dX9_become_0 : decode cX9_become 0 = .ok (.aload_n 0, 1) := by decide +kernel
theorem dX9_become_1 : decode cX9_become 1 = .ok (.getfield 12, 3) := by decide +kernel
theorem dX9_become_4 : decode cX9_become 4 = .ok (.aload_n 1, 1) := by decide +kernel
theorem dX9_become_5 : decode cX9_become 5 = .ok (.getfield 12, 3) := by decide +kernel
theorem dX9_become_8 : decode cX9_become 8 = .ok (.invokevirtual 22, 3) := by decide +kernel
theorem dX9_become_11 : decode cX9_become 11 = .ok (.aload_n 0, 1) := by decide +kernel
theorem dX9_become_12 : decode cX9_become 12 = .ok (.aload_n 1, 1) := by decide +kernel
theorem dX9_become_13 : decode cX9_become 13 = .ok (.getfield 26, 3) := by decide +kernel
theorem dX9_become_16 : decode cX9_become 16 = .ok (.putfield 26, 3) := by decide +kernel
theorem dX9_become_19 : decode cX9_become 19 = .ok (.aload_n 0, 1) := by decide +kernel
theorem dX9_become_20 : decode cX9_become 20 = .ok (.aload_n 1, 1) := by decide +kernel
theorem dX9_become_21 : decode cX9_become 21 = .ok (.getfield 18, 3) := by decide +kernel
theorem dX9_become_24 : decode cX9_become 24 = .ok (.putfield 18, 3) := by decide +kernel
theorem dX9_become_27 : decode cX9_become 27 = .ok (.aload_n 0, 1) := by decide +kernel
theorem dX9_become_28 : decode cX9_become 28 = .ok (.aload_n 1, 1) := by decide +kernel
theorem dX9_become_29 : decode cX9_become 29 = .ok (.getfield 29, 3) := by decide +kernel
theorem dX9_become_32 : decode cX9_become 32 = .ok (.putfield 29, 3) := by decide +kernel
theorem dX9_become_35 : decode cX9_become 35 = .ok (.return_, 1) := by decide +kernel
theorem dX11_image_0 : decode cX11_image 0 = .ok (.aload_n 0, 1) := by decide +kernel
theorem dX11_image_1 : decode cX11_image 1 = .ok (.getfield 339, 3) := by decide +kernel
theorem dX11_image_4 : decode cX11_image 4 = .ok (.ifnonnull 14, 3) := by decide +kernel
theorem dX11_image_7 : decode cX11_image 7 = .ok (.aload_n 0, 1) := by decide +kernel
theorem dX11_image_8 : decode cX11_image 8 = .ok (.new 35, 3) := by decide +kernel
theorem dX11_image_11 : decode cX11_image 11 = .ok (.dup, 1) := by decide +kernel
theorem dX11_image_12 : decode cX11_image 12 = .ok (.invokespecial 37, 3) := by decide +kernel
theorem dX11_image_15 : decode cX11_image 15 = .ok (.putfield 339, 3) := by decide +kernel
theorem dX11_image_18 : decode cX11_image 18 = .ok (.aload_n 0, 1) := by decide +kernel
theorem dX11_image_19 : decode cX11_image 19 = .ok (.getfield 339, 3) := by decide +kernel
theorem dX11_image_22 : decode cX11_image 22 = .ok (.aload_n 0, 1) := by decide +kernel
theorem dX11_image_23 : decode cX11_image 23 = .ok (.getfield 38, 3) := by decide +kernel
theorem dX11_image_26 : decode cX11_image 26 = .ok (.invokevirtual 342, 3) := by decide +kernel
theorem dX11_image_29 : decode cX11_image 29 = .ok (.aload_n 0, 1) := by decide +kernel
theorem dX11_image_30 : decode cX11_image 30 = .ok (.getfield 38, 3) := by decide +kernel
theorem dX11_image_33 : decode cX11_image 33 = .ok (.getfield 326, 3) := by decide +kernel
theorem dX11_image_36 : decode cX11_image 36 = .ok (.ireturn, 1) := by decide +kernel
theorem dX11_back_0 : decode cX11_back 0 = .ok (.aload_n 0, 1) := by decide +kernel
theorem dX11_back_1 : decode cX11_back 1 = .ok (.getfield 339, 3) := by decide +kernel
theorem dX11_back_4 : decode cX11_back 4 = .ok (.ifnonnull 6, 3) := by decide +kernel
theorem dX11_back_7 : decode cX11_back 7 = .ok (.bipush (-3), 2) := by decide +kernel
theorem dX11_back_9 : decode cX11_back 9 = .ok (.ireturn, 1) := by decide +kernel
theorem dX11_back_10 : decode cX11_back 10 = .ok (.aload_n 0, 1) := by decide +kernel
theorem dX11_back_11 : decode cX11_back 11 = .ok (.getfield 38, 3) := by decide +kernel
theorem dX11_back_14 : decode cX11_back 14 = .ok (.aload_n 0, 1) := by decide +kernel
theorem dX11_back_15 : decode cX11_back 15 = .ok (.getfield 339, 3) := by decide +kernel
theorem dX11_back_18 : decode cX11_back 18 = .ok (.invokevirtual 342, 3) := by decide +kernel
theorem dX11_back_21 : decode cX11_back 21 = .ok (.aload_n 0, 1) := by decide +kernel
theorem dX11_back_22 : decode cX11_back 22 = .ok (.getfield 38, 3) := by decide +kernel
theorem dX11_back_25 : decode cX11_back 25 = .ok (.getfield 326, 3) := by decide +kernel
theorem dX11_back_28 : decode cX11_back 28 = .ok (.ireturn, 1) := by decide +kernel
theorem dX11_count_0 : decode cX11_count 0 = .ok (.iload_n 1, 1) := by decide +kernel
theorem dX11_count_1 : decode cX11_count 1 = .ok (.tableswitch 105 0 7 #[47, 52, 57, 65, 76, 84, 89, 97], 47) := by decide +kernel
theorem dX11_count_48 : decode cX11_count 48 = .ok (.aload_n 0, 1) := by decide +kernel
theorem dX11_count_49 : decode cX11_count 49 = .ok (.getfield 101, 3) := by decide +kernel
theorem dX11_count_52 : decode cX11_count 52 = .ok (.ireturn, 1) := by decide +kernel
theorem dX11_count_53 : decode cX11_count 53 = .ok (.aload_n 0, 1) := by decide +kernel
theorem dX11_count_54 : decode cX11_count 54 = .ok (.getfield 104, 3) := by decide +kernel
theorem dX11_count_57 : decode cX11_count 57 = .ok (.ireturn, 1) := by decide +kernel
theorem dX11_count_58 : decode cX11_count 58 = .ok (.aload_n 0, 1) := by decide +kernel
theorem dX11_count_59 : decode cX11_count 59 = .ok (.getfield 38, 3) := by decide +kernel
theorem dX11_count_62 : decode cX11_count 62 = .ok (.getfield 326, 3) := by decide +kernel
theorem dX11_count_65 : decode cX11_count 65 = .ok (.ireturn, 1) := by decide +kernel
theorem dX11_count_66 : decode cX11_count 66 = .ok (.aload_n 0, 1) := by decide +kernel
theorem dX11_count_67 : decode cX11_count 67 = .ok (.getfield 38, 3) := by decide +kernel
theorem dX11_count_70 : decode cX11_count 70 = .ok (.getfield 329, 3) := by decide +kernel
theorem dX11_count_73 : decode cX11_count 73 = .ok (.getfield 185, 3) := by decide +kernel
theorem dX11_count_76 : decode cX11_count 76 = .ok (.ireturn, 1) := by decide +kernel
theorem dX11_count_77 : decode cX11_count 77 = .ok (.aload_n 0, 1) := by decide +kernel
theorem dX11_count_78 : decode cX11_count 78 = .ok (.getfield 38, 3) := by decide +kernel
theorem dX11_count_81 : decode cX11_count 81 = .ok (.getfield 118, 3) := by decide +kernel
theorem dX11_count_84 : decode cX11_count 84 = .ok (.ireturn, 1) := by decide +kernel
theorem dX11_count_85 : decode cX11_count 85 = .ok (.aload_n 0, 1) := by decide +kernel
theorem dX11_count_86 : decode cX11_count 86 = .ok (.getfield 91, 3) := by decide +kernel
theorem dX11_count_89 : decode cX11_count 89 = .ok (.ireturn, 1) := by decide +kernel
theorem dX11_count_90 : decode cX11_count 90 = .ok (.aload_n 0, 1) := by decide +kernel
theorem dX11_count_91 : decode cX11_count 91 = .ok (.getfield 31, 3) := by decide +kernel
theorem dX11_count_94 : decode cX11_count 94 = .ok (.getfield 95, 3) := by decide +kernel
theorem dX11_count_97 : decode cX11_count 97 = .ok (.ireturn, 1) := by decide +kernel
theorem dX11_count_98 : decode cX11_count 98 = .ok (.aload_n 0, 1) := by decide +kernel
theorem dX11_count_99 : decode cX11_count 99 = .ok (.getfield 38, 3) := by decide +kernel
theorem dX11_count_102 : decode cX11_count 102 = .ok (.getfield 159, 3) := by decide +kernel
theorem dX11_count_105 : decode cX11_count 105 = .ok (.ireturn, 1) := by decide +kernel
theorem dX11_count_106 : decode cX11_count 106 = .ok (.bipush (-2), 2) := by decide +kernel
theorem dX11_count_108 : decode cX11_count 108 = .ok (.ireturn, 1) := by decide +kernel
theorem dX7_become_0 : decode cX7_become 0 = .ok (.aload_n 0, 1) := by decide +kernel
theorem dX7_become_1 : decode cX7_become 1 = .ok (.iload_n 1, 1) := by decide +kernel
theorem dX7_become_2 : decode cX7_become 2 = .ok (.putfield 15, 3) := by decide +kernel
theorem dX7_become_5 : decode cX7_become 5 = .ok (.aload_n 0, 1) := by decide +kernel
theorem dX7_become_6 : decode cX7_become 6 = .ok (.iconst 0, 1) := by decide +kernel
theorem dX7_become_7 : decode cX7_become 7 = .ok (.bipush 40, 2) := by decide +kernel
theorem dX7_become_9 : decode cX7_become 9 = .ok (.iload_n 2, 1) := by decide +kernel
theorem dX7_become_10 : decode cX7_become 10 = .ok (.invokestatic 22, 3) := by decide +kernel
theorem dX7_become_13 : decode cX7_become 13 = .ok (.invokestatic 28, 3) := by decide +kernel
theorem dX7_become_16 : decode cX7_become 16 = .ok (.putfield 19, 3) := by decide +kernel
theorem dX7_become_19 : decode cX7_become 19 = .ok (.aload_n 0, 1) := by decide +kernel
theorem dX7_become_20 : decode cX7_become 20 = .ok (.getfield 9, 3) := by decide +kernel
theorem dX7_become_23 : decode cX7_become 23 = .ok (.iconst 0, 1) := by decide +kernel
theorem dX7_become_24 : decode cX7_become 24 = .ok (.invokestatic 31, 3) := by decide +kernel
theorem dX7_become_27 : decode cX7_become 27 = .ok (.return_, 1) := by decide +kernel
theorem dX11_sheet_0 : decode cX11_sheet 0 = .ok (.aload_n 0, 1) := by decide +kernel
theorem dX11_sheet_1 : decode cX11_sheet 1 = .ok (.iload_n 1, 1) := by decide +kernel
theorem dX11_sheet_2 : decode cX11_sheet 2 = .ok (.invokevirtual 285, 3) := by decide +kernel
theorem dX11_sheet_5 : decode cX11_sheet 5 = .ok (.astore 4, 2) := by decide +kernel
theorem dX11_sheet_7 : decode cX11_sheet 7 = .ok (.aload 4, 2) := by decide +kernel
theorem dX11_sheet_9 : decode cX11_sheet 9 = .ok (.ifnull 13, 3) := by decide +kernel
theorem dX11_sheet_12 : decode cX11_sheet 12 = .ok (.iload_n 2, 1) := by decide +kernel
theorem dX11_sheet_13 : decode cX11_sheet 13 = .ok (.iconst (-1), 1) := by decide +kernel
theorem dX11_sheet_14 : decode cX11_sheet 14 = .ok (.if_icmp .lt 8, 3) := by decide +kernel
theorem dX11_sheet_17 : decode cX11_sheet 17 = .ok (.iload_n 2, 1) := by decide +kernel
theorem dX11_sheet_18 : decode cX11_sheet 18 = .ok (.iconst 2, 1) := by decide +kernel
theorem dX11_sheet_19 : decode cX11_sheet 19 = .ok (.if_icmp .le 6, 3) := by decide +kernel
theorem dX11_sheet_22 : decode cX11_sheet 22 = .ok (.bipush (-2), 2) := by decide +kernel
theorem dX11_sheet_24 : decode cX11_sheet 24 = .ok (.ireturn, 1) := by decide +kernel
theorem dX11_sheet_25 : decode cX11_sheet 25 = .ok (.iload_n 2, 1) := by decide +kernel
theorem dX11_sheet_26 : decode cX11_sheet 26 = .ok (.iconst (-1), 1) := by decide +kernel
theorem dX11_sheet_27 : decode cX11_sheet 27 = .ok (.if_icmp .ne 12, 3) := by decide +kernel
theorem dX11_sheet_30 : decode cX11_sheet 30 = .ok (.aload 4, 2) := by decide +kernel
theorem dX11_sheet_32 : decode cX11_sheet 32 = .ok (.iconst (-1), 1) := by decide +kernel
theorem dX11_sheet_33 : decode cX11_sheet 33 = .ok (.iconst 0, 1) := by decide +kernel
theorem dX11_sheet_34 : decode cX11_sheet 34 = .ok (.invokevirtual 346, 3) := by decide +kernel
theorem dX11_sheet_37 : decode cX11_sheet 37 = .ok (.iconst 1, 1) := by decide +kernel
theorem dX11_sheet_38 : decode cX11_sheet 38 = .ok (.ireturn, 1) := by decide +kernel
theorem dX11_sheet_39 : decode cX11_sheet 39 = .ok (.iload_n 3, 1) := by decide +kernel
theorem dX11_sheet_40 : decode cX11_sheet 40 = .ok (.bipush 40, 2) := by decide +kernel
theorem dX11_sheet_42 : decode cX11_sheet 42 = .ok (.if_icmp .le 6, 3) := by decide +kernel
theorem dX11_sheet_45 : decode cX11_sheet 45 = .ok (.bipush (-2), 2) := by decide +kernel
theorem dX11_sheet_47 : decode cX11_sheet 47 = .ok (.ireturn, 1) := by decide +kernel
theorem dX11_sheet_48 : decode cX11_sheet 48 = .ok (.iload_n 3, 1) := by decide +kernel
theorem dX11_sheet_49 : decode cX11_sheet 49 = .ok (.ifCond .ge 6, 3) := by decide +kernel
theorem dX11_sheet_52 : decode cX11_sheet 52 = .ok (.bipush (-14), 2) := by decide +kernel
theorem dX11_sheet_54 : decode cX11_sheet 54 = .ok (.ireturn, 1) := by decide +kernel
theorem dX11_sheet_55 : decode cX11_sheet 55 = .ok (.aload 4, 2) := by decide +kernel
theorem dX11_sheet_57 : decode cX11_sheet 57 = .ok (.iload_n 2, 1) := by decide +kernel
theorem dX11_sheet_58 : decode cX11_sheet 58 = .ok (.iload_n 3, 1) := by decide +kernel
theorem dX11_sheet_59 : decode cX11_sheet 59 = .ok (.invokevirtual 346, 3) := by decide +kernel
theorem dX11_sheet_62 : decode cX11_sheet 62 = .ok (.iconst 1, 1) := by decide +kernel
theorem dX11_sheet_63 : decode cX11_sheet 63 = .ok (.ireturn, 1) := by decide +kernel
theorem dX7_has_0 : decode cX7_has 0 = .ok (.iload_n 1, 1) := by decide +kernel
theorem dX7_has_1 : decode cX7_has 1 = .ok (.ifCond .lt 15, 3) := by decide +kernel
theorem dX7_has_4 : decode cX7_has 4 = .ok (.iload_n 1, 1) := by decide +kernel
theorem dX7_has_5 : decode cX7_has 5 = .ok (.aload_n 0, 1) := by decide +kernel
theorem dX7_has_6 : decode cX7_has 6 = .ok (.getfield 19, 3) := by decide +kernel
theorem dX7_has_9 : decode cX7_has 9 = .ok (.if_icmp .ge 7, 3) := by decide +kernel
theorem dX7_has_12 : decode cX7_has 12 = .ok (.iconst 1, 1) := by decide +kernel
theorem dX7_has_13 : decode cX7_has 13 = .ok (.goto 4, 3) := by decide +kernel
theorem dX7_has_16 : decode cX7_has 16 = .ok (.iconst 0, 1) := by decide +kernel
theorem dX7_has_17 : decode cX7_has 17 = .ok (.ireturn, 1) := by decide +kernel
theorem dX7_put_0 : decode cX7_put 0 = .ok (.aload_n 0, 1) := by decide +kernel
theorem dX7_put_1 : decode cX7_put 1 = .ok (.iload_n 1, 1) := by decide +kernel
theorem dX7_put_2 : decode cX7_put 2 = .ok (.invokevirtual 37, 3) := by decide +kernel
theorem dX7_put_5 : decode cX7_put 5 = .ok (.ifCond .eq 35, 3) := by decide +kernel
theorem dX7_put_8 : decode cX7_put 8 = .ok (.aload_n 0, 1) := by decide +kernel
theorem dX7_put_9 : decode cX7_put 9 = .ok (.getfield 9, 3) := by decide +kernel
theorem dX7_put_12 : decode cX7_put 12 = .ok (.iload_n 1, 1) := by decide +kernel
theorem dX7_put_13 : decode cX7_put 13 = .ok (.aload_n 0, 1) := by decide +kernel
theorem dX7_put_14 : decode cX7_put 14 = .ok (.getfield 15, 3) := by decide +kernel
theorem dX7_put_17 : decode cX7_put 17 = .ok (.ifCond .ne 8, 3) := by decide +kernel
theorem dX7_put_20 : decode cX7_put 20 = .ok (.iload_n 2, 1) := by decide +kernel
theorem dX7_put_21 : decode cX7_put 21 = .ok (.i2b, 1) := by decide +kernel
theorem dX7_put_22 : decode cX7_put 22 = .ok (.goto 17, 3) := by decide +kernel
theorem dX7_put_25 : decode cX7_put 25 = .ok (.aload_n 0, 1) := by decide +kernel
theorem dX7_put_26 : decode cX7_put 26 = .ok (.getfield 15, 3) := by decide +kernel
theorem dX7_put_29 : decode cX7_put 29 = .ok (.iconst 1, 1) := by decide +kernel
theorem dX7_put_30 : decode cX7_put 30 = .ok (.if_icmp .ne 8, 3) := by decide +kernel
theorem dX7_put_33 : decode cX7_put 33 = .ok (.iload_n 2, 1) := by decide +kernel
theorem dX7_put_34 : decode cX7_put 34 = .ok (.i2s, 1) := by decide +kernel
theorem dX7_put_35 : decode cX7_put 35 = .ok (.goto 4, 3) := by decide +kernel
theorem dX7_put_38 : decode cX7_put 38 = .ok (.iload_n 2, 1) := by decide +kernel
theorem dX7_put_39 : decode cX7_put 39 = .ok (.iastore, 1) := by decide +kernel
theorem dX7_put_40 : decode cX7_put 40 = .ok (.return_, 1) := by decide +kernel
theorem dX11_cell_0 : decode cX11_cell 0 = .ok (.aload_n 0, 1) := by decide +kernel
theorem dX11_cell_1 : decode cX11_cell 1 = .ok (.iload_n 1, 1) := by decide +kernel
theorem dX11_cell_2 : decode cX11_cell 2 = .ok (.invokevirtual 285, 3) := by decide +kernel
theorem dX11_cell_5 : decode cX11_cell 5 = .ok (.astore 4, 2) := by decide +kernel
theorem dX11_cell_7 : decode cX11_cell 7 = .ok (.aload 4, 2) := by decide +kernel
theorem dX11_cell_9 : decode cX11_cell 9 = .ok (.ifnonnull 6, 3) := by decide +kernel
theorem dX11_cell_12 : decode cX11_cell 12 = .ok (.bipush (-2), 2) := by decide +kernel
theorem dX11_cell_14 : decode cX11_cell 14 = .ok (.ireturn, 1) := by decide +kernel
theorem dX11_cell_15 : decode cX11_cell 15 = .ok (.aload 4, 2) := by decide +kernel
theorem dX11_cell_17 : decode cX11_cell 17 = .ok (.invokevirtual 289, 3) := by decide +kernel
theorem dX11_cell_20 : decode cX11_cell 20 = .ok (.ifCond .eq 6, 3) := by decide +kernel
theorem dX11_cell_23 : decode cX11_cell 23 = .ok (.bipush (-11), 2) := by decide +kernel
theorem dX11_cell_25 : decode cX11_cell 25 = .ok (.ireturn, 1) := by decide +kernel
theorem dX11_cell_26 : decode cX11_cell 26 = .ok (.aload 4, 2) := by decide +kernel
theorem dX11_cell_28 : decode cX11_cell 28 = .ok (.iload_n 2, 1) := by decide +kernel
theorem dX11_cell_29 : decode cX11_cell 29 = .ok (.invokevirtual 348, 3) := by decide +kernel
theorem dX11_cell_32 : decode cX11_cell 32 = .ok (.ifCond .ne 6, 3) := by decide +kernel
theorem dX11_cell_35 : decode cX11_cell 35 = .ok (.bipush (-12), 2) := by decide +kernel
theorem dX11_cell_37 : decode cX11_cell 37 = .ok (.ireturn, 1) := by decide +kernel
theorem dX11_cell_38 : decode cX11_cell 38 = .ok (.aload 4, 2) := by decide +kernel
theorem dX11_cell_40 : decode cX11_cell 40 = .ok (.iload_n 2, 1) := by decide +kernel
theorem dX11_cell_41 : decode cX11_cell 41 = .ok (.iload_n 3, 1) := by decide +kernel
theorem dX11_cell_42 : decode cX11_cell 42 = .ok (.invokevirtual 349, 3) := by decide +kernel
theorem dX11_cell_45 : decode cX11_cell 45 = .ok (.iconst 1, 1) := by decide +kernel
theorem dX11_cell_46 : decode cX11_cell 46 = .ok (.ireturn, 1) := by decide +kernel
theorem dX7_hasSpan_0 : decode cX7_hasSpan 0 = .ok (.iload_n 1, 1) := by decide +kernel
theorem dX7_hasSpan_1 : decode cX7_hasSpan 1 = .ok (.ifCond .lt 29, 3) := by decide +kernel
theorem dX7_hasSpan_4 : decode cX7_hasSpan 4 = .ok (.iload_n 2, 1) := by decide +kernel
theorem dX7_hasSpan_5 : decode cX7_hasSpan 5 = .ok (.ifCond .lt 25, 3) := by decide +kernel
theorem dX7_hasSpan_8 : decode cX7_hasSpan 8 = .ok (.iload_n 1, 1) := by decide +kernel
theorem dX7_hasSpan_9 : decode cX7_hasSpan 9 = .ok (.aload_n 0, 1) := by decide +kernel
theorem dX7_hasSpan_10 : decode cX7_hasSpan 10 = .ok (.getfield 19, 3) := by decide +kernel
theorem dX7_hasSpan_13 : decode cX7_hasSpan 13 = .ok (.if_icmp .gt 17, 3) := by decide +kernel
theorem dX7_hasSpan_16 : decode cX7_hasSpan 16 = .ok (.iload_n 2, 1) := by decide +kernel
theorem dX7_hasSpan_17 : decode cX7_hasSpan 17 = .ok (.aload_n 0, 1) := by decide +kernel
theorem dX7_hasSpan_18 : decode cX7_hasSpan 18 = .ok (.getfield 19, 3) := by decide +kernel
theorem dX7_hasSpan_21 : decode cX7_hasSpan 21 = .ok (.iload_n 1, 1) := by decide +kernel
theorem dX7_hasSpan_22 : decode cX7_hasSpan 22 = .ok (.isub, 1) := by decide +kernel
theorem dX7_hasSpan_23 : decode cX7_hasSpan 23 = .ok (.if_icmp .gt 7, 3) := by decide +kernel
theorem dX7_hasSpan_26 : decode cX7_hasSpan 26 = .ok (.iconst 1, 1) := by decide +kernel
theorem dX7_hasSpan_27 : decode cX7_hasSpan 27 = .ok (.goto 4, 3) := by decide +kernel
theorem dX7_hasSpan_30 : decode cX7_hasSpan 30 = .ok (.iconst 0, 1) := by decide +kernel
theorem dX7_hasSpan_31 : decode cX7_hasSpan 31 = .ok (.ireturn, 1) := by decide +kernel
theorem dX11_copy_0 : decode cX11_copy 0 = .ok (.aload_n 0, 1) := by decide +kernel
theorem dX11_copy_1 : decode cX11_copy 1 = .ok (.iload_n 1, 1) := by decide +kernel
theorem dX11_copy_2 : decode cX11_copy 2 = .ok (.invokevirtual 285, 3) := by decide +kernel
theorem dX11_copy_5 : decode cX11_copy 5 = .ok (.astore 6, 2) := by decide +kernel
theorem dX11_copy_7 : decode cX11_copy 7 = .ok (.aload_n 0, 1) := by decide +kernel
theorem dX11_copy_8 : decode cX11_copy 8 = .ok (.iload_n 3, 1) := by decide +kernel
theorem dX11_copy_9 : decode cX11_copy 9 = .ok (.invokevirtual 285, 3) := by decide +kernel
theorem dX11_copy_12 : decode cX11_copy 12 = .ok (.astore 7, 2) := by decide +kernel
theorem dX11_copy_14 : decode cX11_copy 14 = .ok (.aload 6, 2) := by decide +kernel
theorem dX11_copy_16 : decode cX11_copy 16 = .ok (.ifnull 8, 3) := by decide +kernel
theorem dX11_copy_19 : decode cX11_copy 19 = .ok (.aload 7, 2) := by decide +kernel
theorem dX11_copy_21 : decode cX11_copy 21 = .ok (.ifnonnull 6, 3) := by decide +kernel
theorem dX11_copy_24 : decode cX11_copy 24 = .ok (.bipush (-2), 2) := by decide +kernel
theorem dX11_copy_26 : decode cX11_copy 26 = .ok (.ireturn, 1) := by decide +kernel
theorem dX11_copy_27 : decode cX11_copy 27 = .ok (.aload 6, 2) := by decide +kernel
theorem dX11_copy_29 : decode cX11_copy 29 = .ok (.invokevirtual 289, 3) := by decide +kernel
theorem dX11_copy_32 : decode cX11_copy 32 = .ok (.ifCond .ne 11, 3) := by decide +kernel
theorem dX11_copy_35 : decode cX11_copy 35 = .ok (.aload 7, 2) := by decide +kernel
theorem dX11_copy_37 : decode cX11_copy 37 = .ok (.invokevirtual 289, 3) := by decide +kernel
theorem dX11_copy_40 : decode cX11_copy 40 = .ok (.ifCond .eq 6, 3) := by decide +kernel
theorem dX11_copy_43 : decode cX11_copy 43 = .ok (.bipush (-11), 2) := by decide +kernel
theorem dX11_copy_45 : decode cX11_copy 45 = .ok (.ireturn, 1) := by decide +kernel
theorem dX11_copy_46 : decode cX11_copy 46 = .ok (.aload 6, 2) := by decide +kernel
theorem dX11_copy_48 : decode cX11_copy 48 = .ok (.getfield 350, 3) := by decide +kernel
theorem dX11_copy_51 : decode cX11_copy 51 = .ok (.aload 7, 2) := by decide +kernel
theorem dX11_copy_53 : decode cX11_copy 53 = .ok (.getfield 350, 3) := by decide +kernel
theorem dX11_copy_56 : decode cX11_copy 56 = .ok (.if_icmp .eq 6, 3) := by decide +kernel
theorem dX11_copy_59 : decode cX11_copy 59 = .ok (.bipush (-13), 2) := by decide +kernel
theorem dX11_copy_61 : decode cX11_copy 61 = .ok (.ireturn, 1) := by decide +kernel
theorem dX11_copy_62 : decode cX11_copy 62 = .ok (.aload 6, 2) := by decide +kernel
theorem dX11_copy_64 : decode cX11_copy 64 = .ok (.iload_n 2, 1) := by decide +kernel
theorem dX11_copy_65 : decode cX11_copy 65 = .ok (.iload 5, 2) := by decide +kernel
theorem dX11_copy_67 : decode cX11_copy 67 = .ok (.invokevirtual 353, 3) := by decide +kernel
theorem dX11_copy_70 : decode cX11_copy 70 = .ok (.ifCond .eq 15, 3) := by decide +kernel
theorem dX11_copy_73 : decode cX11_copy 73 = .ok (.aload 7, 2) := by decide +kernel
theorem dX11_copy_75 : decode cX11_copy 75 = .ok (.iload 4, 2) := by decide +kernel
theorem dX11_copy_77 : decode cX11_copy 77 = .ok (.iload 5, 2) := by decide +kernel
theorem dX11_copy_79 : decode cX11_copy 79 = .ok (.invokevirtual 353, 3) := by decide +kernel
theorem dX11_copy_82 : decode cX11_copy 82 = .ok (.ifCond .ne 6, 3) := by decide +kernel
theorem dX11_copy_85 : decode cX11_copy 85 = .ok (.bipush (-12), 2) := by decide +kernel
theorem dX11_copy_87 : decode cX11_copy 87 = .ok (.ireturn, 1) := by decide +kernel
theorem dX11_copy_88 : decode cX11_copy 88 = .ok (.aload 6, 2) := by decide +kernel
theorem dX11_copy_90 : decode cX11_copy 90 = .ok (.getfield 294, 3) := by decide +kernel
theorem dX11_copy_93 : decode cX11_copy 93 = .ok (.iload_n 2, 1) := by decide +kernel
theorem dX11_copy_94 : decode cX11_copy 94 = .ok (.aload 7, 2) := by decide +kernel
theorem dX11_copy_96 : decode cX11_copy 96 = .ok (.getfield 294, 3) := by decide +kernel
theorem dX11_copy_99 : decode cX11_copy 99 = .ok (.iload 4, 2) := by decide +kernel
theorem dX11_copy_101 : decode cX11_copy 101 = .ok (.iload 5, 2) := by decide +kernel
theorem dX11_copy_103 : decode cX11_copy 103 = .ok (.invokestatic 304, 3) := by decide +kernel
theorem dX11_copy_106 : decode cX11_copy 106 = .ok (.iload 5, 2) := by decide +kernel
theorem dX11_copy_108 : decode cX11_copy 108 = .ok (.ireturn, 1) := by decide +kernel
theorem dX11_plates_0 : decode cX11_plates 0 = .ok (.aload_n 0, 1) := by decide +kernel
theorem dX11_plates_1 : decode cX11_plates 1 = .ok (.iload_n 1, 1) := by decide +kernel
theorem dX11_plates_2 : decode cX11_plates 2 = .ok (.invokevirtual 285, 3) := by decide +kernel
theorem dX11_plates_5 : decode cX11_plates 5 = .ok (.astore 5, 2) := by decide +kernel
theorem dX11_plates_7 : decode cX11_plates 7 = .ok (.aload 5, 2) := by decide +kernel
theorem dX11_plates_9 : decode cX11_plates 9 = .ok (.ifnull 24, 3) := by decide +kernel
theorem dX11_plates_12 : decode cX11_plates 12 = .ok (.iload_n 2, 1) := by decide +kernel
theorem dX11_plates_13 : decode cX11_plates 13 = .ok (.ifCond .lt 20, 3) := by decide +kernel
theorem dX11_plates_16 : decode cX11_plates 16 = .ok (.iload_n 2, 1) := by decide +kernel
theorem dX11_plates_17 : decode cX11_plates 17 = .ok (.iconst 2, 1) := by decide +kernel
theorem dX11_plates_18 : decode cX11_plates 18 = .ok (.if_icmp .gt 15, 3) := by decide +kernel
theorem dX11_plates_21 : decode cX11_plates 21 = .ok (.iload 4, 2) := by decide +kernel
theorem dX11_plates_23 : decode cX11_plates 23 = .ok (.ifCond .lt 10, 3) := by decide +kernel
theorem dX11_plates_26 : decode cX11_plates 26 = .ok (.iload 4, 2) := by decide +kernel
theorem dX11_plates_28 : decode cX11_plates 28 = .ok (.bipush 8, 2) := by decide +kernel
theorem dX11_plates_30 : decode cX11_plates 30 = .ok (.if_icmp .le 6, 3) := by decide +kernel
theorem dX11_plates_33 : decode cX11_plates 33 = .ok (.bipush (-2), 2) := by decide +kernel
theorem dX11_plates_35 : decode cX11_plates 35 = .ok (.ireturn, 1) := by decide +kernel
theorem dX11_plates_36 : decode cX11_plates 36 = .ok (.aload 5, 2) := by decide +kernel
theorem dX11_plates_38 : decode cX11_plates 38 = .ok (.invokevirtual 289, 3) := by decide +kernel
theorem dX11_plates_41 : decode cX11_plates 41 = .ok (.ifCond .eq 6, 3) := by decide +kernel
theorem dX11_plates_44 : decode cX11_plates 44 = .ok (.bipush (-11), 2) := by decide +kernel
theorem dX11_plates_46 : decode cX11_plates 46 = .ok (.ireturn, 1) := by decide +kernel
theorem dX11_plates_47 : decode cX11_plates 47 = .ok (.aload 5, 2) := by decide +kernel
theorem dX11_plates_49 : decode cX11_plates 49 = .ok (.getfield 350, 3) := by decide +kernel
theorem dX11_plates_52 : decode cX11_plates 52 = .ok (.iload_n 2, 1) := by decide +kernel
theorem dX11_plates_53 : decode cX11_plates 53 = .ok (.if_icmp .eq 6, 3) := by decide +kernel
theorem dX11_plates_56 : decode cX11_plates 56 = .ok (.bipush (-13), 2) := by decide +kernel
theorem dX11_plates_58 : decode cX11_plates 58 = .ok (.ireturn, 1) := by decide +kernel
theorem dX11_plates_59 : decode cX11_plates 59 = .ok (.iconst 0, 1) := by decide +kernel
theorem dX11_plates_60 : decode cX11_plates 60 = .ok (.istore 6, 2) := by decide +kernel
theorem dX11_plates_62 : decode cX11_plates 62 = .ok (.iconst 0, 1) := by decide +kernel
theorem dX11_plates_63 : decode cX11_plates 63 = .ok (.istore 7, 2) := by decide +kernel
theorem dX11_plates_65 : decode cX11_plates 65 = .ok (.iload 7, 2) := by decide +kernel
theorem dX11_plates_67 : decode cX11_plates 67 = .ok (.iload 4, 2) := by decide +kernel
theorem dX11_plates_69 : decode cX11_plates 69 = .ok (.if_icmp .ge 87, 3) := by decide +kernel
theorem dX11_plates_72 : decode cX11_plates 72 = .ok (.aload 5, 2) := by decide +kernel
theorem dX11_plates_74 : decode cX11_plates 74 = .ok (.iload_n 3, 1) := by decide +kernel
theorem dX11_plates_75 : decode cX11_plates 75 = .ok (.invokevirtual 348, 3) := by decide +kernel
theorem dX11_plates_78 : decode cX11_plates 78 = .ok (.ifCond .eq 33, 3) := by decide +kernel
theorem dX11_plates_81 : decode cX11_plates 81 = .ok (.aload 5, 2) := by decide +kernel
theorem dX11_plates_83 : decode cX11_plates 83 = .ok (.iload_n 3, 1) := by decide +kernel
theorem dX11_plates_84 : decode cX11_plates 84 = .ok (.iconst 2, 1) := by decide +kernel
theorem dX11_plates_85 : decode cX11_plates 85 = .ok (.iload 7, 2) := by decide +kernel
theorem dX11_plates_87 : decode cX11_plates 87 = .ok (.imul, 1) := by decide +kernel
theorem dX11_plates_88 : decode cX11_plates 88 = .ok (.iadd, 1) := by decide +kernel
theorem dX11_plates_89 : decode cX11_plates 89 = .ok (.invokevirtual 348, 3) := by decide +kernel
theorem dX11_plates_92 : decode cX11_plates 92 = .ok (.ifCond .eq 19, 3) := by decide +kernel
theorem dX11_plates_95 : decode cX11_plates 95 = .ok (.aload 5, 2) := by decide +kernel
theorem dX11_plates_97 : decode cX11_plates 97 = .ok (.iload_n 3, 1) := by decide +kernel
theorem dX11_plates_98 : decode cX11_plates 98 = .ok (.iconst 2, 1) := by decide +kernel
theorem dX11_plates_99 : decode cX11_plates 99 = .ok (.iload 7, 2) := by decide +kernel
theorem dX11_plates_101 : decode cX11_plates 101 = .ok (.imul, 1) := by decide +kernel
theorem dX11_plates_102 : decode cX11_plates 102 = .ok (.iadd, 1) := by decide +kernel
theorem dX11_plates_103 : decode cX11_plates 103 = .ok (.iconst 1, 1) := by decide +kernel
theorem dX11_plates_104 : decode cX11_plates 104 = .ok (.iadd, 1) := by decide +kernel
theorem dX11_plates_105 : decode cX11_plates 105 = .ok (.invokevirtual 348, 3) := by decide +kernel
theorem dX11_plates_108 : decode cX11_plates 108 = .ok (.ifCond .ne 6, 3) := by decide +kernel
theorem dX11_plates_111 : decode cX11_plates 111 = .ok (.bipush (-12), 2) := by decide +kernel
theorem dX11_plates_113 : decode cX11_plates 113 = .ok (.ireturn, 1) := by decide +kernel
theorem dX11_plates_114 : decode cX11_plates 114 = .ok (.aload_n 0, 1) := by decide +kernel
theorem dX11_plates_115 : decode cX11_plates 115 = .ok (.aload 5, 2) := by decide +kernel
theorem dX11_plates_117 : decode cX11_plates 117 = .ok (.getfield 294, 3) := by decide +kernel
theorem dX11_plates_120 : decode cX11_plates 120 = .ok (.iload_n 3, 1) := by decide +kernel
theorem dX11_plates_121 : decode cX11_plates 121 = .ok (.iconst 2, 1) := by decide +kernel
theorem dX11_plates_122 : decode cX11_plates 122 = .ok (.iload 7, 2) := by decide +kernel
theorem dX11_plates_124 : decode cX11_plates 124 = .ok (.imul, 1) := by decide +kernel
theorem dX11_plates_125 : decode cX11_plates 125 = .ok (.iadd, 1) := by decide +kernel
theorem dX11_plates_126 : decode cX11_plates 126 = .ok (.iaload, 1) := by decide +kernel
theorem dX11_plates_127 : decode cX11_plates 127 = .ok (.aload 5, 2) := by decide +kernel
theorem dX11_plates_129 : decode cX11_plates 129 = .ok (.getfield 294, 3) := by decide +kernel
theorem dX11_plates_132 : decode cX11_plates 132 = .ok (.iload_n 3, 1) := by decide +kernel
theorem dX11_plates_133 : decode cX11_plates 133 = .ok (.iconst 2, 1) := by decide +kernel
theorem dX11_plates_134 : decode cX11_plates 134 = .ok (.iload 7, 2) := by decide +kernel
theorem dX11_plates_136 : decode cX11_plates 136 = .ok (.imul, 1) := by decide +kernel
theorem dX11_plates_137 : decode cX11_plates 137 = .ok (.iadd, 1) := by decide +kernel
theorem dX11_plates_138 : decode cX11_plates 138 = .ok (.iconst 1, 1) := by decide +kernel
theorem dX11_plates_139 : decode cX11_plates 139 = .ok (.iadd, 1) := by decide +kernel
theorem dX11_plates_140 : decode cX11_plates 140 = .ok (.iaload, 1) := by decide +kernel
theorem dX11_plates_141 : decode cX11_plates 141 = .ok (.invokevirtual 356, 3) := by decide +kernel
theorem dX11_plates_144 : decode cX11_plates 144 = .ok (.ifCond .lt 6, 3) := by decide +kernel
theorem dX11_plates_147 : decode cX11_plates 147 = .ok (.iinc 6 1, 3) := by decide +kernel
theorem dX11_plates_150 : decode cX11_plates 150 = .ok (.iinc 7 1, 3) := by decide +kernel
theorem dX11_plates_153 : decode cX11_plates 153 = .ok (.goto (-88), 3) := by decide +kernel
theorem dX11_plates_156 : decode cX11_plates 156 = .ok (.iload 6, 2) := by decide +kernel
theorem dX11_plates_158 : decode cX11_plates 158 = .ok (.ireturn, 1) := by decide +kernel
theorem dX11_isUnder_0 : decode cX11_isUnder 0 = .ok (.iload_n 1, 1) := by decide +kernel
theorem dX11_isUnder_1 : decode cX11_isUnder 1 = .ok (.tableswitch 66 0 5 #[39, 41, 46, 51, 56, 61], 39) := by decide +kernel
theorem dX11_isUnder_40 : decode cX11_isUnder 40 = .ok (.iconst 1, 1) := by decide +kernel
theorem dX11_isUnder_41 : decode cX11_isUnder 41 = .ok (.ireturn, 1) := by decide +kernel
theorem dX11_isUnder_42 : decode cX11_isUnder 42 = .ok (.aload_n 0, 1) := by decide +kernel
theorem dX11_isUnder_43 : decode cX11_isUnder 43 = .ok (.instanceof 138, 3) := by decide +kernel
theorem dX11_isUnder_46 : decode cX11_isUnder 46 = .ok (.ireturn, 1) := by decide +kernel
theorem dX11_isUnder_47 : decode cX11_isUnder 47 = .ok (.aload_n 0, 1) := by decide +kernel
theorem dX11_isUnder_48 : decode cX11_isUnder 48 = .ok (.instanceof 143, 3) := by decide +kernel
theorem dX11_isUnder_51 : decode cX11_isUnder 51 = .ok (.ireturn, 1) := by decide +kernel
theorem dX11_isUnder_52 : decode cX11_isUnder 52 = .ok (.aload_n 0, 1) := by decide +kernel
theorem dX11_isUnder_53 : decode cX11_isUnder 53 = .ok (.instanceof 146, 3) := by decide +kernel
theorem dX11_isUnder_56 : decode cX11_isUnder 56 = .ok (.ireturn, 1) := by decide +kernel
theorem dX11_isUnder_57 : decode cX11_isUnder 57 = .ok (.aload_n 0, 1) := by decide +kernel
theorem dX11_isUnder_58 : decode cX11_isUnder 58 = .ok (.instanceof 149, 3) := by decide +kernel
theorem dX11_isUnder_61 : decode cX11_isUnder 61 = .ok (.ireturn, 1) := by decide +kernel
theorem dX11_isUnder_62 : decode cX11_isUnder 62 = .ok (.aload_n 0, 1) := by decide +kernel
theorem dX11_isUnder_63 : decode cX11_isUnder 63 = .ok (.instanceof 152, 3) := by decide +kernel
theorem dX11_isUnder_66 : decode cX11_isUnder 66 = .ok (.ireturn, 1) := by decide +kernel
theorem dX11_isUnder_67 : decode cX11_isUnder 67 = .ok (.iconst 0, 1) := by decide +kernel
theorem dX11_isUnder_68 : decode cX11_isUnder 68 = .ok (.ireturn, 1) := by decide +kernel
theorem dX11_taken_0 : decode cX11_taken 0 = .ok (.iload_n 2, 1) := by decide +kernel
theorem dX11_taken_1 : decode cX11_taken 1 = .ok (.ifCond .lt 8, 3) := by decide +kernel
theorem dX11_taken_4 : decode cX11_taken 4 = .ok (.iload_n 2, 1) := by decide +kernel
theorem dX11_taken_5 : decode cX11_taken 5 = .ok (.iconst 5, 1) := by decide +kernel
theorem dX11_taken_6 : decode cX11_taken 6 = .ok (.if_icmp .le 6, 3) := by decide +kernel
theorem dX11_taken_9 : decode cX11_taken 9 = .ok (.bipush (-2), 2) := by decide +kernel
theorem dX11_taken_11 : decode cX11_taken 11 = .ok (.ireturn, 1) := by decide +kernel
theorem dX11_taken_12 : decode cX11_taken 12 = .ok (.aload_n 0, 1) := by decide +kernel
theorem dX11_taken_13 : decode cX11_taken 13 = .ok (.iload_n 1, 1) := by decide +kernel
theorem dX11_taken_14 : decode cX11_taken 14 = .ok (.invokevirtual 121, 3) := by decide +kernel
theorem dX11_taken_17 : decode cX11_taken 17 = .ok (.astore_n 3, 1) := by decide +kernel
theorem dX11_taken_18 : decode cX11_taken 18 = .ok (.aload_n 3, 1) := by decide +kernel
theorem dX11_taken_19 : decode cX11_taken 19 = .ok (.ifnonnull 6, 3) := by decide +kernel
theorem dX11_taken_22 : decode cX11_taken 22 = .ok (.bipush (-11), 2) := by decide +kernel
theorem dX11_taken_24 : decode cX11_taken 24 = .ok (.ireturn, 1) := by decide +kernel
theorem dX11_taken_25 : decode cX11_taken 25 = .ok (.aload_n 3, 1) := by decide +kernel
theorem dX11_taken_26 : decode cX11_taken 26 = .ok (.iload_n 2, 1) := by decide +kernel
theorem dX11_taken_27 : decode cX11_taken 27 = .ok (.invokestatic 359, 3) := by decide +kernel
theorem dX11_taken_30 : decode cX11_taken 30 = .ok (.ifCond .eq 10, 3) := by decide +kernel
theorem dX11_taken_33 : decode cX11_taken 33 = .ok (.aload_n 3, 1) := by decide +kernel
theorem dX11_taken_34 : decode cX11_taken 34 = .ok (.getfield 128, 3) := by decide +kernel
theorem dX11_taken_37 : decode cX11_taken 37 = .ok (.goto 5, 3) := by decide +kernel
theorem dX11_taken_40 : decode cX11_taken 40 = .ok (.bipush (-13), 2) := by decide +kernel
theorem dX11_taken_42 : decode cX11_taken 42 = .ok (.ireturn, 1) := by decide +kernel
theorem dX12_isIn_0 : decode cX12_isIn 0 = .ok (.iload_n 0, 1) := by decide +kernel
theorem dX12_isIn_1 : decode cX12_isIn 1 = .ok (.iload_n 1, 1) := by decide +kernel
theorem dX12_isIn_2 : decode cX12_isIn 2 = .ok (.if_icmp .lt 12, 3) := by decide +kernel
theorem dX12_isIn_5 : decode cX12_isIn 5 = .ok (.iload_n 0, 1) := by decide +kernel
theorem dX12_isIn_6 : decode cX12_isIn 6 = .ok (.iload_n 2, 1) := by decide +kernel
theorem dX12_isIn_7 : decode cX12_isIn 7 = .ok (.if_icmp .gt 7, 3) := by decide +kernel
theorem dX12_isIn_10 : decode cX12_isIn 10 = .ok (.iconst 1, 1) := by decide +kernel
theorem dX12_isIn_11 : decode cX12_isIn 11 = .ok (.goto 4, 3) := by decide +kernel
theorem dX12_isIn_14 : decode cX12_isIn 14 = .ok (.iconst 0, 1) := by decide +kernel
theorem dX12_isIn_15 : decode cX12_isIn 15 = .ok (.ireturn, 1) := by decide +kernel
theorem dX12_isPlate_0 : decode cX12_isPlate 0 = .ok (.iload_n 1, 1) := by decide +kernel
theorem dX12_isPlate_1 : decode cX12_isPlate 1 = .ok (.iconst 0, 1) := by decide +kernel
theorem dX12_isPlate_2 : decode cX12_isPlate 2 = .ok (.aload_n 0, 1) := by decide +kernel
theorem dX12_isPlate_3 : decode cX12_isPlate 3 = .ok (.getfield 1, 3) := by decide +kernel
theorem dX12_isPlate_6 : decode cX12_isPlate 6 = .ok (.iconst 1, 1) := by decide +kernel
theorem dX12_isPlate_7 : decode cX12_isPlate 7 = .ok (.isub, 1) := by decide +kernel
theorem dX12_isPlate_8 : decode cX12_isPlate 8 = .ok (.invokestatic 7, 3) := by decide +kernel
theorem dX12_isPlate_11 : decode cX12_isPlate 11 = .ok (.ireturn, 1) := by decide +kernel
theorem dX12_isLayer_0 : decode cX12_isLayer 0 = .ok (.iload_n 1, 1) := by decide +kernel
theorem dX12_isLayer_1 : decode cX12_isLayer 1 = .ok (.iconst 0, 1) := by decide +kernel
theorem dX12_isLayer_2 : decode cX12_isLayer 2 = .ok (.aload_n 0, 1) := by decide +kernel
theorem dX12_isLayer_3 : decode cX12_isLayer 3 = .ok (.getfield 11, 3) := by decide +kernel
theorem dX12_isLayer_6 : decode cX12_isLayer 6 = .ok (.iconst 1, 1) := by decide +kernel
theorem dX12_isLayer_7 : decode cX12_isLayer 7 = .ok (.isub, 1) := by decide +kernel
theorem dX12_isLayer_8 : decode cX12_isLayer 8 = .ok (.invokestatic 7, 3) := by decide +kernel
theorem dX12_isLayer_11 : decode cX12_isLayer 11 = .ok (.ireturn, 1) := by decide +kernel
theorem dX12_plate_0 : decode cX12_plate 0 = .ok (.iload_n 1, 1) := by decide +kernel
theorem dX12_plate_1 : decode cX12_plate 1 = .ok (.iconst 0, 1) := by decide +kernel
theorem dX12_plate_2 : decode cX12_plate 2 = .ok (.bipush 99, 2) := by decide +kernel
theorem dX12_plate_4 : decode cX12_plate 4 = .ok (.invokestatic 7, 3) := by decide +kernel
theorem dX12_plate_7 : decode cX12_plate 7 = .ok (.ifCond .eq 13, 3) := by decide +kernel
theorem dX12_plate_10 : decode cX12_plate 10 = .ok (.iload_n 2, 1) := by decide +kernel
theorem dX12_plate_11 : decode cX12_plate 11 = .ok (.iconst 0, 1) := by decide +kernel
theorem dX12_plate_12 : decode cX12_plate 12 = .ok (.bipush 99, 2) := by decide +kernel
theorem dX12_plate_14 : decode cX12_plate 14 = .ok (.invokestatic 7, 3) := by decide +kernel
theorem dX12_plate_17 : decode cX12_plate 17 = .ok (.ifCond .ne 6, 3) := by decide +kernel
theorem dX12_plate_20 : decode cX12_plate 20 = .ok (.bipush (-2), 2) := by decide +kernel
theorem dX12_plate_22 : decode cX12_plate 22 = .ok (.ireturn, 1) := by decide +kernel
theorem dX12_plate_23 : decode cX12_plate 23 = .ok (.aload_n 0, 1) := by decide +kernel
theorem dX12_plate_24 : decode cX12_plate 24 = .ok (.getfield 1, 3) := by decide +kernel
theorem dX12_plate_27 : decode cX12_plate 27 = .ok (.bipush 8, 2) := by decide +kernel
theorem dX12_plate_29 : decode cX12_plate 29 = .ok (.if_icmp .ne 6, 3) := by decide +kernel
theorem dX12_plate_32 : decode cX12_plate 32 = .ok (.bipush (-4), 2) := by decide +kernel
theorem dX12_plate_34 : decode cX12_plate 34 = .ok (.ireturn, 1) := by decide +kernel
theorem dX12_plate_35 : decode cX12_plate 35 = .ok (.aload_n 0, 1) := by decide +kernel
theorem dX12_plate_36 : decode cX12_plate 36 = .ok (.getfield 14, 3) := by decide +kernel
theorem dX12_plate_39 : decode cX12_plate 39 = .ok (.aload_n 0, 1) := by decide +kernel
theorem dX12_plate_40 : decode cX12_plate 40 = .ok (.getfield 1, 3) := by decide +kernel
theorem dX12_plate_43 : decode cX12_plate 43 = .ok (.iload_n 1, 1) := by decide +kernel
theorem dX12_plate_44 : decode cX12_plate 44 = .ok (.iastore, 1) := by decide +kernel
theorem dX12_plate_45 : decode cX12_plate 45 = .ok (.aload_n 0, 1) := by decide +kernel
theorem dX12_plate_46 : decode cX12_plate 46 = .ok (.getfield 18, 3) := by decide +kernel
theorem dX12_plate_49 : decode cX12_plate 49 = .ok (.aload_n 0, 1) := by decide +kernel
theorem dX12_plate_50 : decode cX12_plate 50 = .ok (.getfield 1, 3) := by decide +kernel
theorem dX12_plate_53 : decode cX12_plate 53 = .ok (.iload_n 2, 1) := by decide +kernel
theorem dX12_plate_54 : decode cX12_plate 54 = .ok (.iastore, 1) := by decide +kernel
theorem dX12_plate_55 : decode cX12_plate 55 = .ok (.aload_n 0, 1) := by decide +kernel
theorem dX12_plate_56 : decode cX12_plate 56 = .ok (.dup, 1) := by decide +kernel
theorem dX12_plate_57 : decode cX12_plate 57 = .ok (.getfield 1, 3) := by decide +kernel
theorem dX12_plate_60 : decode cX12_plate 60 = .ok (.iconst 1, 1) := by decide +kernel
theorem dX12_plate_61 : decode cX12_plate 61 = .ok (.iadd, 1) := by decide +kernel
theorem dX12_plate_62 : decode cX12_plate 62 = .ok (.putfield 1, 3) := by decide +kernel
theorem dX12_plate_65 : decode cX12_plate 65 = .ok (.aload_n 0, 1) := by decide +kernel
theorem dX12_plate_66 : decode cX12_plate 66 = .ok (.getfield 1, 3) := by decide +kernel
theorem dX12_plate_69 : decode cX12_plate 69 = .ok (.iconst 1, 1) := by decide +kernel
theorem dX12_plate_70 : decode cX12_plate 70 = .ok (.isub, 1) := by decide +kernel
theorem dX12_plate_71 : decode cX12_plate 71 = .ok (.ireturn, 1) := by decide +kernel
theorem dX12_layer_0 : decode cX12_layer 0 = .ok (.iload_n 1, 1) := by decide +kernel
theorem dX12_layer_1 : decode cX12_layer 1 = .ok (.iconst 0, 1) := by decide +kernel
theorem dX12_layer_2 : decode cX12_layer 2 = .ok (.iconst 5, 1) := by decide +kernel
theorem dX12_layer_3 : decode cX12_layer 3 = .ok (.invokestatic 7, 3) := by decide +kernel
theorem dX12_layer_6 : decode cX12_layer 6 = .ok (.ifCond .eq 13, 3) := by decide +kernel
theorem dX12_layer_9 : decode cX12_layer 9 = .ok (.iload_n 2, 1) := by decide +kernel
theorem dX12_layer_10 : decode cX12_layer 10 = .ok (.iconst 0, 1) := by decide +kernel
theorem dX12_layer_11 : decode cX12_layer 11 = .ok (.bipush 9, 2) := by decide +kernel
theorem dX12_layer_13 : decode cX12_layer 13 = .ok (.invokestatic 7, 3) := by decide +kernel
theorem dX12_layer_16 : decode cX12_layer 16 = .ok (.ifCond .ne 6, 3) := by decide +kernel
theorem dX12_layer_19 : decode cX12_layer 19 = .ok (.bipush (-2), 2) := by decide +kernel
theorem dX12_layer_21 : decode cX12_layer 21 = .ok (.ireturn, 1) := by decide +kernel
theorem dX12_layer_22 : decode cX12_layer 22 = .ok (.aload_n 0, 1) := by decide +kernel
theorem dX12_layer_23 : decode cX12_layer 23 = .ok (.getfield 11, 3) := by decide +kernel
theorem dX12_layer_26 : decode cX12_layer 26 = .ok (.iconst 5, 1) := by decide +kernel
theorem dX12_layer_27 : decode cX12_layer 27 = .ok (.if_icmp .ne 6, 3) := by decide +kernel
theorem dX12_layer_30 : decode cX12_layer 30 = .ok (.bipush (-4), 2) := by decide +kernel
theorem dX12_layer_32 : decode cX12_layer 32 = .ok (.ireturn, 1) := by decide +kernel
theorem dX12_layer_33 : decode cX12_layer 33 = .ok (.aload_n 0, 1) := by decide +kernel
theorem dX12_layer_34 : decode cX12_layer 34 = .ok (.getfield 21, 3) := by decide +kernel
theorem dX12_layer_37 : decode cX12_layer 37 = .ok (.aload_n 0, 1) := by decide +kernel
theorem dX12_layer_38 : decode cX12_layer 38 = .ok (.getfield 11, 3) := by decide +kernel
theorem dX12_layer_41 : decode cX12_layer 41 = .ok (.iload_n 1, 1) := by decide +kernel
theorem dX12_layer_42 : decode cX12_layer 42 = .ok (.iastore, 1) := by decide +kernel
theorem dX12_layer_43 : decode cX12_layer 43 = .ok (.aload_n 0, 1) := by decide +kernel
theorem dX12_layer_44 : decode cX12_layer 44 = .ok (.getfield 24, 3) := by decide +kernel
theorem dX12_layer_47 : decode cX12_layer 47 = .ok (.aload_n 0, 1) := by decide +kernel
theorem dX12_layer_48 : decode cX12_layer 48 = .ok (.getfield 11, 3) := by decide +kernel
theorem dX12_layer_51 : decode cX12_layer 51 = .ok (.iload_n 2, 1) := by decide +kernel
theorem dX12_layer_52 : decode cX12_layer 52 = .ok (.iastore, 1) := by decide +kernel
theorem dX12_layer_53 : decode cX12_layer 53 = .ok (.aload_n 0, 1) := by decide +kernel
theorem dX12_layer_54 : decode cX12_layer 54 = .ok (.dup, 1) := by decide +kernel
theorem dX12_layer_55 : decode cX12_layer 55 = .ok (.getfield 11, 3) := by decide +kernel
theorem dX12_layer_58 : decode cX12_layer 58 = .ok (.iconst 1, 1) := by decide +kernel
theorem dX12_layer_59 : decode cX12_layer 59 = .ok (.iadd, 1) := by decide +kernel
theorem dX12_layer_60 : decode cX12_layer 60 = .ok (.putfield 11, 3) := by decide +kernel
theorem dX12_layer_63 : decode cX12_layer 63 = .ok (.aload_n 0, 1) := by decide +kernel
theorem dX12_layer_64 : decode cX12_layer 64 = .ok (.getfield 11, 3) := by decide +kernel
theorem dX12_layer_67 : decode cX12_layer 67 = .ok (.iconst 1, 1) := by decide +kernel
theorem dX12_layer_68 : decode cX12_layer 68 = .ok (.isub, 1) := by decide +kernel
theorem dX12_layer_69 : decode cX12_layer 69 = .ok (.ireturn, 1) := by decide +kernel
theorem dX12_set_0 : decode cX12_set 0 = .ok (.iconst 0, 1) := by decide +kernel
theorem dX12_set_1 : decode cX12_set 1 = .ok (.istore 4, 2) := by decide +kernel
theorem dX12_set_3 : decode cX12_set 3 = .ok (.iload_n 1, 1) := by decide +kernel
theorem dX12_set_4 : decode cX12_set 4 = .ok (.tableswitch 133 0 2 #[28, 67, 106], 28) := by decide +kernel
theorem dX12_set_32 : decode cX12_set 32 = .ok (.aload_n 0, 1) := by decide +kernel
theorem dX12_set_33 : decode cX12_set 33 = .ok (.iload_n 2, 1) := by decide +kernel
theorem dX12_set_34 : decode cX12_set 34 = .ok (.invokevirtual 27, 3) := by decide +kernel
theorem dX12_set_37 : decode cX12_set 37 = .ok (.ifCond .eq 13, 3) := by decide +kernel
theorem dX12_set_40 : decode cX12_set 40 = .ok (.iload_n 3, 1) := by decide +kernel
theorem dX12_set_41 : decode cX12_set 41 = .ok (.iconst 0, 1) := by decide +kernel
theorem dX12_set_42 : decode cX12_set 42 = .ok (.bipush 99, 2) := by decide +kernel
theorem dX12_set_44 : decode cX12_set 44 = .ok (.invokestatic 7, 3) := by decide +kernel
theorem dX12_set_47 : decode cX12_set 47 = .ok (.ifCond .ne 6, 3) := by decide +kernel
theorem dX12_set_50 : decode cX12_set 50 = .ok (.bipush (-2), 2) := by decide +kernel
theorem dX12_set_52 : decode cX12_set 52 = .ok (.ireturn, 1) := by decide +kernel
theorem dX12_set_53 : decode cX12_set 53 = .ok (.aload_n 0, 1) := by decide +kernel
theorem dX12_set_54 : decode cX12_set 54 = .ok (.getfield 14, 3) := by decide +kernel
theorem dX12_set_57 : decode cX12_set 57 = .ok (.iload_n 2, 1) := by decide +kernel
theorem dX12_set_58 : decode cX12_set 58 = .ok (.iaload, 1) := by decide +kernel
theorem dX12_set_59 : decode cX12_set 59 = .ok (.istore 4, 2) := by decide +kernel
theorem dX12_set_61 : decode cX12_set 61 = .ok (.aload_n 0, 1) := by decide +kernel
theorem dX12_set_62 : decode cX12_set 62 = .ok (.getfield 14, 3) := by decide +kernel
theorem dX12_set_65 : decode cX12_set 65 = .ok (.iload_n 2, 1) := by decide +kernel
theorem dX12_set_66 : decode cX12_set 66 = .ok (.iload_n 3, 1) := by decide +kernel
theorem dX12_set_67 : decode cX12_set 67 = .ok (.iastore, 1) := by decide +kernel
theorem dX12_set_68 : decode cX12_set 68 = .ok (.iload 4, 2) := by decide +kernel
theorem dX12_set_70 : decode cX12_set 70 = .ok (.ireturn, 1) := by decide +kernel
theorem dX12_set_71 : decode cX12_set 71 = .ok (.aload_n 0, 1) := by decide +kernel
theorem dX12_set_72 : decode cX12_set 72 = .ok (.iload_n 2, 1) := by decide +kernel
theorem dX12_set_73 : decode cX12_set 73 = .ok (.invokevirtual 27, 3) := by decide +kernel
theorem dX12_set_76 : decode cX12_set 76 = .ok (.ifCond .eq 13, 3) := by decide +kernel
theorem dX12_set_79 : decode cX12_set 79 = .ok (.iload_n 3, 1) := by decide +kernel
theorem dX12_set_80 : decode cX12_set 80 = .ok (.iconst 0, 1) := by decide +kernel
theorem dX12_set_81 : decode cX12_set 81 = .ok (.bipush 99, 2) := by decide +kernel
theorem dX12_set_83 : decode cX12_set 83 = .ok (.invokestatic 7, 3) := by decide +kernel
theorem dX12_set_86 : decode cX12_set 86 = .ok (.ifCond .ne 6, 3) := by decide +kernel
theorem dX12_set_89 : decode cX12_set 89 = .ok (.bipush (-2), 2) := by decide +kernel
theorem dX12_set_91 : decode cX12_set 91 = .ok (.ireturn, 1) := by decide +kernel
theorem dX12_set_92 : decode cX12_set 92 = .ok (.aload_n 0, 1) := by decide +kernel
theorem dX12_set_93 : decode cX12_set 93 = .ok (.getfield 18, 3) := by decide +kernel
theorem dX12_set_96 : decode cX12_set 96 = .ok (.iload_n 2, 1) := by decide +kernel
theorem dX12_set_97 : decode cX12_set 97 = .ok (.iaload, 1) := by decide +kernel
theorem dX12_set_98 : decode cX12_set 98 = .ok (.istore 4, 2) := by decide +kernel
theorem dX12_set_100 : decode cX12_set 100 = .ok (.aload_n 0, 1) := by decide +kernel
theorem dX12_set_101 : decode cX12_set 101 = .ok (.getfield 18, 3) := by decide +kernel
theorem dX12_set_104 : decode cX12_set 104 = .ok (.iload_n 2, 1) := by decide +kernel
theorem dX12_set_105 : decode cX12_set 105 = .ok (.iload_n 3, 1) := by decide +kernel
theorem dX12_set_106 : decode cX12_set 106 = .ok (.iastore, 1) := by decide +kernel
theorem dX12_set_107 : decode cX12_set 107 = .ok (.iload 4, 2) := by decide +kernel
theorem dX12_set_109 : decode cX12_set 109 = .ok (.ireturn, 1) := by decide +kernel
theorem dX12_set_110 : decode cX12_set 110 = .ok (.iload_n 3, 1) := by decide +kernel
theorem dX12_set_111 : decode cX12_set 111 = .ok (.iconst 1, 1) := by decide +kernel
theorem dX12_set_112 : decode cX12_set 112 = .ok (.bipush 9, 2) := by decide +kernel
theorem dX12_set_114 : decode cX12_set 114 = .ok (.invokestatic 7, 3) := by decide +kernel
theorem dX12_set_117 : decode cX12_set 117 = .ok (.ifCond .ne 6, 3) := by decide +kernel
theorem dX12_set_120 : decode cX12_set 120 = .ok (.bipush (-2), 2) := by decide +kernel
theorem dX12_set_122 : decode cX12_set 122 = .ok (.ireturn, 1) := by decide +kernel
theorem dX12_set_123 : decode cX12_set 123 = .ok (.aload_n 0, 1) := by decide +kernel
theorem dX12_set_124 : decode cX12_set 124 = .ok (.getfield 31, 3) := by decide +kernel
theorem dX12_set_127 : decode cX12_set 127 = .ok (.istore 4, 2) := by decide +kernel
theorem dX12_set_129 : decode cX12_set 129 = .ok (.aload_n 0, 1) := by decide +kernel
theorem dX12_set_130 : decode cX12_set 130 = .ok (.iload_n 3, 1) := by decide +kernel
theorem dX12_set_131 : decode cX12_set 131 = .ok (.putfield 31, 3) := by decide +kernel
theorem dX12_set_134 : decode cX12_set 134 = .ok (.iload 4, 2) := by decide +kernel
theorem dX12_set_136 : decode cX12_set 136 = .ok (.ireturn, 1) := by decide +kernel
theorem dX12_set_137 : decode cX12_set 137 = .ok (.bipush (-2), 2) := by decide +kernel
theorem dX12_set_139 : decode cX12_set 139 = .ok (.ireturn, 1) := by decide +kernel
theorem dX12_name_0 : decode cX12_name 0 = .ok (.aload_n 0, 1) := by decide +kernel
theorem dX12_name_1 : decode cX12_name 1 = .ok (.getfield 167, 3) := by decide +kernel
theorem dX12_name_4 : decode cX12_name 4 = .ok (.iconst 0, 1) := by decide +kernel
theorem dX12_name_5 : decode cX12_name 5 = .ok (.aload_n 0, 1) := by decide +kernel
theorem dX12_name_6 : decode cX12_name 6 = .ok (.getfield 14, 3) := by decide +kernel
theorem dX12_name_9 : decode cX12_name 9 = .ok (.iload_n 1, 1) := by decide +kernel
theorem dX12_name_10 : decode cX12_name 10 = .ok (.iaload, 1) := by decide +kernel
theorem dX12_name_11 : decode cX12_name 11 = .ok (.iastore, 1) := by decide +kernel
theorem dX12_name_12 : decode cX12_name 12 = .ok (.aload_n 0, 1) := by decide +kernel
theorem dX12_name_13 : decode cX12_name 13 = .ok (.getfield 167, 3) := by decide +kernel
theorem dX12_name_16 : decode cX12_name 16 = .ok (.iconst 1, 1) := by decide +kernel
theorem dX12_name_17 : decode cX12_name 17 = .ok (.iload_n 2, 1) := by decide +kernel
theorem dX12_name_18 : decode cX12_name 18 = .ok (.iastore, 1) := by decide +kernel
theorem dX12_name_19 : decode cX12_name 19 = .ok (.aload_n 0, 1) := by decide +kernel
theorem dX12_name_20 : decode cX12_name 20 = .ok (.getfield 167, 3) := by decide +kernel
theorem dX12_name_23 : decode cX12_name 23 = .ok (.iconst 2, 1) := by decide +kernel
theorem dX12_name_24 : decode cX12_name 24 = .ok (.aload_n 0, 1) := by decide +kernel
theorem dX12_name_25 : decode cX12_name 25 = .ok (.getfield 18, 3) := by decide +kernel
theorem dX12_name_28 : decode cX12_name 28 = .ok (.iload_n 1, 1) := by decide +kernel
theorem dX12_name_29 : decode cX12_name 29 = .ok (.iaload, 1) := by decide +kernel
theorem dX12_name_30 : decode cX12_name 30 = .ok (.iastore, 1) := by decide +kernel
theorem dX12_name_31 : decode cX12_name 31 = .ok (.aload_n 0, 1) := by decide +kernel
theorem dX12_name_32 : decode cX12_name 32 = .ok (.getfield 167, 3) := by decide +kernel
theorem dX12_name_35 : decode cX12_name 35 = .ok (.iconst 3, 1) := by decide +kernel
theorem dX12_name_36 : decode cX12_name 36 = .ok (.iload_n 3, 1) := by decide +kernel
theorem dX12_name_37 : decode cX12_name 37 = .ok (.iastore, 1) := by decide +kernel
theorem dX12_name_38 : decode cX12_name 38 = .ok (.aload_n 0, 1) := by decide +kernel
theorem dX12_name_39 : decode cX12_name 39 = .ok (.getfield 167, 3) := by decide +kernel
theorem dX12_name_42 : decode cX12_name 42 = .ok (.iconst 4, 1) := by decide +kernel
theorem dX12_name_43 : decode cX12_name 43 = .ok (.iload 4, 2) := by decide +kernel
theorem dX12_name_45 : decode cX12_name 45 = .ok (.iastore, 1) := by decide +kernel
theorem dX12_name_46 : decode cX12_name 46 = .ok (.aload_n 0, 1) := by decide +kernel
theorem dX12_name_47 : decode cX12_name 47 = .ok (.getfield 167, 3) := by decide +kernel
theorem dX12_name_50 : decode cX12_name 50 = .ok (.iconst 5, 1) := by decide +kernel
theorem dX12_name_51 : decode cX12_name 51 = .ok (.iload 5, 2) := by decide +kernel
theorem dX12_name_53 : decode cX12_name 53 = .ok (.iastore, 1) := by decide +kernel
theorem dX12_name_54 : decode cX12_name 54 = .ok (.return_, 1) := by decide +kernel
theorem dX12_done_0 : decode cX12_done 0 = .ok (.iload_n 0, 1) := by decide +kernel
theorem dX12_done_1 : decode cX12_done 1 = .ok (.tableswitch 91 11 17 #[77, 91, 55, 66, 43, 47, 51], 43) := by decide +kernel
theorem dX12_done_44 : decode cX12_done 44 = .ok (.iload_n 1, 1) := by decide +kernel
theorem dX12_done_45 : decode cX12_done 45 = .ok (.iload_n 2, 1) := by decide +kernel
theorem dX12_done_46 : decode cX12_done 46 = .ok (.iadd, 1) := by decide +kernel
theorem dX12_done_47 : decode cX12_done 47 = .ok (.ireturn, 1) := by decide +kernel
theorem dX12_done_48 : decode cX12_done 48 = .ok (.iload_n 1, 1) := by decide +kernel
theorem dX12_done_49 : decode cX12_done 49 = .ok (.iload_n 2, 1) := by decide +kernel
theorem dX12_done_50 : decode cX12_done 50 = .ok (.isub, 1) := by decide +kernel
theorem dX12_done_51 : decode cX12_done 51 = .ok (.ireturn, 1) := by decide +kernel
theorem dX12_done_52 : decode cX12_done 52 = .ok (.iload_n 1, 1) := by decide +kernel
theorem dX12_done_53 : decode cX12_done 53 = .ok (.iload_n 2, 1) := by decide +kernel
theorem dX12_done_54 : decode cX12_done 54 = .ok (.imul, 1) := by decide +kernel
theorem dX12_done_55 : decode cX12_done 55 = .ok (.ireturn, 1) := by decide +kernel
theorem dX12_done_56 : decode cX12_done 56 = .ok (.iload_n 1, 1) := by decide +kernel
theorem dX12_done_57 : decode cX12_done 57 = .ok (.iload_n 2, 1) := by decide +kernel
theorem dX12_done_58 : decode cX12_done 58 = .ok (.if_icmp .ge 7, 3) := by decide +kernel
theorem dX12_done_61 : decode cX12_done 61 = .ok (.iconst 1, 1) := by decide +kernel
theorem dX12_done_62 : decode cX12_done 62 = .ok (.goto 4, 3) := by decide +kernel
theorem dX12_done_65 : decode cX12_done 65 = .ok (.iconst 0, 1) := by decide +kernel
theorem dX12_done_66 : decode cX12_done 66 = .ok (.ireturn, 1) := by decide +kernel
theorem dX12_done_67 : decode cX12_done 67 = .ok (.iload_n 1, 1) := by decide +kernel
theorem dX12_done_68 : decode cX12_done 68 = .ok (.iload_n 2, 1) := by decide +kernel
theorem dX12_done_69 : decode cX12_done 69 = .ok (.if_icmp .ne 7, 3) := by decide +kernel
theorem dX12_done_72 : decode cX12_done 72 = .ok (.iconst 1, 1) := by decide +kernel
theorem dX12_done_73 : decode cX12_done 73 = .ok (.goto 4, 3) := by decide +kernel
theorem dX12_done_76 : decode cX12_done 76 = .ok (.iconst 0, 1) := by decide +kernel
theorem dX12_done_77 : decode cX12_done 77 = .ok (.ireturn, 1) := by decide +kernel
theorem dX12_done_78 : decode cX12_done 78 = .ok (.iload_n 1, 1) := by decide +kernel
theorem dX12_done_79 : decode cX12_done 79 = .ok (.ifCond .eq 11, 3) := by decide +kernel
theorem dX12_done_82 : decode cX12_done 82 = .ok (.iload_n 2, 1) := by decide +kernel
theorem dX12_done_83 : decode cX12_done 83 = .ok (.ifCond .eq 7, 3) := by decide +kernel
theorem dX12_done_86 : decode cX12_done 86 = .ok (.iconst 1, 1) := by decide +kernel
theorem dX12_done_87 : decode cX12_done 87 = .ok (.goto 4, 3) := by decide +kernel
theorem dX12_done_90 : decode cX12_done 90 = .ok (.iconst 0, 1) := by decide +kernel
theorem dX12_done_91 : decode cX12_done 91 = .ok (.ireturn, 1) := by decide +kernel
theorem dX12_done_92 : decode cX12_done 92 = .ok (.iload_n 1, 1) := by decide +kernel
theorem dX12_done_93 : decode cX12_done 93 = .ok (.ifCond .ne 7, 3) := by decide +kernel
theorem dX12_done_96 : decode cX12_done 96 = .ok (.iload_n 2, 1) := by decide +kernel
theorem dX12_done_97 : decode cX12_done 97 = .ok (.ifCond .eq 7, 3) := by decide +kernel
theorem dX12_done_100 : decode cX12_done 100 = .ok (.iconst 1, 1) := by decide +kernel
theorem dX12_done_101 : decode cX12_done 101 = .ok (.goto 4, 3) := by decide +kernel
theorem dX12_done_104 : decode cX12_done 104 = .ok (.iconst 0, 1) := by decide +kernel
theorem dX12_done_105 : decode cX12_done 105 = .ok (.ireturn, 1) := by decide +kernel
theorem dX12_worthOf_0 : decode cX12_worthOf 0 = .ok (.iconst 3, 1) := by decide +kernel
theorem dX12_worthOf_1 : decode cX12_worthOf 1 = .ok (.aload_n 0, 1) := by decide +kernel
theorem dX12_worthOf_2 : decode cX12_worthOf 2 = .ok (.getfield 156, 3) := by decide +kernel
theorem dX12_worthOf_5 : decode cX12_worthOf 5 = .ok (.imul, 1) := by decide +kernel
theorem dX12_worthOf_6 : decode cX12_worthOf 6 = .ok (.iload_n 1, 1) := by decide +kernel
theorem dX12_worthOf_7 : decode cX12_worthOf 7 = .ok (.iadd, 1) := by decide +kernel
theorem dX12_worthOf_8 : decode cX12_worthOf 8 = .ok (.istore_n 2, 1) := by decide +kernel
theorem dX12_worthOf_9 : decode cX12_worthOf 9 = .ok (.iconst 0, 1) := by decide +kernel
theorem dX12_worthOf_10 : decode cX12_worthOf 10 = .ok (.istore_n 3, 1) := by decide +kernel
theorem dX12_worthOf_11 : decode cX12_worthOf 11 = .ok (.iconst 0, 1) := by decide +kernel
theorem dX12_worthOf_12 : decode cX12_worthOf 12 = .ok (.istore 4, 2) := by decide +kernel
theorem dX12_worthOf_14 : decode cX12_worthOf 14 = .ok (.iload 4, 2) := by decide +kernel
theorem dX12_worthOf_16 : decode cX12_worthOf 16 = .ok (.aload_n 0, 1) := by decide +kernel
theorem dX12_worthOf_17 : decode cX12_worthOf 17 = .ok (.getfield 134, 3) := by decide +kernel
theorem dX12_worthOf_20 : decode cX12_worthOf 20 = .ok (.iload_n 2, 1) := by decide +kernel
theorem dX12_worthOf_21 : decode cX12_worthOf 21 = .ok (.iaload, 1) := by decide +kernel
theorem dX12_worthOf_22 : decode cX12_worthOf 22 = .ok (.if_icmp .ge 162, 3) := by decide +kernel
theorem dX12_worthOf_25 : decode cX12_worthOf 25 = .ok (.aload_n 0, 1) := by decide +kernel
theorem dX12_worthOf_26 : decode cX12_worthOf 26 = .ok (.getfield 86, 3) := by decide +kernel
theorem dX12_worthOf_29 : decode cX12_worthOf 29 = .ok (.sipush 160, 3) := by decide +kernel
theorem dX12_worthOf_32 : decode cX12_worthOf 32 = .ok (.iload_n 2, 1) := by decide +kernel
theorem dX12_worthOf_33 : decode cX12_worthOf 33 = .ok (.imul, 1) := by decide +kernel
theorem dX12_worthOf_34 : decode cX12_worthOf 34 = .ok (.iload 4, 2) := by decide +kernel
theorem dX12_worthOf_36 : decode cX12_worthOf 36 = .ok (.iadd, 1) := by decide +kernel
theorem dX12_worthOf_37 : decode cX12_worthOf 37 = .ok (.iaload, 1) := by decide +kernel
theorem dX12_worthOf_38 : decode cX12_worthOf 38 = .ok (.istore 5, 2) := by decide +kernel
theorem dX12_worthOf_40 : decode cX12_worthOf 40 = .ok (.iload 5, 2) := by decide +kernel
theorem dX12_worthOf_42 : decode cX12_worthOf 42 = .ok (.ifCond .ge 19, 3) := by decide +kernel
theorem dX12_worthOf_45 : decode cX12_worthOf 45 = .ok (.aload_n 0, 1) := by decide +kernel
theorem dX12_worthOf_46 : decode cX12_worthOf 46 = .ok (.getfield 164, 3) := by decide +kernel
theorem dX12_worthOf_49 : decode cX12_worthOf 49 = .ok (.iload_n 3, 1) := by decide +kernel
theorem dX12_worthOf_50 : decode cX12_worthOf 50 = .ok (.iconst (-1), 1) := by decide +kernel
theorem dX12_worthOf_51 : decode cX12_worthOf 51 = .ok (.iload 5, 2) := by decide +kernel
theorem dX12_worthOf_53 : decode cX12_worthOf 53 = .ok (.isub, 1) := by decide +kernel
theorem dX12_worthOf_54 : decode cX12_worthOf 54 = .ok (.iastore, 1) := by decide +kernel
theorem dX12_worthOf_55 : decode cX12_worthOf 55 = .ok (.iinc 3 1, 3) := by decide +kernel
theorem dX12_worthOf_58 : decode cX12_worthOf 58 = .ok (.goto 120, 3) := by decide +kernel
theorem dX12_worthOf_61 : decode cX12_worthOf 61 = .ok (.iload 5, 2) := by decide +kernel
theorem dX12_worthOf_63 : decode cX12_worthOf 63 = .ok (.bipush 6, 2) := by decide +kernel
theorem dX12_worthOf_65 : decode cX12_worthOf 65 = .ok (.if_icmp .ge 22, 3) := by decide +kernel
theorem dX12_worthOf_68 : decode cX12_worthOf 68 = .ok (.aload_n 0, 1) := by decide +kernel
theorem dX12_worthOf_69 : decode cX12_worthOf 69 = .ok (.getfield 164, 3) := by decide +kernel
theorem dX12_worthOf_72 : decode cX12_worthOf 72 = .ok (.iload_n 3, 1) := by decide +kernel
theorem dX12_worthOf_73 : decode cX12_worthOf 73 = .ok (.aload_n 0, 1) := by decide +kernel
theorem dX12_worthOf_74 : decode cX12_worthOf 74 = .ok (.getfield 167, 3) := by decide +kernel
theorem dX12_worthOf_77 : decode cX12_worthOf 77 = .ok (.iload 5, 2) := by decide +kernel
theorem dX12_worthOf_79 : decode cX12_worthOf 79 = .ok (.iaload, 1) := by decide +kernel
theorem dX12_worthOf_80 : decode cX12_worthOf 80 = .ok (.iastore, 1) := by decide +kernel
theorem dX12_worthOf_81 : decode cX12_worthOf 81 = .ok (.iinc 3 1, 3) := by decide +kernel
theorem dX12_worthOf_84 : decode cX12_worthOf 84 = .ok (.goto 94, 3) := by decide +kernel
theorem dX12_worthOf_87 : decode cX12_worthOf 87 = .ok (.iload 5, 2) := by decide +kernel
theorem dX12_worthOf_89 : decode cX12_worthOf 89 = .ok (.bipush 12, 2) := by decide +kernel
theorem dX12_worthOf_91 : decode cX12_worthOf 91 = .ok (.if_icmp .ne 30, 3) := by decide +kernel
theorem dX12_worthOf_94 : decode cX12_worthOf 94 = .ok (.aload_n 0, 1) := by decide +kernel
theorem dX12_worthOf_95 : decode cX12_worthOf 95 = .ok (.getfield 164, 3) := by decide +kernel
theorem dX12_worthOf_98 : decode cX12_worthOf 98 = .ok (.iload_n 3, 1) := by decide +kernel
theorem dX12_worthOf_99 : decode cX12_worthOf 99 = .ok (.iconst 1, 1) := by decide +kernel
theorem dX12_worthOf_100 : decode cX12_worthOf 100 = .ok (.isub, 1) := by decide +kernel
theorem dX12_worthOf_101 : decode cX12_worthOf 101 = .ok (.aload_n 0, 1) := by decide +kernel
theorem dX12_worthOf_102 : decode cX12_worthOf 102 = .ok (.getfield 164, 3) := by decide +kernel
theorem dX12_worthOf_105 : decode cX12_worthOf 105 = .ok (.iload_n 3, 1) := by decide +kernel
theorem dX12_worthOf_106 : decode cX12_worthOf 106 = .ok (.iconst 1, 1) := by decide +kernel
theorem dX12_worthOf_107 : decode cX12_worthOf 107 = .ok (.isub, 1) := by decide +kernel
theorem dX12_worthOf_108 : decode cX12_worthOf 108 = .ok (.iaload, 1) := by decide +kernel
theorem dX12_worthOf_109 : decode cX12_worthOf 109 = .ok (.ifCond .ne 7, 3) := by decide +kernel
theorem dX12_worthOf_112 : decode cX12_worthOf 112 = .ok (.iconst 1, 1) := by decide +kernel
theorem dX12_worthOf_113 : decode cX12_worthOf 113 = .ok (.goto 4, 3) := by decide +kernel
theorem dX12_worthOf_116 : decode cX12_worthOf 116 = .ok (.iconst 0, 1) := by decide +kernel
theorem dX12_worthOf_117 : decode cX12_worthOf 117 = .ok (.iastore, 1) := by decide +kernel
theorem dX12_worthOf_118 : decode cX12_worthOf 118 = .ok (.goto 60, 3) := by decide +kernel
theorem dX12_worthOf_121 : decode cX12_worthOf 121 = .ok (.iload 5, 2) := by decide +kernel
theorem dX12_worthOf_123 : decode cX12_worthOf 123 = .ok (.bipush 18, 2) := by decide +kernel
theorem dX12_worthOf_125 : decode cX12_worthOf 125 = .ok (.if_icmp .ne 23, 3) := by decide +kernel
theorem dX12_worthOf_128 : decode cX12_worthOf 128 = .ok (.aload_n 0, 1) := by decide +kernel
theorem dX12_worthOf_129 : decode cX12_worthOf 129 = .ok (.getfield 164, 3) := by decide +kernel
theorem dX12_worthOf_132 : decode cX12_worthOf 132 = .ok (.iload_n 3, 1) := by decide +kernel
theorem dX12_worthOf_133 : decode cX12_worthOf 133 = .ok (.iconst 1, 1) := by decide +kernel
theorem dX12_worthOf_134 : decode cX12_worthOf 134 = .ok (.isub, 1) := by decide +kernel
theorem dX12_worthOf_135 : decode cX12_worthOf 135 = .ok (.aload_n 0, 1) := by decide +kernel
theorem dX12_worthOf_136 : decode cX12_worthOf 136 = .ok (.getfield 164, 3) := by decide +kernel
theorem dX12_worthOf_139 : decode cX12_worthOf 139 = .ok (.iload_n 3, 1) := by decide +kernel
theorem dX12_worthOf_140 : decode cX12_worthOf 140 = .ok (.iconst 1, 1) := by decide +kernel
theorem dX12_worthOf_141 : decode cX12_worthOf 141 = .ok (.isub, 1) := by decide +kernel
theorem dX12_worthOf_142 : decode cX12_worthOf 142 = .ok (.iaload, 1) := by decide +kernel
theorem dX12_worthOf_143 : decode cX12_worthOf 143 = .ok (.ineg, 1) := by decide +kernel
theorem dX12_worthOf_144 : decode cX12_worthOf 144 = .ok (.iastore, 1) := by decide +kernel
theorem dX12_worthOf_145 : decode cX12_worthOf 145 = .ok (.goto 33, 3) := by decide +kernel
theorem dX12_worthOf_148 : decode cX12_worthOf 148 = .ok (.iinc 3 (-1), 3) := by decide +kernel
theorem dX12_worthOf_151 : decode cX12_worthOf 151 = .ok (.aload_n 0, 1) := by decide +kernel
theorem dX12_worthOf_152 : decode cX12_worthOf 152 = .ok (.getfield 164, 3) := by decide +kernel
theorem dX12_worthOf_155 : decode cX12_worthOf 155 = .ok (.iload_n 3, 1) := by decide +kernel
theorem dX12_worthOf_156 : decode cX12_worthOf 156 = .ok (.iconst 1, 1) := by decide +kernel
theorem dX12_worthOf_157 : decode cX12_worthOf 157 = .ok (.isub, 1) := by decide +kernel
theorem dX12_worthOf_158 : decode cX12_worthOf 158 = .ok (.iload 5, 2) := by decide +kernel
theorem dX12_worthOf_160 : decode cX12_worthOf 160 = .ok (.aload_n 0, 1) := by decide +kernel
theorem dX12_worthOf_161 : decode cX12_worthOf 161 = .ok (.getfield 164, 3) := by decide +kernel
theorem dX12_worthOf_164 : decode cX12_worthOf 164 = .ok (.iload_n 3, 1) := by decide +kernel
theorem dX12_worthOf_165 : decode cX12_worthOf 165 = .ok (.iconst 1, 1) := by decide +kernel
theorem dX12_worthOf_166 : decode cX12_worthOf 166 = .ok (.isub, 1) := by decide +kernel
theorem dX12_worthOf_167 : decode cX12_worthOf 167 = .ok (.iaload, 1) := by decide +kernel
theorem dX12_worthOf_168 : decode cX12_worthOf 168 = .ok (.aload_n 0, 1) := by decide +kernel
theorem dX12_worthOf_169 : decode cX12_worthOf 169 = .ok (.getfield 164, 3) := by decide +kernel
theorem dX12_worthOf_172 : decode cX12_worthOf 172 = .ok (.iload_n 3, 1) := by decide +kernel
theorem dX12_worthOf_173 : decode cX12_worthOf 173 = .ok (.iaload, 1) := by decide +kernel
theorem dX12_worthOf_174 : decode cX12_worthOf 174 = .ok (.invokestatic 221, 3) := by decide +kernel
theorem dX12_worthOf_177 : decode cX12_worthOf 177 = .ok (.iastore, 1) := by decide +kernel
theorem dX12_worthOf_178 : decode cX12_worthOf 178 = .ok (.iinc 4 1, 3) := by decide +kernel
theorem dX12_worthOf_181 : decode cX12_worthOf 181 = .ok (.goto (-167), 3) := by decide +kernel
theorem dX12_worthOf_184 : decode cX12_worthOf 184 = .ok (.aload_n 0, 1) := by decide +kernel
theorem dX12_worthOf_185 : decode cX12_worthOf 185 = .ok (.getfield 164, 3) := by decide +kernel
theorem dX12_worthOf_188 : decode cX12_worthOf 188 = .ok (.iconst 0, 1) := by decide +kernel
theorem dX12_worthOf_189 : decode cX12_worthOf 189 = .ok (.iaload, 1) := by decide +kernel
theorem dX12_worthOf_190 : decode cX12_worthOf 190 = .ok (.ireturn, 1) := by decide +kernel
theorem dX12_bound_0 : decode cX12_bound 0 = .ok (.iload_n 0, 1) := by decide +kernel
theorem dX12_bound_1 : decode cX12_bound 1 = .ok (.ifCond .ge 7, 3) := by decide +kernel
theorem dX12_bound_4 : decode cX12_bound 4 = .ok (.iconst 0, 1) := by decide +kernel
theorem dX12_bound_5 : decode cX12_bound 5 = .ok (.goto 15, 3) := by decide +kernel
theorem dX12_bound_8 : decode cX12_bound 8 = .ok (.iload_n 0, 1) := by decide +kernel
theorem dX12_bound_9 : decode cX12_bound 9 = .ok (.bipush 99, 2) := by decide +kernel
theorem dX12_bound_11 : decode cX12_bound 11 = .ok (.if_icmp .le 8, 3) := by decide +kernel
theorem dX12_bound_14 : decode cX12_bound 14 = .ok (.bipush 99, 2) := by decide +kernel
theorem dX12_bound_16 : decode cX12_bound 16 = .ok (.goto 4, 3) := by decide +kernel
theorem dX12_bound_19 : decode cX12_bound 19 = .ok (.iload_n 0, 1) := by decide +kernel
theorem dX12_bound_20 : decode cX12_bound 20 = .ok (.ireturn, 1) := by decide +kernel
theorem dX12_told_0 : decode cX12_told 0 = .ok (.iload_n 2, 1) := by decide +kernel
theorem dX12_told_1 : decode cX12_told 1 = .ok (.iconst 0, 1) := by decide +kernel
theorem dX12_told_2 : decode cX12_told 2 = .ok (.iconst 4, 1) := by decide +kernel
theorem dX12_told_3 : decode cX12_told 3 = .ok (.invokestatic 7, 3) := by decide +kernel
theorem dX12_told_6 : decode cX12_told 6 = .ok (.ifCond .eq 27, 3) := by decide +kernel
theorem dX12_told_9 : decode cX12_told 9 = .ok (.iload_n 2, 1) := by decide +kernel
theorem dX12_told_10 : decode cX12_told 10 = .ok (.iconst 3, 1) := by decide +kernel
theorem dX12_told_11 : decode cX12_told 11 = .ok (.if_icmp .ge 14, 3) := by decide +kernel
theorem dX12_told_14 : decode cX12_told 14 = .ok (.aload_n 0, 1) := by decide +kernel
theorem dX12_told_15 : decode cX12_told 15 = .ok (.iload_n 1, 1) := by decide +kernel
theorem dX12_told_16 : decode cX12_told 16 = .ok (.invokevirtual 27, 3) := by decide +kernel
theorem dX12_told_19 : decode cX12_told 19 = .ok (.ifCond .ne 17, 3) := by decide +kernel
theorem dX12_told_22 : decode cX12_told 22 = .ok (.goto 11, 3) := by decide +kernel
theorem dX12_told_25 : decode cX12_told 25 = .ok (.aload_n 0, 1) := by decide +kernel
theorem dX12_told_26 : decode cX12_told 26 = .ok (.iload_n 1, 1) := by decide +kernel
