theorem dJ0_length_8abf5_0 : decode cJ0_length_8abf5 0 = .ok (.aload_n 0, 1) := by decide +kernel
theorem dJ0_length_8abf5_1 : decode cJ0_length_8abf5 1 = .ok (.getfield 9, 3) := by decide +kernel
theorem dJ0_length_8abf5_4 : decode cJ0_length_8abf5 4 = .ok (.arraylength, 1) := by decide +kernel
theorem dJ0_length_8abf5_5 : decode cJ0_length_8abf5 5 = .ok (.aload_n 0, 1) := by decide +kernel
theorem dJ0_length_8abf5_6 : decode cJ0_length_8abf5 6 = .ok (.invokevirtual 335, 3) := by decide +kernel
theorem dJ0_length_8abf5_9 : decode cJ0_length_8abf5 9 = .ok (.ishr, 1) := by decide +kernel
theorem dJ0_length_8abf5_10 : decode cJ0_length_8abf5 10 = .ok (.ireturn, 1) := by decide +kernel
theorem dJ0_charAt_5068e_0 : decode cJ0_charAt_5068e 0 = .ok (.aload_n 0, 1) := by decide +kernel
theorem dJ0_charAt_5068e_1 : decode cJ0_charAt_5068e 1 = .ok (.invokevirtual 492, 3) := by decide +kernel
theorem dJ0_charAt_5068e_4 : decode cJ0_charAt_5068e 4 = .ok (.ifCond .eq 12, 3) := by decide +kernel
theorem dJ0_charAt_5068e_7 : decode cJ0_charAt_5068e 7 = .ok (.aload_n 0, 1) := by decide +kernel
theorem dJ0_charAt_5068e_8 : decode cJ0_charAt_5068e 8 = .ok (.getfield 9, 3) := by decide +kernel
theorem dJ0_charAt_5068e_11 : decode cJ0_charAt_5068e 11 = .ok (.iload_n 1, 1) := by decide +kernel
theorem dJ0_charAt_5068e_12 : decode cJ0_charAt_5068e 12 = .ok (.invokestatic 495, 3) := by decide +kernel
theorem dJ0_charAt_5068e_15 : decode cJ0_charAt_5068e 15 = .ok (.ireturn, 1) := by decide +kernel
theorem dJ0_charAt_5068e_16 : decode cJ0_charAt_5068e 16 = .ok (.aload_n 0, 1) := by decide +kernel
theorem dJ0_charAt_5068e_17 : decode cJ0_charAt_5068e 17 = .ok (.getfield 9, 3) := by decide +kernel
theorem dJ0_charAt_5068e_20 : decode cJ0_charAt_5068e 20 = .ok (.iload_n 1, 1) := by decide +kernel
theorem dJ0_charAt_5068e_21 : decode cJ0_charAt_5068e 21 = .ok (.invokestatic 498, 3) := by decide +kernel
theorem dJ0_charAt_5068e_24 : decode cJ0_charAt_5068e 24 = .ok (.ireturn, 1) := by decide +kernel
theorem dJ0_coder_7d493_0 : decode cJ0_coder_7d493 0 = .ok (.getstatic 38, 3) := by decide +kernel
theorem dJ0_coder_7d493_3 : decode cJ0_coder_7d493 3 = .ok (.ifCond .eq 10, 3) := by decide +kernel
theorem dJ0_coder_7d493_6 : decode cJ0_coder_7d493 6 = .ok (.aload_n 0, 1) := by decide +kernel
theorem dJ0_coder_7d493_7 : decode cJ0_coder_7d493 7 = .ok (.getfield 15, 3) := by decide +kernel
theorem dJ0_coder_7d493_10 : decode cJ0_coder_7d493 10 = .ok (.goto 4, 3) := by decide +kernel
theorem dJ0_coder_7d493_13 : decode cJ0_coder_7d493 13 = .ok (.iconst 1, 1) := by decide +kernel
theorem dJ0_coder_7d493_14 : decode cJ0_coder_7d493 14 = .ok (.ireturn, 1) := by decide +kernel
theorem dJ0_isLatin1_aae02_0 : decode cJ0_isLatin1_aae02 0 = .ok (.getstatic 38, 3) := by decide +kernel
theorem dJ0_isLatin1_aae02_3 : decode cJ0_isLatin1_aae02 3 = .ok (.ifCond .eq 14, 3) := by decide +kernel
theorem dJ0_isLatin1_aae02_6 : decode cJ0_isLatin1_aae02 6 = .ok (.aload_n 0, 1) := by decide +kernel
theorem dJ0_isLatin1_aae02_7 : decode cJ0_isLatin1_aae02 7 = .ok (.getfield 15, 3) := by decide +kernel
theorem dJ0_isLatin1_aae02_10 : decode cJ0_isLatin1_aae02 10 = .ok (.ifCond .ne 7, 3) := by decide +kernel
theorem dJ0_isLatin1_aae02_13 : decode cJ0_isLatin1_aae02 13 = .ok (.iconst 1, 1) := by decide +kernel
theorem dJ0_isLatin1_aae02_14 : decode cJ0_isLatin1_aae02 14 = .ok (.goto 4, 3) := by decide +kernel
theorem dJ0_isLatin1_aae02_17 : decode cJ0_isLatin1_aae02 17 = .ok (.iconst 0, 1) := by decide +kernel
theorem dJ0_isLatin1_aae02_18 : decode cJ0_isLatin1_aae02 18 = .ok (.ireturn, 1) := by decide +kernel
theorem dJ1_charAt_3b067_0 : decode cJ1_charAt_3b067 0 = .ok (.iload_n 1, 1) := by decide +kernel
theorem dJ1_charAt_3b067_1 : decode cJ1_charAt_3b067 1 = .ok (.aload_n 0, 1) := by decide +kernel
theorem dJ1_charAt_3b067_2 : decode cJ1_charAt_3b067 2 = .ok (.arraylength, 1) := by decide +kernel
theorem dJ1_charAt_3b067_3 : decode cJ1_charAt_3b067 3 = .ok (.invokestatic 9, 3) := by decide +kernel
theorem dJ1_charAt_3b067_6 : decode cJ1_charAt_3b067 6 = .ok (.aload_n 0, 1) := by decide +kernel
theorem dJ1_charAt_3b067_7 : decode cJ1_charAt_3b067 7 = .ok (.iload_n 1, 1) := by decide +kernel
theorem dJ1_charAt_3b067_8 : decode cJ1_charAt_3b067 8 = .ok (.baload, 1) := by decide +kernel
theorem dJ1_charAt_3b067_9 : decode cJ1_charAt_3b067 9 = .ok (.sipush 255, 3) := by decide +kernel
theorem dJ1_charAt_3b067_12 : decode cJ1_charAt_3b067 12 = .ok (.iand, 1) := by decide +kernel
theorem dJ1_charAt_3b067_13 : decode cJ1_charAt_3b067 13 = .ok (.i2c, 1) := by decide +kernel
theorem dJ1_charAt_3b067_14 : decode cJ1_charAt_3b067 14 = .ok (.ireturn, 1) := by decide +kernel
theorem dJ0_checkIndex_df160_0 : decode cJ0_checkIndex_df160 0 = .ok (.iload_n 0, 1) := by decide +kernel
theorem dJ0_checkIndex_df160_1 : decode cJ0_checkIndex_df160 1 = .ok (.iload_n 1, 1) := by decide +kernel
theorem dJ0_checkIndex_df160_2 : decode cJ0_checkIndex_df160 2 = .ok (.getstatic 1053, 3) := by decide +kernel
theorem dJ0_checkIndex_df160_5 : decode cJ0_checkIndex_df160 5 = .ok (.invokestatic 1059, 3) := by decide +kernel
theorem dJ0_checkIndex_df160_8 : decode cJ0_checkIndex_df160 8 = .ok (.pop, 1) := by decide +kernel
theorem dJ0_checkIndex_df160_9 : decode cJ0_checkIndex_df160 9 = .ok (.return_, 1) := by decide +kernel
theorem dJ3_checkIndex_8e157_0 : decode cJ3_checkIndex_8e157 0 = .ok (.iload_n 0, 1) := by decide +kernel
theorem dJ3_checkIndex_8e157_1 : decode cJ3_checkIndex_8e157 1 = .ok (.ifCond .lt 8, 3) := by decide +kernel
theorem dJ3_checkIndex_8e157_4 : decode cJ3_checkIndex_8e157 4 = .ok (.iload_n 0, 1) := by decide +kernel
theorem dJ3_checkIndex_8e157_5 : decode cJ3_checkIndex_8e157 5 = .ok (.iload_n 1, 1) := by decide +kernel
theorem dJ3_checkIndex_8e157_6 : decode cJ3_checkIndex_8e157 6 = .ok (.if_icmp .lt 10, 3) := by decide +kernel
theorem dJ3_checkIndex_8e157_9 : decode cJ3_checkIndex_8e157 9 = .ok (.aload_n 2, 1) := by decide +kernel
theorem dJ3_checkIndex_8e157_10 : decode cJ3_checkIndex_8e157 10 = .ok (.iload_n 0, 1) := by decide +kernel
theorem dJ3_checkIndex_8e157_11 : decode cJ3_checkIndex_8e157 11 = .ok (.iload_n 1, 1) := by decide +kernel
theorem dJ3_checkIndex_8e157_12 : decode cJ3_checkIndex_8e157 12 = .ok (.invokestatic 95, 3) := by decide +kernel
theorem dJ3_checkIndex_8e157_15 : decode cJ3_checkIndex_8e157 15 = .ok (.athrow, 1) := by decide +kernel
theorem dJ3_checkIndex_8e157_16 : decode cJ3_checkIndex_8e157 16 = .ok (.iload_n 0, 1) := by decide +kernel
theorem dJ3_checkIndex_8e157_17 : decode cJ3_checkIndex_8e157 17 = .ok (.ireturn, 1) := by decide +kernel
theorem dX0_rank_0 : decode cX0_rank 0 = .ok (.iload_n 1, 1) := by decide +kernel
theorem dX0_rank_1 : decode cX0_rank 1 = .ok (.ireturn, 1) := by decide +kernel
theorem dX4_rank_0 : decode cX4_rank 0 = .ok (.iload_n 2, 1) := by decide +kernel
theorem dX4_rank_1 : decode cX4_rank 1 = .ok (.iload_n 3, 1) := by decide +kernel
theorem dX4_rank_2 : decode cX4_rank 2 = .ok (.isub, 1) := by decide +kernel
theorem dX4_rank_3 : decode cX4_rank 3 = .ok (.invokestatic 7, 3) := by decide +kernel
theorem dX4_rank_6 : decode cX4_rank 6 = .ok (.aload_n 0, 1) := by decide +kernel
theorem dX4_rank_7 : decode cX4_rank 7 = .ok (.getfield 13, 3) := by decide +kernel
theorem dX4_rank_10 : decode cX4_rank 10 = .ok (.iadd, 1) := by decide +kernel
theorem dX4_rank_11 : decode cX4_rank 11 = .ok (.ireturn, 1) := by decide +kernel
theorem dX2_rank_0 : decode cX2_rank 0 = .ok (.aload_n 0, 1) := by decide +kernel
theorem dX2_rank_1 : decode cX2_rank 1 = .ok (.iload_n 1, 1) := by decide +kernel
theorem dX2_rank_2 : decode cX2_rank 2 = .ok (.iload_n 2, 1) := by decide +kernel
theorem dX2_rank_3 : decode cX2_rank 3 = .ok (.iload_n 3, 1) := by decide +kernel
theorem dX2_rank_4 : decode cX2_rank 4 = .ok (.iload 4, 2) := by decide +kernel
theorem dX2_rank_6 : decode cX2_rank 6 = .ok (.invokespecial 7, 3) := by decide +kernel
theorem dX2_rank_9 : decode cX2_rank 9 = .ok (.bipush 10, 2) := by decide +kernel
theorem dX2_rank_11 : decode cX2_rank 11 = .ok (.iload 4, 2) := by decide +kernel
theorem dX2_rank_13 : decode cX2_rank 13 = .ok (.imul, 1) := by decide +kernel
theorem dX2_rank_14 : decode cX2_rank 14 = .ok (.iadd, 1) := by decide +kernel
theorem dX2_rank_15 : decode cX2_rank 15 = .ok (.ireturn, 1) := by decide +kernel
theorem dX3_rank_0 : decode cX3_rank 0 = .ok (.iload_n 2, 1) := by decide +kernel
theorem dX3_rank_1 : decode cX3_rank 1 = .ok (.ireturn, 1) := by decide +kernel
theorem dX3_likes_0 : decode cX3_likes 0 = .ok (.iconst 0, 1) := by decide +kernel
theorem dX3_likes_1 : decode cX3_likes 1 = .ok (.ireturn, 1) := by decide +kernel
theorem dX4_likes_0 : decode cX4_likes 0 = .ok (.iload_n 1, 1) := by decide +kernel
theorem dX4_likes_1 : decode cX4_likes 1 = .ok (.bipush 50, 2) := by decide +kernel
theorem dX4_likes_3 : decode cX4_likes 3 = .ok (.if_icmp .le 7, 3) := by decide +kernel
theorem dX4_likes_6 : decode cX4_likes 6 = .ok (.iconst 1, 1) := by decide +kernel
theorem dX4_likes_7 : decode cX4_likes 7 = .ok (.goto 4, 3) := by decide +kernel
theorem dX4_likes_10 : decode cX4_likes 10 = .ok (.iconst 0, 1) := by decide +kernel
theorem dX4_likes_11 : decode cX4_likes 11 = .ok (.ireturn, 1) := by decide +kernel
theorem dX8_rank_0 : decode cX8_rank 0 = .ok (.bipush 100, 2) := by decide +kernel
theorem dX8_rank_2 : decode cX8_rank 2 = .ok (.aload_n 0, 1) := by decide +kernel
theorem dX8_rank_3 : decode cX8_rank 3 = .ok (.iload_n 1, 1) := by decide +kernel
theorem dX8_rank_4 : decode cX8_rank 4 = .ok (.iload_n 2, 1) := by decide +kernel
theorem dX8_rank_5 : decode cX8_rank 5 = .ok (.iload_n 3, 1) := by decide +kernel
theorem dX8_rank_6 : decode cX8_rank 6 = .ok (.iload 4, 2) := by decide +kernel
theorem dX8_rank_8 : decode cX8_rank 8 = .ok (.invokespecial 7, 3) := by decide +kernel
theorem dX8_rank_11 : decode cX8_rank 11 = .ok (.isub, 1) := by decide +kernel
theorem dX8_rank_12 : decode cX8_rank 12 = .ok (.ireturn, 1) := by decide +kernel
theorem dX8_likes_0 : decode cX8_likes 0 = .ok (.aload_n 0, 1) := by decide +kernel
theorem dX8_likes_1 : decode cX8_likes 1 = .ok (.iload_n 1, 1) := by decide +kernel
theorem dX8_likes_2 : decode cX8_likes 2 = .ok (.iload_n 2, 1) := by decide +kernel
theorem dX8_likes_3 : decode cX8_likes 3 = .ok (.invokespecial 11, 3) := by decide +kernel
theorem dX8_likes_6 : decode cX8_likes 6 = .ok (.ifCond .ne 8, 3) := by decide +kernel
theorem dX8_likes_9 : decode cX8_likes 9 = .ok (.iload_n 2, 1) := by decide +kernel
theorem dX8_likes_10 : decode cX8_likes 10 = .ok (.iconst 1, 1) := by decide +kernel
theorem dX8_likes_11 : decode cX8_likes 11 = .ok (.if_icmp .ne 7, 3) := by decide +kernel
theorem dX8_likes_14 : decode cX8_likes 14 = .ok (.iconst 1, 1) := by decide +kernel
theorem dX8_likes_15 : decode cX8_likes 15 = .ok (.goto 4, 3) := by decide +kernel
theorem dX8_likes_18 : decode cX8_likes 18 = .ok (.iconst 0, 1) := by decide +kernel
theorem dX8_likes_19 : decode cX8_likes 19 = .ok (.ireturn, 1) := by decide +kernel
theorem dX10_rank_0 : decode cX10_rank 0 = .ok (.aload_n 0, 1) := by decide +kernel
theorem dX10_rank_1 : decode cX10_rank 1 = .ok (.iload_n 1, 1) := by decide +kernel
theorem dX10_rank_2 : decode cX10_rank 2 = .ok (.iload_n 2, 1) := by decide +kernel
theorem dX10_rank_3 : decode cX10_rank 3 = .ok (.iload_n 3, 1) := by decide +kernel
theorem dX10_rank_4 : decode cX10_rank 4 = .ok (.iload 4, 2) := by decide +kernel
theorem dX10_rank_6 : decode cX10_rank 6 = .ok (.invokespecial 7, 3) := by decide +kernel
theorem dX10_rank_9 : decode cX10_rank 9 = .ok (.aload_n 0, 1) := by decide +kernel
theorem dX10_rank_10 : decode cX10_rank 10 = .ok (.getfield 11, 3) := by decide +kernel
theorem dX10_rank_13 : decode cX10_rank 13 = .ok (.iadd, 1) := by decide +kernel
theorem dX10_rank_14 : decode cX10_rank 14 = .ok (.iconst 4, 1) := by decide +kernel
theorem dX10_rank_15 : decode cX10_rank 15 = .ok (.irem, 1) := by decide +kernel
theorem dX10_rank_16 : decode cX10_rank 16 = .ok (.ireturn, 1) := by decide +kernel
theorem dX10_likes_0 : decode cX10_likes 0 = .ok (.iload_n 2, 1) := by decide +kernel
theorem dX10_likes_1 : decode cX10_likes 1 = .ok (.aload_n 0, 1) := by decide +kernel
theorem dX10_likes_2 : decode cX10_likes 2 = .ok (.getfield 11, 3) := by decide +kernel
theorem dX10_likes_5 : decode cX10_likes 5 = .ok (.iconst 3, 1) := by decide +kernel
theorem dX10_likes_6 : decode cX10_likes 6 = .ok (.irem, 1) := by decide +kernel
theorem dX10_likes_7 : decode cX10_likes 7 = .ok (.if_icmp .ge 7, 3) := by decide +kernel
theorem dX10_likes_10 : decode cX10_likes 10 = .ok (.iconst 1, 1) := by decide +kernel
theorem dX10_likes_11 : decode cX10_likes 11 = .ok (.goto 4, 3) := by decide +kernel
theorem dX10_likes_14 : decode cX10_likes 14 = .ok (.iconst 0, 1) := by decide +kernel
theorem dX10_likes_15 : decode cX10_likes 15 = .ok (.ireturn, 1) := by decide +kernel
theorem dX11_isMeasure_0 : decode cX11_isMeasure 0 = .ok (.iload_n 0, 1) := by decide +kernel
theorem dX11_isMeasure_1 : decode cX11_isMeasure 1 = .ok (.ifCond .lt 13, 3) := by decide +kernel
theorem dX11_isMeasure_4 : decode cX11_isMeasure 4 = .ok (.iload_n 0, 1) := by decide +kernel
theorem dX11_isMeasure_5 : decode cX11_isMeasure 5 = .ok (.bipush 99, 2) := by decide +kernel
theorem dX11_isMeasure_7 : decode cX11_isMeasure 7 = .ok (.if_icmp .gt 7, 3) := by decide +kernel
theorem dX11_isMeasure_10 : decode cX11_isMeasure 10 = .ok (.iconst 1, 1) := by decide +kernel
theorem dX11_isMeasure_11 : decode cX11_isMeasure 11 = .ok (.goto 4, 3) := by decide +kernel
theorem dX11_isMeasure_14 : decode cX11_isMeasure 14 = .ok (.iconst 0, 1) := by decide +kernel
theorem dX11_isMeasure_15 : decode cX11_isMeasure 15 = .ok (.ireturn, 1) := by decide +kernel
theorem dX11_plate_0 : decode cX11_plate 0 = .ok (.iload_n 1, 1) := by decide +kernel
theorem dX11_plate_1 : decode cX11_plate 1 = .ok (.invokestatic 98, 3) := by decide +kernel
theorem dX11_plate_4 : decode cX11_plate 4 = .ok (.ifCond .eq 10, 3) := by decide +kernel
theorem dX11_plate_7 : decode cX11_plate 7 = .ok (.iload_n 2, 1) := by decide +kernel
theorem dX11_plate_8 : decode cX11_plate 8 = .ok (.invokestatic 98, 3) := by decide +kernel
theorem dX11_plate_11 : decode cX11_plate 11 = .ok (.ifCond .ne 6, 3) := by decide +kernel
theorem dX11_plate_14 : decode cX11_plate 14 = .ok (.bipush (-2), 2) := by decide +kernel
theorem dX11_plate_16 : decode cX11_plate 16 = .ok (.ireturn, 1) := by decide +kernel
theorem dX11_plate_17 : decode cX11_plate 17 = .ok (.aload_n 0, 1) := by decide +kernel
theorem dX11_plate_18 : decode cX11_plate 18 = .ok (.getfield 101, 3) := by decide +kernel
theorem dX11_plate_21 : decode cX11_plate 21 = .ok (.bipush 8, 2) := by decide +kernel
theorem dX11_plate_23 : decode cX11_plate 23 = .ok (.if_icmp .lt 6, 3) := by decide +kernel
theorem dX11_plate_26 : decode cX11_plate 26 = .ok (.bipush (-4), 2) := by decide +kernel
theorem dX11_plate_28 : decode cX11_plate 28 = .ok (.ireturn, 1) := by decide +kernel
theorem dX11_plate_29 : decode cX11_plate 29 = .ok (.aload_n 0, 1) := by decide +kernel
theorem dX11_plate_30 : decode cX11_plate 30 = .ok (.getfield 9, 3) := by decide +kernel
theorem dX11_plate_33 : decode cX11_plate 33 = .ok (.aload_n 0, 1) := by decide +kernel
theorem dX11_plate_34 : decode cX11_plate 34 = .ok (.getfield 101, 3) := by decide +kernel
theorem dX11_plate_37 : decode cX11_plate 37 = .ok (.iload_n 1, 1) := by decide +kernel
theorem dX11_plate_38 : decode cX11_plate 38 = .ok (.iastore, 1) := by decide +kernel
theorem dX11_plate_39 : decode cX11_plate 39 = .ok (.aload_n 0, 1) := by decide +kernel
theorem dX11_plate_40 : decode cX11_plate 40 = .ok (.getfield 13, 3) := by decide +kernel
theorem dX11_plate_43 : decode cX11_plate 43 = .ok (.aload_n 0, 1) := by decide +kernel
theorem dX11_plate_44 : decode cX11_plate 44 = .ok (.getfield 101, 3) := by decide +kernel
theorem dX11_plate_47 : decode cX11_plate 47 = .ok (.iload_n 2, 1) := by decide +kernel
theorem dX11_plate_48 : decode cX11_plate 48 = .ok (.iastore, 1) := by decide +kernel
theorem dX11_plate_49 : decode cX11_plate 49 = .ok (.aload_n 0, 1) := by decide +kernel
theorem dX11_plate_50 : decode cX11_plate 50 = .ok (.dup, 1) := by decide +kernel
theorem dX11_plate_51 : decode cX11_plate 51 = .ok (.getfield 101, 3) := by decide +kernel
theorem dX11_plate_54 : decode cX11_plate 54 = .ok (.iconst 1, 1) := by decide +kernel
theorem dX11_plate_55 : decode cX11_plate 55 = .ok (.iadd, 1) := by decide +kernel
theorem dX11_plate_56 : decode cX11_plate 56 = .ok (.putfield 101, 3) := by decide +kernel
theorem dX11_plate_59 : decode cX11_plate 59 = .ok (.aload_n 0, 1) := by decide +kernel
theorem dX11_plate_60 : decode cX11_plate 60 = .ok (.getfield 101, 3) := by decide +kernel
theorem dX11_plate_63 : decode cX11_plate 63 = .ok (.iconst 1, 1) := by decide +kernel
theorem dX11_plate_64 : decode cX11_plate 64 = .ok (.isub, 1) := by decide +kernel
theorem dX11_plate_65 : decode cX11_plate 65 = .ok (.ireturn, 1) := by decide +kernel
theorem dX3_init_0 : decode cX3_init 0 = .ok (.aload_n 0, 1) := by decide +kernel
theorem dX3_init_1 : decode cX3_init 1 = .ok (.invokespecial 1, 3) := by decide +kernel
theorem dX3_init_4 : decode cX3_init 4 = .ok (.aload_n 0, 1) := by decide +kernel
theorem dX3_init_5 : decode cX3_init 5 = .ok (.iload_n 1, 1) := by decide +kernel
theorem dX3_init_6 : decode cX3_init 6 = .ok (.putfield 7, 3) := by decide +kernel
theorem dX3_init_9 : decode cX3_init 9 = .ok (.aload_n 0, 1) := by decide +kernel
theorem dX3_init_10 : decode cX3_init 10 = .ok (.iload_n 2, 1) := by decide +kernel
theorem dX3_init_11 : decode cX3_init 11 = .ok (.putfield 13, 3) := by decide +kernel
theorem dX3_init_14 : decode cX3_init 14 = .ok (.return_, 1) := by decide +kernel
theorem dX4_init_0 : decode cX4_init 0 = .ok (.aload_n 0, 1) := by decide +kernel
theorem dX4_init_1 : decode cX4_init 1 = .ok (.iload_n 1, 1) := by decide +kernel
theorem dX4_init_2 : decode cX4_init 2 = .ok (.iload_n 2, 1) := by decide +kernel
theorem dX4_init_3 : decode cX4_init 3 = .ok (.invokespecial 1, 3) := by decide +kernel
theorem dX4_init_6 : decode cX4_init 6 = .ok (.return_, 1) := by decide +kernel
theorem dX0_init_0 : decode cX0_init 0 = .ok (.aload_n 0, 1) := by decide +kernel
theorem dX0_init_1 : decode cX0_init 1 = .ok (.iload_n 1, 1) := by decide +kernel
theorem dX0_init_2 : decode cX0_init 2 = .ok (.iload_n 2, 1) := by decide +kernel
theorem dX0_init_3 : decode cX0_init 3 = .ok (.invokespecial 1, 3) := by decide +kernel
theorem dX0_init_6 : decode cX0_init 6 = .ok (.return_, 1) := by decide +kernel
theorem dX2_init_0 : decode cX2_init 0 = .ok (.aload_n 0, 1) := by decide +kernel
theorem dX2_init_1 : decode cX2_init 1 = .ok (.iload_n 1, 1) := by decide +kernel
theorem dX2_init_2 : decode cX2_init 2 = .ok (.iload_n 2, 1) := by decide +kernel
theorem dX2_init_3 : decode cX2_init 3 = .ok (.invokespecial 1, 3) := by decide +kernel
theorem dX2_init_6 : decode cX2_init 6 = .ok (.return_, 1) := by decide +kernel
theorem dX10_init_0 : decode cX10_init 0 = .ok (.aload_n 0, 1) := by decide +kernel
theorem dX10_init_1 : decode cX10_init 1 = .ok (.iload_n 1, 1) := by decide +kernel
theorem dX10_init_2 : decode cX10_init 2 = .ok (.iload_n 2, 1) := by decide +kernel
theorem dX10_init_3 : decode cX10_init 3 = .ok (.invokespecial 1, 3) := by decide +kernel
theorem dX10_init_6 : decode cX10_init 6 = .ok (.return_, 1) := by decide +kernel
theorem dX8_init_0 : decode cX8_init 0 = .ok (.aload_n 0, 1) := by decide +kernel
theorem dX8_init_1 : decode cX8_init 1 = .ok (.iload_n 1, 1) := by decide +kernel
theorem dX8_init_2 : decode cX8_init 2 = .ok (.iload_n 2, 1) := by decide +kernel
theorem dX8_init_3 : decode cX8_init 3 = .ok (.invokespecial 1, 3) := by decide +kernel
theorem dX8_init_6 : decode cX8_init 6 = .ok (.return_, 1) := by decide +kernel
theorem dX11_newLayer_0 : decode cX11_newLayer 0 = .ok (.iload_n 0, 1) := by decide +kernel
theorem dX11_newLayer_1 : decode cX11_newLayer 1 = .ok (.tableswitch 85 1 5 #[35, 45, 55, 65, 75], 35) := by decide +kernel
theorem dX11_newLayer_36 : decode cX11_newLayer 36 = .ok (.new 138, 3) := by decide +kernel
theorem dX11_newLayer_39 : decode cX11_newLayer 39 = .ok (.dup, 1) := by decide +kernel
theorem dX11_newLayer_40 : decode cX11_newLayer 40 = .ok (.iload_n 0, 1) := by decide +kernel
theorem dX11_newLayer_41 : decode cX11_newLayer 41 = .ok (.iload_n 1, 1) := by decide +kernel
theorem dX11_newLayer_42 : decode cX11_newLayer 42 = .ok (.invokespecial 140, 3) := by decide +kernel
theorem dX11_newLayer_45 : decode cX11_newLayer 45 = .ok (.areturn, 1) := by decide +kernel
theorem dX11_newLayer_46 : decode cX11_newLayer 46 = .ok (.new 143, 3) := by decide +kernel
theorem dX11_newLayer_49 : decode cX11_newLayer 49 = .ok (.dup, 1) := by decide +kernel
theorem dX11_newLayer_50 : decode cX11_newLayer 50 = .ok (.iload_n 0, 1) := by decide +kernel
theorem dX11_newLayer_51 : decode cX11_newLayer 51 = .ok (.iload_n 1, 1) := by decide +kernel
theorem dX11_newLayer_52 : decode cX11_newLayer 52 = .ok (.invokespecial 145, 3) := by decide +kernel
theorem dX11_newLayer_55 : decode cX11_newLayer 55 = .ok (.areturn, 1) := by decide +kernel
theorem dX11_newLayer_56 : decode cX11_newLayer 56 = .ok (.new 146, 3) := by decide +kernel
theorem dX11_newLayer_59 : decode cX11_newLayer 59 = .ok (.dup, 1) := by decide +kernel
theorem dX11_newLayer_60 : decode cX11_newLayer 60 = .ok (.iload_n 0, 1) := by decide +kernel
theorem dX11_newLayer_61 : decode cX11_newLayer 61 = .ok (.iload_n 1, 1) := by decide +kernel
theorem dX11_newLayer_62 : decode cX11_newLayer 62 = .ok (.invokespecial 148, 3) := by decide +kernel
theorem dX11_newLayer_65 : decode cX11_newLayer 65 = .ok (.areturn, 1) := by decide +kernel
theorem dX11_newLayer_66 : decode cX11_newLayer 66 = .ok (.new 149, 3) := by decide +kernel
theorem dX11_newLayer_69 : decode cX11_newLayer 69 = .ok (.dup, 1) := by decide +kernel
theorem dX11_newLayer_70 : decode cX11_newLayer 70 = .ok (.iload_n 0, 1) := by decide +kernel
theorem dX11_newLayer_71 : decode cX11_newLayer 71 = .ok (.iload_n 1, 1) := by decide +kernel
theorem dX11_newLayer_72 : decode cX11_newLayer 72 = .ok (.invokespecial 151, 3) := by decide +kernel
theorem dX11_newLayer_75 : decode cX11_newLayer 75 = .ok (.areturn, 1) := by decide +kernel
theorem dX11_newLayer_76 : decode cX11_newLayer 76 = .ok (.new 152, 3) := by decide +kernel
theorem dX11_newLayer_79 : decode cX11_newLayer 79 = .ok (.dup, 1) := by decide +kernel
theorem dX11_newLayer_80 : decode cX11_newLayer 80 = .ok (.iload_n 0, 1) := by decide +kernel
theorem dX11_newLayer_81 : decode cX11_newLayer 81 = .ok (.iload_n 1, 1) := by decide +kernel
theorem dX11_newLayer_82 : decode cX11_newLayer 82 = .ok (.invokespecial 154, 3) := by decide +kernel
theorem dX11_newLayer_85 : decode cX11_newLayer 85 = .ok (.areturn, 1) := by decide +kernel
theorem dX11_newLayer_86 : decode cX11_newLayer 86 = .ok (.new 16, 3) := by decide +kernel
theorem dX11_newLayer_89 : decode cX11_newLayer 89 = .ok (.dup, 1) := by decide +kernel
theorem dX11_newLayer_90 : decode cX11_newLayer 90 = .ok (.iload_n 0, 1) := by decide +kernel
theorem dX11_newLayer_91 : decode cX11_newLayer 91 = .ok (.iload_n 1, 1) := by decide +kernel
theorem dX11_newLayer_92 : decode cX11_newLayer 92 = .ok (.invokespecial 155, 3) := by decide +kernel
theorem dX11_newLayer_95 : decode cX11_newLayer 95 = .ok (.areturn, 1) := by decide +kernel
theorem dX11_layer_0 : decode cX11_layer 0 = .ok (.iload_n 1, 1) := by decide +kernel
theorem dX11_layer_1 : decode cX11_layer 1 = .ok (.ifCond .lt 18, 3) := by decide +kernel
theorem dX11_layer_4 : decode cX11_layer 4 = .ok (.iload_n 1, 1) := by decide +kernel
theorem dX11_layer_5 : decode cX11_layer 5 = .ok (.iconst 5, 1) := by decide +kernel
theorem dX11_layer_6 : decode cX11_layer 6 = .ok (.if_icmp .gt 13, 3) := by decide +kernel
theorem dX11_layer_9 : decode cX11_layer 9 = .ok (.iload_n 2, 1) := by decide +kernel
theorem dX11_layer_10 : decode cX11_layer 10 = .ok (.ifCond .lt 9, 3) := by decide +kernel
theorem dX11_layer_13 : decode cX11_layer 13 = .ok (.iload_n 2, 1) := by decide +kernel
theorem dX11_layer_14 : decode cX11_layer 14 = .ok (.bipush 9, 2) := by decide +kernel
theorem dX11_layer_16 : decode cX11_layer 16 = .ok (.if_icmp .le 6, 3) := by decide +kernel
theorem dX11_layer_19 : decode cX11_layer 19 = .ok (.bipush (-2), 2) := by decide +kernel
theorem dX11_layer_21 : decode cX11_layer 21 = .ok (.ireturn, 1) := by decide +kernel
theorem dX11_layer_22 : decode cX11_layer 22 = .ok (.aload_n 0, 1) := by decide +kernel
theorem dX11_layer_23 : decode cX11_layer 23 = .ok (.getfield 104, 3) := by decide +kernel
theorem dX11_layer_26 : decode cX11_layer 26 = .ok (.iconst 5, 1) := by decide +kernel
theorem dX11_layer_27 : decode cX11_layer 27 = .ok (.if_icmp .lt 6, 3) := by decide +kernel
theorem dX11_layer_30 : decode cX11_layer 30 = .ok (.bipush (-4), 2) := by decide +kernel
theorem dX11_layer_32 : decode cX11_layer 32 = .ok (.ireturn, 1) := by decide +kernel
theorem dX11_layer_33 : decode cX11_layer 33 = .ok (.aload_n 0, 1) := by decide +kernel
theorem dX11_layer_34 : decode cX11_layer 34 = .ok (.getfield 18, 3) := by decide +kernel
theorem dX11_layer_37 : decode cX11_layer 37 = .ok (.aload_n 0, 1) := by decide +kernel
theorem dX11_layer_38 : decode cX11_layer 38 = .ok (.getfield 104, 3) := by decide +kernel
theorem dX11_layer_41 : decode cX11_layer 41 = .ok (.iload_n 1, 1) := by decide +kernel
theorem dX11_layer_42 : decode cX11_layer 42 = .ok (.iload_n 2, 1) := by decide +kernel
theorem dX11_layer_43 : decode cX11_layer 43 = .ok (.invokestatic 107, 3) := by decide +kernel
theorem dX11_layer_46 : decode cX11_layer 46 = .ok (.aastore, 1) := by decide +kernel
theorem dX11_layer_47 : decode cX11_layer 47 = .ok (.aload_n 0, 1) := by decide +kernel
theorem dX11_layer_48 : decode cX11_layer 48 = .ok (.dup, 1) := by decide +kernel
theorem dX11_layer_49 : decode cX11_layer 49 = .ok (.getfield 104, 3) := by decide +kernel
theorem dX11_layer_52 : decode cX11_layer 52 = .ok (.iconst 1, 1) := by decide +kernel
theorem dX11_layer_53 : decode cX11_layer 53 = .ok (.iadd, 1) := by decide +kernel
theorem dX11_layer_54 : decode cX11_layer 54 = .ok (.putfield 104, 3) := by decide +kernel
theorem dX11_layer_57 : decode cX11_layer 57 = .ok (.aload_n 0, 1) := by decide +kernel
theorem dX11_layer_58 : decode cX11_layer 58 = .ok (.getfield 104, 3) := by decide +kernel
theorem dX11_layer_61 : decode cX11_layer 61 = .ok (.iconst 1, 1) := by decide +kernel
theorem dX11_layer_62 : decode cX11_layer 62 = .ok (.isub, 1) := by decide +kernel
theorem dX11_layer_63 : decode cX11_layer 63 = .ok (.ireturn, 1) := by decide +kernel
theorem dX11_isPlate_0 : decode cX11_isPlate 0 = .ok (.iload_n 1, 1) := by decide +kernel
theorem dX11_isPlate_1 : decode cX11_isPlate 1 = .ok (.ifCond .lt 15, 3) := by decide +kernel
theorem dX11_isPlate_4 : decode cX11_isPlate 4 = .ok (.iload_n 1, 1) := by decide +kernel
theorem dX11_isPlate_5 : decode cX11_isPlate 5 = .ok (.aload_n 0, 1) := by decide +kernel
theorem dX11_isPlate_6 : decode cX11_isPlate 6 = .ok (.getfield 101, 3) := by decide +kernel
theorem dX11_isPlate_9 : decode cX11_isPlate 9 = .ok (.if_icmp .ge 7, 3) := by decide +kernel
theorem dX11_isPlate_12 : decode cX11_isPlate 12 = .ok (.iconst 1, 1) := by decide +kernel
theorem dX11_isPlate_13 : decode cX11_isPlate 13 = .ok (.goto 4, 3) := by decide +kernel
theorem dX11_isPlate_16 : decode cX11_isPlate 16 = .ok (.iconst 0, 1) := by decide +kernel
theorem dX11_isPlate_17 : decode cX11_isPlate 17 = .ok (.ireturn, 1) := by decide +kernel
theorem dX11_setHighest_0 : decode cX11_setHighest 0 = .ok (.iload_n 1, 1) := by decide +kernel
theorem dX11_setHighest_1 : decode cX11_setHighest 1 = .ok (.iconst 1, 1) := by decide +kernel
theorem dX11_setHighest_2 : decode cX11_setHighest 2 = .ok (.if_icmp .lt 9, 3) := by decide +kernel
theorem dX11_setHighest_5 : decode cX11_setHighest 5 = .ok (.iload_n 1, 1) := by decide +kernel
theorem dX11_setHighest_6 : decode cX11_setHighest 6 = .ok (.bipush 9, 2) := by decide +kernel
theorem dX11_setHighest_8 : decode cX11_setHighest 8 = .ok (.if_icmp .le 6, 3) := by decide +kernel
theorem dX11_setHighest_11 : decode cX11_setHighest 11 = .ok (.bipush (-2), 2) := by decide +kernel
theorem dX11_setHighest_13 : decode cX11_setHighest 13 = .ok (.ireturn, 1) := by decide +kernel
theorem dX11_setHighest_14 : decode cX11_setHighest 14 = .ok (.aload_n 0, 1) := by decide +kernel
theorem dX11_setHighest_15 : decode cX11_setHighest 15 = .ok (.getfield 38, 3) := by decide +kernel
theorem dX11_setHighest_18 : decode cX11_setHighest 18 = .ok (.getfield 118, 3) := by decide +kernel
theorem dX11_setHighest_21 : decode cX11_setHighest 21 = .ok (.istore_n 2, 1) := by decide +kernel
theorem dX11_setHighest_22 : decode cX11_setHighest 22 = .ok (.aload_n 0, 1) := by decide +kernel
theorem dX11_setHighest_23 : decode cX11_setHighest 23 = .ok (.getfield 38, 3) := by decide +kernel
theorem dX11_setHighest_26 : decode cX11_setHighest 26 = .ok (.iload_n 1, 1) := by decide +kernel
theorem dX11_setHighest_27 : decode cX11_setHighest 27 = .ok (.putfield 118, 3) := by decide +kernel
theorem dX11_setHighest_30 : decode cX11_setHighest 30 = .ok (.iload_n 2, 1) := by decide +kernel
theorem dX11_setHighest_31 : decode cX11_setHighest 31 = .ok (.ireturn, 1) := by decide +kernel
theorem dX11_set_0 : decode cX11_set 0 = .ok (.iload_n 1, 1) := by decide +kernel
theorem dX11_set_1 : decode cX11_set 1 = .ok (.iconst 2, 1) := by decide +kernel
theorem dX11_set_2 : decode cX11_set 2 = .ok (.if_icmp .ne 9, 3) := by decide +kernel
theorem dX11_set_5 : decode cX11_set 5 = .ok (.aload_n 0, 1) := by decide +kernel
theorem dX11_set_6 : decode cX11_set 6 = .ok (.iload_n 3, 1) := by decide +kernel
theorem dX11_set_7 : decode cX11_set 7 = .ok (.invokevirtual 111, 3) := by decide +kernel
theorem dX11_set_10 : decode cX11_set 10 = .ok (.ireturn, 1) := by decide +kernel
theorem dX11_set_11 : decode cX11_set 11 = .ok (.iload_n 1, 1) := by decide +kernel
theorem dX11_set_12 : decode cX11_set 12 = .ok (.ifCond .lt 23, 3) := by decide +kernel
theorem dX11_set_15 : decode cX11_set 15 = .ok (.iload_n 1, 1) := by decide +kernel
theorem dX11_set_16 : decode cX11_set 16 = .ok (.iconst 1, 1) := by decide +kernel
theorem dX11_set_17 : decode cX11_set 17 = .ok (.if_icmp .gt 18, 3) := by decide +kernel
theorem dX11_set_20 : decode cX11_set 20 = .ok (.aload_n 0, 1) := by decide +kernel
theorem dX11_set_21 : decode cX11_set 21 = .ok (.iload_n 2, 1) := by decide +kernel
theorem dX11_set_22 : decode cX11_set 22 = .ok (.invokevirtual 115, 3) := by decide +kernel
theorem dX11_set_25 : decode cX11_set 25 = .ok (.ifCond .eq 10, 3) := by decide +kernel
theorem dX11_set_28 : decode cX11_set 28 = .ok (.iload_n 3, 1) := by decide +kernel
theorem dX11_set_29 : decode cX11_set 29 = .ok (.invokestatic 98, 3) := by decide +kernel
theorem dX11_set_32 : decode cX11_set 32 = .ok (.ifCond .ne 6, 3) := by decide +kernel
theorem dX11_set_35 : decode cX11_set 35 = .ok (.bipush (-2), 2) := by decide +kernel
theorem dX11_set_37 : decode cX11_set 37 = .ok (.ireturn, 1) := by decide +kernel
theorem dX11_set_38 : decode cX11_set 38 = .ok (.iload_n 1, 1) := by decide +kernel
theorem dX11_set_39 : decode cX11_set 39 = .ok (.ifCond .ne 10, 3) := by decide +kernel
theorem dX11_set_42 : decode cX11_set 42 = .ok (.aload_n 0, 1) := by decide +kernel
theorem dX11_set_43 : decode cX11_set 43 = .ok (.getfield 9, 3) := by decide +kernel
theorem dX11_set_46 : decode cX11_set 46 = .ok (.goto 7, 3) := by decide +kernel
theorem dX11_set_49 : decode cX11_set 49 = .ok (.aload_n 0, 1) := by decide +kernel
theorem dX11_set_50 : decode cX11_set 50 = .ok (.getfield 13, 3) := by decide +kernel
theorem dX11_set_53 : decode cX11_set 53 = .ok (.astore 4, 2) := by decide +kernel
theorem dX11_set_55 : decode cX11_set 55 = .ok (.aload 4, 2) := by decide +kernel
theorem dX11_set_57 : decode cX11_set 57 = .ok (.iload_n 2, 1) := by decide +kernel
theorem dX11_set_58 : decode cX11_set 58 = .ok (.iaload, 1) := by decide +kernel
theorem dX11_set_59 : decode cX11_set 59 = .ok (.istore 5, 2) := by decide +kernel
theorem dX11_set_61 : decode cX11_set 61 = .ok (.aload 4, 2) := by decide +kernel
theorem dX11_set_63 : decode cX11_set 63 = .ok (.iload_n 2, 1) := by decide +kernel
theorem dX11_set_64 : decode cX11_set 64 = .ok (.iload_n 3, 1) := by decide +kernel
theorem dX11_set_65 : decode cX11_set 65 = .ok (.iastore, 1) := by decide +kernel
theorem dX11_set_66 : decode cX11_set 66 = .ok (.iload 5, 2) := by decide +kernel
theorem dX11_set_68 : decode cX11_set 68 = .ok (.ireturn, 1) := by decide +kernel
theorem dX6_about_0 : decode cX6_about 0 = .ok (.aload_n 0, 1) := by decide +kernel
theorem dX6_about_1 : decode cX6_about 1 = .ok (.getfield 9, 3) := by decide +kernel
theorem dX6_about_4 : decode cX6_about 4 = .ok (.iconst 0, 1) := by decide +kernel
theorem dX6_about_5 : decode cX6_about 5 = .ok (.iload_n 1, 1) := by decide +kernel
theorem dX6_about_6 : decode cX6_about 6 = .ok (.iastore, 1) := by decide +kernel
theorem dX6_about_7 : decode cX6_about 7 = .ok (.aload_n 0, 1) := by decide +kernel
theorem dX6_about_8 : decode cX6_about 8 = .ok (.getfield 9, 3) := by decide +kernel
theorem dX6_about_11 : decode cX6_about 11 = .ok (.iconst 1, 1) := by decide +kernel
theorem dX6_about_12 : decode cX6_about 12 = .ok (.iload_n 2, 1) := by decide +kernel
theorem dX6_about_13 : decode cX6_about 13 = .ok (.iastore, 1) := by decide +kernel
theorem dX6_about_14 : decode cX6_about 14 = .ok (.aload_n 0, 1) := by decide +kernel
theorem dX6_about_15 : decode cX6_about 15 = .ok (.getfield 9, 3) := by decide +kernel
theorem dX6_about_18 : decode cX6_about 18 = .ok (.iconst 2, 1) := by decide +kernel
theorem dX6_about_19 : decode cX6_about 19 = .ok (.iload_n 3, 1) := by decide +kernel
theorem dX6_about_20 : decode cX6_about 20 = .ok (.iastore, 1) := by decide +kernel
theorem dX6_about_21 : decode cX6_about 21 = .ok (.aload_n 0, 1) := by decide +kernel
theorem dX6_about_22 : decode cX6_about 22 = .ok (.getfield 9, 3) := by decide +kernel
theorem dX6_about_25 : decode cX6_about 25 = .ok (.iconst 3, 1) := by decide +kernel
theorem dX6_about_26 : decode cX6_about 26 = .ok (.iload 4, 2) := by decide +kernel
theorem dX6_about_28 : decode cX6_about 28 = .ok (.iastore, 1) := by decide +kernel
theorem dX6_about_29 : decode cX6_about 29 = .ok (.aload_n 0, 1) := by decide +kernel
theorem dX6_about_30 : decode cX6_about 30 = .ok (.getfield 9, 3) := by decide +kernel
theorem dX6_about_33 : decode cX6_about 33 = .ok (.iconst 4, 1) := by decide +kernel
theorem dX6_about_34 : decode cX6_about 34 = .ok (.iload 5, 2) := by decide +kernel
theorem dX6_about_36 : decode cX6_about 36 = .ok (.iastore, 1) := by decide +kernel
theorem dX6_about_37 : decode cX6_about 37 = .ok (.aload_n 0, 1) := by decide +kernel
theorem dX6_about_38 : decode cX6_about 38 = .ok (.getfield 9, 3) := by decide +kernel
theorem dX6_about_41 : decode cX6_about 41 = .ok (.iconst 5, 1) := by decide +kernel
theorem dX6_about_42 : decode cX6_about 42 = .ok (.iload 6, 2) := by decide +kernel
theorem dX6_about_44 : decode cX6_about 44 = .ok (.iastore, 1) := by decide +kernel
theorem dX6_about_45 : decode cX6_about 45 = .ok (.return_, 1) := by decide +kernel
theorem dX6_joined_0 : decode cX6_joined 0 = .ok (.iload_n 0, 1) := by decide +kernel
theorem dX6_joined_1 : decode cX6_joined 1 = .ok (.tableswitch 105 (-17) (-11) #[101, 97, 93, 82, 71, 57, 43], 43) := by decide +kernel
theorem dX6_joined_44 : decode cX6_joined 44 = .ok (.iload_n 1, 1) := by decide +kernel
theorem dX6_joined_45 : decode cX6_joined 45 = .ok (.ifCond .ne 7, 3) := by decide +kernel
theorem dX6_joined_48 : decode cX6_joined 48 = .ok (.iload_n 2, 1) := by decide +kernel
theorem dX6_joined_49 : decode cX6_joined 49 = .ok (.ifCond .eq 7, 3) := by decide +kernel
theorem dX6_joined_52 : decode cX6_joined 52 = .ok (.iconst 1, 1) := by decide +kernel
theorem dX6_joined_53 : decode cX6_joined 53 = .ok (.goto 4, 3) := by decide +kernel
theorem dX6_joined_56 : decode cX6_joined 56 = .ok (.iconst 0, 1) := by decide +kernel
theorem dX6_joined_57 : decode cX6_joined 57 = .ok (.ireturn, 1) := by decide +kernel
theorem dX6_joined_58 : decode cX6_joined 58 = .ok (.iload_n 1, 1) := by decide +kernel
theorem dX6_joined_59 : decode cX6_joined 59 = .ok (.ifCond .eq 11, 3) := by decide +kernel
theorem dX6_joined_62 : decode cX6_joined 62 = .ok (.iload_n 2, 1) := by decide +kernel
theorem dX6_joined_63 : decode cX6_joined 63 = .ok (.ifCond .eq 7, 3) := by decide +kernel
theorem dX6_joined_66 : decode cX6_joined 66 = .ok (.iconst 1, 1) := by decide +kernel
theorem dX6_joined_67 : decode cX6_joined 67 = .ok (.goto 4, 3) := by decide +kernel
theorem dX6_joined_70 : decode cX6_joined 70 = .ok (.iconst 0, 1) := by decide +kernel
theorem dX6_joined_71 : decode cX6_joined 71 = .ok (.ireturn, 1) := by decide +kernel
theorem dX6_joined_72 : decode cX6_joined 72 = .ok (.iload_n 1, 1) := by decide +kernel
theorem dX6_joined_73 : decode cX6_joined 73 = .ok (.iload_n 2, 1) := by decide +kernel
theorem dX6_joined_74 : decode cX6_joined 74 = .ok (.if_icmp .ge 7, 3) := by decide +kernel
theorem dX6_joined_77 : decode cX6_joined 77 = .ok (.iconst 1, 1) := by decide +kernel
theorem dX6_joined_78 : decode cX6_joined 78 = .ok (.goto 4, 3) := by decide +kernel
theorem dX6_joined_81 : decode cX6_joined 81 = .ok (.iconst 0, 1) := by decide +kernel
theorem dX6_joined_82 : decode cX6_joined 82 = .ok (.ireturn, 1) := by decide +kernel
theorem dX6_joined_83 : decode cX6_joined 83 = .ok (.iload_n 1, 1) := by decide +kernel
theorem dX6_joined_84 : decode cX6_joined 84 = .ok (.iload_n 2, 1) := by decide +kernel
theorem dX6_joined_85 : decode cX6_joined 85 = .ok (.if_icmp .ne 7, 3) := by decide +kernel
theorem dX6_joined_88 : decode cX6_joined 88 = .ok (.iconst 1, 1) := by decide +kernel
theorem dX6_joined_89 : decode cX6_joined 89 = .ok (.goto 4, 3) := by decide +kernel
theorem dX6_joined_92 : decode cX6_joined 92 = .ok (.iconst 0, 1) := by decide +kernel
theorem dX6_joined_93 : decode cX6_joined 93 = .ok (.ireturn, 1) := by decide +kernel
theorem dX6_joined_94 : decode cX6_joined 94 = .ok (.iload_n 1, 1) := by decide +kernel
theorem dX6_joined_95 : decode cX6_joined 95 = .ok (.iload_n 2, 1) := by decide +kernel
theorem dX6_joined_96 : decode cX6_joined 96 = .ok (.iadd, 1) := by decide +kernel
theorem dX6_joined_97 : decode cX6_joined 97 = .ok (.ireturn, 1) := by decide +kernel
theorem dX6_joined_98 : decode cX6_joined 98 = .ok (.iload_n 1, 1) := by decide +kernel
theorem dX6_joined_99 : decode cX6_joined 99 = .ok (.iload_n 2, 1) := by decide +kernel
theorem dX6_joined_100 : decode cX6_joined 100 = .ok (.isub, 1) := by decide +kernel
theorem dX6_joined_101 : decode cX6_joined 101 = .ok (.ireturn, 1) := by decide +kernel
theorem dX6_joined_102 : decode cX6_joined 102 = .ok (.iload_n 1, 1) := by decide +kernel
theorem dX6_joined_103 : decode cX6_joined 103 = .ok (.iload_n 2, 1) := by decide +kernel
theorem dX6_joined_104 : decode cX6_joined 104 = .ok (.imul, 1) := by decide +kernel
theorem dX6_joined_105 : decode cX6_joined 105 = .ok (.ireturn, 1) := by decide +kernel
theorem dX6_joined_106 : decode cX6_joined 106 = .ok (.iconst 0, 1) := by decide +kernel
theorem dX6_joined_107 : decode cX6_joined 107 = .ok (.ireturn, 1) := by decide +kernel
theorem dX6_value_0 : decode cX6_value 0 = .ok (.iload_n 1, 1) := by decide +kernel
theorem dX6_value_1 : decode cX6_value 1 = .ok (.ifCond .ne 7, 3) := by decide +kernel
theorem dX6_value_4 : decode cX6_value 4 = .ok (.iconst 0, 1) := by decide +kernel
theorem dX6_value_5 : decode cX6_value 5 = .ok (.goto 19, 3) := by decide +kernel
theorem dX6_value_8 : decode cX6_value 8 = .ok (.iload_n 1, 1) := by decide +kernel
theorem dX6_value_9 : decode cX6_value 9 = .ok (.iconst 1, 1) := by decide +kernel
theorem dX6_value_10 : decode cX6_value 10 = .ok (.if_icmp .ne 10, 3) := by decide +kernel
theorem dX6_value_13 : decode cX6_value 13 = .ok (.aload_n 0, 1) := by decide +kernel
theorem dX6_value_14 : decode cX6_value 14 = .ok (.getfield 21, 3) := by decide +kernel
theorem dX6_value_17 : decode cX6_value 17 = .ok (.goto 7, 3) := by decide +kernel
theorem dX6_value_20 : decode cX6_value 20 = .ok (.aload_n 0, 1) := by decide +kernel
theorem dX6_value_21 : decode cX6_value 21 = .ok (.getfield 25, 3) := by decide +kernel
theorem dX6_value_24 : decode cX6_value 24 = .ok (.istore_n 2, 1) := by decide +kernel
theorem dX6_value_25 : decode cX6_value 25 = .ok (.iload_n 1, 1) := by decide +kernel
theorem dX6_value_26 : decode cX6_value 26 = .ok (.ifCond .ne 10, 3) := by decide +kernel
theorem dX6_value_29 : decode cX6_value 29 = .ok (.aload_n 0, 1) := by decide +kernel
theorem dX6_value_30 : decode cX6_value 30 = .ok (.getfield 21, 3) := by decide +kernel
theorem dX6_value_33 : decode cX6_value 33 = .ok (.goto 20, 3) := by decide +kernel
theorem dX6_value_36 : decode cX6_value 36 = .ok (.iload_n 1, 1) := by decide +kernel
theorem dX6_value_37 : decode cX6_value 37 = .ok (.iconst 1, 1) := by decide +kernel
theorem dX6_value_38 : decode cX6_value 38 = .ok (.if_icmp .ne 10, 3) := by decide +kernel
theorem dX6_value_41 : decode cX6_value 41 = .ok (.aload_n 0, 1) := by decide +kernel
theorem dX6_value_42 : decode cX6_value 42 = .ok (.getfield 25, 3) := by decide +kernel
theorem dX6_value_45 : decode cX6_value 45 = .ok (.goto 8, 3) := by decide +kernel
theorem dX6_value_48 : decode cX6_value 48 = .ok (.aload_n 0, 1) := by decide +kernel
theorem dX6_value_49 : decode cX6_value 49 = .ok (.getfield 18, 3) := by decide +kernel
theorem dX6_value_52 : decode cX6_value 52 = .ok (.arraylength, 1) := by decide +kernel
theorem dX6_value_53 : decode cX6_value 53 = .ok (.istore_n 3, 1) := by decide +kernel
theorem dX6_value_54 : decode cX6_value 54 = .ok (.iconst 0, 1) := by decide +kernel
theorem dX6_value_55 : decode cX6_value 55 = .ok (.istore 4, 2) := by decide +kernel
theorem dX6_value_57 : decode cX6_value 57 = .ok (.iconst 0, 1) := by decide +kernel
theorem dX6_value_58 : decode cX6_value 58 = .ok (.iload_n 2, 1) := by decide +kernel
theorem dX6_value_59 : decode cX6_value 59 = .ok (.invokestatic 28, 3) := by decide +kernel
theorem dX6_value_62 : decode cX6_value 62 = .ok (.istore 5, 2) := by decide +kernel
theorem dX6_value_64 : decode cX6_value 64 = .ok (.iload 5, 2) := by decide +kernel
theorem dX6_value_66 : decode cX6_value 66 = .ok (.iload_n 3, 1) := by decide +kernel
theorem dX6_value_67 : decode cX6_value 67 = .ok (.if_icmp .ge 178, 3) := by decide +kernel
theorem dX6_value_70 : decode cX6_value 70 = .ok (.iload 5, 2) := by decide +kernel
theorem dX6_value_72 : decode cX6_value 72 = .ok (.aload_n 0, 1) := by decide +kernel
theorem dX6_value_73 : decode cX6_value 73 = .ok (.getfield 18, 3) := by decide +kernel
theorem dX6_value_76 : decode cX6_value 76 = .ok (.arraylength, 1) := by decide +kernel
theorem dX6_value_77 : decode cX6_value 77 = .ok (.if_icmp .ge 168, 3) := by decide +kernel
theorem dX6_value_80 : decode cX6_value 80 = .ok (.aload_n 0, 1) := by decide +kernel
theorem dX6_value_81 : decode cX6_value 81 = .ok (.getfield 18, 3) := by decide +kernel
theorem dX6_value_84 : decode cX6_value 84 = .ok (.iload 5, 2) := by decide +kernel
theorem dX6_value_86 : decode cX6_value 86 = .ok (.iaload, 1) := by decide +kernel
theorem dX6_value_87 : decode cX6_value 87 = .ok (.istore 6, 2) := by decide +kernel
theorem dX6_value_89 : decode cX6_value 89 = .ok (.iload 6, 2) := by decide +kernel
theorem dX6_value_91 : decode cX6_value 91 = .ok (.bipush (-6), 2) := by decide +kernel
theorem dX6_value_93 : decode cX6_value 93 = .ok (.if_icmp .lt 44, 3) := by decide +kernel
theorem dX6_value_96 : decode cX6_value 96 = .ok (.iload 4, 2) := by decide +kernel
theorem dX6_value_98 : decode cX6_value 98 = .ok (.bipush 40, 2) := by decide +kernel
theorem dX6_value_100 : decode cX6_value 100 = .ok (.if_icmp .lt 5, 3) := by decide +kernel
theorem dX6_value_103 : decode cX6_value 103 = .ok (.iconst 0, 1) := by decide +kernel
theorem dX6_value_104 : decode cX6_value 104 = .ok (.ireturn, 1) := by decide +kernel
theorem dX6_value_105 : decode cX6_value 105 = .ok (.aload_n 0, 1) := by decide +kernel
theorem dX6_value_106 : decode cX6_value 106 = .ok (.getfield 15, 3) := by decide +kernel
theorem dX6_value_109 : decode cX6_value 109 = .ok (.iload 4, 2) := by decide +kernel
theorem dX6_value_111 : decode cX6_value 111 = .ok (.iload 6, 2) := by decide +kernel
theorem dX6_value_113 : decode cX6_value 113 = .ok (.ifCond .lt 8, 3) := by decide +kernel
theorem dX6_value_116 : decode cX6_value 116 = .ok (.iload 6, 2) := by decide +kernel
theorem dX6_value_118 : decode cX6_value 118 = .ok (.goto 12, 3) := by decide +kernel
theorem dX6_value_121 : decode cX6_value 121 = .ok (.aload_n 0, 1) := by decide +kernel
theorem dX6_value_122 : decode cX6_value 122 = .ok (.getfield 9, 3) := by decide +kernel
theorem dX6_value_125 : decode cX6_value 125 = .ok (.iconst (-1), 1) := by decide +kernel
theorem dX6_value_126 : decode cX6_value 126 = .ok (.iload 6, 2) := by decide +kernel
theorem dX6_value_128 : decode cX6_value 128 = .ok (.isub, 1) := by decide +kernel
theorem dX6_value_129 : decode cX6_value 129 = .ok (.iaload, 1) := by decide +kernel
theorem dX6_value_130 : decode cX6_value 130 = .ok (.iastore, 1) := by decide +kernel
theorem dX6_value_131 : decode cX6_value 131 = .ok (.iinc 4 1, 3) := by decide +kernel
theorem dX6_value_134 : decode cX6_value 134 = .ok (.goto 105, 3) := by decide +kernel
theorem dX6_value_137 : decode cX6_value 137 = .ok (.iload 6, 2) := by decide +kernel
theorem dX6_value_139 : decode cX6_value 139 = .ok (.bipush (-21), 2) := by decide +kernel
theorem dX6_value_141 : decode cX6_value 141 = .ok (.if_icmp .gt 57, 3) := by decide +kernel
theorem dX6_value_144 : decode cX6_value 144 = .ok (.iload 4, 2) := by decide +kernel
theorem dX6_value_146 : decode cX6_value 146 = .ok (.iconst 1, 1) := by decide +kernel
theorem dX6_value_147 : decode cX6_value 147 = .ok (.if_icmp .ge 5, 3) := by decide +kernel
theorem dX6_value_150 : decode cX6_value 150 = .ok (.iconst 0, 1) := by decide +kernel
theorem dX6_value_151 : decode cX6_value 151 = .ok (.ireturn, 1) := by decide +kernel
theorem dX6_value_152 : decode cX6_value 152 = .ok (.aload_n 0, 1) := by decide +kernel
theorem dX6_value_153 : decode cX6_value 153 = .ok (.getfield 15, 3) := by decide +kernel
theorem dX6_value_156 : decode cX6_value 156 = .ok (.iload 4, 2) := by decide +kernel
theorem dX6_value_158 : decode cX6_value 158 = .ok (.iconst 1, 1) := by decide +kernel
theorem dX6_value_159 : decode cX6_value 159 = .ok (.isub, 1) := by decide +kernel
theorem dX6_value_160 : decode cX6_value 160 = .ok (.iaload, 1) := by decide +kernel
theorem dX6_value_161 : decode cX6_value 161 = .ok (.istore 7, 2) := by decide +kernel
theorem dX6_value_163 : decode cX6_value 163 = .ok (.aload_n 0, 1) := by decide +kernel
theorem dX6_value_164 : decode cX6_value 164 = .ok (.getfield 15, 3) := by decide +kernel
theorem dX6_value_167 : decode cX6_value 167 = .ok (.iload 4, 2) := by decide +kernel
theorem dX6_value_169 : decode cX6_value 169 = .ok (.iconst 1, 1) := by decide +kernel
theorem dX6_value_170 : decode cX6_value 170 = .ok (.isub, 1) := by decide +kernel
theorem dX6_value_171 : decode cX6_value 171 = .ok (.iload 6, 2) := by decide +kernel
theorem dX6_value_173 : decode cX6_value 173 = .ok (.bipush (-22), 2) := by decide +kernel
theorem dX6_value_175 : decode cX6_value 175 = .ok (.if_icmp .ne 9, 3) := by decide +kernel
theorem dX6_value_178 : decode cX6_value 178 = .ok (.iload 7, 2) := by decide +kernel
theorem dX6_value_180 : decode cX6_value 180 = .ok (.ineg, 1) := by decide +kernel
theorem dX6_value_181 : decode cX6_value 181 = .ok (.goto 13, 3) := by decide +kernel
theorem dX6_value_184 : decode cX6_value 184 = .ok (.iload 7, 2) := by decide +kernel
theorem dX6_value_186 : decode cX6_value 186 = .ok (.ifCond .ne 7, 3) := by decide +kernel
theorem dX6_value_189 : decode cX6_value 189 = .ok (.iconst 1, 1) := by decide +kernel
theorem dX6_value_190 : decode cX6_value 190 = .ok (.goto 4, 3) := by decide +kernel
theorem dX6_value_193 : decode cX6_value 193 = .ok (.iconst 0, 1) := by decide +kernel
theorem dX6_value_194 : decode cX6_value 194 = .ok (.iastore, 1) := by decide +kernel
theorem dX6_value_195 : decode cX6_value 195 = .ok (.goto 44, 3) := by decide +kernel
theorem dX6_value_198 : decode cX6_value 198 = .ok (.iload 4, 2) := by decide +kernel
theorem dX6_value_200 : decode cX6_value 200 = .ok (.iconst 2, 1) := by decide +kernel
theorem dX6_value_201 : decode cX6_value 201 = .ok (.if_icmp .ge 5, 3) := by decide +kernel
theorem dX6_value_204 : decode cX6_value 204 = .ok (.iconst 0, 1) := by decide +kernel
theorem dX6_value_205 : decode cX6_value 205 = .ok (.ireturn, 1) := by decide +kernel
theorem dX6_value_206 : decode cX6_value 206 = .ok (.iinc 4 (-1), 3) := by decide +kernel
theorem dX6_value_209 : decode cX6_value 209 = .ok (.aload_n 0, 1) := by decide +kernel
theorem dX6_value_210 : decode cX6_value 210 = .ok (.getfield 15, 3) := by decide +kernel
theorem dX6_value_213 : decode cX6_value 213 = .ok (.iload 4, 2) := by decide +kernel
theorem dX6_value_215 : decode cX6_value 215 = .ok (.iconst 1, 1) := by decide +kernel
theorem dX6_value_216 : decode cX6_value 216 = .ok (.isub, 1) := by decide +kernel
theorem dX6_value_217 : decode cX6_value 217 = .ok (.iload 6, 2) := by decide +kernel
theorem dX6_value_219 : decode cX6_value 219 = .ok (.aload_n 0, 1) := by decide +kernel
theorem dX6_value_220 : decode cX6_value 220 = .ok (.getfield 15, 3) := by decide +kernel
theorem dX6_value_223 : decode cX6_value 223 = .ok (.iload 4, 2) := by decide +kernel
theorem dX6_value_225 : decode cX6_value 225 = .ok (.iconst 1, 1) := by decide +kernel
theorem dX6_value_226 : decode cX6_value 226 = .ok (.isub, 1) := by decide +kernel
theorem dX6_value_227 : decode cX6_value 227 = .ok (.iaload, 1) := by decide +kernel
theorem dX6_value_228 : decode cX6_value 228 = .ok (.aload_n 0, 1) := by decide +kernel
theorem dX6_value_229 : decode cX6_value 229 = .ok (.getfield 15, 3) := by decide +kernel
theorem dX6_value_232 : decode cX6_value 232 = .ok (.iload 4, 2) := by decide +kernel
theorem dX6_value_234 : decode cX6_value 234 = .ok (.iaload, 1) := by decide +kernel
theorem dX6_value_235 : decode cX6_value 235 = .ok (.invokestatic 34, 3) := by decide +kernel
theorem dX6_value_238 : decode cX6_value 238 = .ok (.iastore, 1) := by decide +kernel
theorem dX6_value_239 : decode cX6_value 239 = .ok (.iinc 5 1, 3) := by decide +kernel
theorem dX6_value_242 : decode cX6_value 242 = .ok (.goto (-178), 3) := by decide +kernel
theorem dX6_value_245 : decode cX6_value 245 = .ok (.aload_n 0, 1) := by decide +kernel
theorem dX6_value_246 : decode cX6_value 246 = .ok (.getfield 15, 3) := by decide +kernel
theorem dX6_value_249 : decode cX6_value 249 = .ok (.iconst 0, 1) := by decide +kernel
theorem dX6_value_250 : decode cX6_value 250 = .ok (.iaload, 1) := by decide +kernel
theorem dX6_value_251 : decode cX6_value 251 = .ok (.ireturn, 1) := by decide +kernel
theorem dX11_worth_0 : decode cX11_worth 0 = .ok (.aload_n 0, 1) := by decide +kernel
theorem dX11_worth_1 : decode cX11_worth 1 = .ok (.getfield 38, 3) := by decide +kernel
theorem dX11_worth_4 : decode cX11_worth 4 = .ok (.getfield 159, 3) := by decide +kernel
theorem dX11_worth_7 : decode cX11_worth 7 = .ok (.ifCond .lt 32, 3) := by decide +kernel
theorem dX11_worth_10 : decode cX11_worth 10 = .ok (.aload_n 0, 1) := by decide +kernel
theorem dX11_worth_11 : decode cX11_worth 11 = .ok (.getfield 38, 3) := by decide +kernel
theorem dX11_worth_14 : decode cX11_worth 14 = .ok (.getfield 159, 3) := by decide +kernel
theorem dX11_worth_17 : decode cX11_worth 17 = .ok (.aload_n 0, 1) := by decide +kernel
theorem dX11_worth_18 : decode cX11_worth 18 = .ok (.getfield 91, 3) := by decide +kernel
theorem dX11_worth_21 : decode cX11_worth 21 = .ok (.if_icmp .ge 18, 3) := by decide +kernel
theorem dX11_worth_24 : decode cX11_worth 24 = .ok (.aload_n 0, 1) := by decide +kernel
theorem dX11_worth_25 : decode cX11_worth 25 = .ok (.getfield 24, 3) := by decide +kernel
theorem dX11_worth_28 : decode cX11_worth 28 = .ok (.aload_n 0, 1) := by decide +kernel
theorem dX11_worth_29 : decode cX11_worth 29 = .ok (.getfield 38, 3) := by decide +kernel
theorem dX11_worth_32 : decode cX11_worth 32 = .ok (.getfield 159, 3) := by decide +kernel
theorem dX11_worth_35 : decode cX11_worth 35 = .ok (.aaload, 1) := by decide +kernel
theorem dX11_worth_36 : decode cX11_worth 36 = .ok (.goto 4, 3) := by decide +kernel
theorem dX11_worth_39 : decode cX11_worth 39 = .ok (.aconst_null, 1) := by decide +kernel
theorem dX11_worth_40 : decode cX11_worth 40 = .ok (.astore 6, 2) := by decide +kernel
theorem dX11_worth_42 : decode cX11_worth 42 = .ok (.aload 6, 2) := by decide +kernel
theorem dX11_worth_44 : decode cX11_worth 44 = .ok (.ifnull 11, 3) := by decide +kernel
theorem dX11_worth_47 : decode cX11_worth 47 = .ok (.aload_n 0, 1) := by decide +kernel
theorem dX11_worth_48 : decode cX11_worth 48 = .ok (.iload_n 2, 1) := by decide +kernel
theorem dX11_worth_49 : decode cX11_worth 49 = .ok (.invokevirtual 115, 3) := by decide +kernel
theorem dX11_worth_52 : decode cX11_worth 52 = .ok (.ifCond .ne 5, 3) := by decide +kernel
theorem dX11_worth_55 : decode cX11_worth 55 = .ok (.iconst 0, 1) := by decide +kernel
theorem dX11_worth_56 : decode cX11_worth 56 = .ok (.ireturn, 1) := by decide +kernel
theorem dX11_worth_57 : decode cX11_worth 57 = .ok (.aload_n 0, 1) := by decide +kernel
theorem dX11_worth_58 : decode cX11_worth 58 = .ok (.iload_n 3, 1) := by decide +kernel
theorem dX11_worth_59 : decode cX11_worth 59 = .ok (.invokevirtual 115, 3) := by decide +kernel
theorem dX11_worth_62 : decode cX11_worth 62 = .ok (.ifCond .ne 7, 3) := by decide +kernel
theorem dX11_worth_65 : decode cX11_worth 65 = .ok (.iconst 1, 1) := by decide +kernel
theorem dX11_worth_66 : decode cX11_worth 66 = .ok (.goto 4, 3) := by decide +kernel
theorem dX11_worth_69 : decode cX11_worth 69 = .ok (.iconst 0, 1) := by decide +kernel
theorem dX11_worth_70 : decode cX11_worth 70 = .ok (.istore 7, 2) := by decide +kernel
theorem dX11_worth_72 : decode cX11_worth 72 = .ok (.iload 7, 2) := by decide +kernel
theorem dX11_worth_74 : decode cX11_worth 74 = .ok (.ifCond .eq 7, 3) := by decide +kernel
theorem dX11_worth_77 : decode cX11_worth 77 = .ok (.iconst 0, 1) := by decide +kernel
theorem dX11_worth_78 : decode cX11_worth 78 = .ok (.goto 9, 3) := by decide +kernel
theorem dX11_worth_81 : decode cX11_worth 81 = .ok (.aload_n 0, 1) := by decide +kernel
theorem dX11_worth_82 : decode cX11_worth 82 = .ok (.getfield 9, 3) := by decide +kernel
theorem dX11_worth_85 : decode cX11_worth 85 = .ok (.iload_n 3, 1) := by decide +kernel
theorem dX11_worth_86 : decode cX11_worth 86 = .ok (.iaload, 1) := by decide +kernel
theorem dX11_worth_87 : decode cX11_worth 87 = .ok (.istore 8, 2) := by decide +kernel
theorem dX11_worth_89 : decode cX11_worth 89 = .ok (.iload 7, 2) := by decide +kernel
theorem dX11_worth_91 : decode cX11_worth 91 = .ok (.ifCond .eq 7, 3) := by decide +kernel
theorem dX11_worth_94 : decode cX11_worth 94 = .ok (.iconst 0, 1) := by decide +kernel
theorem dX11_worth_95 : decode cX11_worth 95 = .ok (.goto 9, 3) := by decide +kernel
theorem dX11_worth_98 : decode cX11_worth 98 = .ok (.aload_n 0, 1) := by decide +kernel
theorem dX11_worth_99 : decode cX11_worth 99 = .ok (.getfield 13, 3) := by decide +kernel
theorem dX11_worth_102 : decode cX11_worth 102 = .ok (.iload_n 3, 1) := by decide +kernel
theorem dX11_worth_103 : decode cX11_worth 103 = .ok (.iaload, 1) := by decide +kernel
theorem dX11_worth_104 : decode cX11_worth 104 = .ok (.istore 9, 2) := by decide +kernel
theorem dX11_worth_106 : decode cX11_worth 106 = .ok (.aload 6, 2) := by decide +kernel
theorem dX11_worth_108 : decode cX11_worth 108 = .ok (.aload_n 0, 1) := by decide +kernel
theorem dX11_worth_109 : decode cX11_worth 109 = .ok (.getfield 9, 3) := by decide +kernel
theorem dX11_worth_112 : decode cX11_worth 112 = .ok (.iload_n 2, 1) := by decide +kernel
theorem dX11_worth_113 : decode cX11_worth 113 = .ok (.iaload, 1) := by decide +kernel
theorem dX11_worth_114 : decode cX11_worth 114 = .ok (.iload 8, 2) := by decide +kernel
theorem dX11_worth_116 : decode cX11_worth 116 = .ok (.aload_n 0, 1) := by decide +kernel
theorem dX11_worth_117 : decode cX11_worth 117 = .ok (.getfield 13, 3) := by decide +kernel
theorem dX11_worth_120 : decode cX11_worth 120 = .ok (.iload_n 2, 1) := by decide +kernel
theorem dX11_worth_121 : decode cX11_worth 121 = .ok (.iaload, 1) := by decide +kernel
theorem dX11_worth_122 : decode cX11_worth 122 = .ok (.iload 9, 2) := by decide +kernel
theorem dX11_worth_124 : decode cX11_worth 124 = .ok (.iload 4, 2) := by decide +kernel
theorem dX11_worth_126 : decode cX11_worth 126 = .ok (.iload 5, 2) := by decide +kernel
theorem dX11_worth_128 : decode cX11_worth 128 = .ok (.invokevirtual 162, 3) := by decide +kernel
theorem dX11_worth_131 : decode cX11_worth 131 = .ok (.aload 6, 2) := by decide +kernel
theorem dX11_worth_133 : decode cX11_worth 133 = .ok (.iload_n 1, 1) := by decide +kernel
theorem dX11_worth_134 : decode cX11_worth 134 = .ok (.invokevirtual 166, 3) := by decide +kernel
theorem dX11_worth_137 : decode cX11_worth 137 = .ok (.ireturn, 1) := by decide +kernel
theorem dX11_bounded_0 : decode cX11_bounded 0 = .ok (.iconst 0, 1) := by decide +kernel
theorem dX11_bounded_1 : decode cX11_bounded 1 = .ok (.bipush 99, 2) := by decide +kernel
theorem dX11_bounded_3 : decode cX11_bounded 3 = .ok (.iload_n 0, 1) := by decide +kernel
theorem dX11_bounded_4 : decode cX11_bounded 4 = .ok (.invokestatic 169, 3) := by decide +kernel
theorem dX11_bounded_7 : decode cX11_bounded 7 = .ok (.invokestatic 175, 3) := by decide +kernel
theorem dX11_bounded_10 : decode cX11_bounded 10 = .ok (.ireturn, 1) := by decide +kernel
theorem dX11_layerAt_0 : decode cX11_layerAt 0 = .ok (.iload_n 1, 1) := by decide +kernel
theorem dX11_layerAt_1 : decode cX11_layerAt 1 = .ok (.ifCond .lt 20, 3) := by decide +kernel
theorem dX11_layerAt_4 : decode cX11_layerAt 4 = .ok (.iload_n 1, 1) := by decide +kernel
theorem dX11_layerAt_5 : decode cX11_layerAt 5 = .ok (.aload_n 0, 1) := by decide +kernel
theorem dX11_layerAt_6 : decode cX11_layerAt 6 = .ok (.getfield 104, 3) := by decide +kernel
theorem dX11_layerAt_9 : decode cX11_layerAt 9 = .ok (.if_icmp .ge 12, 3) := by decide +kernel
theorem dX11_layerAt_12 : decode cX11_layerAt 12 = .ok (.aload_n 0, 1) := by decide +kernel
theorem dX11_layerAt_13 : decode cX11_layerAt 13 = .ok (.getfield 18, 3) := by decide +kernel
theorem dX11_layerAt_16 : decode cX11_layerAt 16 = .ok (.iload_n 1, 1) := by decide +kernel
theorem dX11_layerAt_17 : decode cX11_layerAt 17 = .ok (.aaload, 1) := by decide +kernel
theorem dX11_layerAt_18 : decode cX11_layerAt 18 = .ok (.goto 4, 3) := by decide +kernel
theorem dX11_layerAt_21 : decode cX11_layerAt 21 = .ok (.aconst_null, 1) := by decide +kernel
theorem dX11_layerAt_22 : decode cX11_layerAt 22 = .ok (.areturn, 1) := by decide +kernel
theorem dX11_told_0 : decode cX11_told 0 = .ok (.iload_n 2, 1) := by decide +kernel
theorem dX11_told_1 : decode cX11_told 1 = .ok (.iconst 3, 1) := by decide +kernel
theorem dX11_told_2 : decode cX11_told 2 = .ok (.if_icmp .eq 8, 3) := by decide +kernel
theorem dX11_told_5 : decode cX11_told 5 = .ok (.iload_n 2, 1) := by decide +kernel
theorem dX11_told_6 : decode cX11_told 6 = .ok (.iconst 4, 1) := by decide +kernel
theorem dX11_told_7 : decode cX11_told 7 = .ok (.if_icmp .ne 33, 3) := by decide +kernel
theorem dX11_told_10 : decode cX11_told 10 = .ok (.aload_n 0, 1) := by decide +kernel
theorem dX11_told_11 : decode cX11_told 11 = .ok (.iload_n 1, 1) := by decide +kernel
theorem dX11_told_12 : decode cX11_told 12 = .ok (.invokevirtual 121, 3) := by decide +kernel
theorem dX11_told_15 : decode cX11_told 15 = .ok (.astore_n 3, 1) := by decide +kernel
theorem dX11_told_16 : decode cX11_told 16 = .ok (.aload_n 3, 1) := by decide +kernel
theorem dX11_told_17 : decode cX11_told 17 = .ok (.ifnonnull 6, 3) := by decide +kernel
theorem dX11_told_20 : decode cX11_told 20 = .ok (.bipush (-2), 2) := by decide +kernel
theorem dX11_told_22 : decode cX11_told 22 = .ok (.ireturn, 1) := by decide +kernel
theorem dX11_told_23 : decode cX11_told 23 = .ok (.iload_n 2, 1) := by decide +kernel
theorem dX11_told_24 : decode cX11_told 24 = .ok (.iconst 3, 1) := by decide +kernel
theorem dX11_told_25 : decode cX11_told 25 = .ok (.if_icmp .ne 10, 3) := by decide +kernel
theorem dX11_told_28 : decode cX11_told 28 = .ok (.aload_n 3, 1) := by decide +kernel
theorem dX11_told_29 : decode cX11_told 29 = .ok (.getfield 125, 3) := by decide +kernel
theorem dX11_told_32 : decode cX11_told 32 = .ok (.goto 7, 3) := by decide +kernel
theorem dX11_told_35 : decode cX11_told 35 = .ok (.aload_n 3, 1) := by decide +kernel
theorem dX11_told_36 : decode cX11_told 36 = .ok (.getfield 128, 3) := by decide +kernel
theorem dX11_told_39 : decode cX11_told 39 = .ok (.ireturn, 1) := by decide +kernel
theorem dX11_told_40 : decode cX11_told 40 = .ok (.iload_n 2, 1) := by decide +kernel
theorem dX11_told_41 : decode cX11_told 41 = .ok (.ifCond .lt 16, 3) := by decide +kernel
theorem dX11_told_44 : decode cX11_told 44 = .ok (.iload_n 2, 1) := by decide +kernel
theorem dX11_told_45 : decode cX11_told 45 = .ok (.iconst 4, 1) := by decide +kernel
theorem dX11_told_46 : decode cX11_told 46 = .ok (.if_icmp .gt 11, 3) := by decide +kernel
theorem dX11_told_49 : decode cX11_told 49 = .ok (.aload_n 0, 1) := by decide +kernel
theorem dX11_told_50 : decode cX11_told 50 = .ok (.iload_n 1, 1) := by decide +kernel
theorem dX11_told_51 : decode cX11_told 51 = .ok (.invokevirtual 115, 3) := by decide +kernel
theorem dX11_told_54 : decode cX11_told 54 = .ok (.ifCond .ne 6, 3) := by decide +kernel
theorem dX11_told_57 : decode cX11_told 57 = .ok (.bipush (-2), 2) := by decide +kernel
theorem dX11_told_59 : decode cX11_told 59 = .ok (.ireturn, 1) := by decide +kernel
theorem dX11_told_60 : decode cX11_told 60 = .ok (.iload_n 2, 1) := by decide +kernel
theorem dX11_told_61 : decode cX11_told 61 = .ok (.iconst 2, 1) := by decide +kernel
theorem dX11_told_62 : decode cX11_told 62 = .ok (.if_icmp .ne 16, 3) := by decide +kernel
theorem dX11_told_65 : decode cX11_told 65 = .ok (.aload_n 0, 1) := by decide +kernel
theorem dX11_told_66 : decode cX11_told 66 = .ok (.iconst 2, 1) := by decide +kernel
theorem dX11_told_67 : decode cX11_told 67 = .ok (.iload_n 1, 1) := by decide +kernel
theorem dX11_told_68 : decode cX11_told 68 = .ok (.iconst (-1), 1) := by decide +kernel
theorem dX11_told_69 : decode cX11_told 69 = .ok (.iconst 0, 1) := by decide +kernel
theorem dX11_told_70 : decode cX11_told 70 = .ok (.iconst 0, 1) := by decide +kernel
theorem dX11_told_71 : decode cX11_told 71 = .ok (.invokevirtual 131, 3) := by decide +kernel
theorem dX11_told_74 : decode cX11_told 74 = .ok (.invokestatic 135, 3) := by decide +kernel
theorem dX11_told_77 : decode cX11_told 77 = .ok (.ireturn, 1) := by decide +kernel
theorem dX11_told_78 : decode cX11_told 78 = .ok (.iload_n 2, 1) := by decide +kernel
theorem dX11_told_79 : decode cX11_told 79 = .ok (.ifCond .ne 12, 3) := by decide +kernel
theorem dX11_told_82 : decode cX11_told 82 = .ok (.aload_n 0, 1) := by decide +kernel
theorem dX11_told_83 : decode cX11_told 83 = .ok (.getfield 9, 3) := by decide +kernel
theorem dX11_told_86 : decode cX11_told 86 = .ok (.iload_n 1, 1) := by decide +kernel
theorem dX11_told_87 : decode cX11_told 87 = .ok (.iaload, 1) := by decide +kernel
theorem dX11_told_88 : decode cX11_told 88 = .ok (.goto 9, 3) := by decide +kernel
theorem dX11_told_91 : decode cX11_told 91 = .ok (.aload_n 0, 1) := by decide +kernel
theorem dX11_told_92 : decode cX11_told 92 = .ok (.getfield 13, 3) := by decide +kernel
theorem dX11_told_95 : decode cX11_told 95 = .ok (.iload_n 1, 1) := by decide +kernel
theorem dX11_told_96 : decode cX11_told 96 = .ok (.iaload, 1) := by decide +kernel
theorem dX11_told_97 : decode cX11_told 97 = .ok (.ireturn, 1) := by decide +kernel
theorem dX5_append_0 : decode cX5_append 0 = .ok (.aload_n 0, 1) := by decide +kernel
theorem dX5_append_1 : decode cX5_append 1 = .ok (.getfield 18, 3) := by decide +kernel
theorem dX5_append_4 : decode cX5_append 4 = .ok (.sipush 160, 3) := by decide +kernel
theorem dX5_append_7 : decode cX5_append 7 = .ok (.if_icmp .lt 5, 3) := by decide +kernel
theorem dX5_append_10 : decode cX5_append 10 = .ok (.iconst 0, 1) := by decide +kernel
theorem dX5_append_11 : decode cX5_append 11 = .ok (.ireturn, 1) := by decide +kernel
theorem dX5_append_12 : decode cX5_append 12 = .ok (.aload_n 0, 1) := by decide +kernel
theorem dX5_append_13 : decode cX5_append 13 = .ok (.getfield 9, 3) := by decide +kernel
theorem dX5_append_16 : decode cX5_append 16 = .ok (.aload_n 0, 1) := by decide +kernel
theorem dX5_append_17 : decode cX5_append 17 = .ok (.getfield 18, 3) := by decide +kernel
theorem dX5_append_20 : decode cX5_append 20 = .ok (.iload_n 1, 1) := by decide +kernel
theorem dX5_append_21 : decode cX5_append 21 = .ok (.iastore, 1) := by decide +kernel
theorem dX5_append_22 : decode cX5_append 22 = .ok (.aload_n 0, 1) := by decide +kernel
theorem dX5_append_23 : decode cX5_append 23 = .ok (.dup, 1) := by decide +kernel
theorem dX5_append_24 : decode cX5_append 24 = .ok (.getfield 18, 3) := by decide +kernel
theorem dX5_append_27 : decode cX5_append 27 = .ok (.iconst 1, 1) := by decide +kernel
theorem dX5_append_28 : decode cX5_append 28 = .ok (.iadd, 1) := by decide +kernel
theorem dX5_append_29 : decode cX5_append 29 = .ok (.putfield 18, 3) := by decide +kernel
theorem dX5_append_32 : decode cX5_append 32 = .ok (.iconst 1, 1) := by decide +kernel
theorem dX5_append_33 : decode cX5_append 33 = .ok (.ireturn, 1) := by decide +kernel
theorem dX11_feed_0 : decode cX11_feed 0 = .ok (.iload_n 1, 1) := by decide +kernel
theorem dX11_feed_1 : decode cX11_feed 1 = .ok (.ifCond .lt 10, 3) := by decide +kernel
theorem dX11_feed_4 : decode cX11_feed 4 = .ok (.iload_n 1, 1) := by decide +kernel
theorem dX11_feed_5 : decode cX11_feed 5 = .ok (.sipush 255, 3) := by decide +kernel
theorem dX11_feed_8 : decode cX11_feed 8 = .ok (.if_icmp .le 6, 3) := by decide +kernel
theorem dX11_feed_11 : decode cX11_feed 11 = .ok (.bipush (-2), 2) := by decide +kernel
theorem dX11_feed_13 : decode cX11_feed 13 = .ok (.ireturn, 1) := by decide +kernel
theorem dX11_feed_14 : decode cX11_feed 14 = .ok (.aload_n 0, 1) := by decide +kernel
theorem dX11_feed_15 : decode cX11_feed 15 = .ok (.getfield 31, 3) := by decide +kernel
theorem dX11_feed_18 : decode cX11_feed 18 = .ok (.iload_n 1, 1) := by decide +kernel
theorem dX11_feed_19 : decode cX11_feed 19 = .ok (.invokevirtual 83, 3) := by decide +kernel
theorem dX11_feed_22 : decode cX11_feed 22 = .ok (.ifCond .ne 6, 3) := by decide +kernel
theorem dX11_feed_25 : decode cX11_feed 25 = .ok (.bipush (-4), 2) := by decide +kernel
theorem dX11_feed_27 : decode cX11_feed 27 = .ok (.ireturn, 1) := by decide +kernel
theorem dX11_feed_28 : decode cX11_feed 28 = .ok (.aload_n 0, 1) := by decide +kernel
theorem dX11_feed_29 : decode cX11_feed 29 = .ok (.getfield 31, 3) := by decide +kernel
theorem dX11_feed_32 : decode cX11_feed 32 = .ok (.getfield 95, 3) := by decide +kernel
theorem dX11_feed_35 : decode cX11_feed 35 = .ok (.ireturn, 1) := by decide +kernel
theorem dX5_isLetter_0 : decode cX5_isLetter 0 = .ok (.iload_n 0, 1) := by decide +kernel
theorem dX5_isLetter_1 : decode cX5_isLetter 1 = .ok (.bipush 97, 2) := by decide +kernel
theorem dX5_isLetter_3 : decode cX5_isLetter 3 = .ok (.if_icmp .lt 13, 3) := by decide +kernel
theorem dX5_isLetter_6 : decode cX5_isLetter 6 = .ok (.iload_n 0, 1) := by decide +kernel
theorem dX5_isLetter_7 : decode cX5_isLetter 7 = .ok (.bipush 122, 2) := by decide +kernel
theorem dX5_isLetter_9 : decode cX5_isLetter 9 = .ok (.if_icmp .gt 7, 3) := by decide +kernel
theorem dX5_isLetter_12 : decode cX5_isLetter 12 = .ok (.iconst 1, 1) := by decide +kernel
theorem dX5_isLetter_13 : decode cX5_isLetter 13 = .ok (.goto 4, 3) := by decide +kernel
theorem dX5_isLetter_16 : decode cX5_isLetter 16 = .ok (.iconst 0, 1) := by decide +kernel
theorem dX5_isLetter_17 : decode cX5_isLetter 17 = .ok (.ireturn, 1) := by decide +kernel
theorem dX5_isDigit_0 : decode cX5_isDigit 0 = .ok (.iload_n 0, 1) := by decide +kernel
theorem dX5_isDigit_1 : decode cX5_isDigit 1 = .ok (.bipush 48, 2) := by decide +kernel
theorem dX5_isDigit_3 : decode cX5_isDigit 3 = .ok (.if_icmp .lt 13, 3) := by decide +kernel
theorem dX5_isDigit_6 : decode cX5_isDigit 6 = .ok (.iload_n 0, 1) := by decide +kernel
theorem dX5_isDigit_7 : decode cX5_isDigit 7 = .ok (.bipush 57, 2) := by decide +kernel
theorem dX5_isDigit_9 : decode cX5_isDigit 9 = .ok (.if_icmp .gt 7, 3) := by decide +kernel
theorem dX5_isDigit_12 : decode cX5_isDigit 12 = .ok (.iconst 1, 1) := by decide +kernel
theorem dX5_isDigit_13 : decode cX5_isDigit 13 = .ok (.goto 4, 3) := by decide +kernel
theorem dX5_isDigit_16 : decode cX5_isDigit 16 = .ok (.iconst 0, 1) := by decide +kernel
theorem dX5_isDigit_17 : decode cX5_isDigit 17 = .ok (.ireturn, 1) := by decide +kernel
theorem dX5_isSign_0 : decode cX5_isSign 0 = .ok (.iload_n 0, 1) := by decide +kernel
theorem dX5_isSign_1 : decode cX5_isSign 1 = .ok (.bipush 40, 2) := by decide +kernel
theorem dX5_isSign_3 : decode cX5_isSign 3 = .ok (.if_icmp .eq 45, 3) := by decide +kernel
theorem dX5_isSign_6 : decode cX5_isSign 6 = .ok (.iload_n 0, 1) := by decide +kernel
theorem dX5_isSign_7 : decode cX5_isSign 7 = .ok (.bipush 41, 2) := by decide +kernel
theorem dX5_isSign_9 : decode cX5_isSign 9 = .ok (.if_icmp .eq 39, 3) := by decide +kernel
theorem dX5_isSign_12 : decode cX5_isSign 12 = .ok (.iload_n 0, 1) := by decide +kernel
theorem dX5_isSign_13 : decode cX5_isSign 13 = .ok (.bipush 59, 2) := by decide +kernel
theorem dX5_isSign_15 : decode cX5_isSign 15 = .ok (.if_icmp .eq 33, 3) := by decide +kernel
theorem dX5_isSign_18 : decode cX5_isSign 18 = .ok (.iload_n 0, 1) := by decide +kernel
theorem dX5_isSign_19 : decode cX5_isSign 19 = .ok (.bipush 43, 2) := by decide +kernel
theorem dX5_isSign_21 : decode cX5_isSign 21 = .ok (.if_icmp .eq 27, 3) := by decide +kernel
theorem dX5_isSign_24 : decode cX5_isSign 24 = .ok (.iload_n 0, 1) := by decide +kernel
theorem dX5_isSign_25 : decode cX5_isSign 25 = .ok (.bipush 45, 2) := by decide +kernel
theorem dX5_isSign_27 : decode cX5_isSign 27 = .ok (.if_icmp .eq 21, 3) := by decide +kernel
theorem dX5_isSign_30 : decode cX5_isSign 30 = .ok (.iload_n 0, 1) := by decide +kernel
theorem dX5_isSign_31 : decode cX5_isSign 31 = .ok (.bipush 42, 2) := by decide +kernel
theorem dX5_isSign_33 : decode cX5_isSign 33 = .ok (.if_icmp .eq 15, 3) := by decide +kernel
theorem dX5_isSign_36 : decode cX5_isSign 36 = .ok (.iload_n 0, 1) := by decide +kernel
theorem dX5_isSign_37 : decode cX5_isSign 37 = .ok (.bipush 60, 2) := by decide +kernel
theorem dX5_isSign_39 : decode cX5_isSign 39 = .ok (.if_icmp .eq 9, 3) := by decide +kernel
theorem dX5_isSign_42 : decode cX5_isSign 42 = .ok (.iload_n 0, 1) := by decide +kernel
theorem dX5_isSign_43 : decode cX5_isSign 43 = .ok (.bipush 61, 2) := by decide +kernel
theorem dX5_isSign_45 : decode cX5_isSign 45 = .ok (.if_icmp .ne 7, 3) := by decide +kernel
theorem dX5_isSign_48 : decode cX5_isSign 48 = .ok (.iconst 1, 1) := by decide +kernel
theorem dX5_isSign_49 : decode cX5_isSign 49 = .ok (.goto 4, 3) := by decide +kernel
theorem dX5_isSign_52 : decode cX5_isSign 52 = .ok (.iconst 0, 1) := by decide +kernel
theorem dX5_isSign_53 : decode cX5_isSign 53 = .ok (.ireturn, 1) := by decide +kernel
theorem dX5_scanNumber_0 : decode cX5_scanNumber 0 = .ok (.aload_n 0, 1) := by decide +kernel
theorem dX5_scanNumber_1 : decode cX5_scanNumber 1 = .ok (.iconst 0, 1) := by decide +kernel
theorem dX5_scanNumber_2 : decode cX5_scanNumber 2 = .ok (.putfield 80, 3) := by decide +kernel
theorem dX5_scanNumber_5 : decode cX5_scanNumber 5 = .ok (.aload_n 0, 1) := by decide +kernel
theorem dX5_scanNumber_6 : decode cX5_scanNumber 6 = .ok (.getfield 25, 3) := by decide +kernel
theorem dX5_scanNumber_9 : decode cX5_scanNumber 9 = .ok (.aload_n 0, 1) := by decide +kernel
theorem dX5_scanNumber_10 : decode cX5_scanNumber 10 = .ok (.getfield 18, 3) := by decide +kernel
theorem dX5_scanNumber_13 : decode cX5_scanNumber 13 = .ok (.if_icmp .ge 68, 3) := by decide +kernel
theorem dX5_scanNumber_16 : decode cX5_scanNumber 16 = .ok (.aload_n 0, 1) := by decide +kernel
theorem dX5_scanNumber_17 : decode cX5_scanNumber 17 = .ok (.getfield 9, 3) := by decide +kernel
theorem dX5_scanNumber_20 : decode cX5_scanNumber 20 = .ok (.aload_n 0, 1) := by decide +kernel
theorem dX5_scanNumber_21 : decode cX5_scanNumber 21 = .ok (.getfield 25, 3) := by decide +kernel
theorem dX5_scanNumber_24 : decode cX5_scanNumber 24 = .ok (.iaload, 1) := by decide +kernel
theorem dX5_scanNumber_25 : decode cX5_scanNumber 25 = .ok (.invokestatic 95, 3) := by decide +kernel
theorem dX5_scanNumber_28 : decode cX5_scanNumber 28 = .ok (.ifCond .eq 53, 3) := by decide +kernel
theorem dX5_scanNumber_31 : decode cX5_scanNumber 31 = .ok (.aload_n 0, 1) := by decide +kernel
theorem dX5_scanNumber_32 : decode cX5_scanNumber 32 = .ok (.getfield 25, 3) := by decide +kernel
theorem dX5_scanNumber_35 : decode cX5_scanNumber 35 = .ok (.aload_n 0, 1) := by decide +kernel
theorem dX5_scanNumber_36 : decode cX5_scanNumber 36 = .ok (.getfield 86, 3) := by decide +kernel
theorem dX5_scanNumber_39 : decode cX5_scanNumber 39 = .ok (.isub, 1) := by decide +kernel
theorem dX5_scanNumber_40 : decode cX5_scanNumber 40 = .ok (.iconst 4, 1) := by decide +kernel
theorem dX5_scanNumber_41 : decode cX5_scanNumber 41 = .ok (.if_icmp .ge 27, 3) := by decide +kernel
theorem dX5_scanNumber_44 : decode cX5_scanNumber 44 = .ok (.aload_n 0, 1) := by decide +kernel
theorem dX5_scanNumber_45 : decode cX5_scanNumber 45 = .ok (.aload_n 0, 1) := by decide +kernel
theorem dX5_scanNumber_46 : decode cX5_scanNumber 46 = .ok (.getfield 80, 3) := by decide +kernel
theorem dX5_scanNumber_49 : decode cX5_scanNumber 49 = .ok (.bipush 10, 2) := by decide +kernel
theorem dX5_scanNumber_51 : decode cX5_scanNumber 51 = .ok (.imul, 1) := by decide +kernel
theorem dX5_scanNumber_52 : decode cX5_scanNumber 52 = .ok (.aload_n 0, 1) := by decide +kernel
theorem dX5_scanNumber_53 : decode cX5_scanNumber 53 = .ok (.getfield 9, 3) := by decide +kernel
theorem dX5_scanNumber_56 : decode cX5_scanNumber 56 = .ok (.aload_n 0, 1) := by decide +kernel
theorem dX5_scanNumber_57 : decode cX5_scanNumber 57 = .ok (.getfield 25, 3) := by decide +kernel
theorem dX5_scanNumber_60 : decode cX5_scanNumber 60 = .ok (.iaload, 1) := by decide +kernel
theorem dX5_scanNumber_61 : decode cX5_scanNumber 61 = .ok (.bipush 48, 2) := by decide +kernel
theorem dX5_scanNumber_63 : decode cX5_scanNumber 63 = .ok (.isub, 1) := by decide +kernel
theorem dX5_scanNumber_64 : decode cX5_scanNumber 64 = .ok (.iadd, 1) := by decide +kernel
theorem dX5_scanNumber_65 : decode cX5_scanNumber 65 = .ok (.putfield 80, 3) := by decide +kernel
theorem dX5_scanNumber_68 : decode cX5_scanNumber 68 = .ok (.aload_n 0, 1) := by decide +kernel
theorem dX5_scanNumber_69 : decode cX5_scanNumber 69 = .ok (.dup, 1) := by decide +kernel
theorem dX5_scanNumber_70 : decode cX5_scanNumber 70 = .ok (.getfield 25, 3) := by decide +kernel
theorem dX5_scanNumber_73 : decode cX5_scanNumber 73 = .ok (.iconst 1, 1) := by decide +kernel
theorem dX5_scanNumber_74 : decode cX5_scanNumber 74 = .ok (.iadd, 1) := by decide +kernel
theorem dX5_scanNumber_75 : decode cX5_scanNumber 75 = .ok (.putfield 25, 3) := by decide +kernel
theorem dX5_scanNumber_78 : decode cX5_scanNumber 78 = .ok (.goto (-73), 3) := by decide +kernel
theorem dX5_scanNumber_81 : decode cX5_scanNumber 81 = .ok (.aload_n 0, 1) := by decide +kernel
theorem dX5_scanNumber_82 : decode cX5_scanNumber 82 = .ok (.aload_n 0, 1) := by decide +kernel
theorem dX5_scanNumber_83 : decode cX5_scanNumber 83 = .ok (.getfield 25, 3) := by decide +kernel
theorem dX5_scanNumber_86 : decode cX5_scanNumber 86 = .ok (.aload_n 0, 1) := by decide +kernel
theorem dX5_scanNumber_87 : decode cX5_scanNumber 87 = .ok (.getfield 86, 3) := by decide +kernel
theorem dX5_scanNumber_90 : decode cX5_scanNumber 90 = .ok (.isub, 1) := by decide +kernel
theorem dX5_scanNumber_91 : decode cX5_scanNumber 91 = .ok (.iconst 4, 1) := by decide +kernel
theorem dX5_scanNumber_92 : decode cX5_scanNumber 92 = .ok (.if_icmp .le 7, 3) := by decide +kernel
theorem dX5_scanNumber_95 : decode cX5_scanNumber 95 = .ok (.iconst 1, 1) := by decide +kernel
theorem dX5_scanNumber_96 : decode cX5_scanNumber 96 = .ok (.goto 4, 3) := by decide +kernel
theorem dX5_scanNumber_99 : decode cX5_scanNumber 99 = .ok (.iconst 2, 1) := by decide +kernel
theorem dX5_scanNumber_100 : decode cX5_scanNumber 100 = .ok (.putfield 58, 3) := by decide +kernel
theorem dX5_scanNumber_103 : decode cX5_scanNumber 103 = .ok (.return_, 1) := by decide +kernel
theorem dX5_spells_0 : decode cX5_spells 0 = .ok (.aload_n 0, 1) := by decide +kernel
theorem dX5_spells_1 : decode cX5_spells 1 = .ok (.getfield 25, 3) := by decide +kernel
theorem dX5_spells_4 : decode cX5_spells 4 = .ok (.aload_n 0, 1) := by decide +kernel
theorem dX5_spells_5 : decode cX5_spells 5 = .ok (.getfield 86, 3) := by decide +kernel
theorem dX5_spells_8 : decode cX5_spells 8 = .ok (.isub, 1) := by decide +kernel
theorem dX5_spells_9 : decode cX5_spells 9 = .ok (.aload_n 1, 1) := by decide +kernel
theorem dX5_spells_10 : decode cX5_spells 10 = .ok (.invokevirtual 131, 3) := by decide +kernel
theorem dX5_spells_13 : decode cX5_spells 13 = .ok (.if_icmp .eq 5, 3) := by decide +kernel
theorem dX5_spells_16 : decode cX5_spells 16 = .ok (.iconst 0, 1) := by decide +kernel
theorem dX5_spells_17 : decode cX5_spells 17 = .ok (.ireturn, 1) := by decide +kernel
theorem dX5_spells_18 : decode cX5_spells 18 = .ok (.iconst 0, 1) := by decide +kernel
theorem dX5_spells_19 : decode cX5_spells 19 = .ok (.istore_n 2, 1) := by decide +kernel
theorem dX5_spells_20 : decode cX5_spells 20 = .ok (.iload_n 2, 1) := by decide +kernel
theorem dX5_spells_21 : decode cX5_spells 21 = .ok (.aload_n 1, 1) := by decide +kernel
theorem dX5_spells_22 : decode cX5_spells 22 = .ok (.invokevirtual 131, 3) := by decide +kernel
theorem dX5_spells_25 : decode cX5_spells 25 = .ok (.if_icmp .ge 43, 3) := by decide +kernel
theorem dX5_spells_28 : decode cX5_spells 28 = .ok (.aload_n 0, 1) := by decide +kernel
theorem dX5_spells_29 : decode cX5_spells 29 = .ok (.getfield 86, 3) := by decide +kernel
theorem dX5_spells_32 : decode cX5_spells 32 = .ok (.iload_n 2, 1) := by decide +kernel
theorem dX5_spells_33 : decode cX5_spells 33 = .ok (.iadd, 1) := by decide +kernel
theorem dX5_spells_34 : decode cX5_spells 34 = .ok (.aload_n 0, 1) := by decide +kernel
theorem dX5_spells_35 : decode cX5_spells 35 = .ok (.getfield 18, 3) := by decide +kernel
theorem dX5_spells_38 : decode cX5_spells 38 = .ok (.if_icmp .ge 30, 3) := by decide +kernel
theorem dX5_spells_41 : decode cX5_spells 41 = .ok (.aload_n 0, 1) := by decide +kernel
theorem dX5_spells_42 : decode cX5_spells 42 = .ok (.getfield 9, 3) := by decide +kernel
theorem dX5_spells_45 : decode cX5_spells 45 = .ok (.aload_n 0, 1) := by decide +kernel
theorem dX5_spells_46 : decode cX5_spells 46 = .ok (.getfield 86, 3) := by decide +kernel
theorem dX5_spells_49 : decode cX5_spells 49 = .ok (.iload_n 2, 1) := by decide +kernel
theorem dX5_spells_50 : decode cX5_spells 50 = .ok (.iadd, 1) := by decide +kernel
theorem dX5_spells_51 : decode cX5_spells 51 = .ok (.iaload, 1) := by decide +kernel
theorem dX5_spells_52 : decode cX5_spells 52 = .ok (.aload_n 1, 1) := by decide +kernel
theorem dX5_spells_53 : decode cX5_spells 53 = .ok (.iload_n 2, 1) := by decide +kernel
theorem dX5_spells_54 : decode cX5_spells 54 = .ok (.invokevirtual 137, 3) := by decide +kernel
theorem dX5_spells_57 : decode cX5_spells 57 = .ok (.if_icmp .eq 5, 3) := by decide +kernel
theorem dX5_spells_60 : decode cX5_spells 60 = .ok (.iconst 0, 1) := by decide +kernel
theorem dX5_spells_61 : decode cX5_spells 61 = .ok (.ireturn, 1) := by decide +kernel
theorem dX5_spells_62 : decode cX5_spells 62 = .ok (.iinc 2 1, 3) := by decide +kernel
theorem dX5_spells_65 : decode cX5_spells 65 = .ok (.goto (-45), 3) := by decide +kernel
theorem dX5_spells_68 : decode cX5_spells 68 = .ok (.iconst 1, 1) := by decide +kernel
theorem dX5_spells_69 : decode cX5_spells 69 = .ok (.ireturn, 1) := by decide +kernel
theorem dX5_scanWord_0 : decode cX5_scanWord 0 = .ok (.aload_n 0, 1) := by decide +kernel
theorem dX5_scanWord_1 : decode cX5_scanWord 1 = .ok (.getfield 25, 3) := by decide +kernel
theorem dX5_scanWord_4 : decode cX5_scanWord 4 = .ok (.aload_n 0, 1) := by decide +kernel
theorem dX5_scanWord_5 : decode cX5_scanWord 5 = .ok (.getfield 18, 3) := by decide +kernel
theorem dX5_scanWord_8 : decode cX5_scanWord 8 = .ok (.if_icmp .ge 31, 3) := by decide +kernel
theorem dX5_scanWord_11 : decode cX5_scanWord 11 = .ok (.aload_n 0, 1) := by decide +kernel
theorem dX5_scanWord_12 : decode cX5_scanWord 12 = .ok (.getfield 9, 3) := by decide +kernel
theorem dX5_scanWord_15 : decode cX5_scanWord 15 = .ok (.aload_n 0, 1) := by decide +kernel
theorem dX5_scanWord_16 : decode cX5_scanWord 16 = .ok (.getfield 25, 3) := by decide +kernel
theorem dX5_scanWord_19 : decode cX5_scanWord 19 = .ok (.iaload, 1) := by decide +kernel
theorem dX5_scanWord_20 : decode cX5_scanWord 20 = .ok (.invokestatic 89, 3) := by decide +kernel
theorem dX5_scanWord_23 : decode cX5_scanWord 23 = .ok (.ifCond .eq 16, 3) := by decide +kernel
theorem dX5_scanWord_26 : decode cX5_scanWord 26 = .ok (.aload_n 0, 1) := by decide +kernel
theorem dX5_scanWord_27 : decode cX5_scanWord 27 = .ok (.dup, 1) := by decide +kernel
theorem dX5_scanWord_28 : decode cX5_scanWord 28 = .ok (.getfield 25, 3) := by decide +kernel
theorem dX5_scanWord_31 : decode cX5_scanWord 31 = .ok (.iconst 1, 1) := by decide +kernel
theorem dX5_scanWord_32 : decode cX5_scanWord 32 = .ok (.iadd, 1) := by decide +kernel
theorem dX5_scanWord_33 : decode cX5_scanWord 33 = .ok (.putfield 25, 3) := by decide +kernel
theorem dX5_scanWord_36 : decode cX5_scanWord 36 = .ok (.goto (-36), 3) := by decide +kernel
theorem dX5_scanWord_39 : decode cX5_scanWord 39 = .ok (.aload_n 0, 1) := by decide +kernel
theorem dX5_scanWord_40 : decode cX5_scanWord 40 = .ok (.ldc 104, 2) := by decide +kernel
theorem dX5_scanWord_42 : decode cX5_scanWord 42 = .ok (.invokevirtual 106, 3) := by decide +kernel
theorem dX5_scanWord_45 : decode cX5_scanWord 45 = .ok (.ifCond .eq 11, 3) := by decide +kernel
theorem dX5_scanWord_48 : decode cX5_scanWord 48 = .ok (.aload_n 0, 1) := by decide +kernel
theorem dX5_scanWord_49 : decode cX5_scanWord 49 = .ok (.iconst 3, 1) := by decide +kernel
theorem dX5_scanWord_50 : decode cX5_scanWord 50 = .ok (.putfield 58, 3) := by decide +kernel
theorem dX5_scanWord_53 : decode cX5_scanWord 53 = .ok (.goto 203, 3) := by decide +kernel
theorem dX5_scanWord_56 : decode cX5_scanWord 56 = .ok (.aload_n 0, 1) := by decide +kernel
theorem dX5_scanWord_57 : decode cX5_scanWord 57 = .ok (.ldc 110, 2) := by decide +kernel
theorem dX5_scanWord_59 : decode cX5_scanWord 59 = .ok (.invokevirtual 106, 3) := by decide +kernel
theorem dX5_scanWord_62 : decode cX5_scanWord 62 = .ok (.ifCond .eq 11, 3) := by decide +kernel
theorem dX5_scanWord_65 : decode cX5_scanWord 65 = .ok (.aload_n 0, 1) := by decide +kernel
theorem dX5_scanWord_66 : decode cX5_scanWord 66 = .ok (.iconst 4, 1) := by decide +kernel
theorem dX5_scanWord_67 : decode cX5_scanWord 67 = .ok (.putfield 58, 3) := by decide +kernel
theorem dX5_scanWord_70 : decode cX5_scanWord 70 = .ok (.goto 186, 3) := by decide +kernel
theorem dX5_scanWord_73 : decode cX5_scanWord 73 = .ok (.aload_n 0, 1) := by decide +kernel
theorem dX5_scanWord_74 : decode cX5_scanWord 74 = .ok (.ldc 112, 2) := by decide +kernel
theorem dX5_scanWord_76 : decode cX5_scanWord 76 = .ok (.invokevirtual 106, 3) := by decide +kernel
theorem dX5_scanWord_79 : decode cX5_scanWord 79 = .ok (.ifCond .eq 11, 3) := by decide +kernel
theorem dX5_scanWord_82 : decode cX5_scanWord 82 = .ok (.aload_n 0, 1) := by decide +kernel
theorem dX5_scanWord_83 : decode cX5_scanWord 83 = .ok (.iconst 5, 1) := by decide +kernel
theorem dX5_scanWord_84 : decode cX5_scanWord 84 = .ok (.putfield 58, 3) := by decide +kernel
theorem dX5_scanWord_87 : decode cX5_scanWord 87 = .ok (.goto 169, 3) := by decide +kernel
theorem dX5_scanWord_90 : decode cX5_scanWord 90 = .ok (.aload_n 0, 1) := by decide +kernel
theorem dX5_scanWord_91 : decode cX5_scanWord 91 = .ok (.ldc 114, 2) := by decide +kernel
theorem dX5_scanWord_93 : decode cX5_scanWord 93 = .ok (.invokevirtual 106, 3) := by decide +kernel
theorem dX5_scanWord_96 : decode cX5_scanWord 96 = .ok (.ifCond .eq 12, 3) := by decide +kernel
theorem dX5_scanWord_99 : decode cX5_scanWord 99 = .ok (.aload_n 0, 1) := by decide +kernel
theorem dX5_scanWord_100 : decode cX5_scanWord 100 = .ok (.bipush 6, 2) := by decide +kernel
theorem dX5_scanWord_102 : decode cX5_scanWord 102 = .ok (.putfield 58, 3) := by decide +kernel
theorem dX5_scanWord_105 : decode cX5_scanWord 105 = .ok (.goto 151, 3) := by decide +kernel
theorem dX5_scanWord_108 : decode cX5_scanWord 108 = .ok (.aload_n 0, 1) := by decide +kernel
theorem dX5_scanWord_109 : decode cX5_scanWord 109 = .ok (.ldc 116, 2) := by decide +kernel
theorem dX5_scanWord_111 : decode cX5_scanWord 111 = .ok (.invokevirtual 106, 3) := by decide +kernel
theorem dX5_scanWord_114 : decode cX5_scanWord 114 = .ok (.ifCond .eq 12, 3) := by decide +kernel
theorem dX5_scanWord_117 : decode cX5_scanWord 117 = .ok (.aload_n 0, 1) := by decide +kernel
theorem dX5_scanWord_118 : decode cX5_scanWord 118 = .ok (.bipush 7, 2) := by decide +kernel
theorem dX5_scanWord_120 : decode cX5_scanWord 120 = .ok (.putfield 58, 3) := by decide +kernel
theorem dX5_scanWord_123 : decode cX5_scanWord 123 = .ok (.goto 133, 3) := by decide +kernel
theorem dX5_scanWord_126 : decode cX5_scanWord 126 = .ok (.aload_n 0, 1) := by decide +kernel
theorem dX5_scanWord_127 : decode cX5_scanWord 127 = .ok (.ldc 118, 2) := by decide +kernel
theorem dX5_scanWord_129 : decode cX5_scanWord 129 = .ok (.invokevirtual 106, 3) := by decide +kernel
theorem dX5_scanWord_132 : decode cX5_scanWord 132 = .ok (.ifCond .eq 12, 3) := by decide +kernel
theorem dX5_scanWord_135 : decode cX5_scanWord 135 = .ok (.aload_n 0, 1) := by decide +kernel
theorem dX5_scanWord_136 : decode cX5_scanWord 136 = .ok (.bipush 8, 2) := by decide +kernel
theorem dX5_scanWord_138 : decode cX5_scanWord 138 = .ok (.putfield 58, 3) := by decide +kernel
theorem dX5_scanWord_141 : decode cX5_scanWord 141 = .ok (.goto 115, 3) := by decide +kernel
theorem dX5_scanWord_144 : decode cX5_scanWord 144 = .ok (.aload_n 0, 1) := by decide +kernel
theorem dX5_scanWord_145 : decode cX5_scanWord 145 = .ok (.ldc 120, 2) := by decide +kernel
theorem dX5_scanWord_147 : decode cX5_scanWord 147 = .ok (.invokevirtual 106, 3) := by decide +kernel
theorem dX5_scanWord_150 : decode cX5_scanWord 150 = .ok (.ifCond .eq 11, 3) := by decide +kernel
theorem dX5_scanWord_153 : decode cX5_scanWord 153 = .ok (.aload_n 0, 1) := by decide +kernel
theorem dX5_scanWord_154 : decode cX5_scanWord 154 = .ok (.iconst (-1), 1) := by decide +kernel
theorem dX5_scanWord_155 : decode cX5_scanWord 155 = .ok (.putfield 58, 3) := by decide +kernel
theorem dX5_scanWord_158 : decode cX5_scanWord 158 = .ok (.goto 98, 3) := by decide +kernel
theorem dX5_scanWord_161 : decode cX5_scanWord 161 = .ok (.aload_n 0, 1) := by decide +kernel
theorem dX5_scanWord_162 : decode cX5_scanWord 162 = .ok (.ldc 121, 2) := by decide +kernel
theorem dX5_scanWord_164 : decode cX5_scanWord 164 = .ok (.invokevirtual 106, 3) := by decide +kernel
theorem dX5_scanWord_167 : decode cX5_scanWord 167 = .ok (.ifCond .eq 12, 3) := by decide +kernel
theorem dX5_scanWord_170 : decode cX5_scanWord 170 = .ok (.aload_n 0, 1) := by decide +kernel
theorem dX5_scanWord_171 : decode cX5_scanWord 171 = .ok (.bipush (-2), 2) := by decide +kernel
theorem dX5_scanWord_173 : decode cX5_scanWord 173 = .ok (.putfield 58, 3) := by decide +kernel
theorem dX5_scanWord_176 : decode cX5_scanWord 176 = .ok (.goto 80, 3) := by decide +kernel
theorem dX5_scanWord_179 : decode cX5_scanWord 179 = .ok (.aload_n 0, 1) := by decide +kernel
theorem dX5_scanWord_180 : decode cX5_scanWord 180 = .ok (.ldc 123, 2) := by decide +kernel
theorem dX5_scanWord_182 : decode cX5_scanWord 182 = .ok (.invokevirtual 106, 3) := by decide +kernel
theorem dX5_scanWord_185 : decode cX5_scanWord 185 = .ok (.ifCond .eq 12, 3) := by decide +kernel
theorem dX5_scanWord_188 : decode cX5_scanWord 188 = .ok (.aload_n 0, 1) := by decide +kernel
theorem dX5_scanWord_189 : decode cX5_scanWord 189 = .ok (.bipush (-3), 2) := by decide +kernel
theorem dX5_scanWord_191 : decode cX5_scanWord 191 = .ok (.putfield 58, 3) := by decide +kernel
theorem dX5_scanWord_194 : decode cX5_scanWord 194 = .ok (.goto 62, 3) := by decide +kernel
theorem dX5_scanWord_197 : decode cX5_scanWord 197 = .ok (.aload_n 0, 1) := by decide +kernel
theorem dX5_scanWord_198 : decode cX5_scanWord 198 = .ok (.ldc 125, 2) := by decide +kernel
theorem dX5_scanWord_200 : decode cX5_scanWord 200 = .ok (.invokevirtual 106, 3) := by decide +kernel
theorem dX5_scanWord_203 : decode cX5_scanWord 203 = .ok (.ifCond .eq 12, 3) := by decide +kernel
theorem dX5_scanWord_206 : decode cX5_scanWord 206 = .ok (.aload_n 0, 1) := by decide +kernel
theorem dX5_scanWord_207 : decode cX5_scanWord 207 = .ok (.bipush (-4), 2) := by decide +kernel
theorem dX5_scanWord_209 : decode cX5_scanWord 209 = .ok (.putfield 58, 3) := by decide +kernel
theorem dX5_scanWord_212 : decode cX5_scanWord 212 = .ok (.goto 44, 3) := by decide +kernel
theorem dX5_scanWord_215 : decode cX5_scanWord 215 = .ok (.aload_n 0, 1) := by decide +kernel
theorem dX5_scanWord_216 : decode cX5_scanWord 216 = .ok (.ldc 127, 2) := by decide +kernel
theorem dX5_scanWord_218 : decode cX5_scanWord 218 = .ok (.invokevirtual 106, 3) := by decide +kernel
theorem dX5_scanWord_221 : decode cX5_scanWord 221 = .ok (.ifCond .eq 12, 3) := by decide +kernel
theorem dX5_scanWord_224 : decode cX5_scanWord 224 = .ok (.aload_n 0, 1) := by decide +kernel
theorem dX5_scanWord_225 : decode cX5_scanWord 225 = .ok (.bipush (-5), 2) := by decide +kernel
theorem dX5_scanWord_227 : decode cX5_scanWord 227 = .ok (.putfield 58, 3) := by decide +kernel
theorem dX5_scanWord_230 : decode cX5_scanWord 230 = .ok (.goto 26, 3) := by decide +kernel
theorem dX5_scanWord_233 : decode cX5_scanWord 233 = .ok (.aload_n 0, 1) := by decide +kernel
theorem dX5_scanWord_234 : decode cX5_scanWord 234 = .ok (.ldc 129, 2) := by decide +kernel
theorem dX5_scanWord_236 : decode cX5_scanWord 236 = .ok (.invokevirtual 106, 3) := by decide +kernel
theorem dX5_scanWord_239 : decode cX5_scanWord 239 = .ok (.ifCond .eq 12, 3) := by decide +kernel
theorem dX5_scanWord_242 : decode cX5_scanWord 242 = .ok (.aload_n 0, 1) := by decide +kernel
theorem dX5_scanWord_243 : decode cX5_scanWord 243 = .ok (.bipush (-6), 2) := by decide +kernel
theorem dX5_scanWord_245 : decode cX5_scanWord 245 = .ok (.putfield 58, 3) := by decide +kernel
theorem dX5_scanWord_248 : decode cX5_scanWord 248 = .ok (.goto 8, 3) := by decide +kernel
theorem dX5_scanWord_251 : decode cX5_scanWord 251 = .ok (.aload_n 0, 1) := by decide +kernel
theorem dX5_scanWord_252 : decode cX5_scanWord 252 = .ok (.iconst 1, 1) := by decide +kernel
theorem dX5_scanWord_253 : decode cX5_scanWord 253 = .ok (.putfield 58, 3) := by decide +kernel
theorem dX5_scanWord_256 : decode cX5_scanWord 256 = .ok (.return_, 1) := by decide +kernel
theorem dX5_advance_0 : decode cX5_advance 0 = .ok (.aload_n 0, 1) := by decide +kernel
theorem dX5_advance_1 : decode cX5_advance 1 = .ok (.getfield 22, 3) := by decide +kernel
theorem dX5_advance_4 : decode cX5_advance 4 = .ok (.iconst (-1), 1) := by decide +kernel
theorem dX5_advance_5 : decode cX5_advance 5 = .ok (.if_icmp .eq 4, 3) := by decide +kernel
theorem dX5_advance_8 : decode cX5_advance 8 = .ok (.return_, 1) := by decide +kernel
theorem dX5_advance_9 : decode cX5_advance 9 = .ok (.aload_n 0, 1) := by decide +kernel
theorem dX5_advance_10 : decode cX5_advance 10 = .ok (.getfield 25, 3) := by decide +kernel
theorem dX5_advance_13 : decode cX5_advance 13 = .ok (.aload_n 0, 1) := by decide +kernel
theorem dX5_advance_14 : decode cX5_advance 14 = .ok (.getfield 18, 3) := by decide +kernel
theorem dX5_advance_17 : decode cX5_advance 17 = .ok (.if_icmp .ge 44, 3) := by decide +kernel
theorem dX5_advance_20 : decode cX5_advance 20 = .ok (.aload_n 0, 1) := by decide +kernel
theorem dX5_advance_21 : decode cX5_advance 21 = .ok (.getfield 9, 3) := by decide +kernel
theorem dX5_advance_24 : decode cX5_advance 24 = .ok (.aload_n 0, 1) := by decide +kernel
theorem dX5_advance_25 : decode cX5_advance 25 = .ok (.getfield 25, 3) := by decide +kernel
theorem dX5_advance_28 : decode cX5_advance 28 = .ok (.iaload, 1) := by decide +kernel
theorem dX5_advance_29 : decode cX5_advance 29 = .ok (.bipush 32, 2) := by decide +kernel
theorem dX5_advance_31 : decode cX5_advance 31 = .ok (.if_icmp .eq 17, 3) := by decide +kernel
theorem dX5_advance_34 : decode cX5_advance 34 = .ok (.aload_n 0, 1) := by decide +kernel
theorem dX5_advance_35 : decode cX5_advance 35 = .ok (.getfield 9, 3) := by decide +kernel
theorem dX5_advance_38 : decode cX5_advance 38 = .ok (.aload_n 0, 1) := by decide +kernel
theorem dX5_advance_39 : decode cX5_advance 39 = .ok (.getfield 25, 3) := by decide +kernel
theorem dX5_advance_42 : decode cX5_advance 42 = .ok (.iaload, 1) := by decide +kernel
theorem dX5_advance_43 : decode cX5_advance 43 = .ok (.bipush 10, 2) := by decide +kernel
theorem dX5_advance_45 : decode cX5_advance 45 = .ok (.if_icmp .ne 16, 3) := by decide +kernel
theorem dX5_advance_48 : decode cX5_advance 48 = .ok (.aload_n 0, 1) := by decide +kernel
theorem dX5_advance_49 : decode cX5_advance 49 = .ok (.dup, 1) := by decide +kernel
theorem dX5_advance_50 : decode cX5_advance 50 = .ok (.getfield 25, 3) := by decide +kernel
theorem dX5_advance_53 : decode cX5_advance 53 = .ok (.iconst 1, 1) := by decide +kernel
theorem dX5_advance_54 : decode cX5_advance 54 = .ok (.iadd, 1) := by decide +kernel
theorem dX5_advance_55 : decode cX5_advance 55 = .ok (.putfield 25, 3) := by decide +kernel
theorem dX5_advance_58 : decode cX5_advance 58 = .ok (.goto (-49), 3) := by decide +kernel
theorem dX5_advance_61 : decode cX5_advance 61 = .ok (.aload_n 0, 1) := by decide +kernel
theorem dX5_advance_62 : decode cX5_advance 62 = .ok (.aload_n 0, 1) := by decide +kernel
theorem dX5_advance_63 : decode cX5_advance 63 = .ok (.getfield 25, 3) := by decide +kernel
theorem dX5_advance_66 : decode cX5_advance 66 = .ok (.putfield 86, 3) := by decide +kernel
theorem dX5_advance_69 : decode cX5_advance 69 = .ok (.aload_n 0, 1) := by decide +kernel
theorem dX5_advance_70 : decode cX5_advance 70 = .ok (.getfield 86, 3) := by decide +kernel
theorem dX5_advance_73 : decode cX5_advance 73 = .ok (.aload_n 0, 1) := by decide +kernel
theorem dX5_advance_74 : decode cX5_advance 74 = .ok (.getfield 18, 3) := by decide +kernel
theorem dX5_advance_77 : decode cX5_advance 77 = .ok (.if_icmp .lt 11, 3) := by decide +kernel
theorem dX5_advance_80 : decode cX5_advance 80 = .ok (.aload_n 0, 1) := by decide +kernel
theorem dX5_advance_81 : decode cX5_advance 81 = .ok (.iconst 0, 1) := by decide +kernel
theorem dX5_advance_82 : decode cX5_advance 82 = .ok (.putfield 58, 3) := by decide +kernel
theorem dX5_advance_85 : decode cX5_advance 85 = .ok (.goto 89, 3) := by decide +kernel
theorem dX5_advance_88 : decode cX5_advance 88 = .ok (.aload_n 0, 1) := by decide +kernel
theorem dX5_advance_89 : decode cX5_advance 89 = .ok (.getfield 9, 3) := by decide +kernel
theorem dX5_advance_92 : decode cX5_advance 92 = .ok (.aload_n 0, 1) := by decide +kernel
theorem dX5_advance_93 : decode cX5_advance 93 = .ok (.getfield 86, 3) := by decide +kernel
theorem dX5_advance_96 : decode cX5_advance 96 = .ok (.iaload, 1) := by decide +kernel
theorem dX5_advance_97 : decode cX5_advance 97 = .ok (.invokestatic 89, 3) := by decide +kernel
theorem dX5_advance_100 : decode cX5_advance 100 = .ok (.ifCond .eq 10, 3) := by decide +kernel
theorem dX5_advance_103 : decode cX5_advance 103 = .ok (.aload_n 0, 1) := by decide +kernel
theorem dX5_advance_104 : decode cX5_advance 104 = .ok (.invokevirtual 92, 3) := by decide +kernel
theorem dX5_advance_107 : decode cX5_advance 107 = .ok (.goto 67, 3) := by decide +kernel
theorem dX5_advance_110 : decode cX5_advance 110 = .ok (.aload_n 0, 1) := by decide +kernel
theorem dX5_advance_111 : decode cX5_advance 111 = .ok (.getfield 9, 3) := by decide +kernel
theorem dX5_advance_114 : decode cX5_advance 114 = .ok (.aload_n 0, 1) := by decide +kernel
theorem dX5_advance_115 : decode cX5_advance 115 = .ok (.getfield 86, 3) := by decide +kernel
theorem dX5_advance_118 : decode cX5_advance 118 = .ok (.iaload, 1) := by decide +kernel
theorem dX5_advance_119 : decode cX5_advance 119 = .ok (.invokestatic 95, 3) := by decide +kernel
theorem dX5_advance_122 : decode cX5_advance 122 = .ok (.ifCond .eq 10, 3) := by decide +kernel
theorem dX5_advance_125 : decode cX5_advance 125 = .ok (.aload_n 0, 1) := by decide +kernel
theorem dX5_advance_126 : decode cX5_advance 126 = .ok (.invokevirtual 98, 3) := by decide +kernel
theorem dX5_advance_129 : decode cX5_advance 129 = .ok (.goto 45, 3) := by decide +kernel
theorem dX5_advance_132 : decode cX5_advance 132 = .ok (.aload_n 0, 1) := by decide +kernel
theorem dX5_advance_133 : decode cX5_advance 133 = .ok (.dup, 1) := by decide +kernel
theorem dX5_advance_134 : decode cX5_advance 134 = .ok (.getfield 25, 3) := by decide +kernel
theorem dX5_advance_137 : decode cX5_advance 137 = .ok (.iconst 1, 1) := by decide +kernel
theorem dX5_advance_138 : decode cX5_advance 138 = .ok (.iadd, 1) := by decide +kernel
theorem dX5_advance_139 : decode cX5_advance 139 = .ok (.putfield 25, 3) := by decide +kernel
theorem dX5_advance_142 : decode cX5_advance 142 = .ok (.aload_n 0, 1) := by decide +kernel
theorem dX5_advance_143 : decode cX5_advance 143 = .ok (.aload_n 0, 1) := by decide +kernel
theorem dX5_advance_144 : decode cX5_advance 144 = .ok (.getfield 9, 3) := by decide +kernel
theorem dX5_advance_147 : decode cX5_advance 147 = .ok (.aload_n 0, 1) := by decide +kernel
theorem dX5_advance_148 : decode cX5_advance 148 = .ok (.getfield 86, 3) := by decide +kernel
theorem dX5_advance_151 : decode cX5_advance 151 = .ok (.iaload, 1) := by decide +kernel
theorem dX5_advance_152 : decode cX5_advance 152 = .ok (.invokestatic 101, 3) := by decide +kernel
theorem dX5_advance_155 : decode cX5_advance 155 = .ok (.ifCond .eq 15, 3) := by decide +kernel
theorem dX5_advance_158 : decode cX5_advance 158 = .ok (.aload_n 0, 1) := by decide +kernel
theorem dX5_advance_159 : decode cX5_advance 159 = .ok (.getfield 9, 3) := by decide +kernel
theorem dX5_advance_162 : decode cX5_advance 162 = .ok (.aload_n 0, 1) := by decide +kernel
theorem dX5_advance_163 : decode cX5_advance 163 = .ok (.getfield 86, 3) := by decide +kernel
theorem dX5_advance_166 : decode cX5_advance 166 = .ok (.iaload, 1) := by decide +kernel
theorem dX5_advance_167 : decode cX5_advance 167 = .ok (.goto 4, 3) := by decide +kernel
theorem dX5_advance_170 : decode cX5_advance 170 = .ok (.iconst 1, 1) := by decide +kernel
theorem dX5_advance_171 : decode cX5_advance 171 = .ok (.putfield 58, 3) := by decide +kernel
theorem dX5_advance_174 : decode cX5_advance 174 = .ok (.return_, 1) := by decide +kernel
theorem dX5_fail_0 : decode cX5_fail 0 = .ok (.aload_n 0, 1) := by decide +kernel
theorem dX5_fail_1 : decode cX5_fail 1 = .ok (.getfield 22, 3) := by decide +kernel
theorem dX5_fail_4 : decode cX5_fail 4 = .ok (.iconst (-1), 1) := by decide +kernel
theorem dX5_fail_5 : decode cX5_fail 5 = .ok (.if_icmp .ne 11, 3) := by decide +kernel
theorem dX5_fail_8 : decode cX5_fail 8 = .ok (.aload_n 0, 1) := by decide +kernel
theorem dX5_fail_9 : decode cX5_fail 9 = .ok (.aload_n 0, 1) := by decide +kernel
theorem dX5_fail_10 : decode cX5_fail 10 = .ok (.getfield 86, 3) := by decide +kernel
theorem dX5_fail_13 : decode cX5_fail 13 = .ok (.putfield 22, 3) := by decide +kernel
theorem dX5_fail_16 : decode cX5_fail 16 = .ok (.aload_n 0, 1) := by decide +kernel
theorem dX5_fail_17 : decode cX5_fail 17 = .ok (.iconst 1, 1) := by decide +kernel
theorem dX5_fail_18 : decode cX5_fail 18 = .ok (.putfield 58, 3) := by decide +kernel
theorem dX5_fail_21 : decode cX5_fail 21 = .ok (.return_, 1) := by decide +kernel
theorem dX5_pass_0 : decode cX5_pass 0 = .ok (.aload_n 0, 1) := by decide +kernel
theorem dX5_pass_1 : decode cX5_pass 1 = .ok (.getfield 58, 3) := by decide +kernel
theorem dX5_pass_4 : decode cX5_pass 4 = .ok (.iload_n 1, 1) := by decide +kernel
theorem dX5_pass_5 : decode cX5_pass 5 = .ok (.if_icmp .ne 10, 3) := by decide +kernel
theorem dX5_pass_8 : decode cX5_pass 8 = .ok (.aload_n 0, 1) := by decide +kernel
theorem dX5_pass_9 : decode cX5_pass 9 = .ok (.invokevirtual 31, 3) := by decide +kernel
theorem dX5_pass_12 : decode cX5_pass 12 = .ok (.goto 7, 3) := by decide +kernel
theorem dX5_pass_15 : decode cX5_pass 15 = .ok (.aload_n 0, 1) := by decide +kernel
theorem dX5_pass_16 : decode cX5_pass 16 = .ok (.invokevirtual 83, 3) := by decide +kernel
theorem dX5_pass_19 : decode cX5_pass 19 = .ok (.return_, 1) := by decide +kernel
theorem dX5_opens_0 : decode cX5_opens 0 = .ok (.iload_n 1, 1) := by decide +kernel
theorem dX5_opens_1 : decode cX5_opens 1 = .ok (.iconst 5, 1) := by decide +kernel
theorem dX5_opens_2 : decode cX5_opens 2 = .ok (.if_icmp .lt 9, 3) := by decide +kernel
theorem dX5_opens_5 : decode cX5_opens 5 = .ok (.aload_n 0, 1) := by decide +kernel
theorem dX5_opens_6 : decode cX5_opens 6 = .ok (.invokevirtual 83, 3) := by decide +kernel
theorem dX5_opens_9 : decode cX5_opens 9 = .ok (.iconst 0, 1) := by decide +kernel
theorem dX5_opens_10 : decode cX5_opens 10 = .ok (.ireturn, 1) := by decide +kernel
theorem dX5_opens_11 : decode cX5_opens 11 = .ok (.aload_n 0, 1) := by decide +kernel
theorem dX5_opens_12 : decode cX5_opens 12 = .ok (.invokevirtual 31, 3) := by decide +kernel
theorem dX5_opens_15 : decode cX5_opens 15 = .ok (.iconst 1, 1) := by decide +kernel
theorem dX5_opens_16 : decode cX5_opens 16 = .ok (.ireturn, 1) := by decide +kernel
theorem dX5_add_0 : decode cX5_add 0 = .ok (.aload_n 0, 1) := by decide +kernel
theorem dX5_add_1 : decode cX5_add 1 = .ok (.getfield 28, 3) := by decide +kernel
theorem dX5_add_4 : decode cX5_add 4 = .ok (.sipush 160, 3) := by decide +kernel
theorem dX5_add_7 : decode cX5_add 7 = .ok (.if_icmp .ge 23, 3) := by decide +kernel
theorem dX5_add_10 : decode cX5_add 10 = .ok (.aload_n 0, 1) := by decide +kernel
theorem dX5_add_11 : decode cX5_add 11 = .ok (.getfield 15, 3) := by decide +kernel
theorem dX5_add_14 : decode cX5_add 14 = .ok (.aload_n 0, 1) := by decide +kernel
theorem dX5_add_15 : decode cX5_add 15 = .ok (.getfield 28, 3) := by decide +kernel
theorem dX5_add_18 : decode cX5_add 18 = .ok (.iload_n 1, 1) := by decide +kernel
theorem dX5_add_19 : decode cX5_add 19 = .ok (.iastore, 1) := by decide +kernel
theorem dX5_add_20 : decode cX5_add 20 = .ok (.aload_n 0, 1) := by decide +kernel
theorem dX5_add_21 : decode cX5_add 21 = .ok (.dup, 1) := by decide +kernel
theorem dX5_add_22 : decode cX5_add 22 = .ok (.getfield 28, 3) := by decide +kernel
theorem dX5_add_25 : decode cX5_add 25 = .ok (.iconst 1, 1) := by decide +kernel
theorem dX5_add_26 : decode cX5_add 26 = .ok (.iadd, 1) := by decide +kernel
theorem dX5_add_27 : decode cX5_add 27 = .ok (.putfield 28, 3) := by decide +kernel
theorem dX5_add_30 : decode cX5_add 30 = .ok (.return_, 1) := by decide +kernel
theorem dX5_readOne_0 : decode cX5_readOne 0 = .ok (.aload_n 0, 1) := by decide +kernel
theorem dX5_readOne_1 : decode cX5_readOne 1 = .ok (.getfield 58, 3) := by decide +kernel
theorem dX5_readOne_4 : decode cX5_readOne 4 = .ok (.iconst 2, 1) := by decide +kernel
theorem dX5_readOne_5 : decode cX5_readOne 5 = .ok (.if_icmp .eq 10, 3) := by decide +kernel
theorem dX5_readOne_8 : decode cX5_readOne 8 = .ok (.aload_n 0, 1) := by decide +kernel
theorem dX5_readOne_9 : decode cX5_readOne 9 = .ok (.getfield 58, 3) := by decide +kernel
theorem dX5_readOne_12 : decode cX5_readOne 12 = .ok (.ifCond .ge 33, 3) := by decide +kernel
theorem dX5_readOne_15 : decode cX5_readOne 15 = .ok (.aload_n 0, 1) := by decide +kernel
theorem dX5_readOne_16 : decode cX5_readOne 16 = .ok (.aload_n 0, 1) := by decide +kernel
theorem dX5_readOne_17 : decode cX5_readOne 17 = .ok (.getfield 58, 3) := by decide +kernel
theorem dX5_readOne_20 : decode cX5_readOne 20 = .ok (.iconst 2, 1) := by decide +kernel
theorem dX5_readOne_21 : decode cX5_readOne 21 = .ok (.if_icmp .ne 10, 3) := by decide +kernel
theorem dX5_readOne_24 : decode cX5_readOne 24 = .ok (.aload_n 0, 1) := by decide +kernel
theorem dX5_readOne_25 : decode cX5_readOne 25 = .ok (.getfield 80, 3) := by decide +kernel
theorem dX5_readOne_28 : decode cX5_readOne 28 = .ok (.goto 7, 3) := by decide +kernel
theorem dX5_readOne_31 : decode cX5_readOne 31 = .ok (.aload_n 0, 1) := by decide +kernel
theorem dX5_readOne_32 : decode cX5_readOne 32 = .ok (.getfield 58, 3) := by decide +kernel
theorem dX5_readOne_35 : decode cX5_readOne 35 = .ok (.invokevirtual 61, 3) := by decide +kernel
theorem dX5_readOne_38 : decode cX5_readOne 38 = .ok (.aload_n 0, 1) := by decide +kernel
theorem dX5_readOne_39 : decode cX5_readOne 39 = .ok (.invokevirtual 31, 3) := by decide +kernel
theorem dX5_readOne_42 : decode cX5_readOne 42 = .ok (.goto 73, 3) := by decide +kernel
theorem dX5_readOne_45 : decode cX5_readOne 45 = .ok (.aload_n 0, 1) := by decide +kernel
theorem dX5_readOne_46 : decode cX5_readOne 46 = .ok (.getfield 58, 3) := by decide +kernel
theorem dX5_readOne_49 : decode cX5_readOne 49 = .ok (.bipush 45, 2) := by decide +kernel
theorem dX5_readOne_51 : decode cX5_readOne 51 = .ok (.if_icmp .ne 27, 3) := by decide +kernel
theorem dX5_readOne_54 : decode cX5_readOne 54 = .ok (.aload_n 0, 1) := by decide +kernel
theorem dX5_readOne_55 : decode cX5_readOne 55 = .ok (.iload_n 1, 1) := by decide +kernel
theorem dX5_readOne_56 : decode cX5_readOne 56 = .ok (.invokevirtual 67, 3) := by decide +kernel
theorem dX5_readOne_59 : decode cX5_readOne 59 = .ok (.ifCond .eq 56, 3) := by decide +kernel
theorem dX5_readOne_62 : decode cX5_readOne 62 = .ok (.aload_n 0, 1) := by decide +kernel
theorem dX5_readOne_63 : decode cX5_readOne 63 = .ok (.iload_n 1, 1) := by decide +kernel
theorem dX5_readOne_64 : decode cX5_readOne 64 = .ok (.iconst 1, 1) := by decide +kernel
theorem dX5_readOne_65 : decode cX5_readOne 65 = .ok (.iadd, 1) := by decide +kernel
theorem dX5_readOne_66 : decode cX5_readOne 66 = .ok (.invokevirtual 77, 3) := by decide +kernel
theorem dX5_readOne_69 : decode cX5_readOne 69 = .ok (.aload_n 0, 1) := by decide +kernel
theorem dX5_readOne_70 : decode cX5_readOne 70 = .ok (.bipush (-22), 2) := by decide +kernel
theorem dX5_readOne_72 : decode cX5_readOne 72 = .ok (.invokevirtual 61, 3) := by decide +kernel
theorem dX5_readOne_75 : decode cX5_readOne 75 = .ok (.goto 40, 3) := by decide +kernel
theorem dX5_readOne_78 : decode cX5_readOne 78 = .ok (.aload_n 0, 1) := by decide +kernel
theorem dX5_readOne_79 : decode cX5_readOne 79 = .ok (.getfield 58, 3) := by decide +kernel
theorem dX5_readOne_82 : decode cX5_readOne 82 = .ok (.bipush 40, 2) := by decide +kernel
theorem dX5_readOne_84 : decode cX5_readOne 84 = .ok (.if_icmp .ne 27, 3) := by decide +kernel
theorem dX5_readOne_87 : decode cX5_readOne 87 = .ok (.aload_n 0, 1) := by decide +kernel
theorem dX5_readOne_88 : decode cX5_readOne 88 = .ok (.iload_n 1, 1) := by decide +kernel
theorem dX5_readOne_89 : decode cX5_readOne 89 = .ok (.invokevirtual 67, 3) := by decide +kernel
theorem dX5_readOne_92 : decode cX5_readOne 92 = .ok (.ifCond .eq 23, 3) := by decide +kernel
theorem dX5_readOne_95 : decode cX5_readOne 95 = .ok (.aload_n 0, 1) := by decide +kernel
theorem dX5_readOne_96 : decode cX5_readOne 96 = .ok (.iload_n 1, 1) := by decide +kernel
theorem dX5_readOne_97 : decode cX5_readOne 97 = .ok (.iconst 1, 1) := by decide +kernel
theorem dX5_readOne_98 : decode cX5_readOne 98 = .ok (.iadd, 1) := by decide +kernel
theorem dX5_readOne_99 : decode cX5_readOne 99 = .ok (.invokevirtual 52, 3) := by decide +kernel
theorem dX5_readOne_102 : decode cX5_readOne 102 = .ok (.aload_n 0, 1) := by decide +kernel
theorem dX5_readOne_103 : decode cX5_readOne 103 = .ok (.bipush 41, 2) := by decide +kernel
theorem dX5_readOne_105 : decode cX5_readOne 105 = .ok (.invokevirtual 38, 3) := by decide +kernel
theorem dX5_readOne_108 : decode cX5_readOne 108 = .ok (.goto 7, 3) := by decide +kernel
theorem dX5_readOne_111 : decode cX5_readOne 111 = .ok (.aload_n 0, 1) := by decide +kernel
theorem dX5_readOne_112 : decode cX5_readOne 112 = .ok (.invokevirtual 83, 3) := by decide +kernel
theorem dX5_readOne_115 : decode cX5_readOne 115 = .ok (.return_, 1) := by decide +kernel
theorem dX5_readTerm_0 : decode cX5_readTerm 0 = .ok (.aload_n 0, 1) := by decide +kernel
theorem dX5_readTerm_1 : decode cX5_readTerm 1 = .ok (.iload_n 1, 1) := by decide +kernel
theorem dX5_readTerm_2 : decode cX5_readTerm 2 = .ok (.invokevirtual 77, 3) := by decide +kernel
theorem dX5_readTerm_5 : decode cX5_readTerm 5 = .ok (.iconst 0, 1) := by decide +kernel
theorem dX5_readTerm_6 : decode cX5_readTerm 6 = .ok (.istore_n 2, 1) := by decide +kernel
theorem dX5_readTerm_7 : decode cX5_readTerm 7 = .ok (.iload_n 2, 1) := by decide +kernel
theorem dX5_readTerm_8 : decode cX5_readTerm 8 = .ok (.sipush 160, 3) := by decide +kernel
theorem dX5_readTerm_11 : decode cX5_readTerm 11 = .ok (.if_icmp .ge 33, 3) := by decide +kernel
theorem dX5_readTerm_14 : decode cX5_readTerm 14 = .ok (.aload_n 0, 1) := by decide +kernel
theorem dX5_readTerm_15 : decode cX5_readTerm 15 = .ok (.getfield 58, 3) := by decide +kernel
theorem dX5_readTerm_18 : decode cX5_readTerm 18 = .ok (.bipush 42, 2) := by decide +kernel
theorem dX5_readTerm_20 : decode cX5_readTerm 20 = .ok (.if_icmp .ne 24, 3) := by decide +kernel
theorem dX5_readTerm_23 : decode cX5_readTerm 23 = .ok (.aload_n 0, 1) := by decide +kernel
theorem dX5_readTerm_24 : decode cX5_readTerm 24 = .ok (.invokevirtual 31, 3) := by decide +kernel
theorem dX5_readTerm_27 : decode cX5_readTerm 27 = .ok (.aload_n 0, 1) := by decide +kernel
theorem dX5_readTerm_28 : decode cX5_readTerm 28 = .ok (.iload_n 1, 1) := by decide +kernel
theorem dX5_readTerm_29 : decode cX5_readTerm 29 = .ok (.invokevirtual 77, 3) := by decide +kernel
theorem dX5_readTerm_32 : decode cX5_readTerm 32 = .ok (.aload_n 0, 1) := by decide +kernel
theorem dX5_readTerm_33 : decode cX5_readTerm 33 = .ok (.bipush (-17), 2) := by decide +kernel
theorem dX5_readTerm_35 : decode cX5_readTerm 35 = .ok (.invokevirtual 61, 3) := by decide +kernel
theorem dX5_readTerm_38 : decode cX5_readTerm 38 = .ok (.iinc 2 1, 3) := by decide +kernel
theorem dX5_readTerm_41 : decode cX5_readTerm 41 = .ok (.goto (-34), 3) := by decide +kernel
theorem dX5_readTerm_44 : decode cX5_readTerm 44 = .ok (.return_, 1) := by decide +kernel
theorem dX5_readSum_0 : decode cX5_readSum 0 = .ok (.aload_n 0, 1) := by decide +kernel
theorem dX5_readSum_1 : decode cX5_readSum 1 = .ok (.iload_n 1, 1) := by decide +kernel
theorem dX5_readSum_2 : decode cX5_readSum 2 = .ok (.invokevirtual 74, 3) := by decide +kernel
theorem dX5_readSum_5 : decode cX5_readSum 5 = .ok (.iconst 0, 1) := by decide +kernel
theorem dX5_readSum_6 : decode cX5_readSum 6 = .ok (.istore_n 2, 1) := by decide +kernel
theorem dX5_readSum_7 : decode cX5_readSum 7 = .ok (.iload_n 2, 1) := by decide +kernel
theorem dX5_readSum_8 : decode cX5_readSum 8 = .ok (.sipush 160, 3) := by decide +kernel
theorem dX5_readSum_11 : decode cX5_readSum 11 = .ok (.if_icmp .ge 58, 3) := by decide +kernel
theorem dX5_readSum_14 : decode cX5_readSum 14 = .ok (.aload_n 0, 1) := by decide +kernel
theorem dX5_readSum_15 : decode cX5_readSum 15 = .ok (.getfield 58, 3) := by decide +kernel
theorem dX5_readSum_18 : decode cX5_readSum 18 = .ok (.bipush 43, 2) := by decide +kernel
theorem dX5_readSum_20 : decode cX5_readSum 20 = .ok (.if_icmp .eq 12, 3) := by decide +kernel
theorem dX5_readSum_23 : decode cX5_readSum 23 = .ok (.aload_n 0, 1) := by decide +kernel
theorem dX5_readSum_24 : decode cX5_readSum 24 = .ok (.getfield 58, 3) := by decide +kernel
theorem dX5_readSum_27 : decode cX5_readSum 27 = .ok (.bipush 45, 2) := by decide +kernel
theorem dX5_readSum_29 : decode cX5_readSum 29 = .ok (.if_icmp .ne 40, 3) := by decide +kernel
theorem dX5_readSum_32 : decode cX5_readSum 32 = .ok (.aload_n 0, 1) := by decide +kernel
theorem dX5_readSum_33 : decode cX5_readSum 33 = .ok (.getfield 58, 3) := by decide +kernel
theorem dX5_readSum_36 : decode cX5_readSum 36 = .ok (.bipush 43, 2) := by decide +kernel
theorem dX5_readSum_38 : decode cX5_readSum 38 = .ok (.if_icmp .ne 8, 3) := by decide +kernel
theorem dX5_readSum_41 : decode cX5_readSum 41 = .ok (.bipush (-15), 2) := by decide +kernel
theorem dX5_readSum_43 : decode cX5_readSum 43 = .ok (.goto 5, 3) := by decide +kernel
theorem dX5_readSum_46 : decode cX5_readSum 46 = .ok (.bipush (-16), 2) := by decide +kernel
theorem dX5_readSum_48 : decode cX5_readSum 48 = .ok (.istore_n 3, 1) := by decide +kernel
theorem dX5_readSum_49 : decode cX5_readSum 49 = .ok (.aload_n 0, 1) := by decide +kernel
theorem dX5_readSum_50 : decode cX5_readSum 50 = .ok (.invokevirtual 31, 3) := by decide +kernel
theorem dX5_readSum_53 : decode cX5_readSum 53 = .ok (.aload_n 0, 1) := by decide +kernel
theorem dX5_readSum_54 : decode cX5_readSum 54 = .ok (.iload_n 1, 1) := by decide +kernel
theorem dX5_readSum_55 : decode cX5_readSum 55 = .ok (.invokevirtual 74, 3) := by decide +kernel
theorem dX5_readSum_58 : decode cX5_readSum 58 = .ok (.aload_n 0, 1) := by decide +kernel
theorem dX5_readSum_59 : decode cX5_readSum 59 = .ok (.iload_n 3, 1) := by decide +kernel
theorem dX5_readSum_60 : decode cX5_readSum 60 = .ok (.invokevirtual 61, 3) := by decide +kernel
theorem dX5_readSum_63 : decode cX5_readSum 63 = .ok (.iinc 2 1, 3) := by decide +kernel
theorem dX5_readSum_66 : decode cX5_readSum 66 = .ok (.goto (-59), 3) := by decide +kernel
theorem dX5_readSum_69 : decode cX5_readSum 69 = .ok (.return_, 1) := by decide +kernel
theorem dX5_readNot_0 : decode cX5_readNot 0 = .ok (.aload_n 0, 1) := by decide +kernel
theorem dX5_readNot_1 : decode cX5_readNot 1 = .ok (.getfield 58, 3) := by decide +kernel
theorem dX5_readNot_4 : decode cX5_readNot 4 = .ok (.bipush 8, 2) := by decide +kernel
theorem dX5_readNot_6 : decode cX5_readNot 6 = .ok (.if_icmp .ne 25, 3) := by decide +kernel
theorem dX5_readNot_9 : decode cX5_readNot 9 = .ok (.aload_n 0, 1) := by decide +kernel
theorem dX5_readNot_10 : decode cX5_readNot 10 = .ok (.iload_n 1, 1) := by decide +kernel
theorem dX5_readNot_11 : decode cX5_readNot 11 = .ok (.invokevirtual 67, 3) := by decide +kernel
theorem dX5_readNot_14 : decode cX5_readNot 14 = .ok (.ifCond .eq 16, 3) := by decide +kernel
theorem dX5_readNot_17 : decode cX5_readNot 17 = .ok (.aload_n 0, 1) := by decide +kernel
theorem dX5_readNot_18 : decode cX5_readNot 18 = .ok (.iload_n 1, 1) := by decide +kernel
theorem dX5_readNot_19 : decode cX5_readNot 19 = .ok (.iconst 1, 1) := by decide +kernel
theorem dX5_readNot_20 : decode cX5_readNot 20 = .ok (.iadd, 1) := by decide +kernel
theorem dX5_readNot_21 : decode cX5_readNot 21 = .ok (.invokevirtual 64, 3) := by decide +kernel
theorem dX5_readNot_24 : decode cX5_readNot 24 = .ok (.aload_n 0, 1) := by decide +kernel
theorem dX5_readNot_25 : decode cX5_readNot 25 = .ok (.bipush (-21), 2) := by decide +kernel
theorem dX5_readNot_27 : decode cX5_readNot 27 = .ok (.invokevirtual 61, 3) := by decide +kernel
theorem dX5_readNot_30 : decode cX5_readNot 30 = .ok (.return_, 1) := by decide +kernel
theorem dX5_readNot_31 : decode cX5_readNot 31 = .ok (.aload_n 0, 1) := by decide +kernel
theorem dX5_readNot_32 : decode cX5_readNot 32 = .ok (.iload_n 1, 1) := by decide +kernel
theorem dX5_readNot_33 : decode cX5_readNot 33 = .ok (.invokevirtual 71, 3) := by decide +kernel
theorem dX5_readNot_36 : decode cX5_readNot 36 = .ok (.aload_n 0, 1) := by decide +kernel
theorem dX5_readNot_37 : decode cX5_readNot 37 = .ok (.getfield 58, 3) := by decide +kernel
theorem dX5_readNot_40 : decode cX5_readNot 40 = .ok (.bipush 60, 2) := by decide +kernel
theorem dX5_readNot_42 : decode cX5_readNot 42 = .ok (.if_icmp .eq 12, 3) := by decide +kernel
theorem dX5_readNot_45 : decode cX5_readNot 45 = .ok (.aload_n 0, 1) := by decide +kernel
theorem dX5_readNot_46 : decode cX5_readNot 46 = .ok (.getfield 58, 3) := by decide +kernel
theorem dX5_readNot_49 : decode cX5_readNot 49 = .ok (.bipush 61, 2) := by decide +kernel
theorem dX5_readNot_51 : decode cX5_readNot 51 = .ok (.if_icmp .ne 34, 3) := by decide +kernel
theorem dX5_readNot_54 : decode cX5_readNot 54 = .ok (.aload_n 0, 1) := by decide +kernel
theorem dX5_readNot_55 : decode cX5_readNot 55 = .ok (.getfield 58, 3) := by decide +kernel
theorem dX5_readNot_58 : decode cX5_readNot 58 = .ok (.bipush 60, 2) := by decide +kernel
theorem dX5_readNot_60 : decode cX5_readNot 60 = .ok (.if_icmp .ne 8, 3) := by decide +kernel
theorem dX5_readNot_63 : decode cX5_readNot 63 = .ok (.bipush (-13), 2) := by decide +kernel
theorem dX5_readNot_65 : decode cX5_readNot 65 = .ok (.goto 5, 3) := by decide +kernel
theorem dX5_readNot_68 : decode cX5_readNot 68 = .ok (.bipush (-14), 2) := by decide +kernel
theorem dX5_readNot_70 : decode cX5_readNot 70 = .ok (.istore_n 2, 1) := by decide +kernel
theorem dX5_readNot_71 : decode cX5_readNot 71 = .ok (.aload_n 0, 1) := by decide +kernel
theorem dX5_readNot_72 : decode cX5_readNot 72 = .ok (.invokevirtual 31, 3) := by decide +kernel
theorem dX5_readNot_75 : decode cX5_readNot 75 = .ok (.aload_n 0, 1) := by decide +kernel
theorem dX5_readNot_76 : decode cX5_readNot 76 = .ok (.iload_n 1, 1) := by decide +kernel
theorem dX5_readNot_77 : decode cX5_readNot 77 = .ok (.invokevirtual 71, 3) := by decide +kernel
theorem dX5_readNot_80 : decode cX5_readNot 80 = .ok (.aload_n 0, 1) := by decide +kernel
theorem dX5_readNot_81 : decode cX5_readNot 81 = .ok (.iload_n 2, 1) := by decide +kernel
theorem dX5_readNot_82 : decode cX5_readNot 82 = .ok (.invokevirtual 61, 3) := by decide +kernel
theorem dX5_readNot_85 : decode cX5_readNot 85 = .ok (.return_, 1) := by decide +kernel
theorem dX5_readAnd_0 : decode cX5_readAnd 0 = .ok (.aload_n 0, 1) := by decide +kernel
theorem dX5_readAnd_1 : decode cX5_readAnd 1 = .ok (.iload_n 1, 1) := by decide +kernel
theorem dX5_readAnd_2 : decode cX5_readAnd 2 = .ok (.invokevirtual 64, 3) := by decide +kernel
theorem dX5_readAnd_5 : decode cX5_readAnd 5 = .ok (.iconst 0, 1) := by decide +kernel
theorem dX5_readAnd_6 : decode cX5_readAnd 6 = .ok (.istore_n 2, 1) := by decide +kernel
theorem dX5_readAnd_7 : decode cX5_readAnd 7 = .ok (.iload_n 2, 1) := by decide +kernel
theorem dX5_readAnd_8 : decode cX5_readAnd 8 = .ok (.sipush 160, 3) := by decide +kernel
theorem dX5_readAnd_11 : decode cX5_readAnd 11 = .ok (.if_icmp .ge 33, 3) := by decide +kernel
theorem dX5_readAnd_14 : decode cX5_readAnd 14 = .ok (.aload_n 0, 1) := by decide +kernel
theorem dX5_readAnd_15 : decode cX5_readAnd 15 = .ok (.getfield 58, 3) := by decide +kernel
theorem dX5_readAnd_18 : decode cX5_readAnd 18 = .ok (.bipush 7, 2) := by decide +kernel
theorem dX5_readAnd_20 : decode cX5_readAnd 20 = .ok (.if_icmp .ne 24, 3) := by decide +kernel
theorem dX5_readAnd_23 : decode cX5_readAnd 23 = .ok (.aload_n 0, 1) := by decide +kernel
theorem dX5_readAnd_24 : decode cX5_readAnd 24 = .ok (.invokevirtual 31, 3) := by decide +kernel
theorem dX5_readAnd_27 : decode cX5_readAnd 27 = .ok (.aload_n 0, 1) := by decide +kernel
theorem dX5_readAnd_28 : decode cX5_readAnd 28 = .ok (.iload_n 1, 1) := by decide +kernel
theorem dX5_readAnd_29 : decode cX5_readAnd 29 = .ok (.invokevirtual 64, 3) := by decide +kernel
theorem dX5_readAnd_32 : decode cX5_readAnd 32 = .ok (.aload_n 0, 1) := by decide +kernel
theorem dX5_readAnd_33 : decode cX5_readAnd 33 = .ok (.bipush (-12), 2) := by decide +kernel
theorem dX5_readAnd_35 : decode cX5_readAnd 35 = .ok (.invokevirtual 61, 3) := by decide +kernel
theorem dX5_readAnd_38 : decode cX5_readAnd 38 = .ok (.iinc 2 1, 3) := by decide +kernel
theorem dX5_readAnd_41 : decode cX5_readAnd 41 = .ok (.goto (-34), 3) := by decide +kernel
theorem dX5_readAnd_44 : decode cX5_readAnd 44 = .ok (.return_, 1) := by decide +kernel
theorem dX5_readE_0 : decode cX5_readE 0 = .ok (.aload_n 0, 1) := by decide +kernel
theorem dX5_readE_1 : decode cX5_readE 1 = .ok (.iload_n 1, 1) := by decide +kernel
theorem dX5_readE_2 : decode cX5_readE 2 = .ok (.invokevirtual 55, 3) := by decide +kernel
theorem dX5_readE_5 : decode cX5_readE 5 = .ok (.iconst 0, 1) := by decide +kernel
theorem dX5_readE_6 : decode cX5_readE 6 = .ok (.istore_n 2, 1) := by decide +kernel
theorem dX5_readE_7 : decode cX5_readE 7 = .ok (.iload_n 2, 1) := by decide +kernel
theorem dX5_readE_8 : decode cX5_readE 8 = .ok (.sipush 160, 3) := by decide +kernel
theorem dX5_readE_11 : decode cX5_readE 11 = .ok (.if_icmp .ge 33, 3) := by decide +kernel
theorem dX5_readE_14 : decode cX5_readE 14 = .ok (.aload_n 0, 1) := by decide +kernel
theorem dX5_readE_15 : decode cX5_readE 15 = .ok (.getfield 58, 3) := by decide +kernel
theorem dX5_readE_18 : decode cX5_readE 18 = .ok (.bipush 6, 2) := by decide +kernel
theorem dX5_readE_20 : decode cX5_readE 20 = .ok (.if_icmp .ne 24, 3) := by decide +kernel
theorem dX5_readE_23 : decode cX5_readE 23 = .ok (.aload_n 0, 1) := by decide +kernel
theorem dX5_readE_24 : decode cX5_readE 24 = .ok (.invokevirtual 31, 3) := by decide +kernel
theorem dX5_readE_27 : decode cX5_readE 27 = .ok (.aload_n 0, 1) := by decide +kernel
theorem dX5_readE_28 : decode cX5_readE 28 = .ok (.iload_n 1, 1) := by decide +kernel
theorem dX5_readE_29 : decode cX5_readE 29 = .ok (.invokevirtual 55, 3) := by decide +kernel
theorem dX5_readE_32 : decode cX5_readE 32 = .ok (.aload_n 0, 1) := by decide +kernel
theorem dX5_readE_33 : decode cX5_readE 33 = .ok (.bipush (-11), 2) := by decide +kernel
theorem dX5_readE_35 : decode cX5_readE 35 = .ok (.invokevirtual 61, 3) := by decide +kernel
theorem dX5_readE_38 : decode cX5_readE 38 = .ok (.iinc 2 1, 3) := by decide +kernel
theorem dX5_readE_41 : decode cX5_readE 41 = .ok (.goto (-34), 3) := by decide +kernel
theorem dX5_readE_44 : decode cX5_readE 44 = .ok (.return_, 1) := by decide +kernel
theorem dX5_readPart_0 : decode cX5_readPart 0 = .ok (.aload_n 0, 1) := by decide +kernel
theorem dX5_readPart_1 : decode cX5_readPart 1 = .ok (.iload_n 1, 1) := by decide +kernel
theorem dX5_readPart_2 : decode cX5_readPart 2 = .ok (.invokevirtual 38, 3) := by decide +kernel
theorem dX5_readPart_5 : decode cX5_readPart 5 = .ok (.aload_n 0, 1) := by decide +kernel
theorem dX5_readPart_6 : decode cX5_readPart 6 = .ok (.iconst 0, 1) := by decide +kernel
theorem dX5_readPart_7 : decode cX5_readPart 7 = .ok (.invokevirtual 52, 3) := by decide +kernel
theorem dX5_readPart_10 : decode cX5_readPart 10 = .ok (.aload_n 0, 1) := by decide +kernel
theorem dX5_readPart_11 : decode cX5_readPart 11 = .ok (.bipush 59, 2) := by decide +kernel
theorem dX5_readPart_13 : decode cX5_readPart 13 = .ok (.invokevirtual 38, 3) := by decide +kernel
theorem dX5_readPart_16 : decode cX5_readPart 16 = .ok (.return_, 1) := by decide +kernel
theorem dJ7_copyOf_59c91_0 : decode cJ7_copyOf_59c91 0 = .ok (.iload_n 1, 1) := by decide +kernel
theorem dJ7_copyOf_59c91_1 : decode cJ7_copyOf_59c91 1 = .ok (.aload_n 0, 1) := by decide +kernel
theorem dJ7_copyOf_59c91_2 : decode cJ7_copyOf_59c91 2 = .ok (.arraylength, 1) := by decide +kernel
theorem dJ7_copyOf_59c91_3 : decode cJ7_copyOf_59c91 3 = .ok (.if_icmp .ne 11, 3) := by decide +kernel
theorem dJ7_copyOf_59c91_6 : decode cJ7_copyOf_59c91 6 = .ok (.aload_n 0, 1) := by decide +kernel
theorem dJ7_copyOf_59c91_7 : decode cJ7_copyOf_59c91 7 = .ok (.invokevirtual 316, 3) := by decide +kernel
theorem dJ7_copyOf_59c91_10 : decode cJ7_copyOf_59c91 10 = .ok (.checkcast 317, 3) := by decide +kernel
theorem dJ7_copyOf_59c91_13 : decode cJ7_copyOf_59c91 13 = .ok (.areturn, 1) := by decide +kernel
theorem dJ7_copyOf_59c91_14 : decode cJ7_copyOf_59c91 14 = .ok (.iload_n 1, 1) := by decide +kernel
theorem dJ7_copyOf_59c91_15 : decode cJ7_copyOf_59c91 15 = .ok (.newarray .int, 2) := by decide +kernel
theorem dJ7_copyOf_59c91_17 : decode cJ7_copyOf_59c91 17 = .ok (.astore_n 2, 1) := by decide +kernel
theorem dJ7_copyOf_59c91_18 : decode cJ7_copyOf_59c91 18 = .ok (.aload_n 0, 1) := by decide +kernel
theorem dJ7_copyOf_59c91_19 : decode cJ7_copyOf_59c91 19 = .ok (.iconst 0, 1) := by decide +kernel
theorem dJ7_copyOf_59c91_20 : decode cJ7_copyOf_59c91 20 = .ok (.aload_n 2, 1) := by decide +kernel
theorem dJ7_copyOf_59c91_21 : decode cJ7_copyOf_59c91 21 = .ok (.iconst 0, 1) := by decide +kernel
theorem dJ7_copyOf_59c91_22 : decode cJ7_copyOf_59c91 22 = .ok (.aload_n 0, 1) := by decide +kernel
theorem dJ7_copyOf_59c91_23 : decode cJ7_copyOf_59c91 23 = .ok (.arraylength, 1) := by decide +kernel
theorem dJ7_copyOf_59c91_24 : decode cJ7_copyOf_59c91 24 = .ok (.iload_n 1, 1) := by decide +kernel
theorem dJ7_copyOf_59c91_25 : decode cJ7_copyOf_59c91 25 = .ok (.invokestatic 304, 3) := by decide +kernel
theorem dJ7_copyOf_59c91_28 : decode cJ7_copyOf_59c91 28 = .ok (.invokestatic 150, 3) := by decide +kernel
theorem dJ7_copyOf_59c91_31 : decode cJ7_copyOf_59c91 31 = .ok (.aload_n 2, 1) := by decide +kernel
theorem dJ7_copyOf_59c91_32 : decode cJ7_copyOf_59c91 32 = .ok (.areturn, 1) := by decide +kernel
theorem dX6_init_0 : decode cX6_init 0 = .ok (.aload_n 0, 1) := by decide +kernel
theorem dX6_init_1 : decode cX6_init 1 = .ok (.invokespecial 3, 3) := by decide +kernel
theorem dX6_init_4 : decode cX6_init 4 = .ok (.aload_n 0, 1) := by decide +kernel
theorem dX6_init_5 : decode cX6_init 5 = .ok (.bipush 6, 2) := by decide +kernel
theorem dX6_init_7 : decode cX6_init 7 = .ok (.newarray .int, 2) := by decide +kernel
theorem dX6_init_9 : decode cX6_init 9 = .ok (.putfield 9, 3) := by decide +kernel
theorem dX6_init_12 : decode cX6_init 12 = .ok (.aload_n 0, 1) := by decide +kernel
theorem dX6_init_13 : decode cX6_init 13 = .ok (.bipush 40, 2) := by decide +kernel
theorem dX6_init_15 : decode cX6_init 15 = .ok (.newarray .int, 2) := by decide +kernel
theorem dX6_init_17 : decode cX6_init 17 = .ok (.putfield 15, 3) := by decide +kernel
theorem dX6_init_20 : decode cX6_init 20 = .ok (.aload_n 0, 1) := by decide +kernel
theorem dX6_init_21 : decode cX6_init 21 = .ok (.aload_n 1, 1) := by decide +kernel
theorem dX6_init_22 : decode cX6_init 22 = .ok (.putfield 18, 3) := by decide +kernel
theorem dX6_init_25 : decode cX6_init 25 = .ok (.aload_n 0, 1) := by decide +kernel
theorem dX6_init_26 : decode cX6_init 26 = .ok (.iload_n 2, 1) := by decide +kernel
theorem dX6_init_27 : decode cX6_init 27 = .ok (.putfield 21, 3) := by decide +kernel
theorem dX6_init_30 : decode cX6_init 30 = .ok (.aload_n 0, 1) := by decide +kernel
theorem dX6_init_31 : decode cX6_init 31 = .ok (.iload_n 3, 1) := by decide +kernel
theorem dX6_init_32 : decode cX6_init 32 = .ok (.putfield 25, 3) := by decide +kernel
theorem dX6_init_35 : decode cX6_init 35 = .ok (.return_, 1) := by decide +kernel
theorem dX5_read_0 : decode cX5_read 0 = .ok (.aload_n 0, 1) := by decide +kernel
theorem dX5_read_1 : decode cX5_read 1 = .ok (.iconst (-1), 1) := by decide +kernel
theorem dX5_read_2 : decode cX5_read 2 = .ok (.putfield 22, 3) := by decide +kernel
theorem dX5_read_5 : decode cX5_read 5 = .ok (.aload_n 0, 1) := by decide +kernel
theorem dX5_read_6 : decode cX5_read 6 = .ok (.iconst 0, 1) := by decide +kernel
theorem dX5_read_7 : decode cX5_read 7 = .ok (.putfield 25, 3) := by decide +kernel
theorem dX5_read_10 : decode cX5_read 10 = .ok (.aload_n 0, 1) := by decide +kernel
theorem dX5_read_11 : decode cX5_read 11 = .ok (.iconst 0, 1) := by decide +kernel
theorem dX5_read_12 : decode cX5_read 12 = .ok (.putfield 28, 3) := by decide +kernel
theorem dX5_read_15 : decode cX5_read 15 = .ok (.aload_n 0, 1) := by decide +kernel
theorem dX5_read_16 : decode cX5_read 16 = .ok (.invokevirtual 31, 3) := by decide +kernel
theorem dX5_read_19 : decode cX5_read 19 = .ok (.aload_n 0, 1) := by decide +kernel
theorem dX5_read_20 : decode cX5_read 20 = .ok (.iconst 3, 1) := by decide +kernel
theorem dX5_read_21 : decode cX5_read 21 = .ok (.invokevirtual 34, 3) := by decide +kernel
theorem dX5_read_24 : decode cX5_read 24 = .ok (.aload_n 0, 1) := by decide +kernel
theorem dX5_read_25 : decode cX5_read 25 = .ok (.getfield 28, 3) := by decide +kernel
theorem dX5_read_28 : decode cX5_read 28 = .ok (.istore_n 1, 1) := by decide +kernel
theorem dX5_read_29 : decode cX5_read 29 = .ok (.aload_n 0, 1) := by decide +kernel
theorem dX5_read_30 : decode cX5_read 30 = .ok (.iconst 4, 1) := by decide +kernel
theorem dX5_read_31 : decode cX5_read 31 = .ok (.invokevirtual 34, 3) := by decide +kernel
theorem dX5_read_34 : decode cX5_read 34 = .ok (.aload_n 0, 1) := by decide +kernel
theorem dX5_read_35 : decode cX5_read 35 = .ok (.getfield 28, 3) := by decide +kernel
theorem dX5_read_38 : decode cX5_read 38 = .ok (.istore_n 2, 1) := by decide +kernel
theorem dX5_read_39 : decode cX5_read 39 = .ok (.aload_n 0, 1) := by decide +kernel
theorem dX5_read_40 : decode cX5_read 40 = .ok (.iconst 5, 1) := by decide +kernel
theorem dX5_read_41 : decode cX5_read 41 = .ok (.invokevirtual 34, 3) := by decide +kernel
theorem dX5_read_44 : decode cX5_read 44 = .ok (.aload_n 0, 1) := by decide +kernel
theorem dX5_read_45 : decode cX5_read 45 = .ok (.iconst 0, 1) := by decide +kernel
theorem dX5_read_46 : decode cX5_read 46 = .ok (.invokevirtual 38, 3) := by decide +kernel
theorem dX5_read_49 : decode cX5_read 49 = .ok (.aload_n 0, 1) := by decide +kernel
theorem dX5_read_50 : decode cX5_read 50 = .ok (.getfield 22, 3) := by decide +kernel
theorem dX5_read_53 : decode cX5_read 53 = .ok (.iconst (-1), 1) := by decide +kernel
theorem dX5_read_54 : decode cX5_read 54 = .ok (.if_icmp .eq 5, 3) := by decide +kernel
theorem dX5_read_57 : decode cX5_read 57 = .ok (.aconst_null, 1) := by decide +kernel
theorem dX5_read_58 : decode cX5_read 58 = .ok (.areturn, 1) := by decide +kernel
theorem dX5_read_59 : decode cX5_read 59 = .ok (.new 41, 3) := by decide +kernel
theorem dX5_read_62 : decode cX5_read 62 = .ok (.dup, 1) := by decide +kernel
theorem dX5_read_63 : decode cX5_read 63 = .ok (.aload_n 0, 1) := by decide +kernel
theorem dX5_read_64 : decode cX5_read 64 = .ok (.getfield 15, 3) := by decide +kernel
theorem dX5_read_67 : decode cX5_read 67 = .ok (.aload_n 0, 1) := by decide +kernel
theorem dX5_read_68 : decode cX5_read 68 = .ok (.getfield 28, 3) := by decide +kernel
theorem dX5_read_71 : decode cX5_read 71 = .ok (.invokestatic 43, 3) := by decide +kernel
theorem dX5_read_74 : decode cX5_read 74 = .ok (.iload_n 1, 1) := by decide +kernel
theorem dX5_read_75 : decode cX5_read 75 = .ok (.iload_n 2, 1) := by decide +kernel
theorem dX5_read_76 : decode cX5_read 76 = .ok (.invokespecial 49, 3) := by decide +kernel
theorem dX5_read_79 : decode cX5_read 79 = .ok (.areturn, 1) := by decide +kernel
theorem dX11_text_0 : decode cX11_text 0 = .ok (.aload_n 0, 1) := by decide +kernel
theorem dX11_text_1 : decode cX11_text 1 = .ok (.getfield 91, 3) := by decide +kernel
theorem dX11_text_4 : decode cX11_text 4 = .ok (.bipush 6, 2) := by decide +kernel
theorem dX11_text_6 : decode cX11_text 6 = .ok (.if_icmp .lt 6, 3) := by decide +kernel
theorem dX11_text_9 : decode cX11_text 9 = .ok (.bipush (-4), 2) := by decide +kernel
theorem dX11_text_11 : decode cX11_text 11 = .ok (.ireturn, 1) := by decide +kernel
theorem dX11_text_12 : decode cX11_text 12 = .ok (.aload_n 0, 1) := by decide +kernel
theorem dX11_text_13 : decode cX11_text 13 = .ok (.getfield 31, 3) := by decide +kernel
theorem dX11_text_16 : decode cX11_text 16 = .ok (.invokevirtual 87, 3) := by decide +kernel
theorem dX11_text_19 : decode cX11_text 19 = .ok (.astore_n 1, 1) := by decide +kernel
theorem dX11_text_20 : decode cX11_text 20 = .ok (.aload_n 0, 1) := by decide +kernel
theorem dX11_text_21 : decode cX11_text 21 = .ok (.getfield 31, 3) := by decide +kernel
theorem dX11_text_24 : decode cX11_text 24 = .ok (.iconst 0, 1) := by decide +kernel
theorem dX11_text_25 : decode cX11_text 25 = .ok (.putfield 95, 3) := by decide +kernel
theorem dX11_text_28 : decode cX11_text 28 = .ok (.aload_n 1, 1) := by decide +kernel
theorem dX11_text_29 : decode cX11_text 29 = .ok (.ifnonnull 14, 3) := by decide +kernel
theorem dX11_text_32 : decode cX11_text 32 = .ok (.bipush (-100), 2) := by decide +kernel
theorem dX11_text_34 : decode cX11_text 34 = .ok (.aload_n 0, 1) := by decide +kernel
theorem dX11_text_35 : decode cX11_text 35 = .ok (.getfield 31, 3) := by decide +kernel
theorem dX11_text_38 : decode cX11_text 38 = .ok (.getfield 156, 3) := by decide +kernel
theorem dX11_text_41 : decode cX11_text 41 = .ok (.isub, 1) := by decide +kernel
theorem dX11_text_42 : decode cX11_text 42 = .ok (.ireturn, 1) := by decide +kernel
theorem dX11_text_43 : decode cX11_text 43 = .ok (.aload_n 0, 1) := by decide +kernel
theorem dX11_text_44 : decode cX11_text 44 = .ok (.getfield 24, 3) := by decide +kernel
theorem dX11_text_47 : decode cX11_text 47 = .ok (.aload_n 0, 1) := by decide +kernel
theorem dX11_text_48 : decode cX11_text 48 = .ok (.getfield 91, 3) := by decide +kernel
theorem dX11_text_51 : decode cX11_text 51 = .ok (.aload_n 1, 1) := by decide +kernel
theorem dX11_text_52 : decode cX11_text 52 = .ok (.aastore, 1) := by decide +kernel
theorem dX11_text_53 : decode cX11_text 53 = .ok (.aload_n 0, 1) := by decide +kernel
theorem dX11_text_54 : decode cX11_text 54 = .ok (.dup, 1) := by decide +kernel
theorem dX11_text_55 : decode cX11_text 55 = .ok (.getfield 91, 3) := by decide +kernel
theorem dX11_text_58 : decode cX11_text 58 = .ok (.iconst 1, 1) := by decide +kernel
theorem dX11_text_59 : decode cX11_text 59 = .ok (.iadd, 1) := by decide +kernel
theorem dX11_text_60 : decode cX11_text 60 = .ok (.putfield 91, 3) := by decide +kernel
theorem dX11_text_63 : decode cX11_text 63 = .ok (.aload_n 0, 1) := by decide +kernel
theorem dX11_text_64 : decode cX11_text 64 = .ok (.getfield 91, 3) := by decide +kernel
theorem dX11_text_67 : decode cX11_text 67 = .ok (.iconst 1, 1) := by decide +kernel
theorem dX11_text_68 : decode cX11_text 68 = .ok (.isub, 1) := by decide +kernel
theorem dX11_text_69 : decode cX11_text 69 = .ok (.ireturn, 1) := by decide +kernel
theorem dX11_force_0 : decode cX11_force 0 = .ok (.iload_n 1, 1) := by decide +kernel
theorem dX11_force_1 : decode cX11_force 1 = .ok (.ifCond .lt 11, 3) := by decide +kernel
theorem dX11_force_4 : decode cX11_force 4 = .ok (.iload_n 1, 1) := by decide +kernel
theorem dX11_force_5 : decode cX11_force 5 = .ok (.aload_n 0, 1) := by decide +kernel
theorem dX11_force_6 : decode cX11_force 6 = .ok (.getfield 91, 3) := by decide +kernel
theorem dX11_force_9 : decode cX11_force 9 = .ok (.if_icmp .lt 6, 3) := by decide +kernel
theorem dX11_force_12 : decode cX11_force 12 = .ok (.bipush (-2), 2) := by decide +kernel
theorem dX11_force_14 : decode cX11_force 14 = .ok (.ireturn, 1) := by decide +kernel
theorem dX11_force_15 : decode cX11_force 15 = .ok (.aload_n 0, 1) := by decide +kernel
theorem dX11_force_16 : decode cX11_force 16 = .ok (.getfield 38, 3) := by decide +kernel
theorem dX11_force_19 : decode cX11_force 19 = .ok (.getfield 159, 3) := by decide +kernel
theorem dX11_force_22 : decode cX11_force 22 = .ok (.istore_n 2, 1) := by decide +kernel
theorem dX11_force_23 : decode cX11_force 23 = .ok (.aload_n 0, 1) := by decide +kernel
theorem dX11_force_24 : decode cX11_force 24 = .ok (.getfield 38, 3) := by decide +kernel
theorem dX11_force_27 : decode cX11_force 27 = .ok (.iload_n 1, 1) := by decide +kernel
theorem dX11_force_28 : decode cX11_force 28 = .ok (.putfield 159, 3) := by decide +kernel
theorem dX11_force_31 : decode cX11_force 31 = .ok (.iload_n 2, 1) := by decide +kernel
theorem dX11_force_32 : decode cX11_force 32 = .ok (.ireturn, 1) := by decide +kernel
theorem dX11_orderOfNow_0 : decode cX11_orderOfNow 0 = .ok (.iconst 0, 1) := by decide +kernel
theorem dX11_orderOfNow_1 : decode cX11_orderOfNow 1 = .ok (.istore_n 1, 1) := by decide +kernel
theorem dX11_orderOfNow_2 : decode cX11_orderOfNow 2 = .ok (.iload_n 1, 1) := by decide +kernel
theorem dX11_orderOfNow_3 : decode cX11_orderOfNow 3 = .ok (.aload_n 0, 1) := by decide +kernel
theorem dX11_orderOfNow_4 : decode cX11_orderOfNow 4 = .ok (.getfield 101, 3) := by decide +kernel
theorem dX11_orderOfNow_7 : decode cX11_orderOfNow 7 = .ok (.if_icmp .ge 16, 3) := by decide +kernel
theorem dX11_orderOfNow_10 : decode cX11_orderOfNow 10 = .ok (.aload_n 0, 1) := by decide +kernel
theorem dX11_orderOfNow_11 : decode cX11_orderOfNow 11 = .ok (.getfield 55, 3) := by decide +kernel
theorem dX11_orderOfNow_14 : decode cX11_orderOfNow 14 = .ok (.iload_n 1, 1) := by decide +kernel
theorem dX11_orderOfNow_15 : decode cX11_orderOfNow 15 = .ok (.iload_n 1, 1) := by decide +kernel
theorem dX11_orderOfNow_16 : decode cX11_orderOfNow 16 = .ok (.iastore, 1) := by decide +kernel
theorem dX11_orderOfNow_17 : decode cX11_orderOfNow 17 = .ok (.iinc 1 1, 3) := by decide +kernel
theorem dX11_orderOfNow_20 : decode cX11_orderOfNow 20 = .ok (.goto (-18), 3) := by decide +kernel
theorem dX11_orderOfNow_23 : decode cX11_orderOfNow 23 = .ok (.return_, 1) := by decide +kernel
theorem dX1_clear_0 : decode cX1_clear 0 = .ok (.aload_n 0, 1) := by decide +kernel
theorem dX1_clear_1 : decode cX1_clear 1 = .ok (.iconst 0, 1) := by decide +kernel
theorem dX1_clear_2 : decode cX1_clear 2 = .ok (.putfield 24, 3) := by decide +kernel
theorem dX1_clear_5 : decode cX1_clear 5 = .ok (.return_, 1) := by decide +kernel
theorem dX1_has_0 : decode cX1_has 0 = .ok (.iload_n 1, 1) := by decide +kernel
theorem dX1_has_1 : decode cX1_has 1 = .ok (.ifCond .lt 15, 3) := by decide +kernel
theorem dX1_has_4 : decode cX1_has 4 = .ok (.iload_n 1, 1) := by decide +kernel
theorem dX1_has_5 : decode cX1_has 5 = .ok (.aload_n 0, 1) := by decide +kernel
theorem dX1_has_6 : decode cX1_has 6 = .ok (.getfield 24, 3) := by decide +kernel
theorem dX1_has_9 : decode cX1_has 9 = .ok (.if_icmp .ge 7, 3) := by decide +kernel
theorem dX1_has_12 : decode cX1_has 12 = .ok (.iconst 1, 1) := by decide +kernel
theorem dX1_has_13 : decode cX1_has 13 = .ok (.goto 4, 3) := by decide +kernel
theorem dX1_has_16 : decode cX1_has 16 = .ok (.iconst 0, 1) := by decide +kernel
theorem dX1_has_17 : decode cX1_has 17 = .ok (.ireturn, 1) := by decide +kernel
theorem dX1_heightOf_0 : decode cX1_heightOf 0 = .ok (.iload_n 1, 1) := by decide +kernel
theorem dX1_heightOf_1 : decode cX1_heightOf 1 = .ok (.ifCond .lt 20, 3) := by decide +kernel
theorem dX1_heightOf_4 : decode cX1_heightOf 4 = .ok (.iload_n 1, 1) := by decide +kernel
theorem dX1_heightOf_5 : decode cX1_heightOf 5 = .ok (.aload_n 0, 1) := by decide +kernel
theorem dX1_heightOf_6 : decode cX1_heightOf 6 = .ok (.getfield 24, 3) := by decide +kernel
theorem dX1_heightOf_9 : decode cX1_heightOf 9 = .ok (.if_icmp .ge 12, 3) := by decide +kernel
theorem dX1_heightOf_12 : decode cX1_heightOf 12 = .ok (.aload_n 0, 1) := by decide +kernel
theorem dX1_heightOf_13 : decode cX1_heightOf 13 = .ok (.getfield 15, 3) := by decide +kernel
theorem dX1_heightOf_16 : decode cX1_heightOf 16 = .ok (.iload_n 1, 1) := by decide +kernel
theorem dX1_heightOf_17 : decode cX1_heightOf 17 = .ok (.iaload, 1) := by decide +kernel
theorem dX1_heightOf_18 : decode cX1_heightOf 18 = .ok (.goto 4, 3) := by decide +kernel
theorem dX1_heightOf_21 : decode cX1_heightOf 21 = .ok (.iconst 0, 1) := by decide +kernel
theorem dX1_heightOf_22 : decode cX1_heightOf 22 = .ok (.ireturn, 1) := by decide +kernel
theorem dX1_topOf_0 : decode cX1_topOf 0 = .ok (.aload_n 0, 1) := by decide +kernel
theorem dX1_topOf_1 : decode cX1_topOf 1 = .ok (.iload_n 1, 1) := by decide +kernel
theorem dX1_topOf_2 : decode cX1_topOf 2 = .ok (.invokevirtual 28, 3) := by decide +kernel
theorem dX1_topOf_5 : decode cX1_topOf 5 = .ok (.istore_n 2, 1) := by decide +kernel
theorem dX1_topOf_6 : decode cX1_topOf 6 = .ok (.iload_n 2, 1) := by decide +kernel
theorem dX1_topOf_7 : decode cX1_topOf 7 = .ok (.ifCond .le 19, 3) := by decide +kernel
theorem dX1_topOf_10 : decode cX1_topOf 10 = .ok (.aload_n 0, 1) := by decide +kernel
theorem dX1_topOf_11 : decode cX1_topOf 11 = .ok (.getfield 9, 3) := by decide +kernel
theorem dX1_topOf_14 : decode cX1_topOf 14 = .ok (.iload_n 1, 1) := by decide +kernel
theorem dX1_topOf_15 : decode cX1_topOf 15 = .ok (.bipush 8, 2) := by decide +kernel
theorem dX1_topOf_17 : decode cX1_topOf 17 = .ok (.imul, 1) := by decide +kernel
theorem dX1_topOf_18 : decode cX1_topOf 18 = .ok (.iload_n 2, 1) := by decide +kernel
theorem dX1_topOf_19 : decode cX1_topOf 19 = .ok (.iadd, 1) := by decide +kernel
theorem dX1_topOf_20 : decode cX1_topOf 20 = .ok (.iconst 1, 1) := by decide +kernel
theorem dX1_topOf_21 : decode cX1_topOf 21 = .ok (.isub, 1) := by decide +kernel
theorem dX1_topOf_22 : decode cX1_topOf 22 = .ok (.iaload, 1) := by decide +kernel
theorem dX1_topOf_23 : decode cX1_topOf 23 = .ok (.goto 4, 3) := by decide +kernel
theorem dX1_topOf_26 : decode cX1_topOf 26 = .ok (.iconst (-1), 1) := by decide +kernel
theorem dX1_topOf_27 : decode cX1_topOf 27 = .ok (.ireturn, 1) := by decide +kernel
theorem dX11_mayLie_0 : decode cX11_mayLie 0 = .ok (.aload_n 1, 1) := by decide +kernel
theorem dX11_mayLie_1 : decode cX11_mayLie 1 = .ok (.iload_n 2, 1) := by decide +kernel
theorem dX11_mayLie_2 : decode cX11_mayLie 2 = .ok (.invokevirtual 238, 3) := by decide +kernel
theorem dX11_mayLie_5 : decode cX11_mayLie 5 = .ok (.ifCond .ne 5, 3) := by decide +kernel
theorem dX11_mayLie_8 : decode cX11_mayLie 8 = .ok (.iconst 0, 1) := by decide +kernel
theorem dX11_mayLie_9 : decode cX11_mayLie 9 = .ok (.ireturn, 1) := by decide +kernel
theorem dX11_mayLie_10 : decode cX11_mayLie 10 = .ok (.aload_n 1, 1) := by decide +kernel
theorem dX11_mayLie_11 : decode cX11_mayLie 11 = .ok (.iload_n 2, 1) := by decide +kernel
theorem dX11_mayLie_12 : decode cX11_mayLie 12 = .ok (.invokevirtual 231, 3) := by decide +kernel
theorem dX11_mayLie_15 : decode cX11_mayLie 15 = .ok (.istore 4, 2) := by decide +kernel
theorem dX11_mayLie_17 : decode cX11_mayLie 17 = .ok (.iload 4, 2) := by decide +kernel
theorem dX11_mayLie_19 : decode cX11_mayLie 19 = .ok (.ifCond .ne 5, 3) := by decide +kernel
theorem dX11_mayLie_22 : decode cX11_mayLie 22 = .ok (.iconst 1, 1) := by decide +kernel
theorem dX11_mayLie_23 : decode cX11_mayLie 23 = .ok (.ireturn, 1) := by decide +kernel
theorem dX11_mayLie_24 : decode cX11_mayLie 24 = .ok (.iload 4, 2) := by decide +kernel
theorem dX11_mayLie_26 : decode cX11_mayLie 26 = .ok (.aload_n 0, 1) := by decide +kernel
theorem dX11_mayLie_27 : decode cX11_mayLie 27 = .ok (.getfield 38, 3) := by decide +kernel
theorem dX11_mayLie_30 : decode cX11_mayLie 30 = .ok (.getfield 118, 3) := by decide +kernel
theorem dX11_mayLie_33 : decode cX11_mayLie 33 = .ok (.if_icmp .ge 24, 3) := by decide +kernel
theorem dX11_mayLie_36 : decode cX11_mayLie 36 = .ok (.aload_n 0, 1) := by decide +kernel
theorem dX11_mayLie_37 : decode cX11_mayLie 37 = .ok (.iconst 0, 1) := by decide +kernel
theorem dX11_mayLie_38 : decode cX11_mayLie 38 = .ok (.iload_n 3, 1) := by decide +kernel
theorem dX11_mayLie_39 : decode cX11_mayLie 39 = .ok (.aload_n 1, 1) := by decide +kernel
theorem dX11_mayLie_40 : decode cX11_mayLie 40 = .ok (.iload_n 2, 1) := by decide +kernel
theorem dX11_mayLie_41 : decode cX11_mayLie 41 = .ok (.invokevirtual 228, 3) := by decide +kernel
theorem dX11_mayLie_44 : decode cX11_mayLie 44 = .ok (.iload 4, 2) := by decide +kernel
theorem dX11_mayLie_46 : decode cX11_mayLie 46 = .ok (.iload_n 2, 1) := by decide +kernel
theorem dX11_mayLie_47 : decode cX11_mayLie 47 = .ok (.invokevirtual 131, 3) := by decide +kernel
theorem dX11_mayLie_50 : decode cX11_mayLie 50 = .ok (.ifCond .eq 7, 3) := by decide +kernel
theorem dX11_mayLie_53 : decode cX11_mayLie 53 = .ok (.iconst 1, 1) := by decide +kernel
theorem dX11_mayLie_54 : decode cX11_mayLie 54 = .ok (.goto 4, 3) := by decide +kernel
theorem dX11_mayLie_57 : decode cX11_mayLie 57 = .ok (.iconst 0, 1) := by decide +kernel
theorem dX11_mayLie_58 : decode cX11_mayLie 58 = .ok (.ireturn, 1) := by decide +kernel
theorem dX11_rankOf_0 : decode cX11_rankOf 0 = .ok (.aload_n 2, 1) := by decide +kernel
theorem dX11_rankOf_1 : decode cX11_rankOf 1 = .ok (.iload_n 3, 1) := by decide +kernel
theorem dX11_rankOf_2 : decode cX11_rankOf 2 = .ok (.invokevirtual 228, 3) := by decide +kernel
theorem dX11_rankOf_5 : decode cX11_rankOf 5 = .ok (.istore 5, 2) := by decide +kernel
theorem dX11_rankOf_7 : decode cX11_rankOf 7 = .ok (.aload_n 0, 1) := by decide +kernel
theorem dX11_rankOf_8 : decode cX11_rankOf 8 = .ok (.iload 5, 2) := by decide +kernel
theorem dX11_rankOf_10 : decode cX11_rankOf 10 = .ok (.invokevirtual 115, 3) := by decide +kernel
theorem dX11_rankOf_13 : decode cX11_rankOf 13 = .ok (.ifCond .eq 12, 3) := by decide +kernel
theorem dX11_rankOf_16 : decode cX11_rankOf 16 = .ok (.aload_n 0, 1) := by decide +kernel
theorem dX11_rankOf_17 : decode cX11_rankOf 17 = .ok (.iload 4, 2) := by decide +kernel
theorem dX11_rankOf_19 : decode cX11_rankOf 19 = .ok (.invokevirtual 115, 3) := by decide +kernel
theorem dX11_rankOf_22 : decode cX11_rankOf 22 = .ok (.ifCond .ne 7, 3) := by decide +kernel
theorem dX11_rankOf_25 : decode cX11_rankOf 25 = .ok (.sipush 1000, 3) := by decide +kernel
theorem dX11_rankOf_28 : decode cX11_rankOf 28 = .ok (.ireturn, 1) := by decide +kernel
theorem dX11_rankOf_29 : decode cX11_rankOf 29 = .ok (.aload_n 1, 1) := by decide +kernel
theorem dX11_rankOf_30 : decode cX11_rankOf 30 = .ok (.iload_n 3, 1) := by decide +kernel
theorem dX11_rankOf_31 : decode cX11_rankOf 31 = .ok (.aload_n 0, 1) := by decide +kernel
theorem dX11_rankOf_32 : decode cX11_rankOf 32 = .ok (.getfield 9, 3) := by decide +kernel
theorem dX11_rankOf_35 : decode cX11_rankOf 35 = .ok (.iload 5, 2) := by decide +kernel
theorem dX11_rankOf_37 : decode cX11_rankOf 37 = .ok (.iaload, 1) := by decide +kernel
theorem dX11_rankOf_38 : decode cX11_rankOf 38 = .ok (.aload_n 0, 1) := by decide +kernel
theorem dX11_rankOf_39 : decode cX11_rankOf 39 = .ok (.getfield 9, 3) := by decide +kernel
theorem dX11_rankOf_42 : decode cX11_rankOf 42 = .ok (.iload 4, 2) := by decide +kernel
theorem dX11_rankOf_44 : decode cX11_rankOf 44 = .ok (.iaload, 1) := by decide +kernel
theorem dX11_rankOf_45 : decode cX11_rankOf 45 = .ok (.aload_n 2, 1) := by decide +kernel
theorem dX11_rankOf_46 : decode cX11_rankOf 46 = .ok (.iload_n 3, 1) := by decide +kernel
theorem dX11_rankOf_47 : decode cX11_rankOf 47 = .ok (.invokevirtual 231, 3) := by decide +kernel
theorem dX11_rankOf_50 : decode cX11_rankOf 50 = .ok (.invokevirtual 234, 3) := by decide +kernel
theorem dX11_rankOf_53 : decode cX11_rankOf 53 = .ok (.ireturn, 1) := by decide +kernel
theorem dX11_chosenBy_0 : decode cX11_chosenBy 0 = .ok (.iconst (-1), 1) := by decide +kernel
theorem dX11_chosenBy_1 : decode cX11_chosenBy 1 = .ok (.istore 4, 2) := by decide +kernel
theorem dX11_chosenBy_3 : decode cX11_chosenBy 3 = .ok (.iconst 0, 1) := by decide +kernel
theorem dX11_chosenBy_4 : decode cX11_chosenBy 4 = .ok (.istore 5, 2) := by decide +kernel
theorem dX11_chosenBy_6 : decode cX11_chosenBy 6 = .ok (.iconst 0, 1) := by decide +kernel
theorem dX11_chosenBy_7 : decode cX11_chosenBy 7 = .ok (.istore 6, 2) := by decide +kernel
theorem dX11_chosenBy_9 : decode cX11_chosenBy 9 = .ok (.iload 6, 2) := by decide +kernel
theorem dX11_chosenBy_11 : decode cX11_chosenBy 11 = .ok (.aload_n 2, 1) := by decide +kernel
theorem dX11_chosenBy_12 : decode cX11_chosenBy 12 = .ok (.getfield 185, 3) := by decide +kernel
theorem dX11_chosenBy_15 : decode cX11_chosenBy 15 = .ok (.if_icmp .ge 55, 3) := by decide +kernel
theorem dX11_chosenBy_18 : decode cX11_chosenBy 18 = .ok (.aload_n 0, 1) := by decide +kernel
theorem dX11_chosenBy_19 : decode cX11_chosenBy 19 = .ok (.aload_n 2, 1) := by decide +kernel
theorem dX11_chosenBy_20 : decode cX11_chosenBy 20 = .ok (.iload 6, 2) := by decide +kernel
theorem dX11_chosenBy_22 : decode cX11_chosenBy 22 = .ok (.iload_n 3, 1) := by decide +kernel
theorem dX11_chosenBy_23 : decode cX11_chosenBy 23 = .ok (.invokevirtual 216, 3) := by decide +kernel
theorem dX11_chosenBy_26 : decode cX11_chosenBy 26 = .ok (.ifCond .ne 6, 3) := by decide +kernel
theorem dX11_chosenBy_29 : decode cX11_chosenBy 29 = .ok (.goto 35, 3) := by decide +kernel
theorem dX11_chosenBy_32 : decode cX11_chosenBy 32 = .ok (.aload_n 0, 1) := by decide +kernel
theorem dX11_chosenBy_33 : decode cX11_chosenBy 33 = .ok (.aload_n 1, 1) := by decide +kernel
theorem dX11_chosenBy_34 : decode cX11_chosenBy 34 = .ok (.aload_n 2, 1) := by decide +kernel
theorem dX11_chosenBy_35 : decode cX11_chosenBy 35 = .ok (.iload 6, 2) := by decide +kernel
theorem dX11_chosenBy_37 : decode cX11_chosenBy 37 = .ok (.iload_n 3, 1) := by decide +kernel
theorem dX11_chosenBy_38 : decode cX11_chosenBy 38 = .ok (.invokevirtual 220, 3) := by decide +kernel
theorem dX11_chosenBy_41 : decode cX11_chosenBy 41 = .ok (.istore 7, 2) := by decide +kernel
theorem dX11_chosenBy_43 : decode cX11_chosenBy 43 = .ok (.iload 4, 2) := by decide +kernel
theorem dX11_chosenBy_45 : decode cX11_chosenBy 45 = .ok (.iconst (-1), 1) := by decide +kernel
theorem dX11_chosenBy_46 : decode cX11_chosenBy 46 = .ok (.if_icmp .eq 10, 3) := by decide +kernel
theorem dX11_chosenBy_49 : decode cX11_chosenBy 49 = .ok (.iload 7, 2) := by decide +kernel
theorem dX11_chosenBy_51 : decode cX11_chosenBy 51 = .ok (.iload 5, 2) := by decide +kernel
theorem dX11_chosenBy_53 : decode cX11_chosenBy 53 = .ok (.if_icmp .ge 11, 3) := by decide +kernel
theorem dX11_chosenBy_56 : decode cX11_chosenBy 56 = .ok (.iload 6, 2) := by decide +kernel
theorem dX11_chosenBy_58 : decode cX11_chosenBy 58 = .ok (.istore 4, 2) := by decide +kernel
theorem dX11_chosenBy_60 : decode cX11_chosenBy 60 = .ok (.iload 7, 2) := by decide +kernel
theorem dX11_chosenBy_62 : decode cX11_chosenBy 62 = .ok (.istore 5, 2) := by decide +kernel
theorem dX11_chosenBy_64 : decode cX11_chosenBy 64 = .ok (.iinc 6 1, 3) := by decide +kernel
theorem dX11_chosenBy_67 : decode cX11_chosenBy 67 = .ok (.goto (-58), 3) := by decide +kernel
theorem dX11_chosenBy_70 : decode cX11_chosenBy 70 = .ok (.iload 4, 2) := by decide +kernel
theorem dX11_chosenBy_72 : decode cX11_chosenBy 72 = .ok (.iconst (-1), 1) := by decide +kernel
theorem dX11_chosenBy_73 : decode cX11_chosenBy 73 = .ok (.if_icmp .eq 16, 3) := by decide +kernel
theorem dX11_chosenBy_76 : decode cX11_chosenBy 76 = .ok (.aload_n 1, 1) := by decide +kernel
theorem dX11_chosenBy_77 : decode cX11_chosenBy 77 = .ok (.iload 5, 2) := by decide +kernel
theorem dX11_chosenBy_79 : decode cX11_chosenBy 79 = .ok (.aload_n 2, 1) := by decide +kernel
theorem dX11_chosenBy_80 : decode cX11_chosenBy 80 = .ok (.getfield 185, 3) := by decide +kernel
theorem dX11_chosenBy_83 : decode cX11_chosenBy 83 = .ok (.invokevirtual 224, 3) := by decide +kernel
theorem dX11_chosenBy_86 : decode cX11_chosenBy 86 = .ok (.ifCond .eq 8, 3) := by decide +kernel
theorem dX11_chosenBy_89 : decode cX11_chosenBy 89 = .ok (.aload_n 2, 1) := by decide +kernel
theorem dX11_chosenBy_90 : decode cX11_chosenBy 90 = .ok (.getfield 185, 3) := by decide +kernel
theorem dX11_chosenBy_93 : decode cX11_chosenBy 93 = .ok (.ireturn, 1) := by decide +kernel
theorem dX11_chosenBy_94 : decode cX11_chosenBy 94 = .ok (.iload 4, 2) := by decide +kernel
theorem dX11_chosenBy_96 : decode cX11_chosenBy 96 = .ok (.ireturn, 1) := by decide +kernel
theorem dX11_priceOf_0 : decode cX11_priceOf 0 = .ok (.iload_n 1, 1) := by decide +kernel
theorem dX11_priceOf_1 : decode cX11_priceOf 1 = .ok (.iconst 1, 1) := by decide +kernel
theorem dX11_priceOf_2 : decode cX11_priceOf 2 = .ok (.if_icmp .ne 30, 3) := by decide +kernel
theorem dX11_priceOf_5 : decode cX11_priceOf 5 = .ok (.aload_n 0, 1) := by decide +kernel
theorem dX11_priceOf_6 : decode cX11_priceOf 6 = .ok (.iconst 1, 1) := by decide +kernel
theorem dX11_priceOf_7 : decode cX11_priceOf 7 = .ok (.iload_n 3, 1) := by decide +kernel
theorem dX11_priceOf_8 : decode cX11_priceOf 8 = .ok (.aload_n 0, 1) := by decide +kernel
theorem dX11_priceOf_9 : decode cX11_priceOf 9 = .ok (.getfield 51, 3) := by decide +kernel
theorem dX11_priceOf_12 : decode cX11_priceOf 12 = .ok (.iload_n 2, 1) := by decide +kernel
theorem dX11_priceOf_13 : decode cX11_priceOf 13 = .ok (.invokevirtual 228, 3) := by decide +kernel
theorem dX11_priceOf_16 : decode cX11_priceOf 16 = .ok (.aload_n 0, 1) := by decide +kernel
theorem dX11_priceOf_17 : decode cX11_priceOf 17 = .ok (.getfield 51, 3) := by decide +kernel
theorem dX11_priceOf_20 : decode cX11_priceOf 20 = .ok (.iload_n 2, 1) := by decide +kernel
theorem dX11_priceOf_21 : decode cX11_priceOf 21 = .ok (.invokevirtual 231, 3) := by decide +kernel
theorem dX11_priceOf_24 : decode cX11_priceOf 24 = .ok (.iload_n 2, 1) := by decide +kernel
theorem dX11_priceOf_25 : decode cX11_priceOf 25 = .ok (.invokevirtual 131, 3) := by decide +kernel
theorem dX11_priceOf_28 : decode cX11_priceOf 28 = .ok (.invokestatic 135, 3) := by decide +kernel
theorem dX11_priceOf_31 : decode cX11_priceOf 31 = .ok (.ireturn, 1) := by decide +kernel
theorem dX11_priceOf_32 : decode cX11_priceOf 32 = .ok (.iload_n 2, 1) := by decide +kernel
theorem dX11_priceOf_33 : decode cX11_priceOf 33 = .ok (.aload_n 0, 1) := by decide +kernel
theorem dX11_priceOf_34 : decode cX11_priceOf 34 = .ok (.getfield 51, 3) := by decide +kernel
theorem dX11_priceOf_37 : decode cX11_priceOf 37 = .ok (.getfield 185, 3) := by decide +kernel
theorem dX11_priceOf_40 : decode cX11_priceOf 40 = .ok (.if_icmp .ne 7, 3) := by decide +kernel
theorem dX11_priceOf_43 : decode cX11_priceOf 43 = .ok (.iconst 1, 1) := by decide +kernel
theorem dX11_priceOf_44 : decode cX11_priceOf 44 = .ok (.goto 4, 3) := by decide +kernel
theorem dX11_priceOf_47 : decode cX11_priceOf 47 = .ok (.iconst 0, 1) := by decide +kernel
theorem dX11_priceOf_48 : decode cX11_priceOf 48 = .ok (.ireturn, 1) := by decide +kernel
theorem dX1_put_0 : decode cX1_put 0 = .ok (.iload_n 2, 1) := by decide +kernel
theorem dX1_put_1 : decode cX1_put 1 = .ok (.ifCond .lt 9, 3) := by decide +kernel
theorem dX1_put_4 : decode cX1_put 4 = .ok (.iload_n 2, 1) := by decide +kernel
theorem dX1_put_5 : decode cX1_put 5 = .ok (.bipush 8, 2) := by decide +kernel
theorem dX1_put_7 : decode cX1_put 7 = .ok (.if_icmp .lt 4, 3) := by decide +kernel
theorem dX1_put_10 : decode cX1_put 10 = .ok (.return_, 1) := by decide +kernel
theorem dX1_put_11 : decode cX1_put 11 = .ok (.iload_n 1, 1) := by decide +kernel
theorem dX1_put_12 : decode cX1_put 12 = .ok (.aload_n 0, 1) := by decide +kernel
theorem dX1_put_13 : decode cX1_put 13 = .ok (.getfield 24, 3) := by decide +kernel
theorem dX1_put_16 : decode cX1_put 16 = .ok (.if_icmp .ne 32, 3) := by decide +kernel
theorem dX1_put_19 : decode cX1_put 19 = .ok (.aload_n 0, 1) := by decide +kernel
theorem dX1_put_20 : decode cX1_put 20 = .ok (.getfield 24, 3) := by decide +kernel
theorem dX1_put_23 : decode cX1_put 23 = .ok (.bipush 8, 2) := by decide +kernel
theorem dX1_put_25 : decode cX1_put 25 = .ok (.if_icmp .ge 23, 3) := by decide +kernel
theorem dX1_put_28 : decode cX1_put 28 = .ok (.aload_n 0, 1) := by decide +kernel
theorem dX1_put_29 : decode cX1_put 29 = .ok (.getfield 15, 3) := by decide +kernel
theorem dX1_put_32 : decode cX1_put 32 = .ok (.aload_n 0, 1) := by decide +kernel
theorem dX1_put_33 : decode cX1_put 33 = .ok (.getfield 24, 3) := by decide +kernel
theorem dX1_put_36 : decode cX1_put 36 = .ok (.iconst 0, 1) := by decide +kernel
theorem dX1_put_37 : decode cX1_put 37 = .ok (.iastore, 1) := by decide +kernel
theorem dX1_put_38 : decode cX1_put 38 = .ok (.aload_n 0, 1) := by decide +kernel
theorem dX1_put_39 : decode cX1_put 39 = .ok (.dup, 1) := by decide +kernel
theorem dX1_put_40 : decode cX1_put 40 = .ok (.getfield 24, 3) := by decide +kernel
theorem dX1_put_43 : decode cX1_put 43 = .ok (.iconst 1, 1) := by decide +kernel
theorem dX1_put_44 : decode cX1_put 44 = .ok (.iadd, 1) := by decide +kernel
theorem dX1_put_45 : decode cX1_put 45 = .ok (.putfield 24, 3) := by decide +kernel
theorem dX1_put_48 : decode cX1_put 48 = .ok (.aload_n 0, 1) := by decide +kernel
theorem dX1_put_49 : decode cX1_put 49 = .ok (.iload_n 1, 1) := by decide +kernel
theorem dX1_put_50 : decode cX1_put 50 = .ok (.invokevirtual 32, 3) := by decide +kernel
theorem dX1_put_53 : decode cX1_put 53 = .ok (.ifCond .eq 14, 3) := by decide +kernel
theorem dX1_put_56 : decode cX1_put 56 = .ok (.aload_n 0, 1) := by decide +kernel
theorem dX1_put_57 : decode cX1_put 57 = .ok (.getfield 15, 3) := by decide +kernel
theorem dX1_put_60 : decode cX1_put 60 = .ok (.iload_n 1, 1) := by decide +kernel
theorem dX1_put_61 : decode cX1_put 61 = .ok (.iaload, 1) := by decide +kernel
theorem dX1_put_62 : decode cX1_put 62 = .ok (.bipush 8, 2) := by decide +kernel
theorem dX1_put_64 : decode cX1_put 64 = .ok (.if_icmp .lt 4, 3) := by decide +kernel
theorem dX1_put_67 : decode cX1_put 67 = .ok (.return_, 1) := by decide +kernel
theorem dX1_put_68 : decode cX1_put 68 = .ok (.aload_n 0, 1) := by decide +kernel
theorem dX1_put_69 : decode cX1_put 69 = .ok (.getfield 18, 3) := by decide +kernel
theorem dX1_put_72 : decode cX1_put 72 = .ok (.iload_n 2, 1) := by decide +kernel
theorem dX1_put_73 : decode cX1_put 73 = .ok (.iload_n 1, 1) := by decide +kernel
theorem dX1_put_74 : decode cX1_put 74 = .ok (.iastore, 1) := by decide +kernel
theorem dX1_put_75 : decode cX1_put 75 = .ok (.aload_n 0, 1) := by decide +kernel
theorem dX1_put_76 : decode cX1_put 76 = .ok (.getfield 21, 3) := by decide +kernel
theorem dX1_put_79 : decode cX1_put 79 = .ok (.iload_n 2, 1) := by decide +kernel
theorem dX1_put_80 : decode cX1_put 80 = .ok (.aload_n 0, 1) := by decide +kernel
theorem dX1_put_81 : decode cX1_put 81 = .ok (.iload_n 1, 1) := by decide +kernel
theorem dX1_put_82 : decode cX1_put 82 = .ok (.invokevirtual 36, 3) := by decide +kernel
theorem dX1_put_85 : decode cX1_put 85 = .ok (.iastore, 1) := by decide +kernel
theorem dX1_put_86 : decode cX1_put 86 = .ok (.aload_n 0, 1) := by decide +kernel
theorem dX1_put_87 : decode cX1_put 87 = .ok (.getfield 9, 3) := by decide +kernel
theorem dX1_put_90 : decode cX1_put 90 = .ok (.iload_n 1, 1) := by decide +kernel
theorem dX1_put_91 : decode cX1_put 91 = .ok (.bipush 8, 2) := by decide +kernel
theorem dX1_put_93 : decode cX1_put 93 = .ok (.imul, 1) := by decide +kernel
theorem dX1_put_94 : decode cX1_put 94 = .ok (.aload_n 0, 1) := by decide +kernel
theorem dX1_put_95 : decode cX1_put 95 = .ok (.getfield 15, 3) := by decide +kernel
theorem dX1_put_98 : decode cX1_put 98 = .ok (.iload_n 1, 1) := by decide +kernel
theorem dX1_put_99 : decode cX1_put 99 = .ok (.iaload, 1) := by decide +kernel
theorem dX1_put_100 : decode cX1_put 100 = .ok (.iadd, 1) := by decide +kernel
theorem dX1_put_101 : decode cX1_put 101 = .ok (.iload_n 2, 1) := by decide +kernel
theorem dX1_put_102 : decode cX1_put 102 = .ok (.iastore, 1) := by decide +kernel
theorem dX1_put_103 : decode cX1_put 103 = .ok (.aload_n 0, 1) := by decide +kernel
theorem dX1_put_104 : decode cX1_put 104 = .ok (.getfield 15, 3) := by decide +kernel
theorem dX1_put_107 : decode cX1_put 107 = .ok (.iload_n 1, 1) := by decide +kernel
theorem dX1_put_108 : decode cX1_put 108 = .ok (.dup2, 1) := by decide +kernel
theorem dX1_put_109 : decode cX1_put 109 = .ok (.iaload, 1) := by decide +kernel
theorem dX1_put_110 : decode cX1_put 110 = .ok (.iconst 1, 1) := by decide +kernel
theorem dX1_put_111 : decode cX1_put 111 = .ok (.iadd, 1) := by decide +kernel
theorem dX1_put_112 : decode cX1_put 112 = .ok (.iastore, 1) := by decide +kernel
theorem dX1_put_113 : decode cX1_put 113 = .ok (.return_, 1) := by decide +kernel
theorem dX11_layInOrder_0 : decode cX11_layInOrder 0 = .ok (.iconst 0, 1) := by decide +kernel
theorem dX11_layInOrder_1 : decode cX11_layInOrder 1 = .ok (.istore_n 3, 1) := by decide +kernel
theorem dX11_layInOrder_2 : decode cX11_layInOrder 2 = .ok (.aload_n 0, 1) := by decide +kernel
theorem dX11_layInOrder_3 : decode cX11_layInOrder 3 = .ok (.getfield 51, 3) := by decide +kernel
theorem dX11_layInOrder_6 : decode cX11_layInOrder 6 = .ok (.invokevirtual 203, 3) := by decide +kernel
theorem dX11_layInOrder_9 : decode cX11_layInOrder 9 = .ok (.iconst 0, 1) := by decide +kernel
theorem dX11_layInOrder_10 : decode cX11_layInOrder 10 = .ok (.istore 4, 2) := by decide +kernel
theorem dX11_layInOrder_12 : decode cX11_layInOrder 12 = .ok (.iload 4, 2) := by decide +kernel
theorem dX11_layInOrder_14 : decode cX11_layInOrder 14 = .ok (.iload_n 2, 1) := by decide +kernel
theorem dX11_layInOrder_15 : decode cX11_layInOrder 15 = .ok (.if_icmp .ge 60, 3) := by decide +kernel
theorem dX11_layInOrder_18 : decode cX11_layInOrder 18 = .ok (.aload_n 0, 1) := by decide +kernel
theorem dX11_layInOrder_19 : decode cX11_layInOrder 19 = .ok (.aload_n 1, 1) := by decide +kernel
theorem dX11_layInOrder_20 : decode cX11_layInOrder 20 = .ok (.aload_n 0, 1) := by decide +kernel
theorem dX11_layInOrder_21 : decode cX11_layInOrder 21 = .ok (.getfield 51, 3) := by decide +kernel
theorem dX11_layInOrder_24 : decode cX11_layInOrder 24 = .ok (.aload_n 0, 1) := by decide +kernel
theorem dX11_layInOrder_25 : decode cX11_layInOrder 25 = .ok (.getfield 55, 3) := by decide +kernel
theorem dX11_layInOrder_28 : decode cX11_layInOrder 28 = .ok (.iload 4, 2) := by decide +kernel
theorem dX11_layInOrder_30 : decode cX11_layInOrder 30 = .ok (.iaload, 1) := by decide +kernel
theorem dX11_layInOrder_31 : decode cX11_layInOrder 31 = .ok (.invokevirtual 206, 3) := by decide +kernel
theorem dX11_layInOrder_34 : decode cX11_layInOrder 34 = .ok (.istore 5, 2) := by decide +kernel
theorem dX11_layInOrder_36 : decode cX11_layInOrder 36 = .ok (.iload_n 3, 1) := by decide +kernel
theorem dX11_layInOrder_37 : decode cX11_layInOrder 37 = .ok (.aload_n 0, 1) := by decide +kernel
theorem dX11_layInOrder_38 : decode cX11_layInOrder 38 = .ok (.iconst 1, 1) := by decide +kernel
theorem dX11_layInOrder_39 : decode cX11_layInOrder 39 = .ok (.iload 5, 2) := by decide +kernel
theorem dX11_layInOrder_41 : decode cX11_layInOrder 41 = .ok (.aload_n 0, 1) := by decide +kernel
theorem dX11_layInOrder_42 : decode cX11_layInOrder 42 = .ok (.getfield 55, 3) := by decide +kernel
theorem dX11_layInOrder_45 : decode cX11_layInOrder 45 = .ok (.iload 4, 2) := by decide +kernel
theorem dX11_layInOrder_47 : decode cX11_layInOrder 47 = .ok (.iaload, 1) := by decide +kernel
theorem dX11_layInOrder_48 : decode cX11_layInOrder 48 = .ok (.invokevirtual 210, 3) := by decide +kernel
theorem dX11_layInOrder_51 : decode cX11_layInOrder 51 = .ok (.iadd, 1) := by decide +kernel
theorem dX11_layInOrder_52 : decode cX11_layInOrder 52 = .ok (.istore_n 3, 1) := by decide +kernel
theorem dX11_layInOrder_53 : decode cX11_layInOrder 53 = .ok (.aload_n 0, 1) := by decide +kernel
theorem dX11_layInOrder_54 : decode cX11_layInOrder 54 = .ok (.getfield 51, 3) := by decide +kernel
theorem dX11_layInOrder_57 : decode cX11_layInOrder 57 = .ok (.iload 5, 2) := by decide +kernel
theorem dX11_layInOrder_59 : decode cX11_layInOrder 59 = .ok (.aload_n 0, 1) := by decide +kernel
theorem dX11_layInOrder_60 : decode cX11_layInOrder 60 = .ok (.getfield 55, 3) := by decide +kernel
theorem dX11_layInOrder_63 : decode cX11_layInOrder 63 = .ok (.iload 4, 2) := by decide +kernel
theorem dX11_layInOrder_65 : decode cX11_layInOrder 65 = .ok (.iaload, 1) := by decide +kernel
theorem dX11_layInOrder_66 : decode cX11_layInOrder 66 = .ok (.invokevirtual 213, 3) := by decide +kernel
theorem dX11_layInOrder_69 : decode cX11_layInOrder 69 = .ok (.iinc 4 1, 3) := by decide +kernel
theorem dX11_layInOrder_72 : decode cX11_layInOrder 72 = .ok (.goto (-60), 3) := by decide +kernel
theorem dX11_layInOrder_75 : decode cX11_layInOrder 75 = .ok (.iload_n 3, 1) := by decide +kernel
theorem dX11_layInOrder_76 : decode cX11_layInOrder 76 = .ok (.ireturn, 1) := by decide +kernel
theorem dX11_by_0 : decode cX11_by 0 = .ok (.aload_n 0, 1) := by decide +kernel
theorem dX11_by_1 : decode cX11_by 1 = .ok (.iload_n 1, 1) := by decide +kernel
theorem dX11_by_2 : decode cX11_by 2 = .ok (.invokevirtual 121, 3) := by decide +kernel
theorem dX11_by_5 : decode cX11_by 5 = .ok (.astore_n 3, 1) := by decide +kernel
theorem dX11_by_6 : decode cX11_by 6 = .ok (.aload_n 3, 1) := by decide +kernel
theorem dX11_by_7 : decode cX11_by 7 = .ok (.ifnull 12, 3) := by decide +kernel
theorem dX11_by_10 : decode cX11_by 10 = .ok (.iload_n 2, 1) := by decide +kernel
theorem dX11_by_11 : decode cX11_by 11 = .ok (.ifCond .lt 8, 3) := by decide +kernel
theorem dX11_by_14 : decode cX11_by 14 = .ok (.iload_n 2, 1) := by decide +kernel
theorem dX11_by_15 : decode cX11_by 15 = .ok (.iconst 1, 1) := by decide +kernel
theorem dX11_by_16 : decode cX11_by 16 = .ok (.if_icmp .le 6, 3) := by decide +kernel
theorem dX11_by_19 : decode cX11_by 19 = .ok (.bipush (-2), 2) := by decide +kernel
theorem dX11_by_21 : decode cX11_by 21 = .ok (.ireturn, 1) := by decide +kernel
theorem dX11_by_22 : decode cX11_by 22 = .ok (.aload_n 0, 1) := by decide +kernel
theorem dX11_by_23 : decode cX11_by 23 = .ok (.invokevirtual 178, 3) := by decide +kernel
theorem dX11_by_26 : decode cX11_by 26 = .ok (.aload_n 0, 1) := by decide +kernel
theorem dX11_by_27 : decode cX11_by 27 = .ok (.aload_n 3, 1) := by decide +kernel
theorem dX11_by_28 : decode cX11_by 28 = .ok (.aload_n 0, 1) := by decide +kernel
theorem dX11_by_29 : decode cX11_by 29 = .ok (.getfield 101, 3) := by decide +kernel
theorem dX11_by_32 : decode cX11_by 32 = .ok (.invokevirtual 181, 3) := by decide +kernel
theorem dX11_by_35 : decode cX11_by 35 = .ok (.istore 4, 2) := by decide +kernel
theorem dX11_by_37 : decode cX11_by 37 = .ok (.iload_n 2, 1) := by decide +kernel
theorem dX11_by_38 : decode cX11_by 38 = .ok (.ifCond .ne 13, 3) := by decide +kernel
theorem dX11_by_41 : decode cX11_by 41 = .ok (.aload_n 0, 1) := by decide +kernel
theorem dX11_by_42 : decode cX11_by 42 = .ok (.getfield 51, 3) := by decide +kernel
theorem dX11_by_45 : decode cX11_by 45 = .ok (.getfield 185, 3) := by decide +kernel
theorem dX11_by_48 : decode cX11_by 48 = .ok (.goto 5, 3) := by decide +kernel
theorem dX11_by_51 : decode cX11_by 51 = .ok (.iload 4, 2) := by decide +kernel
theorem dX11_by_53 : decode cX11_by 53 = .ok (.ireturn, 1) := by decide +kernel
theorem dX11_heapOf_0 : decode cX11_heapOf 0 = .ok (.aload_n 0, 1) := by decide +kernel
theorem dX11_heapOf_1 : decode cX11_heapOf 1 = .ok (.iload_n 1, 1) := by decide +kernel
theorem dX11_heapOf_2 : decode cX11_heapOf 2 = .ok (.invokevirtual 121, 3) := by decide +kernel
theorem dX11_heapOf_5 : decode cX11_heapOf 5 = .ok (.astore_n 3, 1) := by decide +kernel
theorem dX11_heapOf_6 : decode cX11_heapOf 6 = .ok (.aload_n 3, 1) := by decide +kernel
theorem dX11_heapOf_7 : decode cX11_heapOf 7 = .ok (.ifnull 11, 3) := by decide +kernel
theorem dX11_heapOf_10 : decode cX11_heapOf 10 = .ok (.aload_n 0, 1) := by decide +kernel
theorem dX11_heapOf_11 : decode cX11_heapOf 11 = .ok (.iload_n 2, 1) := by decide +kernel
theorem dX11_heapOf_12 : decode cX11_heapOf 12 = .ok (.invokevirtual 115, 3) := by decide +kernel
theorem dX11_heapOf_15 : decode cX11_heapOf 15 = .ok (.ifCond .ne 6, 3) := by decide +kernel
theorem dX11_heapOf_18 : decode cX11_heapOf 18 = .ok (.bipush (-2), 2) := by decide +kernel
theorem dX11_heapOf_20 : decode cX11_heapOf 20 = .ok (.ireturn, 1) := by decide +kernel
theorem dX11_heapOf_21 : decode cX11_heapOf 21 = .ok (.aload_n 0, 1) := by decide +kernel
theorem dX11_heapOf_22 : decode cX11_heapOf 22 = .ok (.invokevirtual 178, 3) := by decide +kernel
theorem dX11_heapOf_25 : decode cX11_heapOf 25 = .ok (.aload_n 0, 1) := by decide +kernel
theorem dX11_heapOf_26 : decode cX11_heapOf 26 = .ok (.aload_n 3, 1) := by decide +kernel
theorem dX11_heapOf_27 : decode cX11_heapOf 27 = .ok (.aload_n 0, 1) := by decide +kernel
theorem dX11_heapOf_28 : decode cX11_heapOf 28 = .ok (.getfield 101, 3) := by decide +kernel
theorem dX11_heapOf_31 : decode cX11_heapOf 31 = .ok (.invokevirtual 181, 3) := by decide +kernel
theorem dX11_heapOf_34 : decode cX11_heapOf 34 = .ok (.pop, 1) := by decide +kernel
theorem dX11_heapOf_35 : decode cX11_heapOf 35 = .ok (.aload_n 0, 1) := by decide +kernel
theorem dX11_heapOf_36 : decode cX11_heapOf 36 = .ok (.getfield 51, 3) := by decide +kernel
theorem dX11_heapOf_39 : decode cX11_heapOf 39 = .ok (.getfield 188, 3) := by decide +kernel
theorem dX11_heapOf_42 : decode cX11_heapOf 42 = .ok (.iload_n 2, 1) := by decide +kernel
theorem dX11_heapOf_43 : decode cX11_heapOf 43 = .ok (.iaload, 1) := by decide +kernel
theorem dX11_heapOf_44 : decode cX11_heapOf 44 = .ok (.ireturn, 1) := by decide +kernel
theorem dX1_drop_0 : decode cX1_drop 0 = .ok (.aload_n 0, 1) := by decide +kernel
theorem dX1_drop_1 : decode cX1_drop 1 = .ok (.iload_n 1, 1) := by decide +kernel
theorem dX1_drop_2 : decode cX1_drop 2 = .ok (.invokevirtual 36, 3) := by decide +kernel
theorem dX1_drop_5 : decode cX1_drop 5 = .ok (.istore_n 2, 1) := by decide +kernel
theorem dX1_drop_6 : decode cX1_drop 6 = .ok (.iload_n 2, 1) := by decide +kernel
theorem dX1_drop_7 : decode cX1_drop 7 = .ok (.iconst (-1), 1) := by decide +kernel
theorem dX1_drop_8 : decode cX1_drop 8 = .ok (.if_icmp .eq 13, 3) := by decide +kernel
theorem dX1_drop_11 : decode cX1_drop 11 = .ok (.aload_n 0, 1) := by decide +kernel
theorem dX1_drop_12 : decode cX1_drop 12 = .ok (.getfield 15, 3) := by decide +kernel
theorem dX1_drop_15 : decode cX1_drop 15 = .ok (.iload_n 1, 1) := by decide +kernel
theorem dX1_drop_16 : decode cX1_drop 16 = .ok (.dup2, 1) := by decide +kernel
theorem dX1_drop_17 : decode cX1_drop 17 = .ok (.iaload, 1) := by decide +kernel
theorem dX1_drop_18 : decode cX1_drop 18 = .ok (.iconst 1, 1) := by decide +kernel
theorem dX1_drop_19 : decode cX1_drop 19 = .ok (.isub, 1) := by decide +kernel
theorem dX1_drop_20 : decode cX1_drop 20 = .ok (.iastore, 1) := by decide +kernel
theorem dX1_drop_21 : decode cX1_drop 21 = .ok (.iload_n 2, 1) := by decide +kernel
theorem dX1_drop_22 : decode cX1_drop 22 = .ok (.ireturn, 1) := by decide +kernel
theorem dX1_undo_0 : decode cX1_undo 0 = .ok (.aload_n 0, 1) := by decide +kernel
theorem dX1_undo_1 : decode cX1_undo 1 = .ok (.iload_n 1, 1) := by decide +kernel
theorem dX1_undo_2 : decode cX1_undo 2 = .ok (.invokevirtual 39, 3) := by decide +kernel
theorem dX1_undo_5 : decode cX1_undo 5 = .ok (.pop, 1) := by decide +kernel
theorem dX1_undo_6 : decode cX1_undo 6 = .ok (.aload_n 0, 1) := by decide +kernel
theorem dX1_undo_7 : decode cX1_undo 7 = .ok (.iload_n 1, 1) := by decide +kernel
theorem dX1_undo_8 : decode cX1_undo 8 = .ok (.invokevirtual 32, 3) := by decide +kernel
theorem dX1_undo_11 : decode cX1_undo 11 = .ok (.ifCond .eq 17, 3) := by decide +kernel
theorem dX1_undo_14 : decode cX1_undo 14 = .ok (.aload_n 0, 1) := by decide +kernel
theorem dX1_undo_15 : decode cX1_undo 15 = .ok (.getfield 15, 3) := by decide +kernel
theorem dX1_undo_18 : decode cX1_undo 18 = .ok (.iload_n 1, 1) := by decide +kernel
theorem dX1_undo_19 : decode cX1_undo 19 = .ok (.iaload, 1) := by decide +kernel
theorem dX1_undo_20 : decode cX1_undo 20 = .ok (.ifCond .ne 8, 3) := by decide +kernel
theorem dX1_undo_23 : decode cX1_undo 23 = .ok (.aload_n 0, 1) := by decide +kernel
theorem dX1_undo_24 : decode cX1_undo 24 = .ok (.iload_n 1, 1) := by decide +kernel
theorem dX1_undo_25 : decode cX1_undo 25 = .ok (.putfield 24, 3) := by decide +kernel
theorem dX1_undo_28 : decode cX1_undo 28 = .ok (.return_, 1) := by decide +kernel
theorem dX11_seekLess_0 : decode cX11_seekLess 0 = .ok (.iload 4, 2) := by decide +kernel
theorem dX11_seekLess_2 : decode cX11_seekLess 2 = .ok (.aload_n 0, 1) := by decide +kernel
theorem dX11_seekLess_3 : decode cX11_seekLess 3 = .ok (.getfield 241, 3) := by decide +kernel
theorem dX11_seekLess_6 : decode cX11_seekLess 6 = .ok (.if_icmp .lt 4, 3) := by decide +kernel
theorem dX11_seekLess_9 : decode cX11_seekLess 9 = .ok (.return_, 1) := by decide +kernel
theorem dX11_seekLess_10 : decode cX11_seekLess 10 = .ok (.iload_n 2, 1) := by decide +kernel
theorem dX11_seekLess_11 : decode cX11_seekLess 11 = .ok (.iload_n 3, 1) := by decide +kernel
theorem dX11_seekLess_12 : decode cX11_seekLess 12 = .ok (.if_icmp .ge 9, 3) := by decide +kernel
theorem dX11_seekLess_15 : decode cX11_seekLess 15 = .ok (.iload_n 2, 1) := by decide +kernel
theorem dX11_seekLess_16 : decode cX11_seekLess 16 = .ok (.bipush 8, 2) := by decide +kernel
theorem dX11_seekLess_18 : decode cX11_seekLess 18 = .ok (.if_icmp .lt 10, 3) := by decide +kernel
theorem dX11_seekLess_21 : decode cX11_seekLess 21 = .ok (.aload_n 0, 1) := by decide +kernel
theorem dX11_seekLess_22 : decode cX11_seekLess 22 = .ok (.iload 4, 2) := by decide +kernel
theorem dX11_seekLess_24 : decode cX11_seekLess 24 = .ok (.putfield 241, 3) := by decide +kernel
theorem dX11_seekLess_27 : decode cX11_seekLess 27 = .ok (.return_, 1) := by decide +kernel
theorem dX11_seekLess_28 : decode cX11_seekLess 28 = .ok (.aload_n 0, 1) := by decide +kernel
theorem dX11_seekLess_29 : decode cX11_seekLess 29 = .ok (.getfield 55, 3) := by decide +kernel
theorem dX11_seekLess_32 : decode cX11_seekLess 32 = .ok (.iload_n 2, 1) := by decide +kernel
theorem dX11_seekLess_33 : decode cX11_seekLess 33 = .ok (.iaload, 1) := by decide +kernel
theorem dX11_seekLess_34 : decode cX11_seekLess 34 = .ok (.istore 5, 2) := by decide +kernel
theorem dX11_seekLess_36 : decode cX11_seekLess 36 = .ok (.aload_n 0, 1) := by decide +kernel
theorem dX11_seekLess_37 : decode cX11_seekLess 37 = .ok (.getfield 51, 3) := by decide +kernel
theorem dX11_seekLess_40 : decode cX11_seekLess 40 = .ok (.getfield 185, 3) := by decide +kernel
theorem dX11_seekLess_43 : decode cX11_seekLess 43 = .ok (.istore 6, 2) := by decide +kernel
theorem dX11_seekLess_45 : decode cX11_seekLess 45 = .ok (.iconst 0, 1) := by decide +kernel
theorem dX11_seekLess_46 : decode cX11_seekLess 46 = .ok (.istore 7, 2) := by decide +kernel
theorem dX11_seekLess_48 : decode cX11_seekLess 48 = .ok (.iload 7, 2) := by decide +kernel
theorem dX11_seekLess_50 : decode cX11_seekLess 50 = .ok (.iload 6, 2) := by decide +kernel
theorem dX11_seekLess_52 : decode cX11_seekLess 52 = .ok (.if_icmp .gt 76, 3) := by decide +kernel
theorem dX11_seekLess_55 : decode cX11_seekLess 55 = .ok (.iload 7, 2) := by decide +kernel
theorem dX11_seekLess_57 : decode cX11_seekLess 57 = .ok (.iload 6, 2) := by decide +kernel
theorem dX11_seekLess_59 : decode cX11_seekLess 59 = .ok (.if_icmp .eq 18, 3) := by decide +kernel
theorem dX11_seekLess_62 : decode cX11_seekLess 62 = .ok (.aload_n 0, 1) := by decide +kernel
theorem dX11_seekLess_63 : decode cX11_seekLess 63 = .ok (.aload_n 0, 1) := by decide +kernel
theorem dX11_seekLess_64 : decode cX11_seekLess 64 = .ok (.getfield 51, 3) := by decide +kernel
theorem dX11_seekLess_67 : decode cX11_seekLess 67 = .ok (.iload 7, 2) := by decide +kernel
theorem dX11_seekLess_69 : decode cX11_seekLess 69 = .ok (.iload 5, 2) := by decide +kernel
theorem dX11_seekLess_71 : decode cX11_seekLess 71 = .ok (.invokevirtual 216, 3) := by decide +kernel
theorem dX11_seekLess_74 : decode cX11_seekLess 74 = .ok (.ifCond .eq 48, 3) := by decide +kernel
theorem dX11_seekLess_77 : decode cX11_seekLess 77 = .ok (.aload_n 0, 1) := by decide +kernel
theorem dX11_seekLess_78 : decode cX11_seekLess 78 = .ok (.iload_n 1, 1) := by decide +kernel
theorem dX11_seekLess_79 : decode cX11_seekLess 79 = .ok (.iload 7, 2) := by decide +kernel
theorem dX11_seekLess_81 : decode cX11_seekLess 81 = .ok (.iload 5, 2) := by decide +kernel
theorem dX11_seekLess_83 : decode cX11_seekLess 83 = .ok (.invokevirtual 210, 3) := by decide +kernel
theorem dX11_seekLess_86 : decode cX11_seekLess 86 = .ok (.istore 8, 2) := by decide +kernel
theorem dX11_seekLess_88 : decode cX11_seekLess 88 = .ok (.aload_n 0, 1) := by decide +kernel
theorem dX11_seekLess_89 : decode cX11_seekLess 89 = .ok (.getfield 51, 3) := by decide +kernel
theorem dX11_seekLess_92 : decode cX11_seekLess 92 = .ok (.iload 7, 2) := by decide +kernel
theorem dX11_seekLess_94 : decode cX11_seekLess 94 = .ok (.iload 5, 2) := by decide +kernel
theorem dX11_seekLess_96 : decode cX11_seekLess 96 = .ok (.invokevirtual 213, 3) := by decide +kernel
theorem dX11_seekLess_99 : decode cX11_seekLess 99 = .ok (.aload_n 0, 1) := by decide +kernel
theorem dX11_seekLess_100 : decode cX11_seekLess 100 = .ok (.iload_n 1, 1) := by decide +kernel
theorem dX11_seekLess_101 : decode cX11_seekLess 101 = .ok (.iload_n 2, 1) := by decide +kernel
theorem dX11_seekLess_102 : decode cX11_seekLess 102 = .ok (.iconst 1, 1) := by decide +kernel
theorem dX11_seekLess_103 : decode cX11_seekLess 103 = .ok (.iadd, 1) := by decide +kernel
theorem dX11_seekLess_104 : decode cX11_seekLess 104 = .ok (.iload_n 3, 1) := by decide +kernel
theorem dX11_seekLess_105 : decode cX11_seekLess 105 = .ok (.iload 4, 2) := by decide +kernel
theorem dX11_seekLess_107 : decode cX11_seekLess 107 = .ok (.iload 8, 2) := by decide +kernel
theorem dX11_seekLess_109 : decode cX11_seekLess 109 = .ok (.iadd, 1) := by decide +kernel
theorem dX11_seekLess_110 : decode cX11_seekLess 110 = .ok (.invokevirtual 244, 3) := by decide +kernel
theorem dX11_seekLess_113 : decode cX11_seekLess 113 = .ok (.aload_n 0, 1) := by decide +kernel
theorem dX11_seekLess_114 : decode cX11_seekLess 114 = .ok (.getfield 51, 3) := by decide +kernel
theorem dX11_seekLess_117 : decode cX11_seekLess 117 = .ok (.iload 7, 2) := by decide +kernel
theorem dX11_seekLess_119 : decode cX11_seekLess 119 = .ok (.invokevirtual 248, 3) := by decide +kernel
theorem dX11_seekLess_122 : decode cX11_seekLess 122 = .ok (.iinc 7 1, 3) := by decide +kernel
theorem dX11_seekLess_125 : decode cX11_seekLess 125 = .ok (.goto (-77), 3) := by decide +kernel
theorem dX11_seekLess_128 : decode cX11_seekLess 128 = .ok (.return_, 1) := by decide +kernel
theorem dX11_leastOf_0 : decode cX11_leastOf 0 = .ok (.aload_n 0, 1) := by decide +kernel
theorem dX11_leastOf_1 : decode cX11_leastOf 1 = .ok (.getfield 51, 3) := by decide +kernel
theorem dX11_leastOf_4 : decode cX11_leastOf 4 = .ok (.invokevirtual 203, 3) := by decide +kernel
theorem dX11_leastOf_7 : decode cX11_leastOf 7 = .ok (.aload_n 0, 1) := by decide +kernel
theorem dX11_leastOf_8 : decode cX11_leastOf 8 = .ok (.iload_n 3, 1) := by decide +kernel
theorem dX11_leastOf_9 : decode cX11_leastOf 9 = .ok (.putfield 241, 3) := by decide +kernel
theorem dX11_leastOf_12 : decode cX11_leastOf 12 = .ok (.aload_n 0, 1) := by decide +kernel
theorem dX11_leastOf_13 : decode cX11_leastOf 13 = .ok (.iload_n 1, 1) := by decide +kernel
theorem dX11_leastOf_14 : decode cX11_leastOf 14 = .ok (.iconst 0, 1) := by decide +kernel
theorem dX11_leastOf_15 : decode cX11_leastOf 15 = .ok (.iload_n 2, 1) := by decide +kernel
