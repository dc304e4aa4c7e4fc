theorem dX12_allOrders_20 : decode cX12_allOrders 20 = .ok (.aload_n 0, 1) := by decide +kernel
theorem dX12_allOrders_21 : decode cX12_allOrders 21 = .ok (.getfield 182, 3) := by decide +kernel
theorem dX12_allOrders_24 : decode cX12_allOrders 24 = .ok (.iload_n 2, 1) := by decide +kernel
theorem dX12_allOrders_25 : decode cX12_allOrders 25 = .ok (.iaload, 1) := by decide +kernel
theorem dX12_allOrders_26 : decode cX12_allOrders 26 = .ok (.iastore, 1) := by decide +kernel
theorem dX12_allOrders_27 : decode cX12_allOrders 27 = .ok (.iinc 2 1, 3) := by decide +kernel
theorem dX12_allOrders_30 : decode cX12_allOrders 30 = .ok (.goto (-23), 3) := by decide +kernel
theorem dX12_allOrders_33 : decode cX12_allOrders 33 = .ok (.iconst 0, 1) := by decide +kernel
theorem dX12_allOrders_34 : decode cX12_allOrders 34 = .ok (.istore_n 2, 1) := by decide +kernel
theorem dX12_allOrders_35 : decode cX12_allOrders 35 = .ok (.iload_n 2, 1) := by decide +kernel
theorem dX12_allOrders_36 : decode cX12_allOrders 36 = .ok (.bipush 9, 2) := by decide +kernel
theorem dX12_allOrders_38 : decode cX12_allOrders 38 = .ok (.if_icmp .ge 16, 3) := by decide +kernel
theorem dX12_allOrders_41 : decode cX12_allOrders 41 = .ok (.aload_n 0, 1) := by decide +kernel
theorem dX12_allOrders_42 : decode cX12_allOrders 42 = .ok (.getfield 188, 3) := by decide +kernel
theorem dX12_allOrders_45 : decode cX12_allOrders 45 = .ok (.iload_n 2, 1) := by decide +kernel
theorem dX12_allOrders_46 : decode cX12_allOrders 46 = .ok (.iconst 0, 1) := by decide +kernel
theorem dX12_allOrders_47 : decode cX12_allOrders 47 = .ok (.iastore, 1) := by decide +kernel
theorem dX12_allOrders_48 : decode cX12_allOrders 48 = .ok (.iinc 2 1, 3) := by decide +kernel
theorem dX12_allOrders_51 : decode cX12_allOrders 51 = .ok (.goto (-16), 3) := by decide +kernel
theorem dX12_allOrders_54 : decode cX12_allOrders 54 = .ok (.aload_n 0, 1) := by decide +kernel
theorem dX12_allOrders_55 : decode cX12_allOrders 55 = .ok (.iconst 0, 1) := by decide +kernel
theorem dX12_allOrders_56 : decode cX12_allOrders 56 = .ok (.putfield 293, 3) := by decide +kernel
theorem dX12_allOrders_59 : decode cX12_allOrders 59 = .ok (.aload_n 0, 1) := by decide +kernel
theorem dX12_allOrders_60 : decode cX12_allOrders 60 = .ok (.iconst 0, 1) := by decide +kernel
theorem dX12_allOrders_61 : decode cX12_allOrders 61 = .ok (.putfield 296, 3) := by decide +kernel
theorem dX12_allOrders_64 : decode cX12_allOrders 64 = .ok (.aload_n 0, 1) := by decide +kernel
theorem dX12_allOrders_65 : decode cX12_allOrders 65 = .ok (.iconst 0, 1) := by decide +kernel
theorem dX12_allOrders_66 : decode cX12_allOrders 66 = .ok (.putfield 299, 3) := by decide +kernel
theorem dX12_allOrders_69 : decode cX12_allOrders 69 = .ok (.aload_n 0, 1) := by decide +kernel
theorem dX12_allOrders_70 : decode cX12_allOrders 70 = .ok (.iconst (-1), 1) := by decide +kernel
theorem dX12_allOrders_71 : decode cX12_allOrders 71 = .ok (.putfield 302, 3) := by decide +kernel
theorem dX12_allOrders_74 : decode cX12_allOrders 74 = .ok (.aload_n 0, 1) := by decide +kernel
theorem dX12_allOrders_75 : decode cX12_allOrders 75 = .ok (.iload_n 1, 1) := by decide +kernel
theorem dX12_allOrders_76 : decode cX12_allOrders 76 = .ok (.iconst 0, 1) := by decide +kernel
theorem dX12_allOrders_77 : decode cX12_allOrders 77 = .ok (.iconst 0, 1) := by decide +kernel
theorem dX12_allOrders_78 : decode cX12_allOrders 78 = .ok (.invokevirtual 305, 3) := by decide +kernel
theorem dX12_allOrders_81 : decode cX12_allOrders 81 = .ok (.aload_n 0, 1) := by decide +kernel
theorem dX12_allOrders_82 : decode cX12_allOrders 82 = .ok (.invokevirtual 275, 3) := by decide +kernel
theorem dX12_allOrders_85 : decode cX12_allOrders 85 = .ok (.return_, 1) := by decide +kernel
theorem dX12_orders__0 : decode cX12_orders_ 0 = .ok (.aload_n 0, 1) := by decide +kernel
theorem dX12_orders__1 : decode cX12_orders_ 1 = .ok (.iload_n 1, 1) := by decide +kernel
theorem dX12_orders__2 : decode cX12_orders_ 2 = .ok (.invokevirtual 34, 3) := by decide +kernel
theorem dX12_orders__5 : decode cX12_orders_ 5 = .ok (.ifCond .eq 13, 3) := by decide +kernel
theorem dX12_orders__8 : decode cX12_orders_ 8 = .ok (.iload_n 2, 1) := by decide +kernel
theorem dX12_orders__9 : decode cX12_orders_ 9 = .ok (.iconst 0, 1) := by decide +kernel
theorem dX12_orders__10 : decode cX12_orders_ 10 = .ok (.bipush 8, 2) := by decide +kernel
theorem dX12_orders__12 : decode cX12_orders_ 12 = .ok (.invokestatic 7, 3) := by decide +kernel
theorem dX12_orders__15 : decode cX12_orders_ 15 = .ok (.ifCond .ne 6, 3) := by decide +kernel
theorem dX12_orders__18 : decode cX12_orders_ 18 = .ok (.bipush (-2), 2) := by decide +kernel
theorem dX12_orders__20 : decode cX12_orders_ 20 = .ok (.ireturn, 1) := by decide +kernel
theorem dX12_orders__21 : decode cX12_orders_ 21 = .ok (.aload_n 0, 1) := by decide +kernel
theorem dX12_orders__22 : decode cX12_orders_ 22 = .ok (.getfield 1, 3) := by decide +kernel
theorem dX12_orders__25 : decode cX12_orders_ 25 = .ok (.bipush 6, 2) := by decide +kernel
theorem dX12_orders__27 : decode cX12_orders_ 27 = .ok (.if_icmp .le 6, 3) := by decide +kernel
theorem dX12_orders__30 : decode cX12_orders_ 30 = .ok (.bipush (-3), 2) := by decide +kernel
theorem dX12_orders__32 : decode cX12_orders_ 32 = .ok (.ireturn, 1) := by decide +kernel
theorem dX12_orders__33 : decode cX12_orders_ 33 = .ok (.aload_n 0, 1) := by decide +kernel
theorem dX12_orders__34 : decode cX12_orders_ 34 = .ok (.iload_n 1, 1) := by decide +kernel
theorem dX12_orders__35 : decode cX12_orders_ 35 = .ok (.invokevirtual 308, 3) := by decide +kernel
theorem dX12_orders__38 : decode cX12_orders_ 38 = .ok (.aload_n 0, 1) := by decide +kernel
theorem dX12_orders__39 : decode cX12_orders_ 39 = .ok (.getfield 188, 3) := by decide +kernel
theorem dX12_orders__42 : decode cX12_orders_ 42 = .ok (.iload_n 2, 1) := by decide +kernel
theorem dX12_orders__43 : decode cX12_orders_ 43 = .ok (.iaload, 1) := by decide +kernel
theorem dX12_orders__44 : decode cX12_orders_ 44 = .ok (.ireturn, 1) := by decide +kernel
theorem dX12_divisor_0 : decode cX12_divisor 0 = .ok (.iload_n 0, 1) := by decide +kernel
theorem dX12_divisor_1 : decode cX12_divisor 1 = .ok (.istore_n 2, 1) := by decide +kernel
theorem dX12_divisor_2 : decode cX12_divisor 2 = .ok (.iload_n 1, 1) := by decide +kernel
theorem dX12_divisor_3 : decode cX12_divisor 3 = .ok (.istore_n 3, 1) := by decide +kernel
theorem dX12_divisor_4 : decode cX12_divisor 4 = .ok (.iload_n 3, 1) := by decide +kernel
theorem dX12_divisor_5 : decode cX12_divisor 5 = .ok (.ifCond .eq 16, 3) := by decide +kernel
theorem dX12_divisor_8 : decode cX12_divisor 8 = .ok (.iload_n 2, 1) := by decide +kernel
theorem dX12_divisor_9 : decode cX12_divisor 9 = .ok (.iload_n 3, 1) := by decide +kernel
theorem dX12_divisor_10 : decode cX12_divisor 10 = .ok (.irem, 1) := by decide +kernel
theorem dX12_divisor_11 : decode cX12_divisor 11 = .ok (.istore 4, 2) := by decide +kernel
theorem dX12_divisor_13 : decode cX12_divisor 13 = .ok (.iload_n 3, 1) := by decide +kernel
theorem dX12_divisor_14 : decode cX12_divisor 14 = .ok (.istore_n 2, 1) := by decide +kernel
theorem dX12_divisor_15 : decode cX12_divisor 15 = .ok (.iload 4, 2) := by decide +kernel
theorem dX12_divisor_17 : decode cX12_divisor 17 = .ok (.istore_n 3, 1) := by decide +kernel
theorem dX12_divisor_18 : decode cX12_divisor 18 = .ok (.goto (-14), 3) := by decide +kernel
theorem dX12_divisor_21 : decode cX12_divisor 21 = .ok (.iload_n 2, 1) := by decide +kernel
theorem dX12_divisor_22 : decode cX12_divisor 22 = .ok (.ireturn, 1) := by decide +kernel
theorem dX12_mean_0 : decode cX12_mean 0 = .ok (.aload_n 0, 1) := by decide +kernel
theorem dX12_mean_1 : decode cX12_mean 1 = .ok (.iload_n 1, 1) := by decide +kernel
theorem dX12_mean_2 : decode cX12_mean 2 = .ok (.invokevirtual 34, 3) := by decide +kernel
theorem dX12_mean_5 : decode cX12_mean 5 = .ok (.ifCond .eq 21, 3) := by decide +kernel
theorem dX12_mean_8 : decode cX12_mean 8 = .ok (.iload_n 2, 1) := by decide +kernel
theorem dX12_mean_9 : decode cX12_mean 9 = .ok (.iconst 0, 1) := by decide +kernel
theorem dX12_mean_10 : decode cX12_mean 10 = .ok (.iconst 1, 1) := by decide +kernel
theorem dX12_mean_11 : decode cX12_mean 11 = .ok (.invokestatic 7, 3) := by decide +kernel
theorem dX12_mean_14 : decode cX12_mean 14 = .ok (.ifCond .eq 12, 3) := by decide +kernel
theorem dX12_mean_17 : decode cX12_mean 17 = .ok (.aload_n 0, 1) := by decide +kernel
theorem dX12_mean_18 : decode cX12_mean 18 = .ok (.getfield 1, 3) := by decide +kernel
theorem dX12_mean_21 : decode cX12_mean 21 = .ok (.bipush 6, 2) := by decide +kernel
theorem dX12_mean_23 : decode cX12_mean 23 = .ok (.if_icmp .le 7, 3) := by decide +kernel
theorem dX12_mean_26 : decode cX12_mean 26 = .ok (.ldc2_w 311, 3) := by decide +kernel
theorem dX12_mean_29 : decode cX12_mean 29 = .ok (.lreturn, 1) := by decide +kernel
theorem dX12_mean_30 : decode cX12_mean 30 = .ok (.aload_n 0, 1) := by decide +kernel
theorem dX12_mean_31 : decode cX12_mean 31 = .ok (.iload_n 1, 1) := by decide +kernel
theorem dX12_mean_32 : decode cX12_mean 32 = .ok (.invokevirtual 308, 3) := by decide +kernel
theorem dX12_mean_35 : decode cX12_mean 35 = .ok (.aload_n 0, 1) := by decide +kernel
theorem dX12_mean_36 : decode cX12_mean 36 = .ok (.getfield 293, 3) := by decide +kernel
theorem dX12_mean_39 : decode cX12_mean 39 = .ok (.aload_n 0, 1) := by decide +kernel
theorem dX12_mean_40 : decode cX12_mean 40 = .ok (.getfield 296, 3) := by decide +kernel
theorem dX12_mean_43 : decode cX12_mean 43 = .ok (.invokestatic 313, 3) := by decide +kernel
theorem dX12_mean_46 : decode cX12_mean 46 = .ok (.istore_n 3, 1) := by decide +kernel
theorem dX12_mean_47 : decode cX12_mean 47 = .ok (.iload_n 2, 1) := by decide +kernel
theorem dX12_mean_48 : decode cX12_mean 48 = .ok (.ifCond .ne 13, 3) := by decide +kernel
theorem dX12_mean_51 : decode cX12_mean 51 = .ok (.aload_n 0, 1) := by decide +kernel
theorem dX12_mean_52 : decode cX12_mean 52 = .ok (.getfield 293, 3) := by decide +kernel
theorem dX12_mean_55 : decode cX12_mean 55 = .ok (.iload_n 3, 1) := by decide +kernel
theorem dX12_mean_56 : decode cX12_mean 56 = .ok (.idiv, 1) := by decide +kernel
theorem dX12_mean_57 : decode cX12_mean 57 = .ok (.i2l, 1) := by decide +kernel
theorem dX12_mean_58 : decode cX12_mean 58 = .ok (.goto 10, 3) := by decide +kernel
theorem dX12_mean_61 : decode cX12_mean 61 = .ok (.aload_n 0, 1) := by decide +kernel
theorem dX12_mean_62 : decode cX12_mean 62 = .ok (.getfield 296, 3) := by decide +kernel
theorem dX12_mean_65 : decode cX12_mean 65 = .ok (.iload_n 3, 1) := by decide +kernel
theorem dX12_mean_66 : decode cX12_mean 66 = .ok (.idiv, 1) := by decide +kernel
theorem dX12_mean_67 : decode cX12_mean 67 = .ok (.i2l, 1) := by decide +kernel
theorem dX12_mean_68 : decode cX12_mean 68 = .ok (.lreturn, 1) := by decide +kernel
theorem dX12_bestOrder_0 : decode cX12_bestOrder 0 = .ok (.aload_n 0, 1) := by decide +kernel
theorem dX12_bestOrder_1 : decode cX12_bestOrder 1 = .ok (.iload_n 1, 1) := by decide +kernel
theorem dX12_bestOrder_2 : decode cX12_bestOrder 2 = .ok (.invokevirtual 34, 3) := by decide +kernel
theorem dX12_bestOrder_5 : decode cX12_bestOrder 5 = .ok (.ifCond .eq 11, 3) := by decide +kernel
theorem dX12_bestOrder_8 : decode cX12_bestOrder 8 = .ok (.aload_n 0, 1) := by decide +kernel
theorem dX12_bestOrder_9 : decode cX12_bestOrder 9 = .ok (.iload_n 2, 1) := by decide +kernel
theorem dX12_bestOrder_10 : decode cX12_bestOrder 10 = .ok (.invokevirtual 27, 3) := by decide +kernel
theorem dX12_bestOrder_13 : decode cX12_bestOrder 13 = .ok (.ifCond .ne 6, 3) := by decide +kernel
theorem dX12_bestOrder_16 : decode cX12_bestOrder 16 = .ok (.bipush (-2), 2) := by decide +kernel
theorem dX12_bestOrder_18 : decode cX12_bestOrder 18 = .ok (.ireturn, 1) := by decide +kernel
theorem dX12_bestOrder_19 : decode cX12_bestOrder 19 = .ok (.aload_n 0, 1) := by decide +kernel
theorem dX12_bestOrder_20 : decode cX12_bestOrder 20 = .ok (.getfield 1, 3) := by decide +kernel
theorem dX12_bestOrder_23 : decode cX12_bestOrder 23 = .ok (.bipush 6, 2) := by decide +kernel
theorem dX12_bestOrder_25 : decode cX12_bestOrder 25 = .ok (.if_icmp .le 6, 3) := by decide +kernel
theorem dX12_bestOrder_28 : decode cX12_bestOrder 28 = .ok (.bipush (-3), 2) := by decide +kernel
theorem dX12_bestOrder_30 : decode cX12_bestOrder 30 = .ok (.ireturn, 1) := by decide +kernel
theorem dX12_bestOrder_31 : decode cX12_bestOrder 31 = .ok (.aload_n 0, 1) := by decide +kernel
theorem dX12_bestOrder_32 : decode cX12_bestOrder 32 = .ok (.iload_n 1, 1) := by decide +kernel
theorem dX12_bestOrder_33 : decode cX12_bestOrder 33 = .ok (.invokevirtual 308, 3) := by decide +kernel
theorem dX12_bestOrder_36 : decode cX12_bestOrder 36 = .ok (.aload_n 0, 1) := by decide +kernel
theorem dX12_bestOrder_37 : decode cX12_bestOrder 37 = .ok (.getfield 191, 3) := by decide +kernel
theorem dX12_bestOrder_40 : decode cX12_bestOrder 40 = .ok (.iload_n 2, 1) := by decide +kernel
theorem dX12_bestOrder_41 : decode cX12_bestOrder 41 = .ok (.iaload, 1) := by decide +kernel
theorem dX12_bestOrder_42 : decode cX12_bestOrder 42 = .ok (.ireturn, 1) := by decide +kernel
theorem dX12_came_0 : decode cX12_came 0 = .ok (.aload_n 0, 1) := by decide +kernel
theorem dX12_came_1 : decode cX12_came 1 = .ok (.iload_n 1, 1) := by decide +kernel
theorem dX12_came_2 : decode cX12_came 2 = .ok (.invokevirtual 34, 3) := by decide +kernel
theorem dX12_came_5 : decode cX12_came 5 = .ok (.ifCond .ne 6, 3) := by decide +kernel
theorem dX12_came_8 : decode cX12_came 8 = .ok (.bipush (-2), 2) := by decide +kernel
theorem dX12_came_10 : decode cX12_came 10 = .ok (.ireturn, 1) := by decide +kernel
theorem dX12_came_11 : decode cX12_came 11 = .ok (.aload_n 0, 1) := by decide +kernel
theorem dX12_came_12 : decode cX12_came 12 = .ok (.getfield 1, 3) := by decide +kernel
theorem dX12_came_15 : decode cX12_came 15 = .ok (.bipush 6, 2) := by decide +kernel
theorem dX12_came_17 : decode cX12_came 17 = .ok (.if_icmp .le 6, 3) := by decide +kernel
theorem dX12_came_20 : decode cX12_came 20 = .ok (.bipush (-3), 2) := by decide +kernel
theorem dX12_came_22 : decode cX12_came 22 = .ok (.ireturn, 1) := by decide +kernel
theorem dX12_came_23 : decode cX12_came 23 = .ok (.aload_n 0, 1) := by decide +kernel
theorem dX12_came_24 : decode cX12_came 24 = .ok (.iload_n 1, 1) := by decide +kernel
theorem dX12_came_25 : decode cX12_came 25 = .ok (.invokevirtual 308, 3) := by decide +kernel
theorem dX12_came_28 : decode cX12_came 28 = .ok (.aload_n 0, 1) := by decide +kernel
theorem dX12_came_29 : decode cX12_came 29 = .ok (.getfield 299, 3) := by decide +kernel
theorem dX12_came_32 : decode cX12_came 32 = .ok (.ireturn, 1) := by decide +kernel
theorem dX12_drawn_0 : decode cX12_drawn 0 = .ok (.aload_n 0, 1) := by decide +kernel
theorem dX12_drawn_1 : decode cX12_drawn 1 = .ok (.iload_n 1, 1) := by decide +kernel
theorem dX12_drawn_2 : decode cX12_drawn 2 = .ok (.invokevirtual 34, 3) := by decide +kernel
theorem dX12_drawn_5 : decode cX12_drawn 5 = .ok (.ifCond .ne 6, 3) := by decide +kernel
theorem dX12_drawn_8 : decode cX12_drawn 8 = .ok (.bipush (-2), 2) := by decide +kernel
theorem dX12_drawn_10 : decode cX12_drawn 10 = .ok (.ireturn, 1) := by decide +kernel
theorem dX12_drawn_11 : decode cX12_drawn 11 = .ok (.iload_n 2, 1) := by decide +kernel
theorem dX12_drawn_12 : decode cX12_drawn 12 = .ok (.istore_n 3, 1) := by decide +kernel
theorem dX12_drawn_13 : decode cX12_drawn 13 = .ok (.iconst 0, 1) := by decide +kernel
theorem dX12_drawn_14 : decode cX12_drawn 14 = .ok (.istore 4, 2) := by decide +kernel
theorem dX12_drawn_16 : decode cX12_drawn 16 = .ok (.iload 4, 2) := by decide +kernel
theorem dX12_drawn_18 : decode cX12_drawn 18 = .ok (.aload_n 0, 1) := by decide +kernel
theorem dX12_drawn_19 : decode cX12_drawn 19 = .ok (.getfield 1, 3) := by decide +kernel
theorem dX12_drawn_22 : decode cX12_drawn 22 = .ok (.iconst 1, 1) := by decide +kernel
theorem dX12_drawn_23 : decode cX12_drawn 23 = .ok (.isub, 1) := by decide +kernel
theorem dX12_drawn_24 : decode cX12_drawn 24 = .ok (.if_icmp .ge 68, 3) := by decide +kernel
theorem dX12_drawn_27 : decode cX12_drawn 27 = .ok (.iload_n 3, 1) := by decide +kernel
theorem dX12_drawn_28 : decode cX12_drawn 28 = .ok (.ldc_w 316, 3) := by decide +kernel
theorem dX12_drawn_31 : decode cX12_drawn 31 = .ok (.imul, 1) := by decide +kernel
theorem dX12_drawn_32 : decode cX12_drawn 32 = .ok (.sipush 12345, 3) := by decide +kernel
theorem dX12_drawn_35 : decode cX12_drawn 35 = .ok (.iadd, 1) := by decide +kernel
theorem dX12_drawn_36 : decode cX12_drawn 36 = .ok (.istore_n 3, 1) := by decide +kernel
theorem dX12_drawn_37 : decode cX12_drawn 37 = .ok (.iload 4, 2) := by decide +kernel
theorem dX12_drawn_39 : decode cX12_drawn 39 = .ok (.iload_n 3, 1) := by decide +kernel
theorem dX12_drawn_40 : decode cX12_drawn 40 = .ok (.bipush 9, 2) := by decide +kernel
theorem dX12_drawn_42 : decode cX12_drawn 42 = .ok (.iushr, 1) := by decide +kernel
theorem dX12_drawn_43 : decode cX12_drawn 43 = .ok (.aload_n 0, 1) := by decide +kernel
theorem dX12_drawn_44 : decode cX12_drawn 44 = .ok (.getfield 1, 3) := by decide +kernel
theorem dX12_drawn_47 : decode cX12_drawn 47 = .ok (.iload 4, 2) := by decide +kernel
theorem dX12_drawn_49 : decode cX12_drawn 49 = .ok (.isub, 1) := by decide +kernel
theorem dX12_drawn_50 : decode cX12_drawn 50 = .ok (.irem, 1) := by decide +kernel
theorem dX12_drawn_51 : decode cX12_drawn 51 = .ok (.iadd, 1) := by decide +kernel
theorem dX12_drawn_52 : decode cX12_drawn 52 = .ok (.istore 5, 2) := by decide +kernel
theorem dX12_drawn_54 : decode cX12_drawn 54 = .ok (.aload_n 0, 1) := by decide +kernel
theorem dX12_drawn_55 : decode cX12_drawn 55 = .ok (.getfield 176, 3) := by decide +kernel
theorem dX12_drawn_58 : decode cX12_drawn 58 = .ok (.iload 4, 2) := by decide +kernel
theorem dX12_drawn_60 : decode cX12_drawn 60 = .ok (.iaload, 1) := by decide +kernel
theorem dX12_drawn_61 : decode cX12_drawn 61 = .ok (.istore 6, 2) := by decide +kernel
theorem dX12_drawn_63 : decode cX12_drawn 63 = .ok (.aload_n 0, 1) := by decide +kernel
theorem dX12_drawn_64 : decode cX12_drawn 64 = .ok (.getfield 176, 3) := by decide +kernel
theorem dX12_drawn_67 : decode cX12_drawn 67 = .ok (.iload 4, 2) := by decide +kernel
theorem dX12_drawn_69 : decode cX12_drawn 69 = .ok (.aload_n 0, 1) := by decide +kernel
theorem dX12_drawn_70 : decode cX12_drawn 70 = .ok (.getfield 176, 3) := by decide +kernel
theorem dX12_drawn_73 : decode cX12_drawn 73 = .ok (.iload 5, 2) := by decide +kernel
theorem dX12_drawn_75 : decode cX12_drawn 75 = .ok (.iaload, 1) := by decide +kernel
theorem dX12_drawn_76 : decode cX12_drawn 76 = .ok (.iastore, 1) := by decide +kernel
theorem dX12_drawn_77 : decode cX12_drawn 77 = .ok (.aload_n 0, 1) := by decide +kernel
theorem dX12_drawn_78 : decode cX12_drawn 78 = .ok (.getfield 176, 3) := by decide +kernel
theorem dX12_drawn_81 : decode cX12_drawn 81 = .ok (.iload 5, 2) := by decide +kernel
theorem dX12_drawn_83 : decode cX12_drawn 83 = .ok (.iload 6, 2) := by decide +kernel
theorem dX12_drawn_85 : decode cX12_drawn 85 = .ok (.iastore, 1) := by decide +kernel
theorem dX12_drawn_86 : decode cX12_drawn 86 = .ok (.iinc 4 1, 3) := by decide +kernel
theorem dX12_drawn_89 : decode cX12_drawn 89 = .ok (.goto (-73), 3) := by decide +kernel
theorem dX12_drawn_92 : decode cX12_drawn 92 = .ok (.aload_n 0, 1) := by decide +kernel
theorem dX12_drawn_93 : decode cX12_drawn 93 = .ok (.iload_n 1, 1) := by decide +kernel
theorem dX12_drawn_94 : decode cX12_drawn 94 = .ok (.invokevirtual 256, 3) := by decide +kernel
theorem dX12_drawn_97 : decode cX12_drawn 97 = .ok (.aload_n 0, 1) := by decide +kernel
theorem dX12_drawn_98 : decode cX12_drawn 98 = .ok (.invokevirtual 275, 3) := by decide +kernel
theorem dX12_drawn_101 : decode cX12_drawn 101 = .ok (.aload_n 0, 1) := by decide +kernel
theorem dX12_drawn_102 : decode cX12_drawn 102 = .ok (.getfield 225, 3) := by decide +kernel
theorem dX12_drawn_105 : decode cX12_drawn 105 = .ok (.ireturn, 1) := by decide +kernel
theorem dX12_isSheet_0 : decode cX12_isSheet 0 = .ok (.iload_n 0, 1) := by decide +kernel
theorem dX12_isSheet_1 : decode cX12_isSheet 1 = .ok (.iconst 0, 1) := by decide +kernel
theorem dX12_isSheet_2 : decode cX12_isSheet 2 = .ok (.iconst 3, 1) := by decide +kernel
theorem dX12_isSheet_3 : decode cX12_isSheet 3 = .ok (.invokestatic 7, 3) := by decide +kernel
theorem dX12_isSheet_6 : decode cX12_isSheet 6 = .ok (.ireturn, 1) := by decide +kernel
theorem dX12_judge_0 : decode cX12_judge 0 = .ok (.iload_n 1, 1) := by decide +kernel
theorem dX12_judge_1 : decode cX12_judge 1 = .ok (.invokestatic 317, 3) := by decide +kernel
theorem dX12_judge_4 : decode cX12_judge 4 = .ok (.ifCond .ne 6, 3) := by decide +kernel
theorem dX12_judge_7 : decode cX12_judge 7 = .ok (.bipush (-2), 2) := by decide +kernel
theorem dX12_judge_9 : decode cX12_judge 9 = .ok (.ireturn, 1) := by decide +kernel
theorem dX12_judge_10 : decode cX12_judge 10 = .ok (.aload_n 0, 1) := by decide +kernel
theorem dX12_judge_11 : decode cX12_judge 11 = .ok (.getfield 209, 3) := by decide +kernel
theorem dX12_judge_14 : decode cX12_judge 14 = .ok (.iload_n 1, 1) := by decide +kernel
theorem dX12_judge_15 : decode cX12_judge 15 = .ok (.iaload, 1) := by decide +kernel
theorem dX12_judge_16 : decode cX12_judge 16 = .ok (.ifCond .ge 6, 3) := by decide +kernel
theorem dX12_judge_19 : decode cX12_judge 19 = .ok (.bipush (-11), 2) := by decide +kernel
theorem dX12_judge_21 : decode cX12_judge 21 = .ok (.ireturn, 1) := by decide +kernel
theorem dX12_judge_22 : decode cX12_judge 22 = .ok (.aload_n 0, 1) := by decide +kernel
theorem dX12_judge_23 : decode cX12_judge 23 = .ok (.iconst 0, 1) := by decide +kernel
theorem dX12_judge_24 : decode cX12_judge 24 = .ok (.putfield 225, 3) := by decide +kernel
theorem dX12_judge_27 : decode cX12_judge 27 = .ok (.iconst 0, 1) := by decide +kernel
theorem dX12_judge_28 : decode cX12_judge 28 = .ok (.istore_n 2, 1) := by decide +kernel
theorem dX12_judge_29 : decode cX12_judge 29 = .ok (.iload_n 2, 1) := by decide +kernel
theorem dX12_judge_30 : decode cX12_judge 30 = .ok (.aload_n 0, 1) := by decide +kernel
theorem dX12_judge_31 : decode cX12_judge 31 = .ok (.getfield 212, 3) := by decide +kernel
theorem dX12_judge_34 : decode cX12_judge 34 = .ok (.iload_n 1, 1) := by decide +kernel
theorem dX12_judge_35 : decode cX12_judge 35 = .ok (.iaload, 1) := by decide +kernel
theorem dX12_judge_36 : decode cX12_judge 36 = .ok (.if_icmp .ge 66, 3) := by decide +kernel
theorem dX12_judge_39 : decode cX12_judge 39 = .ok (.aload_n 0, 1) := by decide +kernel
theorem dX12_judge_40 : decode cX12_judge 40 = .ok (.getfield 215, 3) := by decide +kernel
theorem dX12_judge_43 : decode cX12_judge 43 = .ok (.bipush 40, 2) := by decide +kernel
theorem dX12_judge_45 : decode cX12_judge 45 = .ok (.iload_n 1, 1) := by decide +kernel
theorem dX12_judge_46 : decode cX12_judge 46 = .ok (.imul, 1) := by decide +kernel
theorem dX12_judge_47 : decode cX12_judge 47 = .ok (.iload_n 2, 1) := by decide +kernel
theorem dX12_judge_48 : decode cX12_judge 48 = .ok (.iadd, 1) := by decide +kernel
theorem dX12_judge_49 : decode cX12_judge 49 = .ok (.iaload, 1) := by decide +kernel
theorem dX12_judge_50 : decode cX12_judge 50 = .ok (.istore_n 3, 1) := by decide +kernel
theorem dX12_judge_51 : decode cX12_judge 51 = .ok (.iload_n 2, 1) := by decide +kernel
theorem dX12_judge_52 : decode cX12_judge 52 = .ok (.aload_n 0, 1) := by decide +kernel
theorem dX12_judge_53 : decode cX12_judge 53 = .ok (.getfield 1, 3) := by decide +kernel
theorem dX12_judge_56 : decode cX12_judge 56 = .ok (.if_icmp .ge 32, 3) := by decide +kernel
theorem dX12_judge_59 : decode cX12_judge 59 = .ok (.iload_n 3, 1) := by decide +kernel
theorem dX12_judge_60 : decode cX12_judge 60 = .ok (.iconst 0, 1) := by decide +kernel
theorem dX12_judge_61 : decode cX12_judge 61 = .ok (.aload_n 0, 1) := by decide +kernel
theorem dX12_judge_62 : decode cX12_judge 62 = .ok (.getfield 225, 3) := by decide +kernel
theorem dX12_judge_65 : decode cX12_judge 65 = .ok (.invokestatic 7, 3) := by decide +kernel
theorem dX12_judge_68 : decode cX12_judge 68 = .ok (.ifCond .eq 20, 3) := by decide +kernel
theorem dX12_judge_71 : decode cX12_judge 71 = .ok (.iload_n 3, 1) := by decide +kernel
theorem dX12_judge_72 : decode cX12_judge 72 = .ok (.aload_n 0, 1) := by decide +kernel
theorem dX12_judge_73 : decode cX12_judge 73 = .ok (.getfield 225, 3) := by decide +kernel
theorem dX12_judge_76 : decode cX12_judge 76 = .ok (.if_icmp .ge 14, 3) := by decide +kernel
theorem dX12_judge_79 : decode cX12_judge 79 = .ok (.aload_n 0, 1) := by decide +kernel
theorem dX12_judge_80 : decode cX12_judge 80 = .ok (.iload_n 2, 1) := by decide +kernel
theorem dX12_judge_81 : decode cX12_judge 81 = .ok (.iload_n 3, 1) := by decide +kernel
theorem dX12_judge_82 : decode cX12_judge 82 = .ok (.invokevirtual 237, 3) := by decide +kernel
theorem dX12_judge_85 : decode cX12_judge 85 = .ok (.ifCond .ne 5, 3) := by decide +kernel
theorem dX12_judge_88 : decode cX12_judge 88 = .ok (.iload_n 2, 1) := by decide +kernel
theorem dX12_judge_89 : decode cX12_judge 89 = .ok (.ireturn, 1) := by decide +kernel
theorem dX12_judge_90 : decode cX12_judge 90 = .ok (.aload_n 0, 1) := by decide +kernel
theorem dX12_judge_91 : decode cX12_judge 91 = .ok (.iload_n 2, 1) := by decide +kernel
theorem dX12_judge_92 : decode cX12_judge 92 = .ok (.iload_n 3, 1) := by decide +kernel
theorem dX12_judge_93 : decode cX12_judge 93 = .ok (.invokevirtual 253, 3) := by decide +kernel
theorem dX12_judge_96 : decode cX12_judge 96 = .ok (.iinc 2 1, 3) := by decide +kernel
theorem dX12_judge_99 : decode cX12_judge 99 = .ok (.goto (-70), 3) := by decide +kernel
theorem dX12_judge_102 : decode cX12_judge 102 = .ok (.iconst (-1), 1) := by decide +kernel
theorem dX12_judge_103 : decode cX12_judge 103 = .ok (.ireturn, 1) := by decide +kernel
theorem dX12_stranger_0 : decode cX12_stranger 0 = .ok (.iload_n 1, 1) := by decide +kernel
theorem dX12_stranger_1 : decode cX12_stranger 1 = .ok (.invokestatic 317, 3) := by decide +kernel
theorem dX12_stranger_4 : decode cX12_stranger 4 = .ok (.ifCond .ne 6, 3) := by decide +kernel
theorem dX12_stranger_7 : decode cX12_stranger 7 = .ok (.bipush (-2), 2) := by decide +kernel
theorem dX12_stranger_9 : decode cX12_stranger 9 = .ok (.ireturn, 1) := by decide +kernel
theorem dX12_stranger_10 : decode cX12_stranger 10 = .ok (.aload_n 0, 1) := by decide +kernel
theorem dX12_stranger_11 : decode cX12_stranger 11 = .ok (.getfield 209, 3) := by decide +kernel
theorem dX12_stranger_14 : decode cX12_stranger 14 = .ok (.iload_n 1, 1) := by decide +kernel
theorem dX12_stranger_15 : decode cX12_stranger 15 = .ok (.iaload, 1) := by decide +kernel
theorem dX12_stranger_16 : decode cX12_stranger 16 = .ok (.ifCond .ge 6, 3) := by decide +kernel
theorem dX12_stranger_19 : decode cX12_stranger 19 = .ok (.bipush (-11), 2) := by decide +kernel
theorem dX12_stranger_21 : decode cX12_stranger 21 = .ok (.ireturn, 1) := by decide +kernel
theorem dX12_stranger_22 : decode cX12_stranger 22 = .ok (.aload_n 0, 1) := by decide +kernel
theorem dX12_stranger_23 : decode cX12_stranger 23 = .ok (.getfield 212, 3) := by decide +kernel
theorem dX12_stranger_26 : decode cX12_stranger 26 = .ok (.iload_n 1, 1) := by decide +kernel
theorem dX12_stranger_27 : decode cX12_stranger 27 = .ok (.iaload, 1) := by decide +kernel
theorem dX12_stranger_28 : decode cX12_stranger 28 = .ok (.aload_n 0, 1) := by decide +kernel
theorem dX12_stranger_29 : decode cX12_stranger 29 = .ok (.getfield 1, 3) := by decide +kernel
theorem dX12_stranger_32 : decode cX12_stranger 32 = .ok (.if_icmp .eq 6, 3) := by decide +kernel
theorem dX12_stranger_35 : decode cX12_stranger 35 = .ok (.bipush (-2), 2) := by decide +kernel
theorem dX12_stranger_37 : decode cX12_stranger 37 = .ok (.ireturn, 1) := by decide +kernel
theorem dX12_stranger_38 : decode cX12_stranger 38 = .ok (.iconst 0, 1) := by decide +kernel
theorem dX12_stranger_39 : decode cX12_stranger 39 = .ok (.istore_n 2, 1) := by decide +kernel
theorem dX12_stranger_40 : decode cX12_stranger 40 = .ok (.iconst 0, 1) := by decide +kernel
theorem dX12_stranger_41 : decode cX12_stranger 41 = .ok (.istore_n 3, 1) := by decide +kernel
theorem dX12_stranger_42 : decode cX12_stranger 42 = .ok (.iload_n 3, 1) := by decide +kernel
theorem dX12_stranger_43 : decode cX12_stranger 43 = .ok (.aload_n 0, 1) := by decide +kernel
theorem dX12_stranger_44 : decode cX12_stranger 44 = .ok (.getfield 11, 3) := by decide +kernel
theorem dX12_stranger_47 : decode cX12_stranger 47 = .ok (.if_icmp .ge 84, 3) := by decide +kernel
theorem dX12_stranger_50 : decode cX12_stranger 50 = .ok (.aload_n 0, 1) := by decide +kernel
theorem dX12_stranger_51 : decode cX12_stranger 51 = .ok (.iload_n 3, 1) := by decide +kernel
theorem dX12_stranger_52 : decode cX12_stranger 52 = .ok (.invokevirtual 256, 3) := by decide +kernel
theorem dX12_stranger_55 : decode cX12_stranger 55 = .ok (.iconst 1, 1) := by decide +kernel
theorem dX12_stranger_56 : decode cX12_stranger 56 = .ok (.istore 4, 2) := by decide +kernel
theorem dX12_stranger_58 : decode cX12_stranger 58 = .ok (.iconst 0, 1) := by decide +kernel
theorem dX12_stranger_59 : decode cX12_stranger 59 = .ok (.istore 5, 2) := by decide +kernel
theorem dX12_stranger_61 : decode cX12_stranger 61 = .ok (.iload 5, 2) := by decide +kernel
theorem dX12_stranger_63 : decode cX12_stranger 63 = .ok (.aload_n 0, 1) := by decide +kernel
theorem dX12_stranger_64 : decode cX12_stranger 64 = .ok (.getfield 1, 3) := by decide +kernel
theorem dX12_stranger_67 : decode cX12_stranger 67 = .ok (.if_icmp .ge 43, 3) := by decide +kernel
theorem dX12_stranger_70 : decode cX12_stranger 70 = .ok (.iload 4, 2) := by decide +kernel
theorem dX12_stranger_72 : decode cX12_stranger 72 = .ok (.ifCond .eq 29, 3) := by decide +kernel
theorem dX12_stranger_75 : decode cX12_stranger 75 = .ok (.aload_n 0, 1) := by decide +kernel
theorem dX12_stranger_76 : decode cX12_stranger 76 = .ok (.getfield 215, 3) := by decide +kernel
theorem dX12_stranger_79 : decode cX12_stranger 79 = .ok (.bipush 40, 2) := by decide +kernel
theorem dX12_stranger_81 : decode cX12_stranger 81 = .ok (.iload_n 1, 1) := by decide +kernel
theorem dX12_stranger_82 : decode cX12_stranger 82 = .ok (.imul, 1) := by decide +kernel
theorem dX12_stranger_83 : decode cX12_stranger 83 = .ok (.iload 5, 2) := by decide +kernel
theorem dX12_stranger_85 : decode cX12_stranger 85 = .ok (.iadd, 1) := by decide +kernel
theorem dX12_stranger_86 : decode cX12_stranger 86 = .ok (.iaload, 1) := by decide +kernel
theorem dX12_stranger_87 : decode cX12_stranger 87 = .ok (.aload_n 0, 1) := by decide +kernel
theorem dX12_stranger_88 : decode cX12_stranger 88 = .ok (.getfield 179, 3) := by decide +kernel
theorem dX12_stranger_91 : decode cX12_stranger 91 = .ok (.iload 5, 2) := by decide +kernel
theorem dX12_stranger_93 : decode cX12_stranger 93 = .ok (.iaload, 1) := by decide +kernel
theorem dX12_stranger_94 : decode cX12_stranger 94 = .ok (.if_icmp .ne 7, 3) := by decide +kernel
theorem dX12_stranger_97 : decode cX12_stranger 97 = .ok (.iconst 1, 1) := by decide +kernel
theorem dX12_stranger_98 : decode cX12_stranger 98 = .ok (.goto 4, 3) := by decide +kernel
theorem dX12_stranger_101 : decode cX12_stranger 101 = .ok (.iconst 0, 1) := by decide +kernel
theorem dX12_stranger_102 : decode cX12_stranger 102 = .ok (.istore 4, 2) := by decide +kernel
theorem dX12_stranger_104 : decode cX12_stranger 104 = .ok (.iinc 5 1, 3) := by decide +kernel
theorem dX12_stranger_107 : decode cX12_stranger 107 = .ok (.goto (-46), 3) := by decide +kernel
theorem dX12_stranger_110 : decode cX12_stranger 110 = .ok (.iload_n 2, 1) := by decide +kernel
theorem dX12_stranger_111 : decode cX12_stranger 111 = .ok (.iload 4, 2) := by decide +kernel
theorem dX12_stranger_113 : decode cX12_stranger 113 = .ok (.ifCond .eq 9, 3) := by decide +kernel
theorem dX12_stranger_116 : decode cX12_stranger 116 = .ok (.iconst 1, 1) := by decide +kernel
theorem dX12_stranger_117 : decode cX12_stranger 117 = .ok (.iload_n 3, 1) := by decide +kernel
theorem dX12_stranger_118 : decode cX12_stranger 118 = .ok (.ishl, 1) := by decide +kernel
theorem dX12_stranger_119 : decode cX12_stranger 119 = .ok (.goto 4, 3) := by decide +kernel
theorem dX12_stranger_122 : decode cX12_stranger 122 = .ok (.iconst 0, 1) := by decide +kernel
theorem dX12_stranger_123 : decode cX12_stranger 123 = .ok (.ior, 1) := by decide +kernel
theorem dX12_stranger_124 : decode cX12_stranger 124 = .ok (.istore_n 2, 1) := by decide +kernel
theorem dX12_stranger_125 : decode cX12_stranger 125 = .ok (.iinc 3 1, 3) := by decide +kernel
theorem dX12_stranger_128 : decode cX12_stranger 128 = .ok (.goto (-86), 3) := by decide +kernel
theorem dX12_stranger_131 : decode cX12_stranger 131 = .ok (.iload_n 2, 1) := by decide +kernel
theorem dX12_stranger_132 : decode cX12_stranger 132 = .ok (.ireturn, 1) := by decide +kernel
theorem dX12_move_0 : decode cX12_move 0 = .ok (.iconst 0, 1) := by decide +kernel
theorem dX12_move_1 : decode cX12_move 1 = .ok (.istore_n 2, 1) := by decide +kernel
theorem dX12_move_2 : decode cX12_move 2 = .ok (.iload_n 2, 1) := by decide +kernel
theorem dX12_move_3 : decode cX12_move 3 = .ok (.aload_n 0, 1) := by decide +kernel
theorem dX12_move_4 : decode cX12_move 4 = .ok (.arraylength, 1) := by decide +kernel
theorem dX12_move_5 : decode cX12_move 5 = .ok (.if_icmp .ge 15, 3) := by decide +kernel
theorem dX12_move_8 : decode cX12_move 8 = .ok (.aload_n 1, 1) := by decide +kernel
theorem dX12_move_9 : decode cX12_move 9 = .ok (.iload_n 2, 1) := by decide +kernel
theorem dX12_move_10 : decode cX12_move 10 = .ok (.aload_n 0, 1) := by decide +kernel
theorem dX12_move_11 : decode cX12_move 11 = .ok (.iload_n 2, 1) := by decide +kernel
theorem dX12_move_12 : decode cX12_move 12 = .ok (.iaload, 1) := by decide +kernel
theorem dX12_move_13 : decode cX12_move 13 = .ok (.iastore, 1) := by decide +kernel
theorem dX12_move_14 : decode cX12_move 14 = .ok (.iinc 2 1, 3) := by decide +kernel
theorem dX12_move_17 : decode cX12_move 17 = .ok (.goto (-15), 3) := by decide +kernel
theorem dX12_move_20 : decode cX12_move 20 = .ok (.return_, 1) := by decide +kernel
theorem dX12_lay_0 : decode cX12_lay 0 = .ok (.aload_n 0, 1) := by decide +kernel
theorem dX12_lay_1 : decode cX12_lay 1 = .ok (.iload_n 1, 1) := by decide +kernel
theorem dX12_lay_2 : decode cX12_lay 2 = .ok (.invokevirtual 34, 3) := by decide +kernel
theorem dX12_lay_5 : decode cX12_lay 5 = .ok (.ifCond .ne 6, 3) := by decide +kernel
theorem dX12_lay_8 : decode cX12_lay 8 = .ok (.bipush (-2), 2) := by decide +kernel
theorem dX12_lay_10 : decode cX12_lay 10 = .ok (.ireturn, 1) := by decide +kernel
theorem dX12_lay_11 : decode cX12_lay 11 = .ok (.aload_n 0, 1) := by decide +kernel
theorem dX12_lay_12 : decode cX12_lay 12 = .ok (.getfield 320, 3) := by decide +kernel
theorem dX12_lay_15 : decode cX12_lay 15 = .ok (.aload_n 0, 1) := by decide +kernel
theorem dX12_lay_16 : decode cX12_lay 16 = .ok (.getfield 1, 3) := by decide +kernel
theorem dX12_lay_19 : decode cX12_lay 19 = .ok (.if_icmp .ne 6, 3) := by decide +kernel
theorem dX12_lay_22 : decode cX12_lay 22 = .ok (.bipush (-3), 2) := by decide +kernel
theorem dX12_lay_24 : decode cX12_lay 24 = .ok (.ireturn, 1) := by decide +kernel
theorem dX12_lay_25 : decode cX12_lay 25 = .ok (.aload_n 0, 1) := by decide +kernel
theorem dX12_lay_26 : decode cX12_lay 26 = .ok (.aload_n 0, 1) := by decide +kernel
theorem dX12_lay_27 : decode cX12_lay 27 = .ok (.getfield 323, 3) := by decide +kernel
theorem dX12_lay_30 : decode cX12_lay 30 = .ok (.putfield 225, 3) := by decide +kernel
theorem dX12_lay_33 : decode cX12_lay 33 = .ok (.aload_n 0, 1) := by decide +kernel
theorem dX12_lay_34 : decode cX12_lay 34 = .ok (.getfield 197, 3) := by decide +kernel
theorem dX12_lay_37 : decode cX12_lay 37 = .ok (.aload_n 0, 1) := by decide +kernel
theorem dX12_lay_38 : decode cX12_lay 38 = .ok (.getfield 170, 3) := by decide +kernel
theorem dX12_lay_41 : decode cX12_lay 41 = .ok (.invokestatic 326, 3) := by decide +kernel
theorem dX12_lay_44 : decode cX12_lay 44 = .ok (.aload_n 0, 1) := by decide +kernel
theorem dX12_lay_45 : decode cX12_lay 45 = .ok (.getfield 200, 3) := by decide +kernel
theorem dX12_lay_48 : decode cX12_lay 48 = .ok (.aload_n 0, 1) := by decide +kernel
theorem dX12_lay_49 : decode cX12_lay 49 = .ok (.getfield 173, 3) := by decide +kernel
theorem dX12_lay_52 : decode cX12_lay 52 = .ok (.invokestatic 326, 3) := by decide +kernel
theorem dX12_lay_55 : decode cX12_lay 55 = .ok (.aload_n 0, 1) := by decide +kernel
theorem dX12_lay_56 : decode cX12_lay 56 = .ok (.iload_n 1, 1) := by decide +kernel
theorem dX12_lay_57 : decode cX12_lay 57 = .ok (.aload_n 0, 1) := by decide +kernel
theorem dX12_lay_58 : decode cX12_lay 58 = .ok (.getfield 320, 3) := by decide +kernel
theorem dX12_lay_61 : decode cX12_lay 61 = .ok (.invokevirtual 249, 3) := by decide +kernel
theorem dX12_lay_64 : decode cX12_lay 64 = .ok (.istore_n 2, 1) := by decide +kernel
theorem dX12_lay_65 : decode cX12_lay 65 = .ok (.aload_n 0, 1) := by decide +kernel
theorem dX12_lay_66 : decode cX12_lay 66 = .ok (.aload_n 0, 1) := by decide +kernel
theorem dX12_lay_67 : decode cX12_lay 67 = .ok (.getfield 320, 3) := by decide +kernel
theorem dX12_lay_70 : decode cX12_lay 70 = .ok (.iload_n 2, 1) := by decide +kernel
theorem dX12_lay_71 : decode cX12_lay 71 = .ok (.invokevirtual 253, 3) := by decide +kernel
theorem dX12_lay_74 : decode cX12_lay 74 = .ok (.aload_n 0, 1) := by decide +kernel
theorem dX12_lay_75 : decode cX12_lay 75 = .ok (.dup, 1) := by decide +kernel
theorem dX12_lay_76 : decode cX12_lay 76 = .ok (.getfield 320, 3) := by decide +kernel
theorem dX12_lay_79 : decode cX12_lay 79 = .ok (.iconst 1, 1) := by decide +kernel
theorem dX12_lay_80 : decode cX12_lay 80 = .ok (.iadd, 1) := by decide +kernel
theorem dX12_lay_81 : decode cX12_lay 81 = .ok (.putfield 320, 3) := by decide +kernel
theorem dX12_lay_84 : decode cX12_lay 84 = .ok (.aload_n 0, 1) := by decide +kernel
theorem dX12_lay_85 : decode cX12_lay 85 = .ok (.aload_n 0, 1) := by decide +kernel
theorem dX12_lay_86 : decode cX12_lay 86 = .ok (.getfield 225, 3) := by decide +kernel
theorem dX12_lay_89 : decode cX12_lay 89 = .ok (.putfield 323, 3) := by decide +kernel
theorem dX12_lay_92 : decode cX12_lay 92 = .ok (.aload_n 0, 1) := by decide +kernel
theorem dX12_lay_93 : decode cX12_lay 93 = .ok (.getfield 170, 3) := by decide +kernel
theorem dX12_lay_96 : decode cX12_lay 96 = .ok (.aload_n 0, 1) := by decide +kernel
theorem dX12_lay_97 : decode cX12_lay 97 = .ok (.getfield 197, 3) := by decide +kernel
theorem dX12_lay_100 : decode cX12_lay 100 = .ok (.invokestatic 326, 3) := by decide +kernel
theorem dX12_lay_103 : decode cX12_lay 103 = .ok (.aload_n 0, 1) := by decide +kernel
theorem dX12_lay_104 : decode cX12_lay 104 = .ok (.getfield 173, 3) := by decide +kernel
theorem dX12_lay_107 : decode cX12_lay 107 = .ok (.aload_n 0, 1) := by decide +kernel
theorem dX12_lay_108 : decode cX12_lay 108 = .ok (.getfield 200, 3) := by decide +kernel
theorem dX12_lay_111 : decode cX12_lay 111 = .ok (.invokestatic 326, 3) := by decide +kernel
theorem dX12_lay_114 : decode cX12_lay 114 = .ok (.iload_n 2, 1) := by decide +kernel
theorem dX12_lay_115 : decode cX12_lay 115 = .ok (.ireturn, 1) := by decide +kernel
theorem dX12_take_0 : decode cX12_take 0 = .ok (.iload_n 1, 1) := by decide +kernel
theorem dX12_take_1 : decode cX12_take 1 = .ok (.iconst 0, 1) := by decide +kernel
theorem dX12_take_2 : decode cX12_take 2 = .ok (.aload_n 0, 1) := by decide +kernel
theorem dX12_take_3 : decode cX12_take 3 = .ok (.getfield 323, 3) := by decide +kernel
theorem dX12_take_6 : decode cX12_take 6 = .ok (.iconst 1, 1) := by decide +kernel
theorem dX12_take_7 : decode cX12_take 7 = .ok (.isub, 1) := by decide +kernel
theorem dX12_take_8 : decode cX12_take 8 = .ok (.invokestatic 7, 3) := by decide +kernel
theorem dX12_take_11 : decode cX12_take 11 = .ok (.ifCond .ne 6, 3) := by decide +kernel
theorem dX12_take_14 : decode cX12_take 14 = .ok (.bipush (-2), 2) := by decide +kernel
theorem dX12_take_16 : decode cX12_take 16 = .ok (.ireturn, 1) := by decide +kernel
theorem dX12_take_17 : decode cX12_take 17 = .ok (.aload_n 0, 1) := by decide +kernel
theorem dX12_take_18 : decode cX12_take 18 = .ok (.getfield 197, 3) := by decide +kernel
theorem dX12_take_21 : decode cX12_take 21 = .ok (.iload_n 1, 1) := by decide +kernel
theorem dX12_take_22 : decode cX12_take 22 = .ok (.iaload, 1) := by decide +kernel
theorem dX12_take_23 : decode cX12_take 23 = .ok (.ifCond .ne 6, 3) := by decide +kernel
theorem dX12_take_26 : decode cX12_take 26 = .ok (.bipush (-3), 2) := by decide +kernel
theorem dX12_take_28 : decode cX12_take 28 = .ok (.ireturn, 1) := by decide +kernel
theorem dX12_take_29 : decode cX12_take 29 = .ok (.aload_n 0, 1) := by decide +kernel
theorem dX12_take_30 : decode cX12_take 30 = .ok (.getfield 197, 3) := by decide +kernel
theorem dX12_take_33 : decode cX12_take 33 = .ok (.iload_n 1, 1) := by decide +kernel
theorem dX12_take_34 : decode cX12_take 34 = .ok (.dup2, 1) := by decide +kernel
theorem dX12_take_35 : decode cX12_take 35 = .ok (.iaload, 1) := by decide +kernel
theorem dX12_take_36 : decode cX12_take 36 = .ok (.iconst 1, 1) := by decide +kernel
theorem dX12_take_37 : decode cX12_take 37 = .ok (.isub, 1) := by decide +kernel
theorem dX12_take_38 : decode cX12_take 38 = .ok (.iastore, 1) := by decide +kernel
theorem dX12_take_39 : decode cX12_take 39 = .ok (.aload_n 0, 1) := by decide +kernel
theorem dX12_take_40 : decode cX12_take 40 = .ok (.getfield 200, 3) := by decide +kernel
theorem dX12_take_43 : decode cX12_take 43 = .ok (.bipush 8, 2) := by decide +kernel
theorem dX12_take_45 : decode cX12_take 45 = .ok (.iload_n 1, 1) := by decide +kernel
theorem dX12_take_46 : decode cX12_take 46 = .ok (.imul, 1) := by decide +kernel
theorem dX12_take_47 : decode cX12_take 47 = .ok (.aload_n 0, 1) := by decide +kernel
theorem dX12_take_48 : decode cX12_take 48 = .ok (.getfield 197, 3) := by decide +kernel
theorem dX12_take_51 : decode cX12_take 51 = .ok (.iload_n 1, 1) := by decide +kernel
theorem dX12_take_52 : decode cX12_take 52 = .ok (.iaload, 1) := by decide +kernel
theorem dX12_take_53 : decode cX12_take 53 = .ok (.iadd, 1) := by decide +kernel
theorem dX12_take_54 : decode cX12_take 54 = .ok (.iaload, 1) := by decide +kernel
theorem dX12_take_55 : decode cX12_take 55 = .ok (.ireturn, 1) := by decide +kernel
theorem dX12_on_0 : decode cX12_on 0 = .ok (.iload_n 1, 1) := by decide +kernel
theorem dX12_on_1 : decode cX12_on 1 = .ok (.iconst 0, 1) := by decide +kernel
theorem dX12_on_2 : decode cX12_on 2 = .ok (.aload_n 0, 1) := by decide +kernel
theorem dX12_on_3 : decode cX12_on 3 = .ok (.getfield 323, 3) := by decide +kernel
theorem dX12_on_6 : decode cX12_on 6 = .ok (.iconst 1, 1) := by decide +kernel
theorem dX12_on_7 : decode cX12_on 7 = .ok (.isub, 1) := by decide +kernel
theorem dX12_on_8 : decode cX12_on 8 = .ok (.invokestatic 7, 3) := by decide +kernel
theorem dX12_on_11 : decode cX12_on 11 = .ok (.ifCond .ne 6, 3) := by decide +kernel
theorem dX12_on_14 : decode cX12_on 14 = .ok (.bipush (-2), 2) := by decide +kernel
theorem dX12_on_16 : decode cX12_on 16 = .ok (.ireturn, 1) := by decide +kernel
theorem dX12_on_17 : decode cX12_on 17 = .ok (.iload_n 2, 1) := by decide +kernel
theorem dX12_on_18 : decode cX12_on 18 = .ok (.iconst 0, 1) := by decide +kernel
theorem dX12_on_19 : decode cX12_on 19 = .ok (.aload_n 0, 1) := by decide +kernel
theorem dX12_on_20 : decode cX12_on 20 = .ok (.getfield 197, 3) := by decide +kernel
theorem dX12_on_23 : decode cX12_on 23 = .ok (.iload_n 1, 1) := by decide +kernel
theorem dX12_on_24 : decode cX12_on 24 = .ok (.iaload, 1) := by decide +kernel
theorem dX12_on_25 : decode cX12_on 25 = .ok (.iconst 1, 1) := by decide +kernel
theorem dX12_on_26 : decode cX12_on 26 = .ok (.isub, 1) := by decide +kernel
theorem dX12_on_27 : decode cX12_on 27 = .ok (.invokestatic 7, 3) := by decide +kernel
theorem dX12_on_30 : decode cX12_on 30 = .ok (.ifCond .eq 17, 3) := by decide +kernel
theorem dX12_on_33 : decode cX12_on 33 = .ok (.aload_n 0, 1) := by decide +kernel
theorem dX12_on_34 : decode cX12_on 34 = .ok (.getfield 200, 3) := by decide +kernel
theorem dX12_on_37 : decode cX12_on 37 = .ok (.bipush 8, 2) := by decide +kernel
theorem dX12_on_39 : decode cX12_on 39 = .ok (.iload_n 1, 1) := by decide +kernel
theorem dX12_on_40 : decode cX12_on 40 = .ok (.imul, 1) := by decide +kernel
theorem dX12_on_41 : decode cX12_on 41 = .ok (.iload_n 2, 1) := by decide +kernel
theorem dX12_on_42 : decode cX12_on 42 = .ok (.iadd, 1) := by decide +kernel
theorem dX12_on_43 : decode cX12_on 43 = .ok (.iaload, 1) := by decide +kernel
theorem dX12_on_44 : decode cX12_on 44 = .ok (.goto 4, 3) := by decide +kernel
theorem dX12_on_47 : decode cX12_on 47 = .ok (.iconst (-1), 1) := by decide +kernel
theorem dX12_on_48 : decode cX12_on 48 = .ok (.ireturn, 1) := by decide +kernel
theorem dX12_image_0 : decode cX12_image 0 = .ok (.aload_n 0, 1) := by decide +kernel
theorem dX12_image_1 : decode cX12_image 1 = .ok (.iconst 1, 1) := by decide +kernel
theorem dX12_image_2 : decode cX12_image 2 = .ok (.putfield 330, 3) := by decide +kernel
theorem dX12_image_5 : decode cX12_image 5 = .ok (.aload_n 0, 1) := by decide +kernel
theorem dX12_image_6 : decode cX12_image 6 = .ok (.aload_n 0, 1) := by decide +kernel
theorem dX12_image_7 : decode cX12_image 7 = .ok (.getfield 320, 3) := by decide +kernel
theorem dX12_image_10 : decode cX12_image 10 = .ok (.putfield 334, 3) := by decide +kernel
theorem dX12_image_13 : decode cX12_image 13 = .ok (.aload_n 0, 1) := by decide +kernel
theorem dX12_image_14 : decode cX12_image 14 = .ok (.aload_n 0, 1) := by decide +kernel
theorem dX12_image_15 : decode cX12_image 15 = .ok (.getfield 323, 3) := by decide +kernel
theorem dX12_image_18 : decode cX12_image 18 = .ok (.putfield 337, 3) := by decide +kernel
theorem dX12_image_21 : decode cX12_image 21 = .ok (.aload_n 0, 1) := by decide +kernel
theorem dX12_image_22 : decode cX12_image 22 = .ok (.aload_n 0, 1) := by decide +kernel
theorem dX12_image_23 : decode cX12_image 23 = .ok (.getfield 31, 3) := by decide +kernel
theorem dX12_image_26 : decode cX12_image 26 = .ok (.putfield 340, 3) := by decide +kernel
theorem dX12_image_29 : decode cX12_image 29 = .ok (.aload_n 0, 1) := by decide +kernel
theorem dX12_image_30 : decode cX12_image 30 = .ok (.aload_n 0, 1) := by decide +kernel
theorem dX12_image_31 : decode cX12_image 31 = .ok (.getfield 156, 3) := by decide +kernel
theorem dX12_image_34 : decode cX12_image 34 = .ok (.putfield 343, 3) := by decide +kernel
theorem dX12_image_37 : decode cX12_image 37 = .ok (.aload_n 0, 1) := by decide +kernel
theorem dX12_image_38 : decode cX12_image 38 = .ok (.getfield 197, 3) := by decide +kernel
theorem dX12_image_41 : decode cX12_image 41 = .ok (.aload_n 0, 1) := by decide +kernel
theorem dX12_image_42 : decode cX12_image 42 = .ok (.getfield 203, 3) := by decide +kernel
theorem dX12_image_45 : decode cX12_image 45 = .ok (.invokestatic 326, 3) := by decide +kernel
theorem dX12_image_48 : decode cX12_image 48 = .ok (.aload_n 0, 1) := by decide +kernel
theorem dX12_image_49 : decode cX12_image 49 = .ok (.getfield 200, 3) := by decide +kernel
theorem dX12_image_52 : decode cX12_image 52 = .ok (.aload_n 0, 1) := by decide +kernel
theorem dX12_image_53 : decode cX12_image 53 = .ok (.getfield 206, 3) := by decide +kernel
theorem dX12_image_56 : decode cX12_image 56 = .ok (.invokestatic 326, 3) := by decide +kernel
theorem dX12_image_59 : decode cX12_image 59 = .ok (.aload_n 0, 1) := by decide +kernel
theorem dX12_image_60 : decode cX12_image 60 = .ok (.getfield 320, 3) := by decide +kernel
theorem dX12_image_63 : decode cX12_image 63 = .ok (.ireturn, 1) := by decide +kernel
theorem dX12_back_0 : decode cX12_back 0 = .ok (.aload_n 0, 1) := by decide +kernel
theorem dX12_back_1 : decode cX12_back 1 = .ok (.getfield 330, 3) := by decide +kernel
theorem dX12_back_4 : decode cX12_back 4 = .ok (.ifCond .ne 6, 3) := by decide +kernel
theorem dX12_back_7 : decode cX12_back 7 = .ok (.bipush (-3), 2) := by decide +kernel
theorem dX12_back_9 : decode cX12_back 9 = .ok (.ireturn, 1) := by decide +kernel
theorem dX12_back_10 : decode cX12_back 10 = .ok (.aload_n 0, 1) := by decide +kernel
theorem dX12_back_11 : decode cX12_back 11 = .ok (.aload_n 0, 1) := by decide +kernel
theorem dX12_back_12 : decode cX12_back 12 = .ok (.getfield 334, 3) := by decide +kernel
theorem dX12_back_15 : decode cX12_back 15 = .ok (.putfield 320, 3) := by decide +kernel
theorem dX12_back_18 : decode cX12_back 18 = .ok (.aload_n 0, 1) := by decide +kernel
theorem dX12_back_19 : decode cX12_back 19 = .ok (.aload_n 0, 1) := by decide +kernel
theorem dX12_back_20 : decode cX12_back 20 = .ok (.getfield 337, 3) := by decide +kernel
theorem dX12_back_23 : decode cX12_back 23 = .ok (.putfield 323, 3) := by decide +kernel
theorem dX12_back_26 : decode cX12_back 26 = .ok (.aload_n 0, 1) := by decide +kernel
theorem dX12_back_27 : decode cX12_back 27 = .ok (.aload_n 0, 1) := by decide +kernel
theorem dX12_back_28 : decode cX12_back 28 = .ok (.getfield 340, 3) := by decide +kernel
theorem dX12_back_31 : decode cX12_back 31 = .ok (.putfield 31, 3) := by decide +kernel
theorem dX12_back_34 : decode cX12_back 34 = .ok (.aload_n 0, 1) := by decide +kernel
theorem dX12_back_35 : decode cX12_back 35 = .ok (.aload_n 0, 1) := by decide +kernel
theorem dX12_back_36 : decode cX12_back 36 = .ok (.getfield 343, 3) := by decide +kernel
theorem dX12_back_39 : decode cX12_back 39 = .ok (.putfield 156, 3) := by decide +kernel
theorem dX12_back_42 : decode cX12_back 42 = .ok (.aload_n 0, 1) := by decide +kernel
theorem dX12_back_43 : decode cX12_back 43 = .ok (.getfield 203, 3) := by decide +kernel
theorem dX12_back_46 : decode cX12_back 46 = .ok (.aload_n 0, 1) := by decide +kernel
theorem dX12_back_47 : decode cX12_back 47 = .ok (.getfield 197, 3) := by decide +kernel
theorem dX12_back_50 : decode cX12_back 50 = .ok (.invokestatic 326, 3) := by decide +kernel
theorem dX12_back_53 : decode cX12_back 53 = .ok (.aload_n 0, 1) := by decide +kernel
theorem dX12_back_54 : decode cX12_back 54 = .ok (.getfield 206, 3) := by decide +kernel
theorem dX12_back_57 : decode cX12_back 57 = .ok (.aload_n 0, 1) := by decide +kernel
theorem dX12_back_58 : decode cX12_back 58 = .ok (.getfield 200, 3) := by decide +kernel
theorem dX12_back_61 : decode cX12_back 61 = .ok (.invokestatic 326, 3) := by decide +kernel
theorem dX12_back_64 : decode cX12_back 64 = .ok (.aload_n 0, 1) := by decide +kernel
theorem dX12_back_65 : decode cX12_back 65 = .ok (.getfield 320, 3) := by decide +kernel
theorem dX12_back_68 : decode cX12_back 68 = .ok (.ireturn, 1) := by decide +kernel
theorem dX12_count_0 : decode cX12_count 0 = .ok (.iload_n 1, 1) := by decide +kernel
theorem dX12_count_1 : decode cX12_count 1 = .ok (.tableswitch 87 0 7 #[47, 52, 57, 62, 67, 72, 77, 82], 47) := by decide +kernel
theorem dX12_count_48 : decode cX12_count 48 = .ok (.aload_n 0, 1) := by decide +kernel
theorem dX12_count_49 : decode cX12_count 49 = .ok (.getfield 1, 3) := by decide +kernel
theorem dX12_count_52 : decode cX12_count 52 = .ok (.ireturn, 1) := by decide +kernel
theorem dX12_count_53 : decode cX12_count 53 = .ok (.aload_n 0, 1) := by decide +kernel
theorem dX12_count_54 : decode cX12_count 54 = .ok (.getfield 11, 3) := by decide +kernel
theorem dX12_count_57 : decode cX12_count 57 = .ok (.ireturn, 1) := by decide +kernel
theorem dX12_count_58 : decode cX12_count 58 = .ok (.aload_n 0, 1) := by decide +kernel
theorem dX12_count_59 : decode cX12_count 59 = .ok (.getfield 320, 3) := by decide +kernel
theorem dX12_count_62 : decode cX12_count 62 = .ok (.ireturn, 1) := by decide +kernel
theorem dX12_count_63 : decode cX12_count 63 = .ok (.aload_n 0, 1) := by decide +kernel
theorem dX12_count_64 : decode cX12_count 64 = .ok (.getfield 323, 3) := by decide +kernel
theorem dX12_count_67 : decode cX12_count 67 = .ok (.ireturn, 1) := by decide +kernel
theorem dX12_count_68 : decode cX12_count 68 = .ok (.aload_n 0, 1) := by decide +kernel
theorem dX12_count_69 : decode cX12_count 69 = .ok (.getfield 31, 3) := by decide +kernel
theorem dX12_count_72 : decode cX12_count 72 = .ok (.ireturn, 1) := by decide +kernel
theorem dX12_count_73 : decode cX12_count 73 = .ok (.aload_n 0, 1) := by decide +kernel
theorem dX12_count_74 : decode cX12_count 74 = .ok (.getfield 150, 3) := by decide +kernel
theorem dX12_count_77 : decode cX12_count 77 = .ok (.ireturn, 1) := by decide +kernel
theorem dX12_count_78 : decode cX12_count 78 = .ok (.aload_n 0, 1) := by decide +kernel
theorem dX12_count_79 : decode cX12_count 79 = .ok (.getfield 48, 3) := by decide +kernel
theorem dX12_count_82 : decode cX12_count 82 = .ok (.ireturn, 1) := by decide +kernel
theorem dX12_count_83 : decode cX12_count 83 = .ok (.aload_n 0, 1) := by decide +kernel
theorem dX12_count_84 : decode cX12_count 84 = .ok (.getfield 156, 3) := by decide +kernel
theorem dX12_count_87 : decode cX12_count 87 = .ok (.ireturn, 1) := by decide +kernel
theorem dX12_count_88 : decode cX12_count 88 = .ok (.bipush (-2), 2) := by decide +kernel
theorem dX12_count_90 : decode cX12_count 90 = .ok (.ireturn, 1) := by decide +kernel
theorem dX12_sheet_0 : decode cX12_sheet 0 = .ok (.iload_n 1, 1) := by decide +kernel
theorem dX12_sheet_1 : decode cX12_sheet 1 = .ok (.invokestatic 317, 3) := by decide +kernel
theorem dX12_sheet_4 : decode cX12_sheet 4 = .ok (.ifCond .eq 22, 3) := by decide +kernel
theorem dX12_sheet_7 : decode cX12_sheet 7 = .ok (.iload_n 2, 1) := by decide +kernel
theorem dX12_sheet_8 : decode cX12_sheet 8 = .ok (.iconst (-1), 1) := by decide +kernel
theorem dX12_sheet_9 : decode cX12_sheet 9 = .ok (.iconst 2, 1) := by decide +kernel
theorem dX12_sheet_10 : decode cX12_sheet 10 = .ok (.invokestatic 7, 3) := by decide +kernel
theorem dX12_sheet_13 : decode cX12_sheet 13 = .ok (.ifCond .eq 13, 3) := by decide +kernel
theorem dX12_sheet_16 : decode cX12_sheet 16 = .ok (.iload_n 2, 1) := by decide +kernel
theorem dX12_sheet_17 : decode cX12_sheet 17 = .ok (.ifCond .lt 12, 3) := by decide +kernel
theorem dX12_sheet_20 : decode cX12_sheet 20 = .ok (.iload_n 3, 1) := by decide +kernel
theorem dX12_sheet_21 : decode cX12_sheet 21 = .ok (.bipush 40, 2) := by decide +kernel
theorem dX12_sheet_23 : decode cX12_sheet 23 = .ok (.if_icmp .le 6, 3) := by decide +kernel
theorem dX12_sheet_26 : decode cX12_sheet 26 = .ok (.bipush (-2), 2) := by decide +kernel
theorem dX12_sheet_28 : decode cX12_sheet 28 = .ok (.ireturn, 1) := by decide +kernel
theorem dX12_sheet_29 : decode cX12_sheet 29 = .ok (.iload_n 2, 1) := by decide +kernel
theorem dX12_sheet_30 : decode cX12_sheet 30 = .ok (.ifCond .lt 10, 3) := by decide +kernel
theorem dX12_sheet_33 : decode cX12_sheet 33 = .ok (.iload_n 3, 1) := by decide +kernel
theorem dX12_sheet_34 : decode cX12_sheet 34 = .ok (.ifCond .ge 6, 3) := by decide +kernel
theorem dX12_sheet_37 : decode cX12_sheet 37 = .ok (.bipush (-14), 2) := by decide +kernel
theorem dX12_sheet_39 : decode cX12_sheet 39 = .ok (.ireturn, 1) := by decide +kernel
theorem dX12_sheet_40 : decode cX12_sheet 40 = .ok (.aload_n 0, 1) := by decide +kernel
theorem dX12_sheet_41 : decode cX12_sheet 41 = .ok (.getfield 209, 3) := by decide +kernel
theorem dX12_sheet_44 : decode cX12_sheet 44 = .ok (.iload_n 1, 1) := by decide +kernel
theorem dX12_sheet_45 : decode cX12_sheet 45 = .ok (.iload_n 2, 1) := by decide +kernel
theorem dX12_sheet_46 : decode cX12_sheet 46 = .ok (.iastore, 1) := by decide +kernel
theorem dX12_sheet_47 : decode cX12_sheet 47 = .ok (.aload_n 0, 1) := by decide +kernel
theorem dX12_sheet_48 : decode cX12_sheet 48 = .ok (.getfield 212, 3) := by decide +kernel
theorem dX12_sheet_51 : decode cX12_sheet 51 = .ok (.iload_n 1, 1) := by decide +kernel
theorem dX12_sheet_52 : decode cX12_sheet 52 = .ok (.iload_n 2, 1) := by decide +kernel
theorem dX12_sheet_53 : decode cX12_sheet 53 = .ok (.ifCond .ge 7, 3) := by decide +kernel
theorem dX12_sheet_56 : decode cX12_sheet 56 = .ok (.iconst 0, 1) := by decide +kernel
theorem dX12_sheet_57 : decode cX12_sheet 57 = .ok (.goto 4, 3) := by decide +kernel
theorem dX12_sheet_60 : decode cX12_sheet 60 = .ok (.iload_n 3, 1) := by decide +kernel
theorem dX12_sheet_61 : decode cX12_sheet 61 = .ok (.iastore, 1) := by decide +kernel
theorem dX12_sheet_62 : decode cX12_sheet 62 = .ok (.iconst 0, 1) := by decide +kernel
theorem dX12_sheet_63 : decode cX12_sheet 63 = .ok (.istore 4, 2) := by decide +kernel
theorem dX12_sheet_65 : decode cX12_sheet 65 = .ok (.iload 4, 2) := by decide +kernel
theorem dX12_sheet_67 : decode cX12_sheet 67 = .ok (.bipush 40, 2) := by decide +kernel
theorem dX12_sheet_69 : decode cX12_sheet 69 = .ok (.if_icmp .ge 22, 3) := by decide +kernel
theorem dX12_sheet_72 : decode cX12_sheet 72 = .ok (.aload_n 0, 1) := by decide +kernel
theorem dX12_sheet_73 : decode cX12_sheet 73 = .ok (.getfield 215, 3) := by decide +kernel
theorem dX12_sheet_76 : decode cX12_sheet 76 = .ok (.bipush 40, 2) := by decide +kernel
theorem dX12_sheet_78 : decode cX12_sheet 78 = .ok (.iload_n 1, 1) := by decide +kernel
theorem dX12_sheet_79 : decode cX12_sheet 79 = .ok (.imul, 1) := by decide +kernel
theorem dX12_sheet_80 : decode cX12_sheet 80 = .ok (.iload 4, 2) := by decide +kernel
theorem dX12_sheet_82 : decode cX12_sheet 82 = .ok (.iadd, 1) := by decide +kernel
theorem dX12_sheet_83 : decode cX12_sheet 83 = .ok (.iconst 0, 1) := by decide +kernel
theorem dX12_sheet_84 : decode cX12_sheet 84 = .ok (.iastore, 1) := by decide +kernel
theorem dX12_sheet_85 : decode cX12_sheet 85 = .ok (.iinc 4 1, 3) := by decide +kernel
theorem dX12_sheet_88 : decode cX12_sheet 88 = .ok (.goto (-23), 3) := by decide +kernel
theorem dX12_sheet_91 : decode cX12_sheet 91 = .ok (.iconst 1, 1) := by decide +kernel
theorem dX12_sheet_92 : decode cX12_sheet 92 = .ok (.ireturn, 1) := by decide +kernel
theorem dX12_cell_0 : decode cX12_cell 0 = .ok (.iload_n 1, 1) := by decide +kernel
theorem dX12_cell_1 : decode cX12_cell 1 = .ok (.invokestatic 317, 3) := by decide +kernel
theorem dX12_cell_4 : decode cX12_cell 4 = .ok (.ifCond .ne 6, 3) := by decide +kernel
theorem dX12_cell_7 : decode cX12_cell 7 = .ok (.bipush (-2), 2) := by decide +kernel
theorem dX12_cell_9 : decode cX12_cell 9 = .ok (.ireturn, 1) := by decide +kernel
theorem dX12_cell_10 : decode cX12_cell 10 = .ok (.aload_n 0, 1) := by decide +kernel
theorem dX12_cell_11 : decode cX12_cell 11 = .ok (.getfield 209, 3) := by decide +kernel
theorem dX12_cell_14 : decode cX12_cell 14 = .ok (.iload_n 1, 1) := by decide +kernel
theorem dX12_cell_15 : decode cX12_cell 15 = .ok (.iaload, 1) := by decide +kernel
theorem dX12_cell_16 : decode cX12_cell 16 = .ok (.ifCond .ge 6, 3) := by decide +kernel
theorem dX12_cell_19 : decode cX12_cell 19 = .ok (.bipush (-11), 2) := by decide +kernel
theorem dX12_cell_21 : decode cX12_cell 21 = .ok (.ireturn, 1) := by decide +kernel
theorem dX12_cell_22 : decode cX12_cell 22 = .ok (.iload_n 2, 1) := by decide +kernel
theorem dX12_cell_23 : decode cX12_cell 23 = .ok (.iconst 0, 1) := by decide +kernel
theorem dX12_cell_24 : decode cX12_cell 24 = .ok (.aload_n 0, 1) := by decide +kernel
theorem dX12_cell_25 : decode cX12_cell 25 = .ok (.getfield 212, 3) := by decide +kernel
theorem dX12_cell_28 : decode cX12_cell 28 = .ok (.iload_n 1, 1) := by decide +kernel
theorem dX12_cell_29 : decode cX12_cell 29 = .ok (.iaload, 1) := by decide +kernel
theorem dX12_cell_30 : decode cX12_cell 30 = .ok (.iconst 1, 1) := by decide +kernel
theorem dX12_cell_31 : decode cX12_cell 31 = .ok (.isub, 1) := by decide +kernel
theorem dX12_cell_32 : decode cX12_cell 32 = .ok (.invokestatic 7, 3) := by decide +kernel
theorem dX12_cell_35 : decode cX12_cell 35 = .ok (.ifCond .ne 6, 3) := by decide +kernel
theorem dX12_cell_38 : decode cX12_cell 38 = .ok (.bipush (-12), 2) := by decide +kernel
theorem dX12_cell_40 : decode cX12_cell 40 = .ok (.ireturn, 1) := by decide +kernel
theorem dX12_cell_41 : decode cX12_cell 41 = .ok (.aload_n 0, 1) := by decide +kernel
theorem dX12_cell_42 : decode cX12_cell 42 = .ok (.getfield 215, 3) := by decide +kernel
theorem dX12_cell_45 : decode cX12_cell 45 = .ok (.bipush 40, 2) := by decide +kernel
theorem dX12_cell_47 : decode cX12_cell 47 = .ok (.iload_n 1, 1) := by decide +kernel
theorem dX12_cell_48 : decode cX12_cell 48 = .ok (.imul, 1) := by decide +kernel
theorem dX12_cell_49 : decode cX12_cell 49 = .ok (.iload_n 2, 1) := by decide +kernel
theorem dX12_cell_50 : decode cX12_cell 50 = .ok (.iadd, 1) := by decide +kernel
theorem dX12_cell_51 : decode cX12_cell 51 = .ok (.aload_n 0, 1) := by decide +kernel
theorem dX12_cell_52 : decode cX12_cell 52 = .ok (.getfield 209, 3) := by decide +kernel
theorem dX12_cell_55 : decode cX12_cell 55 = .ok (.iload_n 1, 1) := by decide +kernel
theorem dX12_cell_56 : decode cX12_cell 56 = .ok (.iaload, 1) := by decide +kernel
theorem dX12_cell_57 : decode cX12_cell 57 = .ok (.ifCond .ne 8, 3) := by decide +kernel
theorem dX12_cell_60 : decode cX12_cell 60 = .ok (.iload_n 3, 1) := by decide +kernel
theorem dX12_cell_61 : decode cX12_cell 61 = .ok (.i2b, 1) := by decide +kernel
theorem dX12_cell_62 : decode cX12_cell 62 = .ok (.goto 19, 3) := by decide +kernel
theorem dX12_cell_65 : decode cX12_cell 65 = .ok (.aload_n 0, 1) := by decide +kernel
theorem dX12_cell_66 : decode cX12_cell 66 = .ok (.getfield 209, 3) := by decide +kernel
theorem dX12_cell_69 : decode cX12_cell 69 = .ok (.iload_n 1, 1) := by decide +kernel
theorem dX12_cell_70 : decode cX12_cell 70 = .ok (.iaload, 1) := by decide +kernel
theorem dX12_cell_71 : decode cX12_cell 71 = .ok (.iconst 1, 1) := by decide +kernel
theorem dX12_cell_72 : decode cX12_cell 72 = .ok (.if_icmp .ne 8, 3) := by decide +kernel
theorem dX12_cell_75 : decode cX12_cell 75 = .ok (.iload_n 3, 1) := by decide +kernel
theorem dX12_cell_76 : decode cX12_cell 76 = .ok (.i2s, 1) := by decide +kernel
theorem dX12_cell_77 : decode cX12_cell 77 = .ok (.goto 4, 3) := by decide +kernel
theorem dX12_cell_80 : decode cX12_cell 80 = .ok (.iload_n 3, 1) := by decide +kernel
theorem dX12_cell_81 : decode cX12_cell 81 = .ok (.iastore, 1) := by decide +kernel
theorem dX12_cell_82 : decode cX12_cell 82 = .ok (.iconst 1, 1) := by decide +kernel
theorem dX12_cell_83 : decode cX12_cell 83 = .ok (.ireturn, 1) := by decide +kernel
theorem dX12_copy_0 : decode cX12_copy 0 = .ok (.iload_n 1, 1) := by decide +kernel
theorem dX12_copy_1 : decode cX12_copy 1 = .ok (.invokestatic 317, 3) := by decide +kernel
theorem dX12_copy_4 : decode cX12_copy 4 = .ok (.ifCond .eq 10, 3) := by decide +kernel
theorem dX12_copy_7 : decode cX12_copy 7 = .ok (.iload_n 3, 1) := by decide +kernel
theorem dX12_copy_8 : decode cX12_copy 8 = .ok (.invokestatic 317, 3) := by decide +kernel
theorem dX12_copy_11 : decode cX12_copy 11 = .ok (.ifCond .ne 6, 3) := by decide +kernel
theorem dX12_copy_14 : decode cX12_copy 14 = .ok (.bipush (-2), 2) := by decide +kernel
theorem dX12_copy_16 : decode cX12_copy 16 = .ok (.ireturn, 1) := by decide +kernel
theorem dX12_copy_17 : decode cX12_copy 17 = .ok (.aload_n 0, 1) := by decide +kernel
theorem dX12_copy_18 : decode cX12_copy 18 = .ok (.getfield 209, 3) := by decide +kernel
theorem dX12_copy_21 : decode cX12_copy 21 = .ok (.iload_n 1, 1) := by decide +kernel
theorem dX12_copy_22 : decode cX12_copy 22 = .ok (.iaload, 1) := by decide +kernel
theorem dX12_copy_23 : decode cX12_copy 23 = .ok (.ifCond .lt 12, 3) := by decide +kernel
theorem dX12_copy_26 : decode cX12_copy 26 = .ok (.aload_n 0, 1) := by decide +kernel
theorem dX12_copy_27 : decode cX12_copy 27 = .ok (.getfield 209, 3) := by decide +kernel
theorem dX12_copy_30 : decode cX12_copy 30 = .ok (.iload_n 3, 1) := by decide +kernel
theorem dX12_copy_31 : decode cX12_copy 31 = .ok (.iaload, 1) := by decide +kernel
theorem dX12_copy_32 : decode cX12_copy 32 = .ok (.ifCond .ge 6, 3) := by decide +kernel
theorem dX12_copy_35 : decode cX12_copy 35 = .ok (.bipush (-11), 2) := by decide +kernel
theorem dX12_copy_37 : decode cX12_copy 37 = .ok (.ireturn, 1) := by decide +kernel
theorem dX12_copy_38 : decode cX12_copy 38 = .ok (.aload_n 0, 1) := by decide +kernel
theorem dX12_copy_39 : decode cX12_copy 39 = .ok (.getfield 209, 3) := by decide +kernel
theorem dX12_copy_42 : decode cX12_copy 42 = .ok (.iload_n 1, 1) := by decide +kernel
theorem dX12_copy_43 : decode cX12_copy 43 = .ok (.iaload, 1) := by decide +kernel
theorem dX12_copy_44 : decode cX12_copy 44 = .ok (.aload_n 0, 1) := by decide +kernel
theorem dX12_copy_45 : decode cX12_copy 45 = .ok (.getfield 209, 3) := by decide +kernel
theorem dX12_copy_48 : decode cX12_copy 48 = .ok (.iload_n 3, 1) := by decide +kernel
theorem dX12_copy_49 : decode cX12_copy 49 = .ok (.iaload, 1) := by decide +kernel
theorem dX12_copy_50 : decode cX12_copy 50 = .ok (.if_icmp .eq 6, 3) := by decide +kernel
theorem dX12_copy_53 : decode cX12_copy 53 = .ok (.bipush (-13), 2) := by decide +kernel
theorem dX12_copy_55 : decode cX12_copy 55 = .ok (.ireturn, 1) := by decide +kernel
theorem dX12_copy_56 : decode cX12_copy 56 = .ok (.iload 5, 2) := by decide +kernel
theorem dX12_copy_58 : decode cX12_copy 58 = .ok (.ifCond .lt 39, 3) := by decide +kernel
theorem dX12_copy_61 : decode cX12_copy 61 = .ok (.iload_n 2, 1) := by decide +kernel
theorem dX12_copy_62 : decode cX12_copy 62 = .ok (.ifCond .lt 35, 3) := by decide +kernel
theorem dX12_copy_65 : decode cX12_copy 65 = .ok (.iload 4, 2) := by decide +kernel
theorem dX12_copy_67 : decode cX12_copy 67 = .ok (.ifCond .lt 30, 3) := by decide +kernel
theorem dX12_copy_70 : decode cX12_copy 70 = .ok (.iload 5, 2) := by decide +kernel
theorem dX12_copy_72 : decode cX12_copy 72 = .ok (.aload_n 0, 1) := by decide +kernel
theorem dX12_copy_73 : decode cX12_copy 73 = .ok (.getfield 212, 3) := by decide +kernel
theorem dX12_copy_76 : decode cX12_copy 76 = .ok (.iload_n 1, 1) := by decide +kernel
theorem dX12_copy_77 : decode cX12_copy 77 = .ok (.iaload, 1) := by decide +kernel
theorem dX12_copy_78 : decode cX12_copy 78 = .ok (.iload_n 2, 1) := by decide +kernel
theorem dX12_copy_79 : decode cX12_copy 79 = .ok (.isub, 1) := by decide +kernel
theorem dX12_copy_80 : decode cX12_copy 80 = .ok (.if_icmp .gt 17, 3) := by decide +kernel
theorem dX12_copy_83 : decode cX12_copy 83 = .ok (.iload 5, 2) := by decide +kernel
theorem dX12_copy_85 : decode cX12_copy 85 = .ok (.aload_n 0, 1) := by decide +kernel
theorem dX12_copy_86 : decode cX12_copy 86 = .ok (.getfield 212, 3) := by decide +kernel
theorem dX12_copy_89 : decode cX12_copy 89 = .ok (.iload_n 3, 1) := by decide +kernel
theorem dX12_copy_90 : decode cX12_copy 90 = .ok (.iaload, 1) := by decide +kernel
theorem dX12_copy_91 : decode cX12_copy 91 = .ok (.iload 4, 2) := by decide +kernel
theorem dX12_copy_93 : decode cX12_copy 93 = .ok (.isub, 1) := by decide +kernel
theorem dX12_copy_94 : decode cX12_copy 94 = .ok (.if_icmp .le 6, 3) := by decide +kernel
theorem dX12_copy_97 : decode cX12_copy 97 = .ok (.bipush (-12), 2) := by decide +kernel
theorem dX12_copy_99 : decode cX12_copy 99 = .ok (.ireturn, 1) := by decide +kernel
theorem dX12_copy_100 : decode cX12_copy 100 = .ok (.iconst 0, 1) := by decide +kernel
theorem dX12_copy_101 : decode cX12_copy 101 = .ok (.istore 6, 2) := by decide +kernel
theorem dX12_copy_103 : decode cX12_copy 103 = .ok (.iload 6, 2) := by decide +kernel
theorem dX12_copy_105 : decode cX12_copy 105 = .ok (.iload 5, 2) := by decide +kernel
theorem dX12_copy_107 : decode cX12_copy 107 = .ok (.if_icmp .ge 30, 3) := by decide +kernel
theorem dX12_copy_110 : decode cX12_copy 110 = .ok (.aload_n 0, 1) := by decide +kernel
theorem dX12_copy_111 : decode cX12_copy 111 = .ok (.getfield 218, 3) := by decide +kernel
theorem dX12_copy_114 : decode cX12_copy 114 = .ok (.iload 6, 2) := by decide +kernel
theorem dX12_copy_116 : decode cX12_copy 116 = .ok (.aload_n 0, 1) := by decide +kernel
theorem dX12_copy_117 : decode cX12_copy 117 = .ok (.getfield 215, 3) := by decide +kernel
theorem dX12_copy_120 : decode cX12_copy 120 = .ok (.bipush 40, 2) := by decide +kernel
theorem dX12_copy_122 : decode cX12_copy 122 = .ok (.iload_n 1, 1) := by decide +kernel
theorem dX12_copy_123 : decode cX12_copy 123 = .ok (.imul, 1) := by decide +kernel
theorem dX12_copy_124 : decode cX12_copy 124 = .ok (.iload_n 2, 1) := by decide +kernel
theorem dX12_copy_125 : decode cX12_copy 125 = .ok (.iadd, 1) := by decide +kernel
theorem dX12_copy_126 : decode cX12_copy 126 = .ok (.iload 6, 2) := by decide +kernel
theorem dX12_copy_128 : decode cX12_copy 128 = .ok (.iadd, 1) := by decide +kernel
theorem dX12_copy_129 : decode cX12_copy 129 = .ok (.iaload, 1) := by decide +kernel
theorem dX12_copy_130 : decode cX12_copy 130 = .ok (.iastore, 1) := by decide +kernel
theorem dX12_copy_131 : decode cX12_copy 131 = .ok (.iinc 6 1, 3) := by decide +kernel
theorem dX12_copy_134 : decode cX12_copy 134 = .ok (.goto (-31), 3) := by decide +kernel
theorem dX12_copy_137 : decode cX12_copy 137 = .ok (.iconst 0, 1) := by decide +kernel
theorem dX12_copy_138 : decode cX12_copy 138 = .ok (.istore 6, 2) := by decide +kernel
theorem dX12_copy_140 : decode cX12_copy 140 = .ok (.iload 6, 2) := by decide +kernel
theorem dX12_copy_142 : decode cX12_copy 142 = .ok (.iload 5, 2) := by decide +kernel
theorem dX12_copy_144 : decode cX12_copy 144 = .ok (.if_icmp .ge 31, 3) := by decide +kernel
theorem dX12_copy_147 : decode cX12_copy 147 = .ok (.aload_n 0, 1) := by decide +kernel
theorem dX12_copy_148 : decode cX12_copy 148 = .ok (.getfield 215, 3) := by decide +kernel
theorem dX12_copy_151 : decode cX12_copy 151 = .ok (.bipush 40, 2) := by decide +kernel
theorem dX12_copy_153 : decode cX12_copy 153 = .ok (.iload_n 3, 1) := by decide +kernel
theorem dX12_copy_154 : decode cX12_copy 154 = .ok (.imul, 1) := by decide +kernel
theorem dX12_copy_155 : decode cX12_copy 155 = .ok (.iload 4, 2) := by decide +kernel
theorem dX12_copy_157 : decode cX12_copy 157 = .ok (.iadd, 1) := by decide +kernel
theorem dX12_copy_158 : decode cX12_copy 158 = .ok (.iload 6, 2) := by decide +kernel
theorem dX12_copy_160 : decode cX12_copy 160 = .ok (.iadd, 1) := by decide +kernel
theorem dX12_copy_161 : decode cX12_copy 161 = .ok (.aload_n 0, 1) := by decide +kernel
theorem dX12_copy_162 : decode cX12_copy 162 = .ok (.getfield 218, 3) := by decide +kernel
theorem dX12_copy_165 : decode cX12_copy 165 = .ok (.iload 6, 2) := by decide +kernel
theorem dX12_copy_167 : decode cX12_copy 167 = .ok (.iaload, 1) := by decide +kernel
theorem dX12_copy_168 : decode cX12_copy 168 = .ok (.iastore, 1) := by decide +kernel
theorem dX12_copy_169 : decode cX12_copy 169 = .ok (.iinc 6 1, 3) := by decide +kernel
theorem dX12_copy_172 : decode cX12_copy 172 = .ok (.goto (-32), 3) := by decide +kernel
theorem dX12_copy_175 : decode cX12_copy 175 = .ok (.iload 5, 2) := by decide +kernel
theorem dX12_copy_177 : decode cX12_copy 177 = .ok (.ireturn, 1) := by decide +kernel
theorem dX12_plates_0 : decode cX12_plates 0 = .ok (.iload_n 1, 1) := by decide +kernel
theorem dX12_plates_1 : decode cX12_plates 1 = .ok (.invokestatic 317, 3) := by decide +kernel
theorem dX12_plates_4 : decode cX12_plates 4 = .ok (.ifCond .eq 23, 3) := by decide +kernel
theorem dX12_plates_7 : decode cX12_plates 7 = .ok (.iload_n 2, 1) := by decide +kernel
theorem dX12_plates_8 : decode cX12_plates 8 = .ok (.iconst 0, 1) := by decide +kernel
theorem dX12_plates_9 : decode cX12_plates 9 = .ok (.iconst 2, 1) := by decide +kernel
theorem dX12_plates_10 : decode cX12_plates 10 = .ok (.invokestatic 7, 3) := by decide +kernel
theorem dX12_plates_13 : decode cX12_plates 13 = .ok (.ifCond .eq 14, 3) := by decide +kernel
theorem dX12_plates_16 : decode cX12_plates 16 = .ok (.iload 4, 2) := by decide +kernel
theorem dX12_plates_18 : decode cX12_plates 18 = .ok (.iconst 0, 1) := by decide +kernel
theorem dX12_plates_19 : decode cX12_plates 19 = .ok (.bipush 8, 2) := by decide +kernel
theorem dX12_plates_21 : decode cX12_plates 21 = .ok (.invokestatic 7, 3) := by decide +kernel
theorem dX12_plates_24 : decode cX12_plates 24 = .ok (.ifCond .ne 6, 3) := by decide +kernel
theorem dX12_plates_27 : decode cX12_plates 27 = .ok (.bipush (-2), 2) := by decide +kernel
theorem dX12_plates_29 : decode cX12_plates 29 = .ok (.ireturn, 1) := by decide +kernel
theorem dX12_plates_30 : decode cX12_plates 30 = .ok (.aload_n 0, 1) := by decide +kernel
theorem dX12_plates_31 : decode cX12_plates 31 = .ok (.getfield 209, 3) := by decide +kernel
theorem dX12_plates_34 : decode cX12_plates 34 = .ok (.iload_n 1, 1) := by decide +kernel
theorem dX12_plates_35 : decode cX12_plates 35 = .ok (.iaload, 1) := by decide +kernel
theorem dX12_plates_36 : decode cX12_plates 36 = .ok (.ifCond .lt 16, 3) := by decide +kernel
theorem dX12_plates_39 : decode cX12_plates 39 = .ok (.aload_n 0, 1) := by decide +kernel
theorem dX12_plates_40 : decode cX12_plates 40 = .ok (.getfield 209, 3) := by decide +kernel
theorem dX12_plates_43 : decode cX12_plates 43 = .ok (.iload_n 1, 1) := by decide +kernel
theorem dX12_plates_44 : decode cX12_plates 44 = .ok (.iaload, 1) := by decide +kernel
theorem dX12_plates_45 : decode cX12_plates 45 = .ok (.iload_n 2, 1) := by decide +kernel
theorem dX12_plates_46 : decode cX12_plates 46 = .ok (.if_icmp .eq 6, 3) := by decide +kernel
theorem dX12_plates_49 : decode cX12_plates 49 = .ok (.bipush (-13), 2) := by decide +kernel
theorem dX12_plates_51 : decode cX12_plates 51 = .ok (.ireturn, 1) := by decide +kernel
theorem dX12_plates_52 : decode cX12_plates 52 = .ok (.aload_n 0, 1) := by decide +kernel
theorem dX12_plates_53 : decode cX12_plates 53 = .ok (.getfield 209, 3) := by decide +kernel
theorem dX12_plates_56 : decode cX12_plates 56 = .ok (.iload_n 1, 1) := by decide +kernel
theorem dX12_plates_57 : decode cX12_plates 57 = .ok (.iaload, 1) := by decide +kernel
theorem dX12_plates_58 : decode cX12_plates 58 = .ok (.ifCond .ge 6, 3) := by decide +kernel
theorem dX12_plates_61 : decode cX12_plates 61 = .ok (.bipush (-11), 2) := by decide +kernel
theorem dX12_plates_63 : decode cX12_plates 63 = .ok (.ireturn, 1) := by decide +kernel
theorem dX12_plates_64 : decode cX12_plates 64 = .ok (.iconst 0, 1) := by decide +kernel
theorem dX12_plates_65 : decode cX12_plates 65 = .ok (.istore 5, 2) := by decide +kernel
theorem dX12_plates_67 : decode cX12_plates 67 = .ok (.iconst 0, 1) := by decide +kernel
theorem dX12_plates_68 : decode cX12_plates 68 = .ok (.istore 6, 2) := by decide +kernel
theorem dX12_plates_70 : decode cX12_plates 70 = .ok (.iload 6, 2) := by decide +kernel
theorem dX12_plates_72 : decode cX12_plates 72 = .ok (.iload 4, 2) := by decide +kernel
theorem dX12_plates_74 : decode cX12_plates 74 = .ok (.if_icmp .ge 89, 3) := by decide +kernel
theorem dX12_plates_77 : decode cX12_plates 77 = .ok (.iload_n 3, 1) := by decide +kernel
theorem dX12_plates_78 : decode cX12_plates 78 = .ok (.i2l, 1) := by decide +kernel
theorem dX12_plates_79 : decode cX12_plates 79 = .ok (.ldc2_w 346, 3) := by decide +kernel
theorem dX12_plates_82 : decode cX12_plates 82 = .ok (.iload 6, 2) := by decide +kernel
theorem dX12_plates_84 : decode cX12_plates 84 = .ok (.i2l, 1) := by decide +kernel
theorem dX12_plates_85 : decode cX12_plates 85 = .ok (.lmul, 1) := by decide +kernel
theorem dX12_plates_86 : decode cX12_plates 86 = .ok (.ladd, 1) := by decide +kernel
theorem dX12_plates_87 : decode cX12_plates 87 = .ok (.lstore 7, 2) := by decide +kernel
theorem dX12_plates_89 : decode cX12_plates 89 = .ok (.lload 7, 2) := by decide +kernel
theorem dX12_plates_91 : decode cX12_plates 91 = .ok (.lconst 0, 1) := by decide +kernel
theorem dX12_plates_92 : decode cX12_plates 92 = .ok (.lcmp, 1) := by decide +kernel
theorem dX12_plates_93 : decode cX12_plates 93 = .ok (.ifCond .lt 18, 3) := by decide +kernel
theorem dX12_plates_96 : decode cX12_plates 96 = .ok (.lload 7, 2) := by decide +kernel
theorem dX12_plates_98 : decode cX12_plates 98 = .ok (.lconst 1, 1) := by decide +kernel
theorem dX12_plates_99 : decode cX12_plates 99 = .ok (.ladd, 1) := by decide +kernel
theorem dX12_plates_100 : decode cX12_plates 100 = .ok (.aload_n 0, 1) := by decide +kernel
theorem dX12_plates_101 : decode cX12_plates 101 = .ok (.getfield 212, 3) := by decide +kernel
theorem dX12_plates_104 : decode cX12_plates 104 = .ok (.iload_n 1, 1) := by decide +kernel
theorem dX12_plates_105 : decode cX12_plates 105 = .ok (.iaload, 1) := by decide +kernel
theorem dX12_plates_106 : decode cX12_plates 106 = .ok (.i2l, 1) := by decide +kernel
theorem dX12_plates_107 : decode cX12_plates 107 = .ok (.lcmp, 1) := by decide +kernel
theorem dX12_plates_108 : decode cX12_plates 108 = .ok (.ifCond .lt 6, 3) := by decide +kernel
theorem dX12_plates_111 : decode cX12_plates 111 = .ok (.bipush (-12), 2) := by decide +kernel
theorem dX12_plates_113 : decode cX12_plates 113 = .ok (.ireturn, 1) := by decide +kernel
theorem dX12_plates_114 : decode cX12_plates 114 = .ok (.bipush 40, 2) := by decide +kernel
theorem dX12_plates_116 : decode cX12_plates 116 = .ok (.iload_n 1, 1) := by decide +kernel
theorem dX12_plates_117 : decode cX12_plates 117 = .ok (.imul, 1) := by decide +kernel
theorem dX12_plates_118 : decode cX12_plates 118 = .ok (.lload 7, 2) := by decide +kernel
theorem dX12_plates_120 : decode cX12_plates 120 = .ok (.l2i, 1) := by decide +kernel
theorem dX12_plates_121 : decode cX12_plates 121 = .ok (.iadd, 1) := by decide +kernel
theorem dX12_plates_122 : decode cX12_plates 122 = .ok (.istore 9, 2) := by decide +kernel
theorem dX12_plates_124 : decode cX12_plates 124 = .ok (.iload 5, 2) := by decide +kernel
theorem dX12_plates_126 : decode cX12_plates 126 = .ok (.aload_n 0, 1) := by decide +kernel
theorem dX12_plates_127 : decode cX12_plates 127 = .ok (.aload_n 0, 1) := by decide +kernel
theorem dX12_plates_128 : decode cX12_plates 128 = .ok (.getfield 215, 3) := by decide +kernel
theorem dX12_plates_131 : decode cX12_plates 131 = .ok (.iload 9, 2) := by decide +kernel
theorem dX12_plates_133 : decode cX12_plates 133 = .ok (.iaload, 1) := by decide +kernel
theorem dX12_plates_134 : decode cX12_plates 134 = .ok (.aload_n 0, 1) := by decide +kernel
theorem dX12_plates_135 : decode cX12_plates 135 = .ok (.getfield 215, 3) := by decide +kernel
theorem dX12_plates_138 : decode cX12_plates 138 = .ok (.iload 9, 2) := by decide +kernel
theorem dX12_plates_140 : decode cX12_plates 140 = .ok (.iconst 1, 1) := by decide +kernel
theorem dX12_plates_141 : decode cX12_plates 141 = .ok (.iadd, 1) := by decide +kernel
theorem dX12_plates_142 : decode cX12_plates 142 = .ok (.iaload, 1) := by decide +kernel
theorem dX12_plates_143 : decode cX12_plates 143 = .ok (.invokevirtual 348, 3) := by decide +kernel
theorem dX12_plates_146 : decode cX12_plates 146 = .ok (.ifCond .lt 7, 3) := by decide +kernel
theorem dX12_plates_149 : decode cX12_plates 149 = .ok (.iconst 1, 1) := by decide +kernel
theorem dX12_plates_150 : decode cX12_plates 150 = .ok (.goto 4, 3) := by decide +kernel
theorem dX12_plates_153 : decode cX12_plates 153 = .ok (.iconst 0, 1) := by decide +kernel
theorem dX12_plates_154 : decode cX12_plates 154 = .ok (.iadd, 1) := by decide +kernel
theorem dX12_plates_155 : decode cX12_plates 155 = .ok (.istore 5, 2) := by decide +kernel
theorem dX12_plates_157 : decode cX12_plates 157 = .ok (.iinc 6 1, 3) := by decide +kernel
theorem dX12_plates_160 : decode cX12_plates 160 = .ok (.goto (-90), 3) := by decide +kernel
theorem dX12_plates_163 : decode cX12_plates 163 = .ok (.iload 5, 2) := by decide +kernel
theorem dX12_plates_165 : decode cX12_plates 165 = .ok (.ireturn, 1) := by decide +kernel
theorem dX12_taken_0 : decode cX12_taken 0 = .ok (.iload_n 2, 1) := by decide +kernel
theorem dX12_taken_1 : decode cX12_taken 1 = .ok (.iconst 0, 1) := by decide +kernel
theorem dX12_taken_2 : decode cX12_taken 2 = .ok (.iconst 5, 1) := by decide +kernel
theorem dX12_taken_3 : decode cX12_taken 3 = .ok (.invokestatic 7, 3) := by decide +kernel
theorem dX12_taken_6 : decode cX12_taken 6 = .ok (.ifCond .ne 6, 3) := by decide +kernel
theorem dX12_taken_9 : decode cX12_taken 9 = .ok (.bipush (-2), 2) := by decide +kernel
theorem dX12_taken_11 : decode cX12_taken 11 = .ok (.ireturn, 1) := by decide +kernel
theorem dX12_taken_12 : decode cX12_taken 12 = .ok (.aload_n 0, 1) := by decide +kernel
theorem dX12_taken_13 : decode cX12_taken 13 = .ok (.iload_n 1, 1) := by decide +kernel
theorem dX12_taken_14 : decode cX12_taken 14 = .ok (.invokevirtual 34, 3) := by decide +kernel
theorem dX12_taken_17 : decode cX12_taken 17 = .ok (.ifCond .ne 6, 3) := by decide +kernel
theorem dX12_taken_20 : decode cX12_taken 20 = .ok (.bipush (-11), 2) := by decide +kernel
theorem dX12_taken_22 : decode cX12_taken 22 = .ok (.ireturn, 1) := by decide +kernel
theorem dX12_taken_23 : decode cX12_taken 23 = .ok (.aload_n 0, 1) := by decide +kernel
theorem dX12_taken_24 : decode cX12_taken 24 = .ok (.getfield 21, 3) := by decide +kernel
theorem dX12_taken_27 : decode cX12_taken 27 = .ok (.iload_n 1, 1) := by decide +kernel
theorem dX12_taken_28 : decode cX12_taken 28 = .ok (.iaload, 1) := by decide +kernel
theorem dX12_taken_29 : decode cX12_taken 29 = .ok (.istore_n 3, 1) := by decide +kernel
theorem dX12_taken_30 : decode cX12_taken 30 = .ok (.iload_n 2, 1) := by decide +kernel
theorem dX12_taken_31 : decode cX12_taken 31 = .ok (.ifCond .eq 33, 3) := by decide +kernel
theorem dX12_taken_34 : decode cX12_taken 34 = .ok (.iload_n 3, 1) := by decide +kernel
theorem dX12_taken_35 : decode cX12_taken 35 = .ok (.iload_n 2, 1) := by decide +kernel
theorem dX12_taken_36 : decode cX12_taken 36 = .ok (.if_icmp .eq 28, 3) := by decide +kernel
theorem dX12_taken_39 : decode cX12_taken 39 = .ok (.iload_n 2, 1) := by decide +kernel
theorem dX12_taken_40 : decode cX12_taken 40 = .ok (.iconst 1, 1) := by decide +kernel
theorem dX12_taken_41 : decode cX12_taken 41 = .ok (.if_icmp .ne 13, 3) := by decide +kernel
theorem dX12_taken_44 : decode cX12_taken 44 = .ok (.iload_n 3, 1) := by decide +kernel
theorem dX12_taken_45 : decode cX12_taken 45 = .ok (.iconst 3, 1) := by decide +kernel
theorem dX12_taken_46 : decode cX12_taken 46 = .ok (.if_icmp .eq 18, 3) := by decide +kernel
theorem dX12_taken_49 : decode cX12_taken 49 = .ok (.iload_n 3, 1) := by decide +kernel
theorem dX12_taken_50 : decode cX12_taken 50 = .ok (.iconst 5, 1) := by decide +kernel
theorem dX12_taken_51 : decode cX12_taken 51 = .ok (.if_icmp .eq 13, 3) := by decide +kernel
theorem dX12_taken_54 : decode cX12_taken 54 = .ok (.iload_n 2, 1) := by decide +kernel
theorem dX12_taken_55 : decode cX12_taken 55 = .ok (.iconst 2, 1) := by decide +kernel
theorem dX12_taken_56 : decode cX12_taken 56 = .ok (.if_icmp .ne 12, 3) := by decide +kernel
theorem dX12_taken_59 : decode cX12_taken 59 = .ok (.iload_n 3, 1) := by decide +kernel
theorem dX12_taken_60 : decode cX12_taken 60 = .ok (.iconst 4, 1) := by decide +kernel
theorem dX12_taken_61 : decode cX12_taken 61 = .ok (.if_icmp .ne 7, 3) := by decide +kernel
theorem dX12_taken_64 : decode cX12_taken 64 = .ok (.iconst 1, 1) := by decide +kernel
theorem dX12_taken_65 : decode cX12_taken 65 = .ok (.goto 4, 3) := by decide +kernel
theorem dX12_taken_68 : decode cX12_taken 68 = .ok (.iconst 0, 1) := by decide +kernel
theorem dX12_taken_69 : decode cX12_taken 69 = .ok (.istore 4, 2) := by decide +kernel
theorem dX12_taken_71 : decode cX12_taken 71 = .ok (.iload 4, 2) := by decide +kernel
theorem dX12_taken_73 : decode cX12_taken 73 = .ok (.ifCond .eq 12, 3) := by decide +kernel
theorem dX12_taken_76 : decode cX12_taken 76 = .ok (.aload_n 0, 1) := by decide +kernel
theorem dX12_taken_77 : decode cX12_taken 77 = .ok (.getfield 24, 3) := by decide +kernel
theorem dX12_taken_80 : decode cX12_taken 80 = .ok (.iload_n 1, 1) := by decide +kernel
theorem dX12_taken_81 : decode cX12_taken 81 = .ok (.iaload, 1) := by decide +kernel
theorem dX12_taken_82 : decode cX12_taken 82 = .ok (.goto 5, 3) := by decide +kernel
theorem dX12_taken_85 : decode cX12_taken 85 = .ok (.bipush (-13), 2) := by decide +kernel
theorem dX12_taken_87 : decode cX12_taken 87 = .ok (.ireturn, 1) := by decide +kernel
