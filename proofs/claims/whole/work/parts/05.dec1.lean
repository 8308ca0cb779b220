theorem dX0_init_0 : decode cX0_init 0 = .ok (.aload_n 0, 1) := by decide +kernel
theorem dX0_init_1 : decode cX0_init 1 = .ok (.invokespecial 3, 3) := by decide +kernel
theorem dX0_init_4 : decode cX0_init 4 = .ok (.aload_n 0, 1) := by decide +kernel
theorem dX0_init_5 : decode cX0_init 5 = .ok (.bipush 49, 2) := by decide +kernel
theorem dX0_init_7 : decode cX0_init 7 = .ok (.newarray .int, 2) := by decide +kernel
theorem dX0_init_9 : decode cX0_init 9 = .ok (.putfield 9, 3) := by decide +kernel
theorem dX0_init_12 : decode cX0_init 12 = .ok (.aload_n 0, 1) := by decide +kernel
theorem dX0_init_13 : decode cX0_init 13 = .ok (.bipush 7, 2) := by decide +kernel
theorem dX0_init_15 : decode cX0_init 15 = .ok (.newarray .int, 2) := by decide +kernel
theorem dX0_init_17 : decode cX0_init 17 = .ok (.putfield 15, 3) := by decide +kernel
theorem dX0_init_20 : decode cX0_init 20 = .ok (.aload_n 0, 1) := by decide +kernel
theorem dX0_init_21 : decode cX0_init 21 = .ok (.iconst 0, 1) := by decide +kernel
theorem dX0_init_22 : decode cX0_init 22 = .ok (.putfield 18, 3) := by decide +kernel
theorem dX0_init_25 : decode cX0_init 25 = .ok (.aload_n 0, 1) := by decide +kernel
theorem dX0_init_26 : decode cX0_init 26 = .ok (.aload_n 1, 1) := by decide +kernel
theorem dX0_init_27 : decode cX0_init 27 = .ok (.putfield 22, 3) := by decide +kernel
theorem dX0_init_30 : decode cX0_init 30 = .ok (.aload_n 0, 1) := by decide +kernel
theorem dX0_init_31 : decode cX0_init 31 = .ok (.aload_n 2, 1) := by decide +kernel
theorem dX0_init_32 : decode cX0_init 32 = .ok (.putfield 26, 3) := by decide +kernel
theorem dX0_init_35 : decode cX0_init 35 = .ok (.return_, 1) := by decide +kernel
theorem dX0_millionths_0 : decode cX0_millionths 0 = .ok (.aload_n 0, 1) := by decide +kernel
theorem dX0_millionths_1 : decode cX0_millionths 1 = .ok (.getfield 22, 3) := by decide +kernel
theorem dX0_millionths_4 : decode cX0_millionths 4 = .ok (.getfield 30, 3) := by decide +kernel
theorem dX0_millionths_7 : decode cX0_millionths 7 = .ok (.bipush 7, 2) := by decide +kernel
theorem dX0_millionths_9 : decode cX0_millionths 9 = .ok (.if_icmp .le 6, 3) := by decide +kernel
theorem dX0_millionths_12 : decode cX0_millionths 12 = .ok (.bipush (-4), 2) := by decide +kernel
theorem dX0_millionths_14 : decode cX0_millionths 14 = .ok (.ireturn, 1) := by decide +kernel
theorem dX0_millionths_15 : decode cX0_millionths 15 = .ok (.iconst 0, 1) := by decide +kernel
theorem dX0_millionths_16 : decode cX0_millionths 16 = .ok (.istore_n 1, 1) := by decide +kernel
theorem dX0_millionths_17 : decode cX0_millionths 17 = .ok (.iload_n 1, 1) := by decide +kernel
theorem dX0_millionths_18 : decode cX0_millionths 18 = .ok (.aload_n 0, 1) := by decide +kernel
theorem dX0_millionths_19 : decode cX0_millionths 19 = .ok (.getfield 22, 3) := by decide +kernel
theorem dX0_millionths_22 : decode cX0_millionths 22 = .ok (.getfield 30, 3) := by decide +kernel
theorem dX0_millionths_25 : decode cX0_millionths 25 = .ok (.if_icmp .ge 57, 3) := by decide +kernel
theorem dX0_millionths_28 : decode cX0_millionths 28 = .ok (.iconst 0, 1) := by decide +kernel
theorem dX0_millionths_29 : decode cX0_millionths 29 = .ok (.istore_n 2, 1) := by decide +kernel
theorem dX0_millionths_30 : decode cX0_millionths 30 = .ok (.iload_n 2, 1) := by decide +kernel
theorem dX0_millionths_31 : decode cX0_millionths 31 = .ok (.aload_n 0, 1) := by decide +kernel
theorem dX0_millionths_32 : decode cX0_millionths 32 = .ok (.getfield 22, 3) := by decide +kernel
theorem dX0_millionths_35 : decode cX0_millionths 35 = .ok (.getfield 30, 3) := by decide +kernel
theorem dX0_millionths_38 : decode cX0_millionths 38 = .ok (.if_icmp .ge 38, 3) := by decide +kernel
theorem dX0_millionths_41 : decode cX0_millionths 41 = .ok (.aload_n 0, 1) := by decide +kernel
theorem dX0_millionths_42 : decode cX0_millionths 42 = .ok (.getfield 9, 3) := by decide +kernel
theorem dX0_millionths_45 : decode cX0_millionths 45 = .ok (.iload_n 1, 1) := by decide +kernel
theorem dX0_millionths_46 : decode cX0_millionths 46 = .ok (.bipush 7, 2) := by decide +kernel
theorem dX0_millionths_48 : decode cX0_millionths 48 = .ok (.imul, 1) := by decide +kernel
theorem dX0_millionths_49 : decode cX0_millionths 49 = .ok (.iload_n 2, 1) := by decide +kernel
theorem dX0_millionths_50 : decode cX0_millionths 50 = .ok (.iadd, 1) := by decide +kernel
theorem dX0_millionths_51 : decode cX0_millionths 51 = .ok (.iload_n 1, 1) := by decide +kernel
theorem dX0_millionths_52 : decode cX0_millionths 52 = .ok (.iload_n 2, 1) := by decide +kernel
theorem dX0_millionths_53 : decode cX0_millionths 53 = .ok (.if_icmp .ne 7, 3) := by decide +kernel
theorem dX0_millionths_56 : decode cX0_millionths 56 = .ok (.iconst 0, 1) := by decide +kernel
theorem dX0_millionths_57 : decode cX0_millionths 57 = .ok (.goto 12, 3) := by decide +kernel
theorem dX0_millionths_60 : decode cX0_millionths 60 = .ok (.aload_n 0, 1) := by decide +kernel
theorem dX0_millionths_61 : decode cX0_millionths 61 = .ok (.getfield 26, 3) := by decide +kernel
theorem dX0_millionths_64 : decode cX0_millionths 64 = .ok (.iload_n 1, 1) := by decide +kernel
theorem dX0_millionths_65 : decode cX0_millionths 65 = .ok (.iload_n 2, 1) := by decide +kernel
theorem dX0_millionths_66 : decode cX0_millionths 66 = .ok (.invokevirtual 35, 3) := by decide +kernel
theorem dX0_millionths_69 : decode cX0_millionths 69 = .ok (.iastore, 1) := by decide +kernel
theorem dX0_millionths_70 : decode cX0_millionths 70 = .ok (.iinc 2 1, 3) := by decide +kernel
theorem dX0_millionths_73 : decode cX0_millionths 73 = .ok (.goto (-43), 3) := by decide +kernel
theorem dX0_millionths_76 : decode cX0_millionths 76 = .ok (.iinc 1 1, 3) := by decide +kernel
theorem dX0_millionths_79 : decode cX0_millionths 79 = .ok (.goto (-62), 3) := by decide +kernel
theorem dX0_millionths_82 : decode cX0_millionths 82 = .ok (.aload_n 0, 1) := by decide +kernel
theorem dX0_millionths_83 : decode cX0_millionths 83 = .ok (.aload_n 0, 1) := by decide +kernel
theorem dX0_millionths_84 : decode cX0_millionths 84 = .ok (.getfield 26, 3) := by decide +kernel
theorem dX0_millionths_87 : decode cX0_millionths 87 = .ok (.invokevirtual 41, 3) := by decide +kernel
theorem dX0_millionths_90 : decode cX0_millionths 90 = .ok (.putfield 18, 3) := by decide +kernel
theorem dX0_millionths_93 : decode cX0_millionths 93 = .ok (.aload_n 0, 1) := by decide +kernel
theorem dX0_millionths_94 : decode cX0_millionths 94 = .ok (.iconst 0, 1) := by decide +kernel
theorem dX0_millionths_95 : decode cX0_millionths 95 = .ok (.iconst 0, 1) := by decide +kernel
theorem dX0_millionths_96 : decode cX0_millionths 96 = .ok (.iconst 0, 1) := by decide +kernel
theorem dX0_millionths_97 : decode cX0_millionths 97 = .ok (.invokevirtual 45, 3) := by decide +kernel
theorem dX0_millionths_100 : decode cX0_millionths 100 = .ok (.ldc2_w 49, 3) := by decide +kernel
theorem dX0_millionths_103 : decode cX0_millionths 103 = .ok (.lmul, 1) := by decide +kernel
theorem dX0_millionths_104 : decode cX0_millionths 104 = .ok (.aload_n 0, 1) := by decide +kernel
theorem dX0_millionths_105 : decode cX0_millionths 105 = .ok (.getfield 22, 3) := by decide +kernel
theorem dX0_millionths_108 : decode cX0_millionths 108 = .ok (.getfield 30, 3) := by decide +kernel
theorem dX0_millionths_111 : decode cX0_millionths 111 = .ok (.invokestatic 51, 3) := by decide +kernel
theorem dX0_millionths_114 : decode cX0_millionths 114 = .ok (.ldiv, 1) := by decide +kernel
theorem dX0_millionths_115 : decode cX0_millionths 115 = .ok (.l2i, 1) := by decide +kernel
theorem dX0_millionths_116 : decode cX0_millionths 116 = .ok (.ireturn, 1) := by decide +kernel
theorem dX0_ordersFrom_0 : decode cX0_ordersFrom 0 = .ok (.iload_n 3, 1) := by decide +kernel
theorem dX0_ordersFrom_1 : decode cX0_ordersFrom 1 = .ok (.aload_n 0, 1) := by decide +kernel
theorem dX0_ordersFrom_2 : decode cX0_ordersFrom 2 = .ok (.getfield 18, 3) := by decide +kernel
theorem dX0_ordersFrom_5 : decode cX0_ordersFrom 5 = .ok (.if_icmp .lt 16, 3) := by decide +kernel
theorem dX0_ordersFrom_8 : decode cX0_ordersFrom 8 = .ok (.aload_n 0, 1) := by decide +kernel
theorem dX0_ordersFrom_9 : decode cX0_ordersFrom 9 = .ok (.getfield 22, 3) := by decide +kernel
theorem dX0_ordersFrom_12 : decode cX0_ordersFrom 12 = .ok (.getfield 30, 3) := by decide +kernel
theorem dX0_ordersFrom_15 : decode cX0_ordersFrom 15 = .ok (.iload_n 1, 1) := by decide +kernel
theorem dX0_ordersFrom_16 : decode cX0_ordersFrom 16 = .ok (.isub, 1) := by decide +kernel
theorem dX0_ordersFrom_17 : decode cX0_ordersFrom 17 = .ok (.invokestatic 51, 3) := by decide +kernel
theorem dX0_ordersFrom_20 : decode cX0_ordersFrom 20 = .ok (.lreturn, 1) := by decide +kernel
theorem dX0_ordersFrom_21 : decode cX0_ordersFrom 21 = .ok (.iload_n 1, 1) := by decide +kernel
theorem dX0_ordersFrom_22 : decode cX0_ordersFrom 22 = .ok (.aload_n 0, 1) := by decide +kernel
theorem dX0_ordersFrom_23 : decode cX0_ordersFrom 23 = .ok (.getfield 22, 3) := by decide +kernel
theorem dX0_ordersFrom_26 : decode cX0_ordersFrom 26 = .ok (.getfield 30, 3) := by decide +kernel
theorem dX0_ordersFrom_29 : decode cX0_ordersFrom 29 = .ok (.if_icmp .ge 9, 3) := by decide +kernel
theorem dX0_ordersFrom_32 : decode cX0_ordersFrom 32 = .ok (.iload_n 1, 1) := by decide +kernel
theorem dX0_ordersFrom_33 : decode cX0_ordersFrom 33 = .ok (.bipush 7, 2) := by decide +kernel
theorem dX0_ordersFrom_35 : decode cX0_ordersFrom 35 = .ok (.if_icmp .lt 5, 3) := by decide +kernel
theorem dX0_ordersFrom_38 : decode cX0_ordersFrom 38 = .ok (.lconst 0, 1) := by decide +kernel
theorem dX0_ordersFrom_39 : decode cX0_ordersFrom 39 = .ok (.lreturn, 1) := by decide +kernel
theorem dX0_ordersFrom_40 : decode cX0_ordersFrom 40 = .ok (.lconst 0, 1) := by decide +kernel
theorem dX0_ordersFrom_41 : decode cX0_ordersFrom 41 = .ok (.lstore 4, 2) := by decide +kernel
theorem dX0_ordersFrom_43 : decode cX0_ordersFrom 43 = .ok (.iconst 0, 1) := by decide +kernel
theorem dX0_ordersFrom_44 : decode cX0_ordersFrom 44 = .ok (.istore 6, 2) := by decide +kernel
theorem dX0_ordersFrom_46 : decode cX0_ordersFrom 46 = .ok (.iload 6, 2) := by decide +kernel
theorem dX0_ordersFrom_48 : decode cX0_ordersFrom 48 = .ok (.aload_n 0, 1) := by decide +kernel
theorem dX0_ordersFrom_49 : decode cX0_ordersFrom 49 = .ok (.getfield 22, 3) := by decide +kernel
theorem dX0_ordersFrom_52 : decode cX0_ordersFrom 52 = .ok (.getfield 30, 3) := by decide +kernel
theorem dX0_ordersFrom_55 : decode cX0_ordersFrom 55 = .ok (.if_icmp .ge 51, 3) := by decide +kernel
theorem dX0_ordersFrom_58 : decode cX0_ordersFrom 58 = .ok (.iload_n 2, 1) := by decide +kernel
theorem dX0_ordersFrom_59 : decode cX0_ordersFrom 59 = .ok (.iload 6, 2) := by decide +kernel
theorem dX0_ordersFrom_61 : decode cX0_ordersFrom 61 = .ok (.ishr, 1) := by decide +kernel
theorem dX0_ordersFrom_62 : decode cX0_ordersFrom 62 = .ok (.iconst 1, 1) := by decide +kernel
theorem dX0_ordersFrom_63 : decode cX0_ordersFrom 63 = .ok (.iand, 1) := by decide +kernel
theorem dX0_ordersFrom_64 : decode cX0_ordersFrom 64 = .ok (.ifCond .ne 36, 3) := by decide +kernel
theorem dX0_ordersFrom_67 : decode cX0_ordersFrom 67 = .ok (.aload_n 0, 1) := by decide +kernel
theorem dX0_ordersFrom_68 : decode cX0_ordersFrom 68 = .ok (.getfield 15, 3) := by decide +kernel
theorem dX0_ordersFrom_71 : decode cX0_ordersFrom 71 = .ok (.iload_n 1, 1) := by decide +kernel
theorem dX0_ordersFrom_72 : decode cX0_ordersFrom 72 = .ok (.iload 6, 2) := by decide +kernel
theorem dX0_ordersFrom_74 : decode cX0_ordersFrom 74 = .ok (.iastore, 1) := by decide +kernel
theorem dX0_ordersFrom_75 : decode cX0_ordersFrom 75 = .ok (.lload 4, 2) := by decide +kernel
theorem dX0_ordersFrom_77 : decode cX0_ordersFrom 77 = .ok (.aload_n 0, 1) := by decide +kernel
theorem dX0_ordersFrom_78 : decode cX0_ordersFrom 78 = .ok (.iload_n 1, 1) := by decide +kernel
theorem dX0_ordersFrom_79 : decode cX0_ordersFrom 79 = .ok (.iconst 1, 1) := by decide +kernel
theorem dX0_ordersFrom_80 : decode cX0_ordersFrom 80 = .ok (.iadd, 1) := by decide +kernel
theorem dX0_ordersFrom_81 : decode cX0_ordersFrom 81 = .ok (.iload_n 2, 1) := by decide +kernel
theorem dX0_ordersFrom_82 : decode cX0_ordersFrom 82 = .ok (.iconst 1, 1) := by decide +kernel
theorem dX0_ordersFrom_83 : decode cX0_ordersFrom 83 = .ok (.iload 6, 2) := by decide +kernel
theorem dX0_ordersFrom_85 : decode cX0_ordersFrom 85 = .ok (.ishl, 1) := by decide +kernel
theorem dX0_ordersFrom_86 : decode cX0_ordersFrom 86 = .ok (.ior, 1) := by decide +kernel
theorem dX0_ordersFrom_87 : decode cX0_ordersFrom 87 = .ok (.iload_n 3, 1) := by decide +kernel
theorem dX0_ordersFrom_88 : decode cX0_ordersFrom 88 = .ok (.aload_n 0, 1) := by decide +kernel
theorem dX0_ordersFrom_89 : decode cX0_ordersFrom 89 = .ok (.iload_n 1, 1) := by decide +kernel
theorem dX0_ordersFrom_90 : decode cX0_ordersFrom 90 = .ok (.invokevirtual 55, 3) := by decide +kernel
theorem dX0_ordersFrom_93 : decode cX0_ordersFrom 93 = .ok (.iadd, 1) := by decide +kernel
theorem dX0_ordersFrom_94 : decode cX0_ordersFrom 94 = .ok (.invokevirtual 45, 3) := by decide +kernel
theorem dX0_ordersFrom_97 : decode cX0_ordersFrom 97 = .ok (.ladd, 1) := by decide +kernel
theorem dX0_ordersFrom_98 : decode cX0_ordersFrom 98 = .ok (.lstore 4, 2) := by decide +kernel
theorem dX0_ordersFrom_100 : decode cX0_ordersFrom 100 = .ok (.iinc 6 1, 3) := by decide +kernel
theorem dX0_ordersFrom_103 : decode cX0_ordersFrom 103 = .ok (.goto (-57), 3) := by decide +kernel
theorem dX0_ordersFrom_106 : decode cX0_ordersFrom 106 = .ok (.lload 4, 2) := by decide +kernel
theorem dX0_ordersFrom_108 : decode cX0_ordersFrom 108 = .ok (.lreturn, 1) := by decide +kernel
theorem dX0_withNear_0 : decode cX0_withNear 0 = .ok (.iconst 0, 1) := by decide +kernel
theorem dX0_withNear_1 : decode cX0_withNear 1 = .ok (.istore_n 2, 1) := by decide +kernel
theorem dX0_withNear_2 : decode cX0_withNear 2 = .ok (.iconst 0, 1) := by decide +kernel
theorem dX0_withNear_3 : decode cX0_withNear 3 = .ok (.istore_n 3, 1) := by decide +kernel
theorem dX0_withNear_4 : decode cX0_withNear 4 = .ok (.iload_n 3, 1) := by decide +kernel
theorem dX0_withNear_5 : decode cX0_withNear 5 = .ok (.iload_n 1, 1) := by decide +kernel
theorem dX0_withNear_6 : decode cX0_withNear 6 = .ok (.if_icmp .ge 45, 3) := by decide +kernel
theorem dX0_withNear_9 : decode cX0_withNear 9 = .ok (.aload_n 0, 1) := by decide +kernel
theorem dX0_withNear_10 : decode cX0_withNear 10 = .ok (.getfield 22, 3) := by decide +kernel
theorem dX0_withNear_13 : decode cX0_withNear 13 = .ok (.iload_n 3, 1) := by decide +kernel
theorem dX0_withNear_14 : decode cX0_withNear 14 = .ok (.iload_n 1, 1) := by decide +kernel
theorem dX0_withNear_15 : decode cX0_withNear 15 = .ok (.invokevirtual 59, 3) := by decide +kernel
theorem dX0_withNear_18 : decode cX0_withNear 18 = .ok (.ifCond .eq 27, 3) := by decide +kernel
theorem dX0_withNear_21 : decode cX0_withNear 21 = .ok (.iload_n 2, 1) := by decide +kernel
theorem dX0_withNear_22 : decode cX0_withNear 22 = .ok (.aload_n 0, 1) := by decide +kernel
theorem dX0_withNear_23 : decode cX0_withNear 23 = .ok (.getfield 9, 3) := by decide +kernel
theorem dX0_withNear_26 : decode cX0_withNear 26 = .ok (.aload_n 0, 1) := by decide +kernel
theorem dX0_withNear_27 : decode cX0_withNear 27 = .ok (.getfield 15, 3) := by decide +kernel
theorem dX0_withNear_30 : decode cX0_withNear 30 = .ok (.iload_n 3, 1) := by decide +kernel
theorem dX0_withNear_31 : decode cX0_withNear 31 = .ok (.iaload, 1) := by decide +kernel
theorem dX0_withNear_32 : decode cX0_withNear 32 = .ok (.bipush 7, 2) := by decide +kernel
theorem dX0_withNear_34 : decode cX0_withNear 34 = .ok (.imul, 1) := by decide +kernel
theorem dX0_withNear_35 : decode cX0_withNear 35 = .ok (.aload_n 0, 1) := by decide +kernel
theorem dX0_withNear_36 : decode cX0_withNear 36 = .ok (.getfield 15, 3) := by decide +kernel
theorem dX0_withNear_39 : decode cX0_withNear 39 = .ok (.iload_n 1, 1) := by decide +kernel
theorem dX0_withNear_40 : decode cX0_withNear 40 = .ok (.iaload, 1) := by decide +kernel
theorem dX0_withNear_41 : decode cX0_withNear 41 = .ok (.iadd, 1) := by decide +kernel
theorem dX0_withNear_42 : decode cX0_withNear 42 = .ok (.iaload, 1) := by decide +kernel
theorem dX0_withNear_43 : decode cX0_withNear 43 = .ok (.iadd, 1) := by decide +kernel
theorem dX0_withNear_44 : decode cX0_withNear 44 = .ok (.istore_n 2, 1) := by decide +kernel
theorem dX0_withNear_45 : decode cX0_withNear 45 = .ok (.iinc 3 1, 3) := by decide +kernel
theorem dX0_withNear_48 : decode cX0_withNear 48 = .ok (.goto (-44), 3) := by decide +kernel
theorem dX0_withNear_51 : decode cX0_withNear 51 = .ok (.iload_n 2, 1) := by decide +kernel
theorem dX0_withNear_52 : decode cX0_withNear 52 = .ok (.ireturn, 1) := by decide +kernel
theorem dX0_orders_0 : decode cX0_orders 0 = .ok (.lconst 1, 1) := by decide +kernel
theorem dX0_orders_1 : decode cX0_orders 1 = .ok (.lstore_n 1, 1) := by decide +kernel
theorem dX0_orders_2 : decode cX0_orders 2 = .ok (.iconst 2, 1) := by decide +kernel
theorem dX0_orders_3 : decode cX0_orders 3 = .ok (.istore_n 3, 1) := by decide +kernel
theorem dX0_orders_4 : decode cX0_orders 4 = .ok (.iload_n 3, 1) := by decide +kernel
theorem dX0_orders_5 : decode cX0_orders 5 = .ok (.iload_n 0, 1) := by decide +kernel
theorem dX0_orders_6 : decode cX0_orders 6 = .ok (.if_icmp .gt 14, 3) := by decide +kernel
theorem dX0_orders_9 : decode cX0_orders 9 = .ok (.lload_n 1, 1) := by decide +kernel
theorem dX0_orders_10 : decode cX0_orders 10 = .ok (.iload_n 3, 1) := by decide +kernel
theorem dX0_orders_11 : decode cX0_orders 11 = .ok (.i2l, 1) := by decide +kernel
theorem dX0_orders_12 : decode cX0_orders 12 = .ok (.lmul, 1) := by decide +kernel
theorem dX0_orders_13 : decode cX0_orders 13 = .ok (.lstore_n 1, 1) := by decide +kernel
theorem dX0_orders_14 : decode cX0_orders 14 = .ok (.iinc 3 1, 3) := by decide +kernel
theorem dX0_orders_17 : decode cX0_orders 17 = .ok (.goto (-13), 3) := by decide +kernel
theorem dX0_orders_20 : decode cX0_orders 20 = .ok (.lload_n 1, 1) := by decide +kernel
theorem dX0_orders_21 : decode cX0_orders 21 = .ok (.lreturn, 1) := by decide +kernel
theorem dX1_init_0 : decode cX1_init 0 = .ok (.aload_n 0, 1) := by decide +kernel
theorem dX1_init_1 : decode cX1_init 1 = .ok (.invokespecial 1, 3) := by decide +kernel
theorem dX1_init_4 : decode cX1_init 4 = .ok (.aload_n 0, 1) := by decide +kernel
theorem dX1_init_5 : decode cX1_init 5 = .ok (.lconst 0, 1) := by decide +kernel
theorem dX1_init_6 : decode cX1_init 6 = .ok (.putfield 7, 3) := by decide +kernel
theorem dX1_init_9 : decode cX1_init 9 = .ok (.aload_n 0, 1) := by decide +kernel
theorem dX1_init_10 : decode cX1_init 10 = .ok (.lconst 1, 1) := by decide +kernel
theorem dX1_init_11 : decode cX1_init 11 = .ok (.putfield 13, 3) := by decide +kernel
theorem dX1_init_14 : decode cX1_init 14 = .ok (.return_, 1) := by decide +kernel
theorem dX1_become_0 : decode cX1_become 0 = .ok (.lload_n 1, 1) := by decide +kernel
theorem dX1_become_1 : decode cX1_become 1 = .ok (.invokestatic 16, 3) := by decide +kernel
theorem dX1_become_4 : decode cX1_become 4 = .ok (.lload_n 3, 1) := by decide +kernel
theorem dX1_become_5 : decode cX1_become 5 = .ok (.invokestatic 22, 3) := by decide +kernel
theorem dX1_become_8 : decode cX1_become 8 = .ok (.lstore 5, 2) := by decide +kernel
theorem dX1_become_10 : decode cX1_become 10 = .ok (.aload_n 0, 1) := by decide +kernel
theorem dX1_become_11 : decode cX1_become 11 = .ok (.lload 5, 2) := by decide +kernel
theorem dX1_become_13 : decode cX1_become 13 = .ok (.lconst 0, 1) := by decide +kernel
theorem dX1_become_14 : decode cX1_become 14 = .ok (.lcmp, 1) := by decide +kernel
theorem dX1_become_15 : decode cX1_become 15 = .ok (.ifCond .ne 7, 3) := by decide +kernel
theorem dX1_become_18 : decode cX1_become 18 = .ok (.lconst 0, 1) := by decide +kernel
theorem dX1_become_19 : decode cX1_become 19 = .ok (.goto 7, 3) := by decide +kernel
theorem dX1_become_22 : decode cX1_become 22 = .ok (.lload_n 1, 1) := by decide +kernel
theorem dX1_become_23 : decode cX1_become 23 = .ok (.lload 5, 2) := by decide +kernel
theorem dX1_become_25 : decode cX1_become 25 = .ok (.ldiv, 1) := by decide +kernel
theorem dX1_become_26 : decode cX1_become 26 = .ok (.putfield 7, 3) := by decide +kernel
theorem dX1_become_29 : decode cX1_become 29 = .ok (.aload_n 0, 1) := by decide +kernel
theorem dX1_become_30 : decode cX1_become 30 = .ok (.lload 5, 2) := by decide +kernel
theorem dX1_become_32 : decode cX1_become 32 = .ok (.lconst 0, 1) := by decide +kernel
theorem dX1_become_33 : decode cX1_become 33 = .ok (.lcmp, 1) := by decide +kernel
theorem dX1_become_34 : decode cX1_become 34 = .ok (.ifCond .ne 7, 3) := by decide +kernel
theorem dX1_become_37 : decode cX1_become 37 = .ok (.lconst 1, 1) := by decide +kernel
theorem dX1_become_38 : decode cX1_become 38 = .ok (.goto 7, 3) := by decide +kernel
theorem dX1_become_41 : decode cX1_become 41 = .ok (.lload_n 3, 1) := by decide +kernel
theorem dX1_become_42 : decode cX1_become 42 = .ok (.lload 5, 2) := by decide +kernel
theorem dX1_become_44 : decode cX1_become 44 = .ok (.ldiv, 1) := by decide +kernel
theorem dX1_become_45 : decode cX1_become 45 = .ok (.putfield 13, 3) := by decide +kernel
theorem dX1_become_48 : decode cX1_become 48 = .ok (.return_, 1) := by decide +kernel
theorem dX1_part_0 : decode cX1_part 0 = .ok (.iload_n 1, 1) := by decide +kernel
theorem dX1_part_1 : decode cX1_part 1 = .ok (.ifCond .ne 10, 3) := by decide +kernel
theorem dX1_part_4 : decode cX1_part 4 = .ok (.aload_n 0, 1) := by decide +kernel
theorem dX1_part_5 : decode cX1_part 5 = .ok (.getfield 7, 3) := by decide +kernel
theorem dX1_part_8 : decode cX1_part 8 = .ok (.goto 7, 3) := by decide +kernel
theorem dX1_part_11 : decode cX1_part 11 = .ok (.aload_n 0, 1) := by decide +kernel
theorem dX1_part_12 : decode cX1_part 12 = .ok (.getfield 13, 3) := by decide +kernel
theorem dX1_part_15 : decode cX1_part 15 = .ok (.lreturn, 1) := by decide +kernel
theorem dX1_commonDivisor_0 : decode cX1_commonDivisor 0 = .ok (.lload_n 0, 1) := by decide +kernel
theorem dX1_commonDivisor_1 : decode cX1_commonDivisor 1 = .ok (.lstore 4, 2) := by decide +kernel
theorem dX1_commonDivisor_3 : decode cX1_commonDivisor 3 = .ok (.lload_n 2, 1) := by decide +kernel
theorem dX1_commonDivisor_4 : decode cX1_commonDivisor 4 = .ok (.lstore 6, 2) := by decide +kernel
theorem dX1_commonDivisor_6 : decode cX1_commonDivisor 6 = .ok (.iconst 0, 1) := by decide +kernel
theorem dX1_commonDivisor_7 : decode cX1_commonDivisor 7 = .ok (.istore 8, 2) := by decide +kernel
theorem dX1_commonDivisor_9 : decode cX1_commonDivisor 9 = .ok (.iload 8, 2) := by decide +kernel
theorem dX1_commonDivisor_11 : decode cX1_commonDivisor 11 = .ok (.bipush 100, 2) := by decide +kernel
theorem dX1_commonDivisor_13 : decode cX1_commonDivisor 13 = .ok (.if_icmp .ge 31, 3) := by decide +kernel
theorem dX1_commonDivisor_16 : decode cX1_commonDivisor 16 = .ok (.lload 6, 2) := by decide +kernel
theorem dX1_commonDivisor_18 : decode cX1_commonDivisor 18 = .ok (.lconst 0, 1) := by decide +kernel
theorem dX1_commonDivisor_19 : decode cX1_commonDivisor 19 = .ok (.lcmp, 1) := by decide +kernel
theorem dX1_commonDivisor_20 : decode cX1_commonDivisor 20 = .ok (.ifCond .eq 24, 3) := by decide +kernel
theorem dX1_commonDivisor_23 : decode cX1_commonDivisor 23 = .ok (.lload 4, 2) := by decide +kernel
theorem dX1_commonDivisor_25 : decode cX1_commonDivisor 25 = .ok (.lload 6, 2) := by decide +kernel
theorem dX1_commonDivisor_27 : decode cX1_commonDivisor 27 = .ok (.lrem, 1) := by decide +kernel
theorem dX1_commonDivisor_28 : decode cX1_commonDivisor 28 = .ok (.lstore 9, 2) := by decide +kernel
theorem dX1_commonDivisor_30 : decode cX1_commonDivisor 30 = .ok (.lload 6, 2) := by decide +kernel
theorem dX1_commonDivisor_32 : decode cX1_commonDivisor 32 = .ok (.lstore 4, 2) := by decide +kernel
theorem dX1_commonDivisor_34 : decode cX1_commonDivisor 34 = .ok (.lload 9, 2) := by decide +kernel
theorem dX1_commonDivisor_36 : decode cX1_commonDivisor 36 = .ok (.lstore 6, 2) := by decide +kernel
theorem dX1_commonDivisor_38 : decode cX1_commonDivisor 38 = .ok (.iinc 8 1, 3) := by decide +kernel
theorem dX1_commonDivisor_41 : decode cX1_commonDivisor 41 = .ok (.goto (-32), 3) := by decide +kernel
theorem dX1_commonDivisor_44 : decode cX1_commonDivisor 44 = .ok (.lload 4, 2) := by decide +kernel
theorem dX1_commonDivisor_46 : decode cX1_commonDivisor 46 = .ok (.lreturn, 1) := by decide +kernel
theorem dX2_init_0 : decode cX2_init 0 = .ok (.aload_n 0, 1) := by decide +kernel
theorem dX2_init_1 : decode cX2_init 1 = .ok (.invokespecial 3, 3) := by decide +kernel
theorem dX2_init_4 : decode cX2_init 4 = .ok (.aload_n 0, 1) := by decide +kernel
theorem dX2_init_5 : decode cX2_init 5 = .ok (.bipush 10, 2) := by decide +kernel
theorem dX2_init_7 : decode cX2_init 7 = .ok (.newarray .int, 2) := by decide +kernel
theorem dX2_init_9 : decode cX2_init 9 = .ok (.putfield 9, 3) := by decide +kernel
theorem dX2_init_12 : decode cX2_init 12 = .ok (.aload_n 0, 1) := by decide +kernel
theorem dX2_init_13 : decode cX2_init 13 = .ok (.bipush 10, 2) := by decide +kernel
theorem dX2_init_15 : decode cX2_init 15 = .ok (.newarray .int, 2) := by decide +kernel
theorem dX2_init_17 : decode cX2_init 17 = .ok (.putfield 15, 3) := by decide +kernel
theorem dX2_init_20 : decode cX2_init 20 = .ok (.aload_n 0, 1) := by decide +kernel
theorem dX2_init_21 : decode cX2_init 21 = .ok (.bipush 10, 2) := by decide +kernel
theorem dX2_init_23 : decode cX2_init 23 = .ok (.newarray .int, 2) := by decide +kernel
theorem dX2_init_25 : decode cX2_init 25 = .ok (.putfield 18, 3) := by decide +kernel
theorem dX2_init_28 : decode cX2_init 28 = .ok (.aload_n 0, 1) := by decide +kernel
theorem dX2_init_29 : decode cX2_init 29 = .ok (.aload_n 1, 1) := by decide +kernel
theorem dX2_init_30 : decode cX2_init 30 = .ok (.putfield 21, 3) := by decide +kernel
theorem dX2_init_33 : decode cX2_init 33 = .ok (.aload_n 0, 1) := by decide +kernel
theorem dX2_init_34 : decode cX2_init 34 = .ok (.aload_n 2, 1) := by decide +kernel
theorem dX2_init_35 : decode cX2_init 35 = .ok (.putfield 25, 3) := by decide +kernel
theorem dX2_init_38 : decode cX2_init 38 = .ok (.aload_n 0, 1) := by decide +kernel
theorem dX2_init_39 : decode cX2_init 39 = .ok (.aload_n 3, 1) := by decide +kernel
theorem dX2_init_40 : decode cX2_init 40 = .ok (.putfield 29, 3) := by decide +kernel
theorem dX2_init_43 : decode cX2_init 43 = .ok (.aload_n 0, 1) := by decide +kernel
theorem dX2_init_44 : decode cX2_init 44 = .ok (.aload 4, 2) := by decide +kernel
theorem dX2_init_46 : decode cX2_init 46 = .ok (.putfield 33, 3) := by decide +kernel
theorem dX2_init_49 : decode cX2_init 49 = .ok (.return_, 1) := by decide +kernel
theorem dX2_link_0 : decode cX2_link 0 = .ok (.aload_n 0, 1) := by decide +kernel
theorem dX2_link_1 : decode cX2_link 1 = .ok (.getfield 9, 3) := by decide +kernel
theorem dX2_link_4 : decode cX2_link 4 = .ok (.iconst 0, 1) := by decide +kernel
theorem dX2_link_5 : decode cX2_link 5 = .ok (.invokestatic 37, 3) := by decide +kernel
theorem dX2_link_8 : decode cX2_link 8 = .ok (.iconst 0, 1) := by decide +kernel
theorem dX2_link_9 : decode cX2_link 9 = .ok (.istore_n 1, 1) := by decide +kernel
theorem dX2_link_10 : decode cX2_link 10 = .ok (.iload_n 1, 1) := by decide +kernel
theorem dX2_link_11 : decode cX2_link 11 = .ok (.aload_n 0, 1) := by decide +kernel
theorem dX2_link_12 : decode cX2_link 12 = .ok (.getfield 21, 3) := by decide +kernel
theorem dX2_link_15 : decode cX2_link 15 = .ok (.getfield 43, 3) := by decide +kernel
theorem dX2_link_18 : decode cX2_link 18 = .ok (.if_icmp .ge 78, 3) := by decide +kernel
theorem dX2_link_21 : decode cX2_link 21 = .ok (.iload_n 1, 1) := by decide +kernel
theorem dX2_link_22 : decode cX2_link 22 = .ok (.iconst 1, 1) := by decide +kernel
theorem dX2_link_23 : decode cX2_link 23 = .ok (.iadd, 1) := by decide +kernel
theorem dX2_link_24 : decode cX2_link 24 = .ok (.istore_n 2, 1) := by decide +kernel
theorem dX2_link_25 : decode cX2_link 25 = .ok (.iload_n 2, 1) := by decide +kernel
theorem dX2_link_26 : decode cX2_link 26 = .ok (.aload_n 0, 1) := by decide +kernel
theorem dX2_link_27 : decode cX2_link 27 = .ok (.getfield 21, 3) := by decide +kernel
theorem dX2_link_30 : decode cX2_link 30 = .ok (.getfield 43, 3) := by decide +kernel
theorem dX2_link_33 : decode cX2_link 33 = .ok (.if_icmp .ge 57, 3) := by decide +kernel
theorem dX2_link_36 : decode cX2_link 36 = .ok (.aload_n 0, 1) := by decide +kernel
theorem dX2_link_37 : decode cX2_link 37 = .ok (.getfield 21, 3) := by decide +kernel
theorem dX2_link_40 : decode cX2_link 40 = .ok (.iload_n 1, 1) := by decide +kernel
theorem dX2_link_41 : decode cX2_link 41 = .ok (.iload_n 2, 1) := by decide +kernel
theorem dX2_link_42 : decode cX2_link 42 = .ok (.invokevirtual 49, 3) := by decide +kernel
theorem dX2_link_45 : decode cX2_link 45 = .ok (.ifCond .eq 39, 3) := by decide +kernel
theorem dX2_link_48 : decode cX2_link 48 = .ok (.aload_n 0, 1) := by decide +kernel
theorem dX2_link_49 : decode cX2_link 49 = .ok (.getfield 33, 3) := by decide +kernel
theorem dX2_link_52 : decode cX2_link 52 = .ok (.iload_n 1, 1) := by decide +kernel
theorem dX2_link_53 : decode cX2_link 53 = .ok (.iload_n 2, 1) := by decide +kernel
theorem dX2_link_54 : decode cX2_link 54 = .ok (.invokevirtual 53, 3) := by decide +kernel
theorem dX2_link_57 : decode cX2_link 57 = .ok (.ifCond .eq 27, 3) := by decide +kernel
theorem dX2_link_60 : decode cX2_link 60 = .ok (.aload_n 0, 1) := by decide +kernel
theorem dX2_link_61 : decode cX2_link 61 = .ok (.getfield 9, 3) := by decide +kernel
theorem dX2_link_64 : decode cX2_link 64 = .ok (.iload_n 1, 1) := by decide +kernel
theorem dX2_link_65 : decode cX2_link 65 = .ok (.dup2, 1) := by decide +kernel
theorem dX2_link_66 : decode cX2_link 66 = .ok (.iaload, 1) := by decide +kernel
theorem dX2_link_67 : decode cX2_link 67 = .ok (.iconst 1, 1) := by decide +kernel
theorem dX2_link_68 : decode cX2_link 68 = .ok (.iload_n 2, 1) := by decide +kernel
theorem dX2_link_69 : decode cX2_link 69 = .ok (.ishl, 1) := by decide +kernel
theorem dX2_link_70 : decode cX2_link 70 = .ok (.ior, 1) := by decide +kernel
theorem dX2_link_71 : decode cX2_link 71 = .ok (.iastore, 1) := by decide +kernel
theorem dX2_link_72 : decode cX2_link 72 = .ok (.aload_n 0, 1) := by decide +kernel
theorem dX2_link_73 : decode cX2_link 73 = .ok (.getfield 9, 3) := by decide +kernel
theorem dX2_link_76 : decode cX2_link 76 = .ok (.iload_n 2, 1) := by decide +kernel
theorem dX2_link_77 : decode cX2_link 77 = .ok (.dup2, 1) := by decide +kernel
theorem dX2_link_78 : decode cX2_link 78 = .ok (.iaload, 1) := by decide +kernel
theorem dX2_link_79 : decode cX2_link 79 = .ok (.iconst 1, 1) := by decide +kernel
theorem dX2_link_80 : decode cX2_link 80 = .ok (.iload_n 1, 1) := by decide +kernel
theorem dX2_link_81 : decode cX2_link 81 = .ok (.ishl, 1) := by decide +kernel
theorem dX2_link_82 : decode cX2_link 82 = .ok (.ior, 1) := by decide +kernel
theorem dX2_link_83 : decode cX2_link 83 = .ok (.iastore, 1) := by decide +kernel
theorem dX2_link_84 : decode cX2_link 84 = .ok (.iinc 2 1, 3) := by decide +kernel
theorem dX2_link_87 : decode cX2_link 87 = .ok (.goto (-62), 3) := by decide +kernel
theorem dX2_link_90 : decode cX2_link 90 = .ok (.iinc 1 1, 3) := by decide +kernel
theorem dX2_link_93 : decode cX2_link 93 = .ok (.goto (-83), 3) := by decide +kernel
theorem dX2_link_96 : decode cX2_link 96 = .ok (.return_, 1) := by decide +kernel
theorem dX2_fewest_0 : decode cX2_fewest 0 = .ok (.aload_n 0, 1) := by decide +kernel
theorem dX2_fewest_1 : decode cX2_fewest 1 = .ok (.getfield 21, 3) := by decide +kernel
theorem dX2_fewest_4 : decode cX2_fewest 4 = .ok (.invokevirtual 58, 3) := by decide +kernel
theorem dX2_fewest_7 : decode cX2_fewest 7 = .ok (.istore_n 1, 1) := by decide +kernel
theorem dX2_fewest_8 : decode cX2_fewest 8 = .ok (.iconst 0, 1) := by decide +kernel
theorem dX2_fewest_9 : decode cX2_fewest 9 = .ok (.istore_n 2, 1) := by decide +kernel
theorem dX2_fewest_10 : decode cX2_fewest 10 = .ok (.iload_n 2, 1) := by decide +kernel
theorem dX2_fewest_11 : decode cX2_fewest 11 = .ok (.aload_n 0, 1) := by decide +kernel
theorem dX2_fewest_12 : decode cX2_fewest 12 = .ok (.getfield 21, 3) := by decide +kernel
theorem dX2_fewest_15 : decode cX2_fewest 15 = .ok (.invokevirtual 58, 3) := by decide +kernel
theorem dX2_fewest_18 : decode cX2_fewest 18 = .ok (.if_icmp .gt 30, 3) := by decide +kernel
theorem dX2_fewest_21 : decode cX2_fewest 21 = .ok (.iload_n 2, 1) := by decide +kernel
theorem dX2_fewest_22 : decode cX2_fewest 22 = .ok (.invokestatic 62, 3) := by decide +kernel
theorem dX2_fewest_25 : decode cX2_fewest 25 = .ok (.iload_n 1, 1) := by decide +kernel
theorem dX2_fewest_26 : decode cX2_fewest 26 = .ok (.invokestatic 62, 3) := by decide +kernel
theorem dX2_fewest_29 : decode cX2_fewest 29 = .ok (.if_icmp .ge 13, 3) := by decide +kernel
theorem dX2_fewest_32 : decode cX2_fewest 32 = .ok (.aload_n 0, 1) := by decide +kernel
theorem dX2_fewest_33 : decode cX2_fewest 33 = .ok (.iload_n 2, 1) := by decide +kernel
theorem dX2_fewest_34 : decode cX2_fewest 34 = .ok (.invokevirtual 68, 3) := by decide +kernel
theorem dX2_fewest_37 : decode cX2_fewest 37 = .ok (.ifCond .eq 5, 3) := by decide +kernel
theorem dX2_fewest_40 : decode cX2_fewest 40 = .ok (.iload_n 2, 1) := by decide +kernel
theorem dX2_fewest_41 : decode cX2_fewest 41 = .ok (.istore_n 1, 1) := by decide +kernel
theorem dX2_fewest_42 : decode cX2_fewest 42 = .ok (.iinc 2 1, 3) := by decide +kernel
theorem dX2_fewest_45 : decode cX2_fewest 45 = .ok (.goto (-35), 3) := by decide +kernel
theorem dX2_fewest_48 : decode cX2_fewest 48 = .ok (.iload_n 1, 1) := by decide +kernel
theorem dX2_fewest_49 : decode cX2_fewest 49 = .ok (.ireturn, 1) := by decide +kernel
theorem dX2_weigh_0 : decode cX2_weigh 0 = .ok (.iconst 0, 1) := by decide +kernel
theorem dX2_weigh_1 : decode cX2_weigh 1 = .ok (.istore_n 1, 1) := by decide +kernel
theorem dX2_weigh_2 : decode cX2_weigh 2 = .ok (.iload_n 1, 1) := by decide +kernel
theorem dX2_weigh_3 : decode cX2_weigh 3 = .ok (.aload_n 0, 1) := by decide +kernel
theorem dX2_weigh_4 : decode cX2_weigh 4 = .ok (.getfield 21, 3) := by decide +kernel
theorem dX2_weigh_7 : decode cX2_weigh 7 = .ok (.getfield 43, 3) := by decide +kernel
theorem dX2_weigh_10 : decode cX2_weigh 10 = .ok (.if_icmp .ge 39, 3) := by decide +kernel
theorem dX2_weigh_13 : decode cX2_weigh 13 = .ok (.aload_n 0, 1) := by decide +kernel
theorem dX2_weigh_14 : decode cX2_weigh 14 = .ok (.getfield 15, 3) := by decide +kernel
theorem dX2_weigh_17 : decode cX2_weigh 17 = .ok (.iload_n 1, 1) := by decide +kernel
theorem dX2_weigh_18 : decode cX2_weigh 18 = .ok (.aload_n 0, 1) := by decide +kernel
theorem dX2_weigh_19 : decode cX2_weigh 19 = .ok (.getfield 25, 3) := by decide +kernel
theorem dX2_weigh_22 : decode cX2_weigh 22 = .ok (.iload_n 1, 1) := by decide +kernel
theorem dX2_weigh_23 : decode cX2_weigh 23 = .ok (.invokevirtual 72, 3) := by decide +kernel
theorem dX2_weigh_26 : decode cX2_weigh 26 = .ok (.sipush 151, 3) := by decide +kernel
theorem dX2_weigh_29 : decode cX2_weigh 29 = .ok (.imul, 1) := by decide +kernel
theorem dX2_weigh_30 : decode cX2_weigh 30 = .ok (.aload_n 0, 1) := by decide +kernel
theorem dX2_weigh_31 : decode cX2_weigh 31 = .ok (.getfield 29, 3) := by decide +kernel
theorem dX2_weigh_34 : decode cX2_weigh 34 = .ok (.iconst 1, 1) := by decide +kernel
theorem dX2_weigh_35 : decode cX2_weigh 35 = .ok (.iload_n 1, 1) := by decide +kernel
theorem dX2_weigh_36 : decode cX2_weigh 36 = .ok (.ishl, 1) := by decide +kernel
theorem dX2_weigh_37 : decode cX2_weigh 37 = .ok (.iconst 0, 1) := by decide +kernel
theorem dX2_weigh_38 : decode cX2_weigh 38 = .ok (.invokevirtual 77, 3) := by decide +kernel
theorem dX2_weigh_41 : decode cX2_weigh 41 = .ok (.isub, 1) := by decide +kernel
theorem dX2_weigh_42 : decode cX2_weigh 42 = .ok (.iastore, 1) := by decide +kernel
theorem dX2_weigh_43 : decode cX2_weigh 43 = .ok (.iinc 1 1, 3) := by decide +kernel
theorem dX2_weigh_46 : decode cX2_weigh 46 = .ok (.goto (-44), 3) := by decide +kernel
theorem dX2_weigh_49 : decode cX2_weigh 49 = .ok (.return_, 1) := by decide +kernel
theorem dX2_giver_0 : decode cX2_giver 0 = .ok (.aload_n 0, 1) := by decide +kernel
theorem dX2_giver_1 : decode cX2_giver 1 = .ok (.getfield 15, 3) := by decide +kernel
theorem dX2_giver_4 : decode cX2_giver 4 = .ok (.iload_n 1, 1) := by decide +kernel
theorem dX2_giver_5 : decode cX2_giver 5 = .ok (.iaload, 1) := by decide +kernel
theorem dX2_giver_6 : decode cX2_giver 6 = .ok (.aload_n 0, 1) := by decide +kernel
theorem dX2_giver_7 : decode cX2_giver 7 = .ok (.getfield 15, 3) := by decide +kernel
theorem dX2_giver_10 : decode cX2_giver 10 = .ok (.iload_n 2, 1) := by decide +kernel
theorem dX2_giver_11 : decode cX2_giver 11 = .ok (.iaload, 1) := by decide +kernel
theorem dX2_giver_12 : decode cX2_giver 12 = .ok (.if_icmp .ne 5, 3) := by decide +kernel
theorem dX2_giver_15 : decode cX2_giver 15 = .ok (.iconst (-1), 1) := by decide +kernel
theorem dX2_giver_16 : decode cX2_giver 16 = .ok (.ireturn, 1) := by decide +kernel
theorem dX2_giver_17 : decode cX2_giver 17 = .ok (.aload_n 0, 1) := by decide +kernel
theorem dX2_giver_18 : decode cX2_giver 18 = .ok (.getfield 15, 3) := by decide +kernel
theorem dX2_giver_21 : decode cX2_giver 21 = .ok (.iload_n 1, 1) := by decide +kernel
theorem dX2_giver_22 : decode cX2_giver 22 = .ok (.iaload, 1) := by decide +kernel
theorem dX2_giver_23 : decode cX2_giver 23 = .ok (.aload_n 0, 1) := by decide +kernel
theorem dX2_giver_24 : decode cX2_giver 24 = .ok (.getfield 15, 3) := by decide +kernel
theorem dX2_giver_27 : decode cX2_giver 27 = .ok (.iload_n 2, 1) := by decide +kernel
theorem dX2_giver_28 : decode cX2_giver 28 = .ok (.iaload, 1) := by decide +kernel
theorem dX2_giver_29 : decode cX2_giver 29 = .ok (.if_icmp .le 7, 3) := by decide +kernel
theorem dX2_giver_32 : decode cX2_giver 32 = .ok (.iload_n 1, 1) := by decide +kernel
theorem dX2_giver_33 : decode cX2_giver 33 = .ok (.goto 4, 3) := by decide +kernel
theorem dX2_giver_36 : decode cX2_giver 36 = .ok (.iload_n 2, 1) := by decide +kernel
theorem dX2_giver_37 : decode cX2_giver 37 = .ok (.ireturn, 1) := by decide +kernel
theorem dX2_longestChain_0 : decode cX2_longestChain 0 = .ok (.aload_n 0, 1) := by decide +kernel
theorem dX2_longestChain_1 : decode cX2_longestChain 1 = .ok (.getfield 18, 3) := by decide +kernel
theorem dX2_longestChain_4 : decode cX2_longestChain 4 = .ok (.iconst 1, 1) := by decide +kernel
theorem dX2_longestChain_5 : decode cX2_longestChain 5 = .ok (.invokestatic 37, 3) := by decide +kernel
theorem dX2_longestChain_8 : decode cX2_longestChain 8 = .ok (.aload_n 0, 1) := by decide +kernel
theorem dX2_longestChain_9 : decode cX2_longestChain 9 = .ok (.getfield 21, 3) := by decide +kernel
theorem dX2_longestChain_12 : decode cX2_longestChain 12 = .ok (.getfield 43, 3) := by decide +kernel
theorem dX2_longestChain_15 : decode cX2_longestChain 15 = .ok (.iconst 1, 1) := by decide +kernel
theorem dX2_longestChain_16 : decode cX2_longestChain 16 = .ok (.invokestatic 83, 3) := by decide +kernel
theorem dX2_longestChain_19 : decode cX2_longestChain 19 = .ok (.istore_n 1, 1) := by decide +kernel
theorem dX2_longestChain_20 : decode cX2_longestChain 20 = .ok (.iconst 0, 1) := by decide +kernel
theorem dX2_longestChain_21 : decode cX2_longestChain 21 = .ok (.istore_n 2, 1) := by decide +kernel
theorem dX2_longestChain_22 : decode cX2_longestChain 22 = .ok (.iload_n 2, 1) := by decide +kernel
theorem dX2_longestChain_23 : decode cX2_longestChain 23 = .ok (.aload_n 0, 1) := by decide +kernel
theorem dX2_longestChain_24 : decode cX2_longestChain 24 = .ok (.getfield 21, 3) := by decide +kernel
theorem dX2_longestChain_27 : decode cX2_longestChain 27 = .ok (.getfield 43, 3) := by decide +kernel
theorem dX2_longestChain_30 : decode cX2_longestChain 30 = .ok (.if_icmp .ge 38, 3) := by decide +kernel
theorem dX2_longestChain_33 : decode cX2_longestChain 33 = .ok (.iconst 0, 1) := by decide +kernel
theorem dX2_longestChain_34 : decode cX2_longestChain 34 = .ok (.istore_n 3, 1) := by decide +kernel
theorem dX2_longestChain_35 : decode cX2_longestChain 35 = .ok (.iload_n 3, 1) := by decide +kernel
theorem dX2_longestChain_36 : decode cX2_longestChain 36 = .ok (.aload_n 0, 1) := by decide +kernel
theorem dX2_longestChain_37 : decode cX2_longestChain 37 = .ok (.getfield 21, 3) := by decide +kernel
theorem dX2_longestChain_40 : decode cX2_longestChain 40 = .ok (.getfield 43, 3) := by decide +kernel
theorem dX2_longestChain_43 : decode cX2_longestChain 43 = .ok (.if_icmp .ge 19, 3) := by decide +kernel
theorem dX2_longestChain_46 : decode cX2_longestChain 46 = .ok (.iload_n 1, 1) := by decide +kernel
theorem dX2_longestChain_47 : decode cX2_longestChain 47 = .ok (.aload_n 0, 1) := by decide +kernel
theorem dX2_longestChain_48 : decode cX2_longestChain 48 = .ok (.iload_n 3, 1) := by decide +kernel
theorem dX2_longestChain_49 : decode cX2_longestChain 49 = .ok (.invokevirtual 88, 3) := by decide +kernel
theorem dX2_longestChain_52 : decode cX2_longestChain 52 = .ok (.invokestatic 91, 3) := by decide +kernel
theorem dX2_longestChain_55 : decode cX2_longestChain 55 = .ok (.istore_n 1, 1) := by decide +kernel
theorem dX2_longestChain_56 : decode cX2_longestChain 56 = .ok (.iinc 3 1, 3) := by decide +kernel
theorem dX2_longestChain_59 : decode cX2_longestChain 59 = .ok (.goto (-24), 3) := by decide +kernel
theorem dX2_longestChain_62 : decode cX2_longestChain 62 = .ok (.iinc 2 1, 3) := by decide +kernel
theorem dX2_longestChain_65 : decode cX2_longestChain 65 = .ok (.goto (-43), 3) := by decide +kernel
theorem dX2_longestChain_68 : decode cX2_longestChain 68 = .ok (.iload_n 1, 1) := by decide +kernel
theorem dX2_longestChain_69 : decode cX2_longestChain 69 = .ok (.ireturn, 1) := by decide +kernel
theorem dX2_lengthen_0 : decode cX2_lengthen 0 = .ok (.aload_n 0, 1) := by decide +kernel
theorem dX2_lengthen_1 : decode cX2_lengthen 1 = .ok (.getfield 18, 3) := by decide +kernel
theorem dX2_lengthen_4 : decode cX2_lengthen 4 = .ok (.iload_n 1, 1) := by decide +kernel
theorem dX2_lengthen_5 : decode cX2_lengthen 5 = .ok (.iaload, 1) := by decide +kernel
theorem dX2_lengthen_6 : decode cX2_lengthen 6 = .ok (.istore_n 2, 1) := by decide +kernel
theorem dX2_lengthen_7 : decode cX2_lengthen 7 = .ok (.iconst 0, 1) := by decide +kernel
theorem dX2_lengthen_8 : decode cX2_lengthen 8 = .ok (.istore_n 3, 1) := by decide +kernel
theorem dX2_lengthen_9 : decode cX2_lengthen 9 = .ok (.iload_n 3, 1) := by decide +kernel
theorem dX2_lengthen_10 : decode cX2_lengthen 10 = .ok (.aload_n 0, 1) := by decide +kernel
theorem dX2_lengthen_11 : decode cX2_lengthen 11 = .ok (.getfield 21, 3) := by decide +kernel
theorem dX2_lengthen_14 : decode cX2_lengthen 14 = .ok (.getfield 43, 3) := by decide +kernel
theorem dX2_lengthen_17 : decode cX2_lengthen 17 = .ok (.if_icmp .ge 66, 3) := by decide +kernel
theorem dX2_lengthen_20 : decode cX2_lengthen 20 = .ok (.aload_n 0, 1) := by decide +kernel
theorem dX2_lengthen_21 : decode cX2_lengthen 21 = .ok (.getfield 9, 3) := by decide +kernel
theorem dX2_lengthen_24 : decode cX2_lengthen 24 = .ok (.iload_n 1, 1) := by decide +kernel
theorem dX2_lengthen_25 : decode cX2_lengthen 25 = .ok (.iaload, 1) := by decide +kernel
theorem dX2_lengthen_26 : decode cX2_lengthen 26 = .ok (.iload_n 3, 1) := by decide +kernel
theorem dX2_lengthen_27 : decode cX2_lengthen 27 = .ok (.ishr, 1) := by decide +kernel
theorem dX2_lengthen_28 : decode cX2_lengthen 28 = .ok (.iconst 1, 1) := by decide +kernel
theorem dX2_lengthen_29 : decode cX2_lengthen 29 = .ok (.iand, 1) := by decide +kernel
theorem dX2_lengthen_30 : decode cX2_lengthen 30 = .ok (.ifCond .eq 47, 3) := by decide +kernel
theorem dX2_lengthen_33 : decode cX2_lengthen 33 = .ok (.aload_n 0, 1) := by decide +kernel
theorem dX2_lengthen_34 : decode cX2_lengthen 34 = .ok (.iload_n 1, 1) := by decide +kernel
theorem dX2_lengthen_35 : decode cX2_lengthen 35 = .ok (.iload_n 3, 1) := by decide +kernel
theorem dX2_lengthen_36 : decode cX2_lengthen 36 = .ok (.invokevirtual 94, 3) := by decide +kernel
theorem dX2_lengthen_39 : decode cX2_lengthen 39 = .ok (.iload_n 1, 1) := by decide +kernel
theorem dX2_lengthen_40 : decode cX2_lengthen 40 = .ok (.if_icmp .ne 37, 3) := by decide +kernel
theorem dX2_lengthen_43 : decode cX2_lengthen 43 = .ok (.aload_n 0, 1) := by decide +kernel
theorem dX2_lengthen_44 : decode cX2_lengthen 44 = .ok (.getfield 18, 3) := by decide +kernel
theorem dX2_lengthen_47 : decode cX2_lengthen 47 = .ok (.iload_n 3, 1) := by decide +kernel
theorem dX2_lengthen_48 : decode cX2_lengthen 48 = .ok (.aload_n 0, 1) := by decide +kernel
theorem dX2_lengthen_49 : decode cX2_lengthen 49 = .ok (.getfield 18, 3) := by decide +kernel
theorem dX2_lengthen_52 : decode cX2_lengthen 52 = .ok (.iload_n 3, 1) := by decide +kernel
theorem dX2_lengthen_53 : decode cX2_lengthen 53 = .ok (.iaload, 1) := by decide +kernel
theorem dX2_lengthen_54 : decode cX2_lengthen 54 = .ok (.aload_n 0, 1) := by decide +kernel
theorem dX2_lengthen_55 : decode cX2_lengthen 55 = .ok (.getfield 18, 3) := by decide +kernel
theorem dX2_lengthen_58 : decode cX2_lengthen 58 = .ok (.iload_n 1, 1) := by decide +kernel
theorem dX2_lengthen_59 : decode cX2_lengthen 59 = .ok (.iaload, 1) := by decide +kernel
theorem dX2_lengthen_60 : decode cX2_lengthen 60 = .ok (.iconst 1, 1) := by decide +kernel
theorem dX2_lengthen_61 : decode cX2_lengthen 61 = .ok (.iadd, 1) := by decide +kernel
theorem dX2_lengthen_62 : decode cX2_lengthen 62 = .ok (.invokestatic 91, 3) := by decide +kernel
theorem dX2_lengthen_65 : decode cX2_lengthen 65 = .ok (.iastore, 1) := by decide +kernel
theorem dX2_lengthen_66 : decode cX2_lengthen 66 = .ok (.iload_n 2, 1) := by decide +kernel
theorem dX2_lengthen_67 : decode cX2_lengthen 67 = .ok (.aload_n 0, 1) := by decide +kernel
theorem dX2_lengthen_68 : decode cX2_lengthen 68 = .ok (.getfield 18, 3) := by decide +kernel
theorem dX2_lengthen_71 : decode cX2_lengthen 71 = .ok (.iload_n 3, 1) := by decide +kernel
theorem dX2_lengthen_72 : decode cX2_lengthen 72 = .ok (.iaload, 1) := by decide +kernel
theorem dX2_lengthen_73 : decode cX2_lengthen 73 = .ok (.invokestatic 91, 3) := by decide +kernel
theorem dX2_lengthen_76 : decode cX2_lengthen 76 = .ok (.istore_n 2, 1) := by decide +kernel
theorem dX2_lengthen_77 : decode cX2_lengthen 77 = .ok (.iinc 3 1, 3) := by decide +kernel
theorem dX2_lengthen_80 : decode cX2_lengthen 80 = .ok (.goto (-71), 3) := by decide +kernel
theorem dX2_lengthen_83 : decode cX2_lengthen 83 = .ok (.iload_n 2, 1) := by decide +kernel
theorem dX2_lengthen_84 : decode cX2_lengthen 84 = .ok (.ireturn, 1) := by decide +kernel
theorem dX2_covers_0 : decode cX2_covers 0 = .ok (.iconst 0, 1) := by decide +kernel
theorem dX2_covers_1 : decode cX2_covers 1 = .ok (.istore_n 2, 1) := by decide +kernel
theorem dX2_covers_2 : decode cX2_covers 2 = .ok (.iload_n 2, 1) := by decide +kernel
theorem dX2_covers_3 : decode cX2_covers 3 = .ok (.aload_n 0, 1) := by decide +kernel
theorem dX2_covers_4 : decode cX2_covers 4 = .ok (.getfield 21, 3) := by decide +kernel
theorem dX2_covers_7 : decode cX2_covers 7 = .ok (.getfield 43, 3) := by decide +kernel
theorem dX2_covers_10 : decode cX2_covers 10 = .ok (.if_icmp .ge 32, 3) := by decide +kernel
theorem dX2_covers_13 : decode cX2_covers 13 = .ok (.iload_n 1, 1) := by decide +kernel
theorem dX2_covers_14 : decode cX2_covers 14 = .ok (.iload_n 2, 1) := by decide +kernel
theorem dX2_covers_15 : decode cX2_covers 15 = .ok (.ishr, 1) := by decide +kernel
theorem dX2_covers_16 : decode cX2_covers 16 = .ok (.iconst 1, 1) := by decide +kernel
theorem dX2_covers_17 : decode cX2_covers 17 = .ok (.iand, 1) := by decide +kernel
theorem dX2_covers_18 : decode cX2_covers 18 = .ok (.ifCond .ne 18, 3) := by decide +kernel
theorem dX2_covers_21 : decode cX2_covers 21 = .ok (.aload_n 0, 1) := by decide +kernel
theorem dX2_covers_22 : decode cX2_covers 22 = .ok (.getfield 9, 3) := by decide +kernel
theorem dX2_covers_25 : decode cX2_covers 25 = .ok (.iload_n 2, 1) := by decide +kernel
theorem dX2_covers_26 : decode cX2_covers 26 = .ok (.iaload, 1) := by decide +kernel
theorem dX2_covers_27 : decode cX2_covers 27 = .ok (.iload_n 1, 1) := by decide +kernel
theorem dX2_covers_28 : decode cX2_covers 28 = .ok (.iconst (-1), 1) := by decide +kernel
theorem dX2_covers_29 : decode cX2_covers 29 = .ok (.ixor, 1) := by decide +kernel
theorem dX2_covers_30 : decode cX2_covers 30 = .ok (.iand, 1) := by decide +kernel
theorem dX2_covers_31 : decode cX2_covers 31 = .ok (.ifCond .eq 5, 3) := by decide +kernel
theorem dX2_covers_34 : decode cX2_covers 34 = .ok (.iconst 0, 1) := by decide +kernel
theorem dX2_covers_35 : decode cX2_covers 35 = .ok (.ireturn, 1) := by decide +kernel
theorem dX2_covers_36 : decode cX2_covers 36 = .ok (.iinc 2 1, 3) := by decide +kernel
theorem dX2_covers_39 : decode cX2_covers 39 = .ok (.goto (-37), 3) := by decide +kernel
theorem dX2_covers_42 : decode cX2_covers 42 = .ok (.iconst 1, 1) := by decide +kernel
theorem dX2_covers_43 : decode cX2_covers 43 = .ok (.ireturn, 1) := by decide +kernel
theorem dX3_init_0 : decode cX3_init 0 = .ok (.aload_n 0, 1) := by decide +kernel
theorem dX3_init_1 : decode cX3_init 1 = .ok (.invokespecial 3, 3) := by decide +kernel
theorem dX3_init_4 : decode cX3_init 4 = .ok (.aload_n 0, 1) := by decide +kernel
theorem dX3_init_5 : decode cX3_init 5 = .ok (.bipush 10, 2) := by decide +kernel
theorem dX3_init_7 : decode cX3_init 7 = .ok (.newarray .int, 2) := by decide +kernel
theorem dX3_init_9 : decode cX3_init 9 = .ok (.putfield 9, 3) := by decide +kernel
theorem dX3_init_12 : decode cX3_init 12 = .ok (.aload_n 0, 1) := by decide +kernel
theorem dX3_init_13 : decode cX3_init 13 = .ok (.bipush 10, 2) := by decide +kernel
theorem dX3_init_15 : decode cX3_init 15 = .ok (.newarray .int, 2) := by decide +kernel
theorem dX3_init_17 : decode cX3_init 17 = .ok (.putfield 15, 3) := by decide +kernel
theorem dX3_init_20 : decode cX3_init 20 = .ok (.aload_n 0, 1) := by decide +kernel
theorem dX3_init_21 : decode cX3_init 21 = .ok (.aload_n 1, 1) := by decide +kernel
theorem dX3_init_22 : decode cX3_init 22 = .ok (.putfield 18, 3) := by decide +kernel
theorem dX3_init_25 : decode cX3_init 25 = .ok (.aload_n 0, 1) := by decide +kernel
theorem dX3_init_26 : decode cX3_init 26 = .ok (.aload_n 2, 1) := by decide +kernel
theorem dX3_init_27 : decode cX3_init 27 = .ok (.putfield 22, 3) := by decide +kernel
theorem dX3_init_30 : decode cX3_init 30 = .ok (.aload_n 0, 1) := by decide +kernel
theorem dX3_init_31 : decode cX3_init 31 = .ok (.aload_n 3, 1) := by decide +kernel
theorem dX3_init_32 : decode cX3_init 32 = .ok (.putfield 26, 3) := by decide +kernel
theorem dX3_init_35 : decode cX3_init 35 = .ok (.return_, 1) := by decide +kernel
theorem dX3_choosersOf_0 : decode cX3_choosersOf 0 = .ok (.iconst 0, 1) := by decide +kernel
theorem dX3_choosersOf_1 : decode cX3_choosersOf 1 = .ok (.istore_n 3, 1) := by decide +kernel
theorem dX3_choosersOf_2 : decode cX3_choosersOf 2 = .ok (.iconst 0, 1) := by decide +kernel
theorem dX3_choosersOf_3 : decode cX3_choosersOf 3 = .ok (.istore 4, 2) := by decide +kernel
theorem dX3_choosersOf_5 : decode cX3_choosersOf 5 = .ok (.iload 4, 2) := by decide +kernel
theorem dX3_choosersOf_7 : decode cX3_choosersOf 7 = .ok (.aload_n 0, 1) := by decide +kernel
theorem dX3_choosersOf_8 : decode cX3_choosersOf 8 = .ok (.getfield 18, 3) := by decide +kernel
theorem dX3_choosersOf_11 : decode cX3_choosersOf 11 = .ok (.getfield 30, 3) := by decide +kernel
theorem dX3_choosersOf_14 : decode cX3_choosersOf 14 = .ok (.if_icmp .ge 28, 3) := by decide +kernel
theorem dX3_choosersOf_17 : decode cX3_choosersOf 17 = .ok (.aload_n 0, 1) := by decide +kernel
theorem dX3_choosersOf_18 : decode cX3_choosersOf 18 = .ok (.getfield 22, 3) := by decide +kernel
theorem dX3_choosersOf_21 : decode cX3_choosersOf 21 = .ok (.getfield 36, 3) := by decide +kernel
theorem dX3_choosersOf_24 : decode cX3_choosersOf 24 = .ok (.iload 4, 2) := by decide +kernel
theorem dX3_choosersOf_26 : decode cX3_choosersOf 26 = .ok (.aaload, 1) := by decide +kernel
theorem dX3_choosersOf_27 : decode cX3_choosersOf 27 = .ok (.iload_n 1, 1) := by decide +kernel
theorem dX3_choosersOf_28 : decode cX3_choosersOf 28 = .ok (.iaload, 1) := by decide +kernel
theorem dX3_choosersOf_29 : decode cX3_choosersOf 29 = .ok (.iload_n 2, 1) := by decide +kernel
theorem dX3_choosersOf_30 : decode cX3_choosersOf 30 = .ok (.if_icmp .ne 6, 3) := by decide +kernel
theorem dX3_choosersOf_33 : decode cX3_choosersOf 33 = .ok (.iinc 3 1, 3) := by decide +kernel
theorem dX3_choosersOf_36 : decode cX3_choosersOf 36 = .ok (.iinc 4 1, 3) := by decide +kernel
theorem dX3_choosersOf_39 : decode cX3_choosersOf 39 = .ok (.goto (-34), 3) := by decide +kernel
theorem dX3_choosersOf_42 : decode cX3_choosersOf 42 = .ok (.iload_n 3, 1) := by decide +kernel
theorem dX3_choosersOf_43 : decode cX3_choosersOf 43 = .ok (.ireturn, 1) := by decide +kernel
theorem dX3_restsOf_0 : decode cX3_restsOf 0 = .ok (.iconst 0, 1) := by decide +kernel
theorem dX3_restsOf_1 : decode cX3_restsOf 1 = .ok (.istore_n 3, 1) := by decide +kernel
theorem dX3_restsOf_2 : decode cX3_restsOf 2 = .ok (.iconst 0, 1) := by decide +kernel
theorem dX3_restsOf_3 : decode cX3_restsOf 3 = .ok (.istore 4, 2) := by decide +kernel
theorem dX3_restsOf_5 : decode cX3_restsOf 5 = .ok (.iload 4, 2) := by decide +kernel
theorem dX3_restsOf_7 : decode cX3_restsOf 7 = .ok (.aload_n 0, 1) := by decide +kernel
theorem dX3_restsOf_8 : decode cX3_restsOf 8 = .ok (.getfield 18, 3) := by decide +kernel
theorem dX3_restsOf_11 : decode cX3_restsOf 11 = .ok (.getfield 30, 3) := by decide +kernel
theorem dX3_restsOf_14 : decode cX3_restsOf 14 = .ok (.if_icmp .ge 38, 3) := by decide +kernel
theorem dX3_restsOf_17 : decode cX3_restsOf 17 = .ok (.aload_n 0, 1) := by decide +kernel
theorem dX3_restsOf_18 : decode cX3_restsOf 18 = .ok (.getfield 22, 3) := by decide +kernel
theorem dX3_restsOf_21 : decode cX3_restsOf 21 = .ok (.getfield 36, 3) := by decide +kernel
theorem dX3_restsOf_24 : decode cX3_restsOf 24 = .ok (.iload 4, 2) := by decide +kernel
theorem dX3_restsOf_26 : decode cX3_restsOf 26 = .ok (.aaload, 1) := by decide +kernel
theorem dX3_restsOf_27 : decode cX3_restsOf 27 = .ok (.iload_n 1, 1) := by decide +kernel
theorem dX3_restsOf_28 : decode cX3_restsOf 28 = .ok (.iaload, 1) := by decide +kernel
theorem dX3_restsOf_29 : decode cX3_restsOf 29 = .ok (.iload_n 2, 1) := by decide +kernel
theorem dX3_restsOf_30 : decode cX3_restsOf 30 = .ok (.if_icmp .ne 16, 3) := by decide +kernel
theorem dX3_restsOf_33 : decode cX3_restsOf 33 = .ok (.iload_n 3, 1) := by decide +kernel
theorem dX3_restsOf_34 : decode cX3_restsOf 34 = .ok (.aload_n 0, 1) := by decide +kernel
theorem dX3_restsOf_35 : decode cX3_restsOf 35 = .ok (.getfield 26, 3) := by decide +kernel
theorem dX3_restsOf_38 : decode cX3_restsOf 38 = .ok (.iload 4, 2) := by decide +kernel
theorem dX3_restsOf_40 : decode cX3_restsOf 40 = .ok (.iload_n 1, 1) := by decide +kernel
theorem dX3_restsOf_41 : decode cX3_restsOf 41 = .ok (.invokevirtual 42, 3) := by decide +kernel
theorem dX3_restsOf_44 : decode cX3_restsOf 44 = .ok (.iadd, 1) := by decide +kernel
theorem dX3_restsOf_45 : decode cX3_restsOf 45 = .ok (.istore_n 3, 1) := by decide +kernel
theorem dX3_restsOf_46 : decode cX3_restsOf 46 = .ok (.iinc 4 1, 3) := by decide +kernel
theorem dX3_restsOf_49 : decode cX3_restsOf 49 = .ok (.goto (-44), 3) := by decide +kernel
theorem dX3_restsOf_52 : decode cX3_restsOf 52 = .ok (.iload_n 3, 1) := by decide +kernel
theorem dX3_restsOf_53 : decode cX3_restsOf 53 = .ok (.ireturn, 1) := by decide +kernel
theorem dX3_bestChoice_0 : decode cX3_bestChoice 0 = .ok (.iconst (-1), 1) := by decide +kernel
theorem dX3_bestChoice_1 : decode cX3_bestChoice 1 = .ok (.istore_n 2, 1) := by decide +kernel
theorem dX3_bestChoice_2 : decode cX3_bestChoice 2 = .ok (.iconst 0, 1) := by decide +kernel
theorem dX3_bestChoice_3 : decode cX3_bestChoice 3 = .ok (.istore_n 3, 1) := by decide +kernel
theorem dX3_bestChoice_4 : decode cX3_bestChoice 4 = .ok (.iconst 0, 1) := by decide +kernel
theorem dX3_bestChoice_5 : decode cX3_bestChoice 5 = .ok (.istore 4, 2) := by decide +kernel
theorem dX3_bestChoice_7 : decode cX3_bestChoice 7 = .ok (.iconst 1, 1) := by decide +kernel
theorem dX3_bestChoice_8 : decode cX3_bestChoice 8 = .ok (.istore 5, 2) := by decide +kernel
theorem dX3_bestChoice_10 : decode cX3_bestChoice 10 = .ok (.iload 5, 2) := by decide +kernel
theorem dX3_bestChoice_12 : decode cX3_bestChoice 12 = .ok (.iconst 5, 1) := by decide +kernel
theorem dX3_bestChoice_13 : decode cX3_bestChoice 13 = .ok (.if_icmp .gt 75, 3) := by decide +kernel
theorem dX3_bestChoice_16 : decode cX3_bestChoice 16 = .ok (.aload_n 0, 1) := by decide +kernel
theorem dX3_bestChoice_17 : decode cX3_bestChoice 17 = .ok (.iload_n 1, 1) := by decide +kernel
theorem dX3_bestChoice_18 : decode cX3_bestChoice 18 = .ok (.iload 5, 2) := by decide +kernel
theorem dX3_bestChoice_20 : decode cX3_bestChoice 20 = .ok (.invokevirtual 48, 3) := by decide +kernel
theorem dX3_bestChoice_23 : decode cX3_bestChoice 23 = .ok (.istore 6, 2) := by decide +kernel
theorem dX3_bestChoice_25 : decode cX3_bestChoice 25 = .ok (.aload_n 0, 1) := by decide +kernel
theorem dX3_bestChoice_26 : decode cX3_bestChoice 26 = .ok (.iload_n 1, 1) := by decide +kernel
theorem dX3_bestChoice_27 : decode cX3_bestChoice 27 = .ok (.iload 5, 2) := by decide +kernel
theorem dX3_bestChoice_29 : decode cX3_bestChoice 29 = .ok (.invokevirtual 51, 3) := by decide +kernel
theorem dX3_bestChoice_32 : decode cX3_bestChoice 32 = .ok (.istore 7, 2) := by decide +kernel
theorem dX3_bestChoice_34 : decode cX3_bestChoice 34 = .ok (.iload 7, 2) := by decide +kernel
theorem dX3_bestChoice_36 : decode cX3_bestChoice 36 = .ok (.iload_n 3, 1) := by decide +kernel
theorem dX3_bestChoice_37 : decode cX3_bestChoice 37 = .ok (.imul, 1) := by decide +kernel
theorem dX3_bestChoice_38 : decode cX3_bestChoice 38 = .ok (.iload 4, 2) := by decide +kernel
theorem dX3_bestChoice_40 : decode cX3_bestChoice 40 = .ok (.iload 6, 2) := by decide +kernel
theorem dX3_bestChoice_42 : decode cX3_bestChoice 42 = .ok (.imul, 1) := by decide +kernel
theorem dX3_bestChoice_43 : decode cX3_bestChoice 43 = .ok (.isub, 1) := by decide +kernel
theorem dX3_bestChoice_44 : decode cX3_bestChoice 44 = .ok (.istore 8, 2) := by decide +kernel
theorem dX3_bestChoice_46 : decode cX3_bestChoice 46 = .ok (.iload 6, 2) := by decide +kernel
theorem dX3_bestChoice_48 : decode cX3_bestChoice 48 = .ok (.ifCond .le 34, 3) := by decide +kernel
theorem dX3_bestChoice_51 : decode cX3_bestChoice 51 = .ok (.iload_n 2, 1) := by decide +kernel
theorem dX3_bestChoice_52 : decode cX3_bestChoice 52 = .ok (.iconst (-1), 1) := by decide +kernel
theorem dX3_bestChoice_53 : decode cX3_bestChoice 53 = .ok (.if_icmp .eq 19, 3) := by decide +kernel
theorem dX3_bestChoice_56 : decode cX3_bestChoice 56 = .ok (.iload 8, 2) := by decide +kernel
theorem dX3_bestChoice_58 : decode cX3_bestChoice 58 = .ok (.ifCond .gt 14, 3) := by decide +kernel
theorem dX3_bestChoice_61 : decode cX3_bestChoice 61 = .ok (.iload 8, 2) := by decide +kernel
theorem dX3_bestChoice_63 : decode cX3_bestChoice 63 = .ok (.ifCond .ne 19, 3) := by decide +kernel
theorem dX3_bestChoice_66 : decode cX3_bestChoice 66 = .ok (.iload 6, 2) := by decide +kernel
theorem dX3_bestChoice_68 : decode cX3_bestChoice 68 = .ok (.iload_n 3, 1) := by decide +kernel
theorem dX3_bestChoice_69 : decode cX3_bestChoice 69 = .ok (.if_icmp .le 13, 3) := by decide +kernel
theorem dX3_bestChoice_72 : decode cX3_bestChoice 72 = .ok (.iload 5, 2) := by decide +kernel
theorem dX3_bestChoice_74 : decode cX3_bestChoice 74 = .ok (.istore_n 2, 1) := by decide +kernel
theorem dX3_bestChoice_75 : decode cX3_bestChoice 75 = .ok (.iload 6, 2) := by decide +kernel
theorem dX3_bestChoice_77 : decode cX3_bestChoice 77 = .ok (.istore_n 3, 1) := by decide +kernel
theorem dX3_bestChoice_78 : decode cX3_bestChoice 78 = .ok (.iload 7, 2) := by decide +kernel
theorem dX3_bestChoice_80 : decode cX3_bestChoice 80 = .ok (.istore 4, 2) := by decide +kernel
theorem dX3_bestChoice_82 : decode cX3_bestChoice 82 = .ok (.iinc 5 1, 3) := by decide +kernel
theorem dX3_bestChoice_85 : decode cX3_bestChoice 85 = .ok (.goto (-75), 3) := by decide +kernel
theorem dX3_bestChoice_88 : decode cX3_bestChoice 88 = .ok (.iload_n 2, 1) := by decide +kernel
theorem dX3_bestChoice_89 : decode cX3_bestChoice 89 = .ok (.ireturn, 1) := by decide +kernel
theorem dX3_betterLessWorse_0 : decode cX3_betterLessWorse 0 = .ok (.aload_n 0, 1) := by decide +kernel
theorem dX3_betterLessWorse_1 : decode cX3_betterLessWorse 1 = .ok (.iload_n 1, 1) := by decide +kernel
theorem dX3_betterLessWorse_2 : decode cX3_betterLessWorse 2 = .ok (.invokevirtual 54, 3) := by decide +kernel
theorem dX3_betterLessWorse_5 : decode cX3_betterLessWorse 5 = .ok (.aload_n 0, 1) := by decide +kernel
theorem dX3_betterLessWorse_6 : decode cX3_betterLessWorse 6 = .ok (.getfield 18, 3) := by decide +kernel
theorem dX3_betterLessWorse_9 : decode cX3_betterLessWorse 9 = .ok (.getfield 30, 3) := by decide +kernel
theorem dX3_betterLessWorse_12 : decode cX3_betterLessWorse 12 = .ok (.iconst 2, 1) := by decide +kernel
theorem dX3_betterLessWorse_13 : decode cX3_betterLessWorse 13 = .ok (.idiv, 1) := by decide +kernel
theorem dX3_betterLessWorse_14 : decode cX3_betterLessWorse 14 = .ok (.istore_n 2, 1) := by decide +kernel
theorem dX3_betterLessWorse_15 : decode cX3_betterLessWorse 15 = .ok (.iconst 0, 1) := by decide +kernel
theorem dX3_betterLessWorse_16 : decode cX3_betterLessWorse 16 = .ok (.istore_n 3, 1) := by decide +kernel
theorem dX3_betterLessWorse_17 : decode cX3_betterLessWorse 17 = .ok (.iconst 0, 1) := by decide +kernel
theorem dX3_betterLessWorse_18 : decode cX3_betterLessWorse 18 = .ok (.istore 4, 2) := by decide +kernel
theorem dX3_betterLessWorse_20 : decode cX3_betterLessWorse 20 = .ok (.iload 4, 2) := by decide +kernel
theorem dX3_betterLessWorse_22 : decode cX3_betterLessWorse 22 = .ok (.iload_n 2, 1) := by decide +kernel
theorem dX3_betterLessWorse_23 : decode cX3_betterLessWorse 23 = .ok (.if_icmp .ge 61, 3) := by decide +kernel
theorem dX3_betterLessWorse_26 : decode cX3_betterLessWorse 26 = .ok (.aload_n 0, 1) := by decide +kernel
theorem dX3_betterLessWorse_27 : decode cX3_betterLessWorse 27 = .ok (.getfield 26, 3) := by decide +kernel
theorem dX3_betterLessWorse_30 : decode cX3_betterLessWorse 30 = .ok (.aload_n 0, 1) := by decide +kernel
theorem dX3_betterLessWorse_31 : decode cX3_betterLessWorse 31 = .ok (.getfield 15, 3) := by decide +kernel
theorem dX3_betterLessWorse_34 : decode cX3_betterLessWorse 34 = .ok (.iload 4, 2) := by decide +kernel
theorem dX3_betterLessWorse_36 : decode cX3_betterLessWorse 36 = .ok (.iaload, 1) := by decide +kernel
theorem dX3_betterLessWorse_37 : decode cX3_betterLessWorse 37 = .ok (.iload_n 1, 1) := by decide +kernel
theorem dX3_betterLessWorse_38 : decode cX3_betterLessWorse 38 = .ok (.invokevirtual 58, 3) := by decide +kernel
theorem dX3_betterLessWorse_41 : decode cX3_betterLessWorse 41 = .ok (.ifCond .eq 6, 3) := by decide +kernel
theorem dX3_betterLessWorse_44 : decode cX3_betterLessWorse 44 = .ok (.iinc 3 1, 3) := by decide +kernel
theorem dX3_betterLessWorse_47 : decode cX3_betterLessWorse 47 = .ok (.aload_n 0, 1) := by decide +kernel
theorem dX3_betterLessWorse_48 : decode cX3_betterLessWorse 48 = .ok (.getfield 26, 3) := by decide +kernel
theorem dX3_betterLessWorse_51 : decode cX3_betterLessWorse 51 = .ok (.aload_n 0, 1) := by decide +kernel
theorem dX3_betterLessWorse_52 : decode cX3_betterLessWorse 52 = .ok (.getfield 15, 3) := by decide +kernel
theorem dX3_betterLessWorse_55 : decode cX3_betterLessWorse 55 = .ok (.aload_n 0, 1) := by decide +kernel
theorem dX3_betterLessWorse_56 : decode cX3_betterLessWorse 56 = .ok (.getfield 18, 3) := by decide +kernel
theorem dX3_betterLessWorse_59 : decode cX3_betterLessWorse 59 = .ok (.getfield 30, 3) := by decide +kernel
theorem dX3_betterLessWorse_62 : decode cX3_betterLessWorse 62 = .ok (.iconst 1, 1) := by decide +kernel
theorem dX3_betterLessWorse_63 : decode cX3_betterLessWorse 63 = .ok (.isub, 1) := by decide +kernel
theorem dX3_betterLessWorse_64 : decode cX3_betterLessWorse 64 = .ok (.iload 4, 2) := by decide +kernel
theorem dX3_betterLessWorse_66 : decode cX3_betterLessWorse 66 = .ok (.isub, 1) := by decide +kernel
theorem dX3_betterLessWorse_67 : decode cX3_betterLessWorse 67 = .ok (.iaload, 1) := by decide +kernel
theorem dX3_betterLessWorse_68 : decode cX3_betterLessWorse 68 = .ok (.iload_n 1, 1) := by decide +kernel
theorem dX3_betterLessWorse_69 : decode cX3_betterLessWorse 69 = .ok (.invokevirtual 58, 3) := by decide +kernel
theorem dX3_betterLessWorse_72 : decode cX3_betterLessWorse 72 = .ok (.ifCond .eq 6, 3) := by decide +kernel
theorem dX3_betterLessWorse_75 : decode cX3_betterLessWorse 75 = .ok (.iinc 3 (-1), 3) := by decide +kernel
theorem dX3_betterLessWorse_78 : decode cX3_betterLessWorse 78 = .ok (.iinc 4 1, 3) := by decide +kernel
theorem dX3_betterLessWorse_81 : decode cX3_betterLessWorse 81 = .ok (.goto (-61), 3) := by decide +kernel
theorem dX3_betterLessWorse_84 : decode cX3_betterLessWorse 84 = .ok (.iload_n 3, 1) := by decide +kernel
theorem dX3_betterLessWorse_85 : decode cX3_betterLessWorse 85 = .ok (.ireturn, 1) := by decide +kernel
theorem dX3_orderByRest_0 : decode cX3_orderByRest 0 = .ok (.iconst 0, 1) := by decide +kernel
theorem dX3_orderByRest_1 : decode cX3_orderByRest 1 = .ok (.istore_n 2, 1) := by decide +kernel
theorem dX3_orderByRest_2 : decode cX3_orderByRest 2 = .ok (.iload_n 2, 1) := by decide +kernel
theorem dX3_orderByRest_3 : decode cX3_orderByRest 3 = .ok (.aload_n 0, 1) := by decide +kernel
theorem dX3_orderByRest_4 : decode cX3_orderByRest 4 = .ok (.getfield 18, 3) := by decide +kernel
theorem dX3_orderByRest_7 : decode cX3_orderByRest 7 = .ok (.getfield 30, 3) := by decide +kernel
theorem dX3_orderByRest_10 : decode cX3_orderByRest 10 = .ok (.if_icmp .ge 79, 3) := by decide +kernel
theorem dX3_orderByRest_13 : decode cX3_orderByRest 13 = .ok (.aload_n 0, 1) := by decide +kernel
theorem dX3_orderByRest_14 : decode cX3_orderByRest 14 = .ok (.getfield 9, 3) := by decide +kernel
theorem dX3_orderByRest_17 : decode cX3_orderByRest 17 = .ok (.iload_n 2, 1) := by decide +kernel
theorem dX3_orderByRest_18 : decode cX3_orderByRest 18 = .ok (.aload_n 0, 1) := by decide +kernel
theorem dX3_orderByRest_19 : decode cX3_orderByRest 19 = .ok (.getfield 26, 3) := by decide +kernel
theorem dX3_orderByRest_22 : decode cX3_orderByRest 22 = .ok (.iload_n 2, 1) := by decide +kernel
theorem dX3_orderByRest_23 : decode cX3_orderByRest 23 = .ok (.iload_n 1, 1) := by decide +kernel
theorem dX3_orderByRest_24 : decode cX3_orderByRest 24 = .ok (.invokevirtual 42, 3) := by decide +kernel
theorem dX3_orderByRest_27 : decode cX3_orderByRest 27 = .ok (.iastore, 1) := by decide +kernel
theorem dX3_orderByRest_28 : decode cX3_orderByRest 28 = .ok (.iload_n 2, 1) := by decide +kernel
theorem dX3_orderByRest_29 : decode cX3_orderByRest 29 = .ok (.istore_n 3, 1) := by decide +kernel
theorem dX3_orderByRest_30 : decode cX3_orderByRest 30 = .ok (.iload_n 3, 1) := by decide +kernel
theorem dX3_orderByRest_31 : decode cX3_orderByRest 31 = .ok (.ifCond .le 45, 3) := by decide +kernel
theorem dX3_orderByRest_34 : decode cX3_orderByRest 34 = .ok (.aload_n 0, 1) := by decide +kernel
theorem dX3_orderByRest_35 : decode cX3_orderByRest 35 = .ok (.getfield 9, 3) := by decide +kernel
theorem dX3_orderByRest_38 : decode cX3_orderByRest 38 = .ok (.aload_n 0, 1) := by decide +kernel
theorem dX3_orderByRest_39 : decode cX3_orderByRest 39 = .ok (.getfield 15, 3) := by decide +kernel
theorem dX3_orderByRest_42 : decode cX3_orderByRest 42 = .ok (.iload_n 3, 1) := by decide +kernel
theorem dX3_orderByRest_43 : decode cX3_orderByRest 43 = .ok (.iconst 1, 1) := by decide +kernel
theorem dX3_orderByRest_44 : decode cX3_orderByRest 44 = .ok (.isub, 1) := by decide +kernel
theorem dX3_orderByRest_45 : decode cX3_orderByRest 45 = .ok (.iaload, 1) := by decide +kernel
theorem dX3_orderByRest_46 : decode cX3_orderByRest 46 = .ok (.iaload, 1) := by decide +kernel
theorem dX3_orderByRest_47 : decode cX3_orderByRest 47 = .ok (.aload_n 0, 1) := by decide +kernel
theorem dX3_orderByRest_48 : decode cX3_orderByRest 48 = .ok (.getfield 9, 3) := by decide +kernel
theorem dX3_orderByRest_51 : decode cX3_orderByRest 51 = .ok (.iload_n 2, 1) := by decide +kernel
theorem dX3_orderByRest_52 : decode cX3_orderByRest 52 = .ok (.iaload, 1) := by decide +kernel
theorem dX3_orderByRest_53 : decode cX3_orderByRest 53 = .ok (.if_icmp .ge 23, 3) := by decide +kernel
theorem dX3_orderByRest_56 : decode cX3_orderByRest 56 = .ok (.aload_n 0, 1) := by decide +kernel
theorem dX3_orderByRest_57 : decode cX3_orderByRest 57 = .ok (.getfield 15, 3) := by decide +kernel
theorem dX3_orderByRest_60 : decode cX3_orderByRest 60 = .ok (.iload_n 3, 1) := by decide +kernel
theorem dX3_orderByRest_61 : decode cX3_orderByRest 61 = .ok (.aload_n 0, 1) := by decide +kernel
theorem dX3_orderByRest_62 : decode cX3_orderByRest 62 = .ok (.getfield 15, 3) := by decide +kernel
theorem dX3_orderByRest_65 : decode cX3_orderByRest 65 = .ok (.iload_n 3, 1) := by decide +kernel
theorem dX3_orderByRest_66 : decode cX3_orderByRest 66 = .ok (.iconst 1, 1) := by decide +kernel
theorem dX3_orderByRest_67 : decode cX3_orderByRest 67 = .ok (.isub, 1) := by decide +kernel
theorem dX3_orderByRest_68 : decode cX3_orderByRest 68 = .ok (.iaload, 1) := by decide +kernel
theorem dX3_orderByRest_69 : decode cX3_orderByRest 69 = .ok (.iastore, 1) := by decide +kernel
theorem dX3_orderByRest_70 : decode cX3_orderByRest 70 = .ok (.iinc 3 (-1), 3) := by decide +kernel
theorem dX3_orderByRest_73 : decode cX3_orderByRest 73 = .ok (.goto (-43), 3) := by decide +kernel
theorem dX3_orderByRest_76 : decode cX3_orderByRest 76 = .ok (.aload_n 0, 1) := by decide +kernel
theorem dX3_orderByRest_77 : decode cX3_orderByRest 77 = .ok (.getfield 15, 3) := by decide +kernel
theorem dX3_orderByRest_80 : decode cX3_orderByRest 80 = .ok (.iload_n 3, 1) := by decide +kernel
theorem dX3_orderByRest_81 : decode cX3_orderByRest 81 = .ok (.iload_n 2, 1) := by decide +kernel
theorem dX3_orderByRest_82 : decode cX3_orderByRest 82 = .ok (.iastore, 1) := by decide +kernel
theorem dX3_orderByRest_83 : decode cX3_orderByRest 83 = .ok (.iinc 2 1, 3) := by decide +kernel
theorem dX3_orderByRest_86 : decode cX3_orderByRest 86 = .ok (.goto (-84), 3) := by decide +kernel
theorem dX3_orderByRest_89 : decode cX3_orderByRest 89 = .ok (.return_, 1) := by decide +kernel
theorem dX4_init_0 : decode cX4_init 0 = .ok (.aload_n 0, 1) := by decide +kernel
theorem dX4_init_1 : decode cX4_init 1 = .ok (.invokespecial 3, 3) := by decide +kernel
theorem dX4_init_4 : decode cX4_init 4 = .ok (.aload_n 0, 1) := by decide +kernel
theorem dX4_init_5 : decode cX4_init 5 = .ok (.bipush 12, 2) := by decide +kernel
theorem dX4_init_7 : decode cX4_init 7 = .ok (.newarray .int, 2) := by decide +kernel
theorem dX4_init_9 : decode cX4_init 9 = .ok (.putfield 9, 3) := by decide +kernel
theorem dX4_init_12 : decode cX4_init 12 = .ok (.aload_n 0, 1) := by decide +kernel
theorem dX4_init_13 : decode cX4_init 13 = .ok (.iconst 0, 1) := by decide +kernel
theorem dX4_init_14 : decode cX4_init 14 = .ok (.putfield 15, 3) := by decide +kernel
theorem dX4_init_17 : decode cX4_init 17 = .ok (.aload_n 0, 1) := by decide +kernel
theorem dX4_init_18 : decode cX4_init 18 = .ok (.bipush 10, 2) := by decide +kernel
theorem dX4_init_20 : decode cX4_init 20 = .ok (.putfield 19, 3) := by decide +kernel
theorem dX4_init_23 : decode cX4_init 23 = .ok (.aload_n 0, 1) := by decide +kernel
theorem dX4_init_24 : decode cX4_init 24 = .ok (.iconst 0, 1) := by decide +kernel
theorem dX4_init_25 : decode cX4_init 25 = .ok (.putfield 22, 3) := by decide +kernel
theorem dX4_init_28 : decode cX4_init 28 = .ok (.aload_n 0, 1) := by decide +kernel
theorem dX4_init_29 : decode cX4_init 29 = .ok (.iconst 0, 1) := by decide +kernel
theorem dX4_init_30 : decode cX4_init 30 = .ok (.putfield 25, 3) := by decide +kernel
theorem dX4_init_33 : decode cX4_init 33 = .ok (.aload_n 0, 1) := by decide +kernel
theorem dX4_init_34 : decode cX4_init 34 = .ok (.bipush 12, 2) := by decide +kernel
theorem dX4_init_36 : decode cX4_init 36 = .ok (.newarray .int, 2) := by decide +kernel
theorem dX4_init_38 : decode cX4_init 38 = .ok (.putfield 28, 3) := by decide +kernel
theorem dX4_init_41 : decode cX4_init 41 = .ok (.return_, 1) := by decide +kernel
theorem dX4_ask_0 : decode cX4_ask 0 = .ok (.aload_n 0, 1) := by decide +kernel
theorem dX4_ask_1 : decode cX4_ask 1 = .ok (.iload_n 1, 1) := by decide +kernel
theorem dX4_ask_2 : decode cX4_ask 2 = .ok (.putfield 19, 3) := by decide +kernel
theorem dX4_ask_5 : decode cX4_ask 5 = .ok (.aload_n 0, 1) := by decide +kernel
theorem dX4_ask_6 : decode cX4_ask 6 = .ok (.invokevirtual 31, 3) := by decide +kernel
theorem dX4_ask_9 : decode cX4_ask 9 = .ok (.return_, 1) := by decide +kernel
theorem dX4_append_0 : decode cX4_append 0 = .ok (.aload_n 0, 1) := by decide +kernel
theorem dX4_append_1 : decode cX4_append 1 = .ok (.getfield 15, 3) := by decide +kernel
theorem dX4_append_4 : decode cX4_append 4 = .ok (.bipush 12, 2) := by decide +kernel
theorem dX4_append_6 : decode cX4_append 6 = .ok (.if_icmp .ge 27, 3) := by decide +kernel
theorem dX4_append_9 : decode cX4_append 9 = .ok (.aload_n 0, 1) := by decide +kernel
theorem dX4_append_10 : decode cX4_append 10 = .ok (.getfield 28, 3) := by decide +kernel
theorem dX4_append_13 : decode cX4_append 13 = .ok (.aload_n 0, 1) := by decide +kernel
theorem dX4_append_14 : decode cX4_append 14 = .ok (.getfield 15, 3) := by decide +kernel
theorem dX4_append_17 : decode cX4_append 17 = .ok (.iload_n 1, 1) := by decide +kernel
theorem dX4_append_18 : decode cX4_append 18 = .ok (.iastore, 1) := by decide +kernel
theorem dX4_append_19 : decode cX4_append 19 = .ok (.aload_n 0, 1) := by decide +kernel
theorem dX4_append_20 : decode cX4_append 20 = .ok (.dup, 1) := by decide +kernel
theorem dX4_append_21 : decode cX4_append 21 = .ok (.getfield 15, 3) := by decide +kernel
theorem dX4_append_24 : decode cX4_append 24 = .ok (.iconst 1, 1) := by decide +kernel
theorem dX4_append_25 : decode cX4_append 25 = .ok (.iadd, 1) := by decide +kernel
theorem dX4_append_26 : decode cX4_append 26 = .ok (.putfield 15, 3) := by decide +kernel
theorem dX4_append_29 : decode cX4_append 29 = .ok (.aload_n 0, 1) := by decide +kernel
theorem dX4_append_30 : decode cX4_append 30 = .ok (.invokevirtual 31, 3) := by decide +kernel
theorem dX4_append_33 : decode cX4_append 33 = .ok (.return_, 1) := by decide +kernel
theorem dX4_empty_0 : decode cX4_empty 0 = .ok (.aload_n 0, 1) := by decide +kernel
theorem dX4_empty_1 : decode cX4_empty 1 = .ok (.iconst 0, 1) := by decide +kernel
theorem dX4_empty_2 : decode cX4_empty 2 = .ok (.putfield 15, 3) := by decide +kernel
theorem dX4_empty_5 : decode cX4_empty 5 = .ok (.aload_n 0, 1) := by decide +kernel
theorem dX4_empty_6 : decode cX4_empty 6 = .ok (.invokevirtual 31, 3) := by decide +kernel
theorem dX4_empty_9 : decode cX4_empty 9 = .ok (.return_, 1) := by decide +kernel
theorem dX4_settle_0 : decode cX4_settle 0 = .ok (.aload_n 0, 1) := by decide +kernel
theorem dX4_settle_1 : decode cX4_settle 1 = .ok (.aload_n 0, 1) := by decide +kernel
theorem dX4_settle_2 : decode cX4_settle 2 = .ok (.invokevirtual 34, 3) := by decide +kernel
theorem dX4_settle_5 : decode cX4_settle 5 = .ok (.putfield 22, 3) := by decide +kernel
theorem dX4_settle_8 : decode cX4_settle 8 = .ok (.aload_n 0, 1) := by decide +kernel
theorem dX4_settle_9 : decode cX4_settle 9 = .ok (.iconst 0, 1) := by decide +kernel
theorem dX4_settle_10 : decode cX4_settle 10 = .ok (.putfield 25, 3) := by decide +kernel
theorem dX4_settle_13 : decode cX4_settle 13 = .ok (.iconst 0, 1) := by decide +kernel
theorem dX4_settle_14 : decode cX4_settle 14 = .ok (.istore_n 1, 1) := by decide +kernel
theorem dX4_settle_15 : decode cX4_settle 15 = .ok (.iload_n 1, 1) := by decide +kernel
theorem dX4_settle_16 : decode cX4_settle 16 = .ok (.bipush 12, 2) := by decide +kernel
theorem dX4_settle_18 : decode cX4_settle 18 = .ok (.if_icmp .ge 79, 3) := by decide +kernel
theorem dX4_settle_21 : decode cX4_settle 21 = .ok (.aload_n 0, 1) := by decide +kernel
theorem dX4_settle_22 : decode cX4_settle 22 = .ok (.getfield 22, 3) := by decide +kernel
theorem dX4_settle_25 : decode cX4_settle 25 = .ok (.iconst (-1), 1) := by decide +kernel
theorem dX4_settle_26 : decode cX4_settle 26 = .ok (.if_icmp .ne 22, 3) := by decide +kernel
theorem dX4_settle_29 : decode cX4_settle 29 = .ok (.iload_n 1, 1) := by decide +kernel
theorem dX4_settle_30 : decode cX4_settle 30 = .ok (.aload_n 0, 1) := by decide +kernel
theorem dX4_settle_31 : decode cX4_settle 31 = .ok (.getfield 19, 3) := by decide +kernel
theorem dX4_settle_34 : decode cX4_settle 34 = .ok (.if_icmp .ge 14, 3) := by decide +kernel
theorem dX4_settle_37 : decode cX4_settle 37 = .ok (.aload_n 0, 1) := by decide +kernel
theorem dX4_settle_38 : decode cX4_settle 38 = .ok (.getfield 28, 3) := by decide +kernel
theorem dX4_settle_41 : decode cX4_settle 41 = .ok (.iload_n 1, 1) := by decide +kernel
theorem dX4_settle_42 : decode cX4_settle 42 = .ok (.iaload, 1) := by decide +kernel
theorem dX4_settle_43 : decode cX4_settle 43 = .ok (.bipush 63, 2) := by decide +kernel
theorem dX4_settle_45 : decode cX4_settle 45 = .ok (.if_icmp .ne 7, 3) := by decide +kernel
theorem dX4_settle_48 : decode cX4_settle 48 = .ok (.iconst 1, 1) := by decide +kernel
theorem dX4_settle_49 : decode cX4_settle 49 = .ok (.goto 4, 3) := by decide +kernel
theorem dX4_settle_52 : decode cX4_settle 52 = .ok (.iconst 0, 1) := by decide +kernel
theorem dX4_settle_53 : decode cX4_settle 53 = .ok (.istore_n 2, 1) := by decide +kernel
theorem dX4_settle_54 : decode cX4_settle 54 = .ok (.aload_n 0, 1) := by decide +kernel
theorem dX4_settle_55 : decode cX4_settle 55 = .ok (.getfield 9, 3) := by decide +kernel
theorem dX4_settle_58 : decode cX4_settle 58 = .ok (.iload_n 1, 1) := by decide +kernel
theorem dX4_settle_59 : decode cX4_settle 59 = .ok (.iload_n 2, 1) := by decide +kernel
theorem dX4_settle_60 : decode cX4_settle 60 = .ok (.ifCond .eq 7, 3) := by decide +kernel
theorem dX4_settle_63 : decode cX4_settle 63 = .ok (.iconst 0, 1) := by decide +kernel
theorem dX4_settle_64 : decode cX4_settle 64 = .ok (.goto 12, 3) := by decide +kernel
theorem dX4_settle_67 : decode cX4_settle 67 = .ok (.aload_n 0, 1) := by decide +kernel
theorem dX4_settle_68 : decode cX4_settle 68 = .ok (.getfield 28, 3) := by decide +kernel
theorem dX4_settle_71 : decode cX4_settle 71 = .ok (.iload_n 1, 1) := by decide +kernel
theorem dX4_settle_72 : decode cX4_settle 72 = .ok (.iaload, 1) := by decide +kernel
theorem dX4_settle_73 : decode cX4_settle 73 = .ok (.bipush 48, 2) := by decide +kernel
theorem dX4_settle_75 : decode cX4_settle 75 = .ok (.isub, 1) := by decide +kernel
theorem dX4_settle_76 : decode cX4_settle 76 = .ok (.iastore, 1) := by decide +kernel
theorem dX4_settle_77 : decode cX4_settle 77 = .ok (.iload_n 2, 1) := by decide +kernel
theorem dX4_settle_78 : decode cX4_settle 78 = .ok (.ifCond .ne 13, 3) := by decide +kernel
theorem dX4_settle_81 : decode cX4_settle 81 = .ok (.aload_n 0, 1) := by decide +kernel
theorem dX4_settle_82 : decode cX4_settle 82 = .ok (.dup, 1) := by decide +kernel
theorem dX4_settle_83 : decode cX4_settle 83 = .ok (.getfield 25, 3) := by decide +kernel
theorem dX4_settle_86 : decode cX4_settle 86 = .ok (.iconst 1, 1) := by decide +kernel
theorem dX4_settle_87 : decode cX4_settle 87 = .ok (.iadd, 1) := by decide +kernel
theorem dX4_settle_88 : decode cX4_settle 88 = .ok (.putfield 25, 3) := by decide +kernel
theorem dX4_settle_91 : decode cX4_settle 91 = .ok (.iinc 1 1, 3) := by decide +kernel
theorem dX4_settle_94 : decode cX4_settle 94 = .ok (.goto (-79), 3) := by decide +kernel
theorem dX4_settle_97 : decode cX4_settle 97 = .ok (.return_, 1) := by decide +kernel
theorem dX4_firstFault_0 : decode cX4_firstFault 0 = .ok (.aload_n 0, 1) := by decide +kernel
theorem dX4_firstFault_1 : decode cX4_firstFault 1 = .ok (.getfield 15, 3) := by decide +kernel
theorem dX4_firstFault_4 : decode cX4_firstFault 4 = .ok (.aload_n 0, 1) := by decide +kernel
theorem dX4_firstFault_5 : decode cX4_firstFault 5 = .ok (.getfield 19, 3) := by decide +kernel
theorem dX4_firstFault_8 : decode cX4_firstFault 8 = .ok (.invokestatic 38, 3) := by decide +kernel
theorem dX4_firstFault_11 : decode cX4_firstFault 11 = .ok (.istore_n 1, 1) := by decide +kernel
theorem dX4_firstFault_12 : decode cX4_firstFault 12 = .ok (.iconst 0, 1) := by decide +kernel
theorem dX4_firstFault_13 : decode cX4_firstFault 13 = .ok (.istore_n 2, 1) := by decide +kernel
theorem dX4_firstFault_14 : decode cX4_firstFault 14 = .ok (.iload_n 2, 1) := by decide +kernel
theorem dX4_firstFault_15 : decode cX4_firstFault 15 = .ok (.iload_n 1, 1) := by decide +kernel
theorem dX4_firstFault_16 : decode cX4_firstFault 16 = .ok (.if_icmp .ge 38, 3) := by decide +kernel
theorem dX4_firstFault_19 : decode cX4_firstFault 19 = .ok (.aload_n 0, 1) := by decide +kernel
theorem dX4_firstFault_20 : decode cX4_firstFault 20 = .ok (.getfield 28, 3) := by decide +kernel
theorem dX4_firstFault_23 : decode cX4_firstFault 23 = .ok (.iload_n 2, 1) := by decide +kernel
theorem dX4_firstFault_24 : decode cX4_firstFault 24 = .ok (.iaload, 1) := by decide +kernel
theorem dX4_firstFault_25 : decode cX4_firstFault 25 = .ok (.bipush 63, 2) := by decide +kernel
theorem dX4_firstFault_27 : decode cX4_firstFault 27 = .ok (.if_icmp .eq 21, 3) := by decide +kernel
theorem dX4_firstFault_30 : decode cX4_firstFault 30 = .ok (.aload_n 0, 1) := by decide +kernel
theorem dX4_firstFault_31 : decode cX4_firstFault 31 = .ok (.getfield 28, 3) := by decide +kernel
theorem dX4_firstFault_34 : decode cX4_firstFault 34 = .ok (.iload_n 2, 1) := by decide +kernel
theorem dX4_firstFault_35 : decode cX4_firstFault 35 = .ok (.iaload, 1) := by decide +kernel
theorem dX4_firstFault_36 : decode cX4_firstFault 36 = .ok (.bipush 49, 2) := by decide +kernel
theorem dX4_firstFault_38 : decode cX4_firstFault 38 = .ok (.bipush 53, 2) := by decide +kernel
theorem dX4_firstFault_40 : decode cX4_firstFault 40 = .ok (.invokestatic 44, 3) := by decide +kernel
theorem dX4_firstFault_43 : decode cX4_firstFault 43 = .ok (.ifCond .ne 5, 3) := by decide +kernel
theorem dX4_firstFault_46 : decode cX4_firstFault 46 = .ok (.iload_n 2, 1) := by decide +kernel
theorem dX4_firstFault_47 : decode cX4_firstFault 47 = .ok (.ireturn, 1) := by decide +kernel
theorem dX4_firstFault_48 : decode cX4_firstFault 48 = .ok (.iinc 2 1, 3) := by decide +kernel
theorem dX4_firstFault_51 : decode cX4_firstFault 51 = .ok (.goto (-37), 3) := by decide +kernel
theorem dX4_firstFault_54 : decode cX4_firstFault 54 = .ok (.aload_n 0, 1) := by decide +kernel
theorem dX4_firstFault_55 : decode cX4_firstFault 55 = .ok (.getfield 15, 3) := by decide +kernel
theorem dX4_firstFault_58 : decode cX4_firstFault 58 = .ok (.aload_n 0, 1) := by decide +kernel
theorem dX4_firstFault_59 : decode cX4_firstFault 59 = .ok (.getfield 19, 3) := by decide +kernel
theorem dX4_firstFault_62 : decode cX4_firstFault 62 = .ok (.if_icmp .ne 7, 3) := by decide +kernel
theorem dX4_firstFault_65 : decode cX4_firstFault 65 = .ok (.iconst (-1), 1) := by decide +kernel
theorem dX4_firstFault_66 : decode cX4_firstFault 66 = .ok (.goto 4, 3) := by decide +kernel
theorem dX4_firstFault_69 : decode cX4_firstFault 69 = .ok (.iload_n 1, 1) := by decide +kernel
theorem dX4_firstFault_70 : decode cX4_firstFault 70 = .ok (.ireturn, 1) := by decide +kernel
