theorem dX5_init_0 : decode cX5_init 0 = .ok (.aload_n 0, 1) := by decide +kernel
theorem dX5_init_1 : decode cX5_init 1 = .ok (.invokespecial 3, 3) := by decide +kernel
theorem dX5_init_4 : decode cX5_init 4 = .ok (.aload_n 0, 1) := by decide +kernel
theorem dX5_init_5 : decode cX5_init 5 = .ok (.bipush 50, 2) := by decide +kernel
theorem dX5_init_7 : decode cX5_init 7 = .ok (.putfield 9, 3) := by decide +kernel
theorem dX5_init_10 : decode cX5_init 10 = .ok (.aload_n 0, 1) := by decide +kernel
theorem dX5_init_11 : decode cX5_init 11 = .ok (.bipush 10, 2) := by decide +kernel
theorem dX5_init_13 : decode cX5_init 13 = .ok (.newarray .int, 2) := by decide +kernel
theorem dX5_init_15 : decode cX5_init 15 = .ok (.putfield 15, 3) := by decide +kernel
theorem dX5_init_18 : decode cX5_init 18 = .ok (.aload_n 0, 1) := by decide +kernel
theorem dX5_init_19 : decode cX5_init 19 = .ok (.bipush 10, 2) := by decide +kernel
theorem dX5_init_21 : decode cX5_init 21 = .ok (.newarray .int, 2) := by decide +kernel
theorem dX5_init_23 : decode cX5_init 23 = .ok (.putfield 19, 3) := by decide +kernel
theorem dX5_init_26 : decode cX5_init 26 = .ok (.aload_n 0, 1) := by decide +kernel
theorem dX5_init_27 : decode cX5_init 27 = .ok (.aload_n 1, 1) := by decide +kernel
theorem dX5_init_28 : decode cX5_init 28 = .ok (.putfield 22, 3) := by decide +kernel
theorem dX5_init_31 : decode cX5_init 31 = .ok (.aload_n 0, 1) := by decide +kernel
theorem dX5_init_32 : decode cX5_init 32 = .ok (.aload_n 2, 1) := by decide +kernel
theorem dX5_init_33 : decode cX5_init 33 = .ok (.putfield 26, 3) := by decide +kernel
theorem dX5_init_36 : decode cX5_init 36 = .ok (.aload_n 0, 1) := by decide +kernel
theorem dX5_init_37 : decode cX5_init 37 = .ok (.aload_n 3, 1) := by decide +kernel
theorem dX5_init_38 : decode cX5_init 38 = .ok (.putfield 30, 3) := by decide +kernel
theorem dX5_init_41 : decode cX5_init 41 = .ok (.return_, 1) := by decide +kernel
theorem dX5_isRight_0 : decode cX5_isRight 0 = .ok (.aload_n 0, 1) := by decide +kernel
theorem dX5_isRight_1 : decode cX5_isRight 1 = .ok (.getfield 22, 3) := by decide +kernel
theorem dX5_isRight_4 : decode cX5_isRight 4 = .ok (.getfield 34, 3) := by decide +kernel
theorem dX5_isRight_7 : decode cX5_isRight 7 = .ok (.iload_n 2, 1) := by decide +kernel
theorem dX5_isRight_8 : decode cX5_isRight 8 = .ok (.iaload, 1) := by decide +kernel
theorem dX5_isRight_9 : decode cX5_isRight 9 = .ok (.ifCond .eq 30, 3) := by decide +kernel
theorem dX5_isRight_12 : decode cX5_isRight 12 = .ok (.aload_n 0, 1) := by decide +kernel
theorem dX5_isRight_13 : decode cX5_isRight 13 = .ok (.getfield 30, 3) := by decide +kernel
theorem dX5_isRight_16 : decode cX5_isRight 16 = .ok (.getfield 39, 3) := by decide +kernel
theorem dX5_isRight_19 : decode cX5_isRight 19 = .ok (.iload_n 1, 1) := by decide +kernel
theorem dX5_isRight_20 : decode cX5_isRight 20 = .ok (.aaload, 1) := by decide +kernel
theorem dX5_isRight_21 : decode cX5_isRight 21 = .ok (.iload_n 2, 1) := by decide +kernel
theorem dX5_isRight_22 : decode cX5_isRight 22 = .ok (.iaload, 1) := by decide +kernel
theorem dX5_isRight_23 : decode cX5_isRight 23 = .ok (.aload_n 0, 1) := by decide +kernel
theorem dX5_isRight_24 : decode cX5_isRight 24 = .ok (.getfield 22, 3) := by decide +kernel
theorem dX5_isRight_27 : decode cX5_isRight 27 = .ok (.getfield 34, 3) := by decide +kernel
theorem dX5_isRight_30 : decode cX5_isRight 30 = .ok (.iload_n 2, 1) := by decide +kernel
theorem dX5_isRight_31 : decode cX5_isRight 31 = .ok (.iaload, 1) := by decide +kernel
theorem dX5_isRight_32 : decode cX5_isRight 32 = .ok (.if_icmp .ne 7, 3) := by decide +kernel
theorem dX5_isRight_35 : decode cX5_isRight 35 = .ok (.iconst 1, 1) := by decide +kernel
theorem dX5_isRight_36 : decode cX5_isRight 36 = .ok (.goto 4, 3) := by decide +kernel
theorem dX5_isRight_39 : decode cX5_isRight 39 = .ok (.iconst 0, 1) := by decide +kernel
theorem dX5_isRight_40 : decode cX5_isRight 40 = .ok (.ireturn, 1) := by decide +kernel
theorem dX5_markOf_0 : decode cX5_markOf 0 = .ok (.aload_n 0, 1) := by decide +kernel
theorem dX5_markOf_1 : decode cX5_markOf 1 = .ok (.iload_n 1, 1) := by decide +kernel
theorem dX5_markOf_2 : decode cX5_markOf 2 = .ok (.iconst (-1), 1) := by decide +kernel
theorem dX5_markOf_3 : decode cX5_markOf 3 = .ok (.invokevirtual 45, 3) := by decide +kernel
theorem dX5_markOf_6 : decode cX5_markOf 6 = .ok (.ireturn, 1) := by decide +kernel
theorem dX5_restOf_0 : decode cX5_restOf 0 = .ok (.iconst 0, 1) := by decide +kernel
theorem dX5_restOf_1 : decode cX5_restOf 1 = .ok (.istore_n 3, 1) := by decide +kernel
theorem dX5_restOf_2 : decode cX5_restOf 2 = .ok (.iconst 0, 1) := by decide +kernel
theorem dX5_restOf_3 : decode cX5_restOf 3 = .ok (.istore 4, 2) := by decide +kernel
theorem dX5_restOf_5 : decode cX5_restOf 5 = .ok (.iload 4, 2) := by decide +kernel
theorem dX5_restOf_7 : decode cX5_restOf 7 = .ok (.aload_n 0, 1) := by decide +kernel
theorem dX5_restOf_8 : decode cX5_restOf 8 = .ok (.getfield 22, 3) := by decide +kernel
theorem dX5_restOf_11 : decode cX5_restOf 11 = .ok (.getfield 49, 3) := by decide +kernel
theorem dX5_restOf_14 : decode cX5_restOf 14 = .ok (.if_icmp .ge 28, 3) := by decide +kernel
theorem dX5_restOf_17 : decode cX5_restOf 17 = .ok (.iload 4, 2) := by decide +kernel
theorem dX5_restOf_19 : decode cX5_restOf 19 = .ok (.iload_n 2, 1) := by decide +kernel
theorem dX5_restOf_20 : decode cX5_restOf 20 = .ok (.if_icmp .eq 16, 3) := by decide +kernel
theorem dX5_restOf_23 : decode cX5_restOf 23 = .ok (.aload_n 0, 1) := by decide +kernel
theorem dX5_restOf_24 : decode cX5_restOf 24 = .ok (.iload_n 1, 1) := by decide +kernel
theorem dX5_restOf_25 : decode cX5_restOf 25 = .ok (.iload 4, 2) := by decide +kernel
theorem dX5_restOf_27 : decode cX5_restOf 27 = .ok (.invokevirtual 52, 3) := by decide +kernel
theorem dX5_restOf_30 : decode cX5_restOf 30 = .ok (.ifCond .eq 6, 3) := by decide +kernel
theorem dX5_restOf_33 : decode cX5_restOf 33 = .ok (.iinc 3 1, 3) := by decide +kernel
theorem dX5_restOf_36 : decode cX5_restOf 36 = .ok (.iinc 4 1, 3) := by decide +kernel
theorem dX5_restOf_39 : decode cX5_restOf 39 = .ok (.goto (-34), 3) := by decide +kernel
theorem dX5_restOf_42 : decode cX5_restOf 42 = .ok (.iload_n 3, 1) := by decide +kernel
theorem dX5_restOf_43 : decode cX5_restOf 43 = .ok (.ireturn, 1) := by decide +kernel
theorem dX5_wrongsOf_0 : decode cX5_wrongsOf 0 = .ok (.iconst 0, 1) := by decide +kernel
theorem dX5_wrongsOf_1 : decode cX5_wrongsOf 1 = .ok (.istore_n 2, 1) := by decide +kernel
theorem dX5_wrongsOf_2 : decode cX5_wrongsOf 2 = .ok (.iconst 0, 1) := by decide +kernel
theorem dX5_wrongsOf_3 : decode cX5_wrongsOf 3 = .ok (.istore_n 3, 1) := by decide +kernel
theorem dX5_wrongsOf_4 : decode cX5_wrongsOf 4 = .ok (.iload_n 3, 1) := by decide +kernel
theorem dX5_wrongsOf_5 : decode cX5_wrongsOf 5 = .ok (.aload_n 0, 1) := by decide +kernel
theorem dX5_wrongsOf_6 : decode cX5_wrongsOf 6 = .ok (.getfield 22, 3) := by decide +kernel
theorem dX5_wrongsOf_9 : decode cX5_wrongsOf 9 = .ok (.getfield 49, 3) := by decide +kernel
theorem dX5_wrongsOf_12 : decode cX5_wrongsOf 12 = .ok (.if_icmp .ge 47, 3) := by decide +kernel
theorem dX5_wrongsOf_15 : decode cX5_wrongsOf 15 = .ok (.aload_n 0, 1) := by decide +kernel
theorem dX5_wrongsOf_16 : decode cX5_wrongsOf 16 = .ok (.getfield 22, 3) := by decide +kernel
theorem dX5_wrongsOf_19 : decode cX5_wrongsOf 19 = .ok (.getfield 34, 3) := by decide +kernel
theorem dX5_wrongsOf_22 : decode cX5_wrongsOf 22 = .ok (.iload_n 3, 1) := by decide +kernel
theorem dX5_wrongsOf_23 : decode cX5_wrongsOf 23 = .ok (.iaload, 1) := by decide +kernel
theorem dX5_wrongsOf_24 : decode cX5_wrongsOf 24 = .ok (.ifCond .eq 29, 3) := by decide +kernel
theorem dX5_wrongsOf_27 : decode cX5_wrongsOf 27 = .ok (.aload_n 0, 1) := by decide +kernel
theorem dX5_wrongsOf_28 : decode cX5_wrongsOf 28 = .ok (.getfield 30, 3) := by decide +kernel
theorem dX5_wrongsOf_31 : decode cX5_wrongsOf 31 = .ok (.getfield 39, 3) := by decide +kernel
theorem dX5_wrongsOf_34 : decode cX5_wrongsOf 34 = .ok (.iload_n 1, 1) := by decide +kernel
theorem dX5_wrongsOf_35 : decode cX5_wrongsOf 35 = .ok (.aaload, 1) := by decide +kernel
theorem dX5_wrongsOf_36 : decode cX5_wrongsOf 36 = .ok (.iload_n 3, 1) := by decide +kernel
theorem dX5_wrongsOf_37 : decode cX5_wrongsOf 37 = .ok (.iaload, 1) := by decide +kernel
theorem dX5_wrongsOf_38 : decode cX5_wrongsOf 38 = .ok (.ifCond .eq 15, 3) := by decide +kernel
theorem dX5_wrongsOf_41 : decode cX5_wrongsOf 41 = .ok (.aload_n 0, 1) := by decide +kernel
theorem dX5_wrongsOf_42 : decode cX5_wrongsOf 42 = .ok (.iload_n 1, 1) := by decide +kernel
theorem dX5_wrongsOf_43 : decode cX5_wrongsOf 43 = .ok (.iload_n 3, 1) := by decide +kernel
theorem dX5_wrongsOf_44 : decode cX5_wrongsOf 44 = .ok (.invokevirtual 52, 3) := by decide +kernel
theorem dX5_wrongsOf_47 : decode cX5_wrongsOf 47 = .ok (.ifCond .ne 6, 3) := by decide +kernel
theorem dX5_wrongsOf_50 : decode cX5_wrongsOf 50 = .ok (.iinc 2 1, 3) := by decide +kernel
theorem dX5_wrongsOf_53 : decode cX5_wrongsOf 53 = .ok (.iinc 3 1, 3) := by decide +kernel
theorem dX5_wrongsOf_56 : decode cX5_wrongsOf 56 = .ok (.goto (-52), 3) := by decide +kernel
theorem dX5_wrongsOf_59 : decode cX5_wrongsOf 59 = .ok (.iload_n 2, 1) := by decide +kernel
theorem dX5_wrongsOf_60 : decode cX5_wrongsOf 60 = .ok (.ireturn, 1) := by decide +kernel
theorem dX5_together_0 : decode cX5_together 0 = .ok (.iconst 0, 1) := by decide +kernel
theorem dX5_together_1 : decode cX5_together 1 = .ok (.istore_n 1, 1) := by decide +kernel
theorem dX5_together_2 : decode cX5_together 2 = .ok (.iconst 0, 1) := by decide +kernel
theorem dX5_together_3 : decode cX5_together 3 = .ok (.istore_n 2, 1) := by decide +kernel
theorem dX5_together_4 : decode cX5_together 4 = .ok (.iload_n 2, 1) := by decide +kernel
theorem dX5_together_5 : decode cX5_together 5 = .ok (.aload_n 0, 1) := by decide +kernel
theorem dX5_together_6 : decode cX5_together 6 = .ok (.getfield 26, 3) := by decide +kernel
theorem dX5_together_9 : decode cX5_together 9 = .ok (.getfield 56, 3) := by decide +kernel
theorem dX5_together_12 : decode cX5_together 12 = .ok (.if_icmp .ge 17, 3) := by decide +kernel
theorem dX5_together_15 : decode cX5_together 15 = .ok (.iload_n 1, 1) := by decide +kernel
theorem dX5_together_16 : decode cX5_together 16 = .ok (.aload_n 0, 1) := by decide +kernel
theorem dX5_together_17 : decode cX5_together 17 = .ok (.iload_n 2, 1) := by decide +kernel
theorem dX5_together_18 : decode cX5_together 18 = .ok (.invokevirtual 61, 3) := by decide +kernel
theorem dX5_together_21 : decode cX5_together 21 = .ok (.iadd, 1) := by decide +kernel
theorem dX5_together_22 : decode cX5_together 22 = .ok (.istore_n 1, 1) := by decide +kernel
theorem dX5_together_23 : decode cX5_together 23 = .ok (.iinc 2 1, 3) := by decide +kernel
theorem dX5_together_26 : decode cX5_together 26 = .ok (.goto (-22), 3) := by decide +kernel
theorem dX5_together_29 : decode cX5_together 29 = .ok (.iload_n 1, 1) := by decide +kernel
theorem dX5_together_30 : decode cX5_together 30 = .ok (.ireturn, 1) := by decide +kernel
theorem dX5_rightsTo_0 : decode cX5_rightsTo 0 = .ok (.iconst 0, 1) := by decide +kernel
theorem dX5_rightsTo_1 : decode cX5_rightsTo 1 = .ok (.istore_n 3, 1) := by decide +kernel
theorem dX5_rightsTo_2 : decode cX5_rightsTo 2 = .ok (.iconst 0, 1) := by decide +kernel
theorem dX5_rightsTo_3 : decode cX5_rightsTo 3 = .ok (.istore 4, 2) := by decide +kernel
theorem dX5_rightsTo_5 : decode cX5_rightsTo 5 = .ok (.iload 4, 2) := by decide +kernel
theorem dX5_rightsTo_7 : decode cX5_rightsTo 7 = .ok (.aload_n 0, 1) := by decide +kernel
theorem dX5_rightsTo_8 : decode cX5_rightsTo 8 = .ok (.getfield 26, 3) := by decide +kernel
theorem dX5_rightsTo_11 : decode cX5_rightsTo 11 = .ok (.getfield 56, 3) := by decide +kernel
theorem dX5_rightsTo_14 : decode cX5_rightsTo 14 = .ok (.if_icmp .ge 31, 3) := by decide +kernel
theorem dX5_rightsTo_17 : decode cX5_rightsTo 17 = .ok (.iload_n 2, 1) := by decide +kernel
theorem dX5_rightsTo_18 : decode cX5_rightsTo 18 = .ok (.iload 4, 2) := by decide +kernel
theorem dX5_rightsTo_20 : decode cX5_rightsTo 20 = .ok (.ishr, 1) := by decide +kernel
theorem dX5_rightsTo_21 : decode cX5_rightsTo 21 = .ok (.iconst 1, 1) := by decide +kernel
theorem dX5_rightsTo_22 : decode cX5_rightsTo 22 = .ok (.iand, 1) := by decide +kernel
theorem dX5_rightsTo_23 : decode cX5_rightsTo 23 = .ok (.ifCond .eq 16, 3) := by decide +kernel
theorem dX5_rightsTo_26 : decode cX5_rightsTo 26 = .ok (.aload_n 0, 1) := by decide +kernel
theorem dX5_rightsTo_27 : decode cX5_rightsTo 27 = .ok (.iload 4, 2) := by decide +kernel
theorem dX5_rightsTo_29 : decode cX5_rightsTo 29 = .ok (.iload_n 1, 1) := by decide +kernel
theorem dX5_rightsTo_30 : decode cX5_rightsTo 30 = .ok (.invokevirtual 52, 3) := by decide +kernel
theorem dX5_rightsTo_33 : decode cX5_rightsTo 33 = .ok (.ifCond .eq 6, 3) := by decide +kernel
theorem dX5_rightsTo_36 : decode cX5_rightsTo 36 = .ok (.iinc 3 1, 3) := by decide +kernel
theorem dX5_rightsTo_39 : decode cX5_rightsTo 39 = .ok (.iinc 4 1, 3) := by decide +kernel
theorem dX5_rightsTo_42 : decode cX5_rightsTo 42 = .ok (.goto (-37), 3) := by decide +kernel
theorem dX5_rightsTo_45 : decode cX5_rightsTo 45 = .ok (.iload_n 3, 1) := by decide +kernel
theorem dX5_rightsTo_46 : decode cX5_rightsTo 46 = .ok (.ireturn, 1) := by decide +kernel
theorem dX5_rankOf_0 : decode cX5_rankOf 0 = .ok (.aload_n 0, 1) := by decide +kernel
theorem dX5_rankOf_1 : decode cX5_rankOf 1 = .ok (.aload_n 0, 1) := by decide +kernel
theorem dX5_rankOf_2 : decode cX5_rankOf 2 = .ok (.getfield 15, 3) := by decide +kernel
theorem dX5_rankOf_5 : decode cX5_rankOf 5 = .ok (.iconst (-1), 1) := by decide +kernel
theorem dX5_rankOf_6 : decode cX5_rankOf 6 = .ok (.invokevirtual 65, 3) := by decide +kernel
theorem dX5_rankOf_9 : decode cX5_rankOf 9 = .ok (.aload_n 0, 1) := by decide +kernel
theorem dX5_rankOf_10 : decode cX5_rankOf 10 = .ok (.aload_n 0, 1) := by decide +kernel
theorem dX5_rankOf_11 : decode cX5_rankOf 11 = .ok (.getfield 15, 3) := by decide +kernel
theorem dX5_rankOf_14 : decode cX5_rankOf 14 = .ok (.iload_n 1, 1) := by decide +kernel
theorem dX5_rankOf_15 : decode cX5_rankOf 15 = .ok (.invokevirtual 69, 3) := by decide +kernel
theorem dX5_rankOf_18 : decode cX5_rankOf 18 = .ok (.ireturn, 1) := by decide +kernel
theorem dX5_passes_0 : decode cX5_passes 0 = .ok (.iload_n 1, 1) := by decide +kernel
theorem dX5_passes_1 : decode cX5_passes 1 = .ok (.bipush 100, 2) := by decide +kernel
theorem dX5_passes_3 : decode cX5_passes 3 = .ok (.imul, 1) := by decide +kernel
theorem dX5_passes_4 : decode cX5_passes 4 = .ok (.aload_n 0, 1) := by decide +kernel
theorem dX5_passes_5 : decode cX5_passes 5 = .ok (.getfield 9, 3) := by decide +kernel
theorem dX5_passes_8 : decode cX5_passes 8 = .ok (.iload_n 2, 1) := by decide +kernel
theorem dX5_passes_9 : decode cX5_passes 9 = .ok (.imul, 1) := by decide +kernel
theorem dX5_passes_10 : decode cX5_passes 10 = .ok (.if_icmp .lt 7, 3) := by decide +kernel
theorem dX5_passes_13 : decode cX5_passes 13 = .ok (.iconst 1, 1) := by decide +kernel
theorem dX5_passes_14 : decode cX5_passes 14 = .ok (.goto 4, 3) := by decide +kernel
theorem dX5_passes_17 : decode cX5_passes 17 = .ok (.iconst 0, 1) := by decide +kernel
theorem dX5_passes_18 : decode cX5_passes 18 = .ok (.ireturn, 1) := by decide +kernel
theorem dX5_otherRanks_0 : decode cX5_otherRanks 0 = .ok (.aload_n 0, 1) := by decide +kernel
theorem dX5_otherRanks_1 : decode cX5_otherRanks 1 = .ok (.aload_n 0, 1) := by decide +kernel
theorem dX5_otherRanks_2 : decode cX5_otherRanks 2 = .ok (.getfield 15, 3) := by decide +kernel
theorem dX5_otherRanks_5 : decode cX5_otherRanks 5 = .ok (.iconst (-1), 1) := by decide +kernel
theorem dX5_otherRanks_6 : decode cX5_otherRanks 6 = .ok (.invokevirtual 65, 3) := by decide +kernel
theorem dX5_otherRanks_9 : decode cX5_otherRanks 9 = .ok (.aload_n 0, 1) := by decide +kernel
theorem dX5_otherRanks_10 : decode cX5_otherRanks 10 = .ok (.aload_n 0, 1) := by decide +kernel
theorem dX5_otherRanks_11 : decode cX5_otherRanks 11 = .ok (.getfield 19, 3) := by decide +kernel
theorem dX5_otherRanks_14 : decode cX5_otherRanks 14 = .ok (.iload_n 1, 1) := by decide +kernel
theorem dX5_otherRanks_15 : decode cX5_otherRanks 15 = .ok (.invokevirtual 65, 3) := by decide +kernel
theorem dX5_otherRanks_18 : decode cX5_otherRanks 18 = .ok (.iconst 0, 1) := by decide +kernel
theorem dX5_otherRanks_19 : decode cX5_otherRanks 19 = .ok (.istore_n 2, 1) := by decide +kernel
theorem dX5_otherRanks_20 : decode cX5_otherRanks 20 = .ok (.iconst 0, 1) := by decide +kernel
theorem dX5_otherRanks_21 : decode cX5_otherRanks 21 = .ok (.istore_n 3, 1) := by decide +kernel
theorem dX5_otherRanks_22 : decode cX5_otherRanks 22 = .ok (.iload_n 3, 1) := by decide +kernel
theorem dX5_otherRanks_23 : decode cX5_otherRanks 23 = .ok (.aload_n 0, 1) := by decide +kernel
theorem dX5_otherRanks_24 : decode cX5_otherRanks 24 = .ok (.getfield 26, 3) := by decide +kernel
theorem dX5_otherRanks_27 : decode cX5_otherRanks 27 = .ok (.getfield 56, 3) := by decide +kernel
theorem dX5_otherRanks_30 : decode cX5_otherRanks 30 = .ok (.if_icmp .ge 33, 3) := by decide +kernel
theorem dX5_otherRanks_33 : decode cX5_otherRanks 33 = .ok (.aload_n 0, 1) := by decide +kernel
theorem dX5_otherRanks_34 : decode cX5_otherRanks 34 = .ok (.aload_n 0, 1) := by decide +kernel
theorem dX5_otherRanks_35 : decode cX5_otherRanks 35 = .ok (.getfield 15, 3) := by decide +kernel
theorem dX5_otherRanks_38 : decode cX5_otherRanks 38 = .ok (.iload_n 3, 1) := by decide +kernel
theorem dX5_otherRanks_39 : decode cX5_otherRanks 39 = .ok (.invokevirtual 69, 3) := by decide +kernel
theorem dX5_otherRanks_42 : decode cX5_otherRanks 42 = .ok (.aload_n 0, 1) := by decide +kernel
theorem dX5_otherRanks_43 : decode cX5_otherRanks 43 = .ok (.aload_n 0, 1) := by decide +kernel
theorem dX5_otherRanks_44 : decode cX5_otherRanks 44 = .ok (.getfield 19, 3) := by decide +kernel
theorem dX5_otherRanks_47 : decode cX5_otherRanks 47 = .ok (.iload_n 3, 1) := by decide +kernel
theorem dX5_otherRanks_48 : decode cX5_otherRanks 48 = .ok (.invokevirtual 69, 3) := by decide +kernel
theorem dX5_otherRanks_51 : decode cX5_otherRanks 51 = .ok (.if_icmp .eq 6, 3) := by decide +kernel
theorem dX5_otherRanks_54 : decode cX5_otherRanks 54 = .ok (.iinc 2 1, 3) := by decide +kernel
theorem dX5_otherRanks_57 : decode cX5_otherRanks 57 = .ok (.iinc 3 1, 3) := by decide +kernel
theorem dX5_otherRanks_60 : decode cX5_otherRanks 60 = .ok (.goto (-38), 3) := by decide +kernel
theorem dX5_otherRanks_63 : decode cX5_otherRanks 63 = .ok (.iload_n 2, 1) := by decide +kernel
theorem dX5_otherRanks_64 : decode cX5_otherRanks 64 = .ok (.ireturn, 1) := by decide +kernel
theorem dX5_otherPasses_0 : decode cX5_otherPasses 0 = .ok (.aload_n 0, 1) := by decide +kernel
theorem dX5_otherPasses_1 : decode cX5_otherPasses 1 = .ok (.getfield 22, 3) := by decide +kernel
theorem dX5_otherPasses_4 : decode cX5_otherPasses 4 = .ok (.getfield 34, 3) := by decide +kernel
theorem dX5_otherPasses_7 : decode cX5_otherPasses 7 = .ok (.iload_n 1, 1) := by decide +kernel
theorem dX5_otherPasses_8 : decode cX5_otherPasses 8 = .ok (.iaload, 1) := by decide +kernel
theorem dX5_otherPasses_9 : decode cX5_otherPasses 9 = .ok (.ifCond .ne 13, 3) := by decide +kernel
theorem dX5_otherPasses_12 : decode cX5_otherPasses 12 = .ok (.aload_n 0, 1) := by decide +kernel
theorem dX5_otherPasses_13 : decode cX5_otherPasses 13 = .ok (.getfield 22, 3) := by decide +kernel
theorem dX5_otherPasses_16 : decode cX5_otherPasses 16 = .ok (.getfield 73, 3) := by decide +kernel
theorem dX5_otherPasses_19 : decode cX5_otherPasses 19 = .ok (.goto 12, 3) := by decide +kernel
theorem dX5_otherPasses_22 : decode cX5_otherPasses 22 = .ok (.aload_n 0, 1) := by decide +kernel
theorem dX5_otherPasses_23 : decode cX5_otherPasses 23 = .ok (.getfield 22, 3) := by decide +kernel
theorem dX5_otherPasses_26 : decode cX5_otherPasses 26 = .ok (.getfield 73, 3) := by decide +kernel
theorem dX5_otherPasses_29 : decode cX5_otherPasses 29 = .ok (.iconst 1, 1) := by decide +kernel
theorem dX5_otherPasses_30 : decode cX5_otherPasses 30 = .ok (.isub, 1) := by decide +kernel
theorem dX5_otherPasses_31 : decode cX5_otherPasses 31 = .ok (.istore_n 2, 1) := by decide +kernel
theorem dX5_otherPasses_32 : decode cX5_otherPasses 32 = .ok (.iconst 0, 1) := by decide +kernel
theorem dX5_otherPasses_33 : decode cX5_otherPasses 33 = .ok (.istore_n 3, 1) := by decide +kernel
theorem dX5_otherPasses_34 : decode cX5_otherPasses 34 = .ok (.iconst 0, 1) := by decide +kernel
theorem dX5_otherPasses_35 : decode cX5_otherPasses 35 = .ok (.istore 4, 2) := by decide +kernel
theorem dX5_otherPasses_37 : decode cX5_otherPasses 37 = .ok (.iload 4, 2) := by decide +kernel
theorem dX5_otherPasses_39 : decode cX5_otherPasses 39 = .ok (.aload_n 0, 1) := by decide +kernel
theorem dX5_otherPasses_40 : decode cX5_otherPasses 40 = .ok (.getfield 26, 3) := by decide +kernel
theorem dX5_otherPasses_43 : decode cX5_otherPasses 43 = .ok (.getfield 56, 3) := by decide +kernel
theorem dX5_otherPasses_46 : decode cX5_otherPasses 46 = .ok (.if_icmp .ge 44, 3) := by decide +kernel
theorem dX5_otherPasses_49 : decode cX5_otherPasses 49 = .ok (.aload_n 0, 1) := by decide +kernel
theorem dX5_otherPasses_50 : decode cX5_otherPasses 50 = .ok (.aload_n 0, 1) := by decide +kernel
theorem dX5_otherPasses_51 : decode cX5_otherPasses 51 = .ok (.iload 4, 2) := by decide +kernel
theorem dX5_otherPasses_53 : decode cX5_otherPasses 53 = .ok (.invokevirtual 61, 3) := by decide +kernel
theorem dX5_otherPasses_56 : decode cX5_otherPasses 56 = .ok (.aload_n 0, 1) := by decide +kernel
theorem dX5_otherPasses_57 : decode cX5_otherPasses 57 = .ok (.getfield 22, 3) := by decide +kernel
theorem dX5_otherPasses_60 : decode cX5_otherPasses 60 = .ok (.getfield 73, 3) := by decide +kernel
theorem dX5_otherPasses_63 : decode cX5_otherPasses 63 = .ok (.invokevirtual 76, 3) := by decide +kernel
theorem dX5_otherPasses_66 : decode cX5_otherPasses 66 = .ok (.aload_n 0, 1) := by decide +kernel
theorem dX5_otherPasses_67 : decode cX5_otherPasses 67 = .ok (.aload_n 0, 1) := by decide +kernel
theorem dX5_otherPasses_68 : decode cX5_otherPasses 68 = .ok (.iload 4, 2) := by decide +kernel
theorem dX5_otherPasses_70 : decode cX5_otherPasses 70 = .ok (.iload_n 1, 1) := by decide +kernel
theorem dX5_otherPasses_71 : decode cX5_otherPasses 71 = .ok (.invokevirtual 45, 3) := by decide +kernel
theorem dX5_otherPasses_74 : decode cX5_otherPasses 74 = .ok (.iload_n 2, 1) := by decide +kernel
theorem dX5_otherPasses_75 : decode cX5_otherPasses 75 = .ok (.invokevirtual 76, 3) := by decide +kernel
theorem dX5_otherPasses_78 : decode cX5_otherPasses 78 = .ok (.if_icmp .eq 6, 3) := by decide +kernel
theorem dX5_otherPasses_81 : decode cX5_otherPasses 81 = .ok (.iinc 3 1, 3) := by decide +kernel
theorem dX5_otherPasses_84 : decode cX5_otherPasses 84 = .ok (.iinc 4 1, 3) := by decide +kernel
theorem dX5_otherPasses_87 : decode cX5_otherPasses 87 = .ok (.goto (-50), 3) := by decide +kernel
theorem dX5_otherPasses_90 : decode cX5_otherPasses 90 = .ok (.iload_n 3, 1) := by decide +kernel
theorem dX5_otherPasses_91 : decode cX5_otherPasses 91 = .ok (.ireturn, 1) := by decide +kernel
theorem dX5_fillRests_0 : decode cX5_fillRests 0 = .ok (.iconst 0, 1) := by decide +kernel
theorem dX5_fillRests_1 : decode cX5_fillRests 1 = .ok (.istore_n 3, 1) := by decide +kernel
theorem dX5_fillRests_2 : decode cX5_fillRests 2 = .ok (.iload_n 3, 1) := by decide +kernel
theorem dX5_fillRests_3 : decode cX5_fillRests 3 = .ok (.aload_n 0, 1) := by decide +kernel
theorem dX5_fillRests_4 : decode cX5_fillRests 4 = .ok (.getfield 26, 3) := by decide +kernel
theorem dX5_fillRests_7 : decode cX5_fillRests 7 = .ok (.getfield 56, 3) := by decide +kernel
theorem dX5_fillRests_10 : decode cX5_fillRests 10 = .ok (.if_icmp .ge 18, 3) := by decide +kernel
theorem dX5_fillRests_13 : decode cX5_fillRests 13 = .ok (.aload_n 1, 1) := by decide +kernel
theorem dX5_fillRests_14 : decode cX5_fillRests 14 = .ok (.iload_n 3, 1) := by decide +kernel
theorem dX5_fillRests_15 : decode cX5_fillRests 15 = .ok (.aload_n 0, 1) := by decide +kernel
theorem dX5_fillRests_16 : decode cX5_fillRests 16 = .ok (.iload_n 3, 1) := by decide +kernel
theorem dX5_fillRests_17 : decode cX5_fillRests 17 = .ok (.iload_n 2, 1) := by decide +kernel
theorem dX5_fillRests_18 : decode cX5_fillRests 18 = .ok (.invokevirtual 45, 3) := by decide +kernel
theorem dX5_fillRests_21 : decode cX5_fillRests 21 = .ok (.iastore, 1) := by decide +kernel
theorem dX5_fillRests_22 : decode cX5_fillRests 22 = .ok (.iinc 3 1, 3) := by decide +kernel
theorem dX5_fillRests_25 : decode cX5_fillRests 25 = .ok (.goto (-23), 3) := by decide +kernel
theorem dX5_fillRests_28 : decode cX5_fillRests 28 = .ok (.return_, 1) := by decide +kernel
theorem dX5_rankIn_0 : decode cX5_rankIn 0 = .ok (.iconst 1, 1) := by decide +kernel
theorem dX5_rankIn_1 : decode cX5_rankIn 1 = .ok (.istore_n 3, 1) := by decide +kernel
theorem dX5_rankIn_2 : decode cX5_rankIn 2 = .ok (.iconst 0, 1) := by decide +kernel
theorem dX5_rankIn_3 : decode cX5_rankIn 3 = .ok (.istore 4, 2) := by decide +kernel
theorem dX5_rankIn_5 : decode cX5_rankIn 5 = .ok (.iload 4, 2) := by decide +kernel
theorem dX5_rankIn_7 : decode cX5_rankIn 7 = .ok (.aload_n 0, 1) := by decide +kernel
theorem dX5_rankIn_8 : decode cX5_rankIn 8 = .ok (.getfield 26, 3) := by decide +kernel
theorem dX5_rankIn_11 : decode cX5_rankIn 11 = .ok (.getfield 56, 3) := by decide +kernel
theorem dX5_rankIn_14 : decode cX5_rankIn 14 = .ok (.if_icmp .ge 22, 3) := by decide +kernel
theorem dX5_rankIn_17 : decode cX5_rankIn 17 = .ok (.aload_n 1, 1) := by decide +kernel
theorem dX5_rankIn_18 : decode cX5_rankIn 18 = .ok (.iload 4, 2) := by decide +kernel
theorem dX5_rankIn_20 : decode cX5_rankIn 20 = .ok (.iaload, 1) := by decide +kernel
theorem dX5_rankIn_21 : decode cX5_rankIn 21 = .ok (.aload_n 1, 1) := by decide +kernel
theorem dX5_rankIn_22 : decode cX5_rankIn 22 = .ok (.iload_n 2, 1) := by decide +kernel
theorem dX5_rankIn_23 : decode cX5_rankIn 23 = .ok (.iaload, 1) := by decide +kernel
theorem dX5_rankIn_24 : decode cX5_rankIn 24 = .ok (.if_icmp .le 6, 3) := by decide +kernel
theorem dX5_rankIn_27 : decode cX5_rankIn 27 = .ok (.iinc 3 1, 3) := by decide +kernel
theorem dX5_rankIn_30 : decode cX5_rankIn 30 = .ok (.iinc 4 1, 3) := by decide +kernel
theorem dX5_rankIn_33 : decode cX5_rankIn 33 = .ok (.goto (-28), 3) := by decide +kernel
theorem dX5_rankIn_36 : decode cX5_rankIn 36 = .ok (.iload_n 3, 1) := by decide +kernel
theorem dX5_rankIn_37 : decode cX5_rankIn 37 = .ok (.ireturn, 1) := by decide +kernel
theorem dX6_init_0 : decode cX6_init 0 = .ok (.aload_n 0, 1) := by decide +kernel
theorem dX6_init_1 : decode cX6_init 1 = .ok (.invokespecial 3, 3) := by decide +kernel
theorem dX6_init_4 : decode cX6_init 4 = .ok (.aload_n 0, 1) := by decide +kernel
theorem dX6_init_5 : decode cX6_init 5 = .ok (.bipush 50, 2) := by decide +kernel
theorem dX6_init_7 : decode cX6_init 7 = .ok (.putfield 9, 3) := by decide +kernel
theorem dX6_init_10 : decode cX6_init 10 = .ok (.aload_n 0, 1) := by decide +kernel
theorem dX6_init_11 : decode cX6_init 11 = .ok (.bipush 6, 2) := by decide +kernel
theorem dX6_init_13 : decode cX6_init 13 = .ok (.newarray .int, 2) := by decide +kernel
theorem dX6_init_15 : decode cX6_init 15 = .ok (.putfield 15, 3) := by decide +kernel
theorem dX6_init_18 : decode cX6_init 18 = .ok (.aload_n 0, 1) := by decide +kernel
theorem dX6_init_19 : decode cX6_init 19 = .ok (.bipush 8, 2) := by decide +kernel
theorem dX6_init_21 : decode cX6_init 21 = .ok (.newarray .long, 2) := by decide +kernel
theorem dX6_init_23 : decode cX6_init 23 = .ok (.putfield 19, 3) := by decide +kernel
theorem dX6_init_26 : decode cX6_init 26 = .ok (.aload_n 0, 1) := by decide +kernel
theorem dX6_init_27 : decode cX6_init 27 = .ok (.aload_n 1, 1) := by decide +kernel
theorem dX6_init_28 : decode cX6_init 28 = .ok (.putfield 23, 3) := by decide +kernel
theorem dX6_init_31 : decode cX6_init 31 = .ok (.aload_n 0, 1) := by decide +kernel
theorem dX6_init_32 : decode cX6_init 32 = .ok (.aload_n 2, 1) := by decide +kernel
theorem dX6_init_33 : decode cX6_init 33 = .ok (.putfield 27, 3) := by decide +kernel
theorem dX6_init_36 : decode cX6_init 36 = .ok (.aload_n 0, 1) := by decide +kernel
theorem dX6_init_37 : decode cX6_init 37 = .ok (.aload_n 3, 1) := by decide +kernel
theorem dX6_init_38 : decode cX6_init 38 = .ok (.putfield 31, 3) := by decide +kernel
theorem dX6_init_41 : decode cX6_init 41 = .ok (.aload_n 0, 1) := by decide +kernel
theorem dX6_init_42 : decode cX6_init 42 = .ok (.aload 4, 2) := by decide +kernel
theorem dX6_init_44 : decode cX6_init 44 = .ok (.putfield 35, 3) := by decide +kernel
theorem dX6_init_47 : decode cX6_init 47 = .ok (.return_, 1) := by decide +kernel
theorem dX6_sameWrongs_0 : decode cX6_sameWrongs 0 = .ok (.iconst 0, 1) := by decide +kernel
theorem dX6_sameWrongs_1 : decode cX6_sameWrongs 1 = .ok (.istore_n 3, 1) := by decide +kernel
theorem dX6_sameWrongs_2 : decode cX6_sameWrongs 2 = .ok (.iconst 0, 1) := by decide +kernel
theorem dX6_sameWrongs_3 : decode cX6_sameWrongs 3 = .ok (.istore 4, 2) := by decide +kernel
theorem dX6_sameWrongs_5 : decode cX6_sameWrongs 5 = .ok (.iload 4, 2) := by decide +kernel
theorem dX6_sameWrongs_7 : decode cX6_sameWrongs 7 = .ok (.aload_n 0, 1) := by decide +kernel
theorem dX6_sameWrongs_8 : decode cX6_sameWrongs 8 = .ok (.getfield 23, 3) := by decide +kernel
theorem dX6_sameWrongs_11 : decode cX6_sameWrongs 11 = .ok (.getfield 39, 3) := by decide +kernel
theorem dX6_sameWrongs_14 : decode cX6_sameWrongs 14 = .ok (.if_icmp .ge 50, 3) := by decide +kernel
theorem dX6_sameWrongs_17 : decode cX6_sameWrongs 17 = .ok (.aload_n 0, 1) := by decide +kernel
theorem dX6_sameWrongs_18 : decode cX6_sameWrongs 18 = .ok (.iload_n 1, 1) := by decide +kernel
theorem dX6_sameWrongs_19 : decode cX6_sameWrongs 19 = .ok (.iload_n 2, 1) := by decide +kernel
theorem dX6_sameWrongs_20 : decode cX6_sameWrongs 20 = .ok (.iload 4, 2) := by decide +kernel
theorem dX6_sameWrongs_22 : decode cX6_sameWrongs 22 = .ok (.invokevirtual 44, 3) := by decide +kernel
theorem dX6_sameWrongs_25 : decode cX6_sameWrongs 25 = .ok (.ifCond .eq 33, 3) := by decide +kernel
theorem dX6_sameWrongs_28 : decode cX6_sameWrongs 28 = .ok (.aload_n 0, 1) := by decide +kernel
theorem dX6_sameWrongs_29 : decode cX6_sameWrongs 29 = .ok (.getfield 31, 3) := by decide +kernel
theorem dX6_sameWrongs_32 : decode cX6_sameWrongs 32 = .ok (.getfield 48, 3) := by decide +kernel
theorem dX6_sameWrongs_35 : decode cX6_sameWrongs 35 = .ok (.iload_n 1, 1) := by decide +kernel
theorem dX6_sameWrongs_36 : decode cX6_sameWrongs 36 = .ok (.aaload, 1) := by decide +kernel
theorem dX6_sameWrongs_37 : decode cX6_sameWrongs 37 = .ok (.iload 4, 2) := by decide +kernel
theorem dX6_sameWrongs_39 : decode cX6_sameWrongs 39 = .ok (.iaload, 1) := by decide +kernel
theorem dX6_sameWrongs_40 : decode cX6_sameWrongs 40 = .ok (.aload_n 0, 1) := by decide +kernel
theorem dX6_sameWrongs_41 : decode cX6_sameWrongs 41 = .ok (.getfield 31, 3) := by decide +kernel
theorem dX6_sameWrongs_44 : decode cX6_sameWrongs 44 = .ok (.getfield 48, 3) := by decide +kernel
theorem dX6_sameWrongs_47 : decode cX6_sameWrongs 47 = .ok (.iload_n 2, 1) := by decide +kernel
theorem dX6_sameWrongs_48 : decode cX6_sameWrongs 48 = .ok (.aaload, 1) := by decide +kernel
theorem dX6_sameWrongs_49 : decode cX6_sameWrongs 49 = .ok (.iload 4, 2) := by decide +kernel
theorem dX6_sameWrongs_51 : decode cX6_sameWrongs 51 = .ok (.iaload, 1) := by decide +kernel
theorem dX6_sameWrongs_52 : decode cX6_sameWrongs 52 = .ok (.if_icmp .ne 6, 3) := by decide +kernel
theorem dX6_sameWrongs_55 : decode cX6_sameWrongs 55 = .ok (.iinc 3 1, 3) := by decide +kernel
theorem dX6_sameWrongs_58 : decode cX6_sameWrongs 58 = .ok (.iinc 4 1, 3) := by decide +kernel
theorem dX6_sameWrongs_61 : decode cX6_sameWrongs 61 = .ok (.goto (-56), 3) := by decide +kernel
theorem dX6_sameWrongs_64 : decode cX6_sameWrongs 64 = .ok (.iload_n 3, 1) := by decide +kernel
theorem dX6_sameWrongs_65 : decode cX6_sameWrongs 65 = .ok (.ireturn, 1) := by decide +kernel
theorem dX6_bothWrongs_0 : decode cX6_bothWrongs 0 = .ok (.iconst 0, 1) := by decide +kernel
theorem dX6_bothWrongs_1 : decode cX6_bothWrongs 1 = .ok (.istore_n 3, 1) := by decide +kernel
theorem dX6_bothWrongs_2 : decode cX6_bothWrongs 2 = .ok (.iconst 0, 1) := by decide +kernel
theorem dX6_bothWrongs_3 : decode cX6_bothWrongs 3 = .ok (.istore 4, 2) := by decide +kernel
theorem dX6_bothWrongs_5 : decode cX6_bothWrongs 5 = .ok (.iload 4, 2) := by decide +kernel
theorem dX6_bothWrongs_7 : decode cX6_bothWrongs 7 = .ok (.aload_n 0, 1) := by decide +kernel
theorem dX6_bothWrongs_8 : decode cX6_bothWrongs 8 = .ok (.getfield 23, 3) := by decide +kernel
theorem dX6_bothWrongs_11 : decode cX6_bothWrongs 11 = .ok (.getfield 39, 3) := by decide +kernel
theorem dX6_bothWrongs_14 : decode cX6_bothWrongs 14 = .ok (.if_icmp .ge 23, 3) := by decide +kernel
theorem dX6_bothWrongs_17 : decode cX6_bothWrongs 17 = .ok (.aload_n 0, 1) := by decide +kernel
theorem dX6_bothWrongs_18 : decode cX6_bothWrongs 18 = .ok (.iload_n 1, 1) := by decide +kernel
theorem dX6_bothWrongs_19 : decode cX6_bothWrongs 19 = .ok (.iload_n 2, 1) := by decide +kernel
theorem dX6_bothWrongs_20 : decode cX6_bothWrongs 20 = .ok (.iload 4, 2) := by decide +kernel
theorem dX6_bothWrongs_22 : decode cX6_bothWrongs 22 = .ok (.invokevirtual 44, 3) := by decide +kernel
theorem dX6_bothWrongs_25 : decode cX6_bothWrongs 25 = .ok (.ifCond .eq 6, 3) := by decide +kernel
theorem dX6_bothWrongs_28 : decode cX6_bothWrongs 28 = .ok (.iinc 3 1, 3) := by decide +kernel
theorem dX6_bothWrongs_31 : decode cX6_bothWrongs 31 = .ok (.iinc 4 1, 3) := by decide +kernel
theorem dX6_bothWrongs_34 : decode cX6_bothWrongs 34 = .ok (.goto (-29), 3) := by decide +kernel
theorem dX6_bothWrongs_37 : decode cX6_bothWrongs 37 = .ok (.iload_n 3, 1) := by decide +kernel
theorem dX6_bothWrongs_38 : decode cX6_bothWrongs 38 = .ok (.ireturn, 1) := by decide +kernel
theorem dX6_areOdd_0 : decode cX6_areOdd 0 = .ok (.aload_n 0, 1) := by decide +kernel
theorem dX6_areOdd_1 : decode cX6_areOdd 1 = .ok (.iload_n 1, 1) := by decide +kernel
theorem dX6_areOdd_2 : decode cX6_areOdd 2 = .ok (.iload_n 2, 1) := by decide +kernel
theorem dX6_areOdd_3 : decode cX6_areOdd 3 = .ok (.invokevirtual 54, 3) := by decide +kernel
theorem dX6_areOdd_6 : decode cX6_areOdd 6 = .ok (.ifCond .le 44, 3) := by decide +kernel
theorem dX6_areOdd_9 : decode cX6_areOdd 9 = .ok (.aload_n 0, 1) := by decide +kernel
theorem dX6_areOdd_10 : decode cX6_areOdd 10 = .ok (.iload_n 1, 1) := by decide +kernel
theorem dX6_areOdd_11 : decode cX6_areOdd 11 = .ok (.iload_n 2, 1) := by decide +kernel
theorem dX6_areOdd_12 : decode cX6_areOdd 12 = .ok (.invokevirtual 58, 3) := by decide +kernel
theorem dX6_areOdd_15 : decode cX6_areOdd 15 = .ok (.ifCond .eq 35, 3) := by decide +kernel
theorem dX6_areOdd_18 : decode cX6_areOdd 18 = .ok (.aload_n 0, 1) := by decide +kernel
theorem dX6_areOdd_19 : decode cX6_areOdd 19 = .ok (.getfield 35, 3) := by decide +kernel
theorem dX6_areOdd_22 : decode cX6_areOdd 22 = .ok (.getfield 62, 3) := by decide +kernel
theorem dX6_areOdd_25 : decode cX6_areOdd 25 = .ok (.ldc2_w 68, 3) := by decide +kernel
theorem dX6_areOdd_28 : decode cX6_areOdd 28 = .ok (.lmul, 1) := by decide +kernel
theorem dX6_areOdd_29 : decode cX6_areOdd 29 = .ok (.aload_n 0, 1) := by decide +kernel
theorem dX6_areOdd_30 : decode cX6_areOdd 30 = .ok (.getfield 9, 3) := by decide +kernel
theorem dX6_areOdd_33 : decode cX6_areOdd 33 = .ok (.i2l, 1) := by decide +kernel
theorem dX6_areOdd_34 : decode cX6_areOdd 34 = .ok (.aload_n 0, 1) := by decide +kernel
theorem dX6_areOdd_35 : decode cX6_areOdd 35 = .ok (.getfield 35, 3) := by decide +kernel
theorem dX6_areOdd_38 : decode cX6_areOdd 38 = .ok (.getfield 70, 3) := by decide +kernel
theorem dX6_areOdd_41 : decode cX6_areOdd 41 = .ok (.lmul, 1) := by decide +kernel
theorem dX6_areOdd_42 : decode cX6_areOdd 42 = .ok (.lcmp, 1) := by decide +kernel
theorem dX6_areOdd_43 : decode cX6_areOdd 43 = .ok (.ifCond .gt 7, 3) := by decide +kernel
theorem dX6_areOdd_46 : decode cX6_areOdd 46 = .ok (.iconst 1, 1) := by decide +kernel
theorem dX6_areOdd_47 : decode cX6_areOdd 47 = .ok (.goto 4, 3) := by decide +kernel
theorem dX6_areOdd_50 : decode cX6_areOdd 50 = .ok (.iconst 0, 1) := by decide +kernel
theorem dX6_areOdd_51 : decode cX6_areOdd 51 = .ok (.ireturn, 1) := by decide +kernel
theorem dX6_oddPairs_0 : decode cX6_oddPairs 0 = .ok (.iconst 0, 1) := by decide +kernel
theorem dX6_oddPairs_1 : decode cX6_oddPairs 1 = .ok (.istore_n 1, 1) := by decide +kernel
theorem dX6_oddPairs_2 : decode cX6_oddPairs 2 = .ok (.iconst 0, 1) := by decide +kernel
theorem dX6_oddPairs_3 : decode cX6_oddPairs 3 = .ok (.istore_n 2, 1) := by decide +kernel
theorem dX6_oddPairs_4 : decode cX6_oddPairs 4 = .ok (.iload_n 2, 1) := by decide +kernel
theorem dX6_oddPairs_5 : decode cX6_oddPairs 5 = .ok (.aload_n 0, 1) := by decide +kernel
theorem dX6_oddPairs_6 : decode cX6_oddPairs 6 = .ok (.getfield 27, 3) := by decide +kernel
theorem dX6_oddPairs_9 : decode cX6_oddPairs 9 = .ok (.getfield 73, 3) := by decide +kernel
theorem dX6_oddPairs_12 : decode cX6_oddPairs 12 = .ok (.if_icmp .ge 42, 3) := by decide +kernel
theorem dX6_oddPairs_15 : decode cX6_oddPairs 15 = .ok (.iload_n 2, 1) := by decide +kernel
theorem dX6_oddPairs_16 : decode cX6_oddPairs 16 = .ok (.iconst 1, 1) := by decide +kernel
theorem dX6_oddPairs_17 : decode cX6_oddPairs 17 = .ok (.iadd, 1) := by decide +kernel
theorem dX6_oddPairs_18 : decode cX6_oddPairs 18 = .ok (.istore_n 3, 1) := by decide +kernel
theorem dX6_oddPairs_19 : decode cX6_oddPairs 19 = .ok (.iload_n 3, 1) := by decide +kernel
theorem dX6_oddPairs_20 : decode cX6_oddPairs 20 = .ok (.aload_n 0, 1) := by decide +kernel
theorem dX6_oddPairs_21 : decode cX6_oddPairs 21 = .ok (.getfield 27, 3) := by decide +kernel
theorem dX6_oddPairs_24 : decode cX6_oddPairs 24 = .ok (.getfield 73, 3) := by decide +kernel
theorem dX6_oddPairs_27 : decode cX6_oddPairs 27 = .ok (.if_icmp .ge 21, 3) := by decide +kernel
theorem dX6_oddPairs_30 : decode cX6_oddPairs 30 = .ok (.aload_n 0, 1) := by decide +kernel
theorem dX6_oddPairs_31 : decode cX6_oddPairs 31 = .ok (.iload_n 2, 1) := by decide +kernel
theorem dX6_oddPairs_32 : decode cX6_oddPairs 32 = .ok (.iload_n 3, 1) := by decide +kernel
theorem dX6_oddPairs_33 : decode cX6_oddPairs 33 = .ok (.invokevirtual 78, 3) := by decide +kernel
theorem dX6_oddPairs_36 : decode cX6_oddPairs 36 = .ok (.ifCond .eq 6, 3) := by decide +kernel
theorem dX6_oddPairs_39 : decode cX6_oddPairs 39 = .ok (.iinc 1 1, 3) := by decide +kernel
theorem dX6_oddPairs_42 : decode cX6_oddPairs 42 = .ok (.iinc 3 1, 3) := by decide +kernel
theorem dX6_oddPairs_45 : decode cX6_oddPairs 45 = .ok (.goto (-26), 3) := by decide +kernel
theorem dX6_oddPairs_48 : decode cX6_oddPairs 48 = .ok (.iinc 2 1, 3) := by decide +kernel
theorem dX6_oddPairs_51 : decode cX6_oddPairs 51 = .ok (.goto (-47), 3) := by decide +kernel
theorem dX6_oddPairs_54 : decode cX6_oddPairs 54 = .ok (.iload_n 1, 1) := by decide +kernel
theorem dX6_oddPairs_55 : decode cX6_oddPairs 55 = .ok (.ireturn, 1) := by decide +kernel
theorem dX6_besideInAll_0 : decode cX6_besideInAll 0 = .ok (.iconst 0, 1) := by decide +kernel
theorem dX6_besideInAll_1 : decode cX6_besideInAll 1 = .ok (.istore_n 1, 1) := by decide +kernel
theorem dX6_besideInAll_2 : decode cX6_besideInAll 2 = .ok (.iconst 0, 1) := by decide +kernel
theorem dX6_besideInAll_3 : decode cX6_besideInAll 3 = .ok (.istore_n 2, 1) := by decide +kernel
theorem dX6_besideInAll_4 : decode cX6_besideInAll 4 = .ok (.iload_n 2, 1) := by decide +kernel
theorem dX6_besideInAll_5 : decode cX6_besideInAll 5 = .ok (.aload_n 0, 1) := by decide +kernel
theorem dX6_besideInAll_6 : decode cX6_besideInAll 6 = .ok (.getfield 27, 3) := by decide +kernel
theorem dX6_besideInAll_9 : decode cX6_besideInAll 9 = .ok (.getfield 73, 3) := by decide +kernel
theorem dX6_besideInAll_12 : decode cX6_besideInAll 12 = .ok (.if_icmp .ge 51, 3) := by decide +kernel
theorem dX6_besideInAll_15 : decode cX6_besideInAll 15 = .ok (.iload_n 2, 1) := by decide +kernel
theorem dX6_besideInAll_16 : decode cX6_besideInAll 16 = .ok (.iconst 1, 1) := by decide +kernel
theorem dX6_besideInAll_17 : decode cX6_besideInAll 17 = .ok (.iadd, 1) := by decide +kernel
theorem dX6_besideInAll_18 : decode cX6_besideInAll 18 = .ok (.istore_n 3, 1) := by decide +kernel
theorem dX6_besideInAll_19 : decode cX6_besideInAll 19 = .ok (.iload_n 3, 1) := by decide +kernel
theorem dX6_besideInAll_20 : decode cX6_besideInAll 20 = .ok (.aload_n 0, 1) := by decide +kernel
theorem dX6_besideInAll_21 : decode cX6_besideInAll 21 = .ok (.getfield 27, 3) := by decide +kernel
theorem dX6_besideInAll_24 : decode cX6_besideInAll 24 = .ok (.getfield 73, 3) := by decide +kernel
theorem dX6_besideInAll_27 : decode cX6_besideInAll 27 = .ok (.if_icmp .ge 30, 3) := by decide +kernel
theorem dX6_besideInAll_30 : decode cX6_besideInAll 30 = .ok (.aload_n 0, 1) := by decide +kernel
theorem dX6_besideInAll_31 : decode cX6_besideInAll 31 = .ok (.getfield 27, 3) := by decide +kernel
theorem dX6_besideInAll_34 : decode cX6_besideInAll 34 = .ok (.iload_n 2, 1) := by decide +kernel
theorem dX6_besideInAll_35 : decode cX6_besideInAll 35 = .ok (.iload_n 3, 1) := by decide +kernel
theorem dX6_besideInAll_36 : decode cX6_besideInAll 36 = .ok (.invokevirtual 81, 3) := by decide +kernel
theorem dX6_besideInAll_39 : decode cX6_besideInAll 39 = .ok (.ifCond .eq 12, 3) := by decide +kernel
theorem dX6_besideInAll_42 : decode cX6_besideInAll 42 = .ok (.iload_n 1, 1) := by decide +kernel
theorem dX6_besideInAll_43 : decode cX6_besideInAll 43 = .ok (.aload_n 0, 1) := by decide +kernel
theorem dX6_besideInAll_44 : decode cX6_besideInAll 44 = .ok (.iload_n 2, 1) := by decide +kernel
theorem dX6_besideInAll_45 : decode cX6_besideInAll 45 = .ok (.iload_n 3, 1) := by decide +kernel
theorem dX6_besideInAll_46 : decode cX6_besideInAll 46 = .ok (.invokevirtual 54, 3) := by decide +kernel
theorem dX6_besideInAll_49 : decode cX6_besideInAll 49 = .ok (.iadd, 1) := by decide +kernel
theorem dX6_besideInAll_50 : decode cX6_besideInAll 50 = .ok (.istore_n 1, 1) := by decide +kernel
theorem dX6_besideInAll_51 : decode cX6_besideInAll 51 = .ok (.iinc 3 1, 3) := by decide +kernel
theorem dX6_besideInAll_54 : decode cX6_besideInAll 54 = .ok (.goto (-35), 3) := by decide +kernel
theorem dX6_besideInAll_57 : decode cX6_besideInAll 57 = .ok (.iinc 2 1, 3) := by decide +kernel
theorem dX6_besideInAll_60 : decode cX6_besideInAll 60 = .ok (.goto (-56), 3) := by decide +kernel
theorem dX6_besideInAll_63 : decode cX6_besideInAll 63 = .ok (.iload_n 1, 1) := by decide +kernel
theorem dX6_besideInAll_64 : decode cX6_besideInAll 64 = .ok (.ireturn, 1) := by decide +kernel
theorem dX6_reckonChance_0 : decode cX6_reckonChance 0 = .ok (.aload_n 0, 1) := by decide +kernel
theorem dX6_reckonChance_1 : decode cX6_reckonChance 1 = .ok (.iload_n 1, 1) := by decide +kernel
theorem dX6_reckonChance_2 : decode cX6_reckonChance 2 = .ok (.iload_n 2, 1) := by decide +kernel
theorem dX6_reckonChance_3 : decode cX6_reckonChance 3 = .ok (.invokevirtual 84, 3) := by decide +kernel
theorem dX6_reckonChance_6 : decode cX6_reckonChance 6 = .ok (.bipush 7, 2) := by decide +kernel
theorem dX6_reckonChance_8 : decode cX6_reckonChance 8 = .ok (.if_icmp .le 5, 3) := by decide +kernel
theorem dX6_reckonChance_11 : decode cX6_reckonChance 11 = .ok (.iconst 0, 1) := by decide +kernel
theorem dX6_reckonChance_12 : decode cX6_reckonChance 12 = .ok (.ireturn, 1) := by decide +kernel
theorem dX6_reckonChance_13 : decode cX6_reckonChance 13 = .ok (.aload_n 0, 1) := by decide +kernel
theorem dX6_reckonChance_14 : decode cX6_reckonChance 14 = .ok (.getfield 19, 3) := by decide +kernel
theorem dX6_reckonChance_17 : decode cX6_reckonChance 17 = .ok (.lconst 0, 1) := by decide +kernel
theorem dX6_reckonChance_18 : decode cX6_reckonChance 18 = .ok (.invokestatic 87, 3) := by decide +kernel
theorem dX6_reckonChance_21 : decode cX6_reckonChance 21 = .ok (.aload_n 0, 1) := by decide +kernel
theorem dX6_reckonChance_22 : decode cX6_reckonChance 22 = .ok (.getfield 19, 3) := by decide +kernel
theorem dX6_reckonChance_25 : decode cX6_reckonChance 25 = .ok (.iconst 0, 1) := by decide +kernel
theorem dX6_reckonChance_26 : decode cX6_reckonChance 26 = .ok (.lconst 1, 1) := by decide +kernel
theorem dX6_reckonChance_27 : decode cX6_reckonChance 27 = .ok (.lastore, 1) := by decide +kernel
theorem dX6_reckonChance_28 : decode cX6_reckonChance 28 = .ok (.lconst 1, 1) := by decide +kernel
theorem dX6_reckonChance_29 : decode cX6_reckonChance 29 = .ok (.lstore_n 3, 1) := by decide +kernel
theorem dX6_reckonChance_30 : decode cX6_reckonChance 30 = .ok (.iconst 0, 1) := by decide +kernel
theorem dX6_reckonChance_31 : decode cX6_reckonChance 31 = .ok (.istore 5, 2) := by decide +kernel
theorem dX6_reckonChance_33 : decode cX6_reckonChance 33 = .ok (.iconst 0, 1) := by decide +kernel
theorem dX6_reckonChance_34 : decode cX6_reckonChance 34 = .ok (.istore 6, 2) := by decide +kernel
theorem dX6_reckonChance_36 : decode cX6_reckonChance 36 = .ok (.iload 6, 2) := by decide +kernel
theorem dX6_reckonChance_38 : decode cX6_reckonChance 38 = .ok (.aload_n 0, 1) := by decide +kernel
theorem dX6_reckonChance_39 : decode cX6_reckonChance 39 = .ok (.getfield 23, 3) := by decide +kernel
theorem dX6_reckonChance_42 : decode cX6_reckonChance 42 = .ok (.getfield 39, 3) := by decide +kernel
theorem dX6_reckonChance_45 : decode cX6_reckonChance 45 = .ok (.if_icmp .ge 36, 3) := by decide +kernel
theorem dX6_reckonChance_48 : decode cX6_reckonChance 48 = .ok (.aload_n 0, 1) := by decide +kernel
theorem dX6_reckonChance_49 : decode cX6_reckonChance 49 = .ok (.iload_n 1, 1) := by decide +kernel
theorem dX6_reckonChance_50 : decode cX6_reckonChance 50 = .ok (.iload_n 2, 1) := by decide +kernel
theorem dX6_reckonChance_51 : decode cX6_reckonChance 51 = .ok (.iload 6, 2) := by decide +kernel
theorem dX6_reckonChance_53 : decode cX6_reckonChance 53 = .ok (.invokevirtual 44, 3) := by decide +kernel
theorem dX6_reckonChance_56 : decode cX6_reckonChance 56 = .ok (.ifCond .eq 19, 3) := by decide +kernel
theorem dX6_reckonChance_59 : decode cX6_reckonChance 59 = .ok (.lload_n 3, 1) := by decide +kernel
theorem dX6_reckonChance_60 : decode cX6_reckonChance 60 = .ok (.aload_n 0, 1) := by decide +kernel
theorem dX6_reckonChance_61 : decode cX6_reckonChance 61 = .ok (.iload_n 1, 1) := by decide +kernel
theorem dX6_reckonChance_62 : decode cX6_reckonChance 62 = .ok (.iload_n 2, 1) := by decide +kernel
theorem dX6_reckonChance_63 : decode cX6_reckonChance 63 = .ok (.iload 6, 2) := by decide +kernel
theorem dX6_reckonChance_65 : decode cX6_reckonChance 65 = .ok (.iload 5, 2) := by decide +kernel
theorem dX6_reckonChance_67 : decode cX6_reckonChance 67 = .ok (.invokevirtual 93, 3) := by decide +kernel
theorem dX6_reckonChance_70 : decode cX6_reckonChance 70 = .ok (.lmul, 1) := by decide +kernel
theorem dX6_reckonChance_71 : decode cX6_reckonChance 71 = .ok (.lstore_n 3, 1) := by decide +kernel
theorem dX6_reckonChance_72 : decode cX6_reckonChance 72 = .ok (.iinc 5 1, 3) := by decide +kernel
theorem dX6_reckonChance_75 : decode cX6_reckonChance 75 = .ok (.iinc 6 1, 3) := by decide +kernel
theorem dX6_reckonChance_78 : decode cX6_reckonChance 78 = .ok (.goto (-42), 3) := by decide +kernel
theorem dX6_reckonChance_81 : decode cX6_reckonChance 81 = .ok (.lconst 0, 1) := by decide +kernel
theorem dX6_reckonChance_82 : decode cX6_reckonChance 82 = .ok (.lstore 6, 2) := by decide +kernel
theorem dX6_reckonChance_84 : decode cX6_reckonChance 84 = .ok (.aload_n 0, 1) := by decide +kernel
theorem dX6_reckonChance_85 : decode cX6_reckonChance 85 = .ok (.iload_n 1, 1) := by decide +kernel
theorem dX6_reckonChance_86 : decode cX6_reckonChance 86 = .ok (.iload_n 2, 1) := by decide +kernel
theorem dX6_reckonChance_87 : decode cX6_reckonChance 87 = .ok (.invokevirtual 54, 3) := by decide +kernel
theorem dX6_reckonChance_90 : decode cX6_reckonChance 90 = .ok (.istore 8, 2) := by decide +kernel
theorem dX6_reckonChance_92 : decode cX6_reckonChance 92 = .ok (.iload 8, 2) := by decide +kernel
theorem dX6_reckonChance_94 : decode cX6_reckonChance 94 = .ok (.iload 5, 2) := by decide +kernel
theorem dX6_reckonChance_96 : decode cX6_reckonChance 96 = .ok (.if_icmp .gt 21, 3) := by decide +kernel
theorem dX6_reckonChance_99 : decode cX6_reckonChance 99 = .ok (.lload 6, 2) := by decide +kernel
theorem dX6_reckonChance_101 : decode cX6_reckonChance 101 = .ok (.aload_n 0, 1) := by decide +kernel
theorem dX6_reckonChance_102 : decode cX6_reckonChance 102 = .ok (.getfield 19, 3) := by decide +kernel
theorem dX6_reckonChance_105 : decode cX6_reckonChance 105 = .ok (.iload 8, 2) := by decide +kernel
theorem dX6_reckonChance_107 : decode cX6_reckonChance 107 = .ok (.laload, 1) := by decide +kernel
theorem dX6_reckonChance_108 : decode cX6_reckonChance 108 = .ok (.ladd, 1) := by decide +kernel
theorem dX6_reckonChance_109 : decode cX6_reckonChance 109 = .ok (.lstore 6, 2) := by decide +kernel
theorem dX6_reckonChance_111 : decode cX6_reckonChance 111 = .ok (.iinc 8 1, 3) := by decide +kernel
theorem dX6_reckonChance_114 : decode cX6_reckonChance 114 = .ok (.goto (-22), 3) := by decide +kernel
theorem dX6_reckonChance_117 : decode cX6_reckonChance 117 = .ok (.aload_n 0, 1) := by decide +kernel
theorem dX6_reckonChance_118 : decode cX6_reckonChance 118 = .ok (.getfield 35, 3) := by decide +kernel
theorem dX6_reckonChance_121 : decode cX6_reckonChance 121 = .ok (.lload 6, 2) := by decide +kernel
theorem dX6_reckonChance_123 : decode cX6_reckonChance 123 = .ok (.lload_n 3, 1) := by decide +kernel
theorem dX6_reckonChance_124 : decode cX6_reckonChance 124 = .ok (.invokevirtual 97, 3) := by decide +kernel
theorem dX6_reckonChance_127 : decode cX6_reckonChance 127 = .ok (.iconst 1, 1) := by decide +kernel
theorem dX6_reckonChance_128 : decode cX6_reckonChance 128 = .ok (.ireturn, 1) := by decide +kernel
theorem dX6_meet_0 : decode cX6_meet 0 = .ok (.aload_n 0, 1) := by decide +kernel
theorem dX6_meet_1 : decode cX6_meet 1 = .ok (.iload_n 1, 1) := by decide +kernel
theorem dX6_meet_2 : decode cX6_meet 2 = .ok (.iload_n 2, 1) := by decide +kernel
theorem dX6_meet_3 : decode cX6_meet 3 = .ok (.iload_n 3, 1) := by decide +kernel
theorem dX6_meet_4 : decode cX6_meet 4 = .ok (.invokevirtual 101, 3) := by decide +kernel
theorem dX6_meet_7 : decode cX6_meet 7 = .ok (.lconst 0, 1) := by decide +kernel
theorem dX6_meet_8 : decode cX6_meet 8 = .ok (.lstore 5, 2) := by decide +kernel
theorem dX6_meet_10 : decode cX6_meet 10 = .ok (.iconst 0, 1) := by decide +kernel
theorem dX6_meet_11 : decode cX6_meet 11 = .ok (.istore 7, 2) := by decide +kernel
theorem dX6_meet_13 : decode cX6_meet 13 = .ok (.iconst 1, 1) := by decide +kernel
theorem dX6_meet_14 : decode cX6_meet 14 = .ok (.istore 8, 2) := by decide +kernel
theorem dX6_meet_16 : decode cX6_meet 16 = .ok (.iload 8, 2) := by decide +kernel
theorem dX6_meet_18 : decode cX6_meet 18 = .ok (.iconst 5, 1) := by decide +kernel
theorem dX6_meet_19 : decode cX6_meet 19 = .ok (.if_icmp .gt 52, 3) := by decide +kernel
theorem dX6_meet_22 : decode cX6_meet 22 = .ok (.iload 8, 2) := by decide +kernel
theorem dX6_meet_24 : decode cX6_meet 24 = .ok (.aload_n 0, 1) := by decide +kernel
theorem dX6_meet_25 : decode cX6_meet 25 = .ok (.getfield 23, 3) := by decide +kernel
theorem dX6_meet_28 : decode cX6_meet 28 = .ok (.getfield 105, 3) := by decide +kernel
theorem dX6_meet_31 : decode cX6_meet 31 = .ok (.iload_n 3, 1) := by decide +kernel
theorem dX6_meet_32 : decode cX6_meet 32 = .ok (.iaload, 1) := by decide +kernel
theorem dX6_meet_33 : decode cX6_meet 33 = .ok (.if_icmp .eq 32, 3) := by decide +kernel
theorem dX6_meet_36 : decode cX6_meet 36 = .ok (.iconst 1, 1) := by decide +kernel
theorem dX6_meet_37 : decode cX6_meet 37 = .ok (.aload_n 0, 1) := by decide +kernel
theorem dX6_meet_38 : decode cX6_meet 38 = .ok (.getfield 15, 3) := by decide +kernel
theorem dX6_meet_41 : decode cX6_meet 41 = .ok (.iload 8, 2) := by decide +kernel
theorem dX6_meet_43 : decode cX6_meet 43 = .ok (.iaload, 1) := by decide +kernel
theorem dX6_meet_44 : decode cX6_meet 44 = .ok (.iadd, 1) := by decide +kernel
theorem dX6_meet_45 : decode cX6_meet 45 = .ok (.istore 9, 2) := by decide +kernel
theorem dX6_meet_47 : decode cX6_meet 47 = .ok (.lload 5, 2) := by decide +kernel
theorem dX6_meet_49 : decode cX6_meet 49 = .ok (.iload 9, 2) := by decide +kernel
theorem dX6_meet_51 : decode cX6_meet 51 = .ok (.iload 9, 2) := by decide +kernel
theorem dX6_meet_53 : decode cX6_meet 53 = .ok (.imul, 1) := by decide +kernel
theorem dX6_meet_54 : decode cX6_meet 54 = .ok (.i2l, 1) := by decide +kernel
theorem dX6_meet_55 : decode cX6_meet 55 = .ok (.ladd, 1) := by decide +kernel
theorem dX6_meet_56 : decode cX6_meet 56 = .ok (.lstore 5, 2) := by decide +kernel
theorem dX6_meet_58 : decode cX6_meet 58 = .ok (.iload 7, 2) := by decide +kernel
theorem dX6_meet_60 : decode cX6_meet 60 = .ok (.iload 9, 2) := by decide +kernel
theorem dX6_meet_62 : decode cX6_meet 62 = .ok (.iadd, 1) := by decide +kernel
theorem dX6_meet_63 : decode cX6_meet 63 = .ok (.istore 7, 2) := by decide +kernel
theorem dX6_meet_65 : decode cX6_meet 65 = .ok (.iinc 8 1, 3) := by decide +kernel
theorem dX6_meet_68 : decode cX6_meet 68 = .ok (.goto (-52), 3) := by decide +kernel
theorem dX6_meet_71 : decode cX6_meet 71 = .ok (.iload 7, 2) := by decide +kernel
theorem dX6_meet_73 : decode cX6_meet 73 = .ok (.iload 7, 2) := by decide +kernel
theorem dX6_meet_75 : decode cX6_meet 75 = .ok (.imul, 1) := by decide +kernel
theorem dX6_meet_76 : decode cX6_meet 76 = .ok (.i2l, 1) := by decide +kernel
theorem dX6_meet_77 : decode cX6_meet 77 = .ok (.lstore 8, 2) := by decide +kernel
theorem dX6_meet_79 : decode cX6_meet 79 = .ok (.iload 4, 2) := by decide +kernel
theorem dX6_meet_81 : decode cX6_meet 81 = .ok (.bipush 6, 2) := by decide +kernel
theorem dX6_meet_83 : decode cX6_meet 83 = .ok (.invokestatic 108, 3) := by decide +kernel
theorem dX6_meet_86 : decode cX6_meet 86 = .ok (.istore 10, 2) := by decide +kernel
theorem dX6_meet_88 : decode cX6_meet 88 = .ok (.iload 10, 2) := by decide +kernel
theorem dX6_meet_90 : decode cX6_meet 90 = .ok (.ifCond .lt 46, 3) := by decide +kernel
theorem dX6_meet_93 : decode cX6_meet 93 = .ok (.aload_n 0, 1) := by decide +kernel
theorem dX6_meet_94 : decode cX6_meet 94 = .ok (.getfield 19, 3) := by decide +kernel
theorem dX6_meet_97 : decode cX6_meet 97 = .ok (.iload 10, 2) := by decide +kernel
theorem dX6_meet_99 : decode cX6_meet 99 = .ok (.iconst 1, 1) := by decide +kernel
theorem dX6_meet_100 : decode cX6_meet 100 = .ok (.iadd, 1) := by decide +kernel
theorem dX6_meet_101 : decode cX6_meet 101 = .ok (.dup2, 1) := by decide +kernel
theorem dX6_meet_102 : decode cX6_meet 102 = .ok (.laload, 1) := by decide +kernel
theorem dX6_meet_103 : decode cX6_meet 103 = .ok (.aload_n 0, 1) := by decide +kernel
theorem dX6_meet_104 : decode cX6_meet 104 = .ok (.getfield 19, 3) := by decide +kernel
theorem dX6_meet_107 : decode cX6_meet 107 = .ok (.iload 10, 2) := by decide +kernel
theorem dX6_meet_109 : decode cX6_meet 109 = .ok (.laload, 1) := by decide +kernel
theorem dX6_meet_110 : decode cX6_meet 110 = .ok (.lload 5, 2) := by decide +kernel
theorem dX6_meet_112 : decode cX6_meet 112 = .ok (.lmul, 1) := by decide +kernel
theorem dX6_meet_113 : decode cX6_meet 113 = .ok (.ladd, 1) := by decide +kernel
theorem dX6_meet_114 : decode cX6_meet 114 = .ok (.lastore, 1) := by decide +kernel
theorem dX6_meet_115 : decode cX6_meet 115 = .ok (.aload_n 0, 1) := by decide +kernel
theorem dX6_meet_116 : decode cX6_meet 116 = .ok (.getfield 19, 3) := by decide +kernel
theorem dX6_meet_119 : decode cX6_meet 119 = .ok (.iload 10, 2) := by decide +kernel
theorem dX6_meet_121 : decode cX6_meet 121 = .ok (.dup2, 1) := by decide +kernel
theorem dX6_meet_122 : decode cX6_meet 122 = .ok (.laload, 1) := by decide +kernel
theorem dX6_meet_123 : decode cX6_meet 123 = .ok (.lload 8, 2) := by decide +kernel
theorem dX6_meet_125 : decode cX6_meet 125 = .ok (.lload 5, 2) := by decide +kernel
theorem dX6_meet_127 : decode cX6_meet 127 = .ok (.lsub, 1) := by decide +kernel
theorem dX6_meet_128 : decode cX6_meet 128 = .ok (.lmul, 1) := by decide +kernel
theorem dX6_meet_129 : decode cX6_meet 129 = .ok (.lastore, 1) := by decide +kernel
theorem dX6_meet_130 : decode cX6_meet 130 = .ok (.iinc 10 (-1), 3) := by decide +kernel
theorem dX6_meet_133 : decode cX6_meet 133 = .ok (.goto (-45), 3) := by decide +kernel
theorem dX6_meet_136 : decode cX6_meet 136 = .ok (.lload 8, 2) := by decide +kernel
theorem dX6_meet_138 : decode cX6_meet 138 = .ok (.lreturn, 1) := by decide +kernel
theorem dX6_countChoosers_0 : decode cX6_countChoosers 0 = .ok (.aload_n 0, 1) := by decide +kernel
theorem dX6_countChoosers_1 : decode cX6_countChoosers 1 = .ok (.getfield 15, 3) := by decide +kernel
theorem dX6_countChoosers_4 : decode cX6_countChoosers 4 = .ok (.iconst 0, 1) := by decide +kernel
theorem dX6_countChoosers_5 : decode cX6_countChoosers 5 = .ok (.invokestatic 113, 3) := by decide +kernel
theorem dX6_countChoosers_8 : decode cX6_countChoosers 8 = .ok (.iconst 0, 1) := by decide +kernel
theorem dX6_countChoosers_9 : decode cX6_countChoosers 9 = .ok (.istore 4, 2) := by decide +kernel
theorem dX6_countChoosers_11 : decode cX6_countChoosers 11 = .ok (.iload 4, 2) := by decide +kernel
theorem dX6_countChoosers_13 : decode cX6_countChoosers 13 = .ok (.aload_n 0, 1) := by decide +kernel
theorem dX6_countChoosers_14 : decode cX6_countChoosers 14 = .ok (.getfield 27, 3) := by decide +kernel
theorem dX6_countChoosers_17 : decode cX6_countChoosers 17 = .ok (.getfield 73, 3) := by decide +kernel
theorem dX6_countChoosers_20 : decode cX6_countChoosers 20 = .ok (.if_icmp .ge 42, 3) := by decide +kernel
theorem dX6_countChoosers_23 : decode cX6_countChoosers 23 = .ok (.iload 4, 2) := by decide +kernel
theorem dX6_countChoosers_25 : decode cX6_countChoosers 25 = .ok (.iload_n 1, 1) := by decide +kernel
theorem dX6_countChoosers_26 : decode cX6_countChoosers 26 = .ok (.if_icmp .eq 30, 3) := by decide +kernel
theorem dX6_countChoosers_29 : decode cX6_countChoosers 29 = .ok (.iload 4, 2) := by decide +kernel
theorem dX6_countChoosers_31 : decode cX6_countChoosers 31 = .ok (.iload_n 2, 1) := by decide +kernel
theorem dX6_countChoosers_32 : decode cX6_countChoosers 32 = .ok (.if_icmp .eq 24, 3) := by decide +kernel
theorem dX6_countChoosers_35 : decode cX6_countChoosers 35 = .ok (.aload_n 0, 1) := by decide +kernel
theorem dX6_countChoosers_36 : decode cX6_countChoosers 36 = .ok (.getfield 15, 3) := by decide +kernel
theorem dX6_countChoosers_39 : decode cX6_countChoosers 39 = .ok (.aload_n 0, 1) := by decide +kernel
theorem dX6_countChoosers_40 : decode cX6_countChoosers 40 = .ok (.getfield 31, 3) := by decide +kernel
theorem dX6_countChoosers_43 : decode cX6_countChoosers 43 = .ok (.getfield 48, 3) := by decide +kernel
theorem dX6_countChoosers_46 : decode cX6_countChoosers 46 = .ok (.iload 4, 2) := by decide +kernel
theorem dX6_countChoosers_48 : decode cX6_countChoosers 48 = .ok (.aaload, 1) := by decide +kernel
theorem dX6_countChoosers_49 : decode cX6_countChoosers 49 = .ok (.iload_n 3, 1) := by decide +kernel
theorem dX6_countChoosers_50 : decode cX6_countChoosers 50 = .ok (.iaload, 1) := by decide +kernel
theorem dX6_countChoosers_51 : decode cX6_countChoosers 51 = .ok (.dup2, 1) := by decide +kernel
theorem dX6_countChoosers_52 : decode cX6_countChoosers 52 = .ok (.iaload, 1) := by decide +kernel
theorem dX6_countChoosers_53 : decode cX6_countChoosers 53 = .ok (.iconst 1, 1) := by decide +kernel
theorem dX6_countChoosers_54 : decode cX6_countChoosers 54 = .ok (.iadd, 1) := by decide +kernel
theorem dX6_countChoosers_55 : decode cX6_countChoosers 55 = .ok (.iastore, 1) := by decide +kernel
theorem dX6_countChoosers_56 : decode cX6_countChoosers 56 = .ok (.iinc 4 1, 3) := by decide +kernel
theorem dX6_countChoosers_59 : decode cX6_countChoosers 59 = .ok (.goto (-48), 3) := by decide +kernel
theorem dX6_countChoosers_62 : decode cX6_countChoosers 62 = .ok (.return_, 1) := by decide +kernel
theorem dX6_areBothWrong_0 : decode cX6_areBothWrong 0 = .ok (.aload_n 0, 1) := by decide +kernel
theorem dX6_areBothWrong_1 : decode cX6_areBothWrong 1 = .ok (.getfield 23, 3) := by decide +kernel
theorem dX6_areBothWrong_4 : decode cX6_areBothWrong 4 = .ok (.getfield 105, 3) := by decide +kernel
theorem dX6_areBothWrong_7 : decode cX6_areBothWrong 7 = .ok (.iload_n 3, 1) := by decide +kernel
theorem dX6_areBothWrong_8 : decode cX6_areBothWrong 8 = .ok (.iaload, 1) := by decide +kernel
theorem dX6_areBothWrong_9 : decode cX6_areBothWrong 9 = .ok (.istore 4, 2) := by decide +kernel
theorem dX6_areBothWrong_11 : decode cX6_areBothWrong 11 = .ok (.aload_n 0, 1) := by decide +kernel
theorem dX6_areBothWrong_12 : decode cX6_areBothWrong 12 = .ok (.getfield 31, 3) := by decide +kernel
theorem dX6_areBothWrong_15 : decode cX6_areBothWrong 15 = .ok (.getfield 48, 3) := by decide +kernel
theorem dX6_areBothWrong_18 : decode cX6_areBothWrong 18 = .ok (.iload_n 1, 1) := by decide +kernel
theorem dX6_areBothWrong_19 : decode cX6_areBothWrong 19 = .ok (.aaload, 1) := by decide +kernel
theorem dX6_areBothWrong_20 : decode cX6_areBothWrong 20 = .ok (.iload_n 3, 1) := by decide +kernel
theorem dX6_areBothWrong_21 : decode cX6_areBothWrong 21 = .ok (.iaload, 1) := by decide +kernel
theorem dX6_areBothWrong_22 : decode cX6_areBothWrong 22 = .ok (.istore 5, 2) := by decide +kernel
theorem dX6_areBothWrong_24 : decode cX6_areBothWrong 24 = .ok (.aload_n 0, 1) := by decide +kernel
theorem dX6_areBothWrong_25 : decode cX6_areBothWrong 25 = .ok (.getfield 31, 3) := by decide +kernel
theorem dX6_areBothWrong_28 : decode cX6_areBothWrong 28 = .ok (.getfield 48, 3) := by decide +kernel
theorem dX6_areBothWrong_31 : decode cX6_areBothWrong 31 = .ok (.iload_n 2, 1) := by decide +kernel
theorem dX6_areBothWrong_32 : decode cX6_areBothWrong 32 = .ok (.aaload, 1) := by decide +kernel
theorem dX6_areBothWrong_33 : decode cX6_areBothWrong 33 = .ok (.iload_n 3, 1) := by decide +kernel
theorem dX6_areBothWrong_34 : decode cX6_areBothWrong 34 = .ok (.iaload, 1) := by decide +kernel
theorem dX6_areBothWrong_35 : decode cX6_areBothWrong 35 = .ok (.istore 6, 2) := by decide +kernel
theorem dX6_areBothWrong_37 : decode cX6_areBothWrong 37 = .ok (.iload 4, 2) := by decide +kernel
theorem dX6_areBothWrong_39 : decode cX6_areBothWrong 39 = .ok (.ifCond .eq 31, 3) := by decide +kernel
theorem dX6_areBothWrong_42 : decode cX6_areBothWrong 42 = .ok (.iload 5, 2) := by decide +kernel
theorem dX6_areBothWrong_44 : decode cX6_areBothWrong 44 = .ok (.ifCond .eq 26, 3) := by decide +kernel
theorem dX6_areBothWrong_47 : decode cX6_areBothWrong 47 = .ok (.iload 6, 2) := by decide +kernel
theorem dX6_areBothWrong_49 : decode cX6_areBothWrong 49 = .ok (.ifCond .eq 21, 3) := by decide +kernel
theorem dX6_areBothWrong_52 : decode cX6_areBothWrong 52 = .ok (.iload 5, 2) := by decide +kernel
theorem dX6_areBothWrong_54 : decode cX6_areBothWrong 54 = .ok (.iload 4, 2) := by decide +kernel
theorem dX6_areBothWrong_56 : decode cX6_areBothWrong 56 = .ok (.if_icmp .eq 14, 3) := by decide +kernel
theorem dX6_areBothWrong_59 : decode cX6_areBothWrong 59 = .ok (.iload 6, 2) := by decide +kernel
theorem dX6_areBothWrong_61 : decode cX6_areBothWrong 61 = .ok (.iload 4, 2) := by decide +kernel
theorem dX6_areBothWrong_63 : decode cX6_areBothWrong 63 = .ok (.if_icmp .eq 7, 3) := by decide +kernel
theorem dX6_areBothWrong_66 : decode cX6_areBothWrong 66 = .ok (.iconst 1, 1) := by decide +kernel
theorem dX6_areBothWrong_67 : decode cX6_areBothWrong 67 = .ok (.goto 4, 3) := by decide +kernel
theorem dX6_areBothWrong_70 : decode cX6_areBothWrong 70 = .ok (.iconst 0, 1) := by decide +kernel
theorem dX6_areBothWrong_71 : decode cX6_areBothWrong 71 = .ok (.ireturn, 1) := by decide +kernel
theorem dX7_init_0 : decode cX7_init 0 = .ok (.aload_n 0, 1) := by decide +kernel
theorem dX7_init_1 : decode cX7_init 1 = .ok (.invokespecial 3, 3) := by decide +kernel
theorem dX7_init_4 : decode cX7_init 4 = .ok (.aload_n 0, 1) := by decide +kernel
theorem dX7_init_5 : decode cX7_init 5 = .ok (.iconst 0, 1) := by decide +kernel
theorem dX7_init_6 : decode cX7_init 6 = .ok (.putfield 9, 3) := by decide +kernel
theorem dX7_init_9 : decode cX7_init 9 = .ok (.aload_n 0, 1) := by decide +kernel
theorem dX7_init_10 : decode cX7_init 10 = .ok (.bipush 10, 2) := by decide +kernel
theorem dX7_init_12 : decode cX7_init 12 = .ok (.newarray .int, 2) := by decide +kernel
theorem dX7_init_14 : decode cX7_init 14 = .ok (.putfield 15, 3) := by decide +kernel
theorem dX7_init_17 : decode cX7_init 17 = .ok (.aload_n 0, 1) := by decide +kernel
theorem dX7_init_18 : decode cX7_init 18 = .ok (.bipush 10, 2) := by decide +kernel
theorem dX7_init_20 : decode cX7_init 20 = .ok (.newarray .int, 2) := by decide +kernel
theorem dX7_init_22 : decode cX7_init 22 = .ok (.putfield 19, 3) := by decide +kernel
theorem dX7_init_25 : decode cX7_init 25 = .ok (.return_, 1) := by decide +kernel
theorem dX7_isTaken_0 : decode cX7_isTaken 0 = .ok (.iconst 0, 1) := by decide +kernel
theorem dX7_isTaken_1 : decode cX7_isTaken 1 = .ok (.istore_n 3, 1) := by decide +kernel
theorem dX7_isTaken_2 : decode cX7_isTaken 2 = .ok (.iload_n 3, 1) := by decide +kernel
theorem dX7_isTaken_3 : decode cX7_isTaken 3 = .ok (.aload_n 0, 1) := by decide +kernel
theorem dX7_isTaken_4 : decode cX7_isTaken 4 = .ok (.getfield 9, 3) := by decide +kernel
theorem dX7_isTaken_7 : decode cX7_isTaken 7 = .ok (.if_icmp .ge 31, 3) := by decide +kernel
theorem dX7_isTaken_10 : decode cX7_isTaken 10 = .ok (.aload_n 0, 1) := by decide +kernel
theorem dX7_isTaken_11 : decode cX7_isTaken 11 = .ok (.getfield 15, 3) := by decide +kernel
theorem dX7_isTaken_14 : decode cX7_isTaken 14 = .ok (.iload_n 3, 1) := by decide +kernel
theorem dX7_isTaken_15 : decode cX7_isTaken 15 = .ok (.iaload, 1) := by decide +kernel
theorem dX7_isTaken_16 : decode cX7_isTaken 16 = .ok (.iload_n 1, 1) := by decide +kernel
theorem dX7_isTaken_17 : decode cX7_isTaken 17 = .ok (.if_icmp .ne 15, 3) := by decide +kernel
theorem dX7_isTaken_20 : decode cX7_isTaken 20 = .ok (.aload_n 0, 1) := by decide +kernel
theorem dX7_isTaken_21 : decode cX7_isTaken 21 = .ok (.getfield 19, 3) := by decide +kernel
theorem dX7_isTaken_24 : decode cX7_isTaken 24 = .ok (.iload_n 3, 1) := by decide +kernel
theorem dX7_isTaken_25 : decode cX7_isTaken 25 = .ok (.iaload, 1) := by decide +kernel
theorem dX7_isTaken_26 : decode cX7_isTaken 26 = .ok (.iload_n 2, 1) := by decide +kernel
theorem dX7_isTaken_27 : decode cX7_isTaken 27 = .ok (.if_icmp .ne 5, 3) := by decide +kernel
theorem dX7_isTaken_30 : decode cX7_isTaken 30 = .ok (.iconst 1, 1) := by decide +kernel
theorem dX7_isTaken_31 : decode cX7_isTaken 31 = .ok (.ireturn, 1) := by decide +kernel
theorem dX7_isTaken_32 : decode cX7_isTaken 32 = .ok (.iinc 3 1, 3) := by decide +kernel
theorem dX7_isTaken_35 : decode cX7_isTaken 35 = .ok (.goto (-33), 3) := by decide +kernel
theorem dX7_isTaken_38 : decode cX7_isTaken 38 = .ok (.iconst 0, 1) := by decide +kernel
theorem dX7_isTaken_39 : decode cX7_isTaken 39 = .ok (.ireturn, 1) := by decide +kernel
theorem dX7_seat_0 : decode cX7_seat 0 = .ok (.aload_n 0, 1) := by decide +kernel
theorem dX7_seat_1 : decode cX7_seat 1 = .ok (.getfield 9, 3) := by decide +kernel
theorem dX7_seat_4 : decode cX7_seat 4 = .ok (.bipush 10, 2) := by decide +kernel
theorem dX7_seat_6 : decode cX7_seat 6 = .ok (.if_icmp .ge 33, 3) := by decide +kernel
theorem dX7_seat_9 : decode cX7_seat 9 = .ok (.aload_n 0, 1) := by decide +kernel
theorem dX7_seat_10 : decode cX7_seat 10 = .ok (.getfield 15, 3) := by decide +kernel
theorem dX7_seat_13 : decode cX7_seat 13 = .ok (.aload_n 0, 1) := by decide +kernel
theorem dX7_seat_14 : decode cX7_seat 14 = .ok (.getfield 9, 3) := by decide +kernel
theorem dX7_seat_17 : decode cX7_seat 17 = .ok (.iload_n 1, 1) := by decide +kernel
theorem dX7_seat_18 : decode cX7_seat 18 = .ok (.iastore, 1) := by decide +kernel
theorem dX7_seat_19 : decode cX7_seat 19 = .ok (.aload_n 0, 1) := by decide +kernel
theorem dX7_seat_20 : decode cX7_seat 20 = .ok (.getfield 19, 3) := by decide +kernel
theorem dX7_seat_23 : decode cX7_seat 23 = .ok (.aload_n 0, 1) := by decide +kernel
theorem dX7_seat_24 : decode cX7_seat 24 = .ok (.getfield 9, 3) := by decide +kernel
theorem dX7_seat_27 : decode cX7_seat 27 = .ok (.iload_n 2, 1) := by decide +kernel
theorem dX7_seat_28 : decode cX7_seat 28 = .ok (.iastore, 1) := by decide +kernel
theorem dX7_seat_29 : decode cX7_seat 29 = .ok (.aload_n 0, 1) := by decide +kernel
theorem dX7_seat_30 : decode cX7_seat 30 = .ok (.dup, 1) := by decide +kernel
theorem dX7_seat_31 : decode cX7_seat 31 = .ok (.getfield 9, 3) := by decide +kernel
theorem dX7_seat_34 : decode cX7_seat 34 = .ok (.iconst 1, 1) := by decide +kernel
theorem dX7_seat_35 : decode cX7_seat 35 = .ok (.iadd, 1) := by decide +kernel
theorem dX7_seat_36 : decode cX7_seat 36 = .ok (.putfield 9, 3) := by decide +kernel
theorem dX7_seat_39 : decode cX7_seat 39 = .ok (.return_, 1) := by decide +kernel
theorem dX7_areNear_0 : decode cX7_areNear 0 = .ok (.aload_n 0, 1) := by decide +kernel
theorem dX7_areNear_1 : decode cX7_areNear 1 = .ok (.getfield 15, 3) := by decide +kernel
theorem dX7_areNear_4 : decode cX7_areNear 4 = .ok (.iload_n 1, 1) := by decide +kernel
theorem dX7_areNear_5 : decode cX7_areNear 5 = .ok (.iaload, 1) := by decide +kernel
theorem dX7_areNear_6 : decode cX7_areNear 6 = .ok (.aload_n 0, 1) := by decide +kernel
theorem dX7_areNear_7 : decode cX7_areNear 7 = .ok (.getfield 15, 3) := by decide +kernel
theorem dX7_areNear_10 : decode cX7_areNear 10 = .ok (.iload_n 2, 1) := by decide +kernel
theorem dX7_areNear_11 : decode cX7_areNear 11 = .ok (.iaload, 1) := by decide +kernel
theorem dX7_areNear_12 : decode cX7_areNear 12 = .ok (.isub, 1) := by decide +kernel
theorem dX7_areNear_13 : decode cX7_areNear 13 = .ok (.invokestatic 22, 3) := by decide +kernel
theorem dX7_areNear_16 : decode cX7_areNear 16 = .ok (.iconst 1, 1) := by decide +kernel
theorem dX7_areNear_17 : decode cX7_areNear 17 = .ok (.if_icmp .gt 27, 3) := by decide +kernel
theorem dX7_areNear_20 : decode cX7_areNear 20 = .ok (.aload_n 0, 1) := by decide +kernel
theorem dX7_areNear_21 : decode cX7_areNear 21 = .ok (.getfield 19, 3) := by decide +kernel
theorem dX7_areNear_24 : decode cX7_areNear 24 = .ok (.iload_n 1, 1) := by decide +kernel
theorem dX7_areNear_25 : decode cX7_areNear 25 = .ok (.iaload, 1) := by decide +kernel
theorem dX7_areNear_26 : decode cX7_areNear 26 = .ok (.aload_n 0, 1) := by decide +kernel
theorem dX7_areNear_27 : decode cX7_areNear 27 = .ok (.getfield 19, 3) := by decide +kernel
theorem dX7_areNear_30 : decode cX7_areNear 30 = .ok (.iload_n 2, 1) := by decide +kernel
theorem dX7_areNear_31 : decode cX7_areNear 31 = .ok (.iaload, 1) := by decide +kernel
theorem dX7_areNear_32 : decode cX7_areNear 32 = .ok (.isub, 1) := by decide +kernel
theorem dX7_areNear_33 : decode cX7_areNear 33 = .ok (.invokestatic 22, 3) := by decide +kernel
theorem dX7_areNear_36 : decode cX7_areNear 36 = .ok (.iconst 1, 1) := by decide +kernel
theorem dX7_areNear_37 : decode cX7_areNear 37 = .ok (.if_icmp .gt 7, 3) := by decide +kernel
theorem dX7_areNear_40 : decode cX7_areNear 40 = .ok (.iconst 1, 1) := by decide +kernel
theorem dX7_areNear_41 : decode cX7_areNear 41 = .ok (.goto 4, 3) := by decide +kernel
theorem dX7_areNear_44 : decode cX7_areNear 44 = .ok (.iconst 0, 1) := by decide +kernel
theorem dX7_areNear_45 : decode cX7_areNear 45 = .ok (.ireturn, 1) := by decide +kernel
theorem dX7_allBits_0 : decode cX7_allBits 0 = .ok (.iconst 1, 1) := by decide +kernel
theorem dX7_allBits_1 : decode cX7_allBits 1 = .ok (.aload_n 0, 1) := by decide +kernel
theorem dX7_allBits_2 : decode cX7_allBits 2 = .ok (.getfield 9, 3) := by decide +kernel
theorem dX7_allBits_5 : decode cX7_allBits 5 = .ok (.ishl, 1) := by decide +kernel
theorem dX7_allBits_6 : decode cX7_allBits 6 = .ok (.iconst 1, 1) := by decide +kernel
theorem dX7_allBits_7 : decode cX7_allBits 7 = .ok (.isub, 1) := by decide +kernel
theorem dX7_allBits_8 : decode cX7_allBits 8 = .ok (.ireturn, 1) := by decide +kernel
theorem dX8_init_0 : decode cX8_init 0 = .ok (.aload_n 0, 1) := by decide +kernel
theorem dX8_init_1 : decode cX8_init 1 = .ok (.invokespecial 3, 3) := by decide +kernel
theorem dX8_init_4 : decode cX8_init 4 = .ok (.aload_n 0, 1) := by decide +kernel
theorem dX8_init_5 : decode cX8_init 5 = .ok (.aload_n 1, 1) := by decide +kernel
theorem dX8_init_6 : decode cX8_init 6 = .ok (.putfield 9, 3) := by decide +kernel
theorem dX8_init_9 : decode cX8_init 9 = .ok (.aload_n 0, 1) := by decide +kernel
theorem dX8_init_10 : decode cX8_init 10 = .ok (.aload_n 2, 1) := by decide +kernel
theorem dX8_init_11 : decode cX8_init 11 = .ok (.putfield 15, 3) := by decide +kernel
theorem dX8_init_14 : decode cX8_init 14 = .ok (.return_, 1) := by decide +kernel
theorem dX8_countOf_0 : decode cX8_countOf 0 = .ok (.iconst 0, 1) := by decide +kernel
theorem dX8_countOf_1 : decode cX8_countOf 1 = .ok (.istore_n 3, 1) := by decide +kernel
theorem dX8_countOf_2 : decode cX8_countOf 2 = .ok (.iconst 0, 1) := by decide +kernel
theorem dX8_countOf_3 : decode cX8_countOf 3 = .ok (.istore 4, 2) := by decide +kernel
theorem dX8_countOf_5 : decode cX8_countOf 5 = .ok (.iload 4, 2) := by decide +kernel
theorem dX8_countOf_7 : decode cX8_countOf 7 = .ok (.aload_n 0, 1) := by decide +kernel
theorem dX8_countOf_8 : decode cX8_countOf 8 = .ok (.getfield 15, 3) := by decide +kernel
theorem dX8_countOf_11 : decode cX8_countOf 11 = .ok (.getfield 19, 3) := by decide +kernel
theorem dX8_countOf_14 : decode cX8_countOf 14 = .ok (.if_icmp .ge 48, 3) := by decide +kernel
theorem dX8_countOf_17 : decode cX8_countOf 17 = .ok (.iload_n 1, 1) := by decide +kernel
theorem dX8_countOf_18 : decode cX8_countOf 18 = .ok (.aload_n 0, 1) := by decide +kernel
theorem dX8_countOf_19 : decode cX8_countOf 19 = .ok (.getfield 15, 3) := by decide +kernel
theorem dX8_countOf_22 : decode cX8_countOf 22 = .ok (.getfield 25, 3) := by decide +kernel
theorem dX8_countOf_25 : decode cX8_countOf 25 = .ok (.iload 4, 2) := by decide +kernel
theorem dX8_countOf_27 : decode cX8_countOf 27 = .ok (.iaload, 1) := by decide +kernel
theorem dX8_countOf_28 : decode cX8_countOf 28 = .ok (.ishr, 1) := by decide +kernel
theorem dX8_countOf_29 : decode cX8_countOf 29 = .ok (.iconst 1, 1) := by decide +kernel
theorem dX8_countOf_30 : decode cX8_countOf 30 = .ok (.iand, 1) := by decide +kernel
theorem dX8_countOf_31 : decode cX8_countOf 31 = .ok (.ifCond .eq 25, 3) := by decide +kernel
theorem dX8_countOf_34 : decode cX8_countOf 34 = .ok (.aload_n 0, 1) := by decide +kernel
theorem dX8_countOf_35 : decode cX8_countOf 35 = .ok (.iload 4, 2) := by decide +kernel
theorem dX8_countOf_37 : decode cX8_countOf 37 = .ok (.invokevirtual 29, 3) := by decide +kernel
theorem dX8_countOf_40 : decode cX8_countOf 40 = .ok (.ifCond .eq 16, 3) := by decide +kernel
theorem dX8_countOf_43 : decode cX8_countOf 43 = .ok (.aload_n 0, 1) := by decide +kernel
theorem dX8_countOf_44 : decode cX8_countOf 44 = .ok (.iload 4, 2) := by decide +kernel
theorem dX8_countOf_46 : decode cX8_countOf 46 = .ok (.iload_n 2, 1) := by decide +kernel
theorem dX8_countOf_47 : decode cX8_countOf 47 = .ok (.invokevirtual 33, 3) := by decide +kernel
theorem dX8_countOf_50 : decode cX8_countOf 50 = .ok (.ifCond .eq 6, 3) := by decide +kernel
theorem dX8_countOf_53 : decode cX8_countOf 53 = .ok (.iinc 3 1, 3) := by decide +kernel
theorem dX8_countOf_56 : decode cX8_countOf 56 = .ok (.iinc 4 1, 3) := by decide +kernel
theorem dX8_countOf_59 : decode cX8_countOf 59 = .ok (.goto (-54), 3) := by decide +kernel
theorem dX8_countOf_62 : decode cX8_countOf 62 = .ok (.iload_n 3, 1) := by decide +kernel
theorem dX8_countOf_63 : decode cX8_countOf 63 = .ok (.ireturn, 1) := by decide +kernel
theorem dX8_reckonGains_0 : decode cX8_reckonGains 0 = .ok (.aload_n 0, 1) := by decide +kernel
theorem dX8_reckonGains_1 : decode cX8_reckonGains 1 = .ok (.sipush 1023, 3) := by decide +kernel
theorem dX8_reckonGains_4 : decode cX8_reckonGains 4 = .ok (.iconst 0, 1) := by decide +kernel
theorem dX8_reckonGains_5 : decode cX8_reckonGains 5 = .ok (.invokevirtual 37, 3) := by decide +kernel
theorem dX8_reckonGains_8 : decode cX8_reckonGains 8 = .ok (.istore_n 3, 1) := by decide +kernel
theorem dX8_reckonGains_9 : decode cX8_reckonGains 9 = .ok (.aload_n 0, 1) := by decide +kernel
theorem dX8_reckonGains_10 : decode cX8_reckonGains 10 = .ok (.sipush 1023, 3) := by decide +kernel
theorem dX8_reckonGains_13 : decode cX8_reckonGains 13 = .ok (.iconst 1, 1) := by decide +kernel
theorem dX8_reckonGains_14 : decode cX8_reckonGains 14 = .ok (.invokevirtual 37, 3) := by decide +kernel
theorem dX8_reckonGains_17 : decode cX8_reckonGains 17 = .ok (.istore 4, 2) := by decide +kernel
theorem dX8_reckonGains_19 : decode cX8_reckonGains 19 = .ok (.aload_n 0, 1) := by decide +kernel
theorem dX8_reckonGains_20 : decode cX8_reckonGains 20 = .ok (.iload_n 1, 1) := by decide +kernel
theorem dX8_reckonGains_21 : decode cX8_reckonGains 21 = .ok (.iconst 0, 1) := by decide +kernel
theorem dX8_reckonGains_22 : decode cX8_reckonGains 22 = .ok (.invokevirtual 37, 3) := by decide +kernel
theorem dX8_reckonGains_25 : decode cX8_reckonGains 25 = .ok (.istore 5, 2) := by decide +kernel
theorem dX8_reckonGains_27 : decode cX8_reckonGains 27 = .ok (.iload 4, 2) := by decide +kernel
theorem dX8_reckonGains_29 : decode cX8_reckonGains 29 = .ok (.iload 5, 2) := by decide +kernel
theorem dX8_reckonGains_31 : decode cX8_reckonGains 31 = .ok (.invokestatic 41, 3) := by decide +kernel
theorem dX8_reckonGains_34 : decode cX8_reckonGains 34 = .ok (.istore 6, 2) := by decide +kernel
theorem dX8_reckonGains_36 : decode cX8_reckonGains 36 = .ok (.lconst 0, 1) := by decide +kernel
theorem dX8_reckonGains_37 : decode cX8_reckonGains 37 = .ok (.lstore 7, 2) := by decide +kernel
theorem dX8_reckonGains_39 : decode cX8_reckonGains 39 = .ok (.aload_n 0, 1) := by decide +kernel
theorem dX8_reckonGains_40 : decode cX8_reckonGains 40 = .ok (.iload_n 1, 1) := by decide +kernel
theorem dX8_reckonGains_41 : decode cX8_reckonGains 41 = .ok (.iconst 1, 1) := by decide +kernel
theorem dX8_reckonGains_42 : decode cX8_reckonGains 42 = .ok (.invokevirtual 37, 3) := by decide +kernel
theorem dX8_reckonGains_45 : decode cX8_reckonGains 45 = .ok (.istore 9, 2) := by decide +kernel
theorem dX8_reckonGains_47 : decode cX8_reckonGains 47 = .ok (.iload 9, 2) := by decide +kernel
theorem dX8_reckonGains_49 : decode cX8_reckonGains 49 = .ok (.iload 6, 2) := by decide +kernel
theorem dX8_reckonGains_51 : decode cX8_reckonGains 51 = .ok (.if_icmp .gt 34, 3) := by decide +kernel
theorem dX8_reckonGains_54 : decode cX8_reckonGains 54 = .ok (.lload 7, 2) := by decide +kernel
theorem dX8_reckonGains_56 : decode cX8_reckonGains 56 = .ok (.iload 4, 2) := by decide +kernel
theorem dX8_reckonGains_58 : decode cX8_reckonGains 58 = .ok (.iload 9, 2) := by decide +kernel
theorem dX8_reckonGains_60 : decode cX8_reckonGains 60 = .ok (.invokestatic 46, 3) := by decide +kernel
theorem dX8_reckonGains_63 : decode cX8_reckonGains 63 = .ok (.iload_n 3, 1) := by decide +kernel
theorem dX8_reckonGains_64 : decode cX8_reckonGains 64 = .ok (.iload 4, 2) := by decide +kernel
theorem dX8_reckonGains_66 : decode cX8_reckonGains 66 = .ok (.isub, 1) := by decide +kernel
theorem dX8_reckonGains_67 : decode cX8_reckonGains 67 = .ok (.iload 5, 2) := by decide +kernel
theorem dX8_reckonGains_69 : decode cX8_reckonGains 69 = .ok (.iload 9, 2) := by decide +kernel
theorem dX8_reckonGains_71 : decode cX8_reckonGains 71 = .ok (.isub, 1) := by decide +kernel
theorem dX8_reckonGains_72 : decode cX8_reckonGains 72 = .ok (.invokestatic 46, 3) := by decide +kernel
theorem dX8_reckonGains_75 : decode cX8_reckonGains 75 = .ok (.lmul, 1) := by decide +kernel
theorem dX8_reckonGains_76 : decode cX8_reckonGains 76 = .ok (.ladd, 1) := by decide +kernel
theorem dX8_reckonGains_77 : decode cX8_reckonGains 77 = .ok (.lstore 7, 2) := by decide +kernel
theorem dX8_reckonGains_79 : decode cX8_reckonGains 79 = .ok (.iinc 9 1, 3) := by decide +kernel
theorem dX8_reckonGains_82 : decode cX8_reckonGains 82 = .ok (.goto (-35), 3) := by decide +kernel
theorem dX8_reckonGains_85 : decode cX8_reckonGains 85 = .ok (.aload_n 2, 1) := by decide +kernel
theorem dX8_reckonGains_86 : decode cX8_reckonGains 86 = .ok (.lload 7, 2) := by decide +kernel
theorem dX8_reckonGains_88 : decode cX8_reckonGains 88 = .ok (.iload_n 3, 1) := by decide +kernel
theorem dX8_reckonGains_89 : decode cX8_reckonGains 89 = .ok (.iload 5, 2) := by decide +kernel
theorem dX8_reckonGains_91 : decode cX8_reckonGains 91 = .ok (.invokestatic 46, 3) := by decide +kernel
theorem dX8_reckonGains_94 : decode cX8_reckonGains 94 = .ok (.invokevirtual 50, 3) := by decide +kernel
theorem dX8_reckonGains_97 : decode cX8_reckonGains 97 = .ok (.return_, 1) := by decide +kernel
theorem dX8_wasRubbed_0 : decode cX8_wasRubbed 0 = .ok (.aload_n 0, 1) := by decide +kernel
theorem dX8_wasRubbed_1 : decode cX8_wasRubbed 1 = .ok (.getfield 15, 3) := by decide +kernel
theorem dX8_wasRubbed_4 : decode cX8_wasRubbed 4 = .ok (.getfield 56, 3) := by decide +kernel
theorem dX8_wasRubbed_7 : decode cX8_wasRubbed 7 = .ok (.iload_n 1, 1) := by decide +kernel
theorem dX8_wasRubbed_8 : decode cX8_wasRubbed 8 = .ok (.iaload, 1) := by decide +kernel
theorem dX8_wasRubbed_9 : decode cX8_wasRubbed 9 = .ok (.aload_n 0, 1) := by decide +kernel
theorem dX8_wasRubbed_10 : decode cX8_wasRubbed 10 = .ok (.getfield 9, 3) := by decide +kernel
theorem dX8_wasRubbed_13 : decode cX8_wasRubbed 13 = .ok (.getfield 59, 3) := by decide +kernel
theorem dX8_wasRubbed_16 : decode cX8_wasRubbed 16 = .ok (.if_icmp .ge 40, 3) := by decide +kernel
theorem dX8_wasRubbed_19 : decode cX8_wasRubbed 19 = .ok (.aload_n 0, 1) := by decide +kernel
theorem dX8_wasRubbed_20 : decode cX8_wasRubbed 20 = .ok (.getfield 15, 3) := by decide +kernel
theorem dX8_wasRubbed_23 : decode cX8_wasRubbed 23 = .ok (.getfield 63, 3) := by decide +kernel
theorem dX8_wasRubbed_26 : decode cX8_wasRubbed 26 = .ok (.iload_n 1, 1) := by decide +kernel
theorem dX8_wasRubbed_27 : decode cX8_wasRubbed 27 = .ok (.iaload, 1) := by decide +kernel
theorem dX8_wasRubbed_28 : decode cX8_wasRubbed 28 = .ok (.ifCond .eq 28, 3) := by decide +kernel
theorem dX8_wasRubbed_31 : decode cX8_wasRubbed 31 = .ok (.aload_n 0, 1) := by decide +kernel
theorem dX8_wasRubbed_32 : decode cX8_wasRubbed 32 = .ok (.getfield 15, 3) := by decide +kernel
theorem dX8_wasRubbed_35 : decode cX8_wasRubbed 35 = .ok (.getfield 63, 3) := by decide +kernel
theorem dX8_wasRubbed_38 : decode cX8_wasRubbed 38 = .ok (.iload_n 1, 1) := by decide +kernel
theorem dX8_wasRubbed_39 : decode cX8_wasRubbed 39 = .ok (.iaload, 1) := by decide +kernel
theorem dX8_wasRubbed_40 : decode cX8_wasRubbed 40 = .ok (.aload_n 0, 1) := by decide +kernel
theorem dX8_wasRubbed_41 : decode cX8_wasRubbed 41 = .ok (.getfield 15, 3) := by decide +kernel
theorem dX8_wasRubbed_44 : decode cX8_wasRubbed 44 = .ok (.getfield 66, 3) := by decide +kernel
theorem dX8_wasRubbed_47 : decode cX8_wasRubbed 47 = .ok (.iload_n 1, 1) := by decide +kernel
theorem dX8_wasRubbed_48 : decode cX8_wasRubbed 48 = .ok (.iaload, 1) := by decide +kernel
theorem dX8_wasRubbed_49 : decode cX8_wasRubbed 49 = .ok (.if_icmp .eq 7, 3) := by decide +kernel
theorem dX8_wasRubbed_52 : decode cX8_wasRubbed 52 = .ok (.iconst 1, 1) := by decide +kernel
theorem dX8_wasRubbed_53 : decode cX8_wasRubbed 53 = .ok (.goto 4, 3) := by decide +kernel
theorem dX8_wasRubbed_56 : decode cX8_wasRubbed 56 = .ok (.iconst 0, 1) := by decide +kernel
theorem dX8_wasRubbed_57 : decode cX8_wasRubbed 57 = .ok (.ireturn, 1) := by decide +kernel
theorem dX8_isKind_0 : decode cX8_isKind 0 = .ok (.aload_n 0, 1) := by decide +kernel
theorem dX8_isKind_1 : decode cX8_isKind 1 = .ok (.getfield 9, 3) := by decide +kernel
theorem dX8_isKind_4 : decode cX8_isKind 4 = .ok (.getfield 69, 3) := by decide +kernel
theorem dX8_isKind_7 : decode cX8_isKind 7 = .ok (.aload_n 0, 1) := by decide +kernel
theorem dX8_isKind_8 : decode cX8_isKind 8 = .ok (.getfield 15, 3) := by decide +kernel
theorem dX8_isKind_11 : decode cX8_isKind 11 = .ok (.getfield 56, 3) := by decide +kernel
theorem dX8_isKind_14 : decode cX8_isKind 14 = .ok (.iload_n 1, 1) := by decide +kernel
theorem dX8_isKind_15 : decode cX8_isKind 15 = .ok (.iaload, 1) := by decide +kernel
theorem dX8_isKind_16 : decode cX8_isKind 16 = .ok (.iaload, 1) := by decide +kernel
theorem dX8_isKind_17 : decode cX8_isKind 17 = .ok (.istore_n 3, 1) := by decide +kernel
theorem dX8_isKind_18 : decode cX8_isKind 18 = .ok (.iload_n 2, 1) := by decide +kernel
theorem dX8_isKind_19 : decode cX8_isKind 19 = .ok (.ifCond .ne 5, 3) := by decide +kernel
theorem dX8_isKind_22 : decode cX8_isKind 22 = .ok (.iconst 1, 1) := by decide +kernel
theorem dX8_isKind_23 : decode cX8_isKind 23 = .ok (.ireturn, 1) := by decide +kernel
theorem dX8_isKind_24 : decode cX8_isKind 24 = .ok (.iload_n 3, 1) := by decide +kernel
theorem dX8_isKind_25 : decode cX8_isKind 25 = .ok (.ifCond .ne 5, 3) := by decide +kernel
theorem dX8_isKind_28 : decode cX8_isKind 28 = .ok (.iconst 0, 1) := by decide +kernel
theorem dX8_isKind_29 : decode cX8_isKind 29 = .ok (.ireturn, 1) := by decide +kernel
theorem dX8_isKind_30 : decode cX8_isKind 30 = .ok (.iload_n 2, 1) := by decide +kernel
theorem dX8_isKind_31 : decode cX8_isKind 31 = .ok (.iconst 1, 1) := by decide +kernel
theorem dX8_isKind_32 : decode cX8_isKind 32 = .ok (.if_icmp .ne 24, 3) := by decide +kernel
theorem dX8_isKind_35 : decode cX8_isKind 35 = .ok (.aload_n 0, 1) := by decide +kernel
theorem dX8_isKind_36 : decode cX8_isKind 36 = .ok (.getfield 15, 3) := by decide +kernel
theorem dX8_isKind_39 : decode cX8_isKind 39 = .ok (.getfield 66, 3) := by decide +kernel
theorem dX8_isKind_42 : decode cX8_isKind 42 = .ok (.iload_n 1, 1) := by decide +kernel
theorem dX8_isKind_43 : decode cX8_isKind 43 = .ok (.iaload, 1) := by decide +kernel
theorem dX8_isKind_44 : decode cX8_isKind 44 = .ok (.iload_n 3, 1) := by decide +kernel
theorem dX8_isKind_45 : decode cX8_isKind 45 = .ok (.if_icmp .ne 7, 3) := by decide +kernel
theorem dX8_isKind_48 : decode cX8_isKind 48 = .ok (.iconst 1, 1) := by decide +kernel
theorem dX8_isKind_49 : decode cX8_isKind 49 = .ok (.goto 37, 3) := by decide +kernel
theorem dX8_isKind_52 : decode cX8_isKind 52 = .ok (.iconst 0, 1) := by decide +kernel
theorem dX8_isKind_53 : decode cX8_isKind 53 = .ok (.goto 33, 3) := by decide +kernel
theorem dX8_isKind_56 : decode cX8_isKind 56 = .ok (.aload_n 0, 1) := by decide +kernel
theorem dX8_isKind_57 : decode cX8_isKind 57 = .ok (.getfield 15, 3) := by decide +kernel
theorem dX8_isKind_60 : decode cX8_isKind 60 = .ok (.getfield 63, 3) := by decide +kernel
theorem dX8_isKind_63 : decode cX8_isKind 63 = .ok (.iload_n 1, 1) := by decide +kernel
theorem dX8_isKind_64 : decode cX8_isKind 64 = .ok (.iaload, 1) := by decide +kernel
theorem dX8_isKind_65 : decode cX8_isKind 65 = .ok (.iload_n 3, 1) := by decide +kernel
theorem dX8_isKind_66 : decode cX8_isKind 66 = .ok (.if_icmp .ne 19, 3) := by decide +kernel
theorem dX8_isKind_69 : decode cX8_isKind 69 = .ok (.aload_n 0, 1) := by decide +kernel
theorem dX8_isKind_70 : decode cX8_isKind 70 = .ok (.getfield 15, 3) := by decide +kernel
theorem dX8_isKind_73 : decode cX8_isKind 73 = .ok (.getfield 66, 3) := by decide +kernel
theorem dX8_isKind_76 : decode cX8_isKind 76 = .ok (.iload_n 1, 1) := by decide +kernel
theorem dX8_isKind_77 : decode cX8_isKind 77 = .ok (.iaload, 1) := by decide +kernel
theorem dX8_isKind_78 : decode cX8_isKind 78 = .ok (.ifCond .eq 7, 3) := by decide +kernel
theorem dX8_isKind_81 : decode cX8_isKind 81 = .ok (.iconst 1, 1) := by decide +kernel
theorem dX8_isKind_82 : decode cX8_isKind 82 = .ok (.goto 4, 3) := by decide +kernel
theorem dX8_isKind_85 : decode cX8_isKind 85 = .ok (.iconst 0, 1) := by decide +kernel
theorem dX8_isKind_86 : decode cX8_isKind 86 = .ok (.ireturn, 1) := by decide +kernel
theorem dX8_waysToDraw_0 : decode cX8_waysToDraw 0 = .ok (.iload_n 1, 1) := by decide +kernel
theorem dX8_waysToDraw_1 : decode cX8_waysToDraw 1 = .ok (.ifCond .lt 8, 3) := by decide +kernel
theorem dX8_waysToDraw_4 : decode cX8_waysToDraw 4 = .ok (.iload_n 1, 1) := by decide +kernel
theorem dX8_waysToDraw_5 : decode cX8_waysToDraw 5 = .ok (.iload_n 0, 1) := by decide +kernel
theorem dX8_waysToDraw_6 : decode cX8_waysToDraw 6 = .ok (.if_icmp .le 5, 3) := by decide +kernel
theorem dX8_waysToDraw_9 : decode cX8_waysToDraw 9 = .ok (.lconst 0, 1) := by decide +kernel
theorem dX8_waysToDraw_10 : decode cX8_waysToDraw 10 = .ok (.lreturn, 1) := by decide +kernel
theorem dX8_waysToDraw_11 : decode cX8_waysToDraw 11 = .ok (.iload_n 1, 1) := by decide +kernel
theorem dX8_waysToDraw_12 : decode cX8_waysToDraw 12 = .ok (.iload_n 0, 1) := by decide +kernel
theorem dX8_waysToDraw_13 : decode cX8_waysToDraw 13 = .ok (.iload_n 1, 1) := by decide +kernel
theorem dX8_waysToDraw_14 : decode cX8_waysToDraw 14 = .ok (.isub, 1) := by decide +kernel
theorem dX8_waysToDraw_15 : decode cX8_waysToDraw 15 = .ok (.invokestatic 41, 3) := by decide +kernel
theorem dX8_waysToDraw_18 : decode cX8_waysToDraw 18 = .ok (.istore_n 2, 1) := by decide +kernel
theorem dX8_waysToDraw_19 : decode cX8_waysToDraw 19 = .ok (.lconst 1, 1) := by decide +kernel
theorem dX8_waysToDraw_20 : decode cX8_waysToDraw 20 = .ok (.lstore_n 3, 1) := by decide +kernel
theorem dX8_waysToDraw_21 : decode cX8_waysToDraw 21 = .ok (.iconst 1, 1) := by decide +kernel
theorem dX8_waysToDraw_22 : decode cX8_waysToDraw 22 = .ok (.istore 5, 2) := by decide +kernel
theorem dX8_waysToDraw_24 : decode cX8_waysToDraw 24 = .ok (.iload 5, 2) := by decide +kernel
theorem dX8_waysToDraw_26 : decode cX8_waysToDraw 26 = .ok (.iload_n 2, 1) := by decide +kernel
theorem dX8_waysToDraw_27 : decode cX8_waysToDraw 27 = .ok (.if_icmp .gt 23, 3) := by decide +kernel
theorem dX8_waysToDraw_30 : decode cX8_waysToDraw 30 = .ok (.lload_n 3, 1) := by decide +kernel
theorem dX8_waysToDraw_31 : decode cX8_waysToDraw 31 = .ok (.iload_n 0, 1) := by decide +kernel
theorem dX8_waysToDraw_32 : decode cX8_waysToDraw 32 = .ok (.iload_n 2, 1) := by decide +kernel
theorem dX8_waysToDraw_33 : decode cX8_waysToDraw 33 = .ok (.isub, 1) := by decide +kernel
theorem dX8_waysToDraw_34 : decode cX8_waysToDraw 34 = .ok (.iload 5, 2) := by decide +kernel
theorem dX8_waysToDraw_36 : decode cX8_waysToDraw 36 = .ok (.iadd, 1) := by decide +kernel
theorem dX8_waysToDraw_37 : decode cX8_waysToDraw 37 = .ok (.i2l, 1) := by decide +kernel
theorem dX8_waysToDraw_38 : decode cX8_waysToDraw 38 = .ok (.lmul, 1) := by decide +kernel
theorem dX8_waysToDraw_39 : decode cX8_waysToDraw 39 = .ok (.iload 5, 2) := by decide +kernel
theorem dX8_waysToDraw_41 : decode cX8_waysToDraw 41 = .ok (.i2l, 1) := by decide +kernel
theorem dX8_waysToDraw_42 : decode cX8_waysToDraw 42 = .ok (.ldiv, 1) := by decide +kernel
theorem dX8_waysToDraw_43 : decode cX8_waysToDraw 43 = .ok (.lstore_n 3, 1) := by decide +kernel
theorem dX8_waysToDraw_44 : decode cX8_waysToDraw 44 = .ok (.iinc 5 1, 3) := by decide +kernel
theorem dX8_waysToDraw_47 : decode cX8_waysToDraw 47 = .ok (.goto (-23), 3) := by decide +kernel
theorem dX8_waysToDraw_50 : decode cX8_waysToDraw 50 = .ok (.lload_n 3, 1) := by decide +kernel
theorem dX8_waysToDraw_51 : decode cX8_waysToDraw 51 = .ok (.lreturn, 1) := by decide +kernel
theorem dX9_init_0 : decode cX9_init 0 = .ok (.aload_n 0, 1) := by decide +kernel
theorem dX9_init_1 : decode cX9_init 1 = .ok (.invokespecial 3, 3) := by decide +kernel
theorem dX9_init_4 : decode cX9_init 4 = .ok (.aload_n 0, 1) := by decide +kernel
theorem dX9_init_5 : decode cX9_init 5 = .ok (.iconst 1, 1) := by decide +kernel
theorem dX9_init_6 : decode cX9_init 6 = .ok (.putfield 9, 3) := by decide +kernel
theorem dX9_init_9 : decode cX9_init 9 = .ok (.aload_n 0, 1) := by decide +kernel
theorem dX9_init_10 : decode cX9_init 10 = .ok (.iconst 0, 1) := by decide +kernel
theorem dX9_init_11 : decode cX9_init 11 = .ok (.putfield 15, 3) := by decide +kernel
theorem dX9_init_14 : decode cX9_init 14 = .ok (.aload_n 0, 1) := by decide +kernel
theorem dX9_init_15 : decode cX9_init 15 = .ok (.iconst 0, 1) := by decide +kernel
theorem dX9_init_16 : decode cX9_init 16 = .ok (.putfield 19, 3) := by decide +kernel
theorem dX9_init_19 : decode cX9_init 19 = .ok (.aload_n 0, 1) := by decide +kernel
theorem dX9_init_20 : decode cX9_init 20 = .ok (.bipush 48, 2) := by decide +kernel
theorem dX9_init_22 : decode cX9_init 22 = .ok (.newarray .int, 2) := by decide +kernel
theorem dX9_init_24 : decode cX9_init 24 = .ok (.putfield 22, 3) := by decide +kernel
theorem dX9_init_27 : decode cX9_init 27 = .ok (.return_, 1) := by decide +kernel
theorem dX9_renew_0 : decode cX9_renew 0 = .ok (.aload_n 0, 1) := by decide +kernel
theorem dX9_renew_1 : decode cX9_renew 1 = .ok (.iconst 0, 1) := by decide +kernel
theorem dX9_renew_2 : decode cX9_renew 2 = .ok (.putfield 9, 3) := by decide +kernel
theorem dX9_renew_5 : decode cX9_renew 5 = .ok (.aload_n 0, 1) := by decide +kernel
theorem dX9_renew_6 : decode cX9_renew 6 = .ok (.iload_n 1, 1) := by decide +kernel
theorem dX9_renew_7 : decode cX9_renew 7 = .ok (.putfield 15, 3) := by decide +kernel
theorem dX9_renew_10 : decode cX9_renew 10 = .ok (.aload_n 0, 1) := by decide +kernel
theorem dX9_renew_11 : decode cX9_renew 11 = .ok (.iload_n 2, 1) := by decide +kernel
theorem dX9_renew_12 : decode cX9_renew 12 = .ok (.bipush 48, 2) := by decide +kernel
theorem dX9_renew_14 : decode cX9_renew 14 = .ok (.invokestatic 26, 3) := by decide +kernel
theorem dX9_renew_17 : decode cX9_renew 17 = .ok (.putfield 19, 3) := by decide +kernel
theorem dX9_renew_20 : decode cX9_renew 20 = .ok (.aload_n 0, 1) := by decide +kernel
theorem dX9_renew_21 : decode cX9_renew 21 = .ok (.getfield 22, 3) := by decide +kernel
theorem dX9_renew_24 : decode cX9_renew 24 = .ok (.iconst 0, 1) := by decide +kernel
theorem dX9_renew_25 : decode cX9_renew 25 = .ok (.invokestatic 32, 3) := by decide +kernel
theorem dX9_renew_28 : decode cX9_renew 28 = .ok (.return_, 1) := by decide +kernel
theorem dX9_findingAt_0 : decode cX9_findingAt 0 = .ok (.aload_n 0, 1) := by decide +kernel
theorem dX9_findingAt_1 : decode cX9_findingAt 1 = .ok (.getfield 9, 3) := by decide +kernel
theorem dX9_findingAt_4 : decode cX9_findingAt 4 = .ok (.ifCond .eq 5, 3) := by decide +kernel
theorem dX9_findingAt_7 : decode cX9_findingAt 7 = .ok (.iconst 1, 1) := by decide +kernel
theorem dX9_findingAt_8 : decode cX9_findingAt 8 = .ok (.ireturn, 1) := by decide +kernel
theorem dX9_findingAt_9 : decode cX9_findingAt 9 = .ok (.aload_n 0, 1) := by decide +kernel
theorem dX9_findingAt_10 : decode cX9_findingAt 10 = .ok (.getfield 15, 3) := by decide +kernel
theorem dX9_findingAt_13 : decode cX9_findingAt 13 = .ok (.iload_n 1, 1) := by decide +kernel
theorem dX9_findingAt_14 : decode cX9_findingAt 14 = .ok (.if_icmp .eq 5, 3) := by decide +kernel
theorem dX9_findingAt_17 : decode cX9_findingAt 17 = .ok (.iconst 3, 1) := by decide +kernel
theorem dX9_findingAt_18 : decode cX9_findingAt 18 = .ok (.ireturn, 1) := by decide +kernel
theorem dX9_findingAt_19 : decode cX9_findingAt 19 = .ok (.iload_n 2, 1) := by decide +kernel
theorem dX9_findingAt_20 : decode cX9_findingAt 20 = .ok (.iconst 0, 1) := by decide +kernel
theorem dX9_findingAt_21 : decode cX9_findingAt 21 = .ok (.aload_n 0, 1) := by decide +kernel
theorem dX9_findingAt_22 : decode cX9_findingAt 22 = .ok (.getfield 19, 3) := by decide +kernel
theorem dX9_findingAt_25 : decode cX9_findingAt 25 = .ok (.iconst 1, 1) := by decide +kernel
theorem dX9_findingAt_26 : decode cX9_findingAt 26 = .ok (.isub, 1) := by decide +kernel
theorem dX9_findingAt_27 : decode cX9_findingAt 27 = .ok (.invokestatic 38, 3) := by decide +kernel
theorem dX9_findingAt_30 : decode cX9_findingAt 30 = .ok (.ifCond .eq 7, 3) := by decide +kernel
theorem dX9_findingAt_33 : decode cX9_findingAt 33 = .ok (.iconst 0, 1) := by decide +kernel
theorem dX9_findingAt_34 : decode cX9_findingAt 34 = .ok (.goto 4, 3) := by decide +kernel
theorem dX9_findingAt_37 : decode cX9_findingAt 37 = .ok (.iconst 2, 1) := by decide +kernel
theorem dX9_findingAt_38 : decode cX9_findingAt 38 = .ok (.ireturn, 1) := by decide +kernel
theorem dX9_holds_0 : decode cX9_holds 0 = .ok (.iload_n 1, 1) := by decide +kernel
theorem dX9_holds_1 : decode cX9_holds 1 = .ok (.iconst 0, 1) := by decide +kernel
theorem dX9_holds_2 : decode cX9_holds 2 = .ok (.aload_n 0, 1) := by decide +kernel
theorem dX9_holds_3 : decode cX9_holds 3 = .ok (.getfield 19, 3) := by decide +kernel
theorem dX9_holds_6 : decode cX9_holds 6 = .ok (.invokestatic 38, 3) := by decide +kernel
theorem dX9_holds_9 : decode cX9_holds 9 = .ok (.ifCond .eq 21, 3) := by decide +kernel
theorem dX9_holds_12 : decode cX9_holds 12 = .ok (.iload_n 2, 1) := by decide +kernel
theorem dX9_holds_13 : decode cX9_holds 13 = .ok (.iconst 0, 1) := by decide +kernel
theorem dX9_holds_14 : decode cX9_holds 14 = .ok (.aload_n 0, 1) := by decide +kernel
theorem dX9_holds_15 : decode cX9_holds 15 = .ok (.getfield 19, 3) := by decide +kernel
theorem dX9_holds_18 : decode cX9_holds 18 = .ok (.iload_n 1, 1) := by decide +kernel
theorem dX9_holds_19 : decode cX9_holds 19 = .ok (.isub, 1) := by decide +kernel
theorem dX9_holds_20 : decode cX9_holds 20 = .ok (.invokestatic 38, 3) := by decide +kernel
theorem dX9_holds_23 : decode cX9_holds 23 = .ok (.ifCond .eq 7, 3) := by decide +kernel
theorem dX9_holds_26 : decode cX9_holds 26 = .ok (.iconst 1, 1) := by decide +kernel
theorem dX9_holds_27 : decode cX9_holds 27 = .ok (.goto 4, 3) := by decide +kernel
theorem dX9_holds_30 : decode cX9_holds 30 = .ok (.iconst 0, 1) := by decide +kernel
theorem dX9_holds_31 : decode cX9_holds 31 = .ok (.ireturn, 1) := by decide +kernel
theorem dX9_store_0 : decode cX9_store 0 = .ok (.aload_n 0, 1) := by decide +kernel
theorem dX9_store_1 : decode cX9_store 1 = .ok (.getfield 15, 3) := by decide +kernel
theorem dX9_store_4 : decode cX9_store 4 = .ok (.ifCond .ne 14, 3) := by decide +kernel
theorem dX9_store_7 : decode cX9_store 7 = .ok (.aload_n 0, 1) := by decide +kernel
theorem dX9_store_8 : decode cX9_store 8 = .ok (.getfield 22, 3) := by decide +kernel
theorem dX9_store_11 : decode cX9_store 11 = .ok (.iload_n 1, 1) := by decide +kernel
theorem dX9_store_12 : decode cX9_store 12 = .ok (.iload_n 2, 1) := by decide +kernel
theorem dX9_store_13 : decode cX9_store 13 = .ok (.i2b, 1) := by decide +kernel
theorem dX9_store_14 : decode cX9_store 14 = .ok (.iastore, 1) := by decide +kernel
theorem dX9_store_15 : decode cX9_store 15 = .ok (.goto 23, 3) := by decide +kernel
theorem dX9_store_18 : decode cX9_store 18 = .ok (.aload_n 0, 1) := by decide +kernel
theorem dX9_store_19 : decode cX9_store 19 = .ok (.getfield 22, 3) := by decide +kernel
theorem dX9_store_22 : decode cX9_store 22 = .ok (.iload_n 1, 1) := by decide +kernel
theorem dX9_store_23 : decode cX9_store 23 = .ok (.aload_n 0, 1) := by decide +kernel
theorem dX9_store_24 : decode cX9_store 24 = .ok (.getfield 15, 3) := by decide +kernel
theorem dX9_store_27 : decode cX9_store 27 = .ok (.iconst 1, 1) := by decide +kernel
theorem dX9_store_28 : decode cX9_store 28 = .ok (.if_icmp .ne 8, 3) := by decide +kernel
theorem dX9_store_31 : decode cX9_store 31 = .ok (.iload_n 2, 1) := by decide +kernel
theorem dX9_store_32 : decode cX9_store 32 = .ok (.i2s, 1) := by decide +kernel
theorem dX9_store_33 : decode cX9_store 33 = .ok (.goto 4, 3) := by decide +kernel
theorem dX9_store_36 : decode cX9_store 36 = .ok (.iload_n 2, 1) := by decide +kernel
theorem dX9_store_37 : decode cX9_store 37 = .ok (.iastore, 1) := by decide +kernel
theorem dX9_store_38 : decode cX9_store 38 = .ok (.return_, 1) := by decide +kernel
theorem dX10_init_0 : decode cX10_init 0 = .ok (.aload_n 0, 1) := by decide +kernel
theorem dX10_init_1 : decode cX10_init 1 = .ok (.invokespecial 3, 3) := by decide +kernel
theorem dX10_init_4 : decode cX10_init 4 = .ok (.aload_n 0, 1) := by decide +kernel
theorem dX10_init_5 : decode cX10_init 5 = .ok (.iconst 0, 1) := by decide +kernel
theorem dX10_init_6 : decode cX10_init 6 = .ok (.putfield 9, 3) := by decide +kernel
theorem dX10_init_9 : decode cX10_init 9 = .ok (.aload_n 0, 1) := by decide +kernel
theorem dX10_init_10 : decode cX10_init 10 = .ok (.iconst 0, 1) := by decide +kernel
theorem dX10_init_11 : decode cX10_init 11 = .ok (.putfield 15, 3) := by decide +kernel
theorem dX10_init_14 : decode cX10_init 14 = .ok (.aload_n 0, 1) := by decide +kernel
theorem dX10_init_15 : decode cX10_init 15 = .ok (.sipush 999, 3) := by decide +kernel
theorem dX10_init_18 : decode cX10_init 18 = .ok (.putfield 18, 3) := by decide +kernel
theorem dX10_init_21 : decode cX10_init 21 = .ok (.aload_n 0, 1) := by decide +kernel
theorem dX10_init_22 : decode cX10_init 22 = .ok (.bipush 10, 2) := by decide +kernel
theorem dX10_init_24 : decode cX10_init 24 = .ok (.bipush 12, 2) := by decide +kernel
theorem dX10_init_26 : decode cX10_init 26 = .ok (.multianewarray 21 2, 4) := by decide +kernel
theorem dX10_init_30 : decode cX10_init 30 = .ok (.putfield 23, 3) := by decide +kernel
theorem dX10_init_33 : decode cX10_init 33 = .ok (.aload_n 0, 1) := by decide +kernel
theorem dX10_init_34 : decode cX10_init 34 = .ok (.sipush 150, 3) := by decide +kernel
theorem dX10_init_37 : decode cX10_init 37 = .ok (.newarray .int, 2) := by decide +kernel
theorem dX10_init_39 : decode cX10_init 39 = .ok (.putfield 26, 3) := by decide +kernel
theorem dX10_init_42 : decode cX10_init 42 = .ok (.aload_n 0, 1) := by decide +kernel
theorem dX10_init_43 : decode cX10_init 43 = .ok (.sipush 150, 3) := by decide +kernel
theorem dX10_init_46 : decode cX10_init 46 = .ok (.newarray .int, 2) := by decide +kernel
theorem dX10_init_48 : decode cX10_init 48 = .ok (.putfield 30, 3) := by decide +kernel
theorem dX10_init_51 : decode cX10_init 51 = .ok (.aload_n 0, 1) := by decide +kernel
theorem dX10_init_52 : decode cX10_init 52 = .ok (.sipush 150, 3) := by decide +kernel
theorem dX10_init_55 : decode cX10_init 55 = .ok (.newarray .int, 2) := by decide +kernel
theorem dX10_init_57 : decode cX10_init 57 = .ok (.putfield 33, 3) := by decide +kernel
theorem dX10_init_60 : decode cX10_init 60 = .ok (.aload_n 0, 1) := by decide +kernel
theorem dX10_init_61 : decode cX10_init 61 = .ok (.sipush 150, 3) := by decide +kernel
theorem dX10_init_64 : decode cX10_init 64 = .ok (.newarray .int, 2) := by decide +kernel
theorem dX10_init_66 : decode cX10_init 66 = .ok (.putfield 36, 3) := by decide +kernel
theorem dX10_init_69 : decode cX10_init 69 = .ok (.aload_n 0, 1) := by decide +kernel
theorem dX10_init_70 : decode cX10_init 70 = .ok (.sipush 150, 3) := by decide +kernel
theorem dX10_init_73 : decode cX10_init 73 = .ok (.newarray .int, 2) := by decide +kernel
theorem dX10_init_75 : decode cX10_init 75 = .ok (.putfield 39, 3) := by decide +kernel
theorem dX10_init_78 : decode cX10_init 78 = .ok (.aload_n 0, 1) := by decide +kernel
theorem dX10_init_79 : decode cX10_init 79 = .ok (.bipush 10, 2) := by decide +kernel
theorem dX10_init_81 : decode cX10_init 81 = .ok (.bipush 12, 2) := by decide +kernel
theorem dX10_init_83 : decode cX10_init 83 = .ok (.multianewarray 21 2, 4) := by decide +kernel
theorem dX10_init_87 : decode cX10_init 87 = .ok (.putfield 42, 3) := by decide +kernel
theorem dX10_init_90 : decode cX10_init 90 = .ok (.return_, 1) := by decide +kernel
theorem dX10_latestTime_0 : decode cX10_latestTime 0 = .ok (.aload_n 0, 1) := by decide +kernel
theorem dX10_latestTime_1 : decode cX10_latestTime 1 = .ok (.getfield 9, 3) := by decide +kernel
theorem dX10_latestTime_4 : decode cX10_latestTime 4 = .ok (.ifCond .ne 7, 3) := by decide +kernel
theorem dX10_latestTime_7 : decode cX10_latestTime 7 = .ok (.iconst 0, 1) := by decide +kernel
theorem dX10_latestTime_8 : decode cX10_latestTime 8 = .ok (.goto 14, 3) := by decide +kernel
theorem dX10_latestTime_11 : decode cX10_latestTime 11 = .ok (.aload_n 0, 1) := by decide +kernel
theorem dX10_latestTime_12 : decode cX10_latestTime 12 = .ok (.getfield 39, 3) := by decide +kernel
theorem dX10_latestTime_15 : decode cX10_latestTime 15 = .ok (.aload_n 0, 1) := by decide +kernel
theorem dX10_latestTime_16 : decode cX10_latestTime 16 = .ok (.getfield 9, 3) := by decide +kernel
theorem dX10_latestTime_19 : decode cX10_latestTime 19 = .ok (.iconst 1, 1) := by decide +kernel
theorem dX10_latestTime_20 : decode cX10_latestTime 20 = .ok (.isub, 1) := by decide +kernel
theorem dX10_latestTime_21 : decode cX10_latestTime 21 = .ok (.iaload, 1) := by decide +kernel
theorem dX10_latestTime_22 : decode cX10_latestTime 22 = .ok (.ireturn, 1) := by decide +kernel
theorem dX10_tell_0 : decode cX10_tell 0 = .ok (.aload_n 0, 1) := by decide +kernel
theorem dX10_tell_1 : decode cX10_tell 1 = .ok (.getfield 9, 3) := by decide +kernel
theorem dX10_tell_4 : decode cX10_tell 4 = .ok (.sipush 150, 3) := by decide +kernel
theorem dX10_tell_7 : decode cX10_tell 7 = .ok (.if_icmp .lt 4, 3) := by decide +kernel
theorem dX10_tell_10 : decode cX10_tell 10 = .ok (.return_, 1) := by decide +kernel
theorem dX10_tell_11 : decode cX10_tell 11 = .ok (.aload_n 0, 1) := by decide +kernel
theorem dX10_tell_12 : decode cX10_tell 12 = .ok (.getfield 26, 3) := by decide +kernel
theorem dX10_tell_15 : decode cX10_tell 15 = .ok (.aload_n 0, 1) := by decide +kernel
theorem dX10_tell_16 : decode cX10_tell 16 = .ok (.getfield 9, 3) := by decide +kernel
theorem dX10_tell_19 : decode cX10_tell 19 = .ok (.iload_n 1, 1) := by decide +kernel
theorem dX10_tell_20 : decode cX10_tell 20 = .ok (.iastore, 1) := by decide +kernel
theorem dX10_tell_21 : decode cX10_tell 21 = .ok (.aload_n 0, 1) := by decide +kernel
theorem dX10_tell_22 : decode cX10_tell 22 = .ok (.getfield 30, 3) := by decide +kernel
theorem dX10_tell_25 : decode cX10_tell 25 = .ok (.aload_n 0, 1) := by decide +kernel
theorem dX10_tell_26 : decode cX10_tell 26 = .ok (.getfield 9, 3) := by decide +kernel
theorem dX10_tell_29 : decode cX10_tell 29 = .ok (.iload_n 2, 1) := by decide +kernel
theorem dX10_tell_30 : decode cX10_tell 30 = .ok (.iastore, 1) := by decide +kernel
theorem dX10_tell_31 : decode cX10_tell 31 = .ok (.aload_n 0, 1) := by decide +kernel
theorem dX10_tell_32 : decode cX10_tell 32 = .ok (.getfield 33, 3) := by decide +kernel
theorem dX10_tell_35 : decode cX10_tell 35 = .ok (.aload_n 0, 1) := by decide +kernel
theorem dX10_tell_36 : decode cX10_tell 36 = .ok (.getfield 9, 3) := by decide +kernel
theorem dX10_tell_39 : decode cX10_tell 39 = .ok (.iload_n 3, 1) := by decide +kernel
theorem dX10_tell_40 : decode cX10_tell 40 = .ok (.iastore, 1) := by decide +kernel
theorem dX10_tell_41 : decode cX10_tell 41 = .ok (.aload_n 0, 1) := by decide +kernel
theorem dX10_tell_42 : decode cX10_tell 42 = .ok (.getfield 36, 3) := by decide +kernel
theorem dX10_tell_45 : decode cX10_tell 45 = .ok (.aload_n 0, 1) := by decide +kernel
theorem dX10_tell_46 : decode cX10_tell 46 = .ok (.getfield 9, 3) := by decide +kernel
theorem dX10_tell_49 : decode cX10_tell 49 = .ok (.aload_n 0, 1) := by decide +kernel
theorem dX10_tell_50 : decode cX10_tell 50 = .ok (.getfield 42, 3) := by decide +kernel
theorem dX10_tell_53 : decode cX10_tell 53 = .ok (.iload_n 1, 1) := by decide +kernel
theorem dX10_tell_54 : decode cX10_tell 54 = .ok (.aaload, 1) := by decide +kernel
theorem dX10_tell_55 : decode cX10_tell 55 = .ok (.iload_n 2, 1) := by decide +kernel
theorem dX10_tell_56 : decode cX10_tell 56 = .ok (.iaload, 1) := by decide +kernel
theorem dX10_tell_57 : decode cX10_tell 57 = .ok (.iastore, 1) := by decide +kernel
theorem dX10_tell_58 : decode cX10_tell 58 = .ok (.aload_n 0, 1) := by decide +kernel
theorem dX10_tell_59 : decode cX10_tell 59 = .ok (.getfield 39, 3) := by decide +kernel
theorem dX10_tell_62 : decode cX10_tell 62 = .ok (.aload_n 0, 1) := by decide +kernel
theorem dX10_tell_63 : decode cX10_tell 63 = .ok (.getfield 9, 3) := by decide +kernel
theorem dX10_tell_66 : decode cX10_tell 66 = .ok (.iload 4, 2) := by decide +kernel
theorem dX10_tell_68 : decode cX10_tell 68 = .ok (.iastore, 1) := by decide +kernel
theorem dX10_tell_69 : decode cX10_tell 69 = .ok (.aload_n 0, 1) := by decide +kernel
theorem dX10_tell_70 : decode cX10_tell 70 = .ok (.getfield 42, 3) := by decide +kernel
theorem dX10_tell_73 : decode cX10_tell 73 = .ok (.iload_n 1, 1) := by decide +kernel
theorem dX10_tell_74 : decode cX10_tell 74 = .ok (.aaload, 1) := by decide +kernel
theorem dX10_tell_75 : decode cX10_tell 75 = .ok (.iload_n 2, 1) := by decide +kernel
theorem dX10_tell_76 : decode cX10_tell 76 = .ok (.iload_n 3, 1) := by decide +kernel
theorem dX10_tell_77 : decode cX10_tell 77 = .ok (.iastore, 1) := by decide +kernel
theorem dX10_tell_78 : decode cX10_tell 78 = .ok (.aload_n 0, 1) := by decide +kernel
theorem dX10_tell_79 : decode cX10_tell 79 = .ok (.dup, 1) := by decide +kernel
theorem dX10_tell_80 : decode cX10_tell 80 = .ok (.getfield 9, 3) := by decide +kernel
theorem dX10_tell_83 : decode cX10_tell 83 = .ok (.iconst 1, 1) := by decide +kernel
theorem dX10_tell_84 : decode cX10_tell 84 = .ok (.iadd, 1) := by decide +kernel
theorem dX10_tell_85 : decode cX10_tell 85 = .ok (.putfield 9, 3) := by decide +kernel
theorem dX10_tell_88 : decode cX10_tell 88 = .ok (.aload_n 0, 1) := by decide +kernel
theorem dX10_tell_89 : decode cX10_tell 89 = .ok (.invokevirtual 45, 3) := by decide +kernel
theorem dX10_tell_92 : decode cX10_tell 92 = .ok (.return_, 1) := by decide +kernel
theorem dX10_lookAsOf_0 : decode cX10_lookAsOf 0 = .ok (.aload_n 0, 1) := by decide +kernel
theorem dX10_lookAsOf_1 : decode cX10_lookAsOf 1 = .ok (.iload_n 1, 1) := by decide +kernel
theorem dX10_lookAsOf_2 : decode cX10_lookAsOf 2 = .ok (.putfield 18, 3) := by decide +kernel
theorem dX10_lookAsOf_5 : decode cX10_lookAsOf 5 = .ok (.aload_n 0, 1) := by decide +kernel
theorem dX10_lookAsOf_6 : decode cX10_lookAsOf 6 = .ok (.iconst 0, 1) := by decide +kernel
theorem dX10_lookAsOf_7 : decode cX10_lookAsOf 7 = .ok (.putfield 15, 3) := by decide +kernel
theorem dX10_lookAsOf_10 : decode cX10_lookAsOf 10 = .ok (.iconst 0, 1) := by decide +kernel
theorem dX10_lookAsOf_11 : decode cX10_lookAsOf 11 = .ok (.istore_n 2, 1) := by decide +kernel
theorem dX10_lookAsOf_12 : decode cX10_lookAsOf 12 = .ok (.iload_n 2, 1) := by decide +kernel
theorem dX10_lookAsOf_13 : decode cX10_lookAsOf 13 = .ok (.bipush 10, 2) := by decide +kernel
theorem dX10_lookAsOf_15 : decode cX10_lookAsOf 15 = .ok (.if_icmp .ge 19, 3) := by decide +kernel
theorem dX10_lookAsOf_18 : decode cX10_lookAsOf 18 = .ok (.aload_n 0, 1) := by decide +kernel
theorem dX10_lookAsOf_19 : decode cX10_lookAsOf 19 = .ok (.getfield 23, 3) := by decide +kernel
theorem dX10_lookAsOf_22 : decode cX10_lookAsOf 22 = .ok (.iload_n 2, 1) := by decide +kernel
theorem dX10_lookAsOf_23 : decode cX10_lookAsOf 23 = .ok (.aaload, 1) := by decide +kernel
theorem dX10_lookAsOf_24 : decode cX10_lookAsOf 24 = .ok (.iconst 0, 1) := by decide +kernel
theorem dX10_lookAsOf_25 : decode cX10_lookAsOf 25 = .ok (.invokestatic 48, 3) := by decide +kernel
theorem dX10_lookAsOf_28 : decode cX10_lookAsOf 28 = .ok (.iinc 2 1, 3) := by decide +kernel
theorem dX10_lookAsOf_31 : decode cX10_lookAsOf 31 = .ok (.goto (-19), 3) := by decide +kernel
theorem dX10_lookAsOf_34 : decode cX10_lookAsOf 34 = .ok (.aload_n 0, 1) := by decide +kernel
theorem dX10_lookAsOf_35 : decode cX10_lookAsOf 35 = .ok (.invokevirtual 45, 3) := by decide +kernel
theorem dX10_lookAsOf_38 : decode cX10_lookAsOf 38 = .ok (.return_, 1) := by decide +kernel
theorem dX10_countOn_0 : decode cX10_countOn 0 = .ok (.aload_n 0, 1) := by decide +kernel
theorem dX10_countOn_1 : decode cX10_countOn 1 = .ok (.getfield 15, 3) := by decide +kernel
theorem dX10_countOn_4 : decode cX10_countOn 4 = .ok (.aload_n 0, 1) := by decide +kernel
theorem dX10_countOn_5 : decode cX10_countOn 5 = .ok (.getfield 9, 3) := by decide +kernel
theorem dX10_countOn_8 : decode cX10_countOn 8 = .ok (.if_icmp .ge 65, 3) := by decide +kernel
theorem dX10_countOn_11 : decode cX10_countOn 11 = .ok (.aload_n 0, 1) := by decide +kernel
theorem dX10_countOn_12 : decode cX10_countOn 12 = .ok (.getfield 39, 3) := by decide +kernel
theorem dX10_countOn_15 : decode cX10_countOn 15 = .ok (.aload_n 0, 1) := by decide +kernel
theorem dX10_countOn_16 : decode cX10_countOn 16 = .ok (.getfield 15, 3) := by decide +kernel
theorem dX10_countOn_19 : decode cX10_countOn 19 = .ok (.iaload, 1) := by decide +kernel
theorem dX10_countOn_20 : decode cX10_countOn 20 = .ok (.aload_n 0, 1) := by decide +kernel
theorem dX10_countOn_21 : decode cX10_countOn 21 = .ok (.getfield 18, 3) := by decide +kernel
theorem dX10_countOn_24 : decode cX10_countOn 24 = .ok (.if_icmp .gt 49, 3) := by decide +kernel
theorem dX10_countOn_27 : decode cX10_countOn 27 = .ok (.aload_n 0, 1) := by decide +kernel
theorem dX10_countOn_28 : decode cX10_countOn 28 = .ok (.getfield 23, 3) := by decide +kernel
theorem dX10_countOn_31 : decode cX10_countOn 31 = .ok (.aload_n 0, 1) := by decide +kernel
theorem dX10_countOn_32 : decode cX10_countOn 32 = .ok (.getfield 26, 3) := by decide +kernel
theorem dX10_countOn_35 : decode cX10_countOn 35 = .ok (.aload_n 0, 1) := by decide +kernel
theorem dX10_countOn_36 : decode cX10_countOn 36 = .ok (.getfield 15, 3) := by decide +kernel
theorem dX10_countOn_39 : decode cX10_countOn 39 = .ok (.iaload, 1) := by decide +kernel
theorem dX10_countOn_40 : decode cX10_countOn 40 = .ok (.aaload, 1) := by decide +kernel
theorem dX10_countOn_41 : decode cX10_countOn 41 = .ok (.aload_n 0, 1) := by decide +kernel
theorem dX10_countOn_42 : decode cX10_countOn 42 = .ok (.getfield 30, 3) := by decide +kernel
theorem dX10_countOn_45 : decode cX10_countOn 45 = .ok (.aload_n 0, 1) := by decide +kernel
theorem dX10_countOn_46 : decode cX10_countOn 46 = .ok (.getfield 15, 3) := by decide +kernel
theorem dX10_countOn_49 : decode cX10_countOn 49 = .ok (.iaload, 1) := by decide +kernel
theorem dX10_countOn_50 : decode cX10_countOn 50 = .ok (.aload_n 0, 1) := by decide +kernel
theorem dX10_countOn_51 : decode cX10_countOn 51 = .ok (.getfield 33, 3) := by decide +kernel
theorem dX10_countOn_54 : decode cX10_countOn 54 = .ok (.aload_n 0, 1) := by decide +kernel
theorem dX10_countOn_55 : decode cX10_countOn 55 = .ok (.getfield 15, 3) := by decide +kernel
theorem dX10_countOn_58 : decode cX10_countOn 58 = .ok (.iaload, 1) := by decide +kernel
theorem dX10_countOn_59 : decode cX10_countOn 59 = .ok (.iastore, 1) := by decide +kernel
theorem dX10_countOn_60 : decode cX10_countOn 60 = .ok (.aload_n 0, 1) := by decide +kernel
theorem dX10_countOn_61 : decode cX10_countOn 61 = .ok (.dup, 1) := by decide +kernel
theorem dX10_countOn_62 : decode cX10_countOn 62 = .ok (.getfield 15, 3) := by decide +kernel
theorem dX10_countOn_65 : decode cX10_countOn 65 = .ok (.iconst 1, 1) := by decide +kernel
theorem dX10_countOn_66 : decode cX10_countOn 66 = .ok (.iadd, 1) := by decide +kernel
theorem dX10_countOn_67 : decode cX10_countOn 67 = .ok (.putfield 15, 3) := by decide +kernel
theorem dX10_countOn_70 : decode cX10_countOn 70 = .ok (.goto (-70), 3) := by decide +kernel
theorem dX10_countOn_73 : decode cX10_countOn 73 = .ok (.return_, 1) := by decide +kernel
theorem dJ6_bitCount_0f7a4_0 : decode cJ6_bitCount_0f7a4 0 = .ok (.iload_n 0, 1) := by decide +kernel
theorem dJ6_bitCount_0f7a4_1 : decode cJ6_bitCount_0f7a4 1 = .ok (.iload_n 0, 1) := by decide +kernel
theorem dJ6_bitCount_0f7a4_2 : decode cJ6_bitCount_0f7a4 2 = .ok (.iconst 1, 1) := by decide +kernel
theorem dJ6_bitCount_0f7a4_3 : decode cJ6_bitCount_0f7a4 3 = .ok (.iushr, 1) := by decide +kernel
theorem dJ6_bitCount_0f7a4_4 : decode cJ6_bitCount_0f7a4 4 = .ok (.ldc_w 265, 3) := by decide +kernel
theorem dJ6_bitCount_0f7a4_7 : decode cJ6_bitCount_0f7a4 7 = .ok (.iand, 1) := by decide +kernel
theorem dJ6_bitCount_0f7a4_8 : decode cJ6_bitCount_0f7a4 8 = .ok (.isub, 1) := by decide +kernel
theorem dJ6_bitCount_0f7a4_9 : decode cJ6_bitCount_0f7a4 9 = .ok (.istore_n 0, 1) := by decide +kernel
theorem dJ6_bitCount_0f7a4_10 : decode cJ6_bitCount_0f7a4 10 = .ok (.iload_n 0, 1) := by decide +kernel
theorem dJ6_bitCount_0f7a4_11 : decode cJ6_bitCount_0f7a4 11 = .ok (.ldc_w 266, 3) := by decide +kernel
theorem dJ6_bitCount_0f7a4_14 : decode cJ6_bitCount_0f7a4 14 = .ok (.iand, 1) := by decide +kernel
theorem dJ6_bitCount_0f7a4_15 : decode cJ6_bitCount_0f7a4 15 = .ok (.iload_n 0, 1) := by decide +kernel
theorem dJ6_bitCount_0f7a4_16 : decode cJ6_bitCount_0f7a4 16 = .ok (.iconst 2, 1) := by decide +kernel
theorem dJ6_bitCount_0f7a4_17 : decode cJ6_bitCount_0f7a4 17 = .ok (.iushr, 1) := by decide +kernel
theorem dJ6_bitCount_0f7a4_18 : decode cJ6_bitCount_0f7a4 18 = .ok (.ldc_w 266, 3) := by decide +kernel
theorem dJ6_bitCount_0f7a4_21 : decode cJ6_bitCount_0f7a4 21 = .ok (.iand, 1) := by decide +kernel
theorem dJ6_bitCount_0f7a4_22 : decode cJ6_bitCount_0f7a4 22 = .ok (.iadd, 1) := by decide +kernel
theorem dJ6_bitCount_0f7a4_23 : decode cJ6_bitCount_0f7a4 23 = .ok (.istore_n 0, 1) := by decide +kernel
theorem dJ6_bitCount_0f7a4_24 : decode cJ6_bitCount_0f7a4 24 = .ok (.iload_n 0, 1) := by decide +kernel
theorem dJ6_bitCount_0f7a4_25 : decode cJ6_bitCount_0f7a4 25 = .ok (.iload_n 0, 1) := by decide +kernel
theorem dJ6_bitCount_0f7a4_26 : decode cJ6_bitCount_0f7a4 26 = .ok (.iconst 4, 1) := by decide +kernel
theorem dJ6_bitCount_0f7a4_27 : decode cJ6_bitCount_0f7a4 27 = .ok (.iushr, 1) := by decide +kernel
theorem dJ6_bitCount_0f7a4_28 : decode cJ6_bitCount_0f7a4 28 = .ok (.iadd, 1) := by decide +kernel
theorem dJ6_bitCount_0f7a4_29 : decode cJ6_bitCount_0f7a4 29 = .ok (.ldc_w 267, 3) := by decide +kernel
theorem dJ6_bitCount_0f7a4_32 : decode cJ6_bitCount_0f7a4 32 = .ok (.iand, 1) := by decide +kernel
theorem dJ6_bitCount_0f7a4_33 : decode cJ6_bitCount_0f7a4 33 = .ok (.istore_n 0, 1) := by decide +kernel
theorem dJ6_bitCount_0f7a4_34 : decode cJ6_bitCount_0f7a4 34 = .ok (.iload_n 0, 1) := by decide +kernel
theorem dJ6_bitCount_0f7a4_35 : decode cJ6_bitCount_0f7a4 35 = .ok (.iload_n 0, 1) := by decide +kernel
theorem dJ6_bitCount_0f7a4_36 : decode cJ6_bitCount_0f7a4 36 = .ok (.bipush 8, 2) := by decide +kernel
theorem dJ6_bitCount_0f7a4_38 : decode cJ6_bitCount_0f7a4 38 = .ok (.iushr, 1) := by decide +kernel
theorem dJ6_bitCount_0f7a4_39 : decode cJ6_bitCount_0f7a4 39 = .ok (.iadd, 1) := by decide +kernel
theorem dJ6_bitCount_0f7a4_40 : decode cJ6_bitCount_0f7a4 40 = .ok (.istore_n 0, 1) := by decide +kernel
theorem dJ6_bitCount_0f7a4_41 : decode cJ6_bitCount_0f7a4 41 = .ok (.iload_n 0, 1) := by decide +kernel
theorem dJ6_bitCount_0f7a4_42 : decode cJ6_bitCount_0f7a4 42 = .ok (.iload_n 0, 1) := by decide +kernel
theorem dJ6_bitCount_0f7a4_43 : decode cJ6_bitCount_0f7a4 43 = .ok (.bipush 16, 2) := by decide +kernel
theorem dJ6_bitCount_0f7a4_45 : decode cJ6_bitCount_0f7a4 45 = .ok (.iushr, 1) := by decide +kernel
theorem dJ6_bitCount_0f7a4_46 : decode cJ6_bitCount_0f7a4 46 = .ok (.iadd, 1) := by decide +kernel
theorem dJ6_bitCount_0f7a4_47 : decode cJ6_bitCount_0f7a4 47 = .ok (.istore_n 0, 1) := by decide +kernel
theorem dJ6_bitCount_0f7a4_48 : decode cJ6_bitCount_0f7a4 48 = .ok (.iload_n 0, 1) := by decide +kernel
theorem dJ6_bitCount_0f7a4_49 : decode cJ6_bitCount_0f7a4 49 = .ok (.bipush 63, 2) := by decide +kernel
theorem dJ6_bitCount_0f7a4_51 : decode cJ6_bitCount_0f7a4 51 = .ok (.iand, 1) := by decide +kernel
theorem dJ6_bitCount_0f7a4_52 : decode cJ6_bitCount_0f7a4 52 = .ok (.ireturn, 1) := by decide +kernel
theorem dJ9_abs_0f7a4_0 : decode cJ9_abs_0f7a4 0 = .ok (.iload_n 0, 1) := by decide +kernel
theorem dJ9_abs_0f7a4_1 : decode cJ9_abs_0f7a4 1 = .ok (.ifCond .ge 8, 3) := by decide +kernel
theorem dJ9_abs_0f7a4_4 : decode cJ9_abs_0f7a4 4 = .ok (.iload_n 0, 1) := by decide +kernel
theorem dJ9_abs_0f7a4_5 : decode cJ9_abs_0f7a4 5 = .ok (.ineg, 1) := by decide +kernel
theorem dJ9_abs_0f7a4_6 : decode cJ9_abs_0f7a4 6 = .ok (.goto 4, 3) := by decide +kernel
theorem dJ9_abs_0f7a4_9 : decode cJ9_abs_0f7a4 9 = .ok (.iload_n 0, 1) := by decide +kernel
theorem dJ9_abs_0f7a4_10 : decode cJ9_abs_0f7a4 10 = .ok (.ireturn, 1) := by decide +kernel
theorem dJ9_abs_067f4_0 : decode cJ9_abs_067f4 0 = .ok (.lload_n 0, 1) := by decide +kernel
theorem dJ9_abs_067f4_1 : decode cJ9_abs_067f4 1 = .ok (.lconst 0, 1) := by decide +kernel
theorem dJ9_abs_067f4_2 : decode cJ9_abs_067f4 2 = .ok (.lcmp, 1) := by decide +kernel
theorem dJ9_abs_067f4_3 : decode cJ9_abs_067f4 3 = .ok (.ifCond .ge 8, 3) := by decide +kernel
theorem dJ9_abs_067f4_6 : decode cJ9_abs_067f4 6 = .ok (.lload_n 0, 1) := by decide +kernel
theorem dJ9_abs_067f4_7 : decode cJ9_abs_067f4 7 = .ok (.lneg, 1) := by decide +kernel
theorem dJ9_abs_067f4_8 : decode cJ9_abs_067f4 8 = .ok (.goto 4, 3) := by decide +kernel
theorem dJ9_abs_067f4_11 : decode cJ9_abs_067f4 11 = .ok (.lload_n 0, 1) := by decide +kernel
theorem dJ9_abs_067f4_12 : decode cJ9_abs_067f4 12 = .ok (.lreturn, 1) := by decide +kernel
theorem dJ9_max_7cf53_0 : decode cJ9_max_7cf53 0 = .ok (.iload_n 0, 1) := by decide +kernel
theorem dJ9_max_7cf53_1 : decode cJ9_max_7cf53 1 = .ok (.iload_n 1, 1) := by decide +kernel
theorem dJ9_max_7cf53_2 : decode cJ9_max_7cf53 2 = .ok (.if_icmp .lt 7, 3) := by decide +kernel
theorem dJ9_max_7cf53_5 : decode cJ9_max_7cf53 5 = .ok (.iload_n 0, 1) := by decide +kernel
theorem dJ9_max_7cf53_6 : decode cJ9_max_7cf53 6 = .ok (.goto 4, 3) := by decide +kernel
theorem dJ9_max_7cf53_9 : decode cJ9_max_7cf53 9 = .ok (.iload_n 1, 1) := by decide +kernel
theorem dJ9_max_7cf53_10 : decode cJ9_max_7cf53 10 = .ok (.ireturn, 1) := by decide +kernel
theorem dJ9_min_7cf53_0 : decode cJ9_min_7cf53 0 = .ok (.iload_n 0, 1) := by decide +kernel
theorem dJ9_min_7cf53_1 : decode cJ9_min_7cf53 1 = .ok (.iload_n 1, 1) := by decide +kernel
theorem dJ9_min_7cf53_2 : decode cJ9_min_7cf53 2 = .ok (.if_icmp .gt 7, 3) := by decide +kernel
theorem dJ9_min_7cf53_5 : decode cJ9_min_7cf53 5 = .ok (.iload_n 0, 1) := by decide +kernel
theorem dJ9_min_7cf53_6 : decode cJ9_min_7cf53 6 = .ok (.goto 4, 3) := by decide +kernel
theorem dJ9_min_7cf53_9 : decode cJ9_min_7cf53 9 = .ok (.iload_n 1, 1) := by decide +kernel
theorem dJ9_min_7cf53_10 : decode cJ9_min_7cf53 10 = .ok (.ireturn, 1) := by decide +kernel
theorem dJ7_fill_d0a16_0 : decode cJ7_fill_d0a16 0 = .ok (.iconst 0, 1) := by decide +kernel
theorem dJ7_fill_d0a16_1 : decode cJ7_fill_d0a16 1 = .ok (.istore_n 3, 1) := by decide +kernel
theorem dJ7_fill_d0a16_2 : decode cJ7_fill_d0a16 2 = .ok (.aload_n 0, 1) := by decide +kernel
theorem dJ7_fill_d0a16_3 : decode cJ7_fill_d0a16 3 = .ok (.arraylength, 1) := by decide +kernel
theorem dJ7_fill_d0a16_4 : decode cJ7_fill_d0a16 4 = .ok (.istore 4, 2) := by decide +kernel
theorem dJ7_fill_d0a16_6 : decode cJ7_fill_d0a16 6 = .ok (.iload_n 3, 1) := by decide +kernel
theorem dJ7_fill_d0a16_7 : decode cJ7_fill_d0a16 7 = .ok (.iload 4, 2) := by decide +kernel
theorem dJ7_fill_d0a16_9 : decode cJ7_fill_d0a16 9 = .ok (.if_icmp .ge 13, 3) := by decide +kernel
theorem dJ7_fill_d0a16_12 : decode cJ7_fill_d0a16 12 = .ok (.aload_n 0, 1) := by decide +kernel
theorem dJ7_fill_d0a16_13 : decode cJ7_fill_d0a16 13 = .ok (.iload_n 3, 1) := by decide +kernel
theorem dJ7_fill_d0a16_14 : decode cJ7_fill_d0a16 14 = .ok (.lload_n 1, 1) := by decide +kernel
theorem dJ7_fill_d0a16_15 : decode cJ7_fill_d0a16 15 = .ok (.lastore, 1) := by decide +kernel
theorem dJ7_fill_d0a16_16 : decode cJ7_fill_d0a16 16 = .ok (.iinc 3 1, 3) := by decide +kernel
theorem dJ7_fill_d0a16_19 : decode cJ7_fill_d0a16 19 = .ok (.goto (-13), 3) := by decide +kernel
theorem dJ7_fill_d0a16_22 : decode cJ7_fill_d0a16 22 = .ok (.return_, 1) := by decide +kernel
theorem dJ7_fill_53178_0 : decode cJ7_fill_53178 0 = .ok (.iconst 0, 1) := by decide +kernel
theorem dJ7_fill_53178_1 : decode cJ7_fill_53178 1 = .ok (.istore_n 2, 1) := by decide +kernel
theorem dJ7_fill_53178_2 : decode cJ7_fill_53178 2 = .ok (.aload_n 0, 1) := by decide +kernel
theorem dJ7_fill_53178_3 : decode cJ7_fill_53178 3 = .ok (.arraylength, 1) := by decide +kernel
theorem dJ7_fill_53178_4 : decode cJ7_fill_53178 4 = .ok (.istore_n 3, 1) := by decide +kernel
theorem dJ7_fill_53178_5 : decode cJ7_fill_53178 5 = .ok (.iload_n 2, 1) := by decide +kernel
theorem dJ7_fill_53178_6 : decode cJ7_fill_53178 6 = .ok (.iload_n 3, 1) := by decide +kernel
theorem dJ7_fill_53178_7 : decode cJ7_fill_53178 7 = .ok (.if_icmp .ge 13, 3) := by decide +kernel
theorem dJ7_fill_53178_10 : decode cJ7_fill_53178 10 = .ok (.aload_n 0, 1) := by decide +kernel
theorem dJ7_fill_53178_11 : decode cJ7_fill_53178 11 = .ok (.iload_n 2, 1) := by decide +kernel
theorem dJ7_fill_53178_12 : decode cJ7_fill_53178 12 = .ok (.iload_n 1, 1) := by decide +kernel
theorem dJ7_fill_53178_13 : decode cJ7_fill_53178 13 = .ok (.iastore, 1) := by decide +kernel
theorem dJ7_fill_53178_14 : decode cJ7_fill_53178 14 = .ok (.iinc 2 1, 3) := by decide +kernel
theorem dJ7_fill_53178_17 : decode cJ7_fill_53178 17 = .ok (.goto (-12), 3) := by decide +kernel
theorem dJ7_fill_53178_20 : decode cJ7_fill_53178 20 = .ok (.return_, 1) := by decide +kernel
