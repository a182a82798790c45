theorem dX0_init_0 : decode cX0_init 0 = .ok (.aload_n 0, 1) := by decide +kernel
theorem dX0_init_1 : decode cX0_init 1 = .ok (.invokespecial 3, 3) := by decide +kernel
theorem dX0_init_4 : decode cX0_init 4 = .ok (.aload_n 0, 1) := by decide +kernel
theorem dX0_init_5 : decode cX0_init 5 = .ok (.bipush 24, 2) := by decide +kernel
theorem dX0_init_7 : decode cX0_init 7 = .ok (.newarray .int, 2) := by decide +kernel
theorem dX0_init_9 : decode cX0_init 9 = .ok (.putfield 9, 3) := by decide +kernel
theorem dX0_init_12 : decode cX0_init 12 = .ok (.aload_n 0, 1) := by decide +kernel
theorem dX0_init_13 : decode cX0_init 13 = .ok (.iconst 0, 1) := by decide +kernel
theorem dX0_init_14 : decode cX0_init 14 = .ok (.putfield 15, 3) := by decide +kernel
theorem dX0_init_17 : decode cX0_init 17 = .ok (.aload_n 0, 1) := by decide +kernel
theorem dX0_init_18 : decode cX0_init 18 = .ok (.iconst 0, 1) := by decide +kernel
theorem dX0_init_19 : decode cX0_init 19 = .ok (.putfield 19, 3) := by decide +kernel
theorem dX0_init_22 : decode cX0_init 22 = .ok (.return_, 1) := by decide +kernel
theorem dX0_begin_0 : decode cX0_begin 0 = .ok (.iconst 0, 1) := by decide +kernel
theorem dX0_begin_1 : decode cX0_begin 1 = .ok (.istore_n 2, 1) := by decide +kernel
theorem dX0_begin_2 : decode cX0_begin 2 = .ok (.iload_n 2, 1) := by decide +kernel
theorem dX0_begin_3 : decode cX0_begin 3 = .ok (.bipush 24, 2) := by decide +kernel
theorem dX0_begin_5 : decode cX0_begin 5 = .ok (.if_icmp .ge 17, 3) := by decide +kernel
theorem dX0_begin_8 : decode cX0_begin 8 = .ok (.aload_n 0, 1) := by decide +kernel
theorem dX0_begin_9 : decode cX0_begin 9 = .ok (.getfield 9, 3) := by decide +kernel
theorem dX0_begin_12 : decode cX0_begin 12 = .ok (.iload_n 2, 1) := by decide +kernel
theorem dX0_begin_13 : decode cX0_begin 13 = .ok (.bipush 20, 2) := by decide +kernel
theorem dX0_begin_15 : decode cX0_begin 15 = .ok (.iastore, 1) := by decide +kernel
theorem dX0_begin_16 : decode cX0_begin 16 = .ok (.iinc 2 1, 3) := by decide +kernel
theorem dX0_begin_19 : decode cX0_begin 19 = .ok (.goto (-17), 3) := by decide +kernel
theorem dX0_begin_22 : decode cX0_begin 22 = .ok (.aload_n 0, 1) := by decide +kernel
theorem dX0_begin_23 : decode cX0_begin 23 = .ok (.iconst 0, 1) := by decide +kernel
theorem dX0_begin_24 : decode cX0_begin 24 = .ok (.putfield 15, 3) := by decide +kernel
theorem dX0_begin_27 : decode cX0_begin 27 = .ok (.aload_n 0, 1) := by decide +kernel
theorem dX0_begin_28 : decode cX0_begin 28 = .ok (.iload_n 1, 1) := by decide +kernel
theorem dX0_begin_29 : decode cX0_begin 29 = .ok (.putfield 19, 3) := by decide +kernel
theorem dX0_begin_32 : decode cX0_begin 32 = .ok (.return_, 1) := by decide +kernel
theorem dX0_become_0 : decode cX0_become 0 = .ok (.aload_n 1, 1) := by decide +kernel
theorem dX0_become_1 : decode cX0_become 1 = .ok (.getfield 9, 3) := by decide +kernel
theorem dX0_become_4 : decode cX0_become 4 = .ok (.iconst 0, 1) := by decide +kernel
theorem dX0_become_5 : decode cX0_become 5 = .ok (.aload_n 0, 1) := by decide +kernel
theorem dX0_become_6 : decode cX0_become 6 = .ok (.getfield 9, 3) := by decide +kernel
theorem dX0_become_9 : decode cX0_become 9 = .ok (.iconst 0, 1) := by decide +kernel
theorem dX0_become_10 : decode cX0_become 10 = .ok (.bipush 24, 2) := by decide +kernel
theorem dX0_become_12 : decode cX0_become 12 = .ok (.invokestatic 22, 3) := by decide +kernel
theorem dX0_become_15 : decode cX0_become 15 = .ok (.aload_n 0, 1) := by decide +kernel
theorem dX0_become_16 : decode cX0_become 16 = .ok (.aload_n 1, 1) := by decide +kernel
theorem dX0_become_17 : decode cX0_become 17 = .ok (.getfield 15, 3) := by decide +kernel
theorem dX0_become_20 : decode cX0_become 20 = .ok (.putfield 15, 3) := by decide +kernel
theorem dX0_become_23 : decode cX0_become 23 = .ok (.aload_n 0, 1) := by decide +kernel
theorem dX0_become_24 : decode cX0_become 24 = .ok (.aload_n 1, 1) := by decide +kernel
theorem dX0_become_25 : decode cX0_become 25 = .ok (.getfield 19, 3) := by decide +kernel
theorem dX0_become_28 : decode cX0_become 28 = .ok (.putfield 19, 3) := by decide +kernel
theorem dX0_become_31 : decode cX0_become 31 = .ok (.return_, 1) := by decide +kernel
theorem dX0_total_0 : decode cX0_total 0 = .ok (.iconst 0, 1) := by decide +kernel
theorem dX0_total_1 : decode cX0_total 1 = .ok (.istore_n 1, 1) := by decide +kernel
theorem dX0_total_2 : decode cX0_total 2 = .ok (.iconst 0, 1) := by decide +kernel
theorem dX0_total_3 : decode cX0_total 3 = .ok (.istore_n 2, 1) := by decide +kernel
theorem dX0_total_4 : decode cX0_total 4 = .ok (.iload_n 2, 1) := by decide +kernel
theorem dX0_total_5 : decode cX0_total 5 = .ok (.bipush 24, 2) := by decide +kernel
theorem dX0_total_7 : decode cX0_total 7 = .ok (.if_icmp .ge 18, 3) := by decide +kernel
theorem dX0_total_10 : decode cX0_total 10 = .ok (.iload_n 1, 1) := by decide +kernel
theorem dX0_total_11 : decode cX0_total 11 = .ok (.aload_n 0, 1) := by decide +kernel
theorem dX0_total_12 : decode cX0_total 12 = .ok (.getfield 9, 3) := by decide +kernel
theorem dX0_total_15 : decode cX0_total 15 = .ok (.iload_n 2, 1) := by decide +kernel
theorem dX0_total_16 : decode cX0_total 16 = .ok (.iaload, 1) := by decide +kernel
theorem dX0_total_17 : decode cX0_total 17 = .ok (.iadd, 1) := by decide +kernel
theorem dX0_total_18 : decode cX0_total 18 = .ok (.istore_n 1, 1) := by decide +kernel
theorem dX0_total_19 : decode cX0_total 19 = .ok (.iinc 2 1, 3) := by decide +kernel
theorem dX0_total_22 : decode cX0_total 22 = .ok (.goto (-18), 3) := by decide +kernel
theorem dX0_total_25 : decode cX0_total 25 = .ok (.iload_n 1, 1) := by decide +kernel
theorem dX0_total_26 : decode cX0_total 26 = .ok (.ireturn, 1) := by decide +kernel
theorem dX0_greatest_0 : decode cX0_greatest 0 = .ok (.aload_n 0, 1) := by decide +kernel
theorem dX0_greatest_1 : decode cX0_greatest 1 = .ok (.getfield 9, 3) := by decide +kernel
theorem dX0_greatest_4 : decode cX0_greatest 4 = .ok (.iconst 0, 1) := by decide +kernel
theorem dX0_greatest_5 : decode cX0_greatest 5 = .ok (.iaload, 1) := by decide +kernel
theorem dX0_greatest_6 : decode cX0_greatest 6 = .ok (.istore_n 1, 1) := by decide +kernel
theorem dX0_greatest_7 : decode cX0_greatest 7 = .ok (.iconst 1, 1) := by decide +kernel
theorem dX0_greatest_8 : decode cX0_greatest 8 = .ok (.istore_n 2, 1) := by decide +kernel
theorem dX0_greatest_9 : decode cX0_greatest 9 = .ok (.iload_n 2, 1) := by decide +kernel
theorem dX0_greatest_10 : decode cX0_greatest 10 = .ok (.bipush 24, 2) := by decide +kernel
theorem dX0_greatest_12 : decode cX0_greatest 12 = .ok (.if_icmp .ge 20, 3) := by decide +kernel
theorem dX0_greatest_15 : decode cX0_greatest 15 = .ok (.iload_n 1, 1) := by decide +kernel
theorem dX0_greatest_16 : decode cX0_greatest 16 = .ok (.aload_n 0, 1) := by decide +kernel
theorem dX0_greatest_17 : decode cX0_greatest 17 = .ok (.getfield 9, 3) := by decide +kernel
theorem dX0_greatest_20 : decode cX0_greatest 20 = .ok (.iload_n 2, 1) := by decide +kernel
theorem dX0_greatest_21 : decode cX0_greatest 21 = .ok (.iaload, 1) := by decide +kernel
theorem dX0_greatest_22 : decode cX0_greatest 22 = .ok (.invokestatic 28, 3) := by decide +kernel
theorem dX0_greatest_25 : decode cX0_greatest 25 = .ok (.istore_n 1, 1) := by decide +kernel
theorem dX0_greatest_26 : decode cX0_greatest 26 = .ok (.iinc 2 1, 3) := by decide +kernel
theorem dX0_greatest_29 : decode cX0_greatest 29 = .ok (.goto (-20), 3) := by decide +kernel
theorem dX0_greatest_32 : decode cX0_greatest 32 = .ok (.iload_n 1, 1) := by decide +kernel
theorem dX0_greatest_33 : decode cX0_greatest 33 = .ok (.ireturn, 1) := by decide +kernel
theorem dX0_least_0 : decode cX0_least 0 = .ok (.aload_n 0, 1) := by decide +kernel
theorem dX0_least_1 : decode cX0_least 1 = .ok (.getfield 9, 3) := by decide +kernel
theorem dX0_least_4 : decode cX0_least 4 = .ok (.iconst 0, 1) := by decide +kernel
theorem dX0_least_5 : decode cX0_least 5 = .ok (.iaload, 1) := by decide +kernel
theorem dX0_least_6 : decode cX0_least 6 = .ok (.istore_n 1, 1) := by decide +kernel
theorem dX0_least_7 : decode cX0_least 7 = .ok (.iconst 1, 1) := by decide +kernel
theorem dX0_least_8 : decode cX0_least 8 = .ok (.istore_n 2, 1) := by decide +kernel
theorem dX0_least_9 : decode cX0_least 9 = .ok (.iload_n 2, 1) := by decide +kernel
theorem dX0_least_10 : decode cX0_least 10 = .ok (.bipush 24, 2) := by decide +kernel
theorem dX0_least_12 : decode cX0_least 12 = .ok (.if_icmp .ge 20, 3) := by decide +kernel
theorem dX0_least_15 : decode cX0_least 15 = .ok (.iload_n 1, 1) := by decide +kernel
theorem dX0_least_16 : decode cX0_least 16 = .ok (.aload_n 0, 1) := by decide +kernel
theorem dX0_least_17 : decode cX0_least 17 = .ok (.getfield 9, 3) := by decide +kernel
theorem dX0_least_20 : decode cX0_least 20 = .ok (.iload_n 2, 1) := by decide +kernel
theorem dX0_least_21 : decode cX0_least 21 = .ok (.iaload, 1) := by decide +kernel
theorem dX0_least_22 : decode cX0_least 22 = .ok (.invokestatic 34, 3) := by decide +kernel
theorem dX0_least_25 : decode cX0_least 25 = .ok (.istore_n 1, 1) := by decide +kernel
theorem dX0_least_26 : decode cX0_least 26 = .ok (.iinc 2 1, 3) := by decide +kernel
theorem dX0_least_29 : decode cX0_least 29 = .ok (.goto (-20), 3) := by decide +kernel
theorem dX0_least_32 : decode cX0_least 32 = .ok (.iload_n 1, 1) := by decide +kernel
theorem dX0_least_33 : decode cX0_least 33 = .ok (.ireturn, 1) := by decide +kernel
theorem dX0_isCrest_0 : decode cX0_isCrest 0 = .ok (.aload_n 0, 1) := by decide +kernel
theorem dX0_isCrest_1 : decode cX0_isCrest 1 = .ok (.getfield 9, 3) := by decide +kernel
theorem dX0_isCrest_4 : decode cX0_isCrest 4 = .ok (.iload_n 1, 1) := by decide +kernel
theorem dX0_isCrest_5 : decode cX0_isCrest 5 = .ok (.iaload, 1) := by decide +kernel
theorem dX0_isCrest_6 : decode cX0_isCrest 6 = .ok (.aload_n 0, 1) := by decide +kernel
theorem dX0_isCrest_7 : decode cX0_isCrest 7 = .ok (.getfield 9, 3) := by decide +kernel
theorem dX0_isCrest_10 : decode cX0_isCrest 10 = .ok (.iload_n 1, 1) := by decide +kernel
theorem dX0_isCrest_11 : decode cX0_isCrest 11 = .ok (.invokestatic 37, 3) := by decide +kernel
theorem dX0_isCrest_14 : decode cX0_isCrest 14 = .ok (.iaload, 1) := by decide +kernel
theorem dX0_isCrest_15 : decode cX0_isCrest 15 = .ok (.if_icmp .le 25, 3) := by decide +kernel
theorem dX0_isCrest_18 : decode cX0_isCrest 18 = .ok (.aload_n 0, 1) := by decide +kernel
theorem dX0_isCrest_19 : decode cX0_isCrest 19 = .ok (.getfield 9, 3) := by decide +kernel
theorem dX0_isCrest_22 : decode cX0_isCrest 22 = .ok (.iload_n 1, 1) := by decide +kernel
theorem dX0_isCrest_23 : decode cX0_isCrest 23 = .ok (.iaload, 1) := by decide +kernel
theorem dX0_isCrest_24 : decode cX0_isCrest 24 = .ok (.aload_n 0, 1) := by decide +kernel
theorem dX0_isCrest_25 : decode cX0_isCrest 25 = .ok (.getfield 9, 3) := by decide +kernel
theorem dX0_isCrest_28 : decode cX0_isCrest 28 = .ok (.iload_n 1, 1) := by decide +kernel
theorem dX0_isCrest_29 : decode cX0_isCrest 29 = .ok (.invokestatic 41, 3) := by decide +kernel
theorem dX0_isCrest_32 : decode cX0_isCrest 32 = .ok (.iaload, 1) := by decide +kernel
theorem dX0_isCrest_33 : decode cX0_isCrest 33 = .ok (.if_icmp .lt 7, 3) := by decide +kernel
theorem dX0_isCrest_36 : decode cX0_isCrest 36 = .ok (.iconst 1, 1) := by decide +kernel
theorem dX0_isCrest_37 : decode cX0_isCrest 37 = .ok (.goto 4, 3) := by decide +kernel
theorem dX0_isCrest_40 : decode cX0_isCrest 40 = .ok (.iconst 0, 1) := by decide +kernel
theorem dX0_isCrest_41 : decode cX0_isCrest 41 = .ok (.ireturn, 1) := by decide +kernel
theorem dX0_crests_0 : decode cX0_crests 0 = .ok (.iconst 0, 1) := by decide +kernel
theorem dX0_crests_1 : decode cX0_crests 1 = .ok (.istore_n 1, 1) := by decide +kernel
theorem dX0_crests_2 : decode cX0_crests 2 = .ok (.iconst 0, 1) := by decide +kernel
theorem dX0_crests_3 : decode cX0_crests 3 = .ok (.istore_n 2, 1) := by decide +kernel
theorem dX0_crests_4 : decode cX0_crests 4 = .ok (.iload_n 2, 1) := by decide +kernel
theorem dX0_crests_5 : decode cX0_crests 5 = .ok (.bipush 24, 2) := by decide +kernel
theorem dX0_crests_7 : decode cX0_crests 7 = .ok (.if_icmp .ge 20, 3) := by decide +kernel
theorem dX0_crests_10 : decode cX0_crests 10 = .ok (.aload_n 0, 1) := by decide +kernel
theorem dX0_crests_11 : decode cX0_crests 11 = .ok (.iload_n 2, 1) := by decide +kernel
theorem dX0_crests_12 : decode cX0_crests 12 = .ok (.invokevirtual 44, 3) := by decide +kernel
theorem dX0_crests_15 : decode cX0_crests 15 = .ok (.ifCond .eq 6, 3) := by decide +kernel
theorem dX0_crests_18 : decode cX0_crests 18 = .ok (.iinc 1 1, 3) := by decide +kernel
theorem dX0_crests_21 : decode cX0_crests 21 = .ok (.iinc 2 1, 3) := by decide +kernel
theorem dX0_crests_24 : decode cX0_crests 24 = .ok (.goto (-20), 3) := by decide +kernel
theorem dX0_crests_27 : decode cX0_crests 27 = .ok (.iload_n 1, 1) := by decide +kernel
theorem dX0_crests_28 : decode cX0_crests 28 = .ok (.ireturn, 1) := by decide +kernel
theorem dX0_lean_0 : decode cX0_lean 0 = .ok (.iconst 0, 1) := by decide +kernel
theorem dX0_lean_1 : decode cX0_lean 1 = .ok (.istore_n 1, 1) := by decide +kernel
theorem dX0_lean_2 : decode cX0_lean 2 = .ok (.iconst 0, 1) := by decide +kernel
theorem dX0_lean_3 : decode cX0_lean 3 = .ok (.istore_n 2, 1) := by decide +kernel
theorem dX0_lean_4 : decode cX0_lean 4 = .ok (.iload_n 2, 1) := by decide +kernel
theorem dX0_lean_5 : decode cX0_lean 5 = .ok (.bipush 24, 2) := by decide +kernel
theorem dX0_lean_7 : decode cX0_lean 7 = .ok (.if_icmp .ge 30, 3) := by decide +kernel
theorem dX0_lean_10 : decode cX0_lean 10 = .ok (.iload_n 1, 1) := by decide +kernel
theorem dX0_lean_11 : decode cX0_lean 11 = .ok (.aload_n 0, 1) := by decide +kernel
theorem dX0_lean_12 : decode cX0_lean 12 = .ok (.getfield 9, 3) := by decide +kernel
theorem dX0_lean_15 : decode cX0_lean 15 = .ok (.iload_n 2, 1) := by decide +kernel
theorem dX0_lean_16 : decode cX0_lean 16 = .ok (.invokestatic 41, 3) := by decide +kernel
theorem dX0_lean_19 : decode cX0_lean 19 = .ok (.iaload, 1) := by decide +kernel
theorem dX0_lean_20 : decode cX0_lean 20 = .ok (.aload_n 0, 1) := by decide +kernel
theorem dX0_lean_21 : decode cX0_lean 21 = .ok (.getfield 9, 3) := by decide +kernel
theorem dX0_lean_24 : decode cX0_lean 24 = .ok (.iload_n 2, 1) := by decide +kernel
theorem dX0_lean_25 : decode cX0_lean 25 = .ok (.iaload, 1) := by decide +kernel
theorem dX0_lean_26 : decode cX0_lean 26 = .ok (.invokestatic 48, 3) := by decide +kernel
theorem dX0_lean_29 : decode cX0_lean 29 = .ok (.iadd, 1) := by decide +kernel
theorem dX0_lean_30 : decode cX0_lean 30 = .ok (.istore_n 1, 1) := by decide +kernel
theorem dX0_lean_31 : decode cX0_lean 31 = .ok (.iinc 2 1, 3) := by decide +kernel
theorem dX0_lean_34 : decode cX0_lean 34 = .ok (.goto (-30), 3) := by decide +kernel
theorem dX0_lean_37 : decode cX0_lean 37 = .ok (.iload_n 1, 1) := by decide +kernel
theorem dX0_lean_38 : decode cX0_lean 38 = .ok (.ireturn, 1) := by decide +kernel
theorem dX0_worth_0 : decode cX0_worth 0 = .ok (.aload_n 0, 1) := by decide +kernel
theorem dX0_worth_1 : decode cX0_worth 1 = .ok (.invokevirtual 53, 3) := by decide +kernel
theorem dX0_worth_4 : decode cX0_worth 4 = .ok (.aload_n 0, 1) := by decide +kernel
theorem dX0_worth_5 : decode cX0_worth 5 = .ok (.invokevirtual 57, 3) := by decide +kernel
theorem dX0_worth_8 : decode cX0_worth 8 = .ok (.isub, 1) := by decide +kernel
theorem dX0_worth_9 : decode cX0_worth 9 = .ok (.istore_n 1, 1) := by decide +kernel
theorem dX0_worth_10 : decode cX0_worth 10 = .ok (.aload_n 0, 1) := by decide +kernel
theorem dX0_worth_11 : decode cX0_worth 11 = .ok (.getfield 19, 3) := by decide +kernel
theorem dX0_worth_14 : decode cX0_worth 14 = .ok (.tableswitch 71 1 5 #[34, 50, 41, 55, 63], 34) := by decide +kernel
theorem dX0_worth_48 : decode cX0_worth 48 = .ok (.iload_n 1, 1) := by decide +kernel
theorem dX0_worth_49 : decode cX0_worth 49 = .ok (.aload_n 0, 1) := by decide +kernel
theorem dX0_worth_50 : decode cX0_worth 50 = .ok (.invokevirtual 60, 3) := by decide +kernel
theorem dX0_worth_53 : decode cX0_worth 53 = .ok (.iadd, 1) := by decide +kernel
theorem dX0_worth_54 : decode cX0_worth 54 = .ok (.ireturn, 1) := by decide +kernel
theorem dX0_worth_55 : decode cX0_worth 55 = .ok (.iconst 2, 1) := by decide +kernel
theorem dX0_worth_56 : decode cX0_worth 56 = .ok (.iload_n 1, 1) := by decide +kernel
theorem dX0_worth_57 : decode cX0_worth 57 = .ok (.aload_n 0, 1) := by decide +kernel
theorem dX0_worth_58 : decode cX0_worth 58 = .ok (.invokevirtual 60, 3) := by decide +kernel
theorem dX0_worth_61 : decode cX0_worth 61 = .ok (.iadd, 1) := by decide +kernel
theorem dX0_worth_62 : decode cX0_worth 62 = .ok (.imul, 1) := by decide +kernel
theorem dX0_worth_63 : decode cX0_worth 63 = .ok (.ireturn, 1) := by decide +kernel
theorem dX0_worth_64 : decode cX0_worth 64 = .ok (.aload_n 0, 1) := by decide +kernel
theorem dX0_worth_65 : decode cX0_worth 65 = .ok (.invokevirtual 63, 3) := by decide +kernel
theorem dX0_worth_68 : decode cX0_worth 68 = .ok (.ireturn, 1) := by decide +kernel
theorem dX0_worth_69 : decode cX0_worth 69 = .ok (.aload_n 0, 1) := by decide +kernel
theorem dX0_worth_70 : decode cX0_worth 70 = .ok (.invokevirtual 63, 3) := by decide +kernel
theorem dX0_worth_73 : decode cX0_worth 73 = .ok (.bipush 10, 2) := by decide +kernel
theorem dX0_worth_75 : decode cX0_worth 75 = .ok (.iadd, 1) := by decide +kernel
theorem dX0_worth_76 : decode cX0_worth 76 = .ok (.ireturn, 1) := by decide +kernel
theorem dX0_worth_77 : decode cX0_worth 77 = .ok (.aload_n 0, 1) := by decide +kernel
theorem dX0_worth_78 : decode cX0_worth 78 = .ok (.invokevirtual 66, 3) := by decide +kernel
theorem dX0_worth_81 : decode cX0_worth 81 = .ok (.bipush 24, 2) := by decide +kernel
theorem dX0_worth_83 : decode cX0_worth 83 = .ok (.idiv, 1) := by decide +kernel
theorem dX0_worth_84 : decode cX0_worth 84 = .ok (.ireturn, 1) := by decide +kernel
theorem dX0_worth_85 : decode cX0_worth 85 = .ok (.iload_n 1, 1) := by decide +kernel
theorem dX0_worth_86 : decode cX0_worth 86 = .ok (.ireturn, 1) := by decide +kernel
theorem dX0_way_0 : decode cX0_way 0 = .ok (.aload_n 0, 1) := by decide +kernel
theorem dX0_way_1 : decode cX0_way 1 = .ok (.getfield 19, 3) := by decide +kernel
theorem dX0_way_4 : decode cX0_way 4 = .ok (.iconst 2, 1) := by decide +kernel
theorem dX0_way_5 : decode cX0_way 5 = .ok (.if_icmp .eq 20, 3) := by decide +kernel
theorem dX0_way_8 : decode cX0_way 8 = .ok (.aload_n 0, 1) := by decide +kernel
theorem dX0_way_9 : decode cX0_way 9 = .ok (.getfield 19, 3) := by decide +kernel
theorem dX0_way_12 : decode cX0_way 12 = .ok (.iconst 4, 1) := by decide +kernel
theorem dX0_way_13 : decode cX0_way 13 = .ok (.if_icmp .eq 12, 3) := by decide +kernel
theorem dX0_way_16 : decode cX0_way 16 = .ok (.aload_n 0, 1) := by decide +kernel
theorem dX0_way_17 : decode cX0_way 17 = .ok (.getfield 15, 3) := by decide +kernel
theorem dX0_way_20 : decode cX0_way 20 = .ok (.iconst 2, 1) := by decide +kernel
theorem dX0_way_21 : decode cX0_way 21 = .ok (.irem, 1) := by decide +kernel
theorem dX0_way_22 : decode cX0_way 22 = .ok (.ifCond .ne 7, 3) := by decide +kernel
theorem dX0_way_25 : decode cX0_way 25 = .ok (.iconst 1, 1) := by decide +kernel
theorem dX0_way_26 : decode cX0_way 26 = .ok (.goto 4, 3) := by decide +kernel
theorem dX0_way_29 : decode cX0_way 29 = .ok (.iconst (-1), 1) := by decide +kernel
theorem dX0_way_30 : decode cX0_way 30 = .ok (.ireturn, 1) := by decide +kernel
theorem dX0_unlikeTurned_0 : decode cX0_unlikeTurned 0 = .ok (.iconst 0, 1) := by decide +kernel
theorem dX0_unlikeTurned_1 : decode cX0_unlikeTurned 1 = .ok (.istore_n 3, 1) := by decide +kernel
theorem dX0_unlikeTurned_2 : decode cX0_unlikeTurned 2 = .ok (.iconst 0, 1) := by decide +kernel
theorem dX0_unlikeTurned_3 : decode cX0_unlikeTurned 3 = .ok (.istore 4, 2) := by decide +kernel
theorem dX0_unlikeTurned_5 : decode cX0_unlikeTurned 5 = .ok (.iload 4, 2) := by decide +kernel
theorem dX0_unlikeTurned_7 : decode cX0_unlikeTurned 7 = .ok (.bipush 24, 2) := by decide +kernel
theorem dX0_unlikeTurned_9 : decode cX0_unlikeTurned 9 = .ok (.if_icmp .ge 34, 3) := by decide +kernel
theorem dX0_unlikeTurned_12 : decode cX0_unlikeTurned 12 = .ok (.aload_n 0, 1) := by decide +kernel
theorem dX0_unlikeTurned_13 : decode cX0_unlikeTurned 13 = .ok (.getfield 9, 3) := by decide +kernel
theorem dX0_unlikeTurned_16 : decode cX0_unlikeTurned 16 = .ok (.iload 4, 2) := by decide +kernel
theorem dX0_unlikeTurned_18 : decode cX0_unlikeTurned 18 = .ok (.iaload, 1) := by decide +kernel
theorem dX0_unlikeTurned_19 : decode cX0_unlikeTurned 19 = .ok (.aload_n 1, 1) := by decide +kernel
theorem dX0_unlikeTurned_20 : decode cX0_unlikeTurned 20 = .ok (.getfield 9, 3) := by decide +kernel
theorem dX0_unlikeTurned_23 : decode cX0_unlikeTurned 23 = .ok (.iload 4, 2) := by decide +kernel
theorem dX0_unlikeTurned_25 : decode cX0_unlikeTurned 25 = .ok (.iload_n 2, 1) := by decide +kernel
theorem dX0_unlikeTurned_26 : decode cX0_unlikeTurned 26 = .ok (.iadd, 1) := by decide +kernel
theorem dX0_unlikeTurned_27 : decode cX0_unlikeTurned 27 = .ok (.invokestatic 69, 3) := by decide +kernel
theorem dX0_unlikeTurned_30 : decode cX0_unlikeTurned 30 = .ok (.iaload, 1) := by decide +kernel
theorem dX0_unlikeTurned_31 : decode cX0_unlikeTurned 31 = .ok (.if_icmp .eq 6, 3) := by decide +kernel
theorem dX0_unlikeTurned_34 : decode cX0_unlikeTurned 34 = .ok (.iinc 3 1, 3) := by decide +kernel
theorem dX0_unlikeTurned_37 : decode cX0_unlikeTurned 37 = .ok (.iinc 4 1, 3) := by decide +kernel
theorem dX0_unlikeTurned_40 : decode cX0_unlikeTurned 40 = .ok (.goto (-35), 3) := by decide +kernel
theorem dX0_unlikeTurned_43 : decode cX0_unlikeTurned 43 = .ok (.iload_n 3, 1) := by decide +kernel
theorem dX0_unlikeTurned_44 : decode cX0_unlikeTurned 44 = .ok (.ireturn, 1) := by decide +kernel
theorem dX1_init_0 : decode cX1_init 0 = .ok (.aload_n 0, 1) := by decide +kernel
theorem dX1_init_1 : decode cX1_init 1 = .ok (.invokespecial 3, 3) := by decide +kernel
theorem dX1_init_4 : decode cX1_init 4 = .ok (.aload_n 0, 1) := by decide +kernel
theorem dX1_init_5 : decode cX1_init 5 = .ok (.iconst 0, 1) := by decide +kernel
theorem dX1_init_6 : decode cX1_init 6 = .ok (.putfield 9, 3) := by decide +kernel
theorem dX1_init_9 : decode cX1_init 9 = .ok (.aload_n 0, 1) := by decide +kernel
theorem dX1_init_10 : decode cX1_init 10 = .ok (.iconst 0, 1) := by decide +kernel
theorem dX1_init_11 : decode cX1_init 11 = .ok (.putfield 15, 3) := by decide +kernel
theorem dX1_init_14 : decode cX1_init 14 = .ok (.aload_n 0, 1) := by decide +kernel
theorem dX1_init_15 : decode cX1_init 15 = .ok (.iconst 0, 1) := by decide +kernel
theorem dX1_init_16 : decode cX1_init 16 = .ok (.putfield 18, 3) := by decide +kernel
theorem dX1_init_19 : decode cX1_init 19 = .ok (.aload_n 0, 1) := by decide +kernel
theorem dX1_init_20 : decode cX1_init 20 = .ok (.bipush 96, 2) := by decide +kernel
theorem dX1_init_22 : decode cX1_init 22 = .ok (.newarray .int, 2) := by decide +kernel
theorem dX1_init_24 : decode cX1_init 24 = .ok (.putfield 21, 3) := by decide +kernel
theorem dX1_init_27 : decode cX1_init 27 = .ok (.aload_n 0, 1) := by decide +kernel
theorem dX1_init_28 : decode cX1_init 28 = .ok (.bipush 96, 2) := by decide +kernel
theorem dX1_init_30 : decode cX1_init 30 = .ok (.newarray .int, 2) := by decide +kernel
theorem dX1_init_32 : decode cX1_init 32 = .ok (.putfield 25, 3) := by decide +kernel
theorem dX1_init_35 : decode cX1_init 35 = .ok (.aload_n 0, 1) := by decide +kernel
theorem dX1_init_36 : decode cX1_init 36 = .ok (.iconst 0, 1) := by decide +kernel
theorem dX1_init_37 : decode cX1_init 37 = .ok (.putfield 28, 3) := by decide +kernel
theorem dX1_init_40 : decode cX1_init 40 = .ok (.aload_n 0, 1) := by decide +kernel
theorem dX1_init_41 : decode cX1_init 41 = .ok (.iconst 0, 1) := by decide +kernel
theorem dX1_init_42 : decode cX1_init 42 = .ok (.putfield 31, 3) := by decide +kernel
theorem dX1_init_45 : decode cX1_init 45 = .ok (.aload_n 0, 1) := by decide +kernel
theorem dX1_init_46 : decode cX1_init 46 = .ok (.iconst 0, 1) := by decide +kernel
theorem dX1_init_47 : decode cX1_init 47 = .ok (.putfield 34, 3) := by decide +kernel
theorem dX1_init_50 : decode cX1_init 50 = .ok (.aload_n 0, 1) := by decide +kernel
theorem dX1_init_51 : decode cX1_init 51 = .ok (.iconst 1, 1) := by decide +kernel
theorem dX1_init_52 : decode cX1_init 52 = .ok (.putfield 37, 3) := by decide +kernel
theorem dX1_init_55 : decode cX1_init 55 = .ok (.return_, 1) := by decide +kernel
theorem dX1_faultOf_0 : decode cX1_faultOf 0 = .ok (.aload_n 0, 1) := by decide +kernel
theorem dX1_faultOf_1 : decode cX1_faultOf 1 = .ok (.invokevirtual 41, 3) := by decide +kernel
theorem dX1_faultOf_4 : decode cX1_faultOf 4 = .ok (.aload_n 1, 1) := by decide +kernel
theorem dX1_faultOf_5 : decode cX1_faultOf 5 = .ok (.iconst 0, 1) := by decide +kernel
theorem dX1_faultOf_6 : decode cX1_faultOf 6 = .ok (.iload_n 2, 1) := by decide +kernel
theorem dX1_faultOf_7 : decode cX1_faultOf 7 = .ok (.invokestatic 44, 3) := by decide +kernel
theorem dX1_faultOf_10 : decode cX1_faultOf 10 = .ok (.istore_n 3, 1) := by decide +kernel
theorem dX1_faultOf_11 : decode cX1_faultOf 11 = .ok (.aload_n 1, 1) := by decide +kernel
theorem dX1_faultOf_12 : decode cX1_faultOf 12 = .ok (.iload_n 3, 1) := by decide +kernel
theorem dX1_faultOf_13 : decode cX1_faultOf 13 = .ok (.iload_n 2, 1) := by decide +kernel
theorem dX1_faultOf_14 : decode cX1_faultOf 14 = .ok (.invokestatic 48, 3) := by decide +kernel
theorem dX1_faultOf_17 : decode cX1_faultOf 17 = .ok (.istore 4, 2) := by decide +kernel
theorem dX1_faultOf_19 : decode cX1_faultOf 19 = .ok (.aload_n 0, 1) := by decide +kernel
theorem dX1_faultOf_20 : decode cX1_faultOf 20 = .ok (.aload_n 1, 1) := by decide +kernel
theorem dX1_faultOf_21 : decode cX1_faultOf 21 = .ok (.iload_n 3, 1) := by decide +kernel
theorem dX1_faultOf_22 : decode cX1_faultOf 22 = .ok (.iload 4, 2) := by decide +kernel
theorem dX1_faultOf_24 : decode cX1_faultOf 24 = .ok (.invokestatic 51, 3) := by decide +kernel
theorem dX1_faultOf_27 : decode cX1_faultOf 27 = .ok (.putfield 9, 3) := by decide +kernel
theorem dX1_faultOf_30 : decode cX1_faultOf 30 = .ok (.aload_n 0, 1) := by decide +kernel
theorem dX1_faultOf_31 : decode cX1_faultOf 31 = .ok (.getfield 9, 3) := by decide +kernel
theorem dX1_faultOf_34 : decode cX1_faultOf 34 = .ok (.ifCond .ge 5, 3) := by decide +kernel
theorem dX1_faultOf_37 : decode cX1_faultOf 37 = .ok (.iload_n 3, 1) := by decide +kernel
theorem dX1_faultOf_38 : decode cX1_faultOf 38 = .ok (.ireturn, 1) := by decide +kernel
theorem dX1_faultOf_39 : decode cX1_faultOf 39 = .ok (.iconst 0, 1) := by decide +kernel
theorem dX1_faultOf_40 : decode cX1_faultOf 40 = .ok (.istore 5, 2) := by decide +kernel
theorem dX1_faultOf_42 : decode cX1_faultOf 42 = .ok (.iload 5, 2) := by decide +kernel
theorem dX1_faultOf_44 : decode cX1_faultOf 44 = .ok (.iload_n 2, 1) := by decide +kernel
theorem dX1_faultOf_45 : decode cX1_faultOf 45 = .ok (.if_icmp .ge 120, 3) := by decide +kernel
theorem dX1_faultOf_48 : decode cX1_faultOf 48 = .ok (.iload 4, 2) := by decide +kernel
theorem dX1_faultOf_50 : decode cX1_faultOf 50 = .ok (.ifCond .le 35, 3) := by decide +kernel
theorem dX1_faultOf_53 : decode cX1_faultOf 53 = .ok (.iload 4, 2) := by decide +kernel
theorem dX1_faultOf_55 : decode cX1_faultOf 55 = .ok (.iload_n 2, 1) := by decide +kernel
theorem dX1_faultOf_56 : decode cX1_faultOf 56 = .ok (.if_icmp .ge 29, 3) := by decide +kernel
theorem dX1_faultOf_59 : decode cX1_faultOf 59 = .ok (.aload_n 1, 1) := by decide +kernel
theorem dX1_faultOf_60 : decode cX1_faultOf 60 = .ok (.iload 4, 2) := by decide +kernel
theorem dX1_faultOf_62 : decode cX1_faultOf 62 = .ok (.iconst 1, 1) := by decide +kernel
theorem dX1_faultOf_63 : decode cX1_faultOf 63 = .ok (.isub, 1) := by decide +kernel
theorem dX1_faultOf_64 : decode cX1_faultOf 64 = .ok (.iaload, 1) := by decide +kernel
theorem dX1_faultOf_65 : decode cX1_faultOf 65 = .ok (.invokestatic 54, 3) := by decide +kernel
theorem dX1_faultOf_68 : decode cX1_faultOf 68 = .ok (.ifCond .eq 17, 3) := by decide +kernel
theorem dX1_faultOf_71 : decode cX1_faultOf 71 = .ok (.aload_n 1, 1) := by decide +kernel
theorem dX1_faultOf_72 : decode cX1_faultOf 72 = .ok (.iload 4, 2) := by decide +kernel
theorem dX1_faultOf_74 : decode cX1_faultOf 74 = .ok (.iaload, 1) := by decide +kernel
theorem dX1_faultOf_75 : decode cX1_faultOf 75 = .ok (.invokestatic 54, 3) := by decide +kernel
theorem dX1_faultOf_78 : decode cX1_faultOf 78 = .ok (.ifCond .eq 7, 3) := by decide +kernel
theorem dX1_faultOf_81 : decode cX1_faultOf 81 = .ok (.iconst 1, 1) := by decide +kernel
theorem dX1_faultOf_82 : decode cX1_faultOf 82 = .ok (.goto 4, 3) := by decide +kernel
theorem dX1_faultOf_85 : decode cX1_faultOf 85 = .ok (.iconst 0, 1) := by decide +kernel
theorem dX1_faultOf_86 : decode cX1_faultOf 86 = .ok (.istore 6, 2) := by decide +kernel
theorem dX1_faultOf_88 : decode cX1_faultOf 88 = .ok (.aload_n 1, 1) := by decide +kernel
theorem dX1_faultOf_89 : decode cX1_faultOf 89 = .ok (.iload 4, 2) := by decide +kernel
theorem dX1_faultOf_91 : decode cX1_faultOf 91 = .ok (.iload_n 2, 1) := by decide +kernel
theorem dX1_faultOf_92 : decode cX1_faultOf 92 = .ok (.invokestatic 44, 3) := by decide +kernel
theorem dX1_faultOf_95 : decode cX1_faultOf 95 = .ok (.istore_n 3, 1) := by decide +kernel
theorem dX1_faultOf_96 : decode cX1_faultOf 96 = .ok (.iload_n 3, 1) := by decide +kernel
theorem dX1_faultOf_97 : decode cX1_faultOf 97 = .ok (.iload_n 2, 1) := by decide +kernel
theorem dX1_faultOf_98 : decode cX1_faultOf 98 = .ok (.if_icmp .lt 6, 3) := by decide +kernel
theorem dX1_faultOf_101 : decode cX1_faultOf 101 = .ok (.goto 64, 3) := by decide +kernel
theorem dX1_faultOf_104 : decode cX1_faultOf 104 = .ok (.aload_n 1, 1) := by decide +kernel
theorem dX1_faultOf_105 : decode cX1_faultOf 105 = .ok (.iload_n 3, 1) := by decide +kernel
theorem dX1_faultOf_106 : decode cX1_faultOf 106 = .ok (.iload_n 2, 1) := by decide +kernel
theorem dX1_faultOf_107 : decode cX1_faultOf 107 = .ok (.invokestatic 48, 3) := by decide +kernel
theorem dX1_faultOf_110 : decode cX1_faultOf 110 = .ok (.istore 4, 2) := by decide +kernel
theorem dX1_faultOf_112 : decode cX1_faultOf 112 = .ok (.aload_n 0, 1) := by decide +kernel
theorem dX1_faultOf_113 : decode cX1_faultOf 113 = .ok (.getfield 37, 3) := by decide +kernel
theorem dX1_faultOf_116 : decode cX1_faultOf 116 = .ok (.ifCond .eq 27, 3) := by decide +kernel
theorem dX1_faultOf_119 : decode cX1_faultOf 119 = .ok (.iload 6, 2) := by decide +kernel
theorem dX1_faultOf_121 : decode cX1_faultOf 121 = .ok (.ifCond .ne 18, 3) := by decide +kernel
theorem dX1_faultOf_124 : decode cX1_faultOf 124 = .ok (.aload_n 0, 1) := by decide +kernel
theorem dX1_faultOf_125 : decode cX1_faultOf 125 = .ok (.aload_n 1, 1) := by decide +kernel
theorem dX1_faultOf_126 : decode cX1_faultOf 126 = .ok (.iload_n 3, 1) := by decide +kernel
theorem dX1_faultOf_127 : decode cX1_faultOf 127 = .ok (.iload 4, 2) := by decide +kernel
theorem dX1_faultOf_129 : decode cX1_faultOf 129 = .ok (.invokevirtual 58, 3) := by decide +kernel
theorem dX1_faultOf_132 : decode cX1_faultOf 132 = .ok (.ifCond .eq 7, 3) := by decide +kernel
theorem dX1_faultOf_135 : decode cX1_faultOf 135 = .ok (.iconst 1, 1) := by decide +kernel
theorem dX1_faultOf_136 : decode cX1_faultOf 136 = .ok (.goto 14, 3) := by decide +kernel
theorem dX1_faultOf_139 : decode cX1_faultOf 139 = .ok (.iconst 0, 1) := by decide +kernel
theorem dX1_faultOf_140 : decode cX1_faultOf 140 = .ok (.goto 10, 3) := by decide +kernel
theorem dX1_faultOf_143 : decode cX1_faultOf 143 = .ok (.aload_n 0, 1) := by decide +kernel
theorem dX1_faultOf_144 : decode cX1_faultOf 144 = .ok (.aload_n 1, 1) := by decide +kernel
theorem dX1_faultOf_145 : decode cX1_faultOf 145 = .ok (.iload_n 3, 1) := by decide +kernel
theorem dX1_faultOf_146 : decode cX1_faultOf 146 = .ok (.iaload, 1) := by decide +kernel
theorem dX1_faultOf_147 : decode cX1_faultOf 147 = .ok (.invokevirtual 62, 3) := by decide +kernel
theorem dX1_faultOf_150 : decode cX1_faultOf 150 = .ok (.istore 7, 2) := by decide +kernel
theorem dX1_faultOf_152 : decode cX1_faultOf 152 = .ok (.iload 7, 2) := by decide +kernel
theorem dX1_faultOf_154 : decode cX1_faultOf 154 = .ok (.ifCond .ne 5, 3) := by decide +kernel
theorem dX1_faultOf_157 : decode cX1_faultOf 157 = .ok (.iload_n 3, 1) := by decide +kernel
theorem dX1_faultOf_158 : decode cX1_faultOf 158 = .ok (.ireturn, 1) := by decide +kernel
theorem dX1_faultOf_159 : decode cX1_faultOf 159 = .ok (.iinc 5 1, 3) := by decide +kernel
theorem dX1_faultOf_162 : decode cX1_faultOf 162 = .ok (.goto (-120), 3) := by decide +kernel
theorem dX1_faultOf_165 : decode cX1_faultOf 165 = .ok (.aload_n 0, 1) := by decide +kernel
theorem dX1_faultOf_166 : decode cX1_faultOf 166 = .ok (.invokevirtual 65, 3) := by decide +kernel
theorem dX1_faultOf_169 : decode cX1_faultOf 169 = .ok (.ifCond .eq 7, 3) := by decide +kernel
theorem dX1_faultOf_172 : decode cX1_faultOf 172 = .ok (.iconst (-1), 1) := by decide +kernel
theorem dX1_faultOf_173 : decode cX1_faultOf 173 = .ok (.goto 4, 3) := by decide +kernel
theorem dX1_faultOf_176 : decode cX1_faultOf 176 = .ok (.iload_n 2, 1) := by decide +kernel
theorem dX1_faultOf_177 : decode cX1_faultOf 177 = .ok (.ireturn, 1) := by decide +kernel
theorem dX1_begin_0 : decode cX1_begin 0 = .ok (.aload_n 0, 1) := by decide +kernel
theorem dX1_begin_1 : decode cX1_begin 1 = .ok (.iconst 0, 1) := by decide +kernel
theorem dX1_begin_2 : decode cX1_begin 2 = .ok (.putfield 15, 3) := by decide +kernel
theorem dX1_begin_5 : decode cX1_begin 5 = .ok (.aload_n 0, 1) := by decide +kernel
theorem dX1_begin_6 : decode cX1_begin 6 = .ok (.iconst 0, 1) := by decide +kernel
theorem dX1_begin_7 : decode cX1_begin 7 = .ok (.putfield 18, 3) := by decide +kernel
theorem dX1_begin_10 : decode cX1_begin 10 = .ok (.aload_n 0, 1) := by decide +kernel
theorem dX1_begin_11 : decode cX1_begin 11 = .ok (.iconst 0, 1) := by decide +kernel
theorem dX1_begin_12 : decode cX1_begin 12 = .ok (.putfield 28, 3) := by decide +kernel
theorem dX1_begin_15 : decode cX1_begin 15 = .ok (.aload_n 0, 1) := by decide +kernel
theorem dX1_begin_16 : decode cX1_begin 16 = .ok (.iconst 0, 1) := by decide +kernel
theorem dX1_begin_17 : decode cX1_begin 17 = .ok (.putfield 31, 3) := by decide +kernel
theorem dX1_begin_20 : decode cX1_begin 20 = .ok (.aload_n 0, 1) := by decide +kernel
theorem dX1_begin_21 : decode cX1_begin 21 = .ok (.iconst 0, 1) := by decide +kernel
theorem dX1_begin_22 : decode cX1_begin 22 = .ok (.putfield 34, 3) := by decide +kernel
theorem dX1_begin_25 : decode cX1_begin 25 = .ok (.aload_n 0, 1) := by decide +kernel
theorem dX1_begin_26 : decode cX1_begin 26 = .ok (.iconst 1, 1) := by decide +kernel
theorem dX1_begin_27 : decode cX1_begin 27 = .ok (.putfield 37, 3) := by decide +kernel
theorem dX1_begin_30 : decode cX1_begin 30 = .ok (.return_, 1) := by decide +kernel
theorem dX1_takesPiece_0 : decode cX1_takesPiece 0 = .ok (.aload_n 1, 1) := by decide +kernel
theorem dX1_takesPiece_1 : decode cX1_takesPiece 1 = .ok (.iload_n 2, 1) := by decide +kernel
theorem dX1_takesPiece_2 : decode cX1_takesPiece 2 = .ok (.iaload, 1) := by decide +kernel
theorem dX1_takesPiece_3 : decode cX1_takesPiece 3 = .ok (.istore 4, 2) := by decide +kernel
theorem dX1_takesPiece_5 : decode cX1_takesPiece 5 = .ok (.iload 4, 2) := by decide +kernel
theorem dX1_takesPiece_7 : decode cX1_takesPiece 7 = .ok (.invokestatic 69, 3) := by decide +kernel
theorem dX1_takesPiece_10 : decode cX1_takesPiece 10 = .ok (.ifCond .eq 11, 3) := by decide +kernel
theorem dX1_takesPiece_13 : decode cX1_takesPiece 13 = .ok (.aload_n 0, 1) := by decide +kernel
theorem dX1_takesPiece_14 : decode cX1_takesPiece 14 = .ok (.aload_n 1, 1) := by decide +kernel
theorem dX1_takesPiece_15 : decode cX1_takesPiece 15 = .ok (.iload_n 2, 1) := by decide +kernel
theorem dX1_takesPiece_16 : decode cX1_takesPiece 16 = .ok (.iload_n 3, 1) := by decide +kernel
theorem dX1_takesPiece_17 : decode cX1_takesPiece 17 = .ok (.invokevirtual 72, 3) := by decide +kernel
theorem dX1_takesPiece_20 : decode cX1_takesPiece 20 = .ok (.ireturn, 1) := by decide +kernel
theorem dX1_takesPiece_21 : decode cX1_takesPiece 21 = .ok (.iload 4, 2) := by decide +kernel
theorem dX1_takesPiece_23 : decode cX1_takesPiece 23 = .ok (.invokestatic 75, 3) := by decide +kernel
theorem dX1_takesPiece_26 : decode cX1_takesPiece 26 = .ok (.ifCond .eq 25, 3) := by decide +kernel
theorem dX1_takesPiece_29 : decode cX1_takesPiece 29 = .ok (.iload_n 3, 1) := by decide +kernel
theorem dX1_takesPiece_30 : decode cX1_takesPiece 30 = .ok (.iload_n 2, 1) := by decide +kernel
theorem dX1_takesPiece_31 : decode cX1_takesPiece 31 = .ok (.isub, 1) := by decide +kernel
theorem dX1_takesPiece_32 : decode cX1_takesPiece 32 = .ok (.iconst 1, 1) := by decide +kernel
theorem dX1_takesPiece_33 : decode cX1_takesPiece 33 = .ok (.if_icmp .ne 16, 3) := by decide +kernel
theorem dX1_takesPiece_36 : decode cX1_takesPiece 36 = .ok (.aload_n 0, 1) := by decide +kernel
theorem dX1_takesPiece_37 : decode cX1_takesPiece 37 = .ok (.iload 4, 2) := by decide +kernel
theorem dX1_takesPiece_39 : decode cX1_takesPiece 39 = .ok (.invokevirtual 78, 3) := by decide +kernel
theorem dX1_takesPiece_42 : decode cX1_takesPiece 42 = .ok (.ifCond .eq 7, 3) := by decide +kernel
theorem dX1_takesPiece_45 : decode cX1_takesPiece 45 = .ok (.iconst 1, 1) := by decide +kernel
theorem dX1_takesPiece_46 : decode cX1_takesPiece 46 = .ok (.goto 4, 3) := by decide +kernel
theorem dX1_takesPiece_49 : decode cX1_takesPiece 49 = .ok (.iconst 0, 1) := by decide +kernel
theorem dX1_takesPiece_50 : decode cX1_takesPiece 50 = .ok (.ireturn, 1) := by decide +kernel
theorem dX1_takesPiece_51 : decode cX1_takesPiece 51 = .ok (.iload 4, 2) := by decide +kernel
theorem dX1_takesPiece_53 : decode cX1_takesPiece 53 = .ok (.bipush 33, 2) := by decide +kernel
theorem dX1_takesPiece_55 : decode cX1_takesPiece 55 = .ok (.if_icmp .ne 29, 3) := by decide +kernel
theorem dX1_takesPiece_58 : decode cX1_takesPiece 58 = .ok (.aload_n 0, 1) := by decide +kernel
theorem dX1_takesPiece_59 : decode cX1_takesPiece 59 = .ok (.getfield 34, 3) := by decide +kernel
theorem dX1_takesPiece_62 : decode cX1_takesPiece 62 = .ok (.bipush 8, 2) := by decide +kernel
theorem dX1_takesPiece_64 : decode cX1_takesPiece 64 = .ok (.if_icmp .ge 20, 3) := by decide +kernel
theorem dX1_takesPiece_67 : decode cX1_takesPiece 67 = .ok (.aload_n 0, 1) := by decide +kernel
theorem dX1_takesPiece_68 : decode cX1_takesPiece 68 = .ok (.dup, 1) := by decide +kernel
theorem dX1_takesPiece_69 : decode cX1_takesPiece 69 = .ok (.getfield 34, 3) := by decide +kernel
theorem dX1_takesPiece_72 : decode cX1_takesPiece 72 = .ok (.iconst 1, 1) := by decide +kernel
theorem dX1_takesPiece_73 : decode cX1_takesPiece 73 = .ok (.iadd, 1) := by decide +kernel
theorem dX1_takesPiece_74 : decode cX1_takesPiece 74 = .ok (.putfield 34, 3) := by decide +kernel
theorem dX1_takesPiece_77 : decode cX1_takesPiece 77 = .ok (.aload_n 0, 1) := by decide +kernel
theorem dX1_takesPiece_78 : decode cX1_takesPiece 78 = .ok (.iload 4, 2) := by decide +kernel
theorem dX1_takesPiece_80 : decode cX1_takesPiece 80 = .ok (.invokevirtual 81, 3) := by decide +kernel
theorem dX1_takesPiece_83 : decode cX1_takesPiece 83 = .ok (.ireturn, 1) := by decide +kernel
theorem dX1_takesPiece_84 : decode cX1_takesPiece 84 = .ok (.iload 4, 2) := by decide +kernel
theorem dX1_takesPiece_86 : decode cX1_takesPiece 86 = .ok (.bipush 40, 2) := by decide +kernel
theorem dX1_takesPiece_88 : decode cX1_takesPiece 88 = .ok (.if_icmp .ne 29, 3) := by decide +kernel
theorem dX1_takesPiece_91 : decode cX1_takesPiece 91 = .ok (.aload_n 0, 1) := by decide +kernel
theorem dX1_takesPiece_92 : decode cX1_takesPiece 92 = .ok (.getfield 31, 3) := by decide +kernel
theorem dX1_takesPiece_95 : decode cX1_takesPiece 95 = .ok (.bipush 8, 2) := by decide +kernel
theorem dX1_takesPiece_97 : decode cX1_takesPiece 97 = .ok (.if_icmp .ge 20, 3) := by decide +kernel
theorem dX1_takesPiece_100 : decode cX1_takesPiece 100 = .ok (.aload_n 0, 1) := by decide +kernel
theorem dX1_takesPiece_101 : decode cX1_takesPiece 101 = .ok (.dup, 1) := by decide +kernel
theorem dX1_takesPiece_102 : decode cX1_takesPiece 102 = .ok (.getfield 31, 3) := by decide +kernel
theorem dX1_takesPiece_105 : decode cX1_takesPiece 105 = .ok (.iconst 1, 1) := by decide +kernel
theorem dX1_takesPiece_106 : decode cX1_takesPiece 106 = .ok (.iadd, 1) := by decide +kernel
theorem dX1_takesPiece_107 : decode cX1_takesPiece 107 = .ok (.putfield 31, 3) := by decide +kernel
theorem dX1_takesPiece_110 : decode cX1_takesPiece 110 = .ok (.aload_n 0, 1) := by decide +kernel
theorem dX1_takesPiece_111 : decode cX1_takesPiece 111 = .ok (.iload 4, 2) := by decide +kernel
theorem dX1_takesPiece_113 : decode cX1_takesPiece 113 = .ok (.invokevirtual 81, 3) := by decide +kernel
theorem dX1_takesPiece_116 : decode cX1_takesPiece 116 = .ok (.ireturn, 1) := by decide +kernel
theorem dX1_takesPiece_117 : decode cX1_takesPiece 117 = .ok (.iconst 0, 1) := by decide +kernel
theorem dX1_takesPiece_118 : decode cX1_takesPiece 118 = .ok (.ireturn, 1) := by decide +kernel
theorem dX1_takesNumber_0 : decode cX1_takesNumber 0 = .ok (.iload_n 3, 1) := by decide +kernel
theorem dX1_takesNumber_1 : decode cX1_takesNumber 1 = .ok (.iload_n 2, 1) := by decide +kernel
theorem dX1_takesNumber_2 : decode cX1_takesNumber 2 = .ok (.isub, 1) := by decide +kernel
theorem dX1_takesNumber_3 : decode cX1_takesNumber 3 = .ok (.iconst 4, 1) := by decide +kernel
theorem dX1_takesNumber_4 : decode cX1_takesNumber 4 = .ok (.if_icmp .le 5, 3) := by decide +kernel
theorem dX1_takesNumber_7 : decode cX1_takesNumber 7 = .ok (.iconst 0, 1) := by decide +kernel
theorem dX1_takesNumber_8 : decode cX1_takesNumber 8 = .ok (.ireturn, 1) := by decide +kernel
theorem dX1_takesNumber_9 : decode cX1_takesNumber 9 = .ok (.iconst 0, 1) := by decide +kernel
theorem dX1_takesNumber_10 : decode cX1_takesNumber 10 = .ok (.istore 4, 2) := by decide +kernel
theorem dX1_takesNumber_12 : decode cX1_takesNumber 12 = .ok (.iload_n 2, 1) := by decide +kernel
theorem dX1_takesNumber_13 : decode cX1_takesNumber 13 = .ok (.istore 5, 2) := by decide +kernel
theorem dX1_takesNumber_15 : decode cX1_takesNumber 15 = .ok (.iload 5, 2) := by decide +kernel
theorem dX1_takesNumber_17 : decode cX1_takesNumber 17 = .ok (.iload_n 3, 1) := by decide +kernel
theorem dX1_takesNumber_18 : decode cX1_takesNumber 18 = .ok (.if_icmp .ge 24, 3) := by decide +kernel
theorem dX1_takesNumber_21 : decode cX1_takesNumber 21 = .ok (.iload 4, 2) := by decide +kernel
theorem dX1_takesNumber_23 : decode cX1_takesNumber 23 = .ok (.bipush 10, 2) := by decide +kernel
theorem dX1_takesNumber_25 : decode cX1_takesNumber 25 = .ok (.imul, 1) := by decide +kernel
theorem dX1_takesNumber_26 : decode cX1_takesNumber 26 = .ok (.aload_n 1, 1) := by decide +kernel
theorem dX1_takesNumber_27 : decode cX1_takesNumber 27 = .ok (.iload 5, 2) := by decide +kernel
theorem dX1_takesNumber_29 : decode cX1_takesNumber 29 = .ok (.iaload, 1) := by decide +kernel
theorem dX1_takesNumber_30 : decode cX1_takesNumber 30 = .ok (.iadd, 1) := by decide +kernel
theorem dX1_takesNumber_31 : decode cX1_takesNumber 31 = .ok (.bipush 48, 2) := by decide +kernel
theorem dX1_takesNumber_33 : decode cX1_takesNumber 33 = .ok (.isub, 1) := by decide +kernel
theorem dX1_takesNumber_34 : decode cX1_takesNumber 34 = .ok (.istore 4, 2) := by decide +kernel
theorem dX1_takesNumber_36 : decode cX1_takesNumber 36 = .ok (.iinc 5 1, 3) := by decide +kernel
theorem dX1_takesNumber_39 : decode cX1_takesNumber 39 = .ok (.goto (-24), 3) := by decide +kernel
theorem dX1_takesNumber_42 : decode cX1_takesNumber 42 = .ok (.aload_n 0, 1) := by decide +kernel
theorem dX1_takesNumber_43 : decode cX1_takesNumber 43 = .ok (.iload 4, 2) := by decide +kernel
theorem dX1_takesNumber_45 : decode cX1_takesNumber 45 = .ok (.invokevirtual 84, 3) := by decide +kernel
theorem dX1_takesNumber_48 : decode cX1_takesNumber 48 = .ok (.iconst 1, 1) := by decide +kernel
theorem dX1_takesNumber_49 : decode cX1_takesNumber 49 = .ok (.ireturn, 1) := by decide +kernel
theorem dX1_takesName_0 : decode cX1_takesName 0 = .ok (.aload_n 0, 1) := by decide +kernel
theorem dX1_takesName_1 : decode cX1_takesName 1 = .ok (.getfield 9, 3) := by decide +kernel
theorem dX1_takesName_4 : decode cX1_takesName 4 = .ok (.invokestatic 88, 3) := by decide +kernel
theorem dX1_takesName_7 : decode cX1_takesName 7 = .ok (.iload_n 1, 1) := by decide +kernel
theorem dX1_takesName_8 : decode cX1_takesName 8 = .ok (.i2c, 1) := by decide +kernel
theorem dX1_takesName_9 : decode cX1_takesName 9 = .ok (.invokevirtual 92, 3) := by decide +kernel
theorem dX1_takesName_12 : decode cX1_takesName 12 = .ok (.istore_n 2, 1) := by decide +kernel
theorem dX1_takesName_13 : decode cX1_takesName 13 = .ok (.iload_n 2, 1) := by decide +kernel
theorem dX1_takesName_14 : decode cX1_takesName 14 = .ok (.ifCond .ge 5, 3) := by decide +kernel
theorem dX1_takesName_17 : decode cX1_takesName 17 = .ok (.iconst 0, 1) := by decide +kernel
theorem dX1_takesName_18 : decode cX1_takesName 18 = .ok (.ireturn, 1) := by decide +kernel
theorem dX1_takesName_19 : decode cX1_takesName 19 = .ok (.aload_n 0, 1) := by decide +kernel
theorem dX1_takesName_20 : decode cX1_takesName 20 = .ok (.iconst (-1), 1) := by decide +kernel
theorem dX1_takesName_21 : decode cX1_takesName 21 = .ok (.iload_n 2, 1) := by decide +kernel
theorem dX1_takesName_22 : decode cX1_takesName 22 = .ok (.isub, 1) := by decide +kernel
theorem dX1_takesName_23 : decode cX1_takesName 23 = .ok (.invokevirtual 84, 3) := by decide +kernel
theorem dX1_takesName_26 : decode cX1_takesName 26 = .ok (.iconst 1, 1) := by decide +kernel
theorem dX1_takesName_27 : decode cX1_takesName 27 = .ok (.ireturn, 1) := by decide +kernel
theorem dX1_takeLeaf_0 : decode cX1_takeLeaf 0 = .ok (.aload_n 0, 1) := by decide +kernel
theorem dX1_takeLeaf_1 : decode cX1_takeLeaf 1 = .ok (.dup, 1) := by decide +kernel
theorem dX1_takeLeaf_2 : decode cX1_takeLeaf 2 = .ok (.getfield 15, 3) := by decide +kernel
theorem dX1_takeLeaf_5 : decode cX1_takeLeaf 5 = .ok (.iconst 1, 1) := by decide +kernel
theorem dX1_takeLeaf_6 : decode cX1_takeLeaf 6 = .ok (.iadd, 1) := by decide +kernel
theorem dX1_takeLeaf_7 : decode cX1_takeLeaf 7 = .ok (.putfield 15, 3) := by decide +kernel
theorem dX1_takeLeaf_10 : decode cX1_takeLeaf 10 = .ok (.aload_n 0, 1) := by decide +kernel
theorem dX1_takeLeaf_11 : decode cX1_takeLeaf 11 = .ok (.iload_n 1, 1) := by decide +kernel
theorem dX1_takeLeaf_12 : decode cX1_takeLeaf 12 = .ok (.invokevirtual 98, 3) := by decide +kernel
theorem dX1_takeLeaf_15 : decode cX1_takeLeaf 15 = .ok (.aload_n 0, 1) := by decide +kernel
theorem dX1_takeLeaf_16 : decode cX1_takeLeaf 16 = .ok (.invokevirtual 101, 3) := by decide +kernel
theorem dX1_takeLeaf_19 : decode cX1_takeLeaf 19 = .ok (.return_, 1) := by decide +kernel
theorem dX1_endPiece_0 : decode cX1_endPiece 0 = .ok (.aload_n 0, 1) := by decide +kernel
theorem dX1_endPiece_1 : decode cX1_endPiece 1 = .ok (.iconst 0, 1) := by decide +kernel
theorem dX1_endPiece_2 : decode cX1_endPiece 2 = .ok (.putfield 37, 3) := by decide +kernel
theorem dX1_endPiece_5 : decode cX1_endPiece 5 = .ok (.aload_n 0, 1) := by decide +kernel
theorem dX1_endPiece_6 : decode cX1_endPiece 6 = .ok (.getfield 28, 3) := by decide +kernel
theorem dX1_endPiece_9 : decode cX1_endPiece 9 = .ok (.ifCond .le 48, 3) := by decide +kernel
theorem dX1_endPiece_12 : decode cX1_endPiece 12 = .ok (.aload_n 0, 1) := by decide +kernel
theorem dX1_endPiece_13 : decode cX1_endPiece 13 = .ok (.getfield 25, 3) := by decide +kernel
theorem dX1_endPiece_16 : decode cX1_endPiece 16 = .ok (.aload_n 0, 1) := by decide +kernel
theorem dX1_endPiece_17 : decode cX1_endPiece 17 = .ok (.getfield 28, 3) := by decide +kernel
theorem dX1_endPiece_20 : decode cX1_endPiece 20 = .ok (.iconst 1, 1) := by decide +kernel
theorem dX1_endPiece_21 : decode cX1_endPiece 21 = .ok (.isub, 1) := by decide +kernel
theorem dX1_endPiece_22 : decode cX1_endPiece 22 = .ok (.iaload, 1) := by decide +kernel
theorem dX1_endPiece_23 : decode cX1_endPiece 23 = .ok (.bipush 33, 2) := by decide +kernel
theorem dX1_endPiece_25 : decode cX1_endPiece 25 = .ok (.if_icmp .ne 32, 3) := by decide +kernel
theorem dX1_endPiece_28 : decode cX1_endPiece 28 = .ok (.aload_n 0, 1) := by decide +kernel
theorem dX1_endPiece_29 : decode cX1_endPiece 29 = .ok (.dup, 1) := by decide +kernel
theorem dX1_endPiece_30 : decode cX1_endPiece 30 = .ok (.getfield 28, 3) := by decide +kernel
theorem dX1_endPiece_33 : decode cX1_endPiece 33 = .ok (.iconst 1, 1) := by decide +kernel
theorem dX1_endPiece_34 : decode cX1_endPiece 34 = .ok (.isub, 1) := by decide +kernel
theorem dX1_endPiece_35 : decode cX1_endPiece 35 = .ok (.putfield 28, 3) := by decide +kernel
theorem dX1_endPiece_38 : decode cX1_endPiece 38 = .ok (.aload_n 0, 1) := by decide +kernel
theorem dX1_endPiece_39 : decode cX1_endPiece 39 = .ok (.dup, 1) := by decide +kernel
theorem dX1_endPiece_40 : decode cX1_endPiece 40 = .ok (.getfield 34, 3) := by decide +kernel
theorem dX1_endPiece_43 : decode cX1_endPiece 43 = .ok (.iconst 1, 1) := by decide +kernel
theorem dX1_endPiece_44 : decode cX1_endPiece 44 = .ok (.isub, 1) := by decide +kernel
theorem dX1_endPiece_45 : decode cX1_endPiece 45 = .ok (.putfield 34, 3) := by decide +kernel
theorem dX1_endPiece_48 : decode cX1_endPiece 48 = .ok (.aload_n 0, 1) := by decide +kernel
theorem dX1_endPiece_49 : decode cX1_endPiece 49 = .ok (.bipush (-33), 2) := by decide +kernel
theorem dX1_endPiece_51 : decode cX1_endPiece 51 = .ok (.invokevirtual 98, 3) := by decide +kernel
theorem dX1_endPiece_54 : decode cX1_endPiece 54 = .ok (.goto (-49), 3) := by decide +kernel
theorem dX1_endPiece_57 : decode cX1_endPiece 57 = .ok (.return_, 1) := by decide +kernel
theorem dX1_takesSign_0 : decode cX1_takesSign 0 = .ok (.iload_n 1, 1) := by decide +kernel
theorem dX1_takesSign_1 : decode cX1_takesSign 1 = .ok (.bipush 41, 2) := by decide +kernel
theorem dX1_takesSign_3 : decode cX1_takesSign 3 = .ok (.if_icmp .ne 8, 3) := by decide +kernel
theorem dX1_takesSign_6 : decode cX1_takesSign 6 = .ok (.aload_n 0, 1) := by decide +kernel
theorem dX1_takesSign_7 : decode cX1_takesSign 7 = .ok (.invokevirtual 104, 3) := by decide +kernel
theorem dX1_takesSign_10 : decode cX1_takesSign 10 = .ok (.ireturn, 1) := by decide +kernel
theorem dX1_takesSign_11 : decode cX1_takesSign 11 = .ok (.iload_n 1, 1) := by decide +kernel
theorem dX1_takesSign_12 : decode cX1_takesSign 12 = .ok (.invokestatic 107, 3) := by decide +kernel
theorem dX1_takesSign_15 : decode cX1_takesSign 15 = .ok (.istore_n 2, 1) := by decide +kernel
theorem dX1_takesSign_16 : decode cX1_takesSign 16 = .ok (.iload_n 2, 1) := by decide +kernel
theorem dX1_takesSign_17 : decode cX1_takesSign 17 = .ok (.ifCond .ne 5, 3) := by decide +kernel
theorem dX1_takesSign_20 : decode cX1_takesSign 20 = .ok (.iconst 0, 1) := by decide +kernel
theorem dX1_takesSign_21 : decode cX1_takesSign 21 = .ok (.ireturn, 1) := by decide +kernel
theorem dX1_takesSign_22 : decode cX1_takesSign 22 = .ok (.aload_n 0, 1) := by decide +kernel
theorem dX1_takesSign_23 : decode cX1_takesSign 23 = .ok (.iload_n 2, 1) := by decide +kernel
theorem dX1_takesSign_24 : decode cX1_takesSign 24 = .ok (.invokevirtual 110, 3) := by decide +kernel
theorem dX1_takesSign_27 : decode cX1_takesSign 27 = .ok (.aload_n 0, 1) := by decide +kernel
theorem dX1_takesSign_28 : decode cX1_takesSign 28 = .ok (.getfield 28, 3) := by decide +kernel
theorem dX1_takesSign_31 : decode cX1_takesSign 31 = .ok (.ifCond .le 25, 3) := by decide +kernel
theorem dX1_takesSign_34 : decode cX1_takesSign 34 = .ok (.aload_n 0, 1) := by decide +kernel
theorem dX1_takesSign_35 : decode cX1_takesSign 35 = .ok (.getfield 25, 3) := by decide +kernel
theorem dX1_takesSign_38 : decode cX1_takesSign 38 = .ok (.aload_n 0, 1) := by decide +kernel
theorem dX1_takesSign_39 : decode cX1_takesSign 39 = .ok (.getfield 28, 3) := by decide +kernel
theorem dX1_takesSign_42 : decode cX1_takesSign 42 = .ok (.iconst 1, 1) := by decide +kernel
theorem dX1_takesSign_43 : decode cX1_takesSign 43 = .ok (.isub, 1) := by decide +kernel
theorem dX1_takesSign_44 : decode cX1_takesSign 44 = .ok (.iaload, 1) := by decide +kernel
theorem dX1_takesSign_45 : decode cX1_takesSign 45 = .ok (.invokestatic 107, 3) := by decide +kernel
theorem dX1_takesSign_48 : decode cX1_takesSign 48 = .ok (.iload_n 2, 1) := by decide +kernel
theorem dX1_takesSign_49 : decode cX1_takesSign 49 = .ok (.if_icmp .ne 7, 3) := by decide +kernel
theorem dX1_takesSign_52 : decode cX1_takesSign 52 = .ok (.iconst 1, 1) := by decide +kernel
theorem dX1_takesSign_53 : decode cX1_takesSign 53 = .ok (.goto 4, 3) := by decide +kernel
theorem dX1_takesSign_56 : decode cX1_takesSign 56 = .ok (.iconst 0, 1) := by decide +kernel
theorem dX1_takesSign_57 : decode cX1_takesSign 57 = .ok (.istore_n 3, 1) := by decide +kernel
theorem dX1_takesSign_58 : decode cX1_takesSign 58 = .ok (.iload_n 3, 1) := by decide +kernel
theorem dX1_takesSign_59 : decode cX1_takesSign 59 = .ok (.ifCond .eq 10, 3) := by decide +kernel
theorem dX1_takesSign_62 : decode cX1_takesSign 62 = .ok (.iload_n 2, 1) := by decide +kernel
theorem dX1_takesSign_63 : decode cX1_takesSign 63 = .ok (.iconst 3, 1) := by decide +kernel
theorem dX1_takesSign_64 : decode cX1_takesSign 64 = .ok (.if_icmp .ne 5, 3) := by decide +kernel
theorem dX1_takesSign_67 : decode cX1_takesSign 67 = .ok (.iconst 0, 1) := by decide +kernel
theorem dX1_takesSign_68 : decode cX1_takesSign 68 = .ok (.ireturn, 1) := by decide +kernel
theorem dX1_takesSign_69 : decode cX1_takesSign 69 = .ok (.aload_n 0, 1) := by decide +kernel
theorem dX1_takesSign_70 : decode cX1_takesSign 70 = .ok (.iload_n 2, 1) := by decide +kernel
theorem dX1_takesSign_71 : decode cX1_takesSign 71 = .ok (.iconst 1, 1) := by decide +kernel
theorem dX1_takesSign_72 : decode cX1_takesSign 72 = .ok (.isub, 1) := by decide +kernel
theorem dX1_takesSign_73 : decode cX1_takesSign 73 = .ok (.invokevirtual 110, 3) := by decide +kernel
theorem dX1_takesSign_76 : decode cX1_takesSign 76 = .ok (.aload_n 0, 1) := by decide +kernel
theorem dX1_takesSign_77 : decode cX1_takesSign 77 = .ok (.iconst 1, 1) := by decide +kernel
theorem dX1_takesSign_78 : decode cX1_takesSign 78 = .ok (.putfield 37, 3) := by decide +kernel
theorem dX1_takesSign_81 : decode cX1_takesSign 81 = .ok (.aload_n 0, 1) := by decide +kernel
theorem dX1_takesSign_82 : decode cX1_takesSign 82 = .ok (.iload_n 1, 1) := by decide +kernel
theorem dX1_takesSign_83 : decode cX1_takesSign 83 = .ok (.invokevirtual 81, 3) := by decide +kernel
theorem dX1_takesSign_86 : decode cX1_takesSign 86 = .ok (.ireturn, 1) := by decide +kernel
theorem dX1_closesBracket_0 : decode cX1_closesBracket 0 = .ok (.aload_n 0, 1) := by decide +kernel
theorem dX1_closesBracket_1 : decode cX1_closesBracket 1 = .ok (.iconst 0, 1) := by decide +kernel
theorem dX1_closesBracket_2 : decode cX1_closesBracket 2 = .ok (.invokevirtual 110, 3) := by decide +kernel
theorem dX1_closesBracket_5 : decode cX1_closesBracket 5 = .ok (.aload_n 0, 1) := by decide +kernel
theorem dX1_closesBracket_6 : decode cX1_closesBracket 6 = .ok (.getfield 31, 3) := by decide +kernel
theorem dX1_closesBracket_9 : decode cX1_closesBracket 9 = .ok (.ifCond .eq 10, 3) := by decide +kernel
theorem dX1_closesBracket_12 : decode cX1_closesBracket 12 = .ok (.aload_n 0, 1) := by decide +kernel
theorem dX1_closesBracket_13 : decode cX1_closesBracket 13 = .ok (.getfield 28, 3) := by decide +kernel
theorem dX1_closesBracket_16 : decode cX1_closesBracket 16 = .ok (.ifCond .ne 5, 3) := by decide +kernel
theorem dX1_closesBracket_19 : decode cX1_closesBracket 19 = .ok (.iconst 0, 1) := by decide +kernel
theorem dX1_closesBracket_20 : decode cX1_closesBracket 20 = .ok (.ireturn, 1) := by decide +kernel
theorem dX1_closesBracket_21 : decode cX1_closesBracket 21 = .ok (.aload_n 0, 1) := by decide +kernel
theorem dX1_closesBracket_22 : decode cX1_closesBracket 22 = .ok (.dup, 1) := by decide +kernel
theorem dX1_closesBracket_23 : decode cX1_closesBracket 23 = .ok (.getfield 28, 3) := by decide +kernel
theorem dX1_closesBracket_26 : decode cX1_closesBracket 26 = .ok (.iconst 1, 1) := by decide +kernel
theorem dX1_closesBracket_27 : decode cX1_closesBracket 27 = .ok (.isub, 1) := by decide +kernel
theorem dX1_closesBracket_28 : decode cX1_closesBracket 28 = .ok (.putfield 28, 3) := by decide +kernel
theorem dX1_closesBracket_31 : decode cX1_closesBracket 31 = .ok (.aload_n 0, 1) := by decide +kernel
theorem dX1_closesBracket_32 : decode cX1_closesBracket 32 = .ok (.dup, 1) := by decide +kernel
theorem dX1_closesBracket_33 : decode cX1_closesBracket 33 = .ok (.getfield 31, 3) := by decide +kernel
theorem dX1_closesBracket_36 : decode cX1_closesBracket 36 = .ok (.iconst 1, 1) := by decide +kernel
theorem dX1_closesBracket_37 : decode cX1_closesBracket 37 = .ok (.isub, 1) := by decide +kernel
theorem dX1_closesBracket_38 : decode cX1_closesBracket 38 = .ok (.putfield 31, 3) := by decide +kernel
theorem dX1_closesBracket_41 : decode cX1_closesBracket 41 = .ok (.aload_n 0, 1) := by decide +kernel
theorem dX1_closesBracket_42 : decode cX1_closesBracket 42 = .ok (.invokevirtual 101, 3) := by decide +kernel
theorem dX1_closesBracket_45 : decode cX1_closesBracket 45 = .ok (.iconst 1, 1) := by decide +kernel
theorem dX1_closesBracket_46 : decode cX1_closesBracket 46 = .ok (.ireturn, 1) := by decide +kernel
theorem dX1_endsHere_0 : decode cX1_endsHere 0 = .ok (.aload_n 0, 1) := by decide +kernel
theorem dX1_endsHere_1 : decode cX1_endsHere 1 = .ok (.getfield 37, 3) := by decide +kernel
theorem dX1_endsHere_4 : decode cX1_endsHere 4 = .ok (.ifCond .ne 10, 3) := by decide +kernel
theorem dX1_endsHere_7 : decode cX1_endsHere 7 = .ok (.aload_n 0, 1) := by decide +kernel
theorem dX1_endsHere_8 : decode cX1_endsHere 8 = .ok (.getfield 31, 3) := by decide +kernel
theorem dX1_endsHere_11 : decode cX1_endsHere 11 = .ok (.ifCond .le 5, 3) := by decide +kernel
theorem dX1_endsHere_14 : decode cX1_endsHere 14 = .ok (.iconst 0, 1) := by decide +kernel
theorem dX1_endsHere_15 : decode cX1_endsHere 15 = .ok (.ireturn, 1) := by decide +kernel
theorem dX1_endsHere_16 : decode cX1_endsHere 16 = .ok (.aload_n 0, 1) := by decide +kernel
theorem dX1_endsHere_17 : decode cX1_endsHere 17 = .ok (.iconst 0, 1) := by decide +kernel
theorem dX1_endsHere_18 : decode cX1_endsHere 18 = .ok (.invokevirtual 110, 3) := by decide +kernel
theorem dX1_endsHere_21 : decode cX1_endsHere 21 = .ok (.iconst 1, 1) := by decide +kernel
theorem dX1_endsHere_22 : decode cX1_endsHere 22 = .ok (.ireturn, 1) := by decide +kernel
theorem dX1_putThoseAbove_0 : decode cX1_putThoseAbove 0 = .ok (.aload_n 0, 1) := by decide +kernel
theorem dX1_putThoseAbove_1 : decode cX1_putThoseAbove 1 = .ok (.getfield 28, 3) := by decide +kernel
theorem dX1_putThoseAbove_4 : decode cX1_putThoseAbove 4 = .ok (.ifCond .le 48, 3) := by decide +kernel
theorem dX1_putThoseAbove_7 : decode cX1_putThoseAbove 7 = .ok (.aload_n 0, 1) := by decide +kernel
theorem dX1_putThoseAbove_8 : decode cX1_putThoseAbove 8 = .ok (.getfield 25, 3) := by decide +kernel
theorem dX1_putThoseAbove_11 : decode cX1_putThoseAbove 11 = .ok (.aload_n 0, 1) := by decide +kernel
theorem dX1_putThoseAbove_12 : decode cX1_putThoseAbove 12 = .ok (.getfield 28, 3) := by decide +kernel
theorem dX1_putThoseAbove_15 : decode cX1_putThoseAbove 15 = .ok (.iconst 1, 1) := by decide +kernel
theorem dX1_putThoseAbove_16 : decode cX1_putThoseAbove 16 = .ok (.isub, 1) := by decide +kernel
theorem dX1_putThoseAbove_17 : decode cX1_putThoseAbove 17 = .ok (.iaload, 1) := by decide +kernel
theorem dX1_putThoseAbove_18 : decode cX1_putThoseAbove 18 = .ok (.invokestatic 107, 3) := by decide +kernel
theorem dX1_putThoseAbove_21 : decode cX1_putThoseAbove 21 = .ok (.iload_n 1, 1) := by decide +kernel
theorem dX1_putThoseAbove_22 : decode cX1_putThoseAbove 22 = .ok (.if_icmp .le 30, 3) := by decide +kernel
theorem dX1_putThoseAbove_25 : decode cX1_putThoseAbove 25 = .ok (.aload_n 0, 1) := by decide +kernel
theorem dX1_putThoseAbove_26 : decode cX1_putThoseAbove 26 = .ok (.dup, 1) := by decide +kernel
theorem dX1_putThoseAbove_27 : decode cX1_putThoseAbove 27 = .ok (.getfield 28, 3) := by decide +kernel
theorem dX1_putThoseAbove_30 : decode cX1_putThoseAbove 30 = .ok (.iconst 1, 1) := by decide +kernel
theorem dX1_putThoseAbove_31 : decode cX1_putThoseAbove 31 = .ok (.isub, 1) := by decide +kernel
theorem dX1_putThoseAbove_32 : decode cX1_putThoseAbove 32 = .ok (.putfield 28, 3) := by decide +kernel
theorem dX1_putThoseAbove_35 : decode cX1_putThoseAbove 35 = .ok (.aload_n 0, 1) := by decide +kernel
theorem dX1_putThoseAbove_36 : decode cX1_putThoseAbove 36 = .ok (.aload_n 0, 1) := by decide +kernel
theorem dX1_putThoseAbove_37 : decode cX1_putThoseAbove 37 = .ok (.getfield 25, 3) := by decide +kernel
theorem dX1_putThoseAbove_40 : decode cX1_putThoseAbove 40 = .ok (.aload_n 0, 1) := by decide +kernel
theorem dX1_putThoseAbove_41 : decode cX1_putThoseAbove 41 = .ok (.getfield 28, 3) := by decide +kernel
theorem dX1_putThoseAbove_44 : decode cX1_putThoseAbove 44 = .ok (.iaload, 1) := by decide +kernel
theorem dX1_putThoseAbove_45 : decode cX1_putThoseAbove 45 = .ok (.ineg, 1) := by decide +kernel
theorem dX1_putThoseAbove_46 : decode cX1_putThoseAbove 46 = .ok (.invokevirtual 98, 3) := by decide +kernel
theorem dX1_putThoseAbove_49 : decode cX1_putThoseAbove 49 = .ok (.goto (-49), 3) := by decide +kernel
theorem dX1_putThoseAbove_52 : decode cX1_putThoseAbove 52 = .ok (.return_, 1) := by decide +kernel
theorem dX1_waits_0 : decode cX1_waits 0 = .ok (.aload_n 0, 1) := by decide +kernel
theorem dX1_waits_1 : decode cX1_waits 1 = .ok (.getfield 28, 3) := by decide +kernel
theorem dX1_waits_4 : decode cX1_waits 4 = .ok (.bipush 96, 2) := by decide +kernel
theorem dX1_waits_6 : decode cX1_waits 6 = .ok (.if_icmp .lt 5, 3) := by decide +kernel
theorem dX1_waits_9 : decode cX1_waits 9 = .ok (.iconst 0, 1) := by decide +kernel
theorem dX1_waits_10 : decode cX1_waits 10 = .ok (.ireturn, 1) := by decide +kernel
theorem dX1_waits_11 : decode cX1_waits 11 = .ok (.aload_n 0, 1) := by decide +kernel
theorem dX1_waits_12 : decode cX1_waits 12 = .ok (.getfield 25, 3) := by decide +kernel
theorem dX1_waits_15 : decode cX1_waits 15 = .ok (.aload_n 0, 1) := by decide +kernel
theorem dX1_waits_16 : decode cX1_waits 16 = .ok (.getfield 28, 3) := by decide +kernel
theorem dX1_waits_19 : decode cX1_waits 19 = .ok (.iload_n 1, 1) := by decide +kernel
theorem dX1_waits_20 : decode cX1_waits 20 = .ok (.iastore, 1) := by decide +kernel
theorem dX1_waits_21 : decode cX1_waits 21 = .ok (.aload_n 0, 1) := by decide +kernel
theorem dX1_waits_22 : decode cX1_waits 22 = .ok (.dup, 1) := by decide +kernel
theorem dX1_waits_23 : decode cX1_waits 23 = .ok (.getfield 28, 3) := by decide +kernel
theorem dX1_waits_26 : decode cX1_waits 26 = .ok (.iconst 1, 1) := by decide +kernel
theorem dX1_waits_27 : decode cX1_waits 27 = .ok (.iadd, 1) := by decide +kernel
theorem dX1_waits_28 : decode cX1_waits 28 = .ok (.putfield 28, 3) := by decide +kernel
theorem dX1_waits_31 : decode cX1_waits 31 = .ok (.iconst 1, 1) := by decide +kernel
theorem dX1_waits_32 : decode cX1_waits 32 = .ok (.ireturn, 1) := by decide +kernel
theorem dX1_put_0 : decode cX1_put 0 = .ok (.aload_n 0, 1) := by decide +kernel
theorem dX1_put_1 : decode cX1_put 1 = .ok (.getfield 18, 3) := by decide +kernel
theorem dX1_put_4 : decode cX1_put 4 = .ok (.bipush 96, 2) := by decide +kernel
theorem dX1_put_6 : decode cX1_put 6 = .ok (.if_icmp .ge 23, 3) := by decide +kernel
theorem dX1_put_9 : decode cX1_put 9 = .ok (.aload_n 0, 1) := by decide +kernel
theorem dX1_put_10 : decode cX1_put 10 = .ok (.getfield 21, 3) := by decide +kernel
theorem dX1_put_13 : decode cX1_put 13 = .ok (.aload_n 0, 1) := by decide +kernel
theorem dX1_put_14 : decode cX1_put 14 = .ok (.getfield 18, 3) := by decide +kernel
theorem dX1_put_17 : decode cX1_put 17 = .ok (.iload_n 1, 1) := by decide +kernel
theorem dX1_put_18 : decode cX1_put 18 = .ok (.iastore, 1) := by decide +kernel
theorem dX1_put_19 : decode cX1_put 19 = .ok (.aload_n 0, 1) := by decide +kernel
theorem dX1_put_20 : decode cX1_put 20 = .ok (.dup, 1) := by decide +kernel
theorem dX1_put_21 : decode cX1_put 21 = .ok (.getfield 18, 3) := by decide +kernel
theorem dX1_put_24 : decode cX1_put 24 = .ok (.iconst 1, 1) := by decide +kernel
theorem dX1_put_25 : decode cX1_put 25 = .ok (.iadd, 1) := by decide +kernel
theorem dX1_put_26 : decode cX1_put 26 = .ok (.putfield 18, 3) := by decide +kernel
theorem dX1_put_29 : decode cX1_put 29 = .ok (.return_, 1) := by decide +kernel
theorem dX1_rankOf_0 : decode cX1_rankOf 0 = .ok (.iload_n 0, 1) := by decide +kernel
theorem dX1_rankOf_1 : decode cX1_rankOf 1 = .ok (.lookupswitch 93 #[(38, 85), (42, 91), (43, 89), (45, 89), (47, 91), (60, 87), (61, 87), (62, 87), (124, 83)], 83) := by decide +kernel
theorem dX1_rankOf_84 : decode cX1_rankOf 84 = .ok (.iconst 1, 1) := by decide +kernel
theorem dX1_rankOf_85 : decode cX1_rankOf 85 = .ok (.ireturn, 1) := by decide +kernel
theorem dX1_rankOf_86 : decode cX1_rankOf 86 = .ok (.iconst 2, 1) := by decide +kernel
theorem dX1_rankOf_87 : decode cX1_rankOf 87 = .ok (.ireturn, 1) := by decide +kernel
theorem dX1_rankOf_88 : decode cX1_rankOf 88 = .ok (.iconst 3, 1) := by decide +kernel
theorem dX1_rankOf_89 : decode cX1_rankOf 89 = .ok (.ireturn, 1) := by decide +kernel
theorem dX1_rankOf_90 : decode cX1_rankOf 90 = .ok (.iconst 4, 1) := by decide +kernel
theorem dX1_rankOf_91 : decode cX1_rankOf 91 = .ok (.ireturn, 1) := by decide +kernel
theorem dX1_rankOf_92 : decode cX1_rankOf 92 = .ok (.iconst 5, 1) := by decide +kernel
theorem dX1_rankOf_93 : decode cX1_rankOf 93 = .ok (.ireturn, 1) := by decide +kernel
theorem dX1_rankOf_94 : decode cX1_rankOf 94 = .ok (.iconst 0, 1) := by decide +kernel
theorem dX1_rankOf_95 : decode cX1_rankOf 95 = .ok (.ireturn, 1) := by decide +kernel
theorem dX1_keyOf_0 : decode cX1_keyOf 0 = .ok (.iconst 0, 1) := by decide +kernel
theorem dX1_keyOf_1 : decode cX1_keyOf 1 = .ok (.istore_n 3, 1) := by decide +kernel
theorem dX1_keyOf_2 : decode cX1_keyOf 2 = .ok (.iload_n 3, 1) := by decide +kernel
theorem dX1_keyOf_3 : decode cX1_keyOf 3 = .ok (.iconst 2, 1) := by decide +kernel
theorem dX1_keyOf_4 : decode cX1_keyOf 4 = .ok (.if_icmp .gt 24, 3) := by decide +kernel
theorem dX1_keyOf_7 : decode cX1_keyOf 7 = .ok (.aload_n 0, 1) := by decide +kernel
theorem dX1_keyOf_8 : decode cX1_keyOf 8 = .ok (.iload_n 1, 1) := by decide +kernel
theorem dX1_keyOf_9 : decode cX1_keyOf 9 = .ok (.iload_n 2, 1) := by decide +kernel
theorem dX1_keyOf_10 : decode cX1_keyOf 10 = .ok (.iload_n 3, 1) := by decide +kernel
theorem dX1_keyOf_11 : decode cX1_keyOf 11 = .ok (.invokestatic 113, 3) := by decide +kernel
theorem dX1_keyOf_14 : decode cX1_keyOf 14 = .ok (.invokestatic 116, 3) := by decide +kernel
theorem dX1_keyOf_17 : decode cX1_keyOf 17 = .ok (.ifCond .eq 5, 3) := by decide +kernel
theorem dX1_keyOf_20 : decode cX1_keyOf 20 = .ok (.iload_n 3, 1) := by decide +kernel
theorem dX1_keyOf_21 : decode cX1_keyOf 21 = .ok (.ireturn, 1) := by decide +kernel
theorem dX1_keyOf_22 : decode cX1_keyOf 22 = .ok (.iinc 3 1, 3) := by decide +kernel
theorem dX1_keyOf_25 : decode cX1_keyOf 25 = .ok (.goto (-23), 3) := by decide +kernel
theorem dX1_keyOf_28 : decode cX1_keyOf 28 = .ok (.iconst (-1), 1) := by decide +kernel
theorem dX1_keyOf_29 : decode cX1_keyOf 29 = .ok (.ireturn, 1) := by decide +kernel
theorem dX1_wordOf_0 : decode cX1_wordOf 0 = .ok (.iload_n 0, 1) := by decide +kernel
theorem dX1_wordOf_1 : decode cX1_wordOf 1 = .ok (.lookupswitch 33 #[(0, 27), (1, 30)], 27) := by decide +kernel
theorem dX1_wordOf_28 : decode cX1_wordOf 28 = .ok (.ldc 120, 2) := by decide +kernel
theorem dX1_wordOf_30 : decode cX1_wordOf 30 = .ok (.areturn, 1) := by decide +kernel
theorem dX1_wordOf_31 : decode cX1_wordOf 31 = .ok (.ldc 122, 2) := by decide +kernel
theorem dX1_wordOf_33 : decode cX1_wordOf 33 = .ok (.areturn, 1) := by decide +kernel
theorem dX1_wordOf_34 : decode cX1_wordOf 34 = .ok (.ldc 124, 2) := by decide +kernel
theorem dX1_wordOf_36 : decode cX1_wordOf 36 = .ok (.areturn, 1) := by decide +kernel
theorem dX1_namesOf_0 : decode cX1_namesOf 0 = .ok (.iload_n 0, 1) := by decide +kernel
theorem dX1_namesOf_1 : decode cX1_namesOf 1 = .ok (.lookupswitch 33 #[(0, 27), (1, 30)], 27) := by decide +kernel
theorem dX1_namesOf_28 : decode cX1_namesOf 28 = .ok (.ldc 126, 2) := by decide +kernel
theorem dX1_namesOf_30 : decode cX1_namesOf 30 = .ok (.areturn, 1) := by decide +kernel
theorem dX1_namesOf_31 : decode cX1_namesOf 31 = .ok (.ldc 128, 2) := by decide +kernel
theorem dX1_namesOf_33 : decode cX1_namesOf 33 = .ok (.areturn, 1) := by decide +kernel
theorem dX1_namesOf_34 : decode cX1_namesOf 34 = .ok (.ldc 130, 2) := by decide +kernel
theorem dX1_namesOf_36 : decode cX1_namesOf 36 = .ok (.areturn, 1) := by decide +kernel
theorem dX1_isWord_0 : decode cX1_isWord 0 = .ok (.iload_n 2, 1) := by decide +kernel
theorem dX1_isWord_1 : decode cX1_isWord 1 = .ok (.iload_n 1, 1) := by decide +kernel
theorem dX1_isWord_2 : decode cX1_isWord 2 = .ok (.isub, 1) := by decide +kernel
theorem dX1_isWord_3 : decode cX1_isWord 3 = .ok (.aload_n 3, 1) := by decide +kernel
theorem dX1_isWord_4 : decode cX1_isWord 4 = .ok (.invokevirtual 132, 3) := by decide +kernel
theorem dX1_isWord_7 : decode cX1_isWord 7 = .ok (.if_icmp .eq 5, 3) := by decide +kernel
theorem dX1_isWord_10 : decode cX1_isWord 10 = .ok (.iconst 0, 1) := by decide +kernel
theorem dX1_isWord_11 : decode cX1_isWord 11 = .ok (.ireturn, 1) := by decide +kernel
theorem dX1_isWord_12 : decode cX1_isWord 12 = .ok (.iconst 0, 1) := by decide +kernel
theorem dX1_isWord_13 : decode cX1_isWord 13 = .ok (.istore 4, 2) := by decide +kernel
theorem dX1_isWord_15 : decode cX1_isWord 15 = .ok (.iload 4, 2) := by decide +kernel
theorem dX1_isWord_17 : decode cX1_isWord 17 = .ok (.aload_n 3, 1) := by decide +kernel
theorem dX1_isWord_18 : decode cX1_isWord 18 = .ok (.invokevirtual 132, 3) := by decide +kernel
theorem dX1_isWord_21 : decode cX1_isWord 21 = .ok (.if_icmp .ge 26, 3) := by decide +kernel
theorem dX1_isWord_24 : decode cX1_isWord 24 = .ok (.aload_n 0, 1) := by decide +kernel
theorem dX1_isWord_25 : decode cX1_isWord 25 = .ok (.iload_n 1, 1) := by decide +kernel
theorem dX1_isWord_26 : decode cX1_isWord 26 = .ok (.iload 4, 2) := by decide +kernel
theorem dX1_isWord_28 : decode cX1_isWord 28 = .ok (.iadd, 1) := by decide +kernel
theorem dX1_isWord_29 : decode cX1_isWord 29 = .ok (.iaload, 1) := by decide +kernel
theorem dX1_isWord_30 : decode cX1_isWord 30 = .ok (.aload_n 3, 1) := by decide +kernel
theorem dX1_isWord_31 : decode cX1_isWord 31 = .ok (.iload 4, 2) := by decide +kernel
theorem dX1_isWord_33 : decode cX1_isWord 33 = .ok (.invokevirtual 135, 3) := by decide +kernel
theorem dX1_isWord_36 : decode cX1_isWord 36 = .ok (.if_icmp .eq 5, 3) := by decide +kernel
theorem dX1_isWord_39 : decode cX1_isWord 39 = .ok (.iconst 0, 1) := by decide +kernel
theorem dX1_isWord_40 : decode cX1_isWord 40 = .ok (.ireturn, 1) := by decide +kernel
theorem dX1_isWord_41 : decode cX1_isWord 41 = .ok (.iinc 4 1, 3) := by decide +kernel
theorem dX1_isWord_44 : decode cX1_isWord 44 = .ok (.goto (-29), 3) := by decide +kernel
theorem dX1_isWord_47 : decode cX1_isWord 47 = .ok (.iconst 1, 1) := by decide +kernel
theorem dX1_isWord_48 : decode cX1_isWord 48 = .ok (.ireturn, 1) := by decide +kernel
theorem dX1_pastBlanks_0 : decode cX1_pastBlanks 0 = .ok (.iload_n 1, 1) := by decide +kernel
theorem dX1_pastBlanks_1 : decode cX1_pastBlanks 1 = .ok (.istore_n 3, 1) := by decide +kernel
theorem dX1_pastBlanks_2 : decode cX1_pastBlanks 2 = .ok (.iload_n 3, 1) := by decide +kernel
theorem dX1_pastBlanks_3 : decode cX1_pastBlanks 3 = .ok (.iload_n 2, 1) := by decide +kernel
theorem dX1_pastBlanks_4 : decode cX1_pastBlanks 4 = .ok (.if_icmp .ge 17, 3) := by decide +kernel
theorem dX1_pastBlanks_7 : decode cX1_pastBlanks 7 = .ok (.aload_n 0, 1) := by decide +kernel
theorem dX1_pastBlanks_8 : decode cX1_pastBlanks 8 = .ok (.iload_n 3, 1) := by decide +kernel
theorem dX1_pastBlanks_9 : decode cX1_pastBlanks 9 = .ok (.iaload, 1) := by decide +kernel
theorem dX1_pastBlanks_10 : decode cX1_pastBlanks 10 = .ok (.bipush 32, 2) := by decide +kernel
theorem dX1_pastBlanks_12 : decode cX1_pastBlanks 12 = .ok (.if_icmp .ne 9, 3) := by decide +kernel
theorem dX1_pastBlanks_15 : decode cX1_pastBlanks 15 = .ok (.iinc 3 1, 3) := by decide +kernel
theorem dX1_pastBlanks_18 : decode cX1_pastBlanks 18 = .ok (.goto (-16), 3) := by decide +kernel
theorem dX1_pastBlanks_21 : decode cX1_pastBlanks 21 = .ok (.iload_n 3, 1) := by decide +kernel
theorem dX1_pastBlanks_22 : decode cX1_pastBlanks 22 = .ok (.ireturn, 1) := by decide +kernel
theorem dX1_endOfWord_0 : decode cX1_endOfWord 0 = .ok (.iload_n 1, 1) := by decide +kernel
theorem dX1_endOfWord_1 : decode cX1_endOfWord 1 = .ok (.iload_n 2, 1) := by decide +kernel
theorem dX1_endOfWord_2 : decode cX1_endOfWord 2 = .ok (.if_icmp .lt 5, 3) := by decide +kernel
theorem dX1_endOfWord_5 : decode cX1_endOfWord 5 = .ok (.iload_n 2, 1) := by decide +kernel
theorem dX1_endOfWord_6 : decode cX1_endOfWord 6 = .ok (.ireturn, 1) := by decide +kernel
theorem dX1_endOfWord_7 : decode cX1_endOfWord 7 = .ok (.aload_n 0, 1) := by decide +kernel
theorem dX1_endOfWord_8 : decode cX1_endOfWord 8 = .ok (.iload_n 1, 1) := by decide +kernel
theorem dX1_endOfWord_9 : decode cX1_endOfWord 9 = .ok (.iaload, 1) := by decide +kernel
theorem dX1_endOfWord_10 : decode cX1_endOfWord 10 = .ok (.invokestatic 75, 3) := by decide +kernel
theorem dX1_endOfWord_13 : decode cX1_endOfWord 13 = .ok (.istore_n 3, 1) := by decide +kernel
theorem dX1_endOfWord_14 : decode cX1_endOfWord 14 = .ok (.aload_n 0, 1) := by decide +kernel
theorem dX1_endOfWord_15 : decode cX1_endOfWord 15 = .ok (.iload_n 1, 1) := by decide +kernel
theorem dX1_endOfWord_16 : decode cX1_endOfWord 16 = .ok (.iaload, 1) := by decide +kernel
theorem dX1_endOfWord_17 : decode cX1_endOfWord 17 = .ok (.invokestatic 69, 3) := by decide +kernel
theorem dX1_endOfWord_20 : decode cX1_endOfWord 20 = .ok (.istore 4, 2) := by decide +kernel
theorem dX1_endOfWord_22 : decode cX1_endOfWord 22 = .ok (.iload_n 1, 1) := by decide +kernel
theorem dX1_endOfWord_23 : decode cX1_endOfWord 23 = .ok (.iconst 1, 1) := by decide +kernel
theorem dX1_endOfWord_24 : decode cX1_endOfWord 24 = .ok (.iadd, 1) := by decide +kernel
theorem dX1_endOfWord_25 : decode cX1_endOfWord 25 = .ok (.istore 5, 2) := by decide +kernel
theorem dX1_endOfWord_27 : decode cX1_endOfWord 27 = .ok (.iload 5, 2) := by decide +kernel
theorem dX1_endOfWord_29 : decode cX1_endOfWord 29 = .ok (.iload_n 2, 1) := by decide +kernel
theorem dX1_endOfWord_30 : decode cX1_endOfWord 30 = .ok (.if_icmp .ge 38, 3) := by decide +kernel
theorem dX1_endOfWord_33 : decode cX1_endOfWord 33 = .ok (.iload_n 3, 1) := by decide +kernel
theorem dX1_endOfWord_34 : decode cX1_endOfWord 34 = .ok (.ifCond .eq 13, 3) := by decide +kernel
theorem dX1_endOfWord_37 : decode cX1_endOfWord 37 = .ok (.aload_n 0, 1) := by decide +kernel
theorem dX1_endOfWord_38 : decode cX1_endOfWord 38 = .ok (.iload 5, 2) := by decide +kernel
theorem dX1_endOfWord_40 : decode cX1_endOfWord 40 = .ok (.iaload, 1) := by decide +kernel
theorem dX1_endOfWord_41 : decode cX1_endOfWord 41 = .ok (.invokestatic 75, 3) := by decide +kernel
theorem dX1_endOfWord_44 : decode cX1_endOfWord 44 = .ok (.ifCond .ne 18, 3) := by decide +kernel
theorem dX1_endOfWord_47 : decode cX1_endOfWord 47 = .ok (.iload 4, 2) := by decide +kernel
theorem dX1_endOfWord_49 : decode cX1_endOfWord 49 = .ok (.ifCond .eq 19, 3) := by decide +kernel
theorem dX1_endOfWord_52 : decode cX1_endOfWord 52 = .ok (.aload_n 0, 1) := by decide +kernel
theorem dX1_endOfWord_53 : decode cX1_endOfWord 53 = .ok (.iload 5, 2) := by decide +kernel
theorem dX1_endOfWord_55 : decode cX1_endOfWord 55 = .ok (.iaload, 1) := by decide +kernel
theorem dX1_endOfWord_56 : decode cX1_endOfWord 56 = .ok (.invokestatic 69, 3) := by decide +kernel
theorem dX1_endOfWord_59 : decode cX1_endOfWord 59 = .ok (.ifCond .eq 9, 3) := by decide +kernel
theorem dX1_endOfWord_62 : decode cX1_endOfWord 62 = .ok (.iinc 5 1, 3) := by decide +kernel
theorem dX1_endOfWord_65 : decode cX1_endOfWord 65 = .ok (.goto (-38), 3) := by decide +kernel
theorem dX1_endOfWord_68 : decode cX1_endOfWord 68 = .ok (.iload 5, 2) := by decide +kernel
theorem dX1_endOfWord_70 : decode cX1_endOfWord 70 = .ok (.ireturn, 1) := by decide +kernel
theorem dX1_isInWord_0 : decode cX1_isInWord 0 = .ok (.iload_n 0, 1) := by decide +kernel
theorem dX1_isInWord_1 : decode cX1_isInWord 1 = .ok (.invokestatic 75, 3) := by decide +kernel
theorem dX1_isInWord_4 : decode cX1_isInWord 4 = .ok (.ifCond .ne 10, 3) := by decide +kernel
theorem dX1_isInWord_7 : decode cX1_isInWord 7 = .ok (.iload_n 0, 1) := by decide +kernel
theorem dX1_isInWord_8 : decode cX1_isInWord 8 = .ok (.invokestatic 69, 3) := by decide +kernel
theorem dX1_isInWord_11 : decode cX1_isInWord 11 = .ok (.ifCond .eq 7, 3) := by decide +kernel
theorem dX1_isInWord_14 : decode cX1_isInWord 14 = .ok (.iconst 1, 1) := by decide +kernel
theorem dX1_isInWord_15 : decode cX1_isInWord 15 = .ok (.goto 4, 3) := by decide +kernel
theorem dX1_isInWord_18 : decode cX1_isInWord 18 = .ok (.iconst 0, 1) := by decide +kernel
theorem dX1_isInWord_19 : decode cX1_isInWord 19 = .ok (.ireturn, 1) := by decide +kernel
theorem dX1_isLetter_0 : decode cX1_isLetter 0 = .ok (.iload_n 0, 1) := by decide +kernel
theorem dX1_isLetter_1 : decode cX1_isLetter 1 = .ok (.bipush 97, 2) := by decide +kernel
theorem dX1_isLetter_3 : decode cX1_isLetter 3 = .ok (.if_icmp .lt 13, 3) := by decide +kernel
theorem dX1_isLetter_6 : decode cX1_isLetter 6 = .ok (.iload_n 0, 1) := by decide +kernel
theorem dX1_isLetter_7 : decode cX1_isLetter 7 = .ok (.bipush 122, 2) := by decide +kernel
theorem dX1_isLetter_9 : decode cX1_isLetter 9 = .ok (.if_icmp .gt 7, 3) := by decide +kernel
theorem dX1_isLetter_12 : decode cX1_isLetter 12 = .ok (.iconst 1, 1) := by decide +kernel
theorem dX1_isLetter_13 : decode cX1_isLetter 13 = .ok (.goto 4, 3) := by decide +kernel
theorem dX1_isLetter_16 : decode cX1_isLetter 16 = .ok (.iconst 0, 1) := by decide +kernel
theorem dX1_isLetter_17 : decode cX1_isLetter 17 = .ok (.ireturn, 1) := by decide +kernel
theorem dX1_isDigit_0 : decode cX1_isDigit 0 = .ok (.iload_n 0, 1) := by decide +kernel
theorem dX1_isDigit_1 : decode cX1_isDigit 1 = .ok (.bipush 48, 2) := by decide +kernel
theorem dX1_isDigit_3 : decode cX1_isDigit 3 = .ok (.if_icmp .lt 13, 3) := by decide +kernel
theorem dX1_isDigit_6 : decode cX1_isDigit 6 = .ok (.iload_n 0, 1) := by decide +kernel
theorem dX1_isDigit_7 : decode cX1_isDigit 7 = .ok (.bipush 57, 2) := by decide +kernel
theorem dX1_isDigit_9 : decode cX1_isDigit 9 = .ok (.if_icmp .gt 7, 3) := by decide +kernel
theorem dX1_isDigit_12 : decode cX1_isDigit 12 = .ok (.iconst 1, 1) := by decide +kernel
theorem dX1_isDigit_13 : decode cX1_isDigit 13 = .ok (.goto 4, 3) := by decide +kernel
theorem dX1_isDigit_16 : decode cX1_isDigit 16 = .ok (.iconst 0, 1) := by decide +kernel
theorem dX1_isDigit_17 : decode cX1_isDigit 17 = .ok (.ireturn, 1) := by decide +kernel
theorem dX2_init_0 : decode cX2_init 0 = .ok (.aload_n 0, 1) := by decide +kernel
theorem dX2_init_1 : decode cX2_init 1 = .ok (.invokespecial 3, 3) := by decide +kernel
theorem dX2_init_4 : decode cX2_init 4 = .ok (.aload_n 0, 1) := by decide +kernel
theorem dX2_init_5 : decode cX2_init 5 = .ok (.iconst (-1), 1) := by decide +kernel
theorem dX2_init_6 : decode cX2_init 6 = .ok (.putfield 9, 3) := by decide +kernel
theorem dX2_init_9 : decode cX2_init 9 = .ok (.aload_n 0, 1) := by decide +kernel
theorem dX2_init_10 : decode cX2_init 10 = .ok (.iconst 0, 1) := by decide +kernel
theorem dX2_init_11 : decode cX2_init 11 = .ok (.putfield 15, 3) := by decide +kernel
theorem dX2_init_14 : decode cX2_init 14 = .ok (.aload_n 0, 1) := by decide +kernel
theorem dX2_init_15 : decode cX2_init 15 = .ok (.bipush 24, 2) := by decide +kernel
theorem dX2_init_17 : decode cX2_init 17 = .ok (.newarray .int, 2) := by decide +kernel
theorem dX2_init_19 : decode cX2_init 19 = .ok (.putfield 18, 3) := by decide +kernel
theorem dX2_init_22 : decode cX2_init 22 = .ok (.return_, 1) := by decide +kernel
theorem dX2_begin_0 : decode cX2_begin 0 = .ok (.aload_n 0, 1) := by decide +kernel
theorem dX2_begin_1 : decode cX2_begin 1 = .ok (.iload_n 1, 1) := by decide +kernel
theorem dX2_begin_2 : decode cX2_begin 2 = .ok (.putfield 9, 3) := by decide +kernel
theorem dX2_begin_5 : decode cX2_begin 5 = .ok (.aload_n 0, 1) := by decide +kernel
theorem dX2_begin_6 : decode cX2_begin 6 = .ok (.iload_n 2, 1) := by decide +kernel
theorem dX2_begin_7 : decode cX2_begin 7 = .ok (.putfield 15, 3) := by decide +kernel
theorem dX2_begin_10 : decode cX2_begin 10 = .ok (.iconst 0, 1) := by decide +kernel
theorem dX2_begin_11 : decode cX2_begin 11 = .ok (.istore_n 3, 1) := by decide +kernel
theorem dX2_begin_12 : decode cX2_begin 12 = .ok (.iload_n 3, 1) := by decide +kernel
theorem dX2_begin_13 : decode cX2_begin 13 = .ok (.bipush 24, 2) := by decide +kernel
theorem dX2_begin_15 : decode cX2_begin 15 = .ok (.if_icmp .ge 16, 3) := by decide +kernel
theorem dX2_begin_18 : decode cX2_begin 18 = .ok (.aload_n 0, 1) := by decide +kernel
theorem dX2_begin_19 : decode cX2_begin 19 = .ok (.getfield 18, 3) := by decide +kernel
theorem dX2_begin_22 : decode cX2_begin 22 = .ok (.iload_n 3, 1) := by decide +kernel
theorem dX2_begin_23 : decode cX2_begin 23 = .ok (.iconst 0, 1) := by decide +kernel
theorem dX2_begin_24 : decode cX2_begin 24 = .ok (.iastore, 1) := by decide +kernel
theorem dX2_begin_25 : decode cX2_begin 25 = .ok (.iinc 3 1, 3) := by decide +kernel
theorem dX2_begin_28 : decode cX2_begin 28 = .ok (.goto (-16), 3) := by decide +kernel
theorem dX2_begin_31 : decode cX2_begin 31 = .ok (.return_, 1) := by decide +kernel
theorem dX2_become_0 : decode cX2_become 0 = .ok (.aload_n 0, 1) := by decide +kernel
theorem dX2_become_1 : decode cX2_become 1 = .ok (.aload_n 1, 1) := by decide +kernel
theorem dX2_become_2 : decode cX2_become 2 = .ok (.getfield 9, 3) := by decide +kernel
theorem dX2_become_5 : decode cX2_become 5 = .ok (.putfield 9, 3) := by decide +kernel
theorem dX2_become_8 : decode cX2_become 8 = .ok (.aload_n 0, 1) := by decide +kernel
theorem dX2_become_9 : decode cX2_become 9 = .ok (.aload_n 1, 1) := by decide +kernel
theorem dX2_become_10 : decode cX2_become 10 = .ok (.getfield 15, 3) := by decide +kernel
theorem dX2_become_13 : decode cX2_become 13 = .ok (.putfield 15, 3) := by decide +kernel
theorem dX2_become_16 : decode cX2_become 16 = .ok (.aload_n 1, 1) := by decide +kernel
theorem dX2_become_17 : decode cX2_become 17 = .ok (.getfield 18, 3) := by decide +kernel
theorem dX2_become_20 : decode cX2_become 20 = .ok (.iconst 0, 1) := by decide +kernel
theorem dX2_become_21 : decode cX2_become 21 = .ok (.aload_n 0, 1) := by decide +kernel
theorem dX2_become_22 : decode cX2_become 22 = .ok (.getfield 18, 3) := by decide +kernel
theorem dX2_become_25 : decode cX2_become 25 = .ok (.iconst 0, 1) := by decide +kernel
theorem dX2_become_26 : decode cX2_become 26 = .ok (.bipush 24, 2) := by decide +kernel
theorem dX2_become_28 : decode cX2_become 28 = .ok (.invokestatic 22, 3) := by decide +kernel
theorem dX2_become_31 : decode cX2_become 31 = .ok (.return_, 1) := by decide +kernel
theorem dX2_hasPlace_0 : decode cX2_hasPlace 0 = .ok (.iload_n 1, 1) := by decide +kernel
theorem dX2_hasPlace_1 : decode cX2_hasPlace 1 = .ok (.ifCond .lt 21, 3) := by decide +kernel
theorem dX2_hasPlace_4 : decode cX2_hasPlace 4 = .ok (.iload_n 1, 1) := by decide +kernel
theorem dX2_hasPlace_5 : decode cX2_hasPlace 5 = .ok (.aload_n 0, 1) := by decide +kernel
theorem dX2_hasPlace_6 : decode cX2_hasPlace 6 = .ok (.getfield 15, 3) := by decide +kernel
theorem dX2_hasPlace_9 : decode cX2_hasPlace 9 = .ok (.if_icmp .ge 13, 3) := by decide +kernel
theorem dX2_hasPlace_12 : decode cX2_hasPlace 12 = .ok (.iload_n 1, 1) := by decide +kernel
theorem dX2_hasPlace_13 : decode cX2_hasPlace 13 = .ok (.bipush 24, 2) := by decide +kernel
theorem dX2_hasPlace_15 : decode cX2_hasPlace 15 = .ok (.if_icmp .ge 7, 3) := by decide +kernel
theorem dX2_hasPlace_18 : decode cX2_hasPlace 18 = .ok (.iconst 1, 1) := by decide +kernel
theorem dX2_hasPlace_19 : decode cX2_hasPlace 19 = .ok (.goto 4, 3) := by decide +kernel
theorem dX2_hasPlace_22 : decode cX2_hasPlace 22 = .ok (.iconst 0, 1) := by decide +kernel
theorem dX2_hasPlace_23 : decode cX2_hasPlace 23 = .ok (.ireturn, 1) := by decide +kernel
theorem dX2_hasStretch_0 : decode cX2_hasStretch 0 = .ok (.iload_n 1, 1) := by decide +kernel
theorem dX2_hasStretch_1 : decode cX2_hasStretch 1 = .ok (.ifCond .lt 29, 3) := by decide +kernel
theorem dX2_hasStretch_4 : decode cX2_hasStretch 4 = .ok (.iload_n 2, 1) := by decide +kernel
theorem dX2_hasStretch_5 : decode cX2_hasStretch 5 = .ok (.ifCond .lt 25, 3) := by decide +kernel
theorem dX2_hasStretch_8 : decode cX2_hasStretch 8 = .ok (.iload_n 1, 1) := by decide +kernel
theorem dX2_hasStretch_9 : decode cX2_hasStretch 9 = .ok (.aload_n 0, 1) := by decide +kernel
theorem dX2_hasStretch_10 : decode cX2_hasStretch 10 = .ok (.getfield 15, 3) := by decide +kernel
theorem dX2_hasStretch_13 : decode cX2_hasStretch 13 = .ok (.if_icmp .gt 17, 3) := by decide +kernel
theorem dX2_hasStretch_16 : decode cX2_hasStretch 16 = .ok (.iload_n 2, 1) := by decide +kernel
theorem dX2_hasStretch_17 : decode cX2_hasStretch 17 = .ok (.aload_n 0, 1) := by decide +kernel
theorem dX2_hasStretch_18 : decode cX2_hasStretch 18 = .ok (.getfield 15, 3) := by decide +kernel
theorem dX2_hasStretch_21 : decode cX2_hasStretch 21 = .ok (.iload_n 1, 1) := by decide +kernel
theorem dX2_hasStretch_22 : decode cX2_hasStretch 22 = .ok (.isub, 1) := by decide +kernel
theorem dX2_hasStretch_23 : decode cX2_hasStretch 23 = .ok (.if_icmp .gt 7, 3) := by decide +kernel
theorem dX2_hasStretch_26 : decode cX2_hasStretch 26 = .ok (.iconst 1, 1) := by decide +kernel
theorem dX2_hasStretch_27 : decode cX2_hasStretch 27 = .ok (.goto 4, 3) := by decide +kernel
theorem dX2_hasStretch_30 : decode cX2_hasStretch 30 = .ok (.iconst 0, 1) := by decide +kernel
theorem dX2_hasStretch_31 : decode cX2_hasStretch 31 = .ok (.ireturn, 1) := by decide +kernel
theorem dX2_isNumber_0 : decode cX2_isNumber 0 = .ok (.aload_n 0, 1) := by decide +kernel
theorem dX2_isNumber_1 : decode cX2_isNumber 1 = .ok (.iload_n 1, 1) := by decide +kernel
theorem dX2_isNumber_2 : decode cX2_isNumber 2 = .ok (.invokevirtual 28, 3) := by decide +kernel
theorem dX2_isNumber_5 : decode cX2_isNumber 5 = .ok (.ifCond .eq 18, 3) := by decide +kernel
theorem dX2_isNumber_8 : decode cX2_isNumber 8 = .ok (.aload_n 0, 1) := by decide +kernel
theorem dX2_isNumber_9 : decode cX2_isNumber 9 = .ok (.getfield 18, 3) := by decide +kernel
theorem dX2_isNumber_12 : decode cX2_isNumber 12 = .ok (.iload_n 1, 1) := by decide +kernel
theorem dX2_isNumber_13 : decode cX2_isNumber 13 = .ok (.iaload, 1) := by decide +kernel
theorem dX2_isNumber_14 : decode cX2_isNumber 14 = .ok (.ldc 32, 2) := by decide +kernel
theorem dX2_isNumber_16 : decode cX2_isNumber 16 = .ok (.if_icmp .eq 7, 3) := by decide +kernel
theorem dX2_isNumber_19 : decode cX2_isNumber 19 = .ok (.iconst 1, 1) := by decide +kernel
theorem dX2_isNumber_20 : decode cX2_isNumber 20 = .ok (.goto 4, 3) := by decide +kernel
theorem dX2_isNumber_23 : decode cX2_isNumber 23 = .ok (.iconst 0, 1) := by decide +kernel
theorem dX2_isNumber_24 : decode cX2_isNumber 24 = .ok (.ireturn, 1) := by decide +kernel
theorem dX2_differences_0 : decode cX2_differences 0 = .ok (.iconst 0, 1) := by decide +kernel
theorem dX2_differences_1 : decode cX2_differences 1 = .ok (.istore_n 2, 1) := by decide +kernel
theorem dX2_differences_2 : decode cX2_differences 2 = .ok (.iconst 0, 1) := by decide +kernel
theorem dX2_differences_3 : decode cX2_differences 3 = .ok (.istore_n 3, 1) := by decide +kernel
theorem dX2_differences_4 : decode cX2_differences 4 = .ok (.iload_n 3, 1) := by decide +kernel
theorem dX2_differences_5 : decode cX2_differences 5 = .ok (.bipush 24, 2) := by decide +kernel
theorem dX2_differences_7 : decode cX2_differences 7 = .ok (.if_icmp .ge 36, 3) := by decide +kernel
theorem dX2_differences_10 : decode cX2_differences 10 = .ok (.aload_n 0, 1) := by decide +kernel
theorem dX2_differences_11 : decode cX2_differences 11 = .ok (.iload_n 3, 1) := by decide +kernel
theorem dX2_differences_12 : decode cX2_differences 12 = .ok (.invokevirtual 33, 3) := by decide +kernel
theorem dX2_differences_15 : decode cX2_differences 15 = .ok (.ifCond .eq 22, 3) := by decide +kernel
theorem dX2_differences_18 : decode cX2_differences 18 = .ok (.iload_n 2, 1) := by decide +kernel
theorem dX2_differences_19 : decode cX2_differences 19 = .ok (.aload_n 0, 1) := by decide +kernel
theorem dX2_differences_20 : decode cX2_differences 20 = .ok (.getfield 18, 3) := by decide +kernel
theorem dX2_differences_23 : decode cX2_differences 23 = .ok (.iload_n 3, 1) := by decide +kernel
theorem dX2_differences_24 : decode cX2_differences 24 = .ok (.iaload, 1) := by decide +kernel
theorem dX2_differences_25 : decode cX2_differences 25 = .ok (.aload_n 1, 1) := by decide +kernel
theorem dX2_differences_26 : decode cX2_differences 26 = .ok (.getfield 36, 3) := by decide +kernel
theorem dX2_differences_29 : decode cX2_differences 29 = .ok (.iload_n 3, 1) := by decide +kernel
theorem dX2_differences_30 : decode cX2_differences 30 = .ok (.iaload, 1) := by decide +kernel
theorem dX2_differences_31 : decode cX2_differences 31 = .ok (.isub, 1) := by decide +kernel
theorem dX2_differences_32 : decode cX2_differences 32 = .ok (.invokestatic 41, 3) := by decide +kernel
theorem dX2_differences_35 : decode cX2_differences 35 = .ok (.iadd, 1) := by decide +kernel
theorem dX2_differences_36 : decode cX2_differences 36 = .ok (.istore_n 2, 1) := by decide +kernel
theorem dX2_differences_37 : decode cX2_differences 37 = .ok (.iinc 3 1, 3) := by decide +kernel
theorem dX2_differences_40 : decode cX2_differences 40 = .ok (.goto (-36), 3) := by decide +kernel
theorem dX2_differences_43 : decode cX2_differences 43 = .ok (.iload_n 2, 1) := by decide +kernel
theorem dX2_differences_44 : decode cX2_differences 44 = .ok (.ireturn, 1) := by decide +kernel
theorem dX3_init_0 : decode cX3_init 0 = .ok (.aload_n 0, 1) := by decide +kernel
theorem dX3_init_1 : decode cX3_init 1 = .ok (.invokespecial 3, 3) := by decide +kernel
theorem dX3_init_4 : decode cX3_init 4 = .ok (.aload_n 0, 1) := by decide +kernel
theorem dX3_init_5 : decode cX3_init 5 = .ok (.iconst 0, 1) := by decide +kernel
theorem dX3_init_6 : decode cX3_init 6 = .ok (.putfield 9, 3) := by decide +kernel
theorem dX3_init_9 : decode cX3_init 9 = .ok (.aload_n 0, 1) := by decide +kernel
theorem dX3_init_10 : decode cX3_init 10 = .ok (.new 15, 3) := by decide +kernel
theorem dX3_init_13 : decode cX3_init 13 = .ok (.dup, 1) := by decide +kernel
theorem dX3_init_14 : decode cX3_init 14 = .ok (.invokespecial 17, 3) := by decide +kernel
theorem dX3_init_17 : decode cX3_init 17 = .ok (.putfield 18, 3) := by decide +kernel
theorem dX3_init_20 : decode cX3_init 20 = .ok (.aload_n 0, 1) := by decide +kernel
theorem dX3_init_21 : decode cX3_init 21 = .ok (.new 22, 3) := by decide +kernel
theorem dX3_init_24 : decode cX3_init 24 = .ok (.dup, 1) := by decide +kernel
theorem dX3_init_25 : decode cX3_init 25 = .ok (.invokespecial 24, 3) := by decide +kernel
theorem dX3_init_28 : decode cX3_init 28 = .ok (.putfield 25, 3) := by decide +kernel
theorem dX3_init_31 : decode cX3_init 31 = .ok (.aload_n 0, 1) := by decide +kernel
theorem dX3_init_32 : decode cX3_init 32 = .ok (.iconst 0, 1) := by decide +kernel
theorem dX3_init_33 : decode cX3_init 33 = .ok (.putfield 29, 3) := by decide +kernel
theorem dX3_init_36 : decode cX3_init 36 = .ok (.return_, 1) := by decide +kernel
theorem dX4_init_0 : decode cX4_init 0 = .ok (.aload_n 0, 1) := by decide +kernel
theorem dX4_init_1 : decode cX4_init 1 = .ok (.invokespecial 3, 3) := by decide +kernel
theorem dX4_init_4 : decode cX4_init 4 = .ok (.aload_n 0, 1) := by decide +kernel
theorem dX4_init_5 : decode cX4_init 5 = .ok (.iconst 0, 1) := by decide +kernel
theorem dX4_init_6 : decode cX4_init 6 = .ok (.putfield 9, 3) := by decide +kernel
theorem dX4_init_9 : decode cX4_init 9 = .ok (.aload_n 0, 1) := by decide +kernel
theorem dX4_init_10 : decode cX4_init 10 = .ok (.iconst 0, 1) := by decide +kernel
theorem dX4_init_11 : decode cX4_init 11 = .ok (.putfield 15, 3) := by decide +kernel
theorem dX4_init_14 : decode cX4_init 14 = .ok (.aload_n 0, 1) := by decide +kernel
theorem dX4_init_15 : decode cX4_init 15 = .ok (.iconst 0, 1) := by decide +kernel
theorem dX4_init_16 : decode cX4_init 16 = .ok (.putfield 18, 3) := by decide +kernel
theorem dX4_init_19 : decode cX4_init 19 = .ok (.aload_n 0, 1) := by decide +kernel
theorem dX4_init_20 : decode cX4_init 20 = .ok (.bipush 96, 2) := by decide +kernel
theorem dX4_init_22 : decode cX4_init 22 = .ok (.newarray .int, 2) := by decide +kernel
theorem dX4_init_24 : decode cX4_init 24 = .ok (.putfield 21, 3) := by decide +kernel
theorem dX4_init_27 : decode cX4_init 27 = .ok (.return_, 1) := by decide +kernel
theorem dX4_take_0 : decode cX4_take 0 = .ok (.aload_n 0, 1) := by decide +kernel
theorem dX4_take_1 : decode cX4_take 1 = .ok (.aload_n 1, 1) := by decide +kernel
theorem dX4_take_2 : decode cX4_take 2 = .ok (.getfield 25, 3) := by decide +kernel
theorem dX4_take_5 : decode cX4_take 5 = .ok (.putfield 9, 3) := by decide +kernel
theorem dX4_take_8 : decode cX4_take 8 = .ok (.aload_n 0, 1) := by decide +kernel
theorem dX4_take_9 : decode cX4_take 9 = .ok (.aload_n 1, 1) := by decide +kernel
theorem dX4_take_10 : decode cX4_take 10 = .ok (.getfield 28, 3) := by decide +kernel
theorem dX4_take_13 : decode cX4_take 13 = .ok (.putfield 15, 3) := by decide +kernel
theorem dX4_take_16 : decode cX4_take 16 = .ok (.aload_n 0, 1) := by decide +kernel
theorem dX4_take_17 : decode cX4_take 17 = .ok (.aload_n 1, 1) := by decide +kernel
theorem dX4_take_18 : decode cX4_take 18 = .ok (.getfield 29, 3) := by decide +kernel
theorem dX4_take_21 : decode cX4_take 21 = .ok (.putfield 18, 3) := by decide +kernel
theorem dX4_take_24 : decode cX4_take 24 = .ok (.aload_n 1, 1) := by decide +kernel
theorem dX4_take_25 : decode cX4_take 25 = .ok (.getfield 30, 3) := by decide +kernel
theorem dX4_take_28 : decode cX4_take 28 = .ok (.iconst 0, 1) := by decide +kernel
theorem dX4_take_29 : decode cX4_take 29 = .ok (.aload_n 0, 1) := by decide +kernel
theorem dX4_take_30 : decode cX4_take 30 = .ok (.getfield 21, 3) := by decide +kernel
theorem dX4_take_33 : decode cX4_take 33 = .ok (.iconst 0, 1) := by decide +kernel
theorem dX4_take_34 : decode cX4_take 34 = .ok (.bipush 96, 2) := by decide +kernel
theorem dX4_take_36 : decode cX4_take 36 = .ok (.invokestatic 31, 3) := by decide +kernel
theorem dX4_take_39 : decode cX4_take 39 = .ok (.return_, 1) := by decide +kernel
theorem dX4_value_0 : decode cX4_value 0 = .ok (.iconst 0, 1) := by decide +kernel
theorem dX4_value_1 : decode cX4_value 1 = .ok (.istore 5, 2) := by decide +kernel
theorem dX4_value_3 : decode cX4_value 3 = .ok (.iconst 0, 1) := by decide +kernel
theorem dX4_value_4 : decode cX4_value 4 = .ok (.istore 6, 2) := by decide +kernel
theorem dX4_value_6 : decode cX4_value 6 = .ok (.iload 6, 2) := by decide +kernel
theorem dX4_value_8 : decode cX4_value 8 = .ok (.aload_n 0, 1) := by decide +kernel
theorem dX4_value_9 : decode cX4_value 9 = .ok (.getfield 18, 3) := by decide +kernel
theorem dX4_value_12 : decode cX4_value 12 = .ok (.if_icmp .ge 131, 3) := by decide +kernel
theorem dX4_value_15 : decode cX4_value 15 = .ok (.iload 6, 2) := by decide +kernel
theorem dX4_value_17 : decode cX4_value 17 = .ok (.bipush 96, 2) := by decide +kernel
theorem dX4_value_19 : decode cX4_value 19 = .ok (.if_icmp .ge 124, 3) := by decide +kernel
theorem dX4_value_22 : decode cX4_value 22 = .ok (.aload_n 0, 1) := by decide +kernel
theorem dX4_value_23 : decode cX4_value 23 = .ok (.getfield 21, 3) := by decide +kernel
theorem dX4_value_26 : decode cX4_value 26 = .ok (.iload 6, 2) := by decide +kernel
theorem dX4_value_28 : decode cX4_value 28 = .ok (.iaload, 1) := by decide +kernel
theorem dX4_value_29 : decode cX4_value 29 = .ok (.istore 7, 2) := by decide +kernel
theorem dX4_value_31 : decode cX4_value 31 = .ok (.iload 7, 2) := by decide +kernel
theorem dX4_value_33 : decode cX4_value 33 = .ok (.bipush (-3), 2) := by decide +kernel
theorem dX4_value_35 : decode cX4_value 35 = .ok (.if_icmp .lt 31, 3) := by decide +kernel
theorem dX4_value_38 : decode cX4_value 38 = .ok (.iload 5, 2) := by decide +kernel
theorem dX4_value_40 : decode cX4_value 40 = .ok (.aload_n 1, 1) := by decide +kernel
theorem dX4_value_41 : decode cX4_value 41 = .ok (.arraylength, 1) := by decide +kernel
theorem dX4_value_42 : decode cX4_value 42 = .ok (.if_icmp .lt 5, 3) := by decide +kernel
theorem dX4_value_45 : decode cX4_value 45 = .ok (.iconst 0, 1) := by decide +kernel
theorem dX4_value_46 : decode cX4_value 46 = .ok (.ireturn, 1) := by decide +kernel
theorem dX4_value_47 : decode cX4_value 47 = .ok (.aload_n 1, 1) := by decide +kernel
theorem dX4_value_48 : decode cX4_value 48 = .ok (.iload 5, 2) := by decide +kernel
theorem dX4_value_50 : decode cX4_value 50 = .ok (.iload 7, 2) := by decide +kernel
theorem dX4_value_52 : decode cX4_value 52 = .ok (.iload_n 2, 1) := by decide +kernel
theorem dX4_value_53 : decode cX4_value 53 = .ok (.iload_n 3, 1) := by decide +kernel
theorem dX4_value_54 : decode cX4_value 54 = .ok (.iload 4, 2) := by decide +kernel
theorem dX4_value_56 : decode cX4_value 56 = .ok (.invokestatic 37, 3) := by decide +kernel
theorem dX4_value_59 : decode cX4_value 59 = .ok (.iastore, 1) := by decide +kernel
theorem dX4_value_60 : decode cX4_value 60 = .ok (.iinc 5 1, 3) := by decide +kernel
theorem dX4_value_63 : decode cX4_value 63 = .ok (.goto 74, 3) := by decide +kernel
theorem dX4_value_66 : decode cX4_value 66 = .ok (.iload 7, 2) := by decide +kernel
theorem dX4_value_68 : decode cX4_value 68 = .ok (.bipush (-33), 2) := by decide +kernel
theorem dX4_value_70 : decode cX4_value 70 = .ok (.if_icmp .ne 34, 3) := by decide +kernel
theorem dX4_value_73 : decode cX4_value 73 = .ok (.iload 5, 2) := by decide +kernel
theorem dX4_value_75 : decode cX4_value 75 = .ok (.iconst 1, 1) := by decide +kernel
theorem dX4_value_76 : decode cX4_value 76 = .ok (.if_icmp .ge 5, 3) := by decide +kernel
theorem dX4_value_79 : decode cX4_value 79 = .ok (.iconst 0, 1) := by decide +kernel
theorem dX4_value_80 : decode cX4_value 80 = .ok (.ireturn, 1) := by decide +kernel
theorem dX4_value_81 : decode cX4_value 81 = .ok (.aload_n 1, 1) := by decide +kernel
theorem dX4_value_82 : decode cX4_value 82 = .ok (.iload 5, 2) := by decide +kernel
theorem dX4_value_84 : decode cX4_value 84 = .ok (.iconst 1, 1) := by decide +kernel
theorem dX4_value_85 : decode cX4_value 85 = .ok (.isub, 1) := by decide +kernel
theorem dX4_value_86 : decode cX4_value 86 = .ok (.aload_n 1, 1) := by decide +kernel
theorem dX4_value_87 : decode cX4_value 87 = .ok (.iload 5, 2) := by decide +kernel
theorem dX4_value_89 : decode cX4_value 89 = .ok (.iconst 1, 1) := by decide +kernel
theorem dX4_value_90 : decode cX4_value 90 = .ok (.isub, 1) := by decide +kernel
theorem dX4_value_91 : decode cX4_value 91 = .ok (.iaload, 1) := by decide +kernel
theorem dX4_value_92 : decode cX4_value 92 = .ok (.ifCond .ne 7, 3) := by decide +kernel
theorem dX4_value_95 : decode cX4_value 95 = .ok (.iconst 1, 1) := by decide +kernel
theorem dX4_value_96 : decode cX4_value 96 = .ok (.goto 4, 3) := by decide +kernel
theorem dX4_value_99 : decode cX4_value 99 = .ok (.iconst 0, 1) := by decide +kernel
theorem dX4_value_100 : decode cX4_value 100 = .ok (.iastore, 1) := by decide +kernel
theorem dX4_value_101 : decode cX4_value 101 = .ok (.goto 36, 3) := by decide +kernel
theorem dX4_value_104 : decode cX4_value 104 = .ok (.iload 5, 2) := by decide +kernel
theorem dX4_value_106 : decode cX4_value 106 = .ok (.iconst 2, 1) := by decide +kernel
theorem dX4_value_107 : decode cX4_value 107 = .ok (.if_icmp .ge 5, 3) := by decide +kernel
theorem dX4_value_110 : decode cX4_value 110 = .ok (.iconst 0, 1) := by decide +kernel
theorem dX4_value_111 : decode cX4_value 111 = .ok (.ireturn, 1) := by decide +kernel
theorem dX4_value_112 : decode cX4_value 112 = .ok (.iinc 5 (-1), 3) := by decide +kernel
theorem dX4_value_115 : decode cX4_value 115 = .ok (.aload_n 1, 1) := by decide +kernel
theorem dX4_value_116 : decode cX4_value 116 = .ok (.iload 5, 2) := by decide +kernel
theorem dX4_value_118 : decode cX4_value 118 = .ok (.iconst 1, 1) := by decide +kernel
theorem dX4_value_119 : decode cX4_value 119 = .ok (.isub, 1) := by decide +kernel
theorem dX4_value_120 : decode cX4_value 120 = .ok (.iload 7, 2) := by decide +kernel
theorem dX4_value_122 : decode cX4_value 122 = .ok (.ineg, 1) := by decide +kernel
theorem dX4_value_123 : decode cX4_value 123 = .ok (.aload_n 1, 1) := by decide +kernel
theorem dX4_value_124 : decode cX4_value 124 = .ok (.iload 5, 2) := by decide +kernel
theorem dX4_value_126 : decode cX4_value 126 = .ok (.iconst 1, 1) := by decide +kernel
theorem dX4_value_127 : decode cX4_value 127 = .ok (.isub, 1) := by decide +kernel
theorem dX4_value_128 : decode cX4_value 128 = .ok (.iaload, 1) := by decide +kernel
theorem dX4_value_129 : decode cX4_value 129 = .ok (.aload_n 1, 1) := by decide +kernel
theorem dX4_value_130 : decode cX4_value 130 = .ok (.iload 5, 2) := by decide +kernel
theorem dX4_value_132 : decode cX4_value 132 = .ok (.iaload, 1) := by decide +kernel
theorem dX4_value_133 : decode cX4_value 133 = .ok (.invokestatic 41, 3) := by decide +kernel
theorem dX4_value_136 : decode cX4_value 136 = .ok (.iastore, 1) := by decide +kernel
theorem dX4_value_137 : decode cX4_value 137 = .ok (.iinc 6 1, 3) := by decide +kernel
theorem dX4_value_140 : decode cX4_value 140 = .ok (.goto (-134), 3) := by decide +kernel
theorem dX4_value_143 : decode cX4_value 143 = .ok (.iload 5, 2) := by decide +kernel
theorem dX4_value_145 : decode cX4_value 145 = .ok (.iconst 1, 1) := by decide +kernel
theorem dX4_value_146 : decode cX4_value 146 = .ok (.if_icmp .ne 9, 3) := by decide +kernel
theorem dX4_value_149 : decode cX4_value 149 = .ok (.aload_n 1, 1) := by decide +kernel
theorem dX4_value_150 : decode cX4_value 150 = .ok (.iconst 0, 1) := by decide +kernel
theorem dX4_value_151 : decode cX4_value 151 = .ok (.iaload, 1) := by decide +kernel
theorem dX4_value_152 : decode cX4_value 152 = .ok (.goto 4, 3) := by decide +kernel
theorem dX4_value_155 : decode cX4_value 155 = .ok (.iconst 0, 1) := by decide +kernel
theorem dX4_value_156 : decode cX4_value 156 = .ok (.ireturn, 1) := by decide +kernel
theorem dX4_leaf_0 : decode cX4_leaf 0 = .ok (.iload_n 0, 1) := by decide +kernel
theorem dX4_leaf_1 : decode cX4_leaf 1 = .ok (.tableswitch 33 (-3) (-1) #[31, 29, 27], 27) := by decide +kernel
theorem dX4_leaf_28 : decode cX4_leaf 28 = .ok (.iload_n 1, 1) := by decide +kernel
theorem dX4_leaf_29 : decode cX4_leaf 29 = .ok (.ireturn, 1) := by decide +kernel
theorem dX4_leaf_30 : decode cX4_leaf 30 = .ok (.iload_n 2, 1) := by decide +kernel
theorem dX4_leaf_31 : decode cX4_leaf 31 = .ok (.ireturn, 1) := by decide +kernel
theorem dX4_leaf_32 : decode cX4_leaf 32 = .ok (.iload_n 3, 1) := by decide +kernel
theorem dX4_leaf_33 : decode cX4_leaf 33 = .ok (.ireturn, 1) := by decide +kernel
theorem dX4_leaf_34 : decode cX4_leaf 34 = .ok (.iload_n 0, 1) := by decide +kernel
theorem dX4_leaf_35 : decode cX4_leaf 35 = .ok (.ireturn, 1) := by decide +kernel
theorem dX4_joined_0 : decode cX4_joined 0 = .ok (.iload_n 0, 1) := by decide +kernel
theorem dX4_joined_1 : decode cX4_joined 1 = .ok (.lookupswitch 168 #[(38, 97), (42, 152), (43, 144), (45, 148), (47, 156), (60, 111), (61, 122), (62, 133), (124, 83)], 83) := by decide +kernel
theorem dX4_joined_84 : decode cX4_joined 84 = .ok (.iload_n 1, 1) := by decide +kernel
theorem dX4_joined_85 : decode cX4_joined 85 = .ok (.ifCond .ne 7, 3) := by decide +kernel
theorem dX4_joined_88 : decode cX4_joined 88 = .ok (.iload_n 2, 1) := by decide +kernel
theorem dX4_joined_89 : decode cX4_joined 89 = .ok (.ifCond .eq 7, 3) := by decide +kernel
theorem dX4_joined_92 : decode cX4_joined 92 = .ok (.iconst 1, 1) := by decide +kernel
theorem dX4_joined_93 : decode cX4_joined 93 = .ok (.goto 4, 3) := by decide +kernel
theorem dX4_joined_96 : decode cX4_joined 96 = .ok (.iconst 0, 1) := by decide +kernel
theorem dX4_joined_97 : decode cX4_joined 97 = .ok (.ireturn, 1) := by decide +kernel
theorem dX4_joined_98 : decode cX4_joined 98 = .ok (.iload_n 1, 1) := by decide +kernel
theorem dX4_joined_99 : decode cX4_joined 99 = .ok (.ifCond .eq 11, 3) := by decide +kernel
theorem dX4_joined_102 : decode cX4_joined 102 = .ok (.iload_n 2, 1) := by decide +kernel
theorem dX4_joined_103 : decode cX4_joined 103 = .ok (.ifCond .eq 7, 3) := by decide +kernel
theorem dX4_joined_106 : decode cX4_joined 106 = .ok (.iconst 1, 1) := by decide +kernel
theorem dX4_joined_107 : decode cX4_joined 107 = .ok (.goto 4, 3) := by decide +kernel
theorem dX4_joined_110 : decode cX4_joined 110 = .ok (.iconst 0, 1) := by decide +kernel
theorem dX4_joined_111 : decode cX4_joined 111 = .ok (.ireturn, 1) := by decide +kernel
theorem dX4_joined_112 : decode cX4_joined 112 = .ok (.iload_n 1, 1) := by decide +kernel
theorem dX4_joined_113 : decode cX4_joined 113 = .ok (.iload_n 2, 1) := by decide +kernel
theorem dX4_joined_114 : decode cX4_joined 114 = .ok (.if_icmp .ge 7, 3) := by decide +kernel
theorem dX4_joined_117 : decode cX4_joined 117 = .ok (.iconst 1, 1) := by decide +kernel
theorem dX4_joined_118 : decode cX4_joined 118 = .ok (.goto 4, 3) := by decide +kernel
theorem dX4_joined_121 : decode cX4_joined 121 = .ok (.iconst 0, 1) := by decide +kernel
theorem dX4_joined_122 : decode cX4_joined 122 = .ok (.ireturn, 1) := by decide +kernel
theorem dX4_joined_123 : decode cX4_joined 123 = .ok (.iload_n 1, 1) := by decide +kernel
theorem dX4_joined_124 : decode cX4_joined 124 = .ok (.iload_n 2, 1) := by decide +kernel
theorem dX4_joined_125 : decode cX4_joined 125 = .ok (.if_icmp .ne 7, 3) := by decide +kernel
theorem dX4_joined_128 : decode cX4_joined 128 = .ok (.iconst 1, 1) := by decide +kernel
theorem dX4_joined_129 : decode cX4_joined 129 = .ok (.goto 4, 3) := by decide +kernel
theorem dX4_joined_132 : decode cX4_joined 132 = .ok (.iconst 0, 1) := by decide +kernel
theorem dX4_joined_133 : decode cX4_joined 133 = .ok (.ireturn, 1) := by decide +kernel
theorem dX4_joined_134 : decode cX4_joined 134 = .ok (.iload_n 1, 1) := by decide +kernel
theorem dX4_joined_135 : decode cX4_joined 135 = .ok (.iload_n 2, 1) := by decide +kernel
theorem dX4_joined_136 : decode cX4_joined 136 = .ok (.if_icmp .le 7, 3) := by decide +kernel
theorem dX4_joined_139 : decode cX4_joined 139 = .ok (.iconst 1, 1) := by decide +kernel
theorem dX4_joined_140 : decode cX4_joined 140 = .ok (.goto 4, 3) := by decide +kernel
theorem dX4_joined_143 : decode cX4_joined 143 = .ok (.iconst 0, 1) := by decide +kernel
theorem dX4_joined_144 : decode cX4_joined 144 = .ok (.ireturn, 1) := by decide +kernel
theorem dX4_joined_145 : decode cX4_joined 145 = .ok (.iload_n 1, 1) := by decide +kernel
theorem dX4_joined_146 : decode cX4_joined 146 = .ok (.iload_n 2, 1) := by decide +kernel
theorem dX4_joined_147 : decode cX4_joined 147 = .ok (.iadd, 1) := by decide +kernel
theorem dX4_joined_148 : decode cX4_joined 148 = .ok (.ireturn, 1) := by decide +kernel
theorem dX4_joined_149 : decode cX4_joined 149 = .ok (.iload_n 1, 1) := by decide +kernel
theorem dX4_joined_150 : decode cX4_joined 150 = .ok (.iload_n 2, 1) := by decide +kernel
theorem dX4_joined_151 : decode cX4_joined 151 = .ok (.isub, 1) := by decide +kernel
theorem dX4_joined_152 : decode cX4_joined 152 = .ok (.ireturn, 1) := by decide +kernel
theorem dX4_joined_153 : decode cX4_joined 153 = .ok (.iload_n 1, 1) := by decide +kernel
theorem dX4_joined_154 : decode cX4_joined 154 = .ok (.iload_n 2, 1) := by decide +kernel
theorem dX4_joined_155 : decode cX4_joined 155 = .ok (.imul, 1) := by decide +kernel
theorem dX4_joined_156 : decode cX4_joined 156 = .ok (.ireturn, 1) := by decide +kernel
theorem dX4_joined_157 : decode cX4_joined 157 = .ok (.iload_n 2, 1) := by decide +kernel
theorem dX4_joined_158 : decode cX4_joined 158 = .ok (.ifCond .ne 7, 3) := by decide +kernel
theorem dX4_joined_161 : decode cX4_joined 161 = .ok (.iconst 0, 1) := by decide +kernel
theorem dX4_joined_162 : decode cX4_joined 162 = .ok (.goto 6, 3) := by decide +kernel
theorem dX4_joined_165 : decode cX4_joined 165 = .ok (.iload_n 1, 1) := by decide +kernel
theorem dX4_joined_166 : decode cX4_joined 166 = .ok (.iload_n 2, 1) := by decide +kernel
theorem dX4_joined_167 : decode cX4_joined 167 = .ok (.idiv, 1) := by decide +kernel
theorem dX4_joined_168 : decode cX4_joined 168 = .ok (.ireturn, 1) := by decide +kernel
theorem dX4_joined_169 : decode cX4_joined 169 = .ok (.iconst 0, 1) := by decide +kernel
theorem dX4_joined_170 : decode cX4_joined 170 = .ok (.ireturn, 1) := by decide +kernel
theorem dX5_init_0 : decode cX5_init 0 = .ok (.aload_n 0, 1) := by decide +kernel
theorem dX5_init_1 : decode cX5_init 1 = .ok (.invokespecial 3, 3) := by decide +kernel
theorem dX5_init_4 : decode cX5_init 4 = .ok (.aload_n 0, 1) := by decide +kernel
theorem dX5_init_5 : decode cX5_init 5 = .ok (.iconst 0, 1) := by decide +kernel
theorem dX5_init_6 : decode cX5_init 6 = .ok (.putfield 9, 3) := by decide +kernel
theorem dX5_init_9 : decode cX5_init 9 = .ok (.aload_n 0, 1) := by decide +kernel
theorem dX5_init_10 : decode cX5_init 10 = .ok (.iconst 4, 1) := by decide +kernel
theorem dX5_init_11 : decode cX5_init 11 = .ok (.newarray .int, 2) := by decide +kernel
theorem dX5_init_13 : decode cX5_init 13 = .ok (.dup, 1) := by decide +kernel
theorem dX5_init_14 : decode cX5_init 14 = .ok (.iconst 0, 1) := by decide +kernel
theorem dX5_init_15 : decode cX5_init 15 = .ok (.iconst 3, 1) := by decide +kernel
theorem dX5_init_16 : decode cX5_init 16 = .ok (.iastore, 1) := by decide +kernel
theorem dX5_init_17 : decode cX5_init 17 = .ok (.dup, 1) := by decide +kernel
theorem dX5_init_18 : decode cX5_init 18 = .ok (.iconst 1, 1) := by decide +kernel
theorem dX5_init_19 : decode cX5_init 19 = .ok (.iconst 2, 1) := by decide +kernel
theorem dX5_init_20 : decode cX5_init 20 = .ok (.iastore, 1) := by decide +kernel
theorem dX5_init_21 : decode cX5_init 21 = .ok (.dup, 1) := by decide +kernel
theorem dX5_init_22 : decode cX5_init 22 = .ok (.iconst 2, 1) := by decide +kernel
theorem dX5_init_23 : decode cX5_init 23 = .ok (.iconst 5, 1) := by decide +kernel
theorem dX5_init_24 : decode cX5_init 24 = .ok (.iastore, 1) := by decide +kernel
theorem dX5_init_25 : decode cX5_init 25 = .ok (.dup, 1) := by decide +kernel
theorem dX5_init_26 : decode cX5_init 26 = .ok (.iconst 3, 1) := by decide +kernel
theorem dX5_init_27 : decode cX5_init 27 = .ok (.iconst 4, 1) := by decide +kernel
theorem dX5_init_28 : decode cX5_init 28 = .ok (.iastore, 1) := by decide +kernel
theorem dX5_init_29 : decode cX5_init 29 = .ok (.putfield 15, 3) := by decide +kernel
theorem dX5_init_32 : decode cX5_init 32 = .ok (.aload_n 0, 1) := by decide +kernel
theorem dX5_init_33 : decode cX5_init 33 = .ok (.iconst 1, 1) := by decide +kernel
theorem dX5_init_34 : decode cX5_init 34 = .ok (.putfield 19, 3) := by decide +kernel
theorem dX5_init_37 : decode cX5_init 37 = .ok (.aload_n 0, 1) := by decide +kernel
theorem dX5_init_38 : decode cX5_init 38 = .ok (.iconst 0, 1) := by decide +kernel
theorem dX5_init_39 : decode cX5_init 39 = .ok (.putfield 22, 3) := by decide +kernel
theorem dX5_init_42 : decode cX5_init 42 = .ok (.aload_n 0, 1) := by decide +kernel
theorem dX5_init_43 : decode cX5_init 43 = .ok (.iconst 3, 1) := by decide +kernel
theorem dX5_init_44 : decode cX5_init 44 = .ok (.newarray .int, 2) := by decide +kernel
theorem dX5_init_46 : decode cX5_init 46 = .ok (.dup, 1) := by decide +kernel
theorem dX5_init_47 : decode cX5_init 47 = .ok (.iconst 0, 1) := by decide +kernel
theorem dX5_init_48 : decode cX5_init 48 = .ok (.ldc 25, 2) := by decide +kernel
theorem dX5_init_50 : decode cX5_init 50 = .ok (.iastore, 1) := by decide +kernel
theorem dX5_init_51 : decode cX5_init 51 = .ok (.dup, 1) := by decide +kernel
theorem dX5_init_52 : decode cX5_init 52 = .ok (.iconst 1, 1) := by decide +kernel
theorem dX5_init_53 : decode cX5_init 53 = .ok (.ldc 25, 2) := by decide +kernel
theorem dX5_init_55 : decode cX5_init 55 = .ok (.iastore, 1) := by decide +kernel
theorem dX5_init_56 : decode cX5_init 56 = .ok (.dup, 1) := by decide +kernel
theorem dX5_init_57 : decode cX5_init 57 = .ok (.iconst 2, 1) := by decide +kernel
theorem dX5_init_58 : decode cX5_init 58 = .ok (.ldc 25, 2) := by decide +kernel
theorem dX5_init_60 : decode cX5_init 60 = .ok (.iastore, 1) := by decide +kernel
theorem dX5_init_61 : decode cX5_init 61 = .ok (.putfield 26, 3) := by decide +kernel
theorem dX5_init_64 : decode cX5_init 64 = .ok (.aload_n 0, 1) := by decide +kernel
theorem dX5_init_65 : decode cX5_init 65 = .ok (.iload_n 1, 1) := by decide +kernel
theorem dX5_init_66 : decode cX5_init 66 = .ok (.iconst 0, 1) := by decide +kernel
theorem dX5_init_67 : decode cX5_init 67 = .ok (.invokestatic 29, 3) := by decide +kernel
theorem dX5_init_70 : decode cX5_init 70 = .ok (.anewarray 35, 3) := by decide +kernel
theorem dX5_init_73 : decode cX5_init 73 = .ok (.putfield 37, 3) := by decide +kernel
theorem dX5_init_76 : decode cX5_init 76 = .ok (.iconst 0, 1) := by decide +kernel
theorem dX5_init_77 : decode cX5_init 77 = .ok (.istore_n 2, 1) := by decide +kernel
theorem dX5_init_78 : decode cX5_init 78 = .ok (.iload_n 2, 1) := by decide +kernel
theorem dX5_init_79 : decode cX5_init 79 = .ok (.aload_n 0, 1) := by decide +kernel
theorem dX5_init_80 : decode cX5_init 80 = .ok (.getfield 37, 3) := by decide +kernel
theorem dX5_init_83 : decode cX5_init 83 = .ok (.arraylength, 1) := by decide +kernel
theorem dX5_init_84 : decode cX5_init 84 = .ok (.if_icmp .ge 22, 3) := by decide +kernel
theorem dX5_init_87 : decode cX5_init 87 = .ok (.aload_n 0, 1) := by decide +kernel
theorem dX5_init_88 : decode cX5_init 88 = .ok (.getfield 37, 3) := by decide +kernel
theorem dX5_init_91 : decode cX5_init 91 = .ok (.iload_n 2, 1) := by decide +kernel
theorem dX5_init_92 : decode cX5_init 92 = .ok (.new 35, 3) := by decide +kernel
theorem dX5_init_95 : decode cX5_init 95 = .ok (.dup, 1) := by decide +kernel
theorem dX5_init_96 : decode cX5_init 96 = .ok (.invokespecial 41, 3) := by decide +kernel
theorem dX5_init_99 : decode cX5_init 99 = .ok (.aastore, 1) := by decide +kernel
theorem dX5_init_100 : decode cX5_init 100 = .ok (.iinc 2 1, 3) := by decide +kernel
theorem dX5_init_103 : decode cX5_init 103 = .ok (.goto (-25), 3) := by decide +kernel
theorem dX5_init_106 : decode cX5_init 106 = .ok (.return_, 1) := by decide +kernel
theorem dX5_becomeAll_0 : decode cX5_becomeAll 0 = .ok (.aload_n 0, 1) := by decide +kernel
theorem dX5_becomeAll_1 : decode cX5_becomeAll 1 = .ok (.aload_n 1, 1) := by decide +kernel
theorem dX5_becomeAll_2 : decode cX5_becomeAll 2 = .ok (.invokevirtual 42, 3) := by decide +kernel
theorem dX5_becomeAll_5 : decode cX5_becomeAll 5 = .ok (.aload_n 0, 1) := by decide +kernel
theorem dX5_becomeAll_6 : decode cX5_becomeAll 6 = .ok (.aload_n 1, 1) := by decide +kernel
theorem dX5_becomeAll_7 : decode cX5_becomeAll 7 = .ok (.getfield 19, 3) := by decide +kernel
theorem dX5_becomeAll_10 : decode cX5_becomeAll 10 = .ok (.putfield 19, 3) := by decide +kernel
theorem dX5_becomeAll_13 : decode cX5_becomeAll 13 = .ok (.aload_n 0, 1) := by decide +kernel
theorem dX5_becomeAll_14 : decode cX5_becomeAll 14 = .ok (.aload_n 1, 1) := by decide +kernel
theorem dX5_becomeAll_15 : decode cX5_becomeAll 15 = .ok (.getfield 22, 3) := by decide +kernel
theorem dX5_becomeAll_18 : decode cX5_becomeAll 18 = .ok (.putfield 22, 3) := by decide +kernel
theorem dX5_becomeAll_21 : decode cX5_becomeAll 21 = .ok (.aload_n 0, 1) := by decide +kernel
theorem dX5_becomeAll_22 : decode cX5_becomeAll 22 = .ok (.aload_n 1, 1) := by decide +kernel
theorem dX5_becomeAll_23 : decode cX5_becomeAll 23 = .ok (.getfield 9, 3) := by decide +kernel
theorem dX5_becomeAll_26 : decode cX5_becomeAll 26 = .ok (.putfield 9, 3) := by decide +kernel
theorem dX5_becomeAll_29 : decode cX5_becomeAll 29 = .ok (.iconst 0, 1) := by decide +kernel
theorem dX5_becomeAll_30 : decode cX5_becomeAll 30 = .ok (.istore_n 2, 1) := by decide +kernel
theorem dX5_becomeAll_31 : decode cX5_becomeAll 31 = .ok (.iload_n 2, 1) := by decide +kernel
theorem dX5_becomeAll_32 : decode cX5_becomeAll 32 = .ok (.aload_n 0, 1) := by decide +kernel
theorem dX5_becomeAll_33 : decode cX5_becomeAll 33 = .ok (.getfield 9, 3) := by decide +kernel
theorem dX5_becomeAll_36 : decode cX5_becomeAll 36 = .ok (.if_icmp .ge 42, 3) := by decide +kernel
theorem dX5_becomeAll_39 : decode cX5_becomeAll 39 = .ok (.iload_n 2, 1) := by decide +kernel
theorem dX5_becomeAll_40 : decode cX5_becomeAll 40 = .ok (.aload_n 0, 1) := by decide +kernel
theorem dX5_becomeAll_41 : decode cX5_becomeAll 41 = .ok (.getfield 37, 3) := by decide +kernel
theorem dX5_becomeAll_44 : decode cX5_becomeAll 44 = .ok (.arraylength, 1) := by decide +kernel
theorem dX5_becomeAll_45 : decode cX5_becomeAll 45 = .ok (.if_icmp .ge 33, 3) := by decide +kernel
theorem dX5_becomeAll_48 : decode cX5_becomeAll 48 = .ok (.iload_n 2, 1) := by decide +kernel
theorem dX5_becomeAll_49 : decode cX5_becomeAll 49 = .ok (.aload_n 1, 1) := by decide +kernel
theorem dX5_becomeAll_50 : decode cX5_becomeAll 50 = .ok (.getfield 37, 3) := by decide +kernel
theorem dX5_becomeAll_53 : decode cX5_becomeAll 53 = .ok (.arraylength, 1) := by decide +kernel
theorem dX5_becomeAll_54 : decode cX5_becomeAll 54 = .ok (.if_icmp .ge 24, 3) := by decide +kernel
theorem dX5_becomeAll_57 : decode cX5_becomeAll 57 = .ok (.aload_n 0, 1) := by decide +kernel
theorem dX5_becomeAll_58 : decode cX5_becomeAll 58 = .ok (.getfield 37, 3) := by decide +kernel
theorem dX5_becomeAll_61 : decode cX5_becomeAll 61 = .ok (.iload_n 2, 1) := by decide +kernel
theorem dX5_becomeAll_62 : decode cX5_becomeAll 62 = .ok (.aaload, 1) := by decide +kernel
theorem dX5_becomeAll_63 : decode cX5_becomeAll 63 = .ok (.aload_n 1, 1) := by decide +kernel
theorem dX5_becomeAll_64 : decode cX5_becomeAll 64 = .ok (.getfield 37, 3) := by decide +kernel
theorem dX5_becomeAll_67 : decode cX5_becomeAll 67 = .ok (.iload_n 2, 1) := by decide +kernel
theorem dX5_becomeAll_68 : decode cX5_becomeAll 68 = .ok (.aaload, 1) := by decide +kernel
theorem dX5_becomeAll_69 : decode cX5_becomeAll 69 = .ok (.invokevirtual 46, 3) := by decide +kernel
theorem dX5_becomeAll_72 : decode cX5_becomeAll 72 = .ok (.iinc 2 1, 3) := by decide +kernel
theorem dX5_becomeAll_75 : decode cX5_becomeAll 75 = .ok (.goto (-44), 3) := by decide +kernel
theorem dX5_becomeAll_78 : decode cX5_becomeAll 78 = .ok (.return_, 1) := by decide +kernel
theorem dX5_becomeSea_0 : decode cX5_becomeSea 0 = .ok (.aload_n 1, 1) := by decide +kernel
theorem dX5_becomeSea_1 : decode cX5_becomeSea 1 = .ok (.getfield 15, 3) := by decide +kernel
theorem dX5_becomeSea_4 : decode cX5_becomeSea 4 = .ok (.iconst 0, 1) := by decide +kernel
theorem dX5_becomeSea_5 : decode cX5_becomeSea 5 = .ok (.aload_n 0, 1) := by decide +kernel
theorem dX5_becomeSea_6 : decode cX5_becomeSea 6 = .ok (.getfield 15, 3) := by decide +kernel
theorem dX5_becomeSea_9 : decode cX5_becomeSea 9 = .ok (.iconst 0, 1) := by decide +kernel
theorem dX5_becomeSea_10 : decode cX5_becomeSea 10 = .ok (.aload_n 0, 1) := by decide +kernel
theorem dX5_becomeSea_11 : decode cX5_becomeSea 11 = .ok (.getfield 15, 3) := by decide +kernel
theorem dX5_becomeSea_14 : decode cX5_becomeSea 14 = .ok (.arraylength, 1) := by decide +kernel
theorem dX5_becomeSea_15 : decode cX5_becomeSea 15 = .ok (.invokestatic 50, 3) := by decide +kernel
theorem dX5_becomeSea_18 : decode cX5_becomeSea 18 = .ok (.aload_n 1, 1) := by decide +kernel
theorem dX5_becomeSea_19 : decode cX5_becomeSea 19 = .ok (.getfield 26, 3) := by decide +kernel
theorem dX5_becomeSea_22 : decode cX5_becomeSea 22 = .ok (.iconst 0, 1) := by decide +kernel
theorem dX5_becomeSea_23 : decode cX5_becomeSea 23 = .ok (.aload_n 0, 1) := by decide +kernel
theorem dX5_becomeSea_24 : decode cX5_becomeSea 24 = .ok (.getfield 26, 3) := by decide +kernel
theorem dX5_becomeSea_27 : decode cX5_becomeSea 27 = .ok (.iconst 0, 1) := by decide +kernel
theorem dX5_becomeSea_28 : decode cX5_becomeSea 28 = .ok (.aload_n 0, 1) := by decide +kernel
theorem dX5_becomeSea_29 : decode cX5_becomeSea 29 = .ok (.getfield 26, 3) := by decide +kernel
theorem dX5_becomeSea_32 : decode cX5_becomeSea 32 = .ok (.arraylength, 1) := by decide +kernel
theorem dX5_becomeSea_33 : decode cX5_becomeSea 33 = .ok (.invokestatic 50, 3) := by decide +kernel
theorem dX5_becomeSea_36 : decode cX5_becomeSea 36 = .ok (.return_, 1) := by decide +kernel
theorem dX5_draw_0 : decode cX5_draw 0 = .ok (.aload_n 0, 1) := by decide +kernel
theorem dX5_draw_1 : decode cX5_draw 1 = .ok (.aload_n 0, 1) := by decide +kernel
theorem dX5_draw_2 : decode cX5_draw 2 = .ok (.getfield 19, 3) := by decide +kernel
theorem dX5_draw_5 : decode cX5_draw 5 = .ok (.ldc 56, 2) := by decide +kernel
theorem dX5_draw_7 : decode cX5_draw 7 = .ok (.imul, 1) := by decide +kernel
theorem dX5_draw_8 : decode cX5_draw 8 = .ok (.sipush 12345, 3) := by decide +kernel
theorem dX5_draw_11 : decode cX5_draw 11 = .ok (.iadd, 1) := by decide +kernel
theorem dX5_draw_12 : decode cX5_draw 12 = .ok (.putfield 19, 3) := by decide +kernel
theorem dX5_draw_15 : decode cX5_draw 15 = .ok (.aload_n 0, 1) := by decide +kernel
theorem dX5_draw_16 : decode cX5_draw 16 = .ok (.getfield 19, 3) := by decide +kernel
theorem dX5_draw_19 : decode cX5_draw 19 = .ok (.bipush 8, 2) := by decide +kernel
theorem dX5_draw_21 : decode cX5_draw 21 = .ok (.iushr, 1) := by decide +kernel
theorem dX5_draw_22 : decode cX5_draw 22 = .ok (.ireturn, 1) := by decide +kernel
theorem dX6_init_0 : decode cX6_init 0 = .ok (.aload_n 0, 1) := by decide +kernel
theorem dX6_init_1 : decode cX6_init 1 = .ok (.invokespecial 1, 3) := by decide +kernel
theorem dX6_init_4 : decode cX6_init 4 = .ok (.aload_n 0, 1) := by decide +kernel
theorem dX6_init_5 : decode cX6_init 5 = .ok (.new 7, 3) := by decide +kernel
theorem dX6_init_8 : decode cX6_init 8 = .ok (.dup, 1) := by decide +kernel
theorem dX6_init_9 : decode cX6_init 9 = .ok (.bipush 6, 2) := by decide +kernel
theorem dX6_init_11 : decode cX6_init 11 = .ok (.invokespecial 11, 3) := by decide +kernel
theorem dX6_init_14 : decode cX6_init 14 = .ok (.putfield 14, 3) := by decide +kernel
theorem dX6_init_17 : decode cX6_init 17 = .ok (.aload_n 0, 1) := by decide +kernel
theorem dX6_init_18 : decode cX6_init 18 = .ok (.new 7, 3) := by decide +kernel
theorem dX6_init_21 : decode cX6_init 21 = .ok (.dup, 1) := by decide +kernel
theorem dX6_init_22 : decode cX6_init 22 = .ok (.bipush 6, 2) := by decide +kernel
theorem dX6_init_24 : decode cX6_init 24 = .ok (.invokespecial 11, 3) := by decide +kernel
theorem dX6_init_27 : decode cX6_init 27 = .ok (.putfield 18, 3) := by decide +kernel
theorem dX6_init_30 : decode cX6_init 30 = .ok (.aload_n 0, 1) := by decide +kernel
theorem dX6_init_31 : decode cX6_init 31 = .ok (.iconst 0, 1) := by decide +kernel
theorem dX6_init_32 : decode cX6_init 32 = .ok (.putfield 21, 3) := by decide +kernel
theorem dX6_init_35 : decode cX6_init 35 = .ok (.aload_n 0, 1) := by decide +kernel
theorem dX6_init_36 : decode cX6_init 36 = .ok (.new 7, 3) := by decide +kernel
theorem dX6_init_39 : decode cX6_init 39 = .ok (.dup, 1) := by decide +kernel
theorem dX6_init_40 : decode cX6_init 40 = .ok (.iconst 1, 1) := by decide +kernel
theorem dX6_init_41 : decode cX6_init 41 = .ok (.invokespecial 11, 3) := by decide +kernel
theorem dX6_init_44 : decode cX6_init 44 = .ok (.putfield 25, 3) := by decide +kernel
theorem dX6_init_47 : decode cX6_init 47 = .ok (.aload_n 0, 1) := by decide +kernel
theorem dX6_init_48 : decode cX6_init 48 = .ok (.bipush 24, 2) := by decide +kernel
theorem dX6_init_50 : decode cX6_init 50 = .ok (.newarray .int, 2) := by decide +kernel
theorem dX6_init_52 : decode cX6_init 52 = .ok (.putfield 28, 3) := by decide +kernel
theorem dX6_init_55 : decode cX6_init 55 = .ok (.aload_n 0, 1) := by decide +kernel
theorem dX6_init_56 : decode cX6_init 56 = .ok (.bipush 14, 2) := by decide +kernel
theorem dX6_init_58 : decode cX6_init 58 = .ok (.anewarray 32, 3) := by decide +kernel
theorem dX6_init_61 : decode cX6_init 61 = .ok (.putfield 34, 3) := by decide +kernel
theorem dX6_init_64 : decode cX6_init 64 = .ok (.aload_n 0, 1) := by decide +kernel
theorem dX6_init_65 : decode cX6_init 65 = .ok (.new 38, 3) := by decide +kernel
theorem dX6_init_68 : decode cX6_init 68 = .ok (.dup, 1) := by decide +kernel
theorem dX6_init_69 : decode cX6_init 69 = .ok (.invokespecial 40, 3) := by decide +kernel
theorem dX6_init_72 : decode cX6_init 72 = .ok (.putfield 41, 3) := by decide +kernel
theorem dX6_init_75 : decode cX6_init 75 = .ok (.aload_n 0, 1) := by decide +kernel
theorem dX6_init_76 : decode cX6_init 76 = .ok (.bipush 96, 2) := by decide +kernel
theorem dX6_init_78 : decode cX6_init 78 = .ok (.newarray .int, 2) := by decide +kernel
theorem dX6_init_80 : decode cX6_init 80 = .ok (.putfield 45, 3) := by decide +kernel
theorem dX6_init_83 : decode cX6_init 83 = .ok (.aload_n 0, 1) := by decide +kernel
theorem dX6_init_84 : decode cX6_init 84 = .ok (.bipush 96, 2) := by decide +kernel
theorem dX6_init_86 : decode cX6_init 86 = .ok (.newarray .int, 2) := by decide +kernel
theorem dX6_init_88 : decode cX6_init 88 = .ok (.putfield 48, 3) := by decide +kernel
theorem dX6_init_91 : decode cX6_init 91 = .ok (.aload_n 0, 1) := by decide +kernel
theorem dX6_init_92 : decode cX6_init 92 = .ok (.iconst 0, 1) := by decide +kernel
theorem dX6_init_93 : decode cX6_init 93 = .ok (.putfield 51, 3) := by decide +kernel
theorem dX6_init_96 : decode cX6_init 96 = .ok (.aload_n 0, 1) := by decide +kernel
theorem dX6_init_97 : decode cX6_init 97 = .ok (.iconst 4, 1) := by decide +kernel
theorem dX6_init_98 : decode cX6_init 98 = .ok (.anewarray 55, 3) := by decide +kernel
theorem dX6_init_101 : decode cX6_init 101 = .ok (.putfield 57, 3) := by decide +kernel
theorem dX6_init_104 : decode cX6_init 104 = .ok (.aload_n 0, 1) := by decide +kernel
theorem dX6_init_105 : decode cX6_init 105 = .ok (.iconst 5, 1) := by decide +kernel
theorem dX6_init_106 : decode cX6_init 106 = .ok (.anewarray 61, 3) := by decide +kernel
theorem dX6_init_109 : decode cX6_init 109 = .ok (.putfield 63, 3) := by decide +kernel
theorem dX6_init_112 : decode cX6_init 112 = .ok (.aload_n 0, 1) := by decide +kernel
theorem dX6_init_113 : decode cX6_init 113 = .ok (.bipush 60, 2) := by decide +kernel
theorem dX6_init_115 : decode cX6_init 115 = .ok (.newarray .int, 2) := by decide +kernel
theorem dX6_init_117 : decode cX6_init 117 = .ok (.putfield 67, 3) := by decide +kernel
theorem dX6_init_120 : decode cX6_init 120 = .ok (.aload_n 0, 1) := by decide +kernel
theorem dX6_init_121 : decode cX6_init 121 = .ok (.iconst 0, 1) := by decide +kernel
theorem dX6_init_122 : decode cX6_init 122 = .ok (.putfield 70, 3) := by decide +kernel
theorem dX6_init_125 : decode cX6_init 125 = .ok (.iconst 0, 1) := by decide +kernel
theorem dX6_init_126 : decode cX6_init 126 = .ok (.istore_n 1, 1) := by decide +kernel
theorem dX6_init_127 : decode cX6_init 127 = .ok (.iload_n 1, 1) := by decide +kernel
theorem dX6_init_128 : decode cX6_init 128 = .ok (.bipush 14, 2) := by decide +kernel
theorem dX6_init_130 : decode cX6_init 130 = .ok (.if_icmp .ge 22, 3) := by decide +kernel
theorem dX6_init_133 : decode cX6_init 133 = .ok (.aload_n 0, 1) := by decide +kernel
theorem dX6_init_134 : decode cX6_init 134 = .ok (.getfield 34, 3) := by decide +kernel
theorem dX6_init_137 : decode cX6_init 137 = .ok (.iload_n 1, 1) := by decide +kernel
theorem dX6_init_138 : decode cX6_init 138 = .ok (.new 32, 3) := by decide +kernel
theorem dX6_init_141 : decode cX6_init 141 = .ok (.dup, 1) := by decide +kernel
theorem dX6_init_142 : decode cX6_init 142 = .ok (.invokespecial 73, 3) := by decide +kernel
theorem dX6_init_145 : decode cX6_init 145 = .ok (.aastore, 1) := by decide +kernel
theorem dX6_init_146 : decode cX6_init 146 = .ok (.iinc 1 1, 3) := by decide +kernel
theorem dX6_init_149 : decode cX6_init 149 = .ok (.goto (-22), 3) := by decide +kernel
theorem dX6_init_152 : decode cX6_init 152 = .ok (.iconst 0, 1) := by decide +kernel
theorem dX6_init_153 : decode cX6_init 153 = .ok (.istore_n 1, 1) := by decide +kernel
theorem dX6_init_154 : decode cX6_init 154 = .ok (.iload_n 1, 1) := by decide +kernel
theorem dX6_init_155 : decode cX6_init 155 = .ok (.iconst 4, 1) := by decide +kernel
theorem dX6_init_156 : decode cX6_init 156 = .ok (.if_icmp .ge 22, 3) := by decide +kernel
theorem dX6_init_159 : decode cX6_init 159 = .ok (.aload_n 0, 1) := by decide +kernel
theorem dX6_init_160 : decode cX6_init 160 = .ok (.getfield 57, 3) := by decide +kernel
theorem dX6_init_163 : decode cX6_init 163 = .ok (.iload_n 1, 1) := by decide +kernel
theorem dX6_init_164 : decode cX6_init 164 = .ok (.new 55, 3) := by decide +kernel
theorem dX6_init_167 : decode cX6_init 167 = .ok (.dup, 1) := by decide +kernel
theorem dX6_init_168 : decode cX6_init 168 = .ok (.invokespecial 74, 3) := by decide +kernel
theorem dX6_init_171 : decode cX6_init 171 = .ok (.aastore, 1) := by decide +kernel
theorem dX6_init_172 : decode cX6_init 172 = .ok (.iinc 1 1, 3) := by decide +kernel
theorem dX6_init_175 : decode cX6_init 175 = .ok (.goto (-21), 3) := by decide +kernel
theorem dX6_init_178 : decode cX6_init 178 = .ok (.iconst 0, 1) := by decide +kernel
theorem dX6_init_179 : decode cX6_init 179 = .ok (.istore_n 1, 1) := by decide +kernel
theorem dX6_init_180 : decode cX6_init 180 = .ok (.iload_n 1, 1) := by decide +kernel
theorem dX6_init_181 : decode cX6_init 181 = .ok (.iconst 5, 1) := by decide +kernel
theorem dX6_init_182 : decode cX6_init 182 = .ok (.if_icmp .ge 22, 3) := by decide +kernel
theorem dX6_init_185 : decode cX6_init 185 = .ok (.aload_n 0, 1) := by decide +kernel
theorem dX6_init_186 : decode cX6_init 186 = .ok (.getfield 63, 3) := by decide +kernel
theorem dX6_init_189 : decode cX6_init 189 = .ok (.iload_n 1, 1) := by decide +kernel
theorem dX6_init_190 : decode cX6_init 190 = .ok (.new 61, 3) := by decide +kernel
theorem dX6_init_193 : decode cX6_init 193 = .ok (.dup, 1) := by decide +kernel
theorem dX6_init_194 : decode cX6_init 194 = .ok (.invokespecial 75, 3) := by decide +kernel
theorem dX6_init_197 : decode cX6_init 197 = .ok (.aastore, 1) := by decide +kernel
theorem dX6_init_198 : decode cX6_init 198 = .ok (.iinc 1 1, 3) := by decide +kernel
theorem dX6_init_201 : decode cX6_init 201 = .ok (.goto (-21), 3) := by decide +kernel
theorem dX6_init_204 : decode cX6_init 204 = .ok (.return_, 1) := by decide +kernel
theorem dX6_floor_0 : decode cX6_floor 0 = .ok (.iload_n 1, 1) := by decide +kernel
theorem dX6_floor_1 : decode cX6_floor 1 = .ok (.invokestatic 76, 3) := by decide +kernel
theorem dX6_floor_4 : decode cX6_floor 4 = .ok (.ifCond .ne 6, 3) := by decide +kernel
theorem dX6_floor_7 : decode cX6_floor 7 = .ok (.ldc 80, 2) := by decide +kernel
theorem dX6_floor_9 : decode cX6_floor 9 = .ok (.ireturn, 1) := by decide +kernel
theorem dX6_floor_10 : decode cX6_floor 10 = .ok (.aload_n 0, 1) := by decide +kernel
theorem dX6_floor_11 : decode cX6_floor 11 = .ok (.getfield 14, 3) := by decide +kernel
theorem dX6_floor_14 : decode cX6_floor 14 = .ok (.getfield 81, 3) := by decide +kernel
theorem dX6_floor_17 : decode cX6_floor 17 = .ok (.bipush 6, 2) := by decide +kernel
theorem dX6_floor_19 : decode cX6_floor 19 = .ok (.if_icmp .lt 6, 3) := by decide +kernel
theorem dX6_floor_22 : decode cX6_floor 22 = .ok (.ldc 84, 2) := by decide +kernel
theorem dX6_floor_24 : decode cX6_floor 24 = .ok (.ireturn, 1) := by decide +kernel
theorem dX6_floor_25 : decode cX6_floor 25 = .ok (.aload_n 0, 1) := by decide +kernel
theorem dX6_floor_26 : decode cX6_floor 26 = .ok (.getfield 14, 3) := by decide +kernel
theorem dX6_floor_29 : decode cX6_floor 29 = .ok (.getfield 85, 3) := by decide +kernel
theorem dX6_floor_32 : decode cX6_floor 32 = .ok (.aload_n 0, 1) := by decide +kernel
theorem dX6_floor_33 : decode cX6_floor 33 = .ok (.getfield 14, 3) := by decide +kernel
theorem dX6_floor_36 : decode cX6_floor 36 = .ok (.getfield 81, 3) := by decide +kernel
theorem dX6_floor_39 : decode cX6_floor 39 = .ok (.aaload, 1) := by decide +kernel
theorem dX6_floor_40 : decode cX6_floor 40 = .ok (.iload_n 1, 1) := by decide +kernel
theorem dX6_floor_41 : decode cX6_floor 41 = .ok (.invokevirtual 89, 3) := by decide +kernel
theorem dX6_floor_44 : decode cX6_floor 44 = .ok (.aload_n 0, 1) := by decide +kernel
theorem dX6_floor_45 : decode cX6_floor 45 = .ok (.getfield 14, 3) := by decide +kernel
theorem dX6_floor_48 : decode cX6_floor 48 = .ok (.dup, 1) := by decide +kernel
theorem dX6_floor_49 : decode cX6_floor 49 = .ok (.getfield 81, 3) := by decide +kernel
theorem dX6_floor_52 : decode cX6_floor 52 = .ok (.iconst 1, 1) := by decide +kernel
theorem dX6_floor_53 : decode cX6_floor 53 = .ok (.iadd, 1) := by decide +kernel
theorem dX6_floor_54 : decode cX6_floor 54 = .ok (.putfield 81, 3) := by decide +kernel
theorem dX6_floor_57 : decode cX6_floor 57 = .ok (.aload_n 0, 1) := by decide +kernel
theorem dX6_floor_58 : decode cX6_floor 58 = .ok (.getfield 14, 3) := by decide +kernel
theorem dX6_floor_61 : decode cX6_floor 61 = .ok (.getfield 81, 3) := by decide +kernel
theorem dX6_floor_64 : decode cX6_floor 64 = .ok (.iconst 1, 1) := by decide +kernel
theorem dX6_floor_65 : decode cX6_floor 65 = .ok (.isub, 1) := by decide +kernel
theorem dX6_floor_66 : decode cX6_floor 66 = .ok (.ireturn, 1) := by decide +kernel
theorem dX6_told_0 : decode cX6_told 0 = .ok (.aload_n 0, 1) := by decide +kernel
theorem dX6_told_1 : decode cX6_told 1 = .ok (.iload_n 1, 1) := by decide +kernel
theorem dX6_told_2 : decode cX6_told 2 = .ok (.invokevirtual 94, 3) := by decide +kernel
theorem dX6_told_5 : decode cX6_told 5 = .ok (.ifCond .ne 6, 3) := by decide +kernel
theorem dX6_told_8 : decode cX6_told 8 = .ok (.ldc 80, 2) := by decide +kernel
theorem dX6_told_10 : decode cX6_told 10 = .ok (.ireturn, 1) := by decide +kernel
theorem dX6_told_11 : decode cX6_told 11 = .ok (.aload_n 0, 1) := by decide +kernel
theorem dX6_told_12 : decode cX6_told 12 = .ok (.getfield 14, 3) := by decide +kernel
theorem dX6_told_15 : decode cX6_told 15 = .ok (.getfield 85, 3) := by decide +kernel
theorem dX6_told_18 : decode cX6_told 18 = .ok (.iload_n 1, 1) := by decide +kernel
theorem dX6_told_19 : decode cX6_told 19 = .ok (.aaload, 1) := by decide +kernel
theorem dX6_told_20 : decode cX6_told 20 = .ok (.astore_n 3, 1) := by decide +kernel
theorem dX6_told_21 : decode cX6_told 21 = .ok (.iload_n 2, 1) := by decide +kernel
theorem dX6_told_22 : decode cX6_told 22 = .ok (.tableswitch 122 0 10 #[58, 63, 68, 73, 78, 83, 88, 93, 98, 107, 112], 58) := by decide +kernel
theorem dX6_told_80 : decode cX6_told 80 = .ok (.aload_n 3, 1) := by decide +kernel
theorem dX6_told_81 : decode cX6_told 81 = .ok (.getfield 97, 3) := by decide +kernel
theorem dX6_told_84 : decode cX6_told 84 = .ok (.ireturn, 1) := by decide +kernel
theorem dX6_told_85 : decode cX6_told 85 = .ok (.aload_n 3, 1) := by decide +kernel
theorem dX6_told_86 : decode cX6_told 86 = .ok (.getfield 100, 3) := by decide +kernel
theorem dX6_told_89 : decode cX6_told 89 = .ok (.ireturn, 1) := by decide +kernel
theorem dX6_told_90 : decode cX6_told 90 = .ok (.aload_n 3, 1) := by decide +kernel
theorem dX6_told_91 : decode cX6_told 91 = .ok (.invokevirtual 103, 3) := by decide +kernel
theorem dX6_told_94 : decode cX6_told 94 = .ok (.ireturn, 1) := by decide +kernel
theorem dX6_told_95 : decode cX6_told 95 = .ok (.aload_n 3, 1) := by decide +kernel
theorem dX6_told_96 : decode cX6_told 96 = .ok (.invokevirtual 107, 3) := by decide +kernel
theorem dX6_told_99 : decode cX6_told 99 = .ok (.ireturn, 1) := by decide +kernel
theorem dX6_told_100 : decode cX6_told 100 = .ok (.aload_n 3, 1) := by decide +kernel
theorem dX6_told_101 : decode cX6_told 101 = .ok (.invokevirtual 110, 3) := by decide +kernel
theorem dX6_told_104 : decode cX6_told 104 = .ok (.ireturn, 1) := by decide +kernel
theorem dX6_told_105 : decode cX6_told 105 = .ok (.aload_n 3, 1) := by decide +kernel
theorem dX6_told_106 : decode cX6_told 106 = .ok (.invokevirtual 113, 3) := by decide +kernel
theorem dX6_told_109 : decode cX6_told 109 = .ok (.ireturn, 1) := by decide +kernel
theorem dX6_told_110 : decode cX6_told 110 = .ok (.aload_n 3, 1) := by decide +kernel
theorem dX6_told_111 : decode cX6_told 111 = .ok (.invokevirtual 116, 3) := by decide +kernel
theorem dX6_told_114 : decode cX6_told 114 = .ok (.ireturn, 1) := by decide +kernel
theorem dX6_told_115 : decode cX6_told 115 = .ok (.aload_n 3, 1) := by decide +kernel
theorem dX6_told_116 : decode cX6_told 116 = .ok (.invokevirtual 119, 3) := by decide +kernel
theorem dX6_told_119 : decode cX6_told 119 = .ok (.ireturn, 1) := by decide +kernel
theorem dX6_told_120 : decode cX6_told 120 = .ok (.aload_n 0, 1) := by decide +kernel
theorem dX6_told_121 : decode cX6_told 121 = .ok (.getfield 14, 3) := by decide +kernel
theorem dX6_told_124 : decode cX6_told 124 = .ok (.aload_n 3, 1) := by decide +kernel
theorem dX6_told_125 : decode cX6_told 125 = .ok (.invokestatic 122, 3) := by decide +kernel
theorem dX6_told_128 : decode cX6_told 128 = .ok (.ireturn, 1) := by decide +kernel
theorem dX6_told_129 : decode cX6_told 129 = .ok (.aload_n 3, 1) := by decide +kernel
theorem dX6_told_130 : decode cX6_told 130 = .ok (.invokevirtual 126, 3) := by decide +kernel
theorem dX6_told_133 : decode cX6_told 133 = .ok (.ireturn, 1) := by decide +kernel
theorem dX6_told_134 : decode cX6_told 134 = .ok (.aload_n 0, 1) := by decide +kernel
theorem dX6_told_135 : decode cX6_told 135 = .ok (.aload_n 0, 1) := by decide +kernel
theorem dX6_told_136 : decode cX6_told 136 = .ok (.getfield 14, 3) := by decide +kernel
theorem dX6_told_139 : decode cX6_told 139 = .ok (.aload_n 3, 1) := by decide +kernel
theorem dX6_told_140 : decode cX6_told 140 = .ok (.invokevirtual 129, 3) := by decide +kernel
theorem dX6_told_143 : decode cX6_told 143 = .ok (.ireturn, 1) := by decide +kernel
theorem dX6_told_144 : decode cX6_told 144 = .ok (.ldc 80, 2) := by decide +kernel
theorem dX6_told_146 : decode cX6_told 146 = .ok (.ireturn, 1) := by decide +kernel
theorem dX6_as_0 : decode cX6_as 0 = .ok (.aload_n 0, 1) := by decide +kernel
theorem dX6_as_1 : decode cX6_as 1 = .ok (.iload_n 1, 1) := by decide +kernel
theorem dX6_as_2 : decode cX6_as 2 = .ok (.invokevirtual 94, 3) := by decide +kernel
theorem dX6_as_5 : decode cX6_as 5 = .ok (.ifCond .eq 10, 3) := by decide +kernel
theorem dX6_as_8 : decode cX6_as 8 = .ok (.iload_n 2, 1) := by decide +kernel
theorem dX6_as_9 : decode cX6_as 9 = .ok (.invokestatic 76, 3) := by decide +kernel
theorem dX6_as_12 : decode cX6_as 12 = .ok (.ifCond .ne 6, 3) := by decide +kernel
theorem dX6_as_15 : decode cX6_as 15 = .ok (.ldc 80, 2) := by decide +kernel
theorem dX6_as_17 : decode cX6_as 17 = .ok (.ireturn, 1) := by decide +kernel
theorem dX6_as_18 : decode cX6_as 18 = .ok (.aload_n 0, 1) := by decide +kernel
theorem dX6_as_19 : decode cX6_as 19 = .ok (.getfield 14, 3) := by decide +kernel
theorem dX6_as_22 : decode cX6_as 22 = .ok (.getfield 85, 3) := by decide +kernel
theorem dX6_as_25 : decode cX6_as 25 = .ok (.iload_n 1, 1) := by decide +kernel
theorem dX6_as_26 : decode cX6_as 26 = .ok (.aaload, 1) := by decide +kernel
theorem dX6_as_27 : decode cX6_as 27 = .ok (.astore_n 3, 1) := by decide +kernel
theorem dX6_as_28 : decode cX6_as 28 = .ok (.aload_n 3, 1) := by decide +kernel
theorem dX6_as_29 : decode cX6_as 29 = .ok (.getfield 97, 3) := by decide +kernel
theorem dX6_as_32 : decode cX6_as 32 = .ok (.iload_n 2, 1) := by decide +kernel
theorem dX6_as_33 : decode cX6_as 33 = .ok (.invokestatic 132, 3) := by decide +kernel
theorem dX6_as_36 : decode cX6_as 36 = .ok (.ifCond .eq 10, 3) := by decide +kernel
theorem dX6_as_39 : decode cX6_as 39 = .ok (.aload_n 3, 1) := by decide +kernel
theorem dX6_as_40 : decode cX6_as 40 = .ok (.getfield 100, 3) := by decide +kernel
theorem dX6_as_43 : decode cX6_as 43 = .ok (.goto 5, 3) := by decide +kernel
theorem dX6_as_46 : decode cX6_as 46 = .ok (.ldc 136, 2) := by decide +kernel
theorem dX6_as_48 : decode cX6_as 48 = .ok (.ireturn, 1) := by decide +kernel
theorem dX6_turns_0 : decode cX6_turns 0 = .ok (.aload_n 0, 1) := by decide +kernel
theorem dX6_turns_1 : decode cX6_turns 1 = .ok (.iload_n 1, 1) := by decide +kernel
theorem dX6_turns_2 : decode cX6_turns 2 = .ok (.invokevirtual 94, 3) := by decide +kernel
theorem dX6_turns_5 : decode cX6_turns 5 = .ok (.ifCond .eq 10, 3) := by decide +kernel
theorem dX6_turns_8 : decode cX6_turns 8 = .ok (.iload_n 2, 1) := by decide +kernel
theorem dX6_turns_9 : decode cX6_turns 9 = .ok (.invokestatic 76, 3) := by decide +kernel
theorem dX6_turns_12 : decode cX6_turns 12 = .ok (.ifCond .ne 6, 3) := by decide +kernel
theorem dX6_turns_15 : decode cX6_turns 15 = .ok (.ldc 80, 2) := by decide +kernel
theorem dX6_turns_17 : decode cX6_turns 17 = .ok (.ireturn, 1) := by decide +kernel
theorem dX6_turns_18 : decode cX6_turns 18 = .ok (.aload_n 0, 1) := by decide +kernel
theorem dX6_turns_19 : decode cX6_turns 19 = .ok (.getfield 14, 3) := by decide +kernel
theorem dX6_turns_22 : decode cX6_turns 22 = .ok (.getfield 85, 3) := by decide +kernel
theorem dX6_turns_25 : decode cX6_turns 25 = .ok (.iload_n 1, 1) := by decide +kernel
theorem dX6_turns_26 : decode cX6_turns 26 = .ok (.aaload, 1) := by decide +kernel
theorem dX6_turns_27 : decode cX6_turns 27 = .ok (.astore_n 3, 1) := by decide +kernel
theorem dX6_turns_28 : decode cX6_turns 28 = .ok (.aload_n 3, 1) := by decide +kernel
theorem dX6_turns_29 : decode cX6_turns 29 = .ok (.getfield 97, 3) := by decide +kernel
theorem dX6_turns_32 : decode cX6_turns 32 = .ok (.istore 4, 2) := by decide +kernel
theorem dX6_turns_34 : decode cX6_turns 34 = .ok (.aload_n 3, 1) := by decide +kernel
theorem dX6_turns_35 : decode cX6_turns 35 = .ok (.iload_n 2, 1) := by decide +kernel
theorem dX6_turns_36 : decode cX6_turns 36 = .ok (.putfield 97, 3) := by decide +kernel
theorem dX6_turns_39 : decode cX6_turns 39 = .ok (.iload 4, 2) := by decide +kernel
theorem dX6_turns_41 : decode cX6_turns 41 = .ok (.ireturn, 1) := by decide +kernel
theorem dX6_sea_0 : decode cX6_sea 0 = .ok (.iload_n 1, 1) := by decide +kernel
theorem dX6_sea_1 : decode cX6_sea 1 = .ok (.ifCond .lt 26, 3) := by decide +kernel
theorem dX6_sea_4 : decode cX6_sea 4 = .ok (.iload_n 1, 1) := by decide +kernel
theorem dX6_sea_5 : decode cX6_sea 5 = .ok (.iconst 3, 1) := by decide +kernel
theorem dX6_sea_6 : decode cX6_sea 6 = .ok (.if_icmp .gt 21, 3) := by decide +kernel
theorem dX6_sea_9 : decode cX6_sea 9 = .ok (.iload_n 2, 1) := by decide +kernel
theorem dX6_sea_10 : decode cX6_sea 10 = .ok (.getstatic 137, 3) := by decide +kernel
theorem dX6_sea_13 : decode cX6_sea 13 = .ok (.iload_n 1, 1) := by decide +kernel
theorem dX6_sea_14 : decode cX6_sea 14 = .ok (.iaload, 1) := by decide +kernel
theorem dX6_sea_15 : decode cX6_sea 15 = .ok (.if_icmp .lt 12, 3) := by decide +kernel
theorem dX6_sea_18 : decode cX6_sea 18 = .ok (.iload_n 2, 1) := by decide +kernel
theorem dX6_sea_19 : decode cX6_sea 19 = .ok (.getstatic 140, 3) := by decide +kernel
theorem dX6_sea_22 : decode cX6_sea 22 = .ok (.iload_n 1, 1) := by decide +kernel
theorem dX6_sea_23 : decode cX6_sea 23 = .ok (.iaload, 1) := by decide +kernel
theorem dX6_sea_24 : decode cX6_sea 24 = .ok (.if_icmp .le 6, 3) := by decide +kernel
theorem dX6_sea_27 : decode cX6_sea 27 = .ok (.ldc 80, 2) := by decide +kernel
theorem dX6_sea_29 : decode cX6_sea 29 = .ok (.ireturn, 1) := by decide +kernel
theorem dX6_sea_30 : decode cX6_sea 30 = .ok (.aload_n 0, 1) := by decide +kernel
theorem dX6_sea_31 : decode cX6_sea 31 = .ok (.getfield 14, 3) := by decide +kernel
theorem dX6_sea_34 : decode cX6_sea 34 = .ok (.getfield 143, 3) := by decide +kernel
theorem dX6_sea_37 : decode cX6_sea 37 = .ok (.iload_n 1, 1) := by decide +kernel
theorem dX6_sea_38 : decode cX6_sea 38 = .ok (.iaload, 1) := by decide +kernel
theorem dX6_sea_39 : decode cX6_sea 39 = .ok (.istore_n 3, 1) := by decide +kernel
theorem dX6_sea_40 : decode cX6_sea 40 = .ok (.aload_n 0, 1) := by decide +kernel
theorem dX6_sea_41 : decode cX6_sea 41 = .ok (.getfield 14, 3) := by decide +kernel
theorem dX6_sea_44 : decode cX6_sea 44 = .ok (.getfield 143, 3) := by decide +kernel
theorem dX6_sea_47 : decode cX6_sea 47 = .ok (.iload_n 1, 1) := by decide +kernel
theorem dX6_sea_48 : decode cX6_sea 48 = .ok (.iload_n 2, 1) := by decide +kernel
theorem dX6_sea_49 : decode cX6_sea 49 = .ok (.iastore, 1) := by decide +kernel
theorem dX6_sea_50 : decode cX6_sea 50 = .ok (.iload_n 3, 1) := by decide +kernel
theorem dX6_sea_51 : decode cX6_sea 51 = .ok (.ireturn, 1) := by decide +kernel
theorem dX6_sand_0 : decode cX6_sand 0 = .ok (.aload_n 0, 1) := by decide +kernel
theorem dX6_sand_1 : decode cX6_sand 1 = .ok (.iload_n 1, 1) := by decide +kernel
theorem dX6_sand_2 : decode cX6_sand 2 = .ok (.invokevirtual 94, 3) := by decide +kernel
theorem dX6_sand_5 : decode cX6_sand 5 = .ok (.ifCond .eq 10, 3) := by decide +kernel
theorem dX6_sand_8 : decode cX6_sand 8 = .ok (.iload_n 2, 1) := by decide +kernel
theorem dX6_sand_9 : decode cX6_sand 9 = .ok (.invokestatic 146, 3) := by decide +kernel
theorem dX6_sand_12 : decode cX6_sand 12 = .ok (.ifCond .ne 6, 3) := by decide +kernel
theorem dX6_sand_15 : decode cX6_sand 15 = .ok (.ldc 80, 2) := by decide +kernel
theorem dX6_sand_17 : decode cX6_sand 17 = .ok (.ireturn, 1) := by decide +kernel
theorem dX6_sand_18 : decode cX6_sand 18 = .ok (.aload_n 0, 1) := by decide +kernel
theorem dX6_sand_19 : decode cX6_sand 19 = .ok (.getfield 14, 3) := by decide +kernel
theorem dX6_sand_22 : decode cX6_sand 22 = .ok (.getfield 85, 3) := by decide +kernel
theorem dX6_sand_25 : decode cX6_sand 25 = .ok (.iload_n 1, 1) := by decide +kernel
theorem dX6_sand_26 : decode cX6_sand 26 = .ok (.aaload, 1) := by decide +kernel
theorem dX6_sand_27 : decode cX6_sand 27 = .ok (.getfield 149, 3) := by decide +kernel
theorem dX6_sand_30 : decode cX6_sand 30 = .ok (.iload_n 2, 1) := by decide +kernel
theorem dX6_sand_31 : decode cX6_sand 31 = .ok (.iaload, 1) := by decide +kernel
theorem dX6_sand_32 : decode cX6_sand 32 = .ok (.ireturn, 1) := by decide +kernel
theorem dX6_heap_0 : decode cX6_heap 0 = .ok (.aload_n 0, 1) := by decide +kernel
theorem dX6_heap_1 : decode cX6_heap 1 = .ok (.iload_n 1, 1) := by decide +kernel
theorem dX6_heap_2 : decode cX6_heap 2 = .ok (.invokevirtual 94, 3) := by decide +kernel
theorem dX6_heap_5 : decode cX6_heap 5 = .ok (.ifCond .eq 20, 3) := by decide +kernel
theorem dX6_heap_8 : decode cX6_heap 8 = .ok (.iload_n 2, 1) := by decide +kernel
theorem dX6_heap_9 : decode cX6_heap 9 = .ok (.invokestatic 146, 3) := by decide +kernel
theorem dX6_heap_12 : decode cX6_heap 12 = .ok (.ifCond .eq 13, 3) := by decide +kernel
theorem dX6_heap_15 : decode cX6_heap 15 = .ok (.iload_n 3, 1) := by decide +kernel
theorem dX6_heap_16 : decode cX6_heap 16 = .ok (.ifCond .lt 9, 3) := by decide +kernel
theorem dX6_heap_19 : decode cX6_heap 19 = .ok (.iload_n 3, 1) := by decide +kernel
theorem dX6_heap_20 : decode cX6_heap 20 = .ok (.bipush 99, 2) := by decide +kernel
theorem dX6_heap_22 : decode cX6_heap 22 = .ok (.if_icmp .le 6, 3) := by decide +kernel
theorem dX6_heap_25 : decode cX6_heap 25 = .ok (.ldc 80, 2) := by decide +kernel
theorem dX6_heap_27 : decode cX6_heap 27 = .ok (.ireturn, 1) := by decide +kernel
theorem dX6_heap_28 : decode cX6_heap 28 = .ok (.aload_n 0, 1) := by decide +kernel
theorem dX6_heap_29 : decode cX6_heap 29 = .ok (.getfield 14, 3) := by decide +kernel
theorem dX6_heap_32 : decode cX6_heap 32 = .ok (.getfield 85, 3) := by decide +kernel
theorem dX6_heap_35 : decode cX6_heap 35 = .ok (.iload_n 1, 1) := by decide +kernel
theorem dX6_heap_36 : decode cX6_heap 36 = .ok (.aaload, 1) := by decide +kernel
theorem dX6_heap_37 : decode cX6_heap 37 = .ok (.astore 4, 2) := by decide +kernel
theorem dX6_heap_39 : decode cX6_heap 39 = .ok (.aload 4, 2) := by decide +kernel
theorem dX6_heap_41 : decode cX6_heap 41 = .ok (.getfield 149, 3) := by decide +kernel
theorem dX6_heap_44 : decode cX6_heap 44 = .ok (.iload_n 2, 1) := by decide +kernel
theorem dX6_heap_45 : decode cX6_heap 45 = .ok (.iaload, 1) := by decide +kernel
theorem dX6_heap_46 : decode cX6_heap 46 = .ok (.istore 5, 2) := by decide +kernel
theorem dX6_heap_48 : decode cX6_heap 48 = .ok (.aload 4, 2) := by decide +kernel
theorem dX6_heap_50 : decode cX6_heap 50 = .ok (.getfield 149, 3) := by decide +kernel
theorem dX6_heap_53 : decode cX6_heap 53 = .ok (.iload_n 2, 1) := by decide +kernel
theorem dX6_heap_54 : decode cX6_heap 54 = .ok (.iload_n 3, 1) := by decide +kernel
theorem dX6_heap_55 : decode cX6_heap 55 = .ok (.iastore, 1) := by decide +kernel
theorem dX6_heap_56 : decode cX6_heap 56 = .ok (.iload 5, 2) := by decide +kernel
theorem dX6_heap_58 : decode cX6_heap 58 = .ok (.ireturn, 1) := by decide +kernel
theorem dX6_deal_0 : decode cX6_deal 0 = .ok (.aload_n 0, 1) := by decide +kernel
theorem dX6_deal_1 : decode cX6_deal 1 = .ok (.iload_n 1, 1) := by decide +kernel
theorem dX6_deal_2 : decode cX6_deal 2 = .ok (.invokevirtual 94, 3) := by decide +kernel
theorem dX6_deal_5 : decode cX6_deal 5 = .ok (.ifCond .ne 6, 3) := by decide +kernel
theorem dX6_deal_8 : decode cX6_deal 8 = .ok (.ldc 80, 2) := by decide +kernel
theorem dX6_deal_10 : decode cX6_deal 10 = .ok (.ireturn, 1) := by decide +kernel
theorem dX6_deal_11 : decode cX6_deal 11 = .ok (.aload_n 0, 1) := by decide +kernel
theorem dX6_deal_12 : decode cX6_deal 12 = .ok (.getfield 14, 3) := by decide +kernel
theorem dX6_deal_15 : decode cX6_deal 15 = .ok (.getfield 85, 3) := by decide +kernel
theorem dX6_deal_18 : decode cX6_deal 18 = .ok (.iload_n 1, 1) := by decide +kernel
theorem dX6_deal_19 : decode cX6_deal 19 = .ok (.aaload, 1) := by decide +kernel
theorem dX6_deal_20 : decode cX6_deal 20 = .ok (.astore_n 2, 1) := by decide +kernel
theorem dX6_deal_21 : decode cX6_deal 21 = .ok (.iconst 0, 1) := by decide +kernel
theorem dX6_deal_22 : decode cX6_deal 22 = .ok (.istore_n 3, 1) := by decide +kernel
theorem dX6_deal_23 : decode cX6_deal 23 = .ok (.iload_n 3, 1) := by decide +kernel
theorem dX6_deal_24 : decode cX6_deal 24 = .ok (.bipush 24, 2) := by decide +kernel
theorem dX6_deal_26 : decode cX6_deal 26 = .ok (.if_icmp .ge 25, 3) := by decide +kernel
theorem dX6_deal_29 : decode cX6_deal 29 = .ok (.aload_n 2, 1) := by decide +kernel
theorem dX6_deal_30 : decode cX6_deal 30 = .ok (.getfield 149, 3) := by decide +kernel
theorem dX6_deal_33 : decode cX6_deal 33 = .ok (.iload_n 3, 1) := by decide +kernel
theorem dX6_deal_34 : decode cX6_deal 34 = .ok (.aload_n 0, 1) := by decide +kernel
theorem dX6_deal_35 : decode cX6_deal 35 = .ok (.getfield 14, 3) := by decide +kernel
theorem dX6_deal_38 : decode cX6_deal 38 = .ok (.invokevirtual 152, 3) := by decide +kernel
theorem dX6_deal_41 : decode cX6_deal 41 = .ok (.bipush 40, 2) := by decide +kernel
theorem dX6_deal_43 : decode cX6_deal 43 = .ok (.irem, 1) := by decide +kernel
theorem dX6_deal_44 : decode cX6_deal 44 = .ok (.iastore, 1) := by decide +kernel
theorem dX6_deal_45 : decode cX6_deal 45 = .ok (.iinc 3 1, 3) := by decide +kernel
theorem dX6_deal_48 : decode cX6_deal 48 = .ok (.goto (-25), 3) := by decide +kernel
theorem dX6_deal_51 : decode cX6_deal 51 = .ok (.aload_n 2, 1) := by decide +kernel
theorem dX6_deal_52 : decode cX6_deal 52 = .ok (.invokevirtual 103, 3) := by decide +kernel
theorem dX6_deal_55 : decode cX6_deal 55 = .ok (.ireturn, 1) := by decide +kernel
theorem dX6_seed_0 : decode cX6_seed 0 = .ok (.aload_n 0, 1) := by decide +kernel
theorem dX6_seed_1 : decode cX6_seed 1 = .ok (.getfield 14, 3) := by decide +kernel
theorem dX6_seed_4 : decode cX6_seed 4 = .ok (.getfield 155, 3) := by decide +kernel
theorem dX6_seed_7 : decode cX6_seed 7 = .ok (.istore_n 2, 1) := by decide +kernel
theorem dX6_seed_8 : decode cX6_seed 8 = .ok (.aload_n 0, 1) := by decide +kernel
theorem dX6_seed_9 : decode cX6_seed 9 = .ok (.getfield 14, 3) := by decide +kernel
theorem dX6_seed_12 : decode cX6_seed 12 = .ok (.iload_n 1, 1) := by decide +kernel
theorem dX6_seed_13 : decode cX6_seed 13 = .ok (.putfield 155, 3) := by decide +kernel
theorem dX6_seed_16 : decode cX6_seed 16 = .ok (.iload_n 2, 1) := by decide +kernel
theorem dX6_seed_17 : decode cX6_seed 17 = .ok (.ireturn, 1) := by decide +kernel
theorem dX6_lift_0 : decode cX6_lift 0 = .ok (.aload_n 0, 1) := by decide +kernel
theorem dX6_lift_1 : decode cX6_lift 1 = .ok (.iload_n 1, 1) := by decide +kernel
theorem dX6_lift_2 : decode cX6_lift 2 = .ok (.invokevirtual 94, 3) := by decide +kernel
theorem dX6_lift_5 : decode cX6_lift 5 = .ok (.ifCond .eq 19, 3) := by decide +kernel
theorem dX6_lift_8 : decode cX6_lift 8 = .ok (.iload_n 2, 1) := by decide +kernel
theorem dX6_lift_9 : decode cX6_lift 9 = .ok (.invokestatic 146, 3) := by decide +kernel
theorem dX6_lift_12 : decode cX6_lift 12 = .ok (.ifCond .eq 12, 3) := by decide +kernel
theorem dX6_lift_15 : decode cX6_lift 15 = .ok (.iload_n 3, 1) := by decide +kernel
theorem dX6_lift_16 : decode cX6_lift 16 = .ok (.ifCond .lt 8, 3) := by decide +kernel
theorem dX6_lift_19 : decode cX6_lift 19 = .ok (.iload_n 3, 1) := by decide +kernel
theorem dX6_lift_20 : decode cX6_lift 20 = .ok (.iconst 1, 1) := by decide +kernel
theorem dX6_lift_21 : decode cX6_lift 21 = .ok (.if_icmp .le 6, 3) := by decide +kernel
theorem dX6_lift_24 : decode cX6_lift 24 = .ok (.ldc 80, 2) := by decide +kernel
theorem dX6_lift_26 : decode cX6_lift 26 = .ok (.ireturn, 1) := by decide +kernel
theorem dX6_lift_27 : decode cX6_lift 27 = .ok (.aload_n 0, 1) := by decide +kernel
theorem dX6_lift_28 : decode cX6_lift 28 = .ok (.getfield 14, 3) := by decide +kernel
theorem dX6_lift_31 : decode cX6_lift 31 = .ok (.getfield 85, 3) := by decide +kernel
theorem dX6_lift_34 : decode cX6_lift 34 = .ok (.iload_n 1, 1) := by decide +kernel
theorem dX6_lift_35 : decode cX6_lift 35 = .ok (.aaload, 1) := by decide +kernel
theorem dX6_lift_36 : decode cX6_lift 36 = .ok (.astore 4, 2) := by decide +kernel
theorem dX6_lift_38 : decode cX6_lift 38 = .ok (.iload_n 3, 1) := by decide +kernel
theorem dX6_lift_39 : decode cX6_lift 39 = .ok (.ifCond .ne 17, 3) := by decide +kernel
theorem dX6_lift_42 : decode cX6_lift 42 = .ok (.aload_n 0, 1) := by decide +kernel
theorem dX6_lift_43 : decode cX6_lift 43 = .ok (.aload_n 0, 1) := by decide +kernel
theorem dX6_lift_44 : decode cX6_lift 44 = .ok (.getfield 14, 3) := by decide +kernel
theorem dX6_lift_47 : decode cX6_lift 47 = .ok (.aload 4, 2) := by decide +kernel
theorem dX6_lift_49 : decode cX6_lift 49 = .ok (.iload_n 2, 1) := by decide +kernel
theorem dX6_lift_50 : decode cX6_lift 50 = .ok (.invokevirtual 158, 3) := by decide +kernel
theorem dX6_lift_53 : decode cX6_lift 53 = .ok (.goto 23, 3) := by decide +kernel
theorem dX6_lift_56 : decode cX6_lift 56 = .ok (.iload_n 2, 1) := by decide +kernel
theorem dX6_lift_57 : decode cX6_lift 57 = .ok (.aload 4, 2) := by decide +kernel
theorem dX6_lift_59 : decode cX6_lift 59 = .ok (.invokevirtual 126, 3) := by decide +kernel
theorem dX6_lift_62 : decode cX6_lift 62 = .ok (.aload_n 0, 1) := by decide +kernel
theorem dX6_lift_63 : decode cX6_lift 63 = .ok (.getfield 14, 3) := by decide +kernel
theorem dX6_lift_66 : decode cX6_lift 66 = .ok (.aload 4, 2) := by decide +kernel
theorem dX6_lift_68 : decode cX6_lift 68 = .ok (.invokestatic 122, 3) := by decide +kernel
theorem dX6_lift_71 : decode cX6_lift 71 = .ok (.imul, 1) := by decide +kernel
theorem dX6_lift_72 : decode cX6_lift 72 = .ok (.iadd, 1) := by decide +kernel
theorem dX6_lift_73 : decode cX6_lift 73 = .ok (.invokestatic 162, 3) := by decide +kernel
theorem dX6_lift_76 : decode cX6_lift 76 = .ok (.ireturn, 1) := by decide +kernel
theorem dX6_run_0 : decode cX6_run 0 = .ok (.aload_n 0, 1) := by decide +kernel
theorem dX6_run_1 : decode cX6_run 1 = .ok (.iload_n 1, 1) := by decide +kernel
theorem dX6_run_2 : decode cX6_run 2 = .ok (.invokevirtual 94, 3) := by decide +kernel
theorem dX6_run_5 : decode cX6_run 5 = .ok (.ifCond .eq 14, 3) := by decide +kernel
theorem dX6_run_8 : decode cX6_run 8 = .ok (.iload_n 2, 1) := by decide +kernel
theorem dX6_run_9 : decode cX6_run 9 = .ok (.iconst 1, 1) := by decide +kernel
theorem dX6_run_10 : decode cX6_run 10 = .ok (.if_icmp .lt 9, 3) := by decide +kernel
theorem dX6_run_13 : decode cX6_run 13 = .ok (.iload_n 2, 1) := by decide +kernel
theorem dX6_run_14 : decode cX6_run 14 = .ok (.bipush 60, 2) := by decide +kernel
theorem dX6_run_16 : decode cX6_run 16 = .ok (.if_icmp .le 6, 3) := by decide +kernel
theorem dX6_run_19 : decode cX6_run 19 = .ok (.ldc 80, 2) := by decide +kernel
theorem dX6_run_21 : decode cX6_run 21 = .ok (.ireturn, 1) := by decide +kernel
theorem dX6_run_22 : decode cX6_run 22 = .ok (.iconst 0, 1) := by decide +kernel
theorem dX6_run_23 : decode cX6_run 23 = .ok (.istore_n 3, 1) := by decide +kernel
theorem dX6_run_24 : decode cX6_run 24 = .ok (.iconst 0, 1) := by decide +kernel
theorem dX6_run_25 : decode cX6_run 25 = .ok (.istore 4, 2) := by decide +kernel
theorem dX6_run_27 : decode cX6_run 27 = .ok (.iload 4, 2) := by decide +kernel
theorem dX6_run_29 : decode cX6_run 29 = .ok (.iload_n 2, 1) := by decide +kernel
theorem dX6_run_30 : decode cX6_run 30 = .ok (.if_icmp .ge 29, 3) := by decide +kernel
theorem dX6_run_33 : decode cX6_run 33 = .ok (.iload_n 3, 1) := by decide +kernel
theorem dX6_run_34 : decode cX6_run 34 = .ok (.aload_n 0, 1) := by decide +kernel
theorem dX6_run_35 : decode cX6_run 35 = .ok (.aload_n 0, 1) := by decide +kernel
theorem dX6_run_36 : decode cX6_run 36 = .ok (.getfield 14, 3) := by decide +kernel
theorem dX6_run_39 : decode cX6_run 39 = .ok (.aload_n 0, 1) := by decide +kernel
theorem dX6_run_40 : decode cX6_run 40 = .ok (.getfield 14, 3) := by decide +kernel
theorem dX6_run_43 : decode cX6_run 43 = .ok (.getfield 85, 3) := by decide +kernel
theorem dX6_run_46 : decode cX6_run 46 = .ok (.iload_n 1, 1) := by decide +kernel
theorem dX6_run_47 : decode cX6_run 47 = .ok (.aaload, 1) := by decide +kernel
theorem dX6_run_48 : decode cX6_run 48 = .ok (.invokevirtual 166, 3) := by decide +kernel
theorem dX6_run_51 : decode cX6_run 51 = .ok (.iadd, 1) := by decide +kernel
theorem dX6_run_52 : decode cX6_run 52 = .ok (.istore_n 3, 1) := by decide +kernel
theorem dX6_run_53 : decode cX6_run 53 = .ok (.iinc 4 1, 3) := by decide +kernel
theorem dX6_run_56 : decode cX6_run 56 = .ok (.goto (-29), 3) := by decide +kernel
theorem dX6_run_59 : decode cX6_run 59 = .ok (.iload_n 3, 1) := by decide +kernel
theorem dX6_run_60 : decode cX6_run 60 = .ok (.ireturn, 1) := by decide +kernel
theorem dX6_crest_0 : decode cX6_crest 0 = .ok (.aload_n 0, 1) := by decide +kernel
theorem dX6_crest_1 : decode cX6_crest 1 = .ok (.iload_n 1, 1) := by decide +kernel
theorem dX6_crest_2 : decode cX6_crest 2 = .ok (.invokevirtual 94, 3) := by decide +kernel
theorem dX6_crest_5 : decode cX6_crest 5 = .ok (.ifCond .eq 7, 3) := by decide +kernel
theorem dX6_crest_8 : decode cX6_crest 8 = .ok (.iload_n 2, 1) := by decide +kernel
theorem dX6_crest_9 : decode cX6_crest 9 = .ok (.ifCond .ge 6, 3) := by decide +kernel
theorem dX6_crest_12 : decode cX6_crest 12 = .ok (.ldc 80, 2) := by decide +kernel
theorem dX6_crest_14 : decode cX6_crest 14 = .ok (.ireturn, 1) := by decide +kernel
theorem dX6_crest_15 : decode cX6_crest 15 = .ok (.aload_n 0, 1) := by decide +kernel
theorem dX6_crest_16 : decode cX6_crest 16 = .ok (.getfield 14, 3) := by decide +kernel
theorem dX6_crest_19 : decode cX6_crest 19 = .ok (.getfield 85, 3) := by decide +kernel
theorem dX6_crest_22 : decode cX6_crest 22 = .ok (.iload_n 1, 1) := by decide +kernel
theorem dX6_crest_23 : decode cX6_crest 23 = .ok (.aaload, 1) := by decide +kernel
theorem dX6_crest_24 : decode cX6_crest 24 = .ok (.astore_n 3, 1) := by decide +kernel
theorem dX6_crest_25 : decode cX6_crest 25 = .ok (.iconst 0, 1) := by decide +kernel
theorem dX6_crest_26 : decode cX6_crest 26 = .ok (.istore 4, 2) := by decide +kernel
theorem dX6_crest_28 : decode cX6_crest 28 = .ok (.iconst 0, 1) := by decide +kernel
theorem dX6_crest_29 : decode cX6_crest 29 = .ok (.istore 5, 2) := by decide +kernel
theorem dX6_crest_31 : decode cX6_crest 31 = .ok (.iload 5, 2) := by decide +kernel
theorem dX6_crest_33 : decode cX6_crest 33 = .ok (.bipush 24, 2) := by decide +kernel
theorem dX6_crest_35 : decode cX6_crest 35 = .ok (.if_icmp .ge 30, 3) := by decide +kernel
theorem dX6_crest_38 : decode cX6_crest 38 = .ok (.aload_n 3, 1) := by decide +kernel
theorem dX6_crest_39 : decode cX6_crest 39 = .ok (.iload 5, 2) := by decide +kernel
theorem dX6_crest_41 : decode cX6_crest 41 = .ok (.invokevirtual 169, 3) := by decide +kernel
theorem dX6_crest_44 : decode cX6_crest 44 = .ok (.ifCond .eq 15, 3) := by decide +kernel
theorem dX6_crest_47 : decode cX6_crest 47 = .ok (.iload 4, 2) := by decide +kernel
theorem dX6_crest_49 : decode cX6_crest 49 = .ok (.iload_n 2, 1) := by decide +kernel
theorem dX6_crest_50 : decode cX6_crest 50 = .ok (.if_icmp .ne 6, 3) := by decide +kernel
theorem dX6_crest_53 : decode cX6_crest 53 = .ok (.iload 5, 2) := by decide +kernel
theorem dX6_crest_55 : decode cX6_crest 55 = .ok (.ireturn, 1) := by decide +kernel
theorem dX6_crest_56 : decode cX6_crest 56 = .ok (.iinc 4 1, 3) := by decide +kernel
theorem dX6_crest_59 : decode cX6_crest 59 = .ok (.iinc 5 1, 3) := by decide +kernel
theorem dX6_crest_62 : decode cX6_crest 62 = .ok (.goto (-31), 3) := by decide +kernel
theorem dX6_crest_65 : decode cX6_crest 65 = .ok (.ldc 172, 2) := by decide +kernel
theorem dX6_crest_67 : decode cX6_crest 67 = .ok (.ireturn, 1) := by decide +kernel
theorem dX6_apart_0 : decode cX6_apart 0 = .ok (.aload_n 0, 1) := by decide +kernel
theorem dX6_apart_1 : decode cX6_apart 1 = .ok (.iload_n 1, 1) := by decide +kernel
theorem dX6_apart_2 : decode cX6_apart 2 = .ok (.invokevirtual 94, 3) := by decide +kernel
theorem dX6_apart_5 : decode cX6_apart 5 = .ok (.ifCond .ne 6, 3) := by decide +kernel
theorem dX6_apart_8 : decode cX6_apart 8 = .ok (.ldc 80, 2) := by decide +kernel
theorem dX6_apart_10 : decode cX6_apart 10 = .ok (.ireturn, 1) := by decide +kernel
theorem dX6_apart_11 : decode cX6_apart 11 = .ok (.aload_n 0, 1) := by decide +kernel
theorem dX6_apart_12 : decode cX6_apart 12 = .ok (.getfield 14, 3) := by decide +kernel
theorem dX6_apart_15 : decode cX6_apart 15 = .ok (.getfield 85, 3) := by decide +kernel
theorem dX6_apart_18 : decode cX6_apart 18 = .ok (.iload_n 1, 1) := by decide +kernel
theorem dX6_apart_19 : decode cX6_apart 19 = .ok (.aaload, 1) := by decide +kernel
theorem dX6_apart_20 : decode cX6_apart 20 = .ok (.invokevirtual 113, 3) := by decide +kernel
theorem dX6_apart_23 : decode cX6_apart 23 = .ok (.istore_n 2, 1) := by decide +kernel
theorem dX6_apart_24 : decode cX6_apart 24 = .ok (.iload_n 2, 1) := by decide +kernel
theorem dX6_apart_25 : decode cX6_apart 25 = .ok (.ifCond .ne 8, 3) := by decide +kernel
theorem dX6_apart_28 : decode cX6_apart 28 = .ok (.ldc 172, 2) := by decide +kernel
theorem dX6_apart_30 : decode cX6_apart 30 = .ok (.goto 8, 3) := by decide +kernel
theorem dX6_apart_33 : decode cX6_apart 33 = .ok (.sipush 2400, 3) := by decide +kernel
theorem dX6_apart_36 : decode cX6_apart 36 = .ok (.iload_n 2, 1) := by decide +kernel
theorem dX6_apart_37 : decode cX6_apart 37 = .ok (.idiv, 1) := by decide +kernel
theorem dX6_apart_38 : decode cX6_apart 38 = .ok (.ireturn, 1) := by decide +kernel
theorem dX6_flat_0 : decode cX6_flat 0 = .ok (.aload_n 0, 1) := by decide +kernel
theorem dX6_flat_1 : decode cX6_flat 1 = .ok (.iload_n 1, 1) := by decide +kernel
theorem dX6_flat_2 : decode cX6_flat 2 = .ok (.invokevirtual 94, 3) := by decide +kernel
theorem dX6_flat_5 : decode cX6_flat 5 = .ok (.ifCond .eq 13, 3) := by decide +kernel
theorem dX6_flat_8 : decode cX6_flat 8 = .ok (.iload_n 2, 1) := by decide +kernel
theorem dX6_flat_9 : decode cX6_flat 9 = .ok (.ifCond .lt 9, 3) := by decide +kernel
theorem dX6_flat_12 : decode cX6_flat 12 = .ok (.iload_n 2, 1) := by decide +kernel
theorem dX6_flat_13 : decode cX6_flat 13 = .ok (.bipush 99, 2) := by decide +kernel
theorem dX6_flat_15 : decode cX6_flat 15 = .ok (.if_icmp .le 6, 3) := by decide +kernel
theorem dX6_flat_18 : decode cX6_flat 18 = .ok (.ldc 80, 2) := by decide +kernel
theorem dX6_flat_20 : decode cX6_flat 20 = .ok (.ireturn, 1) := by decide +kernel
theorem dX6_flat_21 : decode cX6_flat 21 = .ok (.aload_n 0, 1) := by decide +kernel
theorem dX6_flat_22 : decode cX6_flat 22 = .ok (.getfield 14, 3) := by decide +kernel
theorem dX6_flat_25 : decode cX6_flat 25 = .ok (.getfield 85, 3) := by decide +kernel
theorem dX6_flat_28 : decode cX6_flat 28 = .ok (.iload_n 1, 1) := by decide +kernel
theorem dX6_flat_29 : decode cX6_flat 29 = .ok (.aaload, 1) := by decide +kernel
theorem dX6_flat_30 : decode cX6_flat 30 = .ok (.astore_n 3, 1) := by decide +kernel
theorem dX6_flat_31 : decode cX6_flat 31 = .ok (.iconst 0, 1) := by decide +kernel
theorem dX6_flat_32 : decode cX6_flat 32 = .ok (.istore 4, 2) := by decide +kernel
theorem dX6_flat_34 : decode cX6_flat 34 = .ok (.iload 4, 2) := by decide +kernel
theorem dX6_flat_36 : decode cX6_flat 36 = .ok (.bipush 24, 2) := by decide +kernel
theorem dX6_flat_38 : decode cX6_flat 38 = .ok (.if_icmp .ge 36, 3) := by decide +kernel
theorem dX6_flat_41 : decode cX6_flat 41 = .ok (.aload_n 3, 1) := by decide +kernel
theorem dX6_flat_42 : decode cX6_flat 42 = .ok (.getfield 149, 3) := by decide +kernel
theorem dX6_flat_45 : decode cX6_flat 45 = .ok (.iload 4, 2) := by decide +kernel
theorem dX6_flat_47 : decode cX6_flat 47 = .ok (.iaload, 1) := by decide +kernel
theorem dX6_flat_48 : decode cX6_flat 48 = .ok (.aload_n 3, 1) := by decide +kernel
theorem dX6_flat_49 : decode cX6_flat 49 = .ok (.getfield 149, 3) := by decide +kernel
theorem dX6_flat_52 : decode cX6_flat 52 = .ok (.iload 4, 2) := by decide +kernel
theorem dX6_flat_54 : decode cX6_flat 54 = .ok (.invokestatic 173, 3) := by decide +kernel
theorem dX6_flat_57 : decode cX6_flat 57 = .ok (.iaload, 1) := by decide +kernel
theorem dX6_flat_58 : decode cX6_flat 58 = .ok (.isub, 1) := by decide +kernel
theorem dX6_flat_59 : decode cX6_flat 59 = .ok (.invokestatic 176, 3) := by decide +kernel
theorem dX6_flat_62 : decode cX6_flat 62 = .ok (.iload_n 2, 1) := by decide +kernel
theorem dX6_flat_63 : decode cX6_flat 63 = .ok (.if_icmp .le 5, 3) := by decide +kernel
theorem dX6_flat_66 : decode cX6_flat 66 = .ok (.iconst 0, 1) := by decide +kernel
theorem dX6_flat_67 : decode cX6_flat 67 = .ok (.ireturn, 1) := by decide +kernel
theorem dX6_flat_68 : decode cX6_flat 68 = .ok (.iinc 4 1, 3) := by decide +kernel
theorem dX6_flat_71 : decode cX6_flat 71 = .ok (.goto (-37), 3) := by decide +kernel
theorem dX6_flat_74 : decode cX6_flat 74 = .ok (.iconst 1, 1) := by decide +kernel
theorem dX6_flat_75 : decode cX6_flat 75 = .ok (.ireturn, 1) := by decide +kernel
theorem dX6_soon_0 : decode cX6_soon 0 = .ok (.aload_n 0, 1) := by decide +kernel
theorem dX6_soon_1 : decode cX6_soon 1 = .ok (.iload_n 1, 1) := by decide +kernel
theorem dX6_soon_2 : decode cX6_soon 2 = .ok (.invokevirtual 94, 3) := by decide +kernel
theorem dX6_soon_5 : decode cX6_soon 5 = .ok (.ifCond .eq 13, 3) := by decide +kernel
theorem dX6_soon_8 : decode cX6_soon 8 = .ok (.iload_n 2, 1) := by decide +kernel
theorem dX6_soon_9 : decode cX6_soon 9 = .ok (.ifCond .lt 9, 3) := by decide +kernel
theorem dX6_soon_12 : decode cX6_soon 12 = .ok (.iload_n 2, 1) := by decide +kernel
theorem dX6_soon_13 : decode cX6_soon 13 = .ok (.bipush 24, 2) := by decide +kernel
theorem dX6_soon_15 : decode cX6_soon 15 = .ok (.if_icmp .le 6, 3) := by decide +kernel
theorem dX6_soon_18 : decode cX6_soon 18 = .ok (.ldc 80, 2) := by decide +kernel
theorem dX6_soon_20 : decode cX6_soon 20 = .ok (.ireturn, 1) := by decide +kernel
theorem dX6_soon_21 : decode cX6_soon 21 = .ok (.aload_n 0, 1) := by decide +kernel
theorem dX6_soon_22 : decode cX6_soon 22 = .ok (.aload_n 0, 1) := by decide +kernel
theorem dX6_soon_23 : decode cX6_soon 23 = .ok (.getfield 14, 3) := by decide +kernel
theorem dX6_soon_26 : decode cX6_soon 26 = .ok (.iload_n 1, 1) := by decide +kernel
theorem dX6_soon_27 : decode cX6_soon 27 = .ok (.invokevirtual 181, 3) := by decide +kernel
theorem dX6_soon_30 : decode cX6_soon 30 = .ok (.astore_n 3, 1) := by decide +kernel
theorem dX6_soon_31 : decode cX6_soon 31 = .ok (.iconst 0, 1) := by decide +kernel
theorem dX6_soon_32 : decode cX6_soon 32 = .ok (.istore 4, 2) := by decide +kernel
theorem dX6_soon_34 : decode cX6_soon 34 = .ok (.iload 4, 2) := by decide +kernel
theorem dX6_soon_36 : decode cX6_soon 36 = .ok (.bipush 100, 2) := by decide +kernel
theorem dX6_soon_38 : decode cX6_soon 38 = .ok (.if_icmp .gt 30, 3) := by decide +kernel
theorem dX6_soon_41 : decode cX6_soon 41 = .ok (.aload_n 3, 1) := by decide +kernel
theorem dX6_soon_42 : decode cX6_soon 42 = .ok (.invokevirtual 113, 3) := by decide +kernel
theorem dX6_soon_45 : decode cX6_soon 45 = .ok (.iload_n 2, 1) := by decide +kernel
theorem dX6_soon_46 : decode cX6_soon 46 = .ok (.if_icmp .lt 6, 3) := by decide +kernel
theorem dX6_soon_49 : decode cX6_soon 49 = .ok (.iload 4, 2) := by decide +kernel
theorem dX6_soon_51 : decode cX6_soon 51 = .ok (.ireturn, 1) := by decide +kernel
theorem dX6_soon_52 : decode cX6_soon 52 = .ok (.aload_n 0, 1) := by decide +kernel
theorem dX6_soon_53 : decode cX6_soon 53 = .ok (.aload_n 0, 1) := by decide +kernel
theorem dX6_soon_54 : decode cX6_soon 54 = .ok (.getfield 25, 3) := by decide +kernel
theorem dX6_soon_57 : decode cX6_soon 57 = .ok (.aload_n 3, 1) := by decide +kernel
theorem dX6_soon_58 : decode cX6_soon 58 = .ok (.invokevirtual 166, 3) := by decide +kernel
theorem dX6_soon_61 : decode cX6_soon 61 = .ok (.pop, 1) := by decide +kernel
theorem dX6_soon_62 : decode cX6_soon 62 = .ok (.iinc 4 1, 3) := by decide +kernel
theorem dX6_soon_65 : decode cX6_soon 65 = .ok (.goto (-31), 3) := by decide +kernel
theorem dX6_soon_68 : decode cX6_soon 68 = .ok (.ldc 172, 2) := by decide +kernel
theorem dX6_soon_70 : decode cX6_soon 70 = .ok (.ireturn, 1) := by decide +kernel
theorem dX6_period_0 : decode cX6_period 0 = .ok (.aload_n 0, 1) := by decide +kernel
theorem dX6_period_1 : decode cX6_period 1 = .ok (.iload_n 1, 1) := by decide +kernel
theorem dX6_period_2 : decode cX6_period 2 = .ok (.invokevirtual 94, 3) := by decide +kernel
theorem dX6_period_5 : decode cX6_period 5 = .ok (.ifCond .ne 6, 3) := by decide +kernel
theorem dX6_period_8 : decode cX6_period 8 = .ok (.ldc 80, 2) := by decide +kernel
theorem dX6_period_10 : decode cX6_period 10 = .ok (.ireturn, 1) := by decide +kernel
theorem dX6_period_11 : decode cX6_period 11 = .ok (.aload_n 0, 1) := by decide +kernel
theorem dX6_period_12 : decode cX6_period 12 = .ok (.aload_n 0, 1) := by decide +kernel
theorem dX6_period_13 : decode cX6_period 13 = .ok (.getfield 14, 3) := by decide +kernel
theorem dX6_period_16 : decode cX6_period 16 = .ok (.iload_n 1, 1) := by decide +kernel
theorem dX6_period_17 : decode cX6_period 17 = .ok (.invokevirtual 181, 3) := by decide +kernel
theorem dX6_period_20 : decode cX6_period 20 = .ok (.astore_n 2, 1) := by decide +kernel
theorem dX6_period_21 : decode cX6_period 21 = .ok (.iconst 1, 1) := by decide +kernel
theorem dX6_period_22 : decode cX6_period 22 = .ok (.istore_n 3, 1) := by decide +kernel
theorem dX6_period_23 : decode cX6_period 23 = .ok (.iload_n 3, 1) := by decide +kernel
theorem dX6_period_24 : decode cX6_period 24 = .ok (.bipush 100, 2) := by decide +kernel
theorem dX6_period_26 : decode cX6_period 26 = .ok (.if_icmp .gt 38, 3) := by decide +kernel
theorem dX6_period_29 : decode cX6_period 29 = .ok (.aload_n 0, 1) := by decide +kernel
theorem dX6_period_30 : decode cX6_period 30 = .ok (.aload_n 0, 1) := by decide +kernel
theorem dX6_period_31 : decode cX6_period 31 = .ok (.getfield 25, 3) := by decide +kernel
theorem dX6_period_34 : decode cX6_period 34 = .ok (.aload_n 2, 1) := by decide +kernel
theorem dX6_period_35 : decode cX6_period 35 = .ok (.invokevirtual 166, 3) := by decide +kernel
theorem dX6_period_38 : decode cX6_period 38 = .ok (.pop, 1) := by decide +kernel
theorem dX6_period_39 : decode cX6_period 39 = .ok (.aload_n 2, 1) := by decide +kernel
theorem dX6_period_40 : decode cX6_period 40 = .ok (.aload_n 0, 1) := by decide +kernel
theorem dX6_period_41 : decode cX6_period 41 = .ok (.getfield 14, 3) := by decide +kernel
theorem dX6_period_44 : decode cX6_period 44 = .ok (.getfield 85, 3) := by decide +kernel
theorem dX6_period_47 : decode cX6_period 47 = .ok (.iload_n 1, 1) := by decide +kernel
theorem dX6_period_48 : decode cX6_period 48 = .ok (.aaload, 1) := by decide +kernel
theorem dX6_period_49 : decode cX6_period 49 = .ok (.iconst 0, 1) := by decide +kernel
theorem dX6_period_50 : decode cX6_period 50 = .ok (.invokevirtual 185, 3) := by decide +kernel
theorem dX6_period_53 : decode cX6_period 53 = .ok (.ifCond .ne 5, 3) := by decide +kernel
theorem dX6_period_56 : decode cX6_period 56 = .ok (.iload_n 3, 1) := by decide +kernel
theorem dX6_period_57 : decode cX6_period 57 = .ok (.ireturn, 1) := by decide +kernel
theorem dX6_period_58 : decode cX6_period 58 = .ok (.iinc 3 1, 3) := by decide +kernel
theorem dX6_period_61 : decode cX6_period 61 = .ok (.goto (-38), 3) := by decide +kernel
theorem dX6_period_64 : decode cX6_period 64 = .ok (.ldc 172, 2) := by decide +kernel
theorem dX6_period_66 : decode cX6_period 66 = .ok (.ireturn, 1) := by decide +kernel
theorem dX6_foot_0 : decode cX6_foot 0 = .ok (.aload_n 0, 1) := by decide +kernel
theorem dX6_foot_1 : decode cX6_foot 1 = .ok (.iload_n 1, 1) := by decide +kernel
theorem dX6_foot_2 : decode cX6_foot 2 = .ok (.invokevirtual 94, 3) := by decide +kernel
theorem dX6_foot_5 : decode cX6_foot 5 = .ok (.ifCond .eq 20, 3) := by decide +kernel
theorem dX6_foot_8 : decode cX6_foot 8 = .ok (.iload_n 2, 1) := by decide +kernel
theorem dX6_foot_9 : decode cX6_foot 9 = .ok (.invokestatic 146, 3) := by decide +kernel
theorem dX6_foot_12 : decode cX6_foot 12 = .ok (.ifCond .eq 13, 3) := by decide +kernel
theorem dX6_foot_15 : decode cX6_foot 15 = .ok (.iload_n 3, 1) := by decide +kernel
theorem dX6_foot_16 : decode cX6_foot 16 = .ok (.ifCond .lt 9, 3) := by decide +kernel
theorem dX6_foot_19 : decode cX6_foot 19 = .ok (.iload_n 3, 1) := by decide +kernel
theorem dX6_foot_20 : decode cX6_foot 20 = .ok (.bipush 99, 2) := by decide +kernel
theorem dX6_foot_22 : decode cX6_foot 22 = .ok (.if_icmp .le 6, 3) := by decide +kernel
theorem dX6_foot_25 : decode cX6_foot 25 = .ok (.ldc 80, 2) := by decide +kernel
theorem dX6_foot_27 : decode cX6_foot 27 = .ok (.ireturn, 1) := by decide +kernel
theorem dX6_foot_28 : decode cX6_foot 28 = .ok (.aload_n 0, 1) := by decide +kernel
theorem dX6_foot_29 : decode cX6_foot 29 = .ok (.getfield 14, 3) := by decide +kernel
theorem dX6_foot_32 : decode cX6_foot 32 = .ok (.getfield 85, 3) := by decide +kernel
theorem dX6_foot_35 : decode cX6_foot 35 = .ok (.iload_n 1, 1) := by decide +kernel
theorem dX6_foot_36 : decode cX6_foot 36 = .ok (.aaload, 1) := by decide +kernel
theorem dX6_foot_37 : decode cX6_foot 37 = .ok (.astore 4, 2) := by decide +kernel
theorem dX6_foot_39 : decode cX6_foot 39 = .ok (.iload_n 3, 1) := by decide +kernel
theorem dX6_foot_40 : decode cX6_foot 40 = .ok (.aload 4, 2) := by decide +kernel
theorem dX6_foot_42 : decode cX6_foot 42 = .ok (.getfield 149, 3) := by decide +kernel
theorem dX6_foot_45 : decode cX6_foot 45 = .ok (.iload_n 2, 1) := by decide +kernel
theorem dX6_foot_46 : decode cX6_foot 46 = .ok (.iaload, 1) := by decide +kernel
theorem dX6_foot_47 : decode cX6_foot 47 = .ok (.invokestatic 189, 3) := by decide +kernel
theorem dX6_foot_50 : decode cX6_foot 50 = .ok (.istore 5, 2) := by decide +kernel
theorem dX6_foot_52 : decode cX6_foot 52 = .ok (.aload 4, 2) := by decide +kernel
theorem dX6_foot_54 : decode cX6_foot 54 = .ok (.getfield 149, 3) := by decide +kernel
theorem dX6_foot_57 : decode cX6_foot 57 = .ok (.iload_n 2, 1) := by decide +kernel
theorem dX6_foot_58 : decode cX6_foot 58 = .ok (.dup2, 1) := by decide +kernel
theorem dX6_foot_59 : decode cX6_foot 59 = .ok (.iaload, 1) := by decide +kernel
theorem dX6_foot_60 : decode cX6_foot 60 = .ok (.iload 5, 2) := by decide +kernel
theorem dX6_foot_62 : decode cX6_foot 62 = .ok (.isub, 1) := by decide +kernel
theorem dX6_foot_63 : decode cX6_foot 63 = .ok (.iastore, 1) := by decide +kernel
theorem dX6_foot_64 : decode cX6_foot 64 = .ok (.aload 4, 2) := by decide +kernel
theorem dX6_foot_66 : decode cX6_foot 66 = .ok (.getfield 149, 3) := by decide +kernel
theorem dX6_foot_69 : decode cX6_foot 69 = .ok (.iload_n 2, 1) := by decide +kernel
theorem dX6_foot_70 : decode cX6_foot 70 = .ok (.invokestatic 173, 3) := by decide +kernel
theorem dX6_foot_73 : decode cX6_foot 73 = .ok (.dup2, 1) := by decide +kernel
theorem dX6_foot_74 : decode cX6_foot 74 = .ok (.iaload, 1) := by decide +kernel
theorem dX6_foot_75 : decode cX6_foot 75 = .ok (.iload 5, 2) := by decide +kernel
theorem dX6_foot_77 : decode cX6_foot 77 = .ok (.iload 5, 2) := by decide +kernel
theorem dX6_foot_79 : decode cX6_foot 79 = .ok (.iconst 2, 1) := by decide +kernel
theorem dX6_foot_80 : decode cX6_foot 80 = .ok (.idiv, 1) := by decide +kernel
theorem dX6_foot_81 : decode cX6_foot 81 = .ok (.isub, 1) := by decide +kernel
theorem dX6_foot_82 : decode cX6_foot 82 = .ok (.iadd, 1) := by decide +kernel
theorem dX6_foot_83 : decode cX6_foot 83 = .ok (.iastore, 1) := by decide +kernel
theorem dX6_foot_84 : decode cX6_foot 84 = .ok (.aload 4, 2) := by decide +kernel
theorem dX6_foot_86 : decode cX6_foot 86 = .ok (.getfield 149, 3) := by decide +kernel
theorem dX6_foot_89 : decode cX6_foot 89 = .ok (.iload_n 2, 1) := by decide +kernel
theorem dX6_foot_90 : decode cX6_foot 90 = .ok (.invokestatic 193, 3) := by decide +kernel
theorem dX6_foot_93 : decode cX6_foot 93 = .ok (.dup2, 1) := by decide +kernel
theorem dX6_foot_94 : decode cX6_foot 94 = .ok (.iaload, 1) := by decide +kernel
theorem dX6_foot_95 : decode cX6_foot 95 = .ok (.iload 5, 2) := by decide +kernel
theorem dX6_foot_97 : decode cX6_foot 97 = .ok (.iconst 2, 1) := by decide +kernel
theorem dX6_foot_98 : decode cX6_foot 98 = .ok (.idiv, 1) := by decide +kernel
theorem dX6_foot_99 : decode cX6_foot 99 = .ok (.iadd, 1) := by decide +kernel
theorem dX6_foot_100 : decode cX6_foot 100 = .ok (.iastore, 1) := by decide +kernel
theorem dX6_foot_101 : decode cX6_foot 101 = .ok (.iload 5, 2) := by decide +kernel
theorem dX6_foot_103 : decode cX6_foot 103 = .ok (.ireturn, 1) := by decide +kernel
theorem dX6_worm_0 : decode cX6_worm 0 = .ok (.aload_n 0, 1) := by decide +kernel
theorem dX6_worm_1 : decode cX6_worm 1 = .ok (.iload_n 1, 1) := by decide +kernel
theorem dX6_worm_2 : decode cX6_worm 2 = .ok (.invokevirtual 94, 3) := by decide +kernel
theorem dX6_worm_5 : decode cX6_worm 5 = .ok (.ifCond .eq 10, 3) := by decide +kernel
theorem dX6_worm_8 : decode cX6_worm 8 = .ok (.iload_n 2, 1) := by decide +kernel
theorem dX6_worm_9 : decode cX6_worm 9 = .ok (.invokestatic 146, 3) := by decide +kernel
theorem dX6_worm_12 : decode cX6_worm 12 = .ok (.ifCond .ne 6, 3) := by decide +kernel
theorem dX6_worm_15 : decode cX6_worm 15 = .ok (.ldc 80, 2) := by decide +kernel
theorem dX6_worm_17 : decode cX6_worm 17 = .ok (.ireturn, 1) := by decide +kernel
theorem dX6_worm_18 : decode cX6_worm 18 = .ok (.aload_n 0, 1) := by decide +kernel
theorem dX6_worm_19 : decode cX6_worm 19 = .ok (.getfield 14, 3) := by decide +kernel
theorem dX6_worm_22 : decode cX6_worm 22 = .ok (.getfield 85, 3) := by decide +kernel
theorem dX6_worm_25 : decode cX6_worm 25 = .ok (.iload_n 1, 1) := by decide +kernel
theorem dX6_worm_26 : decode cX6_worm 26 = .ok (.aaload, 1) := by decide +kernel
theorem dX6_worm_27 : decode cX6_worm 27 = .ok (.astore_n 3, 1) := by decide +kernel
theorem dX6_worm_28 : decode cX6_worm 28 = .ok (.iload_n 2, 1) := by decide +kernel
theorem dX6_worm_29 : decode cX6_worm 29 = .ok (.invokestatic 173, 3) := by decide +kernel
theorem dX6_worm_32 : decode cX6_worm 32 = .ok (.istore 4, 2) := by decide +kernel
theorem dX6_worm_34 : decode cX6_worm 34 = .ok (.iload_n 2, 1) := by decide +kernel
theorem dX6_worm_35 : decode cX6_worm 35 = .ok (.invokestatic 193, 3) := by decide +kernel
theorem dX6_worm_38 : decode cX6_worm 38 = .ok (.istore 5, 2) := by decide +kernel
theorem dX6_worm_40 : decode cX6_worm 40 = .ok (.aload_n 3, 1) := by decide +kernel
theorem dX6_worm_41 : decode cX6_worm 41 = .ok (.getfield 149, 3) := by decide +kernel
theorem dX6_worm_44 : decode cX6_worm 44 = .ok (.iload 5, 2) := by decide +kernel
theorem dX6_worm_46 : decode cX6_worm 46 = .ok (.iaload, 1) := by decide +kernel
theorem dX6_worm_47 : decode cX6_worm 47 = .ok (.aload_n 3, 1) := by decide +kernel
theorem dX6_worm_48 : decode cX6_worm 48 = .ok (.getfield 149, 3) := by decide +kernel
theorem dX6_worm_51 : decode cX6_worm 51 = .ok (.iload_n 2, 1) := by decide +kernel
theorem dX6_worm_52 : decode cX6_worm 52 = .ok (.iaload, 1) := by decide +kernel
theorem dX6_worm_53 : decode cX6_worm 53 = .ok (.iadd, 1) := by decide +kernel
theorem dX6_worm_54 : decode cX6_worm 54 = .ok (.aload_n 3, 1) := by decide +kernel
theorem dX6_worm_55 : decode cX6_worm 55 = .ok (.getfield 149, 3) := by decide +kernel
theorem dX6_worm_58 : decode cX6_worm 58 = .ok (.iload 4, 2) := by decide +kernel
theorem dX6_worm_60 : decode cX6_worm 60 = .ok (.iaload, 1) := by decide +kernel
theorem dX6_worm_61 : decode cX6_worm 61 = .ok (.iadd, 1) := by decide +kernel
theorem dX6_worm_62 : decode cX6_worm 62 = .ok (.istore 6, 2) := by decide +kernel
theorem dX6_worm_64 : decode cX6_worm 64 = .ok (.aload_n 3, 1) := by decide +kernel
theorem dX6_worm_65 : decode cX6_worm 65 = .ok (.getfield 149, 3) := by decide +kernel
theorem dX6_worm_68 : decode cX6_worm 68 = .ok (.iload 5, 2) := by decide +kernel
theorem dX6_worm_70 : decode cX6_worm 70 = .ok (.iload 6, 2) := by decide +kernel
theorem dX6_worm_72 : decode cX6_worm 72 = .ok (.iconst 3, 1) := by decide +kernel
theorem dX6_worm_73 : decode cX6_worm 73 = .ok (.idiv, 1) := by decide +kernel
theorem dX6_worm_74 : decode cX6_worm 74 = .ok (.iastore, 1) := by decide +kernel
theorem dX6_worm_75 : decode cX6_worm 75 = .ok (.aload_n 3, 1) := by decide +kernel
theorem dX6_worm_76 : decode cX6_worm 76 = .ok (.getfield 149, 3) := by decide +kernel
theorem dX6_worm_79 : decode cX6_worm 79 = .ok (.iload 4, 2) := by decide +kernel
theorem dX6_worm_81 : decode cX6_worm 81 = .ok (.iload 6, 2) := by decide +kernel
theorem dX6_worm_83 : decode cX6_worm 83 = .ok (.iconst 3, 1) := by decide +kernel
theorem dX6_worm_84 : decode cX6_worm 84 = .ok (.idiv, 1) := by decide +kernel
theorem dX6_worm_85 : decode cX6_worm 85 = .ok (.iastore, 1) := by decide +kernel
theorem dX6_worm_86 : decode cX6_worm 86 = .ok (.aload_n 3, 1) := by decide +kernel
theorem dX6_worm_87 : decode cX6_worm 87 = .ok (.getfield 149, 3) := by decide +kernel
theorem dX6_worm_90 : decode cX6_worm 90 = .ok (.iload_n 2, 1) := by decide +kernel
theorem dX6_worm_91 : decode cX6_worm 91 = .ok (.iload 6, 2) := by decide +kernel
theorem dX6_worm_93 : decode cX6_worm 93 = .ok (.iload 6, 2) := by decide +kernel
theorem dX6_worm_95 : decode cX6_worm 95 = .ok (.iconst 3, 1) := by decide +kernel
theorem dX6_worm_96 : decode cX6_worm 96 = .ok (.idiv, 1) := by decide +kernel
theorem dX6_worm_97 : decode cX6_worm 97 = .ok (.iconst 2, 1) := by decide +kernel
theorem dX6_worm_98 : decode cX6_worm 98 = .ok (.imul, 1) := by decide +kernel
theorem dX6_worm_99 : decode cX6_worm 99 = .ok (.isub, 1) := by decide +kernel
theorem dX6_worm_100 : decode cX6_worm 100 = .ok (.iastore, 1) := by decide +kernel
theorem dX6_worm_101 : decode cX6_worm 101 = .ok (.aload_n 3, 1) := by decide +kernel
theorem dX6_worm_102 : decode cX6_worm 102 = .ok (.getfield 149, 3) := by decide +kernel
theorem dX6_worm_105 : decode cX6_worm 105 = .ok (.iload_n 2, 1) := by decide +kernel
theorem dX6_worm_106 : decode cX6_worm 106 = .ok (.iaload, 1) := by decide +kernel
theorem dX6_worm_107 : decode cX6_worm 107 = .ok (.ireturn, 1) := by decide +kernel
theorem dX6_press_0 : decode cX6_press 0 = .ok (.aload_n 0, 1) := by decide +kernel
theorem dX6_press_1 : decode cX6_press 1 = .ok (.iload_n 1, 1) := by decide +kernel
theorem dX6_press_2 : decode cX6_press 2 = .ok (.invokevirtual 94, 3) := by decide +kernel
theorem dX6_press_5 : decode cX6_press 5 = .ok (.ifCond .eq 13, 3) := by decide +kernel
theorem dX6_press_8 : decode cX6_press 8 = .ok (.iload_n 2, 1) := by decide +kernel
theorem dX6_press_9 : decode cX6_press 9 = .ok (.ifCond .lt 9, 3) := by decide +kernel
theorem dX6_press_12 : decode cX6_press 12 = .ok (.iload_n 2, 1) := by decide +kernel
theorem dX6_press_13 : decode cX6_press 13 = .ok (.bipush 100, 2) := by decide +kernel
theorem dX6_press_15 : decode cX6_press 15 = .ok (.if_icmp .le 6, 3) := by decide +kernel
theorem dX6_press_18 : decode cX6_press 18 = .ok (.ldc 80, 2) := by decide +kernel
theorem dX6_press_20 : decode cX6_press 20 = .ok (.ireturn, 1) := by decide +kernel
theorem dX6_press_21 : decode cX6_press 21 = .ok (.aload_n 0, 1) := by decide +kernel
theorem dX6_press_22 : decode cX6_press 22 = .ok (.getfield 14, 3) := by decide +kernel
theorem dX6_press_25 : decode cX6_press 25 = .ok (.getfield 85, 3) := by decide +kernel
theorem dX6_press_28 : decode cX6_press 28 = .ok (.iload_n 1, 1) := by decide +kernel
theorem dX6_press_29 : decode cX6_press 29 = .ok (.aaload, 1) := by decide +kernel
theorem dX6_press_30 : decode cX6_press 30 = .ok (.astore_n 3, 1) := by decide +kernel
theorem dX6_press_31 : decode cX6_press 31 = .ok (.aload_n 3, 1) := by decide +kernel
theorem dX6_press_32 : decode cX6_press 32 = .ok (.invokevirtual 103, 3) := by decide +kernel
theorem dX6_press_35 : decode cX6_press 35 = .ok (.istore 4, 2) := by decide +kernel
theorem dX6_press_37 : decode cX6_press 37 = .ok (.iconst 0, 1) := by decide +kernel
theorem dX6_press_38 : decode cX6_press 38 = .ok (.istore 5, 2) := by decide +kernel
theorem dX6_press_40 : decode cX6_press 40 = .ok (.iload 5, 2) := by decide +kernel
theorem dX6_press_42 : decode cX6_press 42 = .ok (.bipush 24, 2) := by decide +kernel
theorem dX6_press_44 : decode cX6_press 44 = .ok (.if_icmp .ge 28, 3) := by decide +kernel
theorem dX6_press_47 : decode cX6_press 47 = .ok (.aload_n 3, 1) := by decide +kernel
theorem dX6_press_48 : decode cX6_press 48 = .ok (.getfield 149, 3) := by decide +kernel
theorem dX6_press_51 : decode cX6_press 51 = .ok (.iload 5, 2) := by decide +kernel
theorem dX6_press_53 : decode cX6_press 53 = .ok (.aload_n 3, 1) := by decide +kernel
theorem dX6_press_54 : decode cX6_press 54 = .ok (.getfield 149, 3) := by decide +kernel
theorem dX6_press_57 : decode cX6_press 57 = .ok (.iload 5, 2) := by decide +kernel
theorem dX6_press_59 : decode cX6_press 59 = .ok (.iaload, 1) := by decide +kernel
theorem dX6_press_60 : decode cX6_press 60 = .ok (.iload_n 2, 1) := by decide +kernel
theorem dX6_press_61 : decode cX6_press 61 = .ok (.imul, 1) := by decide +kernel
theorem dX6_press_62 : decode cX6_press 62 = .ok (.bipush 100, 2) := by decide +kernel
theorem dX6_press_64 : decode cX6_press 64 = .ok (.idiv, 1) := by decide +kernel
theorem dX6_press_65 : decode cX6_press 65 = .ok (.iastore, 1) := by decide +kernel
theorem dX6_press_66 : decode cX6_press 66 = .ok (.iinc 5 1, 3) := by decide +kernel
theorem dX6_press_69 : decode cX6_press 69 = .ok (.goto (-29), 3) := by decide +kernel
theorem dX6_press_72 : decode cX6_press 72 = .ok (.iload 4, 2) := by decide +kernel
theorem dX6_press_74 : decode cX6_press 74 = .ok (.aload_n 3, 1) := by decide +kernel
theorem dX6_press_75 : decode cX6_press 75 = .ok (.invokevirtual 103, 3) := by decide +kernel
theorem dX6_press_78 : decode cX6_press 78 = .ok (.isub, 1) := by decide +kernel
theorem dX6_press_79 : decode cX6_press 79 = .ok (.ireturn, 1) := by decide +kernel
theorem dX6_unlike_0 : decode cX6_unlike 0 = .ok (.aload_n 0, 1) := by decide +kernel
theorem dX6_unlike_1 : decode cX6_unlike 1 = .ok (.iload_n 1, 1) := by decide +kernel
theorem dX6_unlike_2 : decode cX6_unlike 2 = .ok (.invokevirtual 94, 3) := by decide +kernel
theorem dX6_unlike_5 : decode cX6_unlike 5 = .ok (.ifCond .eq 11, 3) := by decide +kernel
theorem dX6_unlike_8 : decode cX6_unlike 8 = .ok (.aload_n 0, 1) := by decide +kernel
theorem dX6_unlike_9 : decode cX6_unlike 9 = .ok (.iload_n 2, 1) := by decide +kernel
theorem dX6_unlike_10 : decode cX6_unlike 10 = .ok (.invokevirtual 94, 3) := by decide +kernel
theorem dX6_unlike_13 : decode cX6_unlike 13 = .ok (.ifCond .ne 6, 3) := by decide +kernel
theorem dX6_unlike_16 : decode cX6_unlike 16 = .ok (.ldc 80, 2) := by decide +kernel
theorem dX6_unlike_18 : decode cX6_unlike 18 = .ok (.ireturn, 1) := by decide +kernel
theorem dX6_unlike_19 : decode cX6_unlike 19 = .ok (.aload_n 0, 1) := by decide +kernel
theorem dX6_unlike_20 : decode cX6_unlike 20 = .ok (.getfield 14, 3) := by decide +kernel
theorem dX6_unlike_23 : decode cX6_unlike 23 = .ok (.getfield 85, 3) := by decide +kernel
theorem dX6_unlike_26 : decode cX6_unlike 26 = .ok (.iload_n 1, 1) := by decide +kernel
theorem dX6_unlike_27 : decode cX6_unlike 27 = .ok (.aaload, 1) := by decide +kernel
theorem dX6_unlike_28 : decode cX6_unlike 28 = .ok (.aload_n 0, 1) := by decide +kernel
theorem dX6_unlike_29 : decode cX6_unlike 29 = .ok (.getfield 14, 3) := by decide +kernel
theorem dX6_unlike_32 : decode cX6_unlike 32 = .ok (.getfield 85, 3) := by decide +kernel
theorem dX6_unlike_35 : decode cX6_unlike 35 = .ok (.iload_n 2, 1) := by decide +kernel
theorem dX6_unlike_36 : decode cX6_unlike 36 = .ok (.aaload, 1) := by decide +kernel
theorem dX6_unlike_37 : decode cX6_unlike 37 = .ok (.iconst 0, 1) := by decide +kernel
theorem dX6_unlike_38 : decode cX6_unlike 38 = .ok (.invokevirtual 185, 3) := by decide +kernel
theorem dX6_unlike_41 : decode cX6_unlike 41 = .ok (.ireturn, 1) := by decide +kernel
theorem dX6_turned_0 : decode cX6_turned 0 = .ok (.aload_n 0, 1) := by decide +kernel
theorem dX6_turned_1 : decode cX6_turned 1 = .ok (.iload_n 1, 1) := by decide +kernel
theorem dX6_turned_2 : decode cX6_turned 2 = .ok (.invokevirtual 94, 3) := by decide +kernel
theorem dX6_turned_5 : decode cX6_turned 5 = .ok (.ifCond .eq 20, 3) := by decide +kernel
theorem dX6_turned_8 : decode cX6_turned 8 = .ok (.aload_n 0, 1) := by decide +kernel
theorem dX6_turned_9 : decode cX6_turned 9 = .ok (.iload_n 2, 1) := by decide +kernel
theorem dX6_turned_10 : decode cX6_turned 10 = .ok (.invokevirtual 94, 3) := by decide +kernel
theorem dX6_turned_13 : decode cX6_turned 13 = .ok (.ifCond .eq 12, 3) := by decide +kernel
theorem dX6_turned_16 : decode cX6_turned 16 = .ok (.iload_n 3, 1) := by decide +kernel
theorem dX6_turned_17 : decode cX6_turned 17 = .ok (.ifCond .lt 8, 3) := by decide +kernel
theorem dX6_turned_20 : decode cX6_turned 20 = .ok (.iload_n 3, 1) := by decide +kernel
theorem dX6_turned_21 : decode cX6_turned 21 = .ok (.iconst 1, 1) := by decide +kernel
theorem dX6_turned_22 : decode cX6_turned 22 = .ok (.if_icmp .le 6, 3) := by decide +kernel
theorem dX6_turned_25 : decode cX6_turned 25 = .ok (.ldc 80, 2) := by decide +kernel
theorem dX6_turned_27 : decode cX6_turned 27 = .ok (.ireturn, 1) := by decide +kernel
theorem dX6_turned_28 : decode cX6_turned 28 = .ok (.iconst 0, 1) := by decide +kernel
theorem dX6_turned_29 : decode cX6_turned 29 = .ok (.istore 4, 2) := by decide +kernel
theorem dX6_turned_31 : decode cX6_turned 31 = .ok (.bipush 25, 2) := by decide +kernel
theorem dX6_turned_33 : decode cX6_turned 33 = .ok (.istore 5, 2) := by decide +kernel
theorem dX6_turned_35 : decode cX6_turned 35 = .ok (.iconst 0, 1) := by decide +kernel
theorem dX6_turned_36 : decode cX6_turned 36 = .ok (.istore 6, 2) := by decide +kernel
theorem dX6_turned_38 : decode cX6_turned 38 = .ok (.iload 6, 2) := by decide +kernel
theorem dX6_turned_40 : decode cX6_turned 40 = .ok (.bipush 24, 2) := by decide +kernel
theorem dX6_turned_42 : decode cX6_turned 42 = .ok (.if_icmp .ge 49, 3) := by decide +kernel
theorem dX6_turned_45 : decode cX6_turned 45 = .ok (.aload_n 0, 1) := by decide +kernel
theorem dX6_turned_46 : decode cX6_turned 46 = .ok (.getfield 14, 3) := by decide +kernel
theorem dX6_turned_49 : decode cX6_turned 49 = .ok (.getfield 85, 3) := by decide +kernel
theorem dX6_turned_52 : decode cX6_turned 52 = .ok (.iload_n 1, 1) := by decide +kernel
theorem dX6_turned_53 : decode cX6_turned 53 = .ok (.aaload, 1) := by decide +kernel
theorem dX6_turned_54 : decode cX6_turned 54 = .ok (.aload_n 0, 1) := by decide +kernel
theorem dX6_turned_55 : decode cX6_turned 55 = .ok (.getfield 14, 3) := by decide +kernel
theorem dX6_turned_58 : decode cX6_turned 58 = .ok (.getfield 85, 3) := by decide +kernel
theorem dX6_turned_61 : decode cX6_turned 61 = .ok (.iload_n 2, 1) := by decide +kernel
theorem dX6_turned_62 : decode cX6_turned 62 = .ok (.aaload, 1) := by decide +kernel
theorem dX6_turned_63 : decode cX6_turned 63 = .ok (.iload 6, 2) := by decide +kernel
theorem dX6_turned_65 : decode cX6_turned 65 = .ok (.invokevirtual 185, 3) := by decide +kernel
theorem dX6_turned_68 : decode cX6_turned 68 = .ok (.istore 7, 2) := by decide +kernel
theorem dX6_turned_70 : decode cX6_turned 70 = .ok (.iload 7, 2) := by decide +kernel
theorem dX6_turned_72 : decode cX6_turned 72 = .ok (.iload 5, 2) := by decide +kernel
theorem dX6_turned_74 : decode cX6_turned 74 = .ok (.if_icmp .ge 11, 3) := by decide +kernel
theorem dX6_turned_77 : decode cX6_turned 77 = .ok (.iload 7, 2) := by decide +kernel
theorem dX6_turned_79 : decode cX6_turned 79 = .ok (.istore 5, 2) := by decide +kernel
theorem dX6_turned_81 : decode cX6_turned 81 = .ok (.iload 6, 2) := by decide +kernel
theorem dX6_turned_83 : decode cX6_turned 83 = .ok (.istore 4, 2) := by decide +kernel
theorem dX6_turned_85 : decode cX6_turned 85 = .ok (.iinc 6 1, 3) := by decide +kernel
theorem dX6_turned_88 : decode cX6_turned 88 = .ok (.goto (-50), 3) := by decide +kernel
theorem dX6_turned_91 : decode cX6_turned 91 = .ok (.iload_n 3, 1) := by decide +kernel
theorem dX6_turned_92 : decode cX6_turned 92 = .ok (.ifCond .ne 8, 3) := by decide +kernel
theorem dX6_turned_95 : decode cX6_turned 95 = .ok (.iload 4, 2) := by decide +kernel
theorem dX6_turned_97 : decode cX6_turned 97 = .ok (.goto 5, 3) := by decide +kernel
theorem dX6_turned_100 : decode cX6_turned 100 = .ok (.iload 5, 2) := by decide +kernel
theorem dX6_turned_102 : decode cX6_turned 102 = .ok (.ireturn, 1) := by decide +kernel
theorem dX6_seen_0 : decode cX6_seen 0 = .ok (.iload_n 1, 1) := by decide +kernel
theorem dX6_seen_1 : decode cX6_seen 1 = .ok (.invokestatic 196, 3) := by decide +kernel
theorem dX6_seen_4 : decode cX6_seen 4 = .ok (.ifCond .eq 21, 3) := by decide +kernel
theorem dX6_seen_7 : decode cX6_seen 7 = .ok (.aload_n 0, 1) := by decide +kernel
theorem dX6_seen_8 : decode cX6_seen 8 = .ok (.iload_n 2, 1) := by decide +kernel
theorem dX6_seen_9 : decode cX6_seen 9 = .ok (.invokevirtual 94, 3) := by decide +kernel
theorem dX6_seen_12 : decode cX6_seen 12 = .ok (.ifCond .eq 13, 3) := by decide +kernel
theorem dX6_seen_15 : decode cX6_seen 15 = .ok (.iload_n 3, 1) := by decide +kernel
theorem dX6_seen_16 : decode cX6_seen 16 = .ok (.ifCond .lt 9, 3) := by decide +kernel
theorem dX6_seen_19 : decode cX6_seen 19 = .ok (.iload_n 3, 1) := by decide +kernel
theorem dX6_seen_20 : decode cX6_seen 20 = .ok (.bipush 30, 2) := by decide +kernel
theorem dX6_seen_22 : decode cX6_seen 22 = .ok (.if_icmp .le 6, 3) := by decide +kernel
theorem dX6_seen_25 : decode cX6_seen 25 = .ok (.ldc 80, 2) := by decide +kernel
theorem dX6_seen_27 : decode cX6_seen 27 = .ok (.ireturn, 1) := by decide +kernel
theorem dX6_seen_28 : decode cX6_seen 28 = .ok (.aload_n 0, 1) := by decide +kernel
theorem dX6_seen_29 : decode cX6_seen 29 = .ok (.getfield 57, 3) := by decide +kernel
theorem dX6_seen_32 : decode cX6_seen 32 = .ok (.iload_n 1, 1) := by decide +kernel
theorem dX6_seen_33 : decode cX6_seen 33 = .ok (.aaload, 1) := by decide +kernel
theorem dX6_seen_34 : decode cX6_seen 34 = .ok (.astore 4, 2) := by decide +kernel
theorem dX6_seen_36 : decode cX6_seen 36 = .ok (.aload 4, 2) := by decide +kernel
theorem dX6_seen_38 : decode cX6_seen 38 = .ok (.getfield 199, 3) := by decide +kernel
theorem dX6_seen_41 : decode cX6_seen 41 = .ok (.iconst (-1), 1) := by decide +kernel
theorem dX6_seen_42 : decode cX6_seen 42 = .ok (.if_icmp .ne 6, 3) := by decide +kernel
theorem dX6_seen_45 : decode cX6_seen 45 = .ok (.ldc 202, 2) := by decide +kernel
theorem dX6_seen_47 : decode cX6_seen 47 = .ok (.ireturn, 1) := by decide +kernel
theorem dX6_seen_48 : decode cX6_seen 48 = .ok (.iconst 0, 1) := by decide +kernel
theorem dX6_seen_49 : decode cX6_seen 49 = .ok (.istore 5, 2) := by decide +kernel
theorem dX6_seen_51 : decode cX6_seen 51 = .ok (.ldc 205, 2) := by decide +kernel
theorem dX6_seen_53 : decode cX6_seen 53 = .ok (.istore 6, 2) := by decide +kernel
theorem dX6_seen_55 : decode cX6_seen 55 = .ok (.getstatic 137, 3) := by decide +kernel
theorem dX6_seen_58 : decode cX6_seen 58 = .ok (.iconst 0, 1) := by decide +kernel
theorem dX6_seen_59 : decode cX6_seen 59 = .ok (.iaload, 1) := by decide +kernel
theorem dX6_seen_60 : decode cX6_seen 60 = .ok (.istore 7, 2) := by decide +kernel
theorem dX6_seen_62 : decode cX6_seen 62 = .ok (.iload 7, 2) := by decide +kernel
theorem dX6_seen_64 : decode cX6_seen 64 = .ok (.getstatic 140, 3) := by decide +kernel
theorem dX6_seen_67 : decode cX6_seen 67 = .ok (.iconst 0, 1) := by decide +kernel
theorem dX6_seen_68 : decode cX6_seen 68 = .ok (.iaload, 1) := by decide +kernel
theorem dX6_seen_69 : decode cX6_seen 69 = .ok (.if_icmp .gt 40, 3) := by decide +kernel
theorem dX6_seen_72 : decode cX6_seen 72 = .ok (.aload 4, 2) := by decide +kernel
theorem dX6_seen_74 : decode cX6_seen 74 = .ok (.aload_n 0, 1) := by decide +kernel
theorem dX6_seen_75 : decode cX6_seen 75 = .ok (.iload_n 2, 1) := by decide +kernel
theorem dX6_seen_76 : decode cX6_seen 76 = .ok (.iconst 0, 1) := by decide +kernel
theorem dX6_seen_77 : decode cX6_seen 77 = .ok (.iload 7, 2) := by decide +kernel
theorem dX6_seen_79 : decode cX6_seen 79 = .ok (.iload_n 3, 1) := by decide +kernel
theorem dX6_seen_80 : decode cX6_seen 80 = .ok (.invokevirtual 206, 3) := by decide +kernel
theorem dX6_seen_83 : decode cX6_seen 83 = .ok (.invokevirtual 210, 3) := by decide +kernel
theorem dX6_seen_86 : decode cX6_seen 86 = .ok (.istore 8, 2) := by decide +kernel
theorem dX6_seen_88 : decode cX6_seen 88 = .ok (.iload 8, 2) := by decide +kernel
theorem dX6_seen_90 : decode cX6_seen 90 = .ok (.iload 6, 2) := by decide +kernel
theorem dX6_seen_92 : decode cX6_seen 92 = .ok (.if_icmp .ge 11, 3) := by decide +kernel
theorem dX6_seen_95 : decode cX6_seen 95 = .ok (.iload 8, 2) := by decide +kernel
theorem dX6_seen_97 : decode cX6_seen 97 = .ok (.istore 6, 2) := by decide +kernel
theorem dX6_seen_99 : decode cX6_seen 99 = .ok (.iload 7, 2) := by decide +kernel
theorem dX6_seen_101 : decode cX6_seen 101 = .ok (.istore 5, 2) := by decide +kernel
theorem dX6_seen_103 : decode cX6_seen 103 = .ok (.iinc 7 1, 3) := by decide +kernel
theorem dX6_seen_106 : decode cX6_seen 106 = .ok (.goto (-44), 3) := by decide +kernel
theorem dX6_seen_109 : decode cX6_seen 109 = .ok (.iload 5, 2) := by decide +kernel
theorem dX6_seen_111 : decode cX6_seen 111 = .ok (.ireturn, 1) := by decide +kernel
theorem dX6_best_0 : decode cX6_best 0 = .ok (.aload_n 0, 1) := by decide +kernel
theorem dX6_best_1 : decode cX6_best 1 = .ok (.iload_n 1, 1) := by decide +kernel
theorem dX6_best_2 : decode cX6_best 2 = .ok (.invokevirtual 94, 3) := by decide +kernel
theorem dX6_best_5 : decode cX6_best 5 = .ok (.ifCond .eq 22, 3) := by decide +kernel
theorem dX6_best_8 : decode cX6_best 8 = .ok (.iload_n 2, 1) := by decide +kernel
theorem dX6_best_9 : decode cX6_best 9 = .ok (.ifCond .lt 18, 3) := by decide +kernel
theorem dX6_best_12 : decode cX6_best 12 = .ok (.iload_n 2, 1) := by decide +kernel
theorem dX6_best_13 : decode cX6_best 13 = .ok (.bipush 30, 2) := by decide +kernel
theorem dX6_best_15 : decode cX6_best 15 = .ok (.if_icmp .gt 12, 3) := by decide +kernel
theorem dX6_best_18 : decode cX6_best 18 = .ok (.iload_n 3, 1) := by decide +kernel
theorem dX6_best_19 : decode cX6_best 19 = .ok (.ifCond .lt 8, 3) := by decide +kernel
theorem dX6_best_22 : decode cX6_best 22 = .ok (.iload_n 3, 1) := by decide +kernel
theorem dX6_best_23 : decode cX6_best 23 = .ok (.iconst 1, 1) := by decide +kernel
theorem dX6_best_24 : decode cX6_best 24 = .ok (.if_icmp .le 6, 3) := by decide +kernel
theorem dX6_best_27 : decode cX6_best 27 = .ok (.ldc 80, 2) := by decide +kernel
theorem dX6_best_29 : decode cX6_best 29 = .ok (.ireturn, 1) := by decide +kernel
theorem dX6_best_30 : decode cX6_best 30 = .ok (.iconst 0, 1) := by decide +kernel
theorem dX6_best_31 : decode cX6_best 31 = .ok (.istore 4, 2) := by decide +kernel
theorem dX6_best_33 : decode cX6_best 33 = .ok (.iconst (-1), 1) := by decide +kernel
theorem dX6_best_34 : decode cX6_best 34 = .ok (.istore 5, 2) := by decide +kernel
theorem dX6_best_36 : decode cX6_best 36 = .ok (.getstatic 137, 3) := by decide +kernel
theorem dX6_best_39 : decode cX6_best 39 = .ok (.iconst 1, 1) := by decide +kernel
theorem dX6_best_40 : decode cX6_best 40 = .ok (.iaload, 1) := by decide +kernel
theorem dX6_best_41 : decode cX6_best 41 = .ok (.istore 6, 2) := by decide +kernel
theorem dX6_best_43 : decode cX6_best 43 = .ok (.iload 6, 2) := by decide +kernel
theorem dX6_best_45 : decode cX6_best 45 = .ok (.getstatic 140, 3) := by decide +kernel
theorem dX6_best_48 : decode cX6_best 48 = .ok (.iconst 1, 1) := by decide +kernel
theorem dX6_best_49 : decode cX6_best 49 = .ok (.iaload, 1) := by decide +kernel
theorem dX6_best_50 : decode cX6_best 50 = .ok (.if_icmp .gt 38, 3) := by decide +kernel
theorem dX6_best_53 : decode cX6_best 53 = .ok (.aload_n 0, 1) := by decide +kernel
theorem dX6_best_54 : decode cX6_best 54 = .ok (.iload_n 1, 1) := by decide +kernel
theorem dX6_best_55 : decode cX6_best 55 = .ok (.iconst 1, 1) := by decide +kernel
theorem dX6_best_56 : decode cX6_best 56 = .ok (.iload 6, 2) := by decide +kernel
theorem dX6_best_58 : decode cX6_best 58 = .ok (.iload_n 2, 1) := by decide +kernel
theorem dX6_best_59 : decode cX6_best 59 = .ok (.invokevirtual 206, 3) := by decide +kernel
theorem dX6_best_62 : decode cX6_best 62 = .ok (.invokevirtual 113, 3) := by decide +kernel
theorem dX6_best_65 : decode cX6_best 65 = .ok (.istore 7, 2) := by decide +kernel
theorem dX6_best_67 : decode cX6_best 67 = .ok (.iload 7, 2) := by decide +kernel
theorem dX6_best_69 : decode cX6_best 69 = .ok (.iload 5, 2) := by decide +kernel
theorem dX6_best_71 : decode cX6_best 71 = .ok (.if_icmp .le 11, 3) := by decide +kernel
theorem dX6_best_74 : decode cX6_best 74 = .ok (.iload 7, 2) := by decide +kernel
theorem dX6_best_76 : decode cX6_best 76 = .ok (.istore 5, 2) := by decide +kernel
theorem dX6_best_78 : decode cX6_best 78 = .ok (.iload 6, 2) := by decide +kernel
theorem dX6_best_80 : decode cX6_best 80 = .ok (.istore 4, 2) := by decide +kernel
theorem dX6_best_82 : decode cX6_best 82 = .ok (.iinc 6 1, 3) := by decide +kernel
theorem dX6_best_85 : decode cX6_best 85 = .ok (.goto (-42), 3) := by decide +kernel
theorem dX6_best_88 : decode cX6_best 88 = .ok (.iload_n 3, 1) := by decide +kernel
theorem dX6_best_89 : decode cX6_best 89 = .ok (.ifCond .ne 8, 3) := by decide +kernel
theorem dX6_best_92 : decode cX6_best 92 = .ok (.iload 4, 2) := by decide +kernel
theorem dX6_best_94 : decode cX6_best 94 = .ok (.goto 5, 3) := by decide +kernel
theorem dX6_best_97 : decode cX6_best 97 = .ok (.iload 5, 2) := by decide +kernel
theorem dX6_best_99 : decode cX6_best 99 = .ok (.ireturn, 1) := by decide +kernel
theorem dX6_feed_0 : decode cX6_feed 0 = .ok (.aload_n 0, 1) := by decide +kernel
theorem dX6_feed_1 : decode cX6_feed 1 = .ok (.getfield 51, 3) := by decide +kernel
theorem dX6_feed_4 : decode cX6_feed 4 = .ok (.bipush 12, 2) := by decide +kernel
theorem dX6_feed_6 : decode cX6_feed 6 = .ok (.iadd, 1) := by decide +kernel
theorem dX6_feed_7 : decode cX6_feed 7 = .ok (.bipush 96, 2) := by decide +kernel
theorem dX6_feed_9 : decode cX6_feed 9 = .ok (.if_icmp .le 6, 3) := by decide +kernel
theorem dX6_feed_12 : decode cX6_feed 12 = .ok (.ldc 84, 2) := by decide +kernel
theorem dX6_feed_14 : decode cX6_feed 14 = .ok (.ireturn, 1) := by decide +kernel
theorem dX6_feed_15 : decode cX6_feed 15 = .ok (.aload_n 0, 1) := by decide +kernel
theorem dX6_feed_16 : decode cX6_feed 16 = .ok (.iload_n 1, 1) := by decide +kernel
theorem dX6_feed_17 : decode cX6_feed 17 = .ok (.invokevirtual 214, 3) := by decide +kernel
theorem dX6_feed_20 : decode cX6_feed 20 = .ok (.aload_n 0, 1) := by decide +kernel
theorem dX6_feed_21 : decode cX6_feed 21 = .ok (.iload_n 2, 1) := by decide +kernel
theorem dX6_feed_22 : decode cX6_feed 22 = .ok (.invokevirtual 214, 3) := by decide +kernel
theorem dX6_feed_25 : decode cX6_feed 25 = .ok (.aload_n 0, 1) := by decide +kernel
theorem dX6_feed_26 : decode cX6_feed 26 = .ok (.iload_n 3, 1) := by decide +kernel
theorem dX6_feed_27 : decode cX6_feed 27 = .ok (.invokevirtual 214, 3) := by decide +kernel
theorem dX6_feed_30 : decode cX6_feed 30 = .ok (.aload_n 0, 1) := by decide +kernel
theorem dX6_feed_31 : decode cX6_feed 31 = .ok (.getfield 51, 3) := by decide +kernel
theorem dX6_feed_34 : decode cX6_feed 34 = .ok (.ireturn, 1) := by decide +kernel
theorem dX6_trim_0 : decode cX6_trim 0 = .ok (.iload_n 1, 1) := by decide +kernel
theorem dX6_trim_1 : decode cX6_trim 1 = .ok (.ifCond .lt 11, 3) := by decide +kernel
theorem dX6_trim_4 : decode cX6_trim 4 = .ok (.iload_n 1, 1) := by decide +kernel
theorem dX6_trim_5 : decode cX6_trim 5 = .ok (.aload_n 0, 1) := by decide +kernel
theorem dX6_trim_6 : decode cX6_trim 6 = .ok (.getfield 51, 3) := by decide +kernel
theorem dX6_trim_9 : decode cX6_trim 9 = .ok (.if_icmp .le 6, 3) := by decide +kernel
theorem dX6_trim_12 : decode cX6_trim 12 = .ok (.ldc 80, 2) := by decide +kernel
theorem dX6_trim_14 : decode cX6_trim 14 = .ok (.ireturn, 1) := by decide +kernel
theorem dX6_trim_15 : decode cX6_trim 15 = .ok (.aload_n 0, 1) := by decide +kernel
theorem dX6_trim_16 : decode cX6_trim 16 = .ok (.iload_n 1, 1) := by decide +kernel
theorem dX6_trim_17 : decode cX6_trim 17 = .ok (.putfield 51, 3) := by decide +kernel
theorem dX6_trim_20 : decode cX6_trim 20 = .ok (.iload_n 1, 1) := by decide +kernel
theorem dX6_trim_21 : decode cX6_trim 21 = .ok (.ireturn, 1) := by decide +kernel
theorem dX6_text_0 : decode cX6_text 0 = .ok (.aload_n 0, 1) := by decide +kernel
theorem dX6_text_1 : decode cX6_text 1 = .ok (.getfield 51, 3) := by decide +kernel
theorem dX6_text_4 : decode cX6_text 4 = .ok (.istore_n 1, 1) := by decide +kernel
theorem dX6_text_5 : decode cX6_text 5 = .ok (.aload_n 0, 1) := by decide +kernel
theorem dX6_text_6 : decode cX6_text 6 = .ok (.iconst 0, 1) := by decide +kernel
theorem dX6_text_7 : decode cX6_text 7 = .ok (.putfield 51, 3) := by decide +kernel
theorem dX6_text_10 : decode cX6_text 10 = .ok (.aload_n 0, 1) := by decide +kernel
theorem dX6_text_11 : decode cX6_text 11 = .ok (.getfield 41, 3) := by decide +kernel
theorem dX6_text_14 : decode cX6_text 14 = .ok (.aload_n 0, 1) := by decide +kernel
theorem dX6_text_15 : decode cX6_text 15 = .ok (.getfield 48, 3) := by decide +kernel
theorem dX6_text_18 : decode cX6_text 18 = .ok (.iload_n 1, 1) := by decide +kernel
theorem dX6_text_19 : decode cX6_text 19 = .ok (.invokevirtual 217, 3) := by decide +kernel
theorem dX6_text_22 : decode cX6_text 22 = .ok (.istore_n 2, 1) := by decide +kernel
theorem dX6_text_23 : decode cX6_text 23 = .ok (.iload_n 2, 1) := by decide +kernel
theorem dX6_text_24 : decode cX6_text 24 = .ok (.ifCond .lt 8, 3) := by decide +kernel
theorem dX6_text_27 : decode cX6_text 27 = .ok (.bipush (-100), 2) := by decide +kernel
theorem dX6_text_29 : decode cX6_text 29 = .ok (.iload_n 2, 1) := by decide +kernel
theorem dX6_text_30 : decode cX6_text 30 = .ok (.isub, 1) := by decide +kernel
theorem dX6_text_31 : decode cX6_text 31 = .ok (.ireturn, 1) := by decide +kernel
theorem dX6_text_32 : decode cX6_text 32 = .ok (.aload_n 0, 1) := by decide +kernel
theorem dX6_text_33 : decode cX6_text 33 = .ok (.getfield 14, 3) := by decide +kernel
theorem dX6_text_36 : decode cX6_text 36 = .ok (.getfield 221, 3) := by decide +kernel
theorem dX6_text_39 : decode cX6_text 39 = .ok (.bipush 14, 2) := by decide +kernel
theorem dX6_text_41 : decode cX6_text 41 = .ok (.if_icmp .lt 6, 3) := by decide +kernel
theorem dX6_text_44 : decode cX6_text 44 = .ok (.ldc 84, 2) := by decide +kernel
theorem dX6_text_46 : decode cX6_text 46 = .ok (.ireturn, 1) := by decide +kernel
theorem dX6_text_47 : decode cX6_text 47 = .ok (.aload_n 0, 1) := by decide +kernel
theorem dX6_text_48 : decode cX6_text 48 = .ok (.getfield 14, 3) := by decide +kernel
theorem dX6_text_51 : decode cX6_text 51 = .ok (.getfield 221, 3) := by decide +kernel
theorem dX6_text_54 : decode cX6_text 54 = .ok (.istore_n 3, 1) := by decide +kernel
theorem dX6_text_55 : decode cX6_text 55 = .ok (.aload_n 0, 1) := by decide +kernel
theorem dX6_text_56 : decode cX6_text 56 = .ok (.getfield 34, 3) := by decide +kernel
theorem dX6_text_59 : decode cX6_text 59 = .ok (.iload_n 3, 1) := by decide +kernel
theorem dX6_text_60 : decode cX6_text 60 = .ok (.aaload, 1) := by decide +kernel
theorem dX6_text_61 : decode cX6_text 61 = .ok (.aload_n 0, 1) := by decide +kernel
theorem dX6_text_62 : decode cX6_text 62 = .ok (.getfield 41, 3) := by decide +kernel
theorem dX6_text_65 : decode cX6_text 65 = .ok (.invokevirtual 224, 3) := by decide +kernel
theorem dX6_text_68 : decode cX6_text 68 = .ok (.aload_n 0, 1) := by decide +kernel
theorem dX6_text_69 : decode cX6_text 69 = .ok (.getfield 14, 3) := by decide +kernel
theorem dX6_text_72 : decode cX6_text 72 = .ok (.getfield 228, 3) := by decide +kernel
theorem dX6_text_75 : decode cX6_text 75 = .ok (.aload_n 0, 1) := by decide +kernel
theorem dX6_text_76 : decode cX6_text 76 = .ok (.getfield 34, 3) := by decide +kernel
theorem dX6_text_79 : decode cX6_text 79 = .ok (.iload_n 3, 1) := by decide +kernel
theorem dX6_text_80 : decode cX6_text 80 = .ok (.aaload, 1) := by decide +kernel
theorem dX6_text_81 : decode cX6_text 81 = .ok (.getfield 231, 3) := by decide +kernel
theorem dX6_text_84 : decode cX6_text 84 = .ok (.iload_n 3, 1) := by decide +kernel
theorem dX6_text_85 : decode cX6_text 85 = .ok (.iastore, 1) := by decide +kernel
theorem dX6_text_86 : decode cX6_text 86 = .ok (.aload_n 0, 1) := by decide +kernel
theorem dX6_text_87 : decode cX6_text 87 = .ok (.getfield 14, 3) := by decide +kernel
theorem dX6_text_90 : decode cX6_text 90 = .ok (.dup, 1) := by decide +kernel
theorem dX6_text_91 : decode cX6_text 91 = .ok (.getfield 221, 3) := by decide +kernel
theorem dX6_text_94 : decode cX6_text 94 = .ok (.iconst 1, 1) := by decide +kernel
theorem dX6_text_95 : decode cX6_text 95 = .ok (.iadd, 1) := by decide +kernel
theorem dX6_text_96 : decode cX6_text 96 = .ok (.putfield 221, 3) := by decide +kernel
theorem dX6_text_99 : decode cX6_text 99 = .ok (.iload_n 3, 1) := by decide +kernel
theorem dX6_text_100 : decode cX6_text 100 = .ok (.ireturn, 1) := by decide +kernel
theorem dX6_textTold_0 : decode cX6_textTold 0 = .ok (.iload_n 1, 1) := by decide +kernel
theorem dX6_textTold_1 : decode cX6_textTold 1 = .ok (.ifCond .lt 23, 3) := by decide +kernel
theorem dX6_textTold_4 : decode cX6_textTold 4 = .ok (.iload_n 1, 1) := by decide +kernel
theorem dX6_textTold_5 : decode cX6_textTold 5 = .ok (.aload_n 0, 1) := by decide +kernel
theorem dX6_textTold_6 : decode cX6_textTold 6 = .ok (.getfield 14, 3) := by decide +kernel
theorem dX6_textTold_9 : decode cX6_textTold 9 = .ok (.getfield 221, 3) := by decide +kernel
theorem dX6_textTold_12 : decode cX6_textTold 12 = .ok (.if_icmp .ge 12, 3) := by decide +kernel
theorem dX6_textTold_15 : decode cX6_textTold 15 = .ok (.iload_n 2, 1) := by decide +kernel
theorem dX6_textTold_16 : decode cX6_textTold 16 = .ok (.ifCond .lt 8, 3) := by decide +kernel
theorem dX6_textTold_19 : decode cX6_textTold 19 = .ok (.iload_n 2, 1) := by decide +kernel
theorem dX6_textTold_20 : decode cX6_textTold 20 = .ok (.iconst 1, 1) := by decide +kernel
theorem dX6_textTold_21 : decode cX6_textTold 21 = .ok (.if_icmp .le 6, 3) := by decide +kernel
theorem dX6_textTold_24 : decode cX6_textTold 24 = .ok (.ldc 80, 2) := by decide +kernel
theorem dX6_textTold_26 : decode cX6_textTold 26 = .ok (.ireturn, 1) := by decide +kernel
theorem dX6_textTold_27 : decode cX6_textTold 27 = .ok (.iload_n 2, 1) := by decide +kernel
theorem dX6_textTold_28 : decode cX6_textTold 28 = .ok (.ifCond .ne 15, 3) := by decide +kernel
theorem dX6_textTold_31 : decode cX6_textTold 31 = .ok (.aload_n 0, 1) := by decide +kernel
theorem dX6_textTold_32 : decode cX6_textTold 32 = .ok (.getfield 34, 3) := by decide +kernel
theorem dX6_textTold_35 : decode cX6_textTold 35 = .ok (.iload_n 1, 1) := by decide +kernel
theorem dX6_textTold_36 : decode cX6_textTold 36 = .ok (.aaload, 1) := by decide +kernel
theorem dX6_textTold_37 : decode cX6_textTold 37 = .ok (.getfield 231, 3) := by decide +kernel
theorem dX6_textTold_40 : decode cX6_textTold 40 = .ok (.goto 12, 3) := by decide +kernel
theorem dX6_textTold_43 : decode cX6_textTold 43 = .ok (.aload_n 0, 1) := by decide +kernel
theorem dX6_textTold_44 : decode cX6_textTold 44 = .ok (.getfield 34, 3) := by decide +kernel
theorem dX6_textTold_47 : decode cX6_textTold 47 = .ok (.iload_n 1, 1) := by decide +kernel
theorem dX6_textTold_48 : decode cX6_textTold 48 = .ok (.aaload, 1) := by decide +kernel
theorem dX6_textTold_49 : decode cX6_textTold 49 = .ok (.getfield 234, 3) := by decide +kernel
theorem dX6_textTold_52 : decode cX6_textTold 52 = .ok (.ireturn, 1) := by decide +kernel
theorem dX6_why_0 : decode cX6_why 0 = .ok (.iload_n 1, 1) := by decide +kernel
theorem dX6_why_1 : decode cX6_why 1 = .ok (.ifCond .lt 8, 3) := by decide +kernel
theorem dX6_why_4 : decode cX6_why 4 = .ok (.iload_n 1, 1) := by decide +kernel
theorem dX6_why_5 : decode cX6_why 5 = .ok (.iconst 2, 1) := by decide +kernel
theorem dX6_why_6 : decode cX6_why 6 = .ok (.if_icmp .le 6, 3) := by decide +kernel
theorem dX6_why_9 : decode cX6_why 9 = .ok (.ldc 80, 2) := by decide +kernel
theorem dX6_why_11 : decode cX6_why 11 = .ok (.ireturn, 1) := by decide +kernel
theorem dX6_why_12 : decode cX6_why 12 = .ok (.aload_n 0, 1) := by decide +kernel
theorem dX6_why_13 : decode cX6_why 13 = .ok (.getfield 14, 3) := by decide +kernel
theorem dX6_why_16 : decode cX6_why 16 = .ok (.getfield 228, 3) := by decide +kernel
theorem dX6_why_19 : decode cX6_why 19 = .ok (.iload_n 1, 1) := by decide +kernel
theorem dX6_why_20 : decode cX6_why 20 = .ok (.iaload, 1) := by decide +kernel
theorem dX6_why_21 : decode cX6_why 21 = .ok (.ireturn, 1) := by decide +kernel
theorem dX6_sheet_0 : decode cX6_sheet 0 = .ok (.iload_n 1, 1) := by decide +kernel
theorem dX6_sheet_1 : decode cX6_sheet 1 = .ok (.invokestatic 196, 3) := by decide +kernel
theorem dX6_sheet_4 : decode cX6_sheet 4 = .ok (.ifCond .eq 13, 3) := by decide +kernel
theorem dX6_sheet_7 : decode cX6_sheet 7 = .ok (.iload_n 2, 1) := by decide +kernel
theorem dX6_sheet_8 : decode cX6_sheet 8 = .ok (.iconst (-1), 1) := by decide +kernel
theorem dX6_sheet_9 : decode cX6_sheet 9 = .ok (.if_icmp .lt 8, 3) := by decide +kernel
theorem dX6_sheet_12 : decode cX6_sheet 12 = .ok (.iload_n 2, 1) := by decide +kernel
theorem dX6_sheet_13 : decode cX6_sheet 13 = .ok (.iconst 1, 1) := by decide +kernel
theorem dX6_sheet_14 : decode cX6_sheet 14 = .ok (.if_icmp .le 6, 3) := by decide +kernel
theorem dX6_sheet_17 : decode cX6_sheet 17 = .ok (.ldc 80, 2) := by decide +kernel
theorem dX6_sheet_19 : decode cX6_sheet 19 = .ok (.ireturn, 1) := by decide +kernel
theorem dX6_sheet_20 : decode cX6_sheet 20 = .ok (.iload_n 2, 1) := by decide +kernel
theorem dX6_sheet_21 : decode cX6_sheet 21 = .ok (.iconst (-1), 1) := by decide +kernel
theorem dX6_sheet_22 : decode cX6_sheet 22 = .ok (.if_icmp .ne 16, 3) := by decide +kernel
theorem dX6_sheet_25 : decode cX6_sheet 25 = .ok (.aload_n 0, 1) := by decide +kernel
theorem dX6_sheet_26 : decode cX6_sheet 26 = .ok (.getfield 57, 3) := by decide +kernel
theorem dX6_sheet_29 : decode cX6_sheet 29 = .ok (.iload_n 1, 1) := by decide +kernel
theorem dX6_sheet_30 : decode cX6_sheet 30 = .ok (.aaload, 1) := by decide +kernel
theorem dX6_sheet_31 : decode cX6_sheet 31 = .ok (.iconst (-1), 1) := by decide +kernel
theorem dX6_sheet_32 : decode cX6_sheet 32 = .ok (.iconst 0, 1) := by decide +kernel
theorem dX6_sheet_33 : decode cX6_sheet 33 = .ok (.invokevirtual 237, 3) := by decide +kernel
theorem dX6_sheet_36 : decode cX6_sheet 36 = .ok (.iconst 0, 1) := by decide +kernel
theorem dX6_sheet_37 : decode cX6_sheet 37 = .ok (.ireturn, 1) := by decide +kernel
theorem dX6_sheet_38 : decode cX6_sheet 38 = .ok (.iload_n 3, 1) := by decide +kernel
theorem dX6_sheet_39 : decode cX6_sheet 39 = .ok (.bipush 24, 2) := by decide +kernel
theorem dX6_sheet_41 : decode cX6_sheet 41 = .ok (.if_icmp .le 6, 3) := by decide +kernel
theorem dX6_sheet_44 : decode cX6_sheet 44 = .ok (.ldc 80, 2) := by decide +kernel
theorem dX6_sheet_46 : decode cX6_sheet 46 = .ok (.ireturn, 1) := by decide +kernel
theorem dX6_sheet_47 : decode cX6_sheet 47 = .ok (.iload_n 3, 1) := by decide +kernel
theorem dX6_sheet_48 : decode cX6_sheet 48 = .ok (.ifCond .ge 6, 3) := by decide +kernel
theorem dX6_sheet_51 : decode cX6_sheet 51 = .ok (.ldc 240, 2) := by decide +kernel
theorem dX6_sheet_53 : decode cX6_sheet 53 = .ok (.ireturn, 1) := by decide +kernel
theorem dX6_sheet_54 : decode cX6_sheet 54 = .ok (.aload_n 0, 1) := by decide +kernel
theorem dX6_sheet_55 : decode cX6_sheet 55 = .ok (.getfield 57, 3) := by decide +kernel
theorem dX6_sheet_58 : decode cX6_sheet 58 = .ok (.iload_n 1, 1) := by decide +kernel
theorem dX6_sheet_59 : decode cX6_sheet 59 = .ok (.aaload, 1) := by decide +kernel
theorem dX6_sheet_60 : decode cX6_sheet 60 = .ok (.iload_n 2, 1) := by decide +kernel
theorem dX6_sheet_61 : decode cX6_sheet 61 = .ok (.iload_n 3, 1) := by decide +kernel
theorem dX6_sheet_62 : decode cX6_sheet 62 = .ok (.invokevirtual 237, 3) := by decide +kernel
theorem dX6_sheet_65 : decode cX6_sheet 65 = .ok (.iload_n 3, 1) := by decide +kernel
theorem dX6_sheet_66 : decode cX6_sheet 66 = .ok (.ireturn, 1) := by decide +kernel
theorem dX6_mark_0 : decode cX6_mark 0 = .ok (.iload_n 1, 1) := by decide +kernel
theorem dX6_mark_1 : decode cX6_mark 1 = .ok (.invokestatic 196, 3) := by decide +kernel
theorem dX6_mark_4 : decode cX6_mark 4 = .ok (.ifCond .ne 6, 3) := by decide +kernel
theorem dX6_mark_7 : decode cX6_mark 7 = .ok (.ldc 80, 2) := by decide +kernel
theorem dX6_mark_9 : decode cX6_mark 9 = .ok (.ireturn, 1) := by decide +kernel
theorem dX6_mark_10 : decode cX6_mark 10 = .ok (.aload_n 0, 1) := by decide +kernel
theorem dX6_mark_11 : decode cX6_mark 11 = .ok (.getfield 57, 3) := by decide +kernel
theorem dX6_mark_14 : decode cX6_mark 14 = .ok (.iload_n 1, 1) := by decide +kernel
theorem dX6_mark_15 : decode cX6_mark 15 = .ok (.aaload, 1) := by decide +kernel
theorem dX6_mark_16 : decode cX6_mark 16 = .ok (.astore 4, 2) := by decide +kernel
theorem dX6_mark_18 : decode cX6_mark 18 = .ok (.aload 4, 2) := by decide +kernel
theorem dX6_mark_20 : decode cX6_mark 20 = .ok (.getfield 199, 3) := by decide +kernel
theorem dX6_mark_23 : decode cX6_mark 23 = .ok (.iconst (-1), 1) := by decide +kernel
theorem dX6_mark_24 : decode cX6_mark 24 = .ok (.if_icmp .ne 6, 3) := by decide +kernel
theorem dX6_mark_27 : decode cX6_mark 27 = .ok (.ldc 202, 2) := by decide +kernel
theorem dX6_mark_29 : decode cX6_mark 29 = .ok (.ireturn, 1) := by decide +kernel
theorem dX6_mark_30 : decode cX6_mark 30 = .ok (.aload 4, 2) := by decide +kernel
theorem dX6_mark_32 : decode cX6_mark 32 = .ok (.iload_n 2, 1) := by decide +kernel
theorem dX6_mark_33 : decode cX6_mark 33 = .ok (.invokevirtual 241, 3) := by decide +kernel
theorem dX6_mark_36 : decode cX6_mark 36 = .ok (.ifCond .ne 6, 3) := by decide +kernel
theorem dX6_mark_39 : decode cX6_mark 39 = .ok (.ldc 244, 2) := by decide +kernel
theorem dX6_mark_41 : decode cX6_mark 41 = .ok (.ireturn, 1) := by decide +kernel
theorem dX6_mark_42 : decode cX6_mark 42 = .ok (.aload 4, 2) := by decide +kernel
theorem dX6_mark_44 : decode cX6_mark 44 = .ok (.getfield 199, 3) := by decide +kernel
theorem dX6_mark_47 : decode cX6_mark 47 = .ok (.ifCond .ne 23, 3) := by decide +kernel
theorem dX6_mark_50 : decode cX6_mark 50 = .ok (.iload_n 3, 1) := by decide +kernel
theorem dX6_mark_51 : decode cX6_mark 51 = .ok (.ldc 172, 2) := by decide +kernel
theorem dX6_mark_53 : decode cX6_mark 53 = .ok (.if_icmp .ne 6, 3) := by decide +kernel
theorem dX6_mark_56 : decode cX6_mark 56 = .ok (.ldc 136, 2) := by decide +kernel
theorem dX6_mark_58 : decode cX6_mark 58 = .ok (.ireturn, 1) := by decide +kernel
theorem dX6_mark_59 : decode cX6_mark 59 = .ok (.aload 4, 2) := by decide +kernel
theorem dX6_mark_61 : decode cX6_mark 61 = .ok (.getfield 245, 3) := by decide +kernel
theorem dX6_mark_64 : decode cX6_mark 64 = .ok (.iload_n 2, 1) := by decide +kernel
theorem dX6_mark_65 : decode cX6_mark 65 = .ok (.iload_n 3, 1) := by decide +kernel
theorem dX6_mark_66 : decode cX6_mark 66 = .ok (.i2s, 1) := by decide +kernel
theorem dX6_mark_67 : decode cX6_mark 67 = .ok (.iastore, 1) := by decide +kernel
theorem dX6_mark_68 : decode cX6_mark 68 = .ok (.iconst 1, 1) := by decide +kernel
theorem dX6_mark_69 : decode cX6_mark 69 = .ok (.ireturn, 1) := by decide +kernel
theorem dX6_mark_70 : decode cX6_mark 70 = .ok (.iload_n 3, 1) := by decide +kernel
theorem dX6_mark_71 : decode cX6_mark 71 = .ok (.ldc 172, 2) := by decide +kernel
theorem dX6_mark_73 : decode cX6_mark 73 = .ok (.if_icmp .eq 18, 3) := by decide +kernel
theorem dX6_mark_76 : decode cX6_mark 76 = .ok (.iload_n 3, 1) := by decide +kernel
theorem dX6_mark_77 : decode cX6_mark 77 = .ok (.ldc 248, 2) := by decide +kernel
theorem dX6_mark_79 : decode cX6_mark 79 = .ok (.if_icmp .lt 9, 3) := by decide +kernel
theorem dX6_mark_82 : decode cX6_mark 82 = .ok (.iload_n 3, 1) := by decide +kernel
theorem dX6_mark_83 : decode cX6_mark 83 = .ok (.ldc 249, 2) := by decide +kernel
theorem dX6_mark_85 : decode cX6_mark 85 = .ok (.if_icmp .le 6, 3) := by decide +kernel
theorem dX6_mark_88 : decode cX6_mark 88 = .ok (.ldc 80, 2) := by decide +kernel
theorem dX6_mark_90 : decode cX6_mark 90 = .ok (.ireturn, 1) := by decide +kernel
theorem dX6_mark_91 : decode cX6_mark 91 = .ok (.aload 4, 2) := by decide +kernel
theorem dX6_mark_93 : decode cX6_mark 93 = .ok (.getfield 245, 3) := by decide +kernel
theorem dX6_mark_96 : decode cX6_mark 96 = .ok (.iload_n 2, 1) := by decide +kernel
theorem dX6_mark_97 : decode cX6_mark 97 = .ok (.iload_n 3, 1) := by decide +kernel
theorem dX6_mark_98 : decode cX6_mark 98 = .ok (.iastore, 1) := by decide +kernel
theorem dX6_mark_99 : decode cX6_mark 99 = .ok (.iconst 1, 1) := by decide +kernel
theorem dX6_mark_100 : decode cX6_mark 100 = .ok (.ireturn, 1) := by decide +kernel
theorem dX6_pour_0 : decode cX6_pour 0 = .ok (.iload_n 1, 1) := by decide +kernel
theorem dX6_pour_1 : decode cX6_pour 1 = .ok (.invokestatic 196, 3) := by decide +kernel
theorem dX6_pour_4 : decode cX6_pour 4 = .ok (.ifCond .eq 11, 3) := by decide +kernel
theorem dX6_pour_7 : decode cX6_pour 7 = .ok (.aload_n 0, 1) := by decide +kernel
theorem dX6_pour_8 : decode cX6_pour 8 = .ok (.iload_n 2, 1) := by decide +kernel
theorem dX6_pour_9 : decode cX6_pour 9 = .ok (.invokevirtual 94, 3) := by decide +kernel
theorem dX6_pour_12 : decode cX6_pour 12 = .ok (.ifCond .ne 6, 3) := by decide +kernel
theorem dX6_pour_15 : decode cX6_pour 15 = .ok (.ldc 80, 2) := by decide +kernel
theorem dX6_pour_17 : decode cX6_pour 17 = .ok (.ireturn, 1) := by decide +kernel
theorem dX6_pour_18 : decode cX6_pour 18 = .ok (.aload_n 0, 1) := by decide +kernel
theorem dX6_pour_19 : decode cX6_pour 19 = .ok (.getfield 57, 3) := by decide +kernel
theorem dX6_pour_22 : decode cX6_pour 22 = .ok (.iload_n 1, 1) := by decide +kernel
theorem dX6_pour_23 : decode cX6_pour 23 = .ok (.aaload, 1) := by decide +kernel
theorem dX6_pour_24 : decode cX6_pour 24 = .ok (.astore_n 3, 1) := by decide +kernel
theorem dX6_pour_25 : decode cX6_pour 25 = .ok (.aload_n 3, 1) := by decide +kernel
theorem dX6_pour_26 : decode cX6_pour 26 = .ok (.getfield 199, 3) := by decide +kernel
theorem dX6_pour_29 : decode cX6_pour 29 = .ok (.iconst (-1), 1) := by decide +kernel
theorem dX6_pour_30 : decode cX6_pour 30 = .ok (.if_icmp .ne 6, 3) := by decide +kernel
theorem dX6_pour_33 : decode cX6_pour 33 = .ok (.ldc 202, 2) := by decide +kernel
theorem dX6_pour_35 : decode cX6_pour 35 = .ok (.ireturn, 1) := by decide +kernel
theorem dX6_pour_36 : decode cX6_pour 36 = .ok (.aload_n 0, 1) := by decide +kernel
theorem dX6_pour_37 : decode cX6_pour 37 = .ok (.getfield 14, 3) := by decide +kernel
theorem dX6_pour_40 : decode cX6_pour 40 = .ok (.getfield 85, 3) := by decide +kernel
theorem dX6_pour_43 : decode cX6_pour 43 = .ok (.iload_n 2, 1) := by decide +kernel
theorem dX6_pour_44 : decode cX6_pour 44 = .ok (.aaload, 1) := by decide +kernel
theorem dX6_pour_45 : decode cX6_pour 45 = .ok (.astore 4, 2) := by decide +kernel
theorem dX6_pour_47 : decode cX6_pour 47 = .ok (.iconst 0, 1) := by decide +kernel
theorem dX6_pour_48 : decode cX6_pour 48 = .ok (.istore 5, 2) := by decide +kernel
theorem dX6_pour_50 : decode cX6_pour 50 = .ok (.iconst 0, 1) := by decide +kernel
theorem dX6_pour_51 : decode cX6_pour 51 = .ok (.istore 6, 2) := by decide +kernel
theorem dX6_pour_53 : decode cX6_pour 53 = .ok (.iload 6, 2) := by decide +kernel
theorem dX6_pour_55 : decode cX6_pour 55 = .ok (.bipush 24, 2) := by decide +kernel
theorem dX6_pour_57 : decode cX6_pour 57 = .ok (.if_icmp .ge 59, 3) := by decide +kernel
theorem dX6_pour_60 : decode cX6_pour 60 = .ok (.aload_n 3, 1) := by decide +kernel
theorem dX6_pour_61 : decode cX6_pour 61 = .ok (.iload 6, 2) := by decide +kernel
theorem dX6_pour_63 : decode cX6_pour 63 = .ok (.invokevirtual 250, 3) := by decide +kernel
theorem dX6_pour_66 : decode cX6_pour 66 = .ok (.ifCond .eq 44, 3) := by decide +kernel
theorem dX6_pour_69 : decode cX6_pour 69 = .ok (.aload_n 3, 1) := by decide +kernel
theorem dX6_pour_70 : decode cX6_pour 70 = .ok (.getfield 245, 3) := by decide +kernel
theorem dX6_pour_73 : decode cX6_pour 73 = .ok (.iload 6, 2) := by decide +kernel
theorem dX6_pour_75 : decode cX6_pour 75 = .ok (.iaload, 1) := by decide +kernel
theorem dX6_pour_76 : decode cX6_pour 76 = .ok (.iconst 0, 1) := by decide +kernel
theorem dX6_pour_77 : decode cX6_pour 77 = .ok (.bipush 99, 2) := by decide +kernel
theorem dX6_pour_79 : decode cX6_pour 79 = .ok (.invokestatic 253, 3) := by decide +kernel
theorem dX6_pour_82 : decode cX6_pour 82 = .ok (.istore 7, 2) := by decide +kernel
theorem dX6_pour_84 : decode cX6_pour 84 = .ok (.aload 4, 2) := by decide +kernel
theorem dX6_pour_86 : decode cX6_pour 86 = .ok (.getfield 149, 3) := by decide +kernel
theorem dX6_pour_89 : decode cX6_pour 89 = .ok (.iload 6, 2) := by decide +kernel
theorem dX6_pour_91 : decode cX6_pour 91 = .ok (.iaload, 1) := by decide +kernel
theorem dX6_pour_92 : decode cX6_pour 92 = .ok (.iload 7, 2) := by decide +kernel
theorem dX6_pour_94 : decode cX6_pour 94 = .ok (.if_icmp .eq 16, 3) := by decide +kernel
theorem dX6_pour_97 : decode cX6_pour 97 = .ok (.aload 4, 2) := by decide +kernel
theorem dX6_pour_99 : decode cX6_pour 99 = .ok (.getfield 149, 3) := by decide +kernel
theorem dX6_pour_102 : decode cX6_pour 102 = .ok (.iload 6, 2) := by decide +kernel
theorem dX6_pour_104 : decode cX6_pour 104 = .ok (.iload 7, 2) := by decide +kernel
theorem dX6_pour_106 : decode cX6_pour 106 = .ok (.iastore, 1) := by decide +kernel
theorem dX6_pour_107 : decode cX6_pour 107 = .ok (.iinc 5 1, 3) := by decide +kernel
theorem dX6_pour_110 : decode cX6_pour 110 = .ok (.iinc 6 1, 3) := by decide +kernel
theorem dX6_pour_113 : decode cX6_pour 113 = .ok (.goto (-60), 3) := by decide +kernel
theorem dX6_pour_116 : decode cX6_pour 116 = .ok (.iload 5, 2) := by decide +kernel
theorem dX6_pour_118 : decode cX6_pour 118 = .ok (.ireturn, 1) := by decide +kernel
theorem dX6_reads_0 : decode cX6_reads 0 = .ok (.iload_n 1, 1) := by decide +kernel
theorem dX6_reads_1 : decode cX6_reads 1 = .ok (.invokestatic 196, 3) := by decide +kernel
theorem dX6_reads_4 : decode cX6_reads 4 = .ok (.ifCond .eq 11, 3) := by decide +kernel
theorem dX6_reads_7 : decode cX6_reads 7 = .ok (.aload_n 0, 1) := by decide +kernel
theorem dX6_reads_8 : decode cX6_reads 8 = .ok (.iload_n 2, 1) := by decide +kernel
theorem dX6_reads_9 : decode cX6_reads 9 = .ok (.invokevirtual 94, 3) := by decide +kernel
theorem dX6_reads_12 : decode cX6_reads 12 = .ok (.ifCond .ne 6, 3) := by decide +kernel
theorem dX6_reads_15 : decode cX6_reads 15 = .ok (.ldc 80, 2) := by decide +kernel
theorem dX6_reads_17 : decode cX6_reads 17 = .ok (.ireturn, 1) := by decide +kernel
theorem dX6_reads_18 : decode cX6_reads 18 = .ok (.aload_n 0, 1) := by decide +kernel
theorem dX6_reads_19 : decode cX6_reads 19 = .ok (.getfield 57, 3) := by decide +kernel
theorem dX6_reads_22 : decode cX6_reads 22 = .ok (.iload_n 1, 1) := by decide +kernel
theorem dX6_reads_23 : decode cX6_reads 23 = .ok (.aaload, 1) := by decide +kernel
theorem dX6_reads_24 : decode cX6_reads 24 = .ok (.astore_n 3, 1) := by decide +kernel
theorem dX6_reads_25 : decode cX6_reads 25 = .ok (.aload_n 3, 1) := by decide +kernel
theorem dX6_reads_26 : decode cX6_reads 26 = .ok (.getfield 199, 3) := by decide +kernel
theorem dX6_reads_29 : decode cX6_reads 29 = .ok (.iconst (-1), 1) := by decide +kernel
theorem dX6_reads_30 : decode cX6_reads 30 = .ok (.if_icmp .ne 6, 3) := by decide +kernel
theorem dX6_reads_33 : decode cX6_reads 33 = .ok (.ldc 202, 2) := by decide +kernel
theorem dX6_reads_35 : decode cX6_reads 35 = .ok (.ireturn, 1) := by decide +kernel
theorem dX6_reads_36 : decode cX6_reads 36 = .ok (.aload_n 0, 1) := by decide +kernel
theorem dX6_reads_37 : decode cX6_reads 37 = .ok (.getfield 14, 3) := by decide +kernel
theorem dX6_reads_40 : decode cX6_reads 40 = .ok (.getfield 85, 3) := by decide +kernel
theorem dX6_reads_43 : decode cX6_reads 43 = .ok (.iload_n 2, 1) := by decide +kernel
theorem dX6_reads_44 : decode cX6_reads 44 = .ok (.aaload, 1) := by decide +kernel
theorem dX6_reads_45 : decode cX6_reads 45 = .ok (.astore 4, 2) := by decide +kernel
theorem dX6_reads_47 : decode cX6_reads 47 = .ok (.iconst 0, 1) := by decide +kernel
theorem dX6_reads_48 : decode cX6_reads 48 = .ok (.istore 5, 2) := by decide +kernel
theorem dX6_reads_50 : decode cX6_reads 50 = .ok (.iload 5, 2) := by decide +kernel
theorem dX6_reads_52 : decode cX6_reads 52 = .ok (.bipush 24, 2) := by decide +kernel
theorem dX6_reads_54 : decode cX6_reads 54 = .ok (.if_icmp .ge 39, 3) := by decide +kernel
theorem dX6_reads_57 : decode cX6_reads 57 = .ok (.aload_n 3, 1) := by decide +kernel
theorem dX6_reads_58 : decode cX6_reads 58 = .ok (.iload 5, 2) := by decide +kernel
theorem dX6_reads_60 : decode cX6_reads 60 = .ok (.invokevirtual 250, 3) := by decide +kernel
theorem dX6_reads_63 : decode cX6_reads 63 = .ok (.ifCond .eq 24, 3) := by decide +kernel
theorem dX6_reads_66 : decode cX6_reads 66 = .ok (.aload_n 3, 1) := by decide +kernel
theorem dX6_reads_67 : decode cX6_reads 67 = .ok (.getfield 245, 3) := by decide +kernel
theorem dX6_reads_70 : decode cX6_reads 70 = .ok (.iload 5, 2) := by decide +kernel
theorem dX6_reads_72 : decode cX6_reads 72 = .ok (.iaload, 1) := by decide +kernel
theorem dX6_reads_73 : decode cX6_reads 73 = .ok (.aload 4, 2) := by decide +kernel
theorem dX6_reads_75 : decode cX6_reads 75 = .ok (.getfield 149, 3) := by decide +kernel
theorem dX6_reads_78 : decode cX6_reads 78 = .ok (.iload 5, 2) := by decide +kernel
theorem dX6_reads_80 : decode cX6_reads 80 = .ok (.iaload, 1) := by decide +kernel
theorem dX6_reads_81 : decode cX6_reads 81 = .ok (.if_icmp .eq 6, 3) := by decide +kernel
theorem dX6_reads_84 : decode cX6_reads 84 = .ok (.iload 5, 2) := by decide +kernel
theorem dX6_reads_86 : decode cX6_reads 86 = .ok (.ireturn, 1) := by decide +kernel
theorem dX6_reads_87 : decode cX6_reads 87 = .ok (.iinc 5 1, 3) := by decide +kernel
theorem dX6_reads_90 : decode cX6_reads 90 = .ok (.goto (-40), 3) := by decide +kernel
theorem dX6_reads_93 : decode cX6_reads 93 = .ok (.ldc 172, 2) := by decide +kernel
theorem dX6_reads_95 : decode cX6_reads 95 = .ok (.ireturn, 1) := by decide +kernel
theorem dX6_copy_0 : decode cX6_copy 0 = .ok (.iload_n 1, 1) := by decide +kernel
theorem dX6_copy_1 : decode cX6_copy 1 = .ok (.invokestatic 196, 3) := by decide +kernel
theorem dX6_copy_4 : decode cX6_copy 4 = .ok (.ifCond .eq 10, 3) := by decide +kernel
theorem dX6_copy_7 : decode cX6_copy 7 = .ok (.iload_n 3, 1) := by decide +kernel
theorem dX6_copy_8 : decode cX6_copy 8 = .ok (.invokestatic 196, 3) := by decide +kernel
theorem dX6_copy_11 : decode cX6_copy 11 = .ok (.ifCond .ne 6, 3) := by decide +kernel
theorem dX6_copy_14 : decode cX6_copy 14 = .ok (.ldc 80, 2) := by decide +kernel
theorem dX6_copy_16 : decode cX6_copy 16 = .ok (.ireturn, 1) := by decide +kernel
theorem dX6_copy_17 : decode cX6_copy 17 = .ok (.aload_n 0, 1) := by decide +kernel
theorem dX6_copy_18 : decode cX6_copy 18 = .ok (.getfield 57, 3) := by decide +kernel
theorem dX6_copy_21 : decode cX6_copy 21 = .ok (.iload_n 1, 1) := by decide +kernel
theorem dX6_copy_22 : decode cX6_copy 22 = .ok (.aaload, 1) := by decide +kernel
theorem dX6_copy_23 : decode cX6_copy 23 = .ok (.astore 6, 2) := by decide +kernel
theorem dX6_copy_25 : decode cX6_copy 25 = .ok (.aload_n 0, 1) := by decide +kernel
theorem dX6_copy_26 : decode cX6_copy 26 = .ok (.getfield 57, 3) := by decide +kernel
theorem dX6_copy_29 : decode cX6_copy 29 = .ok (.iload_n 3, 1) := by decide +kernel
theorem dX6_copy_30 : decode cX6_copy 30 = .ok (.aaload, 1) := by decide +kernel
theorem dX6_copy_31 : decode cX6_copy 31 = .ok (.astore 7, 2) := by decide +kernel
theorem dX6_copy_33 : decode cX6_copy 33 = .ok (.aload 6, 2) := by decide +kernel
theorem dX6_copy_35 : decode cX6_copy 35 = .ok (.getfield 199, 3) := by decide +kernel
theorem dX6_copy_38 : decode cX6_copy 38 = .ok (.iconst (-1), 1) := by decide +kernel
theorem dX6_copy_39 : decode cX6_copy 39 = .ok (.if_icmp .eq 12, 3) := by decide +kernel
theorem dX6_copy_42 : decode cX6_copy 42 = .ok (.aload 7, 2) := by decide +kernel
theorem dX6_copy_44 : decode cX6_copy 44 = .ok (.getfield 199, 3) := by decide +kernel
theorem dX6_copy_47 : decode cX6_copy 47 = .ok (.iconst (-1), 1) := by decide +kernel
theorem dX6_copy_48 : decode cX6_copy 48 = .ok (.if_icmp .ne 6, 3) := by decide +kernel
theorem dX6_copy_51 : decode cX6_copy 51 = .ok (.ldc 202, 2) := by decide +kernel
theorem dX6_copy_53 : decode cX6_copy 53 = .ok (.ireturn, 1) := by decide +kernel
theorem dX6_copy_54 : decode cX6_copy 54 = .ok (.aload 6, 2) := by decide +kernel
theorem dX6_copy_56 : decode cX6_copy 56 = .ok (.getfield 199, 3) := by decide +kernel
theorem dX6_copy_59 : decode cX6_copy 59 = .ok (.aload 7, 2) := by decide +kernel
theorem dX6_copy_61 : decode cX6_copy 61 = .ok (.getfield 199, 3) := by decide +kernel
theorem dX6_copy_64 : decode cX6_copy 64 = .ok (.if_icmp .eq 6, 3) := by decide +kernel
theorem dX6_copy_67 : decode cX6_copy 67 = .ok (.ldc 136, 2) := by decide +kernel
theorem dX6_copy_69 : decode cX6_copy 69 = .ok (.ireturn, 1) := by decide +kernel
theorem dX6_copy_70 : decode cX6_copy 70 = .ok (.aload 6, 2) := by decide +kernel
theorem dX6_copy_72 : decode cX6_copy 72 = .ok (.iload_n 2, 1) := by decide +kernel
theorem dX6_copy_73 : decode cX6_copy 73 = .ok (.iload 5, 2) := by decide +kernel
theorem dX6_copy_75 : decode cX6_copy 75 = .ok (.invokevirtual 257, 3) := by decide +kernel
theorem dX6_copy_78 : decode cX6_copy 78 = .ok (.ifCond .eq 15, 3) := by decide +kernel
theorem dX6_copy_81 : decode cX6_copy 81 = .ok (.aload 7, 2) := by decide +kernel
theorem dX6_copy_83 : decode cX6_copy 83 = .ok (.iload 4, 2) := by decide +kernel
theorem dX6_copy_85 : decode cX6_copy 85 = .ok (.iload 5, 2) := by decide +kernel
theorem dX6_copy_87 : decode cX6_copy 87 = .ok (.invokevirtual 257, 3) := by decide +kernel
theorem dX6_copy_90 : decode cX6_copy 90 = .ok (.ifCond .ne 6, 3) := by decide +kernel
theorem dX6_copy_93 : decode cX6_copy 93 = .ok (.ldc 244, 2) := by decide +kernel
theorem dX6_copy_95 : decode cX6_copy 95 = .ok (.ireturn, 1) := by decide +kernel
theorem dX6_copy_96 : decode cX6_copy 96 = .ok (.aload 6, 2) := by decide +kernel
theorem dX6_copy_98 : decode cX6_copy 98 = .ok (.getfield 245, 3) := by decide +kernel
theorem dX6_copy_101 : decode cX6_copy 101 = .ok (.iload_n 2, 1) := by decide +kernel
theorem dX6_copy_102 : decode cX6_copy 102 = .ok (.aload 7, 2) := by decide +kernel
theorem dX6_copy_104 : decode cX6_copy 104 = .ok (.getfield 245, 3) := by decide +kernel
theorem dX6_copy_107 : decode cX6_copy 107 = .ok (.iload 4, 2) := by decide +kernel
theorem dX6_copy_109 : decode cX6_copy 109 = .ok (.iload 5, 2) := by decide +kernel
theorem dX6_copy_111 : decode cX6_copy 111 = .ok (.invokestatic 260, 3) := by decide +kernel
theorem dX6_copy_114 : decode cX6_copy 114 = .ok (.iload 5, 2) := by decide +kernel
theorem dX6_copy_116 : decode cX6_copy 116 = .ok (.ireturn, 1) := by decide +kernel
theorem dX6_lay_0 : decode cX6_lay 0 = .ok (.iload_n 1, 1) := by decide +kernel
theorem dX6_lay_1 : decode cX6_lay 1 = .ok (.invokestatic 266, 3) := by decide +kernel
theorem dX6_lay_4 : decode cX6_lay 4 = .ok (.ifCond .eq 12, 3) := by decide +kernel
theorem dX6_lay_7 : decode cX6_lay 7 = .ok (.iload_n 2, 1) := by decide +kernel
theorem dX6_lay_8 : decode cX6_lay 8 = .ok (.ifCond .lt 8, 3) := by decide +kernel
theorem dX6_lay_11 : decode cX6_lay 11 = .ok (.iload_n 2, 1) := by decide +kernel
theorem dX6_lay_12 : decode cX6_lay 12 = .ok (.iconst 3, 1) := by decide +kernel
theorem dX6_lay_13 : decode cX6_lay 13 = .ok (.if_icmp .le 6, 3) := by decide +kernel
theorem dX6_lay_16 : decode cX6_lay 16 = .ok (.ldc 80, 2) := by decide +kernel
theorem dX6_lay_18 : decode cX6_lay 18 = .ok (.ireturn, 1) := by decide +kernel
theorem dX6_lay_19 : decode cX6_lay 19 = .ok (.iload_n 2, 1) := by decide +kernel
theorem dX6_lay_20 : decode cX6_lay 20 = .ok (.iconst 1, 1) := by decide +kernel
theorem dX6_lay_21 : decode cX6_lay 21 = .ok (.if_icmp .ne 11, 3) := by decide +kernel
theorem dX6_lay_24 : decode cX6_lay 24 = .ok (.aload_n 0, 1) := by decide +kernel
theorem dX6_lay_25 : decode cX6_lay 25 = .ok (.iload_n 3, 1) := by decide +kernel
theorem dX6_lay_26 : decode cX6_lay 26 = .ok (.invokevirtual 94, 3) := by decide +kernel
theorem dX6_lay_29 : decode cX6_lay 29 = .ok (.ifCond .eq 15, 3) := by decide +kernel
theorem dX6_lay_32 : decode cX6_lay 32 = .ok (.iload_n 2, 1) := by decide +kernel
theorem dX6_lay_33 : decode cX6_lay 33 = .ok (.iconst 2, 1) := by decide +kernel
theorem dX6_lay_34 : decode cX6_lay 34 = .ok (.if_icmp .ne 13, 3) := by decide +kernel
theorem dX6_lay_37 : decode cX6_lay 37 = .ok (.iload_n 3, 1) := by decide +kernel
theorem dX6_lay_38 : decode cX6_lay 38 = .ok (.invokestatic 196, 3) := by decide +kernel
theorem dX6_lay_41 : decode cX6_lay 41 = .ok (.ifCond .ne 6, 3) := by decide +kernel
theorem dX6_lay_44 : decode cX6_lay 44 = .ok (.ldc 80, 2) := by decide +kernel
theorem dX6_lay_46 : decode cX6_lay 46 = .ok (.ireturn, 1) := by decide +kernel
theorem dX6_lay_47 : decode cX6_lay 47 = .ok (.iload_n 2, 1) := by decide +kernel
theorem dX6_lay_48 : decode cX6_lay 48 = .ok (.iconst 2, 1) := by decide +kernel
theorem dX6_lay_49 : decode cX6_lay 49 = .ok (.if_icmp .ne 19, 3) := by decide +kernel
theorem dX6_lay_52 : decode cX6_lay 52 = .ok (.aload_n 0, 1) := by decide +kernel
theorem dX6_lay_53 : decode cX6_lay 53 = .ok (.getfield 57, 3) := by decide +kernel
theorem dX6_lay_56 : decode cX6_lay 56 = .ok (.iload_n 3, 1) := by decide +kernel
theorem dX6_lay_57 : decode cX6_lay 57 = .ok (.aaload, 1) := by decide +kernel
theorem dX6_lay_58 : decode cX6_lay 58 = .ok (.getfield 199, 3) := by decide +kernel
theorem dX6_lay_61 : decode cX6_lay 61 = .ok (.iconst (-1), 1) := by decide +kernel
theorem dX6_lay_62 : decode cX6_lay 62 = .ok (.if_icmp .ne 6, 3) := by decide +kernel
theorem dX6_lay_65 : decode cX6_lay 65 = .ok (.ldc 202, 2) := by decide +kernel
theorem dX6_lay_67 : decode cX6_lay 67 = .ok (.ireturn, 1) := by decide +kernel
theorem dX6_lay_68 : decode cX6_lay 68 = .ok (.aload_n 0, 1) := by decide +kernel
theorem dX6_lay_69 : decode cX6_lay 69 = .ok (.getfield 63, 3) := by decide +kernel
theorem dX6_lay_72 : decode cX6_lay 72 = .ok (.iload_n 1, 1) := by decide +kernel
theorem dX6_lay_73 : decode cX6_lay 73 = .ok (.aaload, 1) := by decide +kernel
theorem dX6_lay_74 : decode cX6_lay 74 = .ok (.astore 4, 2) := by decide +kernel
theorem dX6_lay_76 : decode cX6_lay 76 = .ok (.aload 4, 2) := by decide +kernel
theorem dX6_lay_78 : decode cX6_lay 78 = .ok (.getfield 269, 3) := by decide +kernel
theorem dX6_lay_81 : decode cX6_lay 81 = .ok (.istore 5, 2) := by decide +kernel
theorem dX6_lay_83 : decode cX6_lay 83 = .ok (.aload 4, 2) := by decide +kernel
theorem dX6_lay_85 : decode cX6_lay 85 = .ok (.iload_n 2, 1) := by decide +kernel
theorem dX6_lay_86 : decode cX6_lay 86 = .ok (.putfield 269, 3) := by decide +kernel
theorem dX6_lay_89 : decode cX6_lay 89 = .ok (.iload_n 2, 1) := by decide +kernel
theorem dX6_lay_90 : decode cX6_lay 90 = .ok (.iconst 1, 1) := by decide +kernel
theorem dX6_lay_91 : decode cX6_lay 91 = .ok (.if_icmp .ne 23, 3) := by decide +kernel
theorem dX6_lay_94 : decode cX6_lay 94 = .ok (.aload 4, 2) := by decide +kernel
theorem dX6_lay_96 : decode cX6_lay 96 = .ok (.getfield 272, 3) := by decide +kernel
theorem dX6_lay_99 : decode cX6_lay 99 = .ok (.aload_n 0, 1) := by decide +kernel
theorem dX6_lay_100 : decode cX6_lay 100 = .ok (.getfield 14, 3) := by decide +kernel
theorem dX6_lay_103 : decode cX6_lay 103 = .ok (.getfield 85, 3) := by decide +kernel
theorem dX6_lay_106 : decode cX6_lay 106 = .ok (.iload_n 3, 1) := by decide +kernel
theorem dX6_lay_107 : decode cX6_lay 107 = .ok (.aaload, 1) := by decide +kernel
theorem dX6_lay_108 : decode cX6_lay 108 = .ok (.invokevirtual 276, 3) := by decide +kernel
theorem dX6_lay_111 : decode cX6_lay 111 = .ok (.goto 36, 3) := by decide +kernel
theorem dX6_lay_114 : decode cX6_lay 114 = .ok (.iload_n 2, 1) := by decide +kernel
theorem dX6_lay_115 : decode cX6_lay 115 = .ok (.iconst 2, 1) := by decide +kernel
theorem dX6_lay_116 : decode cX6_lay 116 = .ok (.if_icmp .ne 20, 3) := by decide +kernel
theorem dX6_lay_119 : decode cX6_lay 119 = .ok (.aload 4, 2) := by decide +kernel
theorem dX6_lay_121 : decode cX6_lay 121 = .ok (.getfield 280, 3) := by decide +kernel
theorem dX6_lay_124 : decode cX6_lay 124 = .ok (.aload_n 0, 1) := by decide +kernel
theorem dX6_lay_125 : decode cX6_lay 125 = .ok (.getfield 57, 3) := by decide +kernel
theorem dX6_lay_128 : decode cX6_lay 128 = .ok (.iload_n 3, 1) := by decide +kernel
theorem dX6_lay_129 : decode cX6_lay 129 = .ok (.aaload, 1) := by decide +kernel
theorem dX6_lay_130 : decode cX6_lay 130 = .ok (.invokevirtual 284, 3) := by decide +kernel
theorem dX6_lay_133 : decode cX6_lay 133 = .ok (.goto 14, 3) := by decide +kernel
theorem dX6_lay_136 : decode cX6_lay 136 = .ok (.iload_n 2, 1) := by decide +kernel
theorem dX6_lay_137 : decode cX6_lay 137 = .ok (.iconst 3, 1) := by decide +kernel
theorem dX6_lay_138 : decode cX6_lay 138 = .ok (.if_icmp .ne 9, 3) := by decide +kernel
theorem dX6_lay_141 : decode cX6_lay 141 = .ok (.aload 4, 2) := by decide +kernel
theorem dX6_lay_143 : decode cX6_lay 143 = .ok (.iload_n 3, 1) := by decide +kernel
theorem dX6_lay_144 : decode cX6_lay 144 = .ok (.putfield 287, 3) := by decide +kernel
theorem dX6_lay_147 : decode cX6_lay 147 = .ok (.iload 5, 2) := by decide +kernel
theorem dX6_lay_149 : decode cX6_lay 149 = .ok (.ireturn, 1) := by decide +kernel
theorem dX6_ask_0 : decode cX6_ask 0 = .ok (.iload_n 1, 1) := by decide +kernel
theorem dX6_ask_1 : decode cX6_ask 1 = .ok (.invokestatic 266, 3) := by decide +kernel
theorem dX6_ask_4 : decode cX6_ask 4 = .ok (.ifCond .eq 10, 3) := by decide +kernel
theorem dX6_ask_7 : decode cX6_ask 7 = .ok (.iload_n 2, 1) := by decide +kernel
theorem dX6_ask_8 : decode cX6_ask 8 = .ok (.invokestatic 76, 3) := by decide +kernel
theorem dX6_ask_11 : decode cX6_ask 11 = .ok (.ifCond .ne 6, 3) := by decide +kernel
theorem dX6_ask_14 : decode cX6_ask 14 = .ok (.ldc 80, 2) := by decide +kernel
theorem dX6_ask_16 : decode cX6_ask 16 = .ok (.ireturn, 1) := by decide +kernel
theorem dX6_ask_17 : decode cX6_ask 17 = .ok (.aload_n 0, 1) := by decide +kernel
theorem dX6_ask_18 : decode cX6_ask 18 = .ok (.getfield 63, 3) := by decide +kernel
theorem dX6_ask_21 : decode cX6_ask 21 = .ok (.iload_n 1, 1) := by decide +kernel
theorem dX6_ask_22 : decode cX6_ask 22 = .ok (.aaload, 1) := by decide +kernel
theorem dX6_ask_23 : decode cX6_ask 23 = .ok (.astore_n 3, 1) := by decide +kernel
theorem dX6_ask_24 : decode cX6_ask 24 = .ok (.aload_n 3, 1) := by decide +kernel
theorem dX6_ask_25 : decode cX6_ask 25 = .ok (.getfield 269, 3) := by decide +kernel
theorem dX6_ask_28 : decode cX6_ask 28 = .ok (.ifCond .ne 6, 3) := by decide +kernel
theorem dX6_ask_31 : decode cX6_ask 31 = .ok (.ldc 202, 2) := by decide +kernel
theorem dX6_ask_33 : decode cX6_ask 33 = .ok (.ireturn, 1) := by decide +kernel
theorem dX6_ask_34 : decode cX6_ask 34 = .ok (.aload_n 3, 1) := by decide +kernel
theorem dX6_ask_35 : decode cX6_ask 35 = .ok (.getfield 269, 3) := by decide +kernel
theorem dX6_ask_38 : decode cX6_ask 38 = .ok (.iconst 1, 1) := by decide +kernel
theorem dX6_ask_39 : decode cX6_ask 39 = .ok (.if_icmp .ne 17, 3) := by decide +kernel
theorem dX6_ask_42 : decode cX6_ask 42 = .ok (.aload_n 3, 1) := by decide +kernel
theorem dX6_ask_43 : decode cX6_ask 43 = .ok (.getfield 272, 3) := by decide +kernel
theorem dX6_ask_46 : decode cX6_ask 46 = .ok (.getfield 97, 3) := by decide +kernel
theorem dX6_ask_49 : decode cX6_ask 49 = .ok (.iload_n 2, 1) := by decide +kernel
theorem dX6_ask_50 : decode cX6_ask 50 = .ok (.invokestatic 132, 3) := by decide +kernel
theorem dX6_ask_53 : decode cX6_ask 53 = .ok (.ifCond .ne 6, 3) := by decide +kernel
theorem dX6_ask_56 : decode cX6_ask 56 = .ok (.ldc 136, 2) := by decide +kernel
theorem dX6_ask_58 : decode cX6_ask 58 = .ok (.ireturn, 1) := by decide +kernel
theorem dX6_ask_59 : decode cX6_ask 59 = .ok (.aload_n 3, 1) := by decide +kernel
theorem dX6_ask_60 : decode cX6_ask 60 = .ok (.getfield 272, 3) := by decide +kernel
theorem dX6_ask_63 : decode cX6_ask 63 = .ok (.invokevirtual 119, 3) := by decide +kernel
theorem dX6_ask_66 : decode cX6_ask 66 = .ok (.ireturn, 1) := by decide +kernel
theorem dX6_item_0 : decode cX6_item 0 = .ok (.iload_n 1, 1) := by decide +kernel
theorem dX6_item_1 : decode cX6_item 1 = .ok (.invokestatic 266, 3) := by decide +kernel
theorem dX6_item_4 : decode cX6_item 4 = .ok (.ifCond .ne 6, 3) := by decide +kernel
theorem dX6_item_7 : decode cX6_item 7 = .ok (.ldc 80, 2) := by decide +kernel
theorem dX6_item_9 : decode cX6_item 9 = .ok (.ireturn, 1) := by decide +kernel
theorem dX6_item_10 : decode cX6_item 10 = .ok (.aload_n 0, 1) := by decide +kernel
theorem dX6_item_11 : decode cX6_item 11 = .ok (.getfield 63, 3) := by decide +kernel
theorem dX6_item_14 : decode cX6_item 14 = .ok (.iload_n 1, 1) := by decide +kernel
theorem dX6_item_15 : decode cX6_item 15 = .ok (.aaload, 1) := by decide +kernel
theorem dX6_item_16 : decode cX6_item 16 = .ok (.astore_n 3, 1) := by decide +kernel
theorem dX6_item_17 : decode cX6_item 17 = .ok (.aload_n 3, 1) := by decide +kernel
theorem dX6_item_18 : decode cX6_item 18 = .ok (.getfield 269, 3) := by decide +kernel
theorem dX6_item_21 : decode cX6_item 21 = .ok (.ifCond .ne 6, 3) := by decide +kernel
theorem dX6_item_24 : decode cX6_item 24 = .ok (.ldc 202, 2) := by decide +kernel
theorem dX6_item_26 : decode cX6_item 26 = .ok (.ireturn, 1) := by decide +kernel
theorem dX6_item_27 : decode cX6_item 27 = .ok (.aload_n 3, 1) := by decide +kernel
theorem dX6_item_28 : decode cX6_item 28 = .ok (.getfield 269, 3) := by decide +kernel
theorem dX6_item_31 : decode cX6_item 31 = .ok (.iconst 2, 1) := by decide +kernel
theorem dX6_item_32 : decode cX6_item 32 = .ok (.if_icmp .eq 6, 3) := by decide +kernel
theorem dX6_item_35 : decode cX6_item 35 = .ok (.ldc 136, 2) := by decide +kernel
theorem dX6_item_37 : decode cX6_item 37 = .ok (.ireturn, 1) := by decide +kernel
theorem dX6_item_38 : decode cX6_item 38 = .ok (.aload_n 3, 1) := by decide +kernel
theorem dX6_item_39 : decode cX6_item 39 = .ok (.getfield 280, 3) := by decide +kernel
theorem dX6_item_42 : decode cX6_item 42 = .ok (.iload_n 2, 1) := by decide +kernel
theorem dX6_item_43 : decode cX6_item 43 = .ok (.invokevirtual 241, 3) := by decide +kernel
theorem dX6_item_46 : decode cX6_item 46 = .ok (.ifCond .ne 6, 3) := by decide +kernel
theorem dX6_item_49 : decode cX6_item 49 = .ok (.ldc 244, 2) := by decide +kernel
theorem dX6_item_51 : decode cX6_item 51 = .ok (.ireturn, 1) := by decide +kernel
theorem dX6_item_52 : decode cX6_item 52 = .ok (.aload_n 3, 1) := by decide +kernel
theorem dX6_item_53 : decode cX6_item 53 = .ok (.getfield 280, 3) := by decide +kernel
theorem dX6_item_56 : decode cX6_item 56 = .ok (.iload_n 2, 1) := by decide +kernel
theorem dX6_item_57 : decode cX6_item 57 = .ok (.invokevirtual 250, 3) := by decide +kernel
theorem dX6_item_60 : decode cX6_item 60 = .ok (.ifCond .eq 15, 3) := by decide +kernel
theorem dX6_item_63 : decode cX6_item 63 = .ok (.aload_n 3, 1) := by decide +kernel
theorem dX6_item_64 : decode cX6_item 64 = .ok (.getfield 280, 3) := by decide +kernel
theorem dX6_item_67 : decode cX6_item 67 = .ok (.getfield 245, 3) := by decide +kernel
theorem dX6_item_70 : decode cX6_item 70 = .ok (.iload_n 2, 1) := by decide +kernel
theorem dX6_item_71 : decode cX6_item 71 = .ok (.iaload, 1) := by decide +kernel
theorem dX6_item_72 : decode cX6_item 72 = .ok (.goto 5, 3) := by decide +kernel
theorem dX6_item_75 : decode cX6_item 75 = .ok (.ldc 136, 2) := by decide +kernel
theorem dX6_item_77 : decode cX6_item 77 = .ok (.ireturn, 1) := by decide +kernel
theorem dX6_rest_0 : decode cX6_rest 0 = .ok (.iload_n 1, 1) := by decide +kernel
theorem dX6_rest_1 : decode cX6_rest 1 = .ok (.invokestatic 266, 3) := by decide +kernel
theorem dX6_rest_4 : decode cX6_rest 4 = .ok (.ifCond .ne 6, 3) := by decide +kernel
theorem dX6_rest_7 : decode cX6_rest 7 = .ok (.ldc 80, 2) := by decide +kernel
theorem dX6_rest_9 : decode cX6_rest 9 = .ok (.ireturn, 1) := by decide +kernel
theorem dX6_rest_10 : decode cX6_rest 10 = .ok (.aload_n 0, 1) := by decide +kernel
theorem dX6_rest_11 : decode cX6_rest 11 = .ok (.getfield 63, 3) := by decide +kernel
theorem dX6_rest_14 : decode cX6_rest 14 = .ok (.iload_n 1, 1) := by decide +kernel
theorem dX6_rest_15 : decode cX6_rest 15 = .ok (.aaload, 1) := by decide +kernel
theorem dX6_rest_16 : decode cX6_rest 16 = .ok (.astore_n 3, 1) := by decide +kernel
theorem dX6_rest_17 : decode cX6_rest 17 = .ok (.aload_n 3, 1) := by decide +kernel
theorem dX6_rest_18 : decode cX6_rest 18 = .ok (.getfield 269, 3) := by decide +kernel
theorem dX6_rest_21 : decode cX6_rest 21 = .ok (.ifCond .ne 6, 3) := by decide +kernel
theorem dX6_rest_24 : decode cX6_rest 24 = .ok (.ldc 202, 2) := by decide +kernel
theorem dX6_rest_26 : decode cX6_rest 26 = .ok (.ireturn, 1) := by decide +kernel
theorem dX6_rest_27 : decode cX6_rest 27 = .ok (.aload_n 3, 1) := by decide +kernel
theorem dX6_rest_28 : decode cX6_rest 28 = .ok (.getfield 269, 3) := by decide +kernel
theorem dX6_rest_31 : decode cX6_rest 31 = .ok (.iconst 3, 1) := by decide +kernel
theorem dX6_rest_32 : decode cX6_rest 32 = .ok (.if_icmp .eq 6, 3) := by decide +kernel
theorem dX6_rest_35 : decode cX6_rest 35 = .ok (.ldc 136, 2) := by decide +kernel
theorem dX6_rest_37 : decode cX6_rest 37 = .ok (.ireturn, 1) := by decide +kernel
theorem dX6_rest_38 : decode cX6_rest 38 = .ok (.iload_n 2, 1) := by decide +kernel
theorem dX6_rest_39 : decode cX6_rest 39 = .ok (.ifCond .ne 9, 3) := by decide +kernel
theorem dX6_rest_42 : decode cX6_rest 42 = .ok (.ldc_w 290, 3) := by decide +kernel
theorem dX6_rest_45 : decode cX6_rest 45 = .ok (.goto 9, 3) := by decide +kernel
theorem dX6_rest_48 : decode cX6_rest 48 = .ok (.aload_n 3, 1) := by decide +kernel
theorem dX6_rest_49 : decode cX6_rest 49 = .ok (.getfield 287, 3) := by decide +kernel
theorem dX6_rest_52 : decode cX6_rest 52 = .ok (.iload_n 2, 1) := by decide +kernel
theorem dX6_rest_53 : decode cX6_rest 53 = .ok (.irem, 1) := by decide +kernel
theorem dX6_rest_54 : decode cX6_rest 54 = .ok (.ireturn, 1) := by decide +kernel
theorem dX6_tell_0 : decode cX6_tell 0 = .ok (.aload_n 0, 1) := by decide +kernel
theorem dX6_tell_1 : decode cX6_tell 1 = .ok (.getfield 70, 3) := by decide +kernel
theorem dX6_tell_4 : decode cX6_tell 4 = .ok (.bipush 60, 2) := by decide +kernel
theorem dX6_tell_6 : decode cX6_tell 6 = .ok (.if_icmp .lt 6, 3) := by decide +kernel
theorem dX6_tell_9 : decode cX6_tell 9 = .ok (.ldc 84, 2) := by decide +kernel
theorem dX6_tell_11 : decode cX6_tell 11 = .ok (.ireturn, 1) := by decide +kernel
theorem dX6_tell_12 : decode cX6_tell 12 = .ok (.aload_n 0, 1) := by decide +kernel
theorem dX6_tell_13 : decode cX6_tell 13 = .ok (.getfield 67, 3) := by decide +kernel
theorem dX6_tell_16 : decode cX6_tell 16 = .ok (.aload_n 0, 1) := by decide +kernel
theorem dX6_tell_17 : decode cX6_tell 17 = .ok (.getfield 70, 3) := by decide +kernel
theorem dX6_tell_20 : decode cX6_tell 20 = .ok (.iload_n 1, 1) := by decide +kernel
theorem dX6_tell_21 : decode cX6_tell 21 = .ok (.iastore, 1) := by decide +kernel
theorem dX6_tell_22 : decode cX6_tell 22 = .ok (.aload_n 0, 1) := by decide +kernel
theorem dX6_tell_23 : decode cX6_tell 23 = .ok (.dup, 1) := by decide +kernel
theorem dX6_tell_24 : decode cX6_tell 24 = .ok (.getfield 70, 3) := by decide +kernel
theorem dX6_tell_27 : decode cX6_tell 27 = .ok (.iconst 1, 1) := by decide +kernel
theorem dX6_tell_28 : decode cX6_tell 28 = .ok (.iadd, 1) := by decide +kernel
theorem dX6_tell_29 : decode cX6_tell 29 = .ok (.putfield 70, 3) := by decide +kernel
theorem dX6_tell_32 : decode cX6_tell 32 = .ok (.aload_n 0, 1) := by decide +kernel
theorem dX6_tell_33 : decode cX6_tell 33 = .ok (.getfield 70, 3) := by decide +kernel
theorem dX6_tell_36 : decode cX6_tell 36 = .ok (.ireturn, 1) := by decide +kernel
theorem dX6_check_0 : decode cX6_check 0 = .ok (.aload_n 0, 1) := by decide +kernel
theorem dX6_check_1 : decode cX6_check 1 = .ok (.getfield 70, 3) := by decide +kernel
theorem dX6_check_4 : decode cX6_check 4 = .ok (.istore_n 3, 1) := by decide +kernel
theorem dX6_check_5 : decode cX6_check 5 = .ok (.aload_n 0, 1) := by decide +kernel
theorem dX6_check_6 : decode cX6_check 6 = .ok (.iconst 0, 1) := by decide +kernel
theorem dX6_check_7 : decode cX6_check 7 = .ok (.putfield 70, 3) := by decide +kernel
theorem dX6_check_10 : decode cX6_check 10 = .ok (.iload_n 2, 1) := by decide +kernel
theorem dX6_check_11 : decode cX6_check 11 = .ok (.iconst 1, 1) := by decide +kernel
theorem dX6_check_12 : decode cX6_check 12 = .ok (.if_icmp .lt 9, 3) := by decide +kernel
theorem dX6_check_15 : decode cX6_check 15 = .ok (.iload_n 2, 1) := by decide +kernel
theorem dX6_check_16 : decode cX6_check 16 = .ok (.bipush 30, 2) := by decide +kernel
theorem dX6_check_18 : decode cX6_check 18 = .ok (.if_icmp .le 6, 3) := by decide +kernel
theorem dX6_check_21 : decode cX6_check 21 = .ok (.ldc 80, 2) := by decide +kernel
theorem dX6_check_23 : decode cX6_check 23 = .ok (.ireturn, 1) := by decide +kernel
theorem dX6_check_24 : decode cX6_check 24 = .ok (.aload_n 0, 1) := by decide +kernel
theorem dX6_check_25 : decode cX6_check 25 = .ok (.getfield 21, 3) := by decide +kernel
theorem dX6_check_28 : decode cX6_check 28 = .ok (.ifCond .ne 7, 3) := by decide +kernel
theorem dX6_check_31 : decode cX6_check 31 = .ok (.ldc_w 290, 3) := by decide +kernel
theorem dX6_check_34 : decode cX6_check 34 = .ok (.ireturn, 1) := by decide +kernel
theorem dX6_check_35 : decode cX6_check 35 = .ok (.iload_n 1, 1) := by decide +kernel
theorem dX6_check_36 : decode cX6_check 36 = .ok (.ifCond .lt 14, 3) := by decide +kernel
theorem dX6_check_39 : decode cX6_check 39 = .ok (.iload_n 1, 1) := by decide +kernel
theorem dX6_check_40 : decode cX6_check 40 = .ok (.aload_n 0, 1) := by decide +kernel
theorem dX6_check_41 : decode cX6_check 41 = .ok (.getfield 18, 3) := by decide +kernel
theorem dX6_check_44 : decode cX6_check 44 = .ok (.getfield 81, 3) := by decide +kernel
theorem dX6_check_47 : decode cX6_check 47 = .ok (.if_icmp .lt 6, 3) := by decide +kernel
theorem dX6_check_50 : decode cX6_check 50 = .ok (.ldc 80, 2) := by decide +kernel
theorem dX6_check_52 : decode cX6_check 52 = .ok (.ireturn, 1) := by decide +kernel
theorem dX6_check_53 : decode cX6_check 53 = .ok (.aload_n 0, 1) := by decide +kernel
theorem dX6_check_54 : decode cX6_check 54 = .ok (.aload_n 0, 1) := by decide +kernel
theorem dX6_check_55 : decode cX6_check 55 = .ok (.getfield 18, 3) := by decide +kernel
theorem dX6_check_58 : decode cX6_check 58 = .ok (.iload_n 1, 1) := by decide +kernel
theorem dX6_check_59 : decode cX6_check 59 = .ok (.invokevirtual 181, 3) := by decide +kernel
theorem dX6_check_62 : decode cX6_check 62 = .ok (.astore 4, 2) := by decide +kernel
theorem dX6_check_64 : decode cX6_check 64 = .ok (.iconst 0, 1) := by decide +kernel
theorem dX6_check_65 : decode cX6_check 65 = .ok (.istore 5, 2) := by decide +kernel
theorem dX6_check_67 : decode cX6_check 67 = .ok (.iload 5, 2) := by decide +kernel
theorem dX6_check_69 : decode cX6_check 69 = .ok (.iload_n 2, 1) := by decide +kernel
theorem dX6_check_70 : decode cX6_check 70 = .ok (.if_icmp .ge 68, 3) := by decide +kernel
theorem dX6_check_73 : decode cX6_check 73 = .ok (.aload_n 0, 1) := by decide +kernel
theorem dX6_check_74 : decode cX6_check 74 = .ok (.aload_n 0, 1) := by decide +kernel
theorem dX6_check_75 : decode cX6_check 75 = .ok (.getfield 25, 3) := by decide +kernel
theorem dX6_check_78 : decode cX6_check 78 = .ok (.aload 4, 2) := by decide +kernel
theorem dX6_check_80 : decode cX6_check 80 = .ok (.invokevirtual 166, 3) := by decide +kernel
theorem dX6_check_83 : decode cX6_check 83 = .ok (.istore 6, 2) := by decide +kernel
theorem dX6_check_85 : decode cX6_check 85 = .ok (.aload_n 0, 1) := by decide +kernel
theorem dX6_check_86 : decode cX6_check 86 = .ok (.iconst 2, 1) := by decide +kernel
theorem dX6_check_87 : decode cX6_check 87 = .ok (.iload 5, 2) := by decide +kernel
theorem dX6_check_89 : decode cX6_check 89 = .ok (.imul, 1) := by decide +kernel
theorem dX6_check_90 : decode cX6_check 90 = .ok (.iload_n 3, 1) := by decide +kernel
theorem dX6_check_91 : decode cX6_check 91 = .ok (.iload 6, 2) := by decide +kernel
theorem dX6_check_93 : decode cX6_check 93 = .ok (.invokevirtual 291, 3) := by decide +kernel
theorem dX6_check_96 : decode cX6_check 96 = .ok (.ifCond .ne 10, 3) := by decide +kernel
theorem dX6_check_99 : decode cX6_check 99 = .ok (.iconst 1, 1) := by decide +kernel
theorem dX6_check_100 : decode cX6_check 100 = .ok (.iconst 2, 1) := by decide +kernel
theorem dX6_check_101 : decode cX6_check 101 = .ok (.iload 5, 2) := by decide +kernel
theorem dX6_check_103 : decode cX6_check 103 = .ok (.imul, 1) := by decide +kernel
theorem dX6_check_104 : decode cX6_check 104 = .ok (.iadd, 1) := by decide +kernel
theorem dX6_check_105 : decode cX6_check 105 = .ok (.ireturn, 1) := by decide +kernel
theorem dX6_check_106 : decode cX6_check 106 = .ok (.aload_n 0, 1) := by decide +kernel
theorem dX6_check_107 : decode cX6_check 107 = .ok (.iconst 2, 1) := by decide +kernel
theorem dX6_check_108 : decode cX6_check 108 = .ok (.iload 5, 2) := by decide +kernel
theorem dX6_check_110 : decode cX6_check 110 = .ok (.imul, 1) := by decide +kernel
theorem dX6_check_111 : decode cX6_check 111 = .ok (.iconst 1, 1) := by decide +kernel
theorem dX6_check_112 : decode cX6_check 112 = .ok (.iadd, 1) := by decide +kernel
theorem dX6_check_113 : decode cX6_check 113 = .ok (.iload_n 3, 1) := by decide +kernel
theorem dX6_check_114 : decode cX6_check 114 = .ok (.aload 4, 2) := by decide +kernel
theorem dX6_check_116 : decode cX6_check 116 = .ok (.invokevirtual 113, 3) := by decide +kernel
theorem dX6_check_119 : decode cX6_check 119 = .ok (.invokevirtual 291, 3) := by decide +kernel
theorem dX6_check_122 : decode cX6_check 122 = .ok (.ifCond .ne 10, 3) := by decide +kernel
theorem dX6_check_125 : decode cX6_check 125 = .ok (.iconst 2, 1) := by decide +kernel
theorem dX6_check_126 : decode cX6_check 126 = .ok (.iconst 2, 1) := by decide +kernel
theorem dX6_check_127 : decode cX6_check 127 = .ok (.iload 5, 2) := by decide +kernel
theorem dX6_check_129 : decode cX6_check 129 = .ok (.imul, 1) := by decide +kernel
theorem dX6_check_130 : decode cX6_check 130 = .ok (.iadd, 1) := by decide +kernel
theorem dX6_check_131 : decode cX6_check 131 = .ok (.ireturn, 1) := by decide +kernel
theorem dX6_check_132 : decode cX6_check 132 = .ok (.iinc 5 1, 3) := by decide +kernel
theorem dX6_check_135 : decode cX6_check 135 = .ok (.goto (-68), 3) := by decide +kernel
theorem dX6_check_138 : decode cX6_check 138 = .ok (.iload_n 3, 1) := by decide +kernel
theorem dX6_check_139 : decode cX6_check 139 = .ok (.iconst 2, 1) := by decide +kernel
theorem dX6_check_140 : decode cX6_check 140 = .ok (.iload_n 2, 1) := by decide +kernel
theorem dX6_check_141 : decode cX6_check 141 = .ok (.imul, 1) := by decide +kernel
theorem dX6_check_142 : decode cX6_check 142 = .ok (.if_icmp .le 11, 3) := by decide +kernel
theorem dX6_check_145 : decode cX6_check 145 = .ok (.iconst 1, 1) := by decide +kernel
theorem dX6_check_146 : decode cX6_check 146 = .ok (.iconst 2, 1) := by decide +kernel
theorem dX6_check_147 : decode cX6_check 147 = .ok (.iload_n 2, 1) := by decide +kernel
theorem dX6_check_148 : decode cX6_check 148 = .ok (.imul, 1) := by decide +kernel
theorem dX6_check_149 : decode cX6_check 149 = .ok (.iadd, 1) := by decide +kernel
theorem dX6_check_150 : decode cX6_check 150 = .ok (.goto 4, 3) := by decide +kernel
theorem dX6_check_153 : decode cX6_check 153 = .ok (.iconst 0, 1) := by decide +kernel
theorem dX6_check_154 : decode cX6_check 154 = .ok (.ireturn, 1) := by decide +kernel
theorem dX6_keep_0 : decode cX6_keep 0 = .ok (.aload_n 0, 1) := by decide +kernel
theorem dX6_keep_1 : decode cX6_keep 1 = .ok (.getfield 18, 3) := by decide +kernel
theorem dX6_keep_4 : decode cX6_keep 4 = .ok (.aload_n 0, 1) := by decide +kernel
theorem dX6_keep_5 : decode cX6_keep 5 = .ok (.getfield 14, 3) := by decide +kernel
theorem dX6_keep_8 : decode cX6_keep 8 = .ok (.invokevirtual 295, 3) := by decide +kernel
theorem dX6_keep_11 : decode cX6_keep 11 = .ok (.aload_n 0, 1) := by decide +kernel
theorem dX6_keep_12 : decode cX6_keep 12 = .ok (.iconst 1, 1) := by decide +kernel
theorem dX6_keep_13 : decode cX6_keep 13 = .ok (.putfield 21, 3) := by decide +kernel
theorem dX6_keep_16 : decode cX6_keep 16 = .ok (.aload_n 0, 1) := by decide +kernel
theorem dX6_keep_17 : decode cX6_keep 17 = .ok (.getfield 14, 3) := by decide +kernel
theorem dX6_keep_20 : decode cX6_keep 20 = .ok (.getfield 81, 3) := by decide +kernel
theorem dX6_keep_23 : decode cX6_keep 23 = .ok (.ireturn, 1) := by decide +kernel
theorem dX6_back_0 : decode cX6_back 0 = .ok (.aload_n 0, 1) := by decide +kernel
theorem dX6_back_1 : decode cX6_back 1 = .ok (.getfield 21, 3) := by decide +kernel
theorem dX6_back_4 : decode cX6_back 4 = .ok (.ifCond .ne 7, 3) := by decide +kernel
theorem dX6_back_7 : decode cX6_back 7 = .ok (.ldc_w 290, 3) := by decide +kernel
theorem dX6_back_10 : decode cX6_back 10 = .ok (.ireturn, 1) := by decide +kernel
theorem dX6_back_11 : decode cX6_back 11 = .ok (.aload_n 0, 1) := by decide +kernel
theorem dX6_back_12 : decode cX6_back 12 = .ok (.getfield 14, 3) := by decide +kernel
theorem dX6_back_15 : decode cX6_back 15 = .ok (.aload_n 0, 1) := by decide +kernel
theorem dX6_back_16 : decode cX6_back 16 = .ok (.getfield 18, 3) := by decide +kernel
theorem dX6_back_19 : decode cX6_back 19 = .ok (.invokevirtual 295, 3) := by decide +kernel
theorem dX6_back_22 : decode cX6_back 22 = .ok (.aload_n 0, 1) := by decide +kernel
theorem dX6_back_23 : decode cX6_back 23 = .ok (.getfield 14, 3) := by decide +kernel
theorem dX6_back_26 : decode cX6_back 26 = .ok (.getfield 81, 3) := by decide +kernel
theorem dX6_back_29 : decode cX6_back 29 = .ok (.ireturn, 1) := by decide +kernel
theorem dX6_count_0 : decode cX6_count 0 = .ok (.iload_n 1, 1) := by decide +kernel
theorem dX6_count_1 : decode cX6_count 1 = .ok (.tableswitch 125 0 8 #[51, 59, 69, 79, 89, 99, 107, 112, 117], 51) := by decide +kernel
theorem dX6_count_52 : decode cX6_count 52 = .ok (.aload_n 0, 1) := by decide +kernel
theorem dX6_count_53 : decode cX6_count 53 = .ok (.getfield 14, 3) := by decide +kernel
theorem dX6_count_56 : decode cX6_count 56 = .ok (.getfield 81, 3) := by decide +kernel
theorem dX6_count_59 : decode cX6_count 59 = .ok (.ireturn, 1) := by decide +kernel
theorem dX6_count_60 : decode cX6_count 60 = .ok (.aload_n 0, 1) := by decide +kernel
theorem dX6_count_61 : decode cX6_count 61 = .ok (.getfield 14, 3) := by decide +kernel
theorem dX6_count_64 : decode cX6_count 64 = .ok (.getfield 143, 3) := by decide +kernel
theorem dX6_count_67 : decode cX6_count 67 = .ok (.iconst 0, 1) := by decide +kernel
theorem dX6_count_68 : decode cX6_count 68 = .ok (.iaload, 1) := by decide +kernel
theorem dX6_count_69 : decode cX6_count 69 = .ok (.ireturn, 1) := by decide +kernel
theorem dX6_count_70 : decode cX6_count 70 = .ok (.aload_n 0, 1) := by decide +kernel
theorem dX6_count_71 : decode cX6_count 71 = .ok (.getfield 14, 3) := by decide +kernel
theorem dX6_count_74 : decode cX6_count 74 = .ok (.getfield 143, 3) := by decide +kernel
theorem dX6_count_77 : decode cX6_count 77 = .ok (.iconst 1, 1) := by decide +kernel
theorem dX6_count_78 : decode cX6_count 78 = .ok (.iaload, 1) := by decide +kernel
theorem dX6_count_79 : decode cX6_count 79 = .ok (.ireturn, 1) := by decide +kernel
theorem dX6_count_80 : decode cX6_count 80 = .ok (.aload_n 0, 1) := by decide +kernel
theorem dX6_count_81 : decode cX6_count 81 = .ok (.getfield 14, 3) := by decide +kernel
theorem dX6_count_84 : decode cX6_count 84 = .ok (.getfield 143, 3) := by decide +kernel
theorem dX6_count_87 : decode cX6_count 87 = .ok (.iconst 2, 1) := by decide +kernel
theorem dX6_count_88 : decode cX6_count 88 = .ok (.iaload, 1) := by decide +kernel
theorem dX6_count_89 : decode cX6_count 89 = .ok (.ireturn, 1) := by decide +kernel
theorem dX6_count_90 : decode cX6_count 90 = .ok (.aload_n 0, 1) := by decide +kernel
theorem dX6_count_91 : decode cX6_count 91 = .ok (.getfield 14, 3) := by decide +kernel
theorem dX6_count_94 : decode cX6_count 94 = .ok (.getfield 143, 3) := by decide +kernel
theorem dX6_count_97 : decode cX6_count 97 = .ok (.iconst 3, 1) := by decide +kernel
theorem dX6_count_98 : decode cX6_count 98 = .ok (.iaload, 1) := by decide +kernel
theorem dX6_count_99 : decode cX6_count 99 = .ok (.ireturn, 1) := by decide +kernel
theorem dX6_count_100 : decode cX6_count 100 = .ok (.aload_n 0, 1) := by decide +kernel
theorem dX6_count_101 : decode cX6_count 101 = .ok (.getfield 14, 3) := by decide +kernel
theorem dX6_count_104 : decode cX6_count 104 = .ok (.getfield 221, 3) := by decide +kernel
theorem dX6_count_107 : decode cX6_count 107 = .ok (.ireturn, 1) := by decide +kernel
theorem dX6_count_108 : decode cX6_count 108 = .ok (.aload_n 0, 1) := by decide +kernel
theorem dX6_count_109 : decode cX6_count 109 = .ok (.getfield 70, 3) := by decide +kernel
theorem dX6_count_112 : decode cX6_count 112 = .ok (.ireturn, 1) := by decide +kernel
theorem dX6_count_113 : decode cX6_count 113 = .ok (.aload_n 0, 1) := by decide +kernel
theorem dX6_count_114 : decode cX6_count 114 = .ok (.getfield 51, 3) := by decide +kernel
theorem dX6_count_117 : decode cX6_count 117 = .ok (.ireturn, 1) := by decide +kernel
theorem dX6_count_118 : decode cX6_count 118 = .ok (.aload_n 0, 1) := by decide +kernel
theorem dX6_count_119 : decode cX6_count 119 = .ok (.getfield 14, 3) := by decide +kernel
theorem dX6_count_122 : decode cX6_count 122 = .ok (.getfield 155, 3) := by decide +kernel
theorem dX6_count_125 : decode cX6_count 125 = .ok (.ireturn, 1) := by decide +kernel
theorem dX6_count_126 : decode cX6_count 126 = .ok (.ldc 80, 2) := by decide +kernel
theorem dX6_count_128 : decode cX6_count 128 = .ok (.ireturn, 1) := by decide +kernel
theorem dX6_isKind_0 : decode cX6_isKind 0 = .ok (.iload_n 0, 1) := by decide +kernel
theorem dX6_isKind_1 : decode cX6_isKind 1 = .ok (.ifCond .lt 12, 3) := by decide +kernel
theorem dX6_isKind_4 : decode cX6_isKind 4 = .ok (.iload_n 0, 1) := by decide +kernel
theorem dX6_isKind_5 : decode cX6_isKind 5 = .ok (.iconst 5, 1) := by decide +kernel
theorem dX6_isKind_6 : decode cX6_isKind 6 = .ok (.if_icmp .gt 7, 3) := by decide +kernel
theorem dX6_isKind_9 : decode cX6_isKind 9 = .ok (.iconst 1, 1) := by decide +kernel
theorem dX6_isKind_10 : decode cX6_isKind 10 = .ok (.goto 4, 3) := by decide +kernel
theorem dX6_isKind_13 : decode cX6_isKind 13 = .ok (.iconst 0, 1) := by decide +kernel
theorem dX6_isKind_14 : decode cX6_isKind 14 = .ok (.ireturn, 1) := by decide +kernel
theorem dX6_isCell_0 : decode cX6_isCell 0 = .ok (.iload_n 0, 1) := by decide +kernel
theorem dX6_isCell_1 : decode cX6_isCell 1 = .ok (.ifCond .lt 13, 3) := by decide +kernel
theorem dX6_isCell_4 : decode cX6_isCell 4 = .ok (.iload_n 0, 1) := by decide +kernel
theorem dX6_isCell_5 : decode cX6_isCell 5 = .ok (.bipush 24, 2) := by decide +kernel
theorem dX6_isCell_7 : decode cX6_isCell 7 = .ok (.if_icmp .ge 7, 3) := by decide +kernel
theorem dX6_isCell_10 : decode cX6_isCell 10 = .ok (.iconst 1, 1) := by decide +kernel
theorem dX6_isCell_11 : decode cX6_isCell 11 = .ok (.goto 4, 3) := by decide +kernel
theorem dX6_isCell_14 : decode cX6_isCell 14 = .ok (.iconst 0, 1) := by decide +kernel
theorem dX6_isCell_15 : decode cX6_isCell 15 = .ok (.ireturn, 1) := by decide +kernel
theorem dX6_isSheet_0 : decode cX6_isSheet 0 = .ok (.iload_n 0, 1) := by decide +kernel
theorem dX6_isSheet_1 : decode cX6_isSheet 1 = .ok (.ifCond .lt 12, 3) := by decide +kernel
theorem dX6_isSheet_4 : decode cX6_isSheet 4 = .ok (.iload_n 0, 1) := by decide +kernel
theorem dX6_isSheet_5 : decode cX6_isSheet 5 = .ok (.iconst 4, 1) := by decide +kernel
theorem dX6_isSheet_6 : decode cX6_isSheet 6 = .ok (.if_icmp .ge 7, 3) := by decide +kernel
theorem dX6_isSheet_9 : decode cX6_isSheet 9 = .ok (.iconst 1, 1) := by decide +kernel
theorem dX6_isSheet_10 : decode cX6_isSheet 10 = .ok (.goto 4, 3) := by decide +kernel
theorem dX6_isSheet_13 : decode cX6_isSheet 13 = .ok (.iconst 0, 1) := by decide +kernel
theorem dX6_isSheet_14 : decode cX6_isSheet 14 = .ok (.ireturn, 1) := by decide +kernel
theorem dX6_isSlot_0 : decode cX6_isSlot 0 = .ok (.iload_n 0, 1) := by decide +kernel
theorem dX6_isSlot_1 : decode cX6_isSlot 1 = .ok (.ifCond .lt 12, 3) := by decide +kernel
theorem dX6_isSlot_4 : decode cX6_isSlot 4 = .ok (.iload_n 0, 1) := by decide +kernel
theorem dX6_isSlot_5 : decode cX6_isSlot 5 = .ok (.iconst 5, 1) := by decide +kernel
theorem dX6_isSlot_6 : decode cX6_isSlot 6 = .ok (.if_icmp .ge 7, 3) := by decide +kernel
theorem dX6_isSlot_9 : decode cX6_isSlot 9 = .ok (.iconst 1, 1) := by decide +kernel
theorem dX6_isSlot_10 : decode cX6_isSlot 10 = .ok (.goto 4, 3) := by decide +kernel
theorem dX6_isSlot_13 : decode cX6_isSlot 13 = .ok (.iconst 0, 1) := by decide +kernel
theorem dX6_isSlot_14 : decode cX6_isSlot 14 = .ok (.ireturn, 1) := by decide +kernel
theorem dX6_isFloor_0 : decode cX6_isFloor 0 = .ok (.iload_n 1, 1) := by decide +kernel
theorem dX6_isFloor_1 : decode cX6_isFloor 1 = .ok (.ifCond .lt 18, 3) := by decide +kernel
theorem dX6_isFloor_4 : decode cX6_isFloor 4 = .ok (.iload_n 1, 1) := by decide +kernel
theorem dX6_isFloor_5 : decode cX6_isFloor 5 = .ok (.aload_n 0, 1) := by decide +kernel
theorem dX6_isFloor_6 : decode cX6_isFloor 6 = .ok (.getfield 14, 3) := by decide +kernel
theorem dX6_isFloor_9 : decode cX6_isFloor 9 = .ok (.getfield 81, 3) := by decide +kernel
theorem dX6_isFloor_12 : decode cX6_isFloor 12 = .ok (.if_icmp .ge 7, 3) := by decide +kernel
theorem dX6_isFloor_15 : decode cX6_isFloor 15 = .ok (.iconst 1, 1) := by decide +kernel
theorem dX6_isFloor_16 : decode cX6_isFloor 16 = .ok (.goto 4, 3) := by decide +kernel
theorem dX6_isFloor_19 : decode cX6_isFloor 19 = .ok (.iconst 0, 1) := by decide +kernel
theorem dX6_isFloor_20 : decode cX6_isFloor 20 = .ok (.ireturn, 1) := by decide +kernel
theorem dX6_isUnder_0 : decode cX6_isUnder 0 = .ok (.iload_n 0, 1) := by decide +kernel
theorem dX6_isUnder_1 : decode cX6_isUnder 1 = .ok (.istore_n 2, 1) := by decide +kernel
theorem dX6_isUnder_2 : decode cX6_isUnder 2 = .ok (.iconst 0, 1) := by decide +kernel
theorem dX6_isUnder_3 : decode cX6_isUnder 3 = .ok (.istore_n 3, 1) := by decide +kernel
theorem dX6_isUnder_4 : decode cX6_isUnder 4 = .ok (.iload_n 3, 1) := by decide +kernel
theorem dX6_isUnder_5 : decode cX6_isUnder 5 = .ok (.getstatic 299, 3) := by decide +kernel
theorem dX6_isUnder_8 : decode cX6_isUnder 8 = .ok (.arraylength, 1) := by decide +kernel
theorem dX6_isUnder_9 : decode cX6_isUnder 9 = .ok (.if_icmp .ge 29, 3) := by decide +kernel
theorem dX6_isUnder_12 : decode cX6_isUnder 12 = .ok (.iload_n 2, 1) := by decide +kernel
theorem dX6_isUnder_13 : decode cX6_isUnder 13 = .ok (.invokestatic 76, 3) := by decide +kernel
theorem dX6_isUnder_16 : decode cX6_isUnder 16 = .ok (.ifCond .eq 22, 3) := by decide +kernel
theorem dX6_isUnder_19 : decode cX6_isUnder 19 = .ok (.iload_n 2, 1) := by decide +kernel
theorem dX6_isUnder_20 : decode cX6_isUnder 20 = .ok (.iload_n 1, 1) := by decide +kernel
theorem dX6_isUnder_21 : decode cX6_isUnder 21 = .ok (.if_icmp .ne 5, 3) := by decide +kernel
theorem dX6_isUnder_24 : decode cX6_isUnder 24 = .ok (.iconst 1, 1) := by decide +kernel
theorem dX6_isUnder_25 : decode cX6_isUnder 25 = .ok (.ireturn, 1) := by decide +kernel
theorem dX6_isUnder_26 : decode cX6_isUnder 26 = .ok (.getstatic 299, 3) := by decide +kernel
theorem dX6_isUnder_29 : decode cX6_isUnder 29 = .ok (.iload_n 2, 1) := by decide +kernel
theorem dX6_isUnder_30 : decode cX6_isUnder 30 = .ok (.iaload, 1) := by decide +kernel
theorem dX6_isUnder_31 : decode cX6_isUnder 31 = .ok (.istore_n 2, 1) := by decide +kernel
theorem dX6_isUnder_32 : decode cX6_isUnder 32 = .ok (.iinc 3 1, 3) := by decide +kernel
theorem dX6_isUnder_35 : decode cX6_isUnder 35 = .ok (.goto (-31), 3) := by decide +kernel
theorem dX6_isUnder_38 : decode cX6_isUnder 38 = .ok (.iconst 0, 1) := by decide +kernel
theorem dX6_isUnder_39 : decode cX6_isUnder 39 = .ok (.ireturn, 1) := by decide +kernel
theorem dX6_isTold_0 : decode cX6_isTold 0 = .ok (.iload_n 1, 1) := by decide +kernel
theorem dX6_isTold_1 : decode cX6_isTold 1 = .ok (.iload_n 2, 1) := by decide +kernel
theorem dX6_isTold_2 : decode cX6_isTold 2 = .ok (.if_icmp .ge 23, 3) := by decide +kernel
theorem dX6_isTold_5 : decode cX6_isTold 5 = .ok (.iload_n 1, 1) := by decide +kernel
theorem dX6_isTold_6 : decode cX6_isTold 6 = .ok (.bipush 60, 2) := by decide +kernel
theorem dX6_isTold_8 : decode cX6_isTold 8 = .ok (.if_icmp .ge 17, 3) := by decide +kernel
theorem dX6_isTold_11 : decode cX6_isTold 11 = .ok (.aload_n 0, 1) := by decide +kernel
theorem dX6_isTold_12 : decode cX6_isTold 12 = .ok (.getfield 67, 3) := by decide +kernel
theorem dX6_isTold_15 : decode cX6_isTold 15 = .ok (.iload_n 1, 1) := by decide +kernel
theorem dX6_isTold_16 : decode cX6_isTold 16 = .ok (.iaload, 1) := by decide +kernel
theorem dX6_isTold_17 : decode cX6_isTold 17 = .ok (.iload_n 3, 1) := by decide +kernel
theorem dX6_isTold_18 : decode cX6_isTold 18 = .ok (.if_icmp .ne 7, 3) := by decide +kernel
theorem dX6_isTold_21 : decode cX6_isTold 21 = .ok (.iconst 1, 1) := by decide +kernel
theorem dX6_isTold_22 : decode cX6_isTold 22 = .ok (.goto 4, 3) := by decide +kernel
theorem dX6_isTold_25 : decode cX6_isTold 25 = .ok (.iconst 0, 1) := by decide +kernel
theorem dX6_isTold_26 : decode cX6_isTold 26 = .ok (.ireturn, 1) := by decide +kernel
theorem dX6_nextOf_0 : decode cX6_nextOf 0 = .ok (.iload_n 0, 1) := by decide +kernel
theorem dX6_nextOf_1 : decode cX6_nextOf 1 = .ok (.bipush 23, 2) := by decide +kernel
theorem dX6_nextOf_3 : decode cX6_nextOf 3 = .ok (.if_icmp .lt 7, 3) := by decide +kernel
theorem dX6_nextOf_6 : decode cX6_nextOf 6 = .ok (.iconst 0, 1) := by decide +kernel
theorem dX6_nextOf_7 : decode cX6_nextOf 7 = .ok (.goto 6, 3) := by decide +kernel
theorem dX6_nextOf_10 : decode cX6_nextOf 10 = .ok (.iload_n 0, 1) := by decide +kernel
theorem dX6_nextOf_11 : decode cX6_nextOf 11 = .ok (.iconst 1, 1) := by decide +kernel
theorem dX6_nextOf_12 : decode cX6_nextOf 12 = .ok (.iadd, 1) := by decide +kernel
theorem dX6_nextOf_13 : decode cX6_nextOf 13 = .ok (.ireturn, 1) := by decide +kernel
theorem dX6_aheadOf_0 : decode cX6_aheadOf 0 = .ok (.iload_n 0, 1) := by decide +kernel
theorem dX6_aheadOf_1 : decode cX6_aheadOf 1 = .ok (.ifCond .gt 8, 3) := by decide +kernel
theorem dX6_aheadOf_4 : decode cX6_aheadOf 4 = .ok (.bipush 23, 2) := by decide +kernel
theorem dX6_aheadOf_6 : decode cX6_aheadOf 6 = .ok (.goto 6, 3) := by decide +kernel
theorem dX6_aheadOf_9 : decode cX6_aheadOf 9 = .ok (.iload_n 0, 1) := by decide +kernel
theorem dX6_aheadOf_10 : decode cX6_aheadOf 10 = .ok (.iconst 1, 1) := by decide +kernel
theorem dX6_aheadOf_11 : decode cX6_aheadOf 11 = .ok (.isub, 1) := by decide +kernel
theorem dX6_aheadOf_12 : decode cX6_aheadOf 12 = .ok (.ireturn, 1) := by decide +kernel
theorem dX6_inRing_0 : decode cX6_inRing 0 = .ok (.iload_n 0, 1) := by decide +kernel
theorem dX6_inRing_1 : decode cX6_inRing 1 = .ok (.bipush 24, 2) := by decide +kernel
theorem dX6_inRing_3 : decode cX6_inRing 3 = .ok (.invokestatic 302, 3) := by decide +kernel
theorem dX6_inRing_6 : decode cX6_inRing 6 = .ok (.ireturn, 1) := by decide +kernel
theorem dX6_within_0 : decode cX6_within 0 = .ok (.iload_n 1, 1) := by decide +kernel
theorem dX6_within_1 : decode cX6_within 1 = .ok (.iload_n 0, 1) := by decide +kernel
theorem dX6_within_2 : decode cX6_within 2 = .ok (.iload_n 2, 1) := by decide +kernel
theorem dX6_within_3 : decode cX6_within 3 = .ok (.invokestatic 189, 3) := by decide +kernel
theorem dX6_within_6 : decode cX6_within 6 = .ok (.invokestatic 305, 3) := by decide +kernel
theorem dX6_within_9 : decode cX6_within 9 = .ok (.ireturn, 1) := by decide +kernel
theorem dX6_reachOf_0 : decode cX6_reachOf 0 = .ok (.aload_n 0, 1) := by decide +kernel
theorem dX6_reachOf_1 : decode cX6_reachOf 1 = .ok (.getfield 143, 3) := by decide +kernel
theorem dX6_reachOf_4 : decode cX6_reachOf 4 = .ok (.iconst 0, 1) := by decide +kernel
theorem dX6_reachOf_5 : decode cX6_reachOf 5 = .ok (.iaload, 1) := by decide +kernel
theorem dX6_reachOf_6 : decode cX6_reachOf 6 = .ok (.istore_n 2, 1) := by decide +kernel
theorem dX6_reachOf_7 : decode cX6_reachOf 7 = .ok (.aload_n 1, 1) := by decide +kernel
theorem dX6_reachOf_8 : decode cX6_reachOf 8 = .ok (.getfield 97, 3) := by decide +kernel
theorem dX6_reachOf_11 : decode cX6_reachOf 11 = .ok (.tableswitch 81 1 5 #[33, 51, 39, 55, 61], 33) := by decide +kernel
theorem dX6_reachOf_44 : decode cX6_reachOf 44 = .ok (.iconst 2, 1) := by decide +kernel
theorem dX6_reachOf_45 : decode cX6_reachOf 45 = .ok (.iload_n 2, 1) := by decide +kernel
theorem dX6_reachOf_46 : decode cX6_reachOf 46 = .ok (.imul, 1) := by decide +kernel
theorem dX6_reachOf_47 : decode cX6_reachOf 47 = .ok (.iconst 3, 1) := by decide +kernel
theorem dX6_reachOf_48 : decode cX6_reachOf 48 = .ok (.idiv, 1) := by decide +kernel
theorem dX6_reachOf_49 : decode cX6_reachOf 49 = .ok (.ireturn, 1) := by decide +kernel
theorem dX6_reachOf_50 : decode cX6_reachOf 50 = .ok (.iconst 2, 1) := by decide +kernel
theorem dX6_reachOf_51 : decode cX6_reachOf 51 = .ok (.iload_n 2, 1) := by decide +kernel
theorem dX6_reachOf_52 : decode cX6_reachOf 52 = .ok (.imul, 1) := by decide +kernel
theorem dX6_reachOf_53 : decode cX6_reachOf 53 = .ok (.iconst 3, 1) := by decide +kernel
theorem dX6_reachOf_54 : decode cX6_reachOf 54 = .ok (.idiv, 1) := by decide +kernel
theorem dX6_reachOf_55 : decode cX6_reachOf 55 = .ok (.iconst 1, 1) := by decide +kernel
theorem dX6_reachOf_56 : decode cX6_reachOf 56 = .ok (.isub, 1) := by decide +kernel
theorem dX6_reachOf_57 : decode cX6_reachOf 57 = .ok (.iconst 0, 1) := by decide +kernel
theorem dX6_reachOf_58 : decode cX6_reachOf 58 = .ok (.invokestatic 305, 3) := by decide +kernel
theorem dX6_reachOf_61 : decode cX6_reachOf 61 = .ok (.ireturn, 1) := by decide +kernel
theorem dX6_reachOf_62 : decode cX6_reachOf 62 = .ok (.iload_n 2, 1) := by decide +kernel
theorem dX6_reachOf_63 : decode cX6_reachOf 63 = .ok (.iconst 1, 1) := by decide +kernel
theorem dX6_reachOf_64 : decode cX6_reachOf 64 = .ok (.iadd, 1) := by decide +kernel
theorem dX6_reachOf_65 : decode cX6_reachOf 65 = .ok (.ireturn, 1) := by decide +kernel
theorem dX6_reachOf_66 : decode cX6_reachOf 66 = .ok (.iload_n 2, 1) := by decide +kernel
theorem dX6_reachOf_67 : decode cX6_reachOf 67 = .ok (.iconst 1, 1) := by decide +kernel
theorem dX6_reachOf_68 : decode cX6_reachOf 68 = .ok (.iadd, 1) := by decide +kernel
theorem dX6_reachOf_69 : decode cX6_reachOf 69 = .ok (.iconst 2, 1) := by decide +kernel
theorem dX6_reachOf_70 : decode cX6_reachOf 70 = .ok (.idiv, 1) := by decide +kernel
theorem dX6_reachOf_71 : decode cX6_reachOf 71 = .ok (.ireturn, 1) := by decide +kernel
theorem dX6_reachOf_72 : decode cX6_reachOf 72 = .ok (.aload_n 1, 1) := by decide +kernel
theorem dX6_reachOf_73 : decode cX6_reachOf 73 = .ok (.getfield 100, 3) := by decide +kernel
theorem dX6_reachOf_76 : decode cX6_reachOf 76 = .ok (.iconst 2, 1) := by decide +kernel
theorem dX6_reachOf_77 : decode cX6_reachOf 77 = .ok (.irem, 1) := by decide +kernel
theorem dX6_reachOf_78 : decode cX6_reachOf 78 = .ok (.ifCond .ne 7, 3) := by decide +kernel
theorem dX6_reachOf_81 : decode cX6_reachOf 81 = .ok (.iload_n 2, 1) := by decide +kernel
theorem dX6_reachOf_82 : decode cX6_reachOf 82 = .ok (.goto 9, 3) := by decide +kernel
theorem dX6_reachOf_85 : decode cX6_reachOf 85 = .ok (.aload_n 0, 1) := by decide +kernel
theorem dX6_reachOf_86 : decode cX6_reachOf 86 = .ok (.getfield 143, 3) := by decide +kernel
theorem dX6_reachOf_89 : decode cX6_reachOf 89 = .ok (.iconst 2, 1) := by decide +kernel
theorem dX6_reachOf_90 : decode cX6_reachOf 90 = .ok (.iaload, 1) := by decide +kernel
theorem dX6_reachOf_91 : decode cX6_reachOf 91 = .ok (.ireturn, 1) := by decide +kernel
theorem dX6_reachOf_92 : decode cX6_reachOf 92 = .ok (.iload_n 2, 1) := by decide +kernel
theorem dX6_reachOf_93 : decode cX6_reachOf 93 = .ok (.ireturn, 1) := by decide +kernel
theorem dX6_liftOf_0 : decode cX6_liftOf 0 = .ok (.aload_n 2, 1) := by decide +kernel
theorem dX6_liftOf_1 : decode cX6_liftOf 1 = .ok (.getfield 149, 3) := by decide +kernel
theorem dX6_liftOf_4 : decode cX6_liftOf 4 = .ok (.iload_n 3, 1) := by decide +kernel
theorem dX6_liftOf_5 : decode cX6_liftOf 5 = .ok (.iaload, 1) := by decide +kernel
theorem dX6_liftOf_6 : decode cX6_liftOf 6 = .ok (.istore 4, 2) := by decide +kernel
theorem dX6_liftOf_8 : decode cX6_liftOf 8 = .ok (.iload 4, 2) := by decide +kernel
theorem dX6_liftOf_10 : decode cX6_liftOf 10 = .ok (.aload_n 2, 1) := by decide +kernel
theorem dX6_liftOf_11 : decode cX6_liftOf 11 = .ok (.getfield 149, 3) := by decide +kernel
theorem dX6_liftOf_14 : decode cX6_liftOf 14 = .ok (.iload_n 3, 1) := by decide +kernel
theorem dX6_liftOf_15 : decode cX6_liftOf 15 = .ok (.aload_n 2, 1) := by decide +kernel
theorem dX6_liftOf_16 : decode cX6_liftOf 16 = .ok (.invokevirtual 126, 3) := by decide +kernel
theorem dX6_liftOf_19 : decode cX6_liftOf 19 = .ok (.iadd, 1) := by decide +kernel
theorem dX6_liftOf_20 : decode cX6_liftOf 20 = .ok (.invokestatic 162, 3) := by decide +kernel
theorem dX6_liftOf_23 : decode cX6_liftOf 23 = .ok (.iaload, 1) := by decide +kernel
theorem dX6_liftOf_24 : decode cX6_liftOf 24 = .ok (.isub, 1) := by decide +kernel
theorem dX6_liftOf_25 : decode cX6_liftOf 25 = .ok (.istore 5, 2) := by decide +kernel
theorem dX6_liftOf_27 : decode cX6_liftOf 27 = .ok (.aload_n 1, 1) := by decide +kernel
theorem dX6_liftOf_28 : decode cX6_liftOf 28 = .ok (.getfield 143, 3) := by decide +kernel
theorem dX6_liftOf_31 : decode cX6_liftOf 31 = .ok (.iconst 1, 1) := by decide +kernel
theorem dX6_liftOf_32 : decode cX6_liftOf 32 = .ok (.iaload, 1) := by decide +kernel
theorem dX6_liftOf_33 : decode cX6_liftOf 33 = .ok (.istore 6, 2) := by decide +kernel
theorem dX6_liftOf_35 : decode cX6_liftOf 35 = .ok (.aload_n 1, 1) := by decide +kernel
theorem dX6_liftOf_36 : decode cX6_liftOf 36 = .ok (.getfield 228, 3) := by decide +kernel
theorem dX6_liftOf_39 : decode cX6_liftOf 39 = .ok (.iconst 0, 1) := by decide +kernel
theorem dX6_liftOf_40 : decode cX6_liftOf 40 = .ok (.iaload, 1) := by decide +kernel
theorem dX6_liftOf_41 : decode cX6_liftOf 41 = .ok (.istore 7, 2) := by decide +kernel
theorem dX6_liftOf_43 : decode cX6_liftOf 43 = .ok (.iload 7, 2) := by decide +kernel
theorem dX6_liftOf_45 : decode cX6_liftOf 45 = .ok (.ldc 172, 2) := by decide +kernel
theorem dX6_liftOf_47 : decode cX6_liftOf 47 = .ok (.if_icmp .ne 8, 3) := by decide +kernel
theorem dX6_liftOf_50 : decode cX6_liftOf 50 = .ok (.iload 6, 2) := by decide +kernel
theorem dX6_liftOf_52 : decode cX6_liftOf 52 = .ok (.goto 23, 3) := by decide +kernel
theorem dX6_liftOf_55 : decode cX6_liftOf 55 = .ok (.aload_n 0, 1) := by decide +kernel
theorem dX6_liftOf_56 : decode cX6_liftOf 56 = .ok (.getfield 34, 3) := by decide +kernel
theorem dX6_liftOf_59 : decode cX6_liftOf 59 = .ok (.iload 7, 2) := by decide +kernel
theorem dX6_liftOf_61 : decode cX6_liftOf 61 = .ok (.aaload, 1) := by decide +kernel
theorem dX6_liftOf_62 : decode cX6_liftOf 62 = .ok (.aload_n 0, 1) := by decide +kernel
theorem dX6_liftOf_63 : decode cX6_liftOf 63 = .ok (.getfield 45, 3) := by decide +kernel
theorem dX6_liftOf_66 : decode cX6_liftOf 66 = .ok (.iload 4, 2) := by decide +kernel
theorem dX6_liftOf_68 : decode cX6_liftOf 68 = .ok (.iload 5, 2) := by decide +kernel
theorem dX6_liftOf_70 : decode cX6_liftOf 70 = .ok (.iload 6, 2) := by decide +kernel
theorem dX6_liftOf_72 : decode cX6_liftOf 72 = .ok (.invokevirtual 308, 3) := by decide +kernel
theorem dX6_liftOf_75 : decode cX6_liftOf 75 = .ok (.istore 8, 2) := by decide +kernel
theorem dX6_liftOf_77 : decode cX6_liftOf 77 = .ok (.iload 8, 2) := by decide +kernel
theorem dX6_liftOf_79 : decode cX6_liftOf 79 = .ok (.iconst 0, 1) := by decide +kernel
theorem dX6_liftOf_80 : decode cX6_liftOf 80 = .ok (.iload 4, 2) := by decide +kernel
theorem dX6_liftOf_82 : decode cX6_liftOf 82 = .ok (.invokestatic 253, 3) := by decide +kernel
theorem dX6_liftOf_85 : decode cX6_liftOf 85 = .ok (.istore 9, 2) := by decide +kernel
theorem dX6_liftOf_87 : decode cX6_liftOf 87 = .ok (.aload_n 2, 1) := by decide +kernel
theorem dX6_liftOf_88 : decode cX6_liftOf 88 = .ok (.getfield 97, 3) := by decide +kernel
theorem dX6_liftOf_91 : decode cX6_liftOf 91 = .ok (.lookupswitch 39 #[(3, 25), (4, 30)], 25) := by decide +kernel
theorem dX6_liftOf_116 : decode cX6_liftOf 116 = .ok (.iload 9, 2) := by decide +kernel
theorem dX6_liftOf_118 : decode cX6_liftOf 118 = .ok (.iconst 2, 1) := by decide +kernel
theorem dX6_liftOf_119 : decode cX6_liftOf 119 = .ok (.idiv, 1) := by decide +kernel
theorem dX6_liftOf_120 : decode cX6_liftOf 120 = .ok (.ireturn, 1) := by decide +kernel
theorem dX6_liftOf_121 : decode cX6_liftOf 121 = .ok (.iload 9, 2) := by decide +kernel
theorem dX6_liftOf_123 : decode cX6_liftOf 123 = .ok (.iconst 1, 1) := by decide +kernel
theorem dX6_liftOf_124 : decode cX6_liftOf 124 = .ok (.isub, 1) := by decide +kernel
theorem dX6_liftOf_125 : decode cX6_liftOf 125 = .ok (.iconst 0, 1) := by decide +kernel
theorem dX6_liftOf_126 : decode cX6_liftOf 126 = .ok (.invokestatic 305, 3) := by decide +kernel
theorem dX6_liftOf_129 : decode cX6_liftOf 129 = .ok (.ireturn, 1) := by decide +kernel
theorem dX6_liftOf_130 : decode cX6_liftOf 130 = .ok (.iload 9, 2) := by decide +kernel
theorem dX6_liftOf_132 : decode cX6_liftOf 132 = .ok (.ireturn, 1) := by decide +kernel
theorem dX6_slideOf_0 : decode cX6_slideOf 0 = .ok (.aload_n 1, 1) := by decide +kernel
theorem dX6_slideOf_1 : decode cX6_slideOf 1 = .ok (.getfield 143, 3) := by decide +kernel
theorem dX6_slideOf_4 : decode cX6_slideOf 4 = .ok (.iconst 3, 1) := by decide +kernel
theorem dX6_slideOf_5 : decode cX6_slideOf 5 = .ok (.iaload, 1) := by decide +kernel
theorem dX6_slideOf_6 : decode cX6_slideOf 6 = .ok (.istore_n 3, 1) := by decide +kernel
theorem dX6_slideOf_7 : decode cX6_slideOf 7 = .ok (.aload_n 1, 1) := by decide +kernel
theorem dX6_slideOf_8 : decode cX6_slideOf 8 = .ok (.getfield 228, 3) := by decide +kernel
theorem dX6_slideOf_11 : decode cX6_slideOf 11 = .ok (.iconst 1, 1) := by decide +kernel
theorem dX6_slideOf_12 : decode cX6_slideOf 12 = .ok (.iaload, 1) := by decide +kernel
theorem dX6_slideOf_13 : decode cX6_slideOf 13 = .ok (.istore 4, 2) := by decide +kernel
theorem dX6_slideOf_15 : decode cX6_slideOf 15 = .ok (.iload 4, 2) := by decide +kernel
theorem dX6_slideOf_17 : decode cX6_slideOf 17 = .ok (.ldc 172, 2) := by decide +kernel
theorem dX6_slideOf_19 : decode cX6_slideOf 19 = .ok (.if_icmp .ne 14, 3) := by decide +kernel
theorem dX6_slideOf_22 : decode cX6_slideOf 22 = .ok (.iload_n 2, 1) := by decide +kernel
theorem dX6_slideOf_23 : decode cX6_slideOf 23 = .ok (.iload_n 3, 1) := by decide +kernel
theorem dX6_slideOf_24 : decode cX6_slideOf 24 = .ok (.if_icmp .le 7, 3) := by decide +kernel
theorem dX6_slideOf_27 : decode cX6_slideOf 27 = .ok (.iconst 1, 1) := by decide +kernel
theorem dX6_slideOf_28 : decode cX6_slideOf 28 = .ok (.goto 4, 3) := by decide +kernel
theorem dX6_slideOf_31 : decode cX6_slideOf 31 = .ok (.iconst 0, 1) := by decide +kernel
theorem dX6_slideOf_32 : decode cX6_slideOf 32 = .ok (.ireturn, 1) := by decide +kernel
theorem dX6_slideOf_33 : decode cX6_slideOf 33 = .ok (.aload_n 0, 1) := by decide +kernel
theorem dX6_slideOf_34 : decode cX6_slideOf 34 = .ok (.getfield 34, 3) := by decide +kernel
theorem dX6_slideOf_37 : decode cX6_slideOf 37 = .ok (.iload 4, 2) := by decide +kernel
theorem dX6_slideOf_39 : decode cX6_slideOf 39 = .ok (.aaload, 1) := by decide +kernel
theorem dX6_slideOf_40 : decode cX6_slideOf 40 = .ok (.aload_n 0, 1) := by decide +kernel
theorem dX6_slideOf_41 : decode cX6_slideOf 41 = .ok (.getfield 45, 3) := by decide +kernel
theorem dX6_slideOf_44 : decode cX6_slideOf 44 = .ok (.iload_n 2, 1) := by decide +kernel
theorem dX6_slideOf_45 : decode cX6_slideOf 45 = .ok (.iload_n 3, 1) := by decide +kernel
theorem dX6_slideOf_46 : decode cX6_slideOf 46 = .ok (.iconst 0, 1) := by decide +kernel
theorem dX6_slideOf_47 : decode cX6_slideOf 47 = .ok (.invokevirtual 308, 3) := by decide +kernel
theorem dX6_slideOf_50 : decode cX6_slideOf 50 = .ok (.iconst 0, 1) := by decide +kernel
theorem dX6_slideOf_51 : decode cX6_slideOf 51 = .ok (.iload_n 2, 1) := by decide +kernel
theorem dX6_slideOf_52 : decode cX6_slideOf 52 = .ok (.iconst 2, 1) := by decide +kernel
theorem dX6_slideOf_53 : decode cX6_slideOf 53 = .ok (.idiv, 1) := by decide +kernel
theorem dX6_slideOf_54 : decode cX6_slideOf 54 = .ok (.invokestatic 253, 3) := by decide +kernel
theorem dX6_slideOf_57 : decode cX6_slideOf 57 = .ok (.ireturn, 1) := by decide +kernel
theorem dX6_marksOf_0 : decode cX6_marksOf 0 = .ok (.aload_n 1, 1) := by decide +kernel
theorem dX6_marksOf_1 : decode cX6_marksOf 1 = .ok (.getfield 228, 3) := by decide +kernel
theorem dX6_marksOf_4 : decode cX6_marksOf 4 = .ok (.iconst 2, 1) := by decide +kernel
theorem dX6_marksOf_5 : decode cX6_marksOf 5 = .ok (.iaload, 1) := by decide +kernel
theorem dX6_marksOf_6 : decode cX6_marksOf 6 = .ok (.istore_n 3, 1) := by decide +kernel
theorem dX6_marksOf_7 : decode cX6_marksOf 7 = .ok (.iconst 0, 1) := by decide +kernel
theorem dX6_marksOf_8 : decode cX6_marksOf 8 = .ok (.istore 4, 2) := by decide +kernel
theorem dX6_marksOf_10 : decode cX6_marksOf 10 = .ok (.iconst 0, 1) := by decide +kernel
theorem dX6_marksOf_11 : decode cX6_marksOf 11 = .ok (.istore 5, 2) := by decide +kernel
theorem dX6_marksOf_13 : decode cX6_marksOf 13 = .ok (.iload 5, 2) := by decide +kernel
theorem dX6_marksOf_15 : decode cX6_marksOf 15 = .ok (.bipush 24, 2) := by decide +kernel
theorem dX6_marksOf_17 : decode cX6_marksOf 17 = .ok (.if_icmp .ge 73, 3) := by decide +kernel
theorem dX6_marksOf_20 : decode cX6_marksOf 20 = .ok (.aload_n 2, 1) := by decide +kernel
theorem dX6_marksOf_21 : decode cX6_marksOf 21 = .ok (.iload 5, 2) := by decide +kernel
theorem dX6_marksOf_23 : decode cX6_marksOf 23 = .ok (.invokevirtual 169, 3) := by decide +kernel
theorem dX6_marksOf_26 : decode cX6_marksOf 26 = .ok (.ifCond .eq 58, 3) := by decide +kernel
theorem dX6_marksOf_29 : decode cX6_marksOf 29 = .ok (.iload_n 3, 1) := by decide +kernel
theorem dX6_marksOf_30 : decode cX6_marksOf 30 = .ok (.ldc 172, 2) := by decide +kernel
theorem dX6_marksOf_32 : decode cX6_marksOf 32 = .ok (.if_icmp .ne 13, 3) := by decide +kernel
theorem dX6_marksOf_35 : decode cX6_marksOf 35 = .ok (.aload_n 2, 1) := by decide +kernel
theorem dX6_marksOf_36 : decode cX6_marksOf 36 = .ok (.getfield 149, 3) := by decide +kernel
theorem dX6_marksOf_39 : decode cX6_marksOf 39 = .ok (.iload 5, 2) := by decide +kernel
theorem dX6_marksOf_41 : decode cX6_marksOf 41 = .ok (.iaload, 1) := by decide +kernel
theorem dX6_marksOf_42 : decode cX6_marksOf 42 = .ok (.goto 26, 3) := by decide +kernel
theorem dX6_marksOf_45 : decode cX6_marksOf 45 = .ok (.aload_n 0, 1) := by decide +kernel
theorem dX6_marksOf_46 : decode cX6_marksOf 46 = .ok (.getfield 34, 3) := by decide +kernel
theorem dX6_marksOf_49 : decode cX6_marksOf 49 = .ok (.iload_n 3, 1) := by decide +kernel
theorem dX6_marksOf_50 : decode cX6_marksOf 50 = .ok (.aaload, 1) := by decide +kernel
theorem dX6_marksOf_51 : decode cX6_marksOf 51 = .ok (.aload_n 0, 1) := by decide +kernel
theorem dX6_marksOf_52 : decode cX6_marksOf 52 = .ok (.getfield 45, 3) := by decide +kernel
theorem dX6_marksOf_55 : decode cX6_marksOf 55 = .ok (.iload 5, 2) := by decide +kernel
theorem dX6_marksOf_57 : decode cX6_marksOf 57 = .ok (.aload_n 2, 1) := by decide +kernel
theorem dX6_marksOf_58 : decode cX6_marksOf 58 = .ok (.getfield 149, 3) := by decide +kernel
theorem dX6_marksOf_61 : decode cX6_marksOf 61 = .ok (.iload 5, 2) := by decide +kernel
theorem dX6_marksOf_63 : decode cX6_marksOf 63 = .ok (.iaload, 1) := by decide +kernel
theorem dX6_marksOf_64 : decode cX6_marksOf 64 = .ok (.iconst 0, 1) := by decide +kernel
theorem dX6_marksOf_65 : decode cX6_marksOf 65 = .ok (.invokevirtual 308, 3) := by decide +kernel
theorem dX6_marksOf_68 : decode cX6_marksOf 68 = .ok (.istore 6, 2) := by decide +kernel
theorem dX6_marksOf_70 : decode cX6_marksOf 70 = .ok (.iload 4, 2) := by decide +kernel
theorem dX6_marksOf_72 : decode cX6_marksOf 72 = .ok (.iload 6, 2) := by decide +kernel
theorem dX6_marksOf_74 : decode cX6_marksOf 74 = .ok (.bipush (-99), 2) := by decide +kernel
theorem dX6_marksOf_76 : decode cX6_marksOf 76 = .ok (.bipush 99, 2) := by decide +kernel
theorem dX6_marksOf_78 : decode cX6_marksOf 78 = .ok (.invokestatic 253, 3) := by decide +kernel
theorem dX6_marksOf_81 : decode cX6_marksOf 81 = .ok (.iadd, 1) := by decide +kernel
theorem dX6_marksOf_82 : decode cX6_marksOf 82 = .ok (.istore 4, 2) := by decide +kernel
theorem dX6_marksOf_84 : decode cX6_marksOf 84 = .ok (.iinc 5 1, 3) := by decide +kernel
theorem dX6_marksOf_87 : decode cX6_marksOf 87 = .ok (.goto (-74), 3) := by decide +kernel
theorem dX6_marksOf_90 : decode cX6_marksOf 90 = .ok (.iload 4, 2) := by decide +kernel
theorem dX6_marksOf_92 : decode cX6_marksOf 92 = .ok (.ireturn, 1) := by decide +kernel
theorem dX6_oneTick_0 : decode cX6_oneTick 0 = .ok (.aload_n 0, 1) := by decide +kernel
theorem dX6_oneTick_1 : decode cX6_oneTick 1 = .ok (.aload_n 1, 1) := by decide +kernel
theorem dX6_oneTick_2 : decode cX6_oneTick 2 = .ok (.aload_n 2, 1) := by decide +kernel
theorem dX6_oneTick_3 : decode cX6_oneTick 3 = .ok (.invokevirtual 312, 3) := by decide +kernel
theorem dX6_oneTick_6 : decode cX6_oneTick 6 = .ok (.aload_n 0, 1) := by decide +kernel
theorem dX6_oneTick_7 : decode cX6_oneTick 7 = .ok (.aload_n 1, 1) := by decide +kernel
theorem dX6_oneTick_8 : decode cX6_oneTick 8 = .ok (.aload_n 2, 1) := by decide +kernel
theorem dX6_oneTick_9 : decode cX6_oneTick 9 = .ok (.invokevirtual 315, 3) := by decide +kernel
theorem dX6_oneTick_12 : decode cX6_oneTick 12 = .ok (.iadd, 1) := by decide +kernel
theorem dX6_oneTick_13 : decode cX6_oneTick 13 = .ok (.istore_n 3, 1) := by decide +kernel
theorem dX6_oneTick_14 : decode cX6_oneTick 14 = .ok (.aload_n 2, 1) := by decide +kernel
theorem dX6_oneTick_15 : decode cX6_oneTick 15 = .ok (.dup, 1) := by decide +kernel
theorem dX6_oneTick_16 : decode cX6_oneTick 16 = .ok (.getfield 100, 3) := by decide +kernel
theorem dX6_oneTick_19 : decode cX6_oneTick 19 = .ok (.iconst 1, 1) := by decide +kernel
theorem dX6_oneTick_20 : decode cX6_oneTick 20 = .ok (.iadd, 1) := by decide +kernel
theorem dX6_oneTick_21 : decode cX6_oneTick 21 = .ok (.putfield 100, 3) := by decide +kernel
theorem dX6_oneTick_24 : decode cX6_oneTick 24 = .ok (.iload_n 3, 1) := by decide +kernel
theorem dX6_oneTick_25 : decode cX6_oneTick 25 = .ok (.ireturn, 1) := by decide +kernel
theorem dX6_liftAll_0 : decode cX6_liftAll 0 = .ok (.aload_n 1, 1) := by decide +kernel
theorem dX6_liftAll_1 : decode cX6_liftAll 1 = .ok (.aload_n 2, 1) := by decide +kernel
theorem dX6_liftAll_2 : decode cX6_liftAll 2 = .ok (.invokestatic 122, 3) := by decide +kernel
theorem dX6_liftAll_5 : decode cX6_liftAll 5 = .ok (.istore_n 3, 1) := by decide +kernel
theorem dX6_liftAll_6 : decode cX6_liftAll 6 = .ok (.aload_n 2, 1) := by decide +kernel
theorem dX6_liftAll_7 : decode cX6_liftAll 7 = .ok (.invokevirtual 126, 3) := by decide +kernel
theorem dX6_liftAll_10 : decode cX6_liftAll 10 = .ok (.iload_n 3, 1) := by decide +kernel
theorem dX6_liftAll_11 : decode cX6_liftAll 11 = .ok (.imul, 1) := by decide +kernel
theorem dX6_liftAll_12 : decode cX6_liftAll 12 = .ok (.istore 4, 2) := by decide +kernel
theorem dX6_liftAll_14 : decode cX6_liftAll 14 = .ok (.iconst 0, 1) := by decide +kernel
theorem dX6_liftAll_15 : decode cX6_liftAll 15 = .ok (.istore 5, 2) := by decide +kernel
theorem dX6_liftAll_17 : decode cX6_liftAll 17 = .ok (.iconst 0, 1) := by decide +kernel
theorem dX6_liftAll_18 : decode cX6_liftAll 18 = .ok (.istore 6, 2) := by decide +kernel
theorem dX6_liftAll_20 : decode cX6_liftAll 20 = .ok (.iload 6, 2) := by decide +kernel
theorem dX6_liftAll_22 : decode cX6_liftAll 22 = .ok (.bipush 24, 2) := by decide +kernel
theorem dX6_liftAll_24 : decode cX6_liftAll 24 = .ok (.if_icmp .ge 24, 3) := by decide +kernel
theorem dX6_liftAll_27 : decode cX6_liftAll 27 = .ok (.aload_n 0, 1) := by decide +kernel
theorem dX6_liftAll_28 : decode cX6_liftAll 28 = .ok (.getfield 28, 3) := by decide +kernel
theorem dX6_liftAll_31 : decode cX6_liftAll 31 = .ok (.iload 6, 2) := by decide +kernel
theorem dX6_liftAll_33 : decode cX6_liftAll 33 = .ok (.aload_n 0, 1) := by decide +kernel
theorem dX6_liftAll_34 : decode cX6_liftAll 34 = .ok (.aload_n 1, 1) := by decide +kernel
theorem dX6_liftAll_35 : decode cX6_liftAll 35 = .ok (.aload_n 2, 1) := by decide +kernel
theorem dX6_liftAll_36 : decode cX6_liftAll 36 = .ok (.iload 6, 2) := by decide +kernel
theorem dX6_liftAll_38 : decode cX6_liftAll 38 = .ok (.invokevirtual 158, 3) := by decide +kernel
theorem dX6_liftAll_41 : decode cX6_liftAll 41 = .ok (.iastore, 1) := by decide +kernel
theorem dX6_liftAll_42 : decode cX6_liftAll 42 = .ok (.iinc 6 1, 3) := by decide +kernel
theorem dX6_liftAll_45 : decode cX6_liftAll 45 = .ok (.goto (-25), 3) := by decide +kernel
theorem dX6_liftAll_48 : decode cX6_liftAll 48 = .ok (.iconst 0, 1) := by decide +kernel
theorem dX6_liftAll_49 : decode cX6_liftAll 49 = .ok (.istore 6, 2) := by decide +kernel
theorem dX6_liftAll_51 : decode cX6_liftAll 51 = .ok (.iload 6, 2) := by decide +kernel
theorem dX6_liftAll_53 : decode cX6_liftAll 53 = .ok (.bipush 24, 2) := by decide +kernel
theorem dX6_liftAll_55 : decode cX6_liftAll 55 = .ok (.if_icmp .ge 61, 3) := by decide +kernel
theorem dX6_liftAll_58 : decode cX6_liftAll 58 = .ok (.aload_n 2, 1) := by decide +kernel
theorem dX6_liftAll_59 : decode cX6_liftAll 59 = .ok (.getfield 149, 3) := by decide +kernel
theorem dX6_liftAll_62 : decode cX6_liftAll 62 = .ok (.iload 6, 2) := by decide +kernel
theorem dX6_liftAll_64 : decode cX6_liftAll 64 = .ok (.dup2, 1) := by decide +kernel
theorem dX6_liftAll_65 : decode cX6_liftAll 65 = .ok (.iaload, 1) := by decide +kernel
theorem dX6_liftAll_66 : decode cX6_liftAll 66 = .ok (.aload_n 0, 1) := by decide +kernel
theorem dX6_liftAll_67 : decode cX6_liftAll 67 = .ok (.getfield 28, 3) := by decide +kernel
theorem dX6_liftAll_70 : decode cX6_liftAll 70 = .ok (.iload 6, 2) := by decide +kernel
theorem dX6_liftAll_72 : decode cX6_liftAll 72 = .ok (.iaload, 1) := by decide +kernel
theorem dX6_liftAll_73 : decode cX6_liftAll 73 = .ok (.isub, 1) := by decide +kernel
theorem dX6_liftAll_74 : decode cX6_liftAll 74 = .ok (.iastore, 1) := by decide +kernel
theorem dX6_liftAll_75 : decode cX6_liftAll 75 = .ok (.aload_n 2, 1) := by decide +kernel
theorem dX6_liftAll_76 : decode cX6_liftAll 76 = .ok (.getfield 149, 3) := by decide +kernel
theorem dX6_liftAll_79 : decode cX6_liftAll 79 = .ok (.iload 6, 2) := by decide +kernel
theorem dX6_liftAll_81 : decode cX6_liftAll 81 = .ok (.iload 4, 2) := by decide +kernel
theorem dX6_liftAll_83 : decode cX6_liftAll 83 = .ok (.iadd, 1) := by decide +kernel
theorem dX6_liftAll_84 : decode cX6_liftAll 84 = .ok (.invokestatic 162, 3) := by decide +kernel
theorem dX6_liftAll_87 : decode cX6_liftAll 87 = .ok (.dup2, 1) := by decide +kernel
theorem dX6_liftAll_88 : decode cX6_liftAll 88 = .ok (.iaload, 1) := by decide +kernel
theorem dX6_liftAll_89 : decode cX6_liftAll 89 = .ok (.aload_n 0, 1) := by decide +kernel
theorem dX6_liftAll_90 : decode cX6_liftAll 90 = .ok (.getfield 28, 3) := by decide +kernel
theorem dX6_liftAll_93 : decode cX6_liftAll 93 = .ok (.iload 6, 2) := by decide +kernel
theorem dX6_liftAll_95 : decode cX6_liftAll 95 = .ok (.iaload, 1) := by decide +kernel
theorem dX6_liftAll_96 : decode cX6_liftAll 96 = .ok (.iadd, 1) := by decide +kernel
theorem dX6_liftAll_97 : decode cX6_liftAll 97 = .ok (.iastore, 1) := by decide +kernel
theorem dX6_liftAll_98 : decode cX6_liftAll 98 = .ok (.iload 5, 2) := by decide +kernel
theorem dX6_liftAll_100 : decode cX6_liftAll 100 = .ok (.aload_n 0, 1) := by decide +kernel
theorem dX6_liftAll_101 : decode cX6_liftAll 101 = .ok (.getfield 28, 3) := by decide +kernel
theorem dX6_liftAll_104 : decode cX6_liftAll 104 = .ok (.iload 6, 2) := by decide +kernel
theorem dX6_liftAll_106 : decode cX6_liftAll 106 = .ok (.iaload, 1) := by decide +kernel
theorem dX6_liftAll_107 : decode cX6_liftAll 107 = .ok (.iadd, 1) := by decide +kernel
theorem dX6_liftAll_108 : decode cX6_liftAll 108 = .ok (.istore 5, 2) := by decide +kernel
theorem dX6_liftAll_110 : decode cX6_liftAll 110 = .ok (.iinc 6 1, 3) := by decide +kernel
theorem dX6_liftAll_113 : decode cX6_liftAll 113 = .ok (.goto (-62), 3) := by decide +kernel
theorem dX6_liftAll_116 : decode cX6_liftAll 116 = .ok (.iload_n 3, 1) := by decide +kernel
theorem dX6_liftAll_117 : decode cX6_liftAll 117 = .ok (.ifCond .le 8, 3) := by decide +kernel
theorem dX6_liftAll_120 : decode cX6_liftAll 120 = .ok (.iload 5, 2) := by decide +kernel
theorem dX6_liftAll_122 : decode cX6_liftAll 122 = .ok (.goto 4, 3) := by decide +kernel
theorem dX6_liftAll_125 : decode cX6_liftAll 125 = .ok (.iconst 0, 1) := by decide +kernel
theorem dX6_liftAll_126 : decode cX6_liftAll 126 = .ok (.ireturn, 1) := by decide +kernel
theorem dX6_slideAll_0 : decode cX6_slideAll 0 = .ok (.iconst 0, 1) := by decide +kernel
theorem dX6_slideAll_1 : decode cX6_slideAll 1 = .ok (.istore_n 3, 1) := by decide +kernel
theorem dX6_slideAll_2 : decode cX6_slideAll 2 = .ok (.iconst 0, 1) := by decide +kernel
theorem dX6_slideAll_3 : decode cX6_slideAll 3 = .ok (.istore 4, 2) := by decide +kernel
theorem dX6_slideAll_5 : decode cX6_slideAll 5 = .ok (.iload 4, 2) := by decide +kernel
theorem dX6_slideAll_7 : decode cX6_slideAll 7 = .ok (.bipush 24, 2) := by decide +kernel
theorem dX6_slideAll_9 : decode cX6_slideAll 9 = .ok (.if_icmp .ge 100, 3) := by decide +kernel
theorem dX6_slideAll_12 : decode cX6_slideAll 12 = .ok (.iload 4, 2) := by decide +kernel
theorem dX6_slideAll_14 : decode cX6_slideAll 14 = .ok (.invokestatic 173, 3) := by decide +kernel
theorem dX6_slideAll_17 : decode cX6_slideAll 17 = .ok (.istore 5, 2) := by decide +kernel
theorem dX6_slideAll_19 : decode cX6_slideAll 19 = .ok (.aload_n 2, 1) := by decide +kernel
theorem dX6_slideAll_20 : decode cX6_slideAll 20 = .ok (.getfield 149, 3) := by decide +kernel
theorem dX6_slideAll_23 : decode cX6_slideAll 23 = .ok (.iload 4, 2) := by decide +kernel
theorem dX6_slideAll_25 : decode cX6_slideAll 25 = .ok (.iaload, 1) := by decide +kernel
theorem dX6_slideAll_26 : decode cX6_slideAll 26 = .ok (.aload_n 2, 1) := by decide +kernel
theorem dX6_slideAll_27 : decode cX6_slideAll 27 = .ok (.getfield 149, 3) := by decide +kernel
theorem dX6_slideAll_30 : decode cX6_slideAll 30 = .ok (.iload 5, 2) := by decide +kernel
theorem dX6_slideAll_32 : decode cX6_slideAll 32 = .ok (.iaload, 1) := by decide +kernel
theorem dX6_slideAll_33 : decode cX6_slideAll 33 = .ok (.if_icmp .gt 10, 3) := by decide +kernel
theorem dX6_slideAll_36 : decode cX6_slideAll 36 = .ok (.iload 4, 2) := by decide +kernel
theorem dX6_slideAll_38 : decode cX6_slideAll 38 = .ok (.invokestatic 193, 3) := by decide +kernel
theorem dX6_slideAll_41 : decode cX6_slideAll 41 = .ok (.istore 5, 2) := by decide +kernel
theorem dX6_slideAll_43 : decode cX6_slideAll 43 = .ok (.aload_n 2, 1) := by decide +kernel
theorem dX6_slideAll_44 : decode cX6_slideAll 44 = .ok (.getfield 149, 3) := by decide +kernel
theorem dX6_slideAll_47 : decode cX6_slideAll 47 = .ok (.iload 4, 2) := by decide +kernel
theorem dX6_slideAll_49 : decode cX6_slideAll 49 = .ok (.iaload, 1) := by decide +kernel
theorem dX6_slideAll_50 : decode cX6_slideAll 50 = .ok (.aload_n 2, 1) := by decide +kernel
theorem dX6_slideAll_51 : decode cX6_slideAll 51 = .ok (.getfield 149, 3) := by decide +kernel
theorem dX6_slideAll_54 : decode cX6_slideAll 54 = .ok (.iload 5, 2) := by decide +kernel
theorem dX6_slideAll_56 : decode cX6_slideAll 56 = .ok (.iaload, 1) := by decide +kernel
theorem dX6_slideAll_57 : decode cX6_slideAll 57 = .ok (.isub, 1) := by decide +kernel
theorem dX6_slideAll_58 : decode cX6_slideAll 58 = .ok (.istore 6, 2) := by decide +kernel
theorem dX6_slideAll_60 : decode cX6_slideAll 60 = .ok (.iload 6, 2) := by decide +kernel
theorem dX6_slideAll_62 : decode cX6_slideAll 62 = .ok (.ifCond .le 41, 3) := by decide +kernel
theorem dX6_slideAll_65 : decode cX6_slideAll 65 = .ok (.aload_n 0, 1) := by decide +kernel
theorem dX6_slideAll_66 : decode cX6_slideAll 66 = .ok (.aload_n 1, 1) := by decide +kernel
theorem dX6_slideAll_67 : decode cX6_slideAll 67 = .ok (.iload 6, 2) := by decide +kernel
theorem dX6_slideAll_69 : decode cX6_slideAll 69 = .ok (.invokevirtual 318, 3) := by decide +kernel
theorem dX6_slideAll_72 : decode cX6_slideAll 72 = .ok (.istore 7, 2) := by decide +kernel
theorem dX6_slideAll_74 : decode cX6_slideAll 74 = .ok (.aload_n 2, 1) := by decide +kernel
theorem dX6_slideAll_75 : decode cX6_slideAll 75 = .ok (.getfield 149, 3) := by decide +kernel
theorem dX6_slideAll_78 : decode cX6_slideAll 78 = .ok (.iload 4, 2) := by decide +kernel
theorem dX6_slideAll_80 : decode cX6_slideAll 80 = .ok (.dup2, 1) := by decide +kernel
theorem dX6_slideAll_81 : decode cX6_slideAll 81 = .ok (.iaload, 1) := by decide +kernel
theorem dX6_slideAll_82 : decode cX6_slideAll 82 = .ok (.iload 7, 2) := by decide +kernel
theorem dX6_slideAll_84 : decode cX6_slideAll 84 = .ok (.isub, 1) := by decide +kernel
theorem dX6_slideAll_85 : decode cX6_slideAll 85 = .ok (.iastore, 1) := by decide +kernel
theorem dX6_slideAll_86 : decode cX6_slideAll 86 = .ok (.aload_n 2, 1) := by decide +kernel
theorem dX6_slideAll_87 : decode cX6_slideAll 87 = .ok (.getfield 149, 3) := by decide +kernel
theorem dX6_slideAll_90 : decode cX6_slideAll 90 = .ok (.iload 5, 2) := by decide +kernel
theorem dX6_slideAll_92 : decode cX6_slideAll 92 = .ok (.dup2, 1) := by decide +kernel
theorem dX6_slideAll_93 : decode cX6_slideAll 93 = .ok (.iaload, 1) := by decide +kernel
theorem dX6_slideAll_94 : decode cX6_slideAll 94 = .ok (.iload 7, 2) := by decide +kernel
theorem dX6_slideAll_96 : decode cX6_slideAll 96 = .ok (.iadd, 1) := by decide +kernel
theorem dX6_slideAll_97 : decode cX6_slideAll 97 = .ok (.iastore, 1) := by decide +kernel
theorem dX6_slideAll_98 : decode cX6_slideAll 98 = .ok (.iload_n 3, 1) := by decide +kernel
theorem dX6_slideAll_99 : decode cX6_slideAll 99 = .ok (.iload 7, 2) := by decide +kernel
theorem dX6_slideAll_101 : decode cX6_slideAll 101 = .ok (.iadd, 1) := by decide +kernel
theorem dX6_slideAll_102 : decode cX6_slideAll 102 = .ok (.istore_n 3, 1) := by decide +kernel
theorem dX6_slideAll_103 : decode cX6_slideAll 103 = .ok (.iinc 4 1, 3) := by decide +kernel
theorem dX6_slideAll_106 : decode cX6_slideAll 106 = .ok (.goto (-101), 3) := by decide +kernel
theorem dX6_slideAll_109 : decode cX6_slideAll 109 = .ok (.iload_n 3, 1) := by decide +kernel
theorem dX6_slideAll_110 : decode cX6_slideAll 110 = .ok (.ireturn, 1) := by decide +kernel
theorem dX6_think_0 : decode cX6_think 0 = .ok (.aload_n 0, 1) := by decide +kernel
theorem dX6_think_1 : decode cX6_think 1 = .ok (.getfield 25, 3) := by decide +kernel
theorem dX6_think_4 : decode cX6_think 4 = .ok (.aload_n 1, 1) := by decide +kernel
theorem dX6_think_5 : decode cX6_think 5 = .ok (.invokevirtual 322, 3) := by decide +kernel
theorem dX6_think_8 : decode cX6_think 8 = .ok (.aload_n 0, 1) := by decide +kernel
theorem dX6_think_9 : decode cX6_think 9 = .ok (.getfield 25, 3) := by decide +kernel
theorem dX6_think_12 : decode cX6_think 12 = .ok (.getfield 85, 3) := by decide +kernel
theorem dX6_think_15 : decode cX6_think 15 = .ok (.iconst 0, 1) := by decide +kernel
theorem dX6_think_16 : decode cX6_think 16 = .ok (.aaload, 1) := by decide +kernel
theorem dX6_think_17 : decode cX6_think 17 = .ok (.aload_n 1, 1) := by decide +kernel
theorem dX6_think_18 : decode cX6_think 18 = .ok (.getfield 85, 3) := by decide +kernel
theorem dX6_think_21 : decode cX6_think 21 = .ok (.iload_n 2, 1) := by decide +kernel
theorem dX6_think_22 : decode cX6_think 22 = .ok (.aaload, 1) := by decide +kernel
theorem dX6_think_23 : decode cX6_think 23 = .ok (.invokevirtual 276, 3) := by decide +kernel
theorem dX6_think_26 : decode cX6_think 26 = .ok (.aload_n 0, 1) := by decide +kernel
theorem dX6_think_27 : decode cX6_think 27 = .ok (.getfield 25, 3) := by decide +kernel
theorem dX6_think_30 : decode cX6_think 30 = .ok (.getfield 85, 3) := by decide +kernel
theorem dX6_think_33 : decode cX6_think 33 = .ok (.iconst 0, 1) := by decide +kernel
theorem dX6_think_34 : decode cX6_think 34 = .ok (.aaload, 1) := by decide +kernel
theorem dX6_think_35 : decode cX6_think 35 = .ok (.areturn, 1) := by decide +kernel
theorem dX6_thinkBehind_0 : decode cX6_thinkBehind 0 = .ok (.aload_n 0, 1) := by decide +kernel
theorem dX6_thinkBehind_1 : decode cX6_thinkBehind 1 = .ok (.aload_n 0, 1) := by decide +kernel
theorem dX6_thinkBehind_2 : decode cX6_thinkBehind 2 = .ok (.getfield 14, 3) := by decide +kernel
theorem dX6_thinkBehind_5 : decode cX6_thinkBehind 5 = .ok (.iload_n 1, 1) := by decide +kernel
theorem dX6_thinkBehind_6 : decode cX6_thinkBehind 6 = .ok (.invokevirtual 181, 3) := by decide +kernel
theorem dX6_thinkBehind_9 : decode cX6_thinkBehind 9 = .ok (.astore 5, 2) := by decide +kernel
theorem dX6_thinkBehind_11 : decode cX6_thinkBehind 11 = .ok (.aload_n 0, 1) := by decide +kernel
theorem dX6_thinkBehind_12 : decode cX6_thinkBehind 12 = .ok (.getfield 25, 3) := by decide +kernel
theorem dX6_thinkBehind_15 : decode cX6_thinkBehind 15 = .ok (.getfield 143, 3) := by decide +kernel
theorem dX6_thinkBehind_18 : decode cX6_thinkBehind 18 = .ok (.iload_n 2, 1) := by decide +kernel
theorem dX6_thinkBehind_19 : decode cX6_thinkBehind 19 = .ok (.iload_n 3, 1) := by decide +kernel
theorem dX6_thinkBehind_20 : decode cX6_thinkBehind 20 = .ok (.iastore, 1) := by decide +kernel
theorem dX6_thinkBehind_21 : decode cX6_thinkBehind 21 = .ok (.iconst 0, 1) := by decide +kernel
theorem dX6_thinkBehind_22 : decode cX6_thinkBehind 22 = .ok (.istore 6, 2) := by decide +kernel
theorem dX6_thinkBehind_24 : decode cX6_thinkBehind 24 = .ok (.iload 6, 2) := by decide +kernel
theorem dX6_thinkBehind_26 : decode cX6_thinkBehind 26 = .ok (.iload 4, 2) := by decide +kernel
theorem dX6_thinkBehind_28 : decode cX6_thinkBehind 28 = .ok (.if_icmp .ge 20, 3) := by decide +kernel
theorem dX6_thinkBehind_31 : decode cX6_thinkBehind 31 = .ok (.aload_n 0, 1) := by decide +kernel
theorem dX6_thinkBehind_32 : decode cX6_thinkBehind 32 = .ok (.aload_n 0, 1) := by decide +kernel
theorem dX6_thinkBehind_33 : decode cX6_thinkBehind 33 = .ok (.getfield 25, 3) := by decide +kernel
theorem dX6_thinkBehind_36 : decode cX6_thinkBehind 36 = .ok (.aload 5, 2) := by decide +kernel
theorem dX6_thinkBehind_38 : decode cX6_thinkBehind 38 = .ok (.invokevirtual 166, 3) := by decide +kernel
theorem dX6_thinkBehind_41 : decode cX6_thinkBehind 41 = .ok (.pop, 1) := by decide +kernel
theorem dX6_thinkBehind_42 : decode cX6_thinkBehind 42 = .ok (.iinc 6 1, 3) := by decide +kernel
theorem dX6_thinkBehind_45 : decode cX6_thinkBehind 45 = .ok (.goto (-21), 3) := by decide +kernel
theorem dX6_thinkBehind_48 : decode cX6_thinkBehind 48 = .ok (.aload 5, 2) := by decide +kernel
theorem dX6_thinkBehind_50 : decode cX6_thinkBehind 50 = .ok (.areturn, 1) := by decide +kernel
theorem dX6_feedNumber_0 : decode cX6_feedNumber 0 = .ok (.bipush 24, 2) := by decide +kernel
theorem dX6_feedNumber_2 : decode cX6_feedNumber 2 = .ok (.istore_n 2, 1) := by decide +kernel
theorem dX6_feedNumber_3 : decode cX6_feedNumber 3 = .ok (.iload_n 2, 1) := by decide +kernel
theorem dX6_feedNumber_4 : decode cX6_feedNumber 4 = .ok (.ifCond .lt 44, 3) := by decide +kernel
theorem dX6_feedNumber_7 : decode cX6_feedNumber 7 = .ok (.aload_n 0, 1) := by decide +kernel
theorem dX6_feedNumber_8 : decode cX6_feedNumber 8 = .ok (.getfield 51, 3) := by decide +kernel
theorem dX6_feedNumber_11 : decode cX6_feedNumber 11 = .ok (.bipush 96, 2) := by decide +kernel
theorem dX6_feedNumber_13 : decode cX6_feedNumber 13 = .ok (.if_icmp .ge 29, 3) := by decide +kernel
theorem dX6_feedNumber_16 : decode cX6_feedNumber 16 = .ok (.aload_n 0, 1) := by decide +kernel
theorem dX6_feedNumber_17 : decode cX6_feedNumber 17 = .ok (.getfield 48, 3) := by decide +kernel
theorem dX6_feedNumber_20 : decode cX6_feedNumber 20 = .ok (.aload_n 0, 1) := by decide +kernel
theorem dX6_feedNumber_21 : decode cX6_feedNumber 21 = .ok (.getfield 51, 3) := by decide +kernel
theorem dX6_feedNumber_24 : decode cX6_feedNumber 24 = .ok (.iload_n 1, 1) := by decide +kernel
theorem dX6_feedNumber_25 : decode cX6_feedNumber 25 = .ok (.iload_n 2, 1) := by decide +kernel
theorem dX6_feedNumber_26 : decode cX6_feedNumber 26 = .ok (.iushr, 1) := by decide +kernel
theorem dX6_feedNumber_27 : decode cX6_feedNumber 27 = .ok (.sipush 255, 3) := by decide +kernel
theorem dX6_feedNumber_30 : decode cX6_feedNumber 30 = .ok (.iand, 1) := by decide +kernel
theorem dX6_feedNumber_31 : decode cX6_feedNumber 31 = .ok (.iastore, 1) := by decide +kernel
theorem dX6_feedNumber_32 : decode cX6_feedNumber 32 = .ok (.aload_n 0, 1) := by decide +kernel
theorem dX6_feedNumber_33 : decode cX6_feedNumber 33 = .ok (.dup, 1) := by decide +kernel
theorem dX6_feedNumber_34 : decode cX6_feedNumber 34 = .ok (.getfield 51, 3) := by decide +kernel
theorem dX6_feedNumber_37 : decode cX6_feedNumber 37 = .ok (.iconst 1, 1) := by decide +kernel
theorem dX6_feedNumber_38 : decode cX6_feedNumber 38 = .ok (.iadd, 1) := by decide +kernel
theorem dX6_feedNumber_39 : decode cX6_feedNumber 39 = .ok (.putfield 51, 3) := by decide +kernel
theorem dX6_feedNumber_42 : decode cX6_feedNumber 42 = .ok (.iinc 2 (-8), 3) := by decide +kernel
theorem dX6_feedNumber_45 : decode cX6_feedNumber 45 = .ok (.goto (-42), 3) := by decide +kernel
theorem dX6_feedNumber_48 : decode cX6_feedNumber 48 = .ok (.return_, 1) := by decide +kernel
theorem dJ11_isValidCodePoint_9a6ad_0 : decode cJ11_isValidCodePoint_9a6ad 0 = .ok (.iload_n 0, 1) := by decide +kernel
theorem dJ11_isValidCodePoint_9a6ad_1 : decode cJ11_isValidCodePoint_9a6ad 1 = .ok (.bipush 16, 2) := by decide +kernel
theorem dJ11_isValidCodePoint_9a6ad_3 : decode cJ11_isValidCodePoint_9a6ad 3 = .ok (.iushr, 1) := by decide +kernel
theorem dJ11_isValidCodePoint_9a6ad_4 : decode cJ11_isValidCodePoint_9a6ad 4 = .ok (.istore_n 1, 1) := by decide +kernel
theorem dJ11_isValidCodePoint_9a6ad_5 : decode cJ11_isValidCodePoint_9a6ad 5 = .ok (.iload_n 1, 1) := by decide +kernel
theorem dJ11_isValidCodePoint_9a6ad_6 : decode cJ11_isValidCodePoint_9a6ad 6 = .ok (.bipush 17, 2) := by decide +kernel
theorem dJ11_isValidCodePoint_9a6ad_8 : decode cJ11_isValidCodePoint_9a6ad 8 = .ok (.if_icmp .ge 7, 3) := by decide +kernel
theorem dJ11_isValidCodePoint_9a6ad_11 : decode cJ11_isValidCodePoint_9a6ad 11 = .ok (.iconst 1, 1) := by decide +kernel
theorem dJ11_isValidCodePoint_9a6ad_12 : decode cJ11_isValidCodePoint_9a6ad 12 = .ok (.goto 4, 3) := by decide +kernel
theorem dJ11_isValidCodePoint_9a6ad_15 : decode cJ11_isValidCodePoint_9a6ad 15 = .ok (.iconst 0, 1) := by decide +kernel
theorem dJ11_isValidCodePoint_9a6ad_16 : decode cJ11_isValidCodePoint_9a6ad 16 = .ok (.ireturn, 1) := by decide +kernel
theorem dJ11_highSurrogate_5068e_0 : decode cJ11_highSurrogate_5068e 0 = .ok (.iload_n 0, 1) := by decide +kernel
theorem dJ11_highSurrogate_5068e_1 : decode cJ11_highSurrogate_5068e 1 = .ok (.bipush 10, 2) := by decide +kernel
theorem dJ11_highSurrogate_5068e_3 : decode cJ11_highSurrogate_5068e 3 = .ok (.iushr, 1) := by decide +kernel
theorem dJ11_highSurrogate_5068e_4 : decode cJ11_highSurrogate_5068e 4 = .ok (.ldc 110, 2) := by decide +kernel
theorem dJ11_highSurrogate_5068e_6 : decode cJ11_highSurrogate_5068e 6 = .ok (.iadd, 1) := by decide +kernel
theorem dJ11_highSurrogate_5068e_7 : decode cJ11_highSurrogate_5068e 7 = .ok (.i2c, 1) := by decide +kernel
theorem dJ11_highSurrogate_5068e_8 : decode cJ11_highSurrogate_5068e 8 = .ok (.ireturn, 1) := by decide +kernel
theorem dJ11_lowSurrogate_5068e_0 : decode cJ11_lowSurrogate_5068e 0 = .ok (.iload_n 0, 1) := by decide +kernel
theorem dJ11_lowSurrogate_5068e_1 : decode cJ11_lowSurrogate_5068e 1 = .ok (.sipush 1023, 3) := by decide +kernel
theorem dJ11_lowSurrogate_5068e_4 : decode cJ11_lowSurrogate_5068e 4 = .ok (.iand, 1) := by decide +kernel
theorem dJ11_lowSurrogate_5068e_5 : decode cJ11_lowSurrogate_5068e 5 = .ok (.ldc 76, 2) := by decide +kernel
theorem dJ11_lowSurrogate_5068e_7 : decode cJ11_lowSurrogate_5068e 7 = .ok (.iadd, 1) := by decide +kernel
theorem dJ11_lowSurrogate_5068e_8 : decode cJ11_lowSurrogate_5068e 8 = .ok (.i2c, 1) := by decide +kernel
theorem dJ11_lowSurrogate_5068e_9 : decode cJ11_lowSurrogate_5068e 9 = .ok (.ireturn, 1) := by decide +kernel
theorem dJ6_compare_7cf53_0 : decode cJ6_compare_7cf53 0 = .ok (.iload_n 0, 1) := by decide +kernel
theorem dJ6_compare_7cf53_1 : decode cJ6_compare_7cf53 1 = .ok (.iload_n 1, 1) := by decide +kernel
theorem dJ6_compare_7cf53_2 : decode cJ6_compare_7cf53 2 = .ok (.if_icmp .ge 7, 3) := by decide +kernel
theorem dJ6_compare_7cf53_5 : decode cJ6_compare_7cf53 5 = .ok (.iconst (-1), 1) := by decide +kernel
theorem dJ6_compare_7cf53_6 : decode cJ6_compare_7cf53 6 = .ok (.goto 13, 3) := by decide +kernel
theorem dJ6_compare_7cf53_9 : decode cJ6_compare_7cf53 9 = .ok (.iload_n 0, 1) := by decide +kernel
theorem dJ6_compare_7cf53_10 : decode cJ6_compare_7cf53 10 = .ok (.iload_n 1, 1) := by decide +kernel
theorem dJ6_compare_7cf53_11 : decode cJ6_compare_7cf53 11 = .ok (.if_icmp .ne 7, 3) := by decide +kernel
theorem dJ6_compare_7cf53_14 : decode cJ6_compare_7cf53 14 = .ok (.iconst 0, 1) := by decide +kernel
theorem dJ6_compare_7cf53_15 : decode cJ6_compare_7cf53 15 = .ok (.goto 4, 3) := by decide +kernel
theorem dJ6_compare_7cf53_18 : decode cJ6_compare_7cf53 18 = .ok (.iconst 1, 1) := by decide +kernel
theorem dJ6_compare_7cf53_19 : decode cJ6_compare_7cf53 19 = .ok (.ireturn, 1) := by decide +kernel
theorem dJ9_floorMod_7cf53_0 : decode cJ9_floorMod_7cf53 0 = .ok (.iload_n 0, 1) := by decide +kernel
theorem dJ9_floorMod_7cf53_1 : decode cJ9_floorMod_7cf53 1 = .ok (.iload_n 1, 1) := by decide +kernel
theorem dJ9_floorMod_7cf53_2 : decode cJ9_floorMod_7cf53 2 = .ok (.irem, 1) := by decide +kernel
theorem dJ9_floorMod_7cf53_3 : decode cJ9_floorMod_7cf53 3 = .ok (.istore_n 2, 1) := by decide +kernel
theorem dJ9_floorMod_7cf53_4 : decode cJ9_floorMod_7cf53 4 = .ok (.iload_n 0, 1) := by decide +kernel
theorem dJ9_floorMod_7cf53_5 : decode cJ9_floorMod_7cf53 5 = .ok (.iload_n 1, 1) := by decide +kernel
theorem dJ9_floorMod_7cf53_6 : decode cJ9_floorMod_7cf53 6 = .ok (.ixor, 1) := by decide +kernel
theorem dJ9_floorMod_7cf53_7 : decode cJ9_floorMod_7cf53 7 = .ok (.ifCond .ge 11, 3) := by decide +kernel
theorem dJ9_floorMod_7cf53_10 : decode cJ9_floorMod_7cf53 10 = .ok (.iload_n 2, 1) := by decide +kernel
theorem dJ9_floorMod_7cf53_11 : decode cJ9_floorMod_7cf53 11 = .ok (.ifCond .eq 7, 3) := by decide +kernel
theorem dJ9_floorMod_7cf53_14 : decode cJ9_floorMod_7cf53 14 = .ok (.iload_n 2, 1) := by decide +kernel
theorem dJ9_floorMod_7cf53_15 : decode cJ9_floorMod_7cf53 15 = .ok (.iload_n 1, 1) := by decide +kernel
theorem dJ9_floorMod_7cf53_16 : decode cJ9_floorMod_7cf53 16 = .ok (.iadd, 1) := by decide +kernel
theorem dJ9_floorMod_7cf53_17 : decode cJ9_floorMod_7cf53 17 = .ok (.ireturn, 1) := by decide +kernel
theorem dJ9_floorMod_7cf53_18 : decode cJ9_floorMod_7cf53 18 = .ok (.iload_n 2, 1) := by decide +kernel
theorem dJ9_floorMod_7cf53_19 : decode cJ9_floorMod_7cf53 19 = .ok (.ireturn, 1) := by decide +kernel
theorem dJ9_abs_0f7a4_0 : decode cJ9_abs_0f7a4 0 = .ok (.iload_n 0, 1) := by decide +kernel
theorem dJ9_abs_0f7a4_1 : decode cJ9_abs_0f7a4 1 = .ok (.ifCond .ge 8, 3) := by decide +kernel
theorem dJ9_abs_0f7a4_4 : decode cJ9_abs_0f7a4 4 = .ok (.iload_n 0, 1) := by decide +kernel
theorem dJ9_abs_0f7a4_5 : decode cJ9_abs_0f7a4 5 = .ok (.ineg, 1) := by decide +kernel
theorem dJ9_abs_0f7a4_6 : decode cJ9_abs_0f7a4 6 = .ok (.goto 4, 3) := by decide +kernel
theorem dJ9_abs_0f7a4_9 : decode cJ9_abs_0f7a4 9 = .ok (.iload_n 0, 1) := by decide +kernel
theorem dJ9_abs_0f7a4_10 : decode cJ9_abs_0f7a4 10 = .ok (.ireturn, 1) := by decide +kernel
theorem dJ9_max_7cf53_0 : decode cJ9_max_7cf53 0 = .ok (.iload_n 0, 1) := by decide +kernel
theorem dJ9_max_7cf53_1 : decode cJ9_max_7cf53 1 = .ok (.iload_n 1, 1) := by decide +kernel
theorem dJ9_max_7cf53_2 : decode cJ9_max_7cf53 2 = .ok (.if_icmp .lt 7, 3) := by decide +kernel
theorem dJ9_max_7cf53_5 : decode cJ9_max_7cf53 5 = .ok (.iload_n 0, 1) := by decide +kernel
theorem dJ9_max_7cf53_6 : decode cJ9_max_7cf53 6 = .ok (.goto 4, 3) := by decide +kernel
theorem dJ9_max_7cf53_9 : decode cJ9_max_7cf53 9 = .ok (.iload_n 1, 1) := by decide +kernel
theorem dJ9_max_7cf53_10 : decode cJ9_max_7cf53 10 = .ok (.ireturn, 1) := by decide +kernel
theorem dJ9_min_7cf53_0 : decode cJ9_min_7cf53 0 = .ok (.iload_n 0, 1) := by decide +kernel
theorem dJ9_min_7cf53_1 : decode cJ9_min_7cf53 1 = .ok (.iload_n 1, 1) := by decide +kernel
theorem dJ9_min_7cf53_2 : decode cJ9_min_7cf53 2 = .ok (.if_icmp .gt 7, 3) := by decide +kernel
theorem dJ9_min_7cf53_5 : decode cJ9_min_7cf53 5 = .ok (.iload_n 0, 1) := by decide +kernel
theorem dJ9_min_7cf53_6 : decode cJ9_min_7cf53 6 = .ok (.goto 4, 3) := by decide +kernel
theorem dJ9_min_7cf53_9 : decode cJ9_min_7cf53 9 = .ok (.iload_n 1, 1) := by decide +kernel
theorem dJ9_min_7cf53_10 : decode cJ9_min_7cf53 10 = .ok (.ireturn, 1) := by decide +kernel
theorem dJ0_length_8abf5_0 : decode cJ0_length_8abf5 0 = .ok (.aload_n 0, 1) := by decide +kernel
theorem dJ0_length_8abf5_1 : decode cJ0_length_8abf5 1 = .ok (.getfield 9, 3) := by decide +kernel
theorem dJ0_length_8abf5_4 : decode cJ0_length_8abf5 4 = .ok (.arraylength, 1) := by decide +kernel
theorem dJ0_length_8abf5_5 : decode cJ0_length_8abf5 5 = .ok (.aload_n 0, 1) := by decide +kernel
theorem dJ0_length_8abf5_6 : decode cJ0_length_8abf5 6 = .ok (.invokevirtual 335, 3) := by decide +kernel
theorem dJ0_length_8abf5_9 : decode cJ0_length_8abf5 9 = .ok (.ishr, 1) := by decide +kernel
theorem dJ0_length_8abf5_10 : decode cJ0_length_8abf5 10 = .ok (.ireturn, 1) := by decide +kernel
theorem dJ0_charAt_5068e_0 : decode cJ0_charAt_5068e 0 = .ok (.aload_n 0, 1) := by decide +kernel
theorem dJ0_charAt_5068e_1 : decode cJ0_charAt_5068e 1 = .ok (.invokevirtual 492, 3) := by decide +kernel
theorem dJ0_charAt_5068e_4 : decode cJ0_charAt_5068e 4 = .ok (.ifCond .eq 12, 3) := by decide +kernel
theorem dJ0_charAt_5068e_7 : decode cJ0_charAt_5068e 7 = .ok (.aload_n 0, 1) := by decide +kernel
theorem dJ0_charAt_5068e_8 : decode cJ0_charAt_5068e 8 = .ok (.getfield 9, 3) := by decide +kernel
theorem dJ0_charAt_5068e_11 : decode cJ0_charAt_5068e 11 = .ok (.iload_n 1, 1) := by decide +kernel
theorem dJ0_charAt_5068e_12 : decode cJ0_charAt_5068e 12 = .ok (.invokestatic 495, 3) := by decide +kernel
theorem dJ0_charAt_5068e_15 : decode cJ0_charAt_5068e 15 = .ok (.ireturn, 1) := by decide +kernel
theorem dJ0_charAt_5068e_16 : decode cJ0_charAt_5068e 16 = .ok (.aload_n 0, 1) := by decide +kernel
theorem dJ0_charAt_5068e_17 : decode cJ0_charAt_5068e 17 = .ok (.getfield 9, 3) := by decide +kernel
theorem dJ0_charAt_5068e_20 : decode cJ0_charAt_5068e 20 = .ok (.iload_n 1, 1) := by decide +kernel
theorem dJ0_charAt_5068e_21 : decode cJ0_charAt_5068e 21 = .ok (.invokestatic 498, 3) := by decide +kernel
theorem dJ0_charAt_5068e_24 : decode cJ0_charAt_5068e 24 = .ok (.ireturn, 1) := by decide +kernel
theorem dJ0_indexOf_0f7a4_0 : decode cJ0_indexOf_0f7a4 0 = .ok (.aload_n 0, 1) := by decide +kernel
theorem dJ0_indexOf_0f7a4_1 : decode cJ0_indexOf_0f7a4 1 = .ok (.iload_n 1, 1) := by decide +kernel
theorem dJ0_indexOf_0f7a4_2 : decode cJ0_indexOf_0f7a4 2 = .ok (.iconst 0, 1) := by decide +kernel
theorem dJ0_indexOf_0f7a4_3 : decode cJ0_indexOf_0f7a4 3 = .ok (.invokevirtual 633, 3) := by decide +kernel
theorem dJ0_indexOf_0f7a4_6 : decode cJ0_indexOf_0f7a4 6 = .ok (.ireturn, 1) := by decide +kernel
theorem dJ0_indexOf_7cf53_0 : decode cJ0_indexOf_7cf53 0 = .ok (.aload_n 0, 1) := by decide +kernel
theorem dJ0_indexOf_7cf53_1 : decode cJ0_indexOf_7cf53 1 = .ok (.invokevirtual 492, 3) := by decide +kernel
theorem dJ0_indexOf_7cf53_4 : decode cJ0_indexOf_7cf53 4 = .ok (.ifCond .eq 19, 3) := by decide +kernel
theorem dJ0_indexOf_7cf53_7 : decode cJ0_indexOf_7cf53 7 = .ok (.aload_n 0, 1) := by decide +kernel
theorem dJ0_indexOf_7cf53_8 : decode cJ0_indexOf_7cf53 8 = .ok (.getfield 9, 3) := by decide +kernel
theorem dJ0_indexOf_7cf53_11 : decode cJ0_indexOf_7cf53 11 = .ok (.iload_n 1, 1) := by decide +kernel
theorem dJ0_indexOf_7cf53_12 : decode cJ0_indexOf_7cf53 12 = .ok (.iload_n 2, 1) := by decide +kernel
theorem dJ0_indexOf_7cf53_13 : decode cJ0_indexOf_7cf53 13 = .ok (.aload_n 0, 1) := by decide +kernel
theorem dJ0_indexOf_7cf53_14 : decode cJ0_indexOf_7cf53 14 = .ok (.invokevirtual 505, 3) := by decide +kernel
theorem dJ0_indexOf_7cf53_17 : decode cJ0_indexOf_7cf53 17 = .ok (.invokestatic 637, 3) := by decide +kernel
theorem dJ0_indexOf_7cf53_20 : decode cJ0_indexOf_7cf53 20 = .ok (.goto 16, 3) := by decide +kernel
theorem dJ0_indexOf_7cf53_23 : decode cJ0_indexOf_7cf53 23 = .ok (.aload_n 0, 1) := by decide +kernel
theorem dJ0_indexOf_7cf53_24 : decode cJ0_indexOf_7cf53 24 = .ok (.getfield 9, 3) := by decide +kernel
theorem dJ0_indexOf_7cf53_27 : decode cJ0_indexOf_7cf53 27 = .ok (.iload_n 1, 1) := by decide +kernel
theorem dJ0_indexOf_7cf53_28 : decode cJ0_indexOf_7cf53 28 = .ok (.iload_n 2, 1) := by decide +kernel
theorem dJ0_indexOf_7cf53_29 : decode cJ0_indexOf_7cf53 29 = .ok (.aload_n 0, 1) := by decide +kernel
theorem dJ0_indexOf_7cf53_30 : decode cJ0_indexOf_7cf53 30 = .ok (.invokevirtual 505, 3) := by decide +kernel
theorem dJ0_indexOf_7cf53_33 : decode cJ0_indexOf_7cf53 33 = .ok (.invokestatic 640, 3) := by decide +kernel
theorem dJ0_indexOf_7cf53_36 : decode cJ0_indexOf_7cf53 36 = .ok (.ireturn, 1) := by decide +kernel
theorem dJ0_coder_7d493_0 : decode cJ0_coder_7d493 0 = .ok (.getstatic 38, 3) := by decide +kernel
theorem dJ0_coder_7d493_3 : decode cJ0_coder_7d493 3 = .ok (.ifCond .eq 10, 3) := by decide +kernel
theorem dJ0_coder_7d493_6 : decode cJ0_coder_7d493 6 = .ok (.aload_n 0, 1) := by decide +kernel
theorem dJ0_coder_7d493_7 : decode cJ0_coder_7d493 7 = .ok (.getfield 15, 3) := by decide +kernel
theorem dJ0_coder_7d493_10 : decode cJ0_coder_7d493 10 = .ok (.goto 4, 3) := by decide +kernel
theorem dJ0_coder_7d493_13 : decode cJ0_coder_7d493 13 = .ok (.iconst 1, 1) := by decide +kernel
theorem dJ0_coder_7d493_14 : decode cJ0_coder_7d493 14 = .ok (.ireturn, 1) := by decide +kernel
theorem dJ0_isLatin1_aae02_0 : decode cJ0_isLatin1_aae02 0 = .ok (.getstatic 38, 3) := by decide +kernel
theorem dJ0_isLatin1_aae02_3 : decode cJ0_isLatin1_aae02 3 = .ok (.ifCond .eq 14, 3) := by decide +kernel
theorem dJ0_isLatin1_aae02_6 : decode cJ0_isLatin1_aae02 6 = .ok (.aload_n 0, 1) := by decide +kernel
theorem dJ0_isLatin1_aae02_7 : decode cJ0_isLatin1_aae02 7 = .ok (.getfield 15, 3) := by decide +kernel
theorem dJ0_isLatin1_aae02_10 : decode cJ0_isLatin1_aae02 10 = .ok (.ifCond .ne 7, 3) := by decide +kernel
theorem dJ0_isLatin1_aae02_13 : decode cJ0_isLatin1_aae02 13 = .ok (.iconst 1, 1) := by decide +kernel
theorem dJ0_isLatin1_aae02_14 : decode cJ0_isLatin1_aae02 14 = .ok (.goto 4, 3) := by decide +kernel
theorem dJ0_isLatin1_aae02_17 : decode cJ0_isLatin1_aae02 17 = .ok (.iconst 0, 1) := by decide +kernel
theorem dJ0_isLatin1_aae02_18 : decode cJ0_isLatin1_aae02 18 = .ok (.ireturn, 1) := by decide +kernel
theorem dJ0_checkIndex_df160_0 : decode cJ0_checkIndex_df160 0 = .ok (.iload_n 0, 1) := by decide +kernel
theorem dJ0_checkIndex_df160_1 : decode cJ0_checkIndex_df160 1 = .ok (.iload_n 1, 1) := by decide +kernel
theorem dJ0_checkIndex_df160_2 : decode cJ0_checkIndex_df160 2 = .ok (.getstatic 1053, 3) := by decide +kernel
theorem dJ0_checkIndex_df160_5 : decode cJ0_checkIndex_df160 5 = .ok (.invokestatic 1059, 3) := by decide +kernel
theorem dJ0_checkIndex_df160_8 : decode cJ0_checkIndex_df160 8 = .ok (.pop, 1) := by decide +kernel
theorem dJ0_checkIndex_df160_9 : decode cJ0_checkIndex_df160 9 = .ok (.return_, 1) := by decide +kernel
theorem dJ0_checkBoundsBeginEnd_23922_0 : decode cJ0_checkBoundsBeginEnd_23922 0 = .ok (.iload_n 0, 1) := by decide +kernel
theorem dJ0_checkBoundsBeginEnd_23922_1 : decode cJ0_checkBoundsBeginEnd_23922 1 = .ok (.iload_n 1, 1) := by decide +kernel
theorem dJ0_checkBoundsBeginEnd_23922_2 : decode cJ0_checkBoundsBeginEnd_23922 2 = .ok (.iload_n 2, 1) := by decide +kernel
theorem dJ0_checkBoundsBeginEnd_23922_3 : decode cJ0_checkBoundsBeginEnd_23922 3 = .ok (.getstatic 1053, 3) := by decide +kernel
theorem dJ0_checkBoundsBeginEnd_23922_6 : decode cJ0_checkBoundsBeginEnd_23922 6 = .ok (.invokestatic 1062, 3) := by decide +kernel
theorem dJ0_checkBoundsBeginEnd_23922_9 : decode cJ0_checkBoundsBeginEnd_23922 9 = .ok (.pop, 1) := by decide +kernel
theorem dJ0_checkBoundsBeginEnd_23922_10 : decode cJ0_checkBoundsBeginEnd_23922 10 = .ok (.return_, 1) := by decide +kernel
theorem dJ1_charAt_3b067_0 : decode cJ1_charAt_3b067 0 = .ok (.iload_n 1, 1) := by decide +kernel
theorem dJ1_charAt_3b067_1 : decode cJ1_charAt_3b067 1 = .ok (.aload_n 0, 1) := by decide +kernel
theorem dJ1_charAt_3b067_2 : decode cJ1_charAt_3b067 2 = .ok (.arraylength, 1) := by decide +kernel
theorem dJ1_charAt_3b067_3 : decode cJ1_charAt_3b067 3 = .ok (.invokestatic 9, 3) := by decide +kernel
theorem dJ1_charAt_3b067_6 : decode cJ1_charAt_3b067 6 = .ok (.aload_n 0, 1) := by decide +kernel
theorem dJ1_charAt_3b067_7 : decode cJ1_charAt_3b067 7 = .ok (.iload_n 1, 1) := by decide +kernel
theorem dJ1_charAt_3b067_8 : decode cJ1_charAt_3b067 8 = .ok (.baload, 1) := by decide +kernel
theorem dJ1_charAt_3b067_9 : decode cJ1_charAt_3b067 9 = .ok (.sipush 255, 3) := by decide +kernel
theorem dJ1_charAt_3b067_12 : decode cJ1_charAt_3b067 12 = .ok (.iand, 1) := by decide +kernel
theorem dJ1_charAt_3b067_13 : decode cJ1_charAt_3b067 13 = .ok (.i2c, 1) := by decide +kernel
theorem dJ1_charAt_3b067_14 : decode cJ1_charAt_3b067 14 = .ok (.ireturn, 1) := by decide +kernel
theorem dJ1_canEncode_9a6ad_0 : decode cJ1_canEncode_9a6ad 0 = .ok (.iload_n 0, 1) := by decide +kernel
theorem dJ1_canEncode_9a6ad_1 : decode cJ1_canEncode_9a6ad 1 = .ok (.ifCond .lt 14, 3) := by decide +kernel
theorem dJ1_canEncode_9a6ad_4 : decode cJ1_canEncode_9a6ad 4 = .ok (.iload_n 0, 1) := by decide +kernel
theorem dJ1_canEncode_9a6ad_5 : decode cJ1_canEncode_9a6ad 5 = .ok (.sipush 255, 3) := by decide +kernel
theorem dJ1_canEncode_9a6ad_8 : decode cJ1_canEncode_9a6ad 8 = .ok (.if_icmp .gt 7, 3) := by decide +kernel
theorem dJ1_canEncode_9a6ad_11 : decode cJ1_canEncode_9a6ad 11 = .ok (.iconst 1, 1) := by decide +kernel
theorem dJ1_canEncode_9a6ad_12 : decode cJ1_canEncode_9a6ad 12 = .ok (.goto 4, 3) := by decide +kernel
theorem dJ1_canEncode_9a6ad_15 : decode cJ1_canEncode_9a6ad 15 = .ok (.iconst 0, 1) := by decide +kernel
theorem dJ1_canEncode_9a6ad_16 : decode cJ1_canEncode_9a6ad 16 = .ok (.ireturn, 1) := by decide +kernel
theorem dJ1_indexOf_4cfef_0 : decode cJ1_indexOf_4cfef 0 = .ok (.iload_n 1, 1) := by decide +kernel
theorem dJ1_indexOf_4cfef_1 : decode cJ1_indexOf_4cfef 1 = .ok (.invokestatic 88, 3) := by decide +kernel
theorem dJ1_indexOf_4cfef_4 : decode cJ1_indexOf_4cfef 4 = .ok (.ifCond .ne 5, 3) := by decide +kernel
theorem dJ1_indexOf_4cfef_7 : decode cJ1_indexOf_4cfef 7 = .ok (.iconst (-1), 1) := by decide +kernel
theorem dJ1_indexOf_4cfef_8 : decode cJ1_indexOf_4cfef 8 = .ok (.ireturn, 1) := by decide +kernel
theorem dJ1_indexOf_4cfef_9 : decode cJ1_indexOf_4cfef 9 = .ok (.iload_n 2, 1) := by decide +kernel
theorem dJ1_indexOf_4cfef_10 : decode cJ1_indexOf_4cfef 10 = .ok (.iconst 0, 1) := by decide +kernel
theorem dJ1_indexOf_4cfef_11 : decode cJ1_indexOf_4cfef 11 = .ok (.invokestatic 92, 3) := by decide +kernel
theorem dJ1_indexOf_4cfef_14 : decode cJ1_indexOf_4cfef 14 = .ok (.istore_n 2, 1) := by decide +kernel
theorem dJ1_indexOf_4cfef_15 : decode cJ1_indexOf_4cfef 15 = .ok (.iload_n 3, 1) := by decide +kernel
theorem dJ1_indexOf_4cfef_16 : decode cJ1_indexOf_4cfef 16 = .ok (.aload_n 0, 1) := by decide +kernel
theorem dJ1_indexOf_4cfef_17 : decode cJ1_indexOf_4cfef 17 = .ok (.arraylength, 1) := by decide +kernel
theorem dJ1_indexOf_4cfef_18 : decode cJ1_indexOf_4cfef 18 = .ok (.invokestatic 38, 3) := by decide +kernel
theorem dJ1_indexOf_4cfef_21 : decode cJ1_indexOf_4cfef 21 = .ok (.istore_n 3, 1) := by decide +kernel
theorem dJ1_indexOf_4cfef_22 : decode cJ1_indexOf_4cfef 22 = .ok (.iload_n 2, 1) := by decide +kernel
theorem dJ1_indexOf_4cfef_23 : decode cJ1_indexOf_4cfef 23 = .ok (.iload_n 3, 1) := by decide +kernel
theorem dJ1_indexOf_4cfef_24 : decode cJ1_indexOf_4cfef 24 = .ok (.if_icmp .lt 5, 3) := by decide +kernel
theorem dJ1_indexOf_4cfef_27 : decode cJ1_indexOf_4cfef 27 = .ok (.iconst (-1), 1) := by decide +kernel
theorem dJ1_indexOf_4cfef_28 : decode cJ1_indexOf_4cfef 28 = .ok (.ireturn, 1) := by decide +kernel
theorem dJ1_indexOf_4cfef_29 : decode cJ1_indexOf_4cfef 29 = .ok (.aload_n 0, 1) := by decide +kernel
theorem dJ1_indexOf_4cfef_30 : decode cJ1_indexOf_4cfef 30 = .ok (.iload_n 1, 1) := by decide +kernel
theorem dJ1_indexOf_4cfef_31 : decode cJ1_indexOf_4cfef 31 = .ok (.iload_n 2, 1) := by decide +kernel
theorem dJ1_indexOf_4cfef_32 : decode cJ1_indexOf_4cfef 32 = .ok (.iload_n 3, 1) := by decide +kernel
theorem dJ1_indexOf_4cfef_33 : decode cJ1_indexOf_4cfef 33 = .ok (.invokestatic 95, 3) := by decide +kernel
theorem dJ1_indexOf_4cfef_36 : decode cJ1_indexOf_4cfef 36 = .ok (.ireturn, 1) := by decide +kernel
theorem dJ1_indexOfChar_4cfef_0 : decode cJ1_indexOfChar_4cfef 0 = .ok (.iload_n 1, 1) := by decide +kernel
theorem dJ1_indexOfChar_4cfef_1 : decode cJ1_indexOfChar_4cfef 1 = .ok (.i2b, 1) := by decide +kernel
theorem dJ1_indexOfChar_4cfef_2 : decode cJ1_indexOfChar_4cfef 2 = .ok (.istore 4, 2) := by decide +kernel
theorem dJ1_indexOfChar_4cfef_4 : decode cJ1_indexOfChar_4cfef 4 = .ok (.iload_n 2, 1) := by decide +kernel
theorem dJ1_indexOfChar_4cfef_5 : decode cJ1_indexOfChar_4cfef 5 = .ok (.istore 5, 2) := by decide +kernel
theorem dJ1_indexOfChar_4cfef_7 : decode cJ1_indexOfChar_4cfef 7 = .ok (.iload 5, 2) := by decide +kernel
theorem dJ1_indexOfChar_4cfef_9 : decode cJ1_indexOfChar_4cfef 9 = .ok (.iload_n 3, 1) := by decide +kernel
theorem dJ1_indexOfChar_4cfef_10 : decode cJ1_indexOfChar_4cfef 10 = .ok (.if_icmp .ge 21, 3) := by decide +kernel
theorem dJ1_indexOfChar_4cfef_13 : decode cJ1_indexOfChar_4cfef 13 = .ok (.aload_n 0, 1) := by decide +kernel
theorem dJ1_indexOfChar_4cfef_14 : decode cJ1_indexOfChar_4cfef 14 = .ok (.iload 5, 2) := by decide +kernel
theorem dJ1_indexOfChar_4cfef_16 : decode cJ1_indexOfChar_4cfef 16 = .ok (.baload, 1) := by decide +kernel
theorem dJ1_indexOfChar_4cfef_17 : decode cJ1_indexOfChar_4cfef 17 = .ok (.iload 4, 2) := by decide +kernel
theorem dJ1_indexOfChar_4cfef_19 : decode cJ1_indexOfChar_4cfef 19 = .ok (.if_icmp .ne 6, 3) := by decide +kernel
theorem dJ1_indexOfChar_4cfef_22 : decode cJ1_indexOfChar_4cfef 22 = .ok (.iload 5, 2) := by decide +kernel
theorem dJ1_indexOfChar_4cfef_24 : decode cJ1_indexOfChar_4cfef 24 = .ok (.ireturn, 1) := by decide +kernel
theorem dJ1_indexOfChar_4cfef_25 : decode cJ1_indexOfChar_4cfef 25 = .ok (.iinc 5 1, 3) := by decide +kernel
theorem dJ1_indexOfChar_4cfef_28 : decode cJ1_indexOfChar_4cfef 28 = .ok (.goto (-21), 3) := by decide +kernel
theorem dJ1_indexOfChar_4cfef_31 : decode cJ1_indexOfChar_4cfef 31 = .ok (.iconst (-1), 1) := by decide +kernel
theorem dJ1_indexOfChar_4cfef_32 : decode cJ1_indexOfChar_4cfef 32 = .ok (.ireturn, 1) := by decide +kernel
theorem dJ2_getChar_3b067_0 : decode cJ2_getChar_3b067 0 = .ok (.getstatic 44, 3) := by decide +kernel
theorem dJ2_getChar_3b067_3 : decode cJ2_getChar_3b067 3 = .ok (.ifCond .ne 25, 3) := by decide +kernel
theorem dJ2_getChar_3b067_6 : decode cJ2_getChar_3b067 6 = .ok (.iload_n 1, 1) := by decide +kernel
theorem dJ2_getChar_3b067_7 : decode cJ2_getChar_3b067 7 = .ok (.ifCond .lt 11, 3) := by decide +kernel
theorem dJ2_getChar_3b067_10 : decode cJ2_getChar_3b067 10 = .ok (.iload_n 1, 1) := by decide +kernel
theorem dJ2_getChar_3b067_11 : decode cJ2_getChar_3b067 11 = .ok (.aload_n 0, 1) := by decide +kernel
theorem dJ2_getChar_3b067_12 : decode cJ2_getChar_3b067 12 = .ok (.invokestatic 48, 3) := by decide +kernel
theorem dJ2_getChar_3b067_15 : decode cJ2_getChar_3b067 15 = .ok (.if_icmp .lt 13, 3) := by decide +kernel
theorem dJ2_getChar_3b067_18 : decode cJ2_getChar_3b067 18 = .ok (.new 52, 3) := by decide +kernel
theorem dJ2_getChar_3b067_21 : decode cJ2_getChar_3b067 21 = .ok (.dup, 1) := by decide +kernel
theorem dJ2_getChar_3b067_22 : decode cJ2_getChar_3b067 22 = .ok (.ldc 54, 2) := by decide +kernel
theorem dJ2_getChar_3b067_24 : decode cJ2_getChar_3b067 24 = .ok (.invokespecial 56, 3) := by decide +kernel
theorem dJ2_getChar_3b067_27 : decode cJ2_getChar_3b067 27 = .ok (.athrow, 1) := by decide +kernel
theorem dJ2_getChar_3b067_28 : decode cJ2_getChar_3b067 28 = .ok (.iload_n 1, 1) := by decide +kernel
theorem dJ2_getChar_3b067_29 : decode cJ2_getChar_3b067 29 = .ok (.iconst 1, 1) := by decide +kernel
theorem dJ2_getChar_3b067_30 : decode cJ2_getChar_3b067 30 = .ok (.ishl, 1) := by decide +kernel
theorem dJ2_getChar_3b067_31 : decode cJ2_getChar_3b067 31 = .ok (.istore_n 1, 1) := by decide +kernel
theorem dJ2_getChar_3b067_32 : decode cJ2_getChar_3b067 32 = .ok (.aload_n 0, 1) := by decide +kernel
theorem dJ2_getChar_3b067_33 : decode cJ2_getChar_3b067 33 = .ok (.iload_n 1, 1) := by decide +kernel
theorem dJ2_getChar_3b067_34 : decode cJ2_getChar_3b067 34 = .ok (.iinc 1 1, 3) := by decide +kernel
theorem dJ2_getChar_3b067_37 : decode cJ2_getChar_3b067 37 = .ok (.baload, 1) := by decide +kernel
theorem dJ2_getChar_3b067_38 : decode cJ2_getChar_3b067 38 = .ok (.sipush 255, 3) := by decide +kernel
theorem dJ2_getChar_3b067_41 : decode cJ2_getChar_3b067 41 = .ok (.iand, 1) := by decide +kernel
theorem dJ2_getChar_3b067_42 : decode cJ2_getChar_3b067 42 = .ok (.getstatic 59, 3) := by decide +kernel
theorem dJ2_getChar_3b067_45 : decode cJ2_getChar_3b067 45 = .ok (.ishl, 1) := by decide +kernel
theorem dJ2_getChar_3b067_46 : decode cJ2_getChar_3b067 46 = .ok (.aload_n 0, 1) := by decide +kernel
theorem dJ2_getChar_3b067_47 : decode cJ2_getChar_3b067 47 = .ok (.iload_n 1, 1) := by decide +kernel
theorem dJ2_getChar_3b067_48 : decode cJ2_getChar_3b067 48 = .ok (.baload, 1) := by decide +kernel
theorem dJ2_getChar_3b067_49 : decode cJ2_getChar_3b067 49 = .ok (.sipush 255, 3) := by decide +kernel
theorem dJ2_getChar_3b067_52 : decode cJ2_getChar_3b067 52 = .ok (.iand, 1) := by decide +kernel
theorem dJ2_getChar_3b067_53 : decode cJ2_getChar_3b067 53 = .ok (.getstatic 63, 3) := by decide +kernel
theorem dJ2_getChar_3b067_56 : decode cJ2_getChar_3b067 56 = .ok (.ishl, 1) := by decide +kernel
theorem dJ2_getChar_3b067_57 : decode cJ2_getChar_3b067 57 = .ok (.ior, 1) := by decide +kernel
theorem dJ2_getChar_3b067_58 : decode cJ2_getChar_3b067 58 = .ok (.i2c, 1) := by decide +kernel
theorem dJ2_getChar_3b067_59 : decode cJ2_getChar_3b067 59 = .ok (.ireturn, 1) := by decide +kernel
theorem dJ2_length_9d52b_0 : decode cJ2_length_9d52b 0 = .ok (.aload_n 0, 1) := by decide +kernel
theorem dJ2_length_9d52b_1 : decode cJ2_length_9d52b 1 = .ok (.arraylength, 1) := by decide +kernel
theorem dJ2_length_9d52b_2 : decode cJ2_length_9d52b 2 = .ok (.iconst 1, 1) := by decide +kernel
theorem dJ2_length_9d52b_3 : decode cJ2_length_9d52b 3 = .ok (.ishr, 1) := by decide +kernel
theorem dJ2_length_9d52b_4 : decode cJ2_length_9d52b 4 = .ok (.ireturn, 1) := by decide +kernel
theorem dJ2_indexOf_4cfef_0 : decode cJ2_indexOf_4cfef 0 = .ok (.iload_n 2, 1) := by decide +kernel
theorem dJ2_indexOf_4cfef_1 : decode cJ2_indexOf_4cfef 1 = .ok (.iconst 0, 1) := by decide +kernel
theorem dJ2_indexOf_4cfef_2 : decode cJ2_indexOf_4cfef 2 = .ok (.invokestatic 224, 3) := by decide +kernel
theorem dJ2_indexOf_4cfef_5 : decode cJ2_indexOf_4cfef 5 = .ok (.istore_n 2, 1) := by decide +kernel
theorem dJ2_indexOf_4cfef_6 : decode cJ2_indexOf_4cfef 6 = .ok (.iload_n 3, 1) := by decide +kernel
theorem dJ2_indexOf_4cfef_7 : decode cJ2_indexOf_4cfef 7 = .ok (.aload_n 0, 1) := by decide +kernel
theorem dJ2_indexOf_4cfef_8 : decode cJ2_indexOf_4cfef 8 = .ok (.arraylength, 1) := by decide +kernel
theorem dJ2_indexOf_4cfef_9 : decode cJ2_indexOf_4cfef 9 = .ok (.iconst 1, 1) := by decide +kernel
theorem dJ2_indexOf_4cfef_10 : decode cJ2_indexOf_4cfef 10 = .ok (.ishr, 1) := by decide +kernel
theorem dJ2_indexOf_4cfef_11 : decode cJ2_indexOf_4cfef 11 = .ok (.invokestatic 183, 3) := by decide +kernel
theorem dJ2_indexOf_4cfef_14 : decode cJ2_indexOf_4cfef 14 = .ok (.istore_n 3, 1) := by decide +kernel
theorem dJ2_indexOf_4cfef_15 : decode cJ2_indexOf_4cfef 15 = .ok (.iload_n 2, 1) := by decide +kernel
theorem dJ2_indexOf_4cfef_16 : decode cJ2_indexOf_4cfef 16 = .ok (.iload_n 3, 1) := by decide +kernel
theorem dJ2_indexOf_4cfef_17 : decode cJ2_indexOf_4cfef 17 = .ok (.if_icmp .lt 5, 3) := by decide +kernel
theorem dJ2_indexOf_4cfef_20 : decode cJ2_indexOf_4cfef 20 = .ok (.iconst (-1), 1) := by decide +kernel
theorem dJ2_indexOf_4cfef_21 : decode cJ2_indexOf_4cfef 21 = .ok (.ireturn, 1) := by decide +kernel
theorem dJ2_indexOf_4cfef_22 : decode cJ2_indexOf_4cfef 22 = .ok (.iload_n 1, 1) := by decide +kernel
theorem dJ2_indexOf_4cfef_23 : decode cJ2_indexOf_4cfef 23 = .ok (.ldc 227, 2) := by decide +kernel
theorem dJ2_indexOf_4cfef_25 : decode cJ2_indexOf_4cfef 25 = .ok (.if_icmp .ge 11, 3) := by decide +kernel
theorem dJ2_indexOf_4cfef_28 : decode cJ2_indexOf_4cfef 28 = .ok (.aload_n 0, 1) := by decide +kernel
theorem dJ2_indexOf_4cfef_29 : decode cJ2_indexOf_4cfef 29 = .ok (.iload_n 1, 1) := by decide +kernel
theorem dJ2_indexOf_4cfef_30 : decode cJ2_indexOf_4cfef 30 = .ok (.iload_n 2, 1) := by decide +kernel
theorem dJ2_indexOf_4cfef_31 : decode cJ2_indexOf_4cfef 31 = .ok (.iload_n 3, 1) := by decide +kernel
theorem dJ2_indexOf_4cfef_32 : decode cJ2_indexOf_4cfef 32 = .ok (.invokestatic 228, 3) := by decide +kernel
theorem dJ2_indexOf_4cfef_35 : decode cJ2_indexOf_4cfef 35 = .ok (.ireturn, 1) := by decide +kernel
theorem dJ2_indexOf_4cfef_36 : decode cJ2_indexOf_4cfef 36 = .ok (.aload_n 0, 1) := by decide +kernel
theorem dJ2_indexOf_4cfef_37 : decode cJ2_indexOf_4cfef 37 = .ok (.iload_n 1, 1) := by decide +kernel
theorem dJ2_indexOf_4cfef_38 : decode cJ2_indexOf_4cfef 38 = .ok (.iload_n 2, 1) := by decide +kernel
theorem dJ2_indexOf_4cfef_39 : decode cJ2_indexOf_4cfef 39 = .ok (.iload_n 3, 1) := by decide +kernel
theorem dJ2_indexOf_4cfef_40 : decode cJ2_indexOf_4cfef 40 = .ok (.invokestatic 232, 3) := by decide +kernel
theorem dJ2_indexOf_4cfef_43 : decode cJ2_indexOf_4cfef 43 = .ok (.ireturn, 1) := by decide +kernel
theorem dJ2_indexOfChar_4cfef_0 : decode cJ2_indexOfChar_4cfef 0 = .ok (.iload_n 2, 1) := by decide +kernel
theorem dJ2_indexOfChar_4cfef_1 : decode cJ2_indexOfChar_4cfef 1 = .ok (.iload_n 3, 1) := by decide +kernel
theorem dJ2_indexOfChar_4cfef_2 : decode cJ2_indexOfChar_4cfef 2 = .ok (.aload_n 0, 1) := by decide +kernel
theorem dJ2_indexOfChar_4cfef_3 : decode cJ2_indexOfChar_4cfef 3 = .ok (.invokestatic 96, 3) := by decide +kernel
theorem dJ2_indexOfChar_4cfef_6 : decode cJ2_indexOfChar_4cfef 6 = .ok (.aload_n 0, 1) := by decide +kernel
theorem dJ2_indexOfChar_4cfef_7 : decode cJ2_indexOfChar_4cfef 7 = .ok (.iload_n 1, 1) := by decide +kernel
theorem dJ2_indexOfChar_4cfef_8 : decode cJ2_indexOfChar_4cfef 8 = .ok (.iload_n 2, 1) := by decide +kernel
theorem dJ2_indexOfChar_4cfef_9 : decode cJ2_indexOfChar_4cfef 9 = .ok (.iload_n 3, 1) := by decide +kernel
theorem dJ2_indexOfChar_4cfef_10 : decode cJ2_indexOfChar_4cfef 10 = .ok (.invokestatic 244, 3) := by decide +kernel
theorem dJ2_indexOfChar_4cfef_13 : decode cJ2_indexOfChar_4cfef 13 = .ok (.ireturn, 1) := by decide +kernel
theorem dJ2_indexOfCharUnsafe_4cfef_0 : decode cJ2_indexOfCharUnsafe_4cfef 0 = .ok (.iload_n 2, 1) := by decide +kernel
theorem dJ2_indexOfCharUnsafe_4cfef_1 : decode cJ2_indexOfCharUnsafe_4cfef 1 = .ok (.istore 4, 2) := by decide +kernel
theorem dJ2_indexOfCharUnsafe_4cfef_3 : decode cJ2_indexOfCharUnsafe_4cfef 3 = .ok (.iload 4, 2) := by decide +kernel
theorem dJ2_indexOfCharUnsafe_4cfef_5 : decode cJ2_indexOfCharUnsafe_4cfef 5 = .ok (.iload_n 3, 1) := by decide +kernel
theorem dJ2_indexOfCharUnsafe_4cfef_6 : decode cJ2_indexOfCharUnsafe_4cfef 6 = .ok (.if_icmp .ge 22, 3) := by decide +kernel
theorem dJ2_indexOfCharUnsafe_4cfef_9 : decode cJ2_indexOfCharUnsafe_4cfef 9 = .ok (.aload_n 0, 1) := by decide +kernel
theorem dJ2_indexOfCharUnsafe_4cfef_10 : decode cJ2_indexOfCharUnsafe_4cfef 10 = .ok (.iload 4, 2) := by decide +kernel
theorem dJ2_indexOfCharUnsafe_4cfef_12 : decode cJ2_indexOfCharUnsafe_4cfef 12 = .ok (.invokestatic 71, 3) := by decide +kernel
theorem dJ2_indexOfCharUnsafe_4cfef_15 : decode cJ2_indexOfCharUnsafe_4cfef 15 = .ok (.iload_n 1, 1) := by decide +kernel
theorem dJ2_indexOfCharUnsafe_4cfef_16 : decode cJ2_indexOfCharUnsafe_4cfef 16 = .ok (.if_icmp .ne 6, 3) := by decide +kernel
theorem dJ2_indexOfCharUnsafe_4cfef_19 : decode cJ2_indexOfCharUnsafe_4cfef 19 = .ok (.iload 4, 2) := by decide +kernel
theorem dJ2_indexOfCharUnsafe_4cfef_21 : decode cJ2_indexOfCharUnsafe_4cfef 21 = .ok (.ireturn, 1) := by decide +kernel
theorem dJ2_indexOfCharUnsafe_4cfef_22 : decode cJ2_indexOfCharUnsafe_4cfef 22 = .ok (.iinc 4 1, 3) := by decide +kernel
theorem dJ2_indexOfCharUnsafe_4cfef_25 : decode cJ2_indexOfCharUnsafe_4cfef 25 = .ok (.goto (-22), 3) := by decide +kernel
theorem dJ2_indexOfCharUnsafe_4cfef_28 : decode cJ2_indexOfCharUnsafe_4cfef 28 = .ok (.iconst (-1), 1) := by decide +kernel
theorem dJ2_indexOfCharUnsafe_4cfef_29 : decode cJ2_indexOfCharUnsafe_4cfef 29 = .ok (.ireturn, 1) := by decide +kernel
theorem dJ2_indexOfSupplementary_4cfef_0 : decode cJ2_indexOfSupplementary_4cfef 0 = .ok (.iload_n 1, 1) := by decide +kernel
theorem dJ2_indexOfSupplementary_4cfef_1 : decode cJ2_indexOfSupplementary_4cfef 1 = .ok (.invokestatic 164, 3) := by decide +kernel
theorem dJ2_indexOfSupplementary_4cfef_4 : decode cJ2_indexOfSupplementary_4cfef 4 = .ok (.ifCond .eq 65, 3) := by decide +kernel
theorem dJ2_indexOfSupplementary_4cfef_7 : decode cJ2_indexOfSupplementary_4cfef 7 = .ok (.iload_n 1, 1) := by decide +kernel
theorem dJ2_indexOfSupplementary_4cfef_8 : decode cJ2_indexOfSupplementary_4cfef 8 = .ok (.invokestatic 157, 3) := by decide +kernel
theorem dJ2_indexOfSupplementary_4cfef_11 : decode cJ2_indexOfSupplementary_4cfef 11 = .ok (.istore 4, 2) := by decide +kernel
theorem dJ2_indexOfSupplementary_4cfef_13 : decode cJ2_indexOfSupplementary_4cfef 13 = .ok (.iload_n 1, 1) := by decide +kernel
theorem dJ2_indexOfSupplementary_4cfef_14 : decode cJ2_indexOfSupplementary_4cfef 14 = .ok (.invokestatic 161, 3) := by decide +kernel
theorem dJ2_indexOfSupplementary_4cfef_17 : decode cJ2_indexOfSupplementary_4cfef 17 = .ok (.istore 5, 2) := by decide +kernel
theorem dJ2_indexOfSupplementary_4cfef_19 : decode cJ2_indexOfSupplementary_4cfef 19 = .ok (.iload_n 2, 1) := by decide +kernel
theorem dJ2_indexOfSupplementary_4cfef_20 : decode cJ2_indexOfSupplementary_4cfef 20 = .ok (.iload_n 3, 1) := by decide +kernel
theorem dJ2_indexOfSupplementary_4cfef_21 : decode cJ2_indexOfSupplementary_4cfef 21 = .ok (.aload_n 0, 1) := by decide +kernel
theorem dJ2_indexOfSupplementary_4cfef_22 : decode cJ2_indexOfSupplementary_4cfef 22 = .ok (.invokestatic 96, 3) := by decide +kernel
theorem dJ2_indexOfSupplementary_4cfef_25 : decode cJ2_indexOfSupplementary_4cfef 25 = .ok (.iload_n 2, 1) := by decide +kernel
theorem dJ2_indexOfSupplementary_4cfef_26 : decode cJ2_indexOfSupplementary_4cfef 26 = .ok (.istore 6, 2) := by decide +kernel
theorem dJ2_indexOfSupplementary_4cfef_28 : decode cJ2_indexOfSupplementary_4cfef 28 = .ok (.iload 6, 2) := by decide +kernel
theorem dJ2_indexOfSupplementary_4cfef_30 : decode cJ2_indexOfSupplementary_4cfef 30 = .ok (.iload_n 3, 1) := by decide +kernel
theorem dJ2_indexOfSupplementary_4cfef_31 : decode cJ2_indexOfSupplementary_4cfef 31 = .ok (.iconst 1, 1) := by decide +kernel
theorem dJ2_indexOfSupplementary_4cfef_32 : decode cJ2_indexOfSupplementary_4cfef 32 = .ok (.isub, 1) := by decide +kernel
theorem dJ2_indexOfSupplementary_4cfef_33 : decode cJ2_indexOfSupplementary_4cfef 33 = .ok (.if_icmp .ge 36, 3) := by decide +kernel
theorem dJ2_indexOfSupplementary_4cfef_36 : decode cJ2_indexOfSupplementary_4cfef 36 = .ok (.aload_n 0, 1) := by decide +kernel
theorem dJ2_indexOfSupplementary_4cfef_37 : decode cJ2_indexOfSupplementary_4cfef 37 = .ok (.iload 6, 2) := by decide +kernel
theorem dJ2_indexOfSupplementary_4cfef_39 : decode cJ2_indexOfSupplementary_4cfef 39 = .ok (.invokestatic 71, 3) := by decide +kernel
theorem dJ2_indexOfSupplementary_4cfef_42 : decode cJ2_indexOfSupplementary_4cfef 42 = .ok (.iload 4, 2) := by decide +kernel
theorem dJ2_indexOfSupplementary_4cfef_44 : decode cJ2_indexOfSupplementary_4cfef 44 = .ok (.if_icmp .ne 19, 3) := by decide +kernel
theorem dJ2_indexOfSupplementary_4cfef_47 : decode cJ2_indexOfSupplementary_4cfef 47 = .ok (.aload_n 0, 1) := by decide +kernel
theorem dJ2_indexOfSupplementary_4cfef_48 : decode cJ2_indexOfSupplementary_4cfef 48 = .ok (.iload 6, 2) := by decide +kernel
theorem dJ2_indexOfSupplementary_4cfef_50 : decode cJ2_indexOfSupplementary_4cfef 50 = .ok (.iconst 1, 1) := by decide +kernel
theorem dJ2_indexOfSupplementary_4cfef_51 : decode cJ2_indexOfSupplementary_4cfef 51 = .ok (.iadd, 1) := by decide +kernel
theorem dJ2_indexOfSupplementary_4cfef_52 : decode cJ2_indexOfSupplementary_4cfef 52 = .ok (.invokestatic 71, 3) := by decide +kernel
theorem dJ2_indexOfSupplementary_4cfef_55 : decode cJ2_indexOfSupplementary_4cfef 55 = .ok (.iload 5, 2) := by decide +kernel
theorem dJ2_indexOfSupplementary_4cfef_57 : decode cJ2_indexOfSupplementary_4cfef 57 = .ok (.if_icmp .ne 6, 3) := by decide +kernel
theorem dJ2_indexOfSupplementary_4cfef_60 : decode cJ2_indexOfSupplementary_4cfef 60 = .ok (.iload 6, 2) := by decide +kernel
theorem dJ2_indexOfSupplementary_4cfef_62 : decode cJ2_indexOfSupplementary_4cfef 62 = .ok (.ireturn, 1) := by decide +kernel
theorem dJ2_indexOfSupplementary_4cfef_63 : decode cJ2_indexOfSupplementary_4cfef 63 = .ok (.iinc 6 1, 3) := by decide +kernel
theorem dJ2_indexOfSupplementary_4cfef_66 : decode cJ2_indexOfSupplementary_4cfef 66 = .ok (.goto (-38), 3) := by decide +kernel
theorem dJ2_indexOfSupplementary_4cfef_69 : decode cJ2_indexOfSupplementary_4cfef 69 = .ok (.iconst (-1), 1) := by decide +kernel
theorem dJ2_indexOfSupplementary_4cfef_70 : decode cJ2_indexOfSupplementary_4cfef 70 = .ok (.ireturn, 1) := by decide +kernel
theorem dJ2_charAt_3b067_0 : decode cJ2_charAt_3b067 0 = .ok (.iload_n 1, 1) := by decide +kernel
theorem dJ2_charAt_3b067_1 : decode cJ2_charAt_3b067 1 = .ok (.aload_n 0, 1) := by decide +kernel
theorem dJ2_charAt_3b067_2 : decode cJ2_charAt_3b067 2 = .ok (.invokestatic 67, 3) := by decide +kernel
theorem dJ2_charAt_3b067_5 : decode cJ2_charAt_3b067 5 = .ok (.aload_n 0, 1) := by decide +kernel
theorem dJ2_charAt_3b067_6 : decode cJ2_charAt_3b067 6 = .ok (.iload_n 1, 1) := by decide +kernel
theorem dJ2_charAt_3b067_7 : decode cJ2_charAt_3b067 7 = .ok (.invokestatic 71, 3) := by decide +kernel
theorem dJ2_charAt_3b067_10 : decode cJ2_charAt_3b067 10 = .ok (.ireturn, 1) := by decide +kernel
theorem dJ2_checkIndex_2214a_0 : decode cJ2_checkIndex_2214a 0 = .ok (.iload_n 0, 1) := by decide +kernel
theorem dJ2_checkIndex_2214a_1 : decode cJ2_checkIndex_2214a 1 = .ok (.aload_n 1, 1) := by decide +kernel
theorem dJ2_checkIndex_2214a_2 : decode cJ2_checkIndex_2214a 2 = .ok (.invokestatic 48, 3) := by decide +kernel
theorem dJ2_checkIndex_2214a_5 : decode cJ2_checkIndex_2214a 5 = .ok (.invokestatic 414, 3) := by decide +kernel
theorem dJ2_checkIndex_2214a_8 : decode cJ2_checkIndex_2214a 8 = .ok (.return_, 1) := by decide +kernel
theorem dJ2_checkBoundsBeginEnd_d044e_0 : decode cJ2_checkBoundsBeginEnd_d044e 0 = .ok (.iload_n 0, 1) := by decide +kernel
theorem dJ2_checkBoundsBeginEnd_d044e_1 : decode cJ2_checkBoundsBeginEnd_d044e 1 = .ok (.iload_n 1, 1) := by decide +kernel
theorem dJ2_checkBoundsBeginEnd_d044e_2 : decode cJ2_checkBoundsBeginEnd_d044e 2 = .ok (.aload_n 2, 1) := by decide +kernel
theorem dJ2_checkBoundsBeginEnd_d044e_3 : decode cJ2_checkBoundsBeginEnd_d044e 3 = .ok (.invokestatic 48, 3) := by decide +kernel
theorem dJ2_checkBoundsBeginEnd_d044e_6 : decode cJ2_checkBoundsBeginEnd_d044e 6 = .ok (.invokestatic 241, 3) := by decide +kernel
theorem dJ2_checkBoundsBeginEnd_d044e_9 : decode cJ2_checkBoundsBeginEnd_d044e 9 = .ok (.return_, 1) := by decide +kernel
theorem dJ3_checkIndex_8e157_0 : decode cJ3_checkIndex_8e157 0 = .ok (.iload_n 0, 1) := by decide +kernel
theorem dJ3_checkIndex_8e157_1 : decode cJ3_checkIndex_8e157 1 = .ok (.ifCond .lt 8, 3) := by decide +kernel
theorem dJ3_checkIndex_8e157_4 : decode cJ3_checkIndex_8e157 4 = .ok (.iload_n 0, 1) := by decide +kernel
theorem dJ3_checkIndex_8e157_5 : decode cJ3_checkIndex_8e157 5 = .ok (.iload_n 1, 1) := by decide +kernel
theorem dJ3_checkIndex_8e157_6 : decode cJ3_checkIndex_8e157 6 = .ok (.if_icmp .lt 10, 3) := by decide +kernel
theorem dJ3_checkIndex_8e157_9 : decode cJ3_checkIndex_8e157 9 = .ok (.aload_n 2, 1) := by decide +kernel
theorem dJ3_checkIndex_8e157_10 : decode cJ3_checkIndex_8e157 10 = .ok (.iload_n 0, 1) := by decide +kernel
theorem dJ3_checkIndex_8e157_11 : decode cJ3_checkIndex_8e157 11 = .ok (.iload_n 1, 1) := by decide +kernel
theorem dJ3_checkIndex_8e157_12 : decode cJ3_checkIndex_8e157 12 = .ok (.invokestatic 95, 3) := by decide +kernel
theorem dJ3_checkIndex_8e157_15 : decode cJ3_checkIndex_8e157 15 = .ok (.athrow, 1) := by decide +kernel
theorem dJ3_checkIndex_8e157_16 : decode cJ3_checkIndex_8e157 16 = .ok (.iload_n 0, 1) := by decide +kernel
theorem dJ3_checkIndex_8e157_17 : decode cJ3_checkIndex_8e157 17 = .ok (.ireturn, 1) := by decide +kernel
theorem dJ3_checkFromToIndex_8c36e_0 : decode cJ3_checkFromToIndex_8c36e 0 = .ok (.iload_n 0, 1) := by decide +kernel
theorem dJ3_checkFromToIndex_8c36e_1 : decode cJ3_checkFromToIndex_8c36e 1 = .ok (.ifCond .lt 13, 3) := by decide +kernel
theorem dJ3_checkFromToIndex_8c36e_4 : decode cJ3_checkFromToIndex_8c36e 4 = .ok (.iload_n 0, 1) := by decide +kernel
theorem dJ3_checkFromToIndex_8c36e_5 : decode cJ3_checkFromToIndex_8c36e 5 = .ok (.iload_n 1, 1) := by decide +kernel
theorem dJ3_checkFromToIndex_8c36e_6 : decode cJ3_checkFromToIndex_8c36e 6 = .ok (.if_icmp .gt 8, 3) := by decide +kernel
theorem dJ3_checkFromToIndex_8c36e_9 : decode cJ3_checkFromToIndex_8c36e 9 = .ok (.iload_n 1, 1) := by decide +kernel
theorem dJ3_checkFromToIndex_8c36e_10 : decode cJ3_checkFromToIndex_8c36e 10 = .ok (.iload_n 2, 1) := by decide +kernel
theorem dJ3_checkFromToIndex_8c36e_11 : decode cJ3_checkFromToIndex_8c36e 11 = .ok (.if_icmp .le 11, 3) := by decide +kernel
theorem dJ3_checkFromToIndex_8c36e_14 : decode cJ3_checkFromToIndex_8c36e 14 = .ok (.aload_n 3, 1) := by decide +kernel
theorem dJ3_checkFromToIndex_8c36e_15 : decode cJ3_checkFromToIndex_8c36e 15 = .ok (.iload_n 0, 1) := by decide +kernel
theorem dJ3_checkFromToIndex_8c36e_16 : decode cJ3_checkFromToIndex_8c36e 16 = .ok (.iload_n 1, 1) := by decide +kernel
theorem dJ3_checkFromToIndex_8c36e_17 : decode cJ3_checkFromToIndex_8c36e 17 = .ok (.iload_n 2, 1) := by decide +kernel
theorem dJ3_checkFromToIndex_8c36e_18 : decode cJ3_checkFromToIndex_8c36e 18 = .ok (.invokestatic 99, 3) := by decide +kernel
theorem dJ3_checkFromToIndex_8c36e_21 : decode cJ3_checkFromToIndex_8c36e 21 = .ok (.athrow, 1) := by decide +kernel
theorem dJ3_checkFromToIndex_8c36e_22 : decode cJ3_checkFromToIndex_8c36e 22 = .ok (.iload_n 0, 1) := by decide +kernel
theorem dJ3_checkFromToIndex_8c36e_23 : decode cJ3_checkFromToIndex_8c36e 23 = .ok (.ireturn, 1) := by decide +kernel
