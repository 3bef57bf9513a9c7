theorem dX3_init_0 : decode cX3_init 0 = .ok (.aload_n 0, 1) := by decide +kernel
theorem dX3_init_1 : decode cX3_init 1 = .ok (.invokespecial 3, 3) := by decide +kernel
theorem dX3_init_4 : decode cX3_init 4 = .ok (.aload_n 0, 1) := by decide +kernel
theorem dX3_init_5 : decode cX3_init 5 = .ok (.bipush 80, 2) := by decide +kernel
theorem dX3_init_7 : decode cX3_init 7 = .ok (.newarray .int, 2) := by decide +kernel
theorem dX3_init_9 : decode cX3_init 9 = .ok (.putfield 9, 3) := by decide +kernel
theorem dX3_init_12 : decode cX3_init 12 = .ok (.aload_n 0, 1) := by decide +kernel
theorem dX3_init_13 : decode cX3_init 13 = .ok (.bipush 80, 2) := by decide +kernel
theorem dX3_init_15 : decode cX3_init 15 = .ok (.newarray .int, 2) := by decide +kernel
theorem dX3_init_17 : decode cX3_init 17 = .ok (.putfield 15, 3) := by decide +kernel
theorem dX3_init_20 : decode cX3_init 20 = .ok (.aload_n 0, 1) := by decide +kernel
theorem dX3_init_21 : decode cX3_init 21 = .ok (.bipush 80, 2) := by decide +kernel
theorem dX3_init_23 : decode cX3_init 23 = .ok (.newarray .int, 2) := by decide +kernel
theorem dX3_init_25 : decode cX3_init 25 = .ok (.putfield 18, 3) := by decide +kernel
theorem dX3_init_28 : decode cX3_init 28 = .ok (.aload_n 0, 1) := by decide +kernel
theorem dX3_init_29 : decode cX3_init 29 = .ok (.bipush 80, 2) := by decide +kernel
theorem dX3_init_31 : decode cX3_init 31 = .ok (.newarray .int, 2) := by decide +kernel
theorem dX3_init_33 : decode cX3_init 33 = .ok (.putfield 21, 3) := by decide +kernel
theorem dX3_init_36 : decode cX3_init 36 = .ok (.aload_n 0, 1) := by decide +kernel
theorem dX3_init_37 : decode cX3_init 37 = .ok (.bipush 80, 2) := by decide +kernel
theorem dX3_init_39 : decode cX3_init 39 = .ok (.newarray .int, 2) := by decide +kernel
theorem dX3_init_41 : decode cX3_init 41 = .ok (.putfield 24, 3) := by decide +kernel
theorem dX3_init_44 : decode cX3_init 44 = .ok (.aload_n 0, 1) := by decide +kernel
theorem dX3_init_45 : decode cX3_init 45 = .ok (.bipush 80, 2) := by decide +kernel
theorem dX3_init_47 : decode cX3_init 47 = .ok (.newarray .int, 2) := by decide +kernel
theorem dX3_init_49 : decode cX3_init 49 = .ok (.putfield 27, 3) := by decide +kernel
theorem dX3_init_52 : decode cX3_init 52 = .ok (.aload_n 0, 1) := by decide +kernel
theorem dX3_init_53 : decode cX3_init 53 = .ok (.bipush 80, 2) := by decide +kernel
theorem dX3_init_55 : decode cX3_init 55 = .ok (.newarray .int, 2) := by decide +kernel
theorem dX3_init_57 : decode cX3_init 57 = .ok (.putfield 30, 3) := by decide +kernel
theorem dX3_init_60 : decode cX3_init 60 = .ok (.return_, 1) := by decide +kernel
theorem dX3_begin_0 : decode cX3_begin 0 = .ok (.aload_n 0, 1) := by decide +kernel
theorem dX3_begin_1 : decode cX3_begin 1 = .ok (.getfield 9, 3) := by decide +kernel
theorem dX3_begin_4 : decode cX3_begin 4 = .ok (.iconst 0, 1) := by decide +kernel
theorem dX3_begin_5 : decode cX3_begin 5 = .ok (.invokestatic 33, 3) := by decide +kernel
theorem dX3_begin_8 : decode cX3_begin 8 = .ok (.aload_n 0, 1) := by decide +kernel
theorem dX3_begin_9 : decode cX3_begin 9 = .ok (.iconst 0, 1) := by decide +kernel
theorem dX3_begin_10 : decode cX3_begin 10 = .ok (.putfield 39, 3) := by decide +kernel
theorem dX3_begin_13 : decode cX3_begin 13 = .ok (.return_, 1) := by decide +kernel
theorem dX3_isSeen_0 : decode cX3_isSeen 0 = .ok (.iload_n 1, 1) := by decide +kernel
theorem dX3_isSeen_1 : decode cX3_isSeen 1 = .ok (.ifCond .lt 22, 3) := by decide +kernel
theorem dX3_isSeen_4 : decode cX3_isSeen 4 = .ok (.iload_n 1, 1) := by decide +kernel
theorem dX3_isSeen_5 : decode cX3_isSeen 5 = .ok (.bipush 80, 2) := by decide +kernel
theorem dX3_isSeen_7 : decode cX3_isSeen 7 = .ok (.if_icmp .ge 16, 3) := by decide +kernel
theorem dX3_isSeen_10 : decode cX3_isSeen 10 = .ok (.aload_n 0, 1) := by decide +kernel
theorem dX3_isSeen_11 : decode cX3_isSeen 11 = .ok (.getfield 9, 3) := by decide +kernel
theorem dX3_isSeen_14 : decode cX3_isSeen 14 = .ok (.iload_n 1, 1) := by decide +kernel
theorem dX3_isSeen_15 : decode cX3_isSeen 15 = .ok (.iaload, 1) := by decide +kernel
theorem dX3_isSeen_16 : decode cX3_isSeen 16 = .ok (.ifCond .eq 7, 3) := by decide +kernel
theorem dX3_isSeen_19 : decode cX3_isSeen 19 = .ok (.iconst 1, 1) := by decide +kernel
theorem dX3_isSeen_20 : decode cX3_isSeen 20 = .ok (.goto 4, 3) := by decide +kernel
theorem dX3_isSeen_23 : decode cX3_isSeen 23 = .ok (.iconst 0, 1) := by decide +kernel
theorem dX3_isSeen_24 : decode cX3_isSeen 24 = .ok (.ireturn, 1) := by decide +kernel
theorem dX3_visit_0 : decode cX3_visit 0 = .ok (.iload_n 1, 1) := by decide +kernel
theorem dX3_visit_1 : decode cX3_visit 1 = .ok (.ifCond .lt 27, 3) := by decide +kernel
theorem dX3_visit_4 : decode cX3_visit 4 = .ok (.iload_n 1, 1) := by decide +kernel
theorem dX3_visit_5 : decode cX3_visit 5 = .ok (.bipush 80, 2) := by decide +kernel
theorem dX3_visit_7 : decode cX3_visit 7 = .ok (.if_icmp .ge 21, 3) := by decide +kernel
theorem dX3_visit_10 : decode cX3_visit 10 = .ok (.aload_n 0, 1) := by decide +kernel
theorem dX3_visit_11 : decode cX3_visit 11 = .ok (.getfield 9, 3) := by decide +kernel
theorem dX3_visit_14 : decode cX3_visit 14 = .ok (.iload_n 1, 1) := by decide +kernel
theorem dX3_visit_15 : decode cX3_visit 15 = .ok (.iaload, 1) := by decide +kernel
theorem dX3_visit_16 : decode cX3_visit 16 = .ok (.ifCond .ne 12, 3) := by decide +kernel
theorem dX3_visit_19 : decode cX3_visit 19 = .ok (.aload_n 0, 1) := by decide +kernel
theorem dX3_visit_20 : decode cX3_visit 20 = .ok (.getfield 39, 3) := by decide +kernel
theorem dX3_visit_23 : decode cX3_visit 23 = .ok (.bipush 80, 2) := by decide +kernel
theorem dX3_visit_25 : decode cX3_visit 25 = .ok (.if_icmp .lt 4, 3) := by decide +kernel
theorem dX3_visit_28 : decode cX3_visit 28 = .ok (.return_, 1) := by decide +kernel
theorem dX3_visit_29 : decode cX3_visit 29 = .ok (.aload_n 0, 1) := by decide +kernel
theorem dX3_visit_30 : decode cX3_visit 30 = .ok (.getfield 9, 3) := by decide +kernel
theorem dX3_visit_33 : decode cX3_visit 33 = .ok (.iload_n 1, 1) := by decide +kernel
theorem dX3_visit_34 : decode cX3_visit 34 = .ok (.iconst 1, 1) := by decide +kernel
theorem dX3_visit_35 : decode cX3_visit 35 = .ok (.iastore, 1) := by decide +kernel
theorem dX3_visit_36 : decode cX3_visit 36 = .ok (.aload_n 0, 1) := by decide +kernel
theorem dX3_visit_37 : decode cX3_visit 37 = .ok (.getfield 18, 3) := by decide +kernel
theorem dX3_visit_40 : decode cX3_visit 40 = .ok (.iload_n 1, 1) := by decide +kernel
theorem dX3_visit_41 : decode cX3_visit 41 = .ok (.iload_n 2, 1) := by decide +kernel
theorem dX3_visit_42 : decode cX3_visit 42 = .ok (.iconst (-1), 1) := by decide +kernel
theorem dX3_visit_43 : decode cX3_visit 43 = .ok (.if_icmp .ne 7, 3) := by decide +kernel
theorem dX3_visit_46 : decode cX3_visit 46 = .ok (.iconst 0, 1) := by decide +kernel
theorem dX3_visit_47 : decode cX3_visit 47 = .ok (.goto 11, 3) := by decide +kernel
theorem dX3_visit_50 : decode cX3_visit 50 = .ok (.aload_n 0, 1) := by decide +kernel
theorem dX3_visit_51 : decode cX3_visit 51 = .ok (.getfield 18, 3) := by decide +kernel
theorem dX3_visit_54 : decode cX3_visit 54 = .ok (.iload_n 2, 1) := by decide +kernel
theorem dX3_visit_55 : decode cX3_visit 55 = .ok (.iaload, 1) := by decide +kernel
theorem dX3_visit_56 : decode cX3_visit 56 = .ok (.iconst 1, 1) := by decide +kernel
theorem dX3_visit_57 : decode cX3_visit 57 = .ok (.iadd, 1) := by decide +kernel
theorem dX3_visit_58 : decode cX3_visit 58 = .ok (.iastore, 1) := by decide +kernel
theorem dX3_visit_59 : decode cX3_visit 59 = .ok (.aload_n 0, 1) := by decide +kernel
theorem dX3_visit_60 : decode cX3_visit 60 = .ok (.getfield 21, 3) := by decide +kernel
theorem dX3_visit_63 : decode cX3_visit 63 = .ok (.iload_n 1, 1) := by decide +kernel
theorem dX3_visit_64 : decode cX3_visit 64 = .ok (.iload_n 2, 1) := by decide +kernel
theorem dX3_visit_65 : decode cX3_visit 65 = .ok (.iastore, 1) := by decide +kernel
theorem dX3_visit_66 : decode cX3_visit 66 = .ok (.aload_n 0, 1) := by decide +kernel
theorem dX3_visit_67 : decode cX3_visit 67 = .ok (.getfield 24, 3) := by decide +kernel
theorem dX3_visit_70 : decode cX3_visit 70 = .ok (.iload_n 1, 1) := by decide +kernel
theorem dX3_visit_71 : decode cX3_visit 71 = .ok (.iload_n 3, 1) := by decide +kernel
theorem dX3_visit_72 : decode cX3_visit 72 = .ok (.iastore, 1) := by decide +kernel
theorem dX3_visit_73 : decode cX3_visit 73 = .ok (.aload_n 0, 1) := by decide +kernel
theorem dX3_visit_74 : decode cX3_visit 74 = .ok (.getfield 15, 3) := by decide +kernel
theorem dX3_visit_77 : decode cX3_visit 77 = .ok (.aload_n 0, 1) := by decide +kernel
theorem dX3_visit_78 : decode cX3_visit 78 = .ok (.getfield 39, 3) := by decide +kernel
theorem dX3_visit_81 : decode cX3_visit 81 = .ok (.iload_n 1, 1) := by decide +kernel
theorem dX3_visit_82 : decode cX3_visit 82 = .ok (.iastore, 1) := by decide +kernel
theorem dX3_visit_83 : decode cX3_visit 83 = .ok (.aload_n 0, 1) := by decide +kernel
theorem dX3_visit_84 : decode cX3_visit 84 = .ok (.dup, 1) := by decide +kernel
theorem dX3_visit_85 : decode cX3_visit 85 = .ok (.getfield 39, 3) := by decide +kernel
theorem dX3_visit_88 : decode cX3_visit 88 = .ok (.iconst 1, 1) := by decide +kernel
theorem dX3_visit_89 : decode cX3_visit 89 = .ok (.iadd, 1) := by decide +kernel
theorem dX3_visit_90 : decode cX3_visit 90 = .ok (.putfield 39, 3) := by decide +kernel
theorem dX3_visit_93 : decode cX3_visit 93 = .ok (.return_, 1) := by decide +kernel
theorem dX3_spread_0 : decode cX3_spread 0 = .ok (.iload_n 2, 1) := by decide +kernel
theorem dX3_spread_1 : decode cX3_spread 1 = .ok (.istore_n 3, 1) := by decide +kernel
theorem dX3_spread_2 : decode cX3_spread 2 = .ok (.iload_n 3, 1) := by decide +kernel
theorem dX3_spread_3 : decode cX3_spread 3 = .ok (.aload_n 0, 1) := by decide +kernel
theorem dX3_spread_4 : decode cX3_spread 4 = .ok (.getfield 39, 3) := by decide +kernel
theorem dX3_spread_7 : decode cX3_spread 7 = .ok (.if_icmp .ge 64, 3) := by decide +kernel
theorem dX3_spread_10 : decode cX3_spread 10 = .ok (.iload_n 3, 1) := by decide +kernel
theorem dX3_spread_11 : decode cX3_spread 11 = .ok (.bipush 80, 2) := by decide +kernel
theorem dX3_spread_13 : decode cX3_spread 13 = .ok (.if_icmp .ge 58, 3) := by decide +kernel
theorem dX3_spread_16 : decode cX3_spread 16 = .ok (.aload_n 0, 1) := by decide +kernel
theorem dX3_spread_17 : decode cX3_spread 17 = .ok (.getfield 15, 3) := by decide +kernel
theorem dX3_spread_20 : decode cX3_spread 20 = .ok (.iload_n 3, 1) := by decide +kernel
theorem dX3_spread_21 : decode cX3_spread 21 = .ok (.iaload, 1) := by decide +kernel
theorem dX3_spread_22 : decode cX3_spread 22 = .ok (.istore 4, 2) := by decide +kernel
theorem dX3_spread_24 : decode cX3_spread 24 = .ok (.aload_n 1, 1) := by decide +kernel
theorem dX3_spread_25 : decode cX3_spread 25 = .ok (.iload 4, 2) := by decide +kernel
theorem dX3_spread_27 : decode cX3_spread 27 = .ok (.invokevirtual 43, 3) := by decide +kernel
theorem dX3_spread_30 : decode cX3_spread 30 = .ok (.istore 5, 2) := by decide +kernel
theorem dX3_spread_32 : decode cX3_spread 32 = .ok (.iload 5, 2) := by decide +kernel
theorem dX3_spread_34 : decode cX3_spread 34 = .ok (.aload_n 1, 1) := by decide +kernel
theorem dX3_spread_35 : decode cX3_spread 35 = .ok (.iload 4, 2) := by decide +kernel
theorem dX3_spread_37 : decode cX3_spread 37 = .ok (.invokevirtual 49, 3) := by decide +kernel
theorem dX3_spread_40 : decode cX3_spread 40 = .ok (.if_icmp .ge 25, 3) := by decide +kernel
theorem dX3_spread_43 : decode cX3_spread 43 = .ok (.aload_n 0, 1) := by decide +kernel
theorem dX3_spread_44 : decode cX3_spread 44 = .ok (.aload_n 1, 1) := by decide +kernel
theorem dX3_spread_45 : decode cX3_spread 45 = .ok (.iload 4, 2) := by decide +kernel
theorem dX3_spread_47 : decode cX3_spread 47 = .ok (.iload 5, 2) := by decide +kernel
theorem dX3_spread_49 : decode cX3_spread 49 = .ok (.invokevirtual 52, 3) := by decide +kernel
theorem dX3_spread_52 : decode cX3_spread 52 = .ok (.iload 4, 2) := by decide +kernel
theorem dX3_spread_54 : decode cX3_spread 54 = .ok (.iload 5, 2) := by decide +kernel
theorem dX3_spread_56 : decode cX3_spread 56 = .ok (.invokevirtual 56, 3) := by decide +kernel
theorem dX3_spread_59 : decode cX3_spread 59 = .ok (.iinc 5 1, 3) := by decide +kernel
theorem dX3_spread_62 : decode cX3_spread 62 = .ok (.goto (-30), 3) := by decide +kernel
theorem dX3_spread_65 : decode cX3_spread 65 = .ok (.iinc 3 1, 3) := by decide +kernel
theorem dX3_spread_68 : decode cX3_spread 68 = .ok (.goto (-66), 3) := by decide +kernel
theorem dX3_spread_71 : decode cX3_spread 71 = .ok (.return_, 1) := by decide +kernel
theorem dX3_reach_0 : decode cX3_reach 0 = .ok (.aload_n 0, 1) := by decide +kernel
theorem dX3_reach_1 : decode cX3_reach 1 = .ok (.invokevirtual 60, 3) := by decide +kernel
theorem dX3_reach_4 : decode cX3_reach 4 = .ok (.iconst 0, 1) := by decide +kernel
theorem dX3_reach_5 : decode cX3_reach 5 = .ok (.istore_n 3, 1) := by decide +kernel
theorem dX3_reach_6 : decode cX3_reach 6 = .ok (.iload_n 3, 1) := by decide +kernel
theorem dX3_reach_7 : decode cX3_reach 7 = .ok (.bipush 8, 2) := by decide +kernel
theorem dX3_reach_9 : decode cX3_reach 9 = .ok (.if_icmp .ge 26, 3) := by decide +kernel
theorem dX3_reach_12 : decode cX3_reach 12 = .ok (.iload_n 3, 1) := by decide +kernel
theorem dX3_reach_13 : decode cX3_reach 13 = .ok (.iload_n 2, 1) := by decide +kernel
theorem dX3_reach_14 : decode cX3_reach 14 = .ok (.if_icmp .eq 15, 3) := by decide +kernel
theorem dX3_reach_17 : decode cX3_reach 17 = .ok (.aload_n 0, 1) := by decide +kernel
theorem dX3_reach_18 : decode cX3_reach 18 = .ok (.aload_n 1, 1) := by decide +kernel
theorem dX3_reach_19 : decode cX3_reach 19 = .ok (.getfield 63, 3) := by decide +kernel
theorem dX3_reach_22 : decode cX3_reach 22 = .ok (.iload_n 3, 1) := by decide +kernel
theorem dX3_reach_23 : decode cX3_reach 23 = .ok (.iaload, 1) := by decide +kernel
theorem dX3_reach_24 : decode cX3_reach 24 = .ok (.iconst (-1), 1) := by decide +kernel
theorem dX3_reach_25 : decode cX3_reach 25 = .ok (.iconst (-1), 1) := by decide +kernel
theorem dX3_reach_26 : decode cX3_reach 26 = .ok (.invokevirtual 56, 3) := by decide +kernel
theorem dX3_reach_29 : decode cX3_reach 29 = .ok (.iinc 3 1, 3) := by decide +kernel
theorem dX3_reach_32 : decode cX3_reach 32 = .ok (.goto (-26), 3) := by decide +kernel
theorem dX3_reach_35 : decode cX3_reach 35 = .ok (.iconst 0, 1) := by decide +kernel
theorem dX3_reach_36 : decode cX3_reach 36 = .ok (.istore_n 3, 1) := by decide +kernel
theorem dX3_reach_37 : decode cX3_reach 37 = .ok (.iload_n 3, 1) := by decide +kernel
theorem dX3_reach_38 : decode cX3_reach 38 = .ok (.aload_n 1, 1) := by decide +kernel
theorem dX3_reach_39 : decode cX3_reach 39 = .ok (.getfield 66, 3) := by decide +kernel
theorem dX3_reach_42 : decode cX3_reach 42 = .ok (.getfield 70, 3) := by decide +kernel
theorem dX3_reach_45 : decode cX3_reach 45 = .ok (.if_icmp .ge 23, 3) := by decide +kernel
theorem dX3_reach_48 : decode cX3_reach 48 = .ok (.aload_n 0, 1) := by decide +kernel
theorem dX3_reach_49 : decode cX3_reach 49 = .ok (.aload_n 1, 1) := by decide +kernel
theorem dX3_reach_50 : decode cX3_reach 50 = .ok (.getfield 66, 3) := by decide +kernel
theorem dX3_reach_53 : decode cX3_reach 53 = .ok (.iload_n 3, 1) := by decide +kernel
theorem dX3_reach_54 : decode cX3_reach 54 = .ok (.invokevirtual 75, 3) := by decide +kernel
theorem dX3_reach_57 : decode cX3_reach 57 = .ok (.iconst (-1), 1) := by decide +kernel
theorem dX3_reach_58 : decode cX3_reach 58 = .ok (.iconst (-1), 1) := by decide +kernel
theorem dX3_reach_59 : decode cX3_reach 59 = .ok (.invokevirtual 56, 3) := by decide +kernel
theorem dX3_reach_62 : decode cX3_reach 62 = .ok (.iinc 3 1, 3) := by decide +kernel
theorem dX3_reach_65 : decode cX3_reach 65 = .ok (.goto (-28), 3) := by decide +kernel
theorem dX3_reach_68 : decode cX3_reach 68 = .ok (.aload_n 0, 1) := by decide +kernel
theorem dX3_reach_69 : decode cX3_reach 69 = .ok (.aload_n 1, 1) := by decide +kernel
theorem dX3_reach_70 : decode cX3_reach 70 = .ok (.iconst 0, 1) := by decide +kernel
theorem dX3_reach_71 : decode cX3_reach 71 = .ok (.invokevirtual 78, 3) := by decide +kernel
theorem dX3_reach_74 : decode cX3_reach 74 = .ok (.return_, 1) := by decide +kernel
theorem dX3_seenCells_0 : decode cX3_seenCells 0 = .ok (.iconst 0, 1) := by decide +kernel
theorem dX3_seenCells_1 : decode cX3_seenCells 1 = .ok (.istore_n 2, 1) := by decide +kernel
theorem dX3_seenCells_2 : decode cX3_seenCells 2 = .ok (.iconst 0, 1) := by decide +kernel
theorem dX3_seenCells_3 : decode cX3_seenCells 3 = .ok (.istore_n 3, 1) := by decide +kernel
theorem dX3_seenCells_4 : decode cX3_seenCells 4 = .ok (.iload_n 3, 1) := by decide +kernel
theorem dX3_seenCells_5 : decode cX3_seenCells 5 = .ok (.aload_n 0, 1) := by decide +kernel
theorem dX3_seenCells_6 : decode cX3_seenCells 6 = .ok (.getfield 39, 3) := by decide +kernel
theorem dX3_seenCells_9 : decode cX3_seenCells 9 = .ok (.if_icmp .ge 22, 3) := by decide +kernel
theorem dX3_seenCells_12 : decode cX3_seenCells 12 = .ok (.iload_n 2, 1) := by decide +kernel
theorem dX3_seenCells_13 : decode cX3_seenCells 13 = .ok (.aload_n 1, 1) := by decide +kernel
theorem dX3_seenCells_14 : decode cX3_seenCells 14 = .ok (.aload_n 0, 1) := by decide +kernel
theorem dX3_seenCells_15 : decode cX3_seenCells 15 = .ok (.getfield 15, 3) := by decide +kernel
theorem dX3_seenCells_18 : decode cX3_seenCells 18 = .ok (.iload_n 3, 1) := by decide +kernel
theorem dX3_seenCells_19 : decode cX3_seenCells 19 = .ok (.iaload, 1) := by decide +kernel
theorem dX3_seenCells_20 : decode cX3_seenCells 20 = .ok (.invokevirtual 82, 3) := by decide +kernel
theorem dX3_seenCells_23 : decode cX3_seenCells 23 = .ok (.iadd, 1) := by decide +kernel
theorem dX3_seenCells_24 : decode cX3_seenCells 24 = .ok (.istore_n 2, 1) := by decide +kernel
theorem dX3_seenCells_25 : decode cX3_seenCells 25 = .ok (.iinc 3 1, 3) := by decide +kernel
theorem dX3_seenCells_28 : decode cX3_seenCells 28 = .ok (.goto (-24), 3) := by decide +kernel
theorem dX3_seenCells_31 : decode cX3_seenCells 31 = .ok (.iload_n 2, 1) := by decide +kernel
theorem dX3_seenCells_32 : decode cX3_seenCells 32 = .ok (.ireturn, 1) := by decide +kernel
theorem dX3_unseenCells_0 : decode cX3_unseenCells 0 = .ok (.iconst 0, 1) := by decide +kernel
theorem dX3_unseenCells_1 : decode cX3_unseenCells 1 = .ok (.istore_n 3, 1) := by decide +kernel
theorem dX3_unseenCells_2 : decode cX3_unseenCells 2 = .ok (.iconst 0, 1) := by decide +kernel
theorem dX3_unseenCells_3 : decode cX3_unseenCells 3 = .ok (.istore 4, 2) := by decide +kernel
theorem dX3_unseenCells_5 : decode cX3_unseenCells 5 = .ok (.iload 4, 2) := by decide +kernel
theorem dX3_unseenCells_7 : decode cX3_unseenCells 7 = .ok (.aload_n 1, 1) := by decide +kernel
theorem dX3_unseenCells_8 : decode cX3_unseenCells 8 = .ok (.getfield 85, 3) := by decide +kernel
theorem dX3_unseenCells_11 : decode cX3_unseenCells 11 = .ok (.if_icmp .ge 39, 3) := by decide +kernel
theorem dX3_unseenCells_14 : decode cX3_unseenCells 14 = .ok (.aload_n 1, 1) := by decide +kernel
theorem dX3_unseenCells_15 : decode cX3_unseenCells 15 = .ok (.getfield 88, 3) := by decide +kernel
theorem dX3_unseenCells_18 : decode cX3_unseenCells 18 = .ok (.iload 4, 2) := by decide +kernel
theorem dX3_unseenCells_20 : decode cX3_unseenCells 20 = .ok (.iaload, 1) := by decide +kernel
theorem dX3_unseenCells_21 : decode cX3_unseenCells 21 = .ok (.iload_n 2, 1) := by decide +kernel
theorem dX3_unseenCells_22 : decode cX3_unseenCells 22 = .ok (.if_icmp .ne 22, 3) := by decide +kernel
theorem dX3_unseenCells_25 : decode cX3_unseenCells 25 = .ok (.aload_n 0, 1) := by decide +kernel
theorem dX3_unseenCells_26 : decode cX3_unseenCells 26 = .ok (.getfield 9, 3) := by decide +kernel
theorem dX3_unseenCells_29 : decode cX3_unseenCells 29 = .ok (.iload 4, 2) := by decide +kernel
theorem dX3_unseenCells_31 : decode cX3_unseenCells 31 = .ok (.iaload, 1) := by decide +kernel
theorem dX3_unseenCells_32 : decode cX3_unseenCells 32 = .ok (.ifCond .ne 12, 3) := by decide +kernel
theorem dX3_unseenCells_35 : decode cX3_unseenCells 35 = .ok (.iload_n 3, 1) := by decide +kernel
theorem dX3_unseenCells_36 : decode cX3_unseenCells 36 = .ok (.aload_n 1, 1) := by decide +kernel
theorem dX3_unseenCells_37 : decode cX3_unseenCells 37 = .ok (.iload 4, 2) := by decide +kernel
theorem dX3_unseenCells_39 : decode cX3_unseenCells 39 = .ok (.invokevirtual 82, 3) := by decide +kernel
theorem dX3_unseenCells_42 : decode cX3_unseenCells 42 = .ok (.iadd, 1) := by decide +kernel
theorem dX3_unseenCells_43 : decode cX3_unseenCells 43 = .ok (.istore_n 3, 1) := by decide +kernel
theorem dX3_unseenCells_44 : decode cX3_unseenCells 44 = .ok (.iinc 4 1, 3) := by decide +kernel
theorem dX3_unseenCells_47 : decode cX3_unseenCells 47 = .ok (.goto (-42), 3) := by decide +kernel
theorem dX3_unseenCells_50 : decode cX3_unseenCells 50 = .ok (.iload_n 3, 1) := by decide +kernel
theorem dX3_unseenCells_51 : decode cX3_unseenCells 51 = .ok (.ireturn, 1) := by decide +kernel
theorem dX3_holdersOf_0 : decode cX3_holdersOf 0 = .ok (.iconst 0, 1) := by decide +kernel
theorem dX3_holdersOf_1 : decode cX3_holdersOf 1 = .ok (.istore_n 3, 1) := by decide +kernel
theorem dX3_holdersOf_2 : decode cX3_holdersOf 2 = .ok (.iconst 0, 1) := by decide +kernel
theorem dX3_holdersOf_3 : decode cX3_holdersOf 3 = .ok (.istore 4, 2) := by decide +kernel
theorem dX3_holdersOf_5 : decode cX3_holdersOf 5 = .ok (.iload 4, 2) := by decide +kernel
theorem dX3_holdersOf_7 : decode cX3_holdersOf 7 = .ok (.bipush 8, 2) := by decide +kernel
theorem dX3_holdersOf_9 : decode cX3_holdersOf 9 = .ok (.if_icmp .ge 23, 3) := by decide +kernel
theorem dX3_holdersOf_12 : decode cX3_holdersOf 12 = .ok (.aload_n 1, 1) := by decide +kernel
theorem dX3_holdersOf_13 : decode cX3_holdersOf 13 = .ok (.getfield 63, 3) := by decide +kernel
theorem dX3_holdersOf_16 : decode cX3_holdersOf 16 = .ok (.iload 4, 2) := by decide +kernel
theorem dX3_holdersOf_18 : decode cX3_holdersOf 18 = .ok (.iaload, 1) := by decide +kernel
theorem dX3_holdersOf_19 : decode cX3_holdersOf 19 = .ok (.iload_n 2, 1) := by decide +kernel
theorem dX3_holdersOf_20 : decode cX3_holdersOf 20 = .ok (.if_icmp .ne 6, 3) := by decide +kernel
theorem dX3_holdersOf_23 : decode cX3_holdersOf 23 = .ok (.iinc 3 1, 3) := by decide +kernel
theorem dX3_holdersOf_26 : decode cX3_holdersOf 26 = .ok (.iinc 4 1, 3) := by decide +kernel
theorem dX3_holdersOf_29 : decode cX3_holdersOf 29 = .ok (.goto (-24), 3) := by decide +kernel
theorem dX3_holdersOf_32 : decode cX3_holdersOf 32 = .ok (.iconst 0, 1) := by decide +kernel
theorem dX3_holdersOf_33 : decode cX3_holdersOf 33 = .ok (.istore 4, 2) := by decide +kernel
theorem dX3_holdersOf_35 : decode cX3_holdersOf 35 = .ok (.iload 4, 2) := by decide +kernel
theorem dX3_holdersOf_37 : decode cX3_holdersOf 37 = .ok (.aload_n 0, 1) := by decide +kernel
theorem dX3_holdersOf_38 : decode cX3_holdersOf 38 = .ok (.getfield 39, 3) := by decide +kernel
theorem dX3_holdersOf_41 : decode cX3_holdersOf 41 = .ok (.if_icmp .ge 58, 3) := by decide +kernel
theorem dX3_holdersOf_44 : decode cX3_holdersOf 44 = .ok (.aload_n 0, 1) := by decide +kernel
theorem dX3_holdersOf_45 : decode cX3_holdersOf 45 = .ok (.getfield 15, 3) := by decide +kernel
theorem dX3_holdersOf_48 : decode cX3_holdersOf 48 = .ok (.iload 4, 2) := by decide +kernel
theorem dX3_holdersOf_50 : decode cX3_holdersOf 50 = .ok (.iaload, 1) := by decide +kernel
theorem dX3_holdersOf_51 : decode cX3_holdersOf 51 = .ok (.istore 5, 2) := by decide +kernel
theorem dX3_holdersOf_53 : decode cX3_holdersOf 53 = .ok (.aload_n 1, 1) := by decide +kernel
theorem dX3_holdersOf_54 : decode cX3_holdersOf 54 = .ok (.iload 5, 2) := by decide +kernel
theorem dX3_holdersOf_56 : decode cX3_holdersOf 56 = .ok (.invokevirtual 43, 3) := by decide +kernel
theorem dX3_holdersOf_59 : decode cX3_holdersOf 59 = .ok (.istore 6, 2) := by decide +kernel
theorem dX3_holdersOf_61 : decode cX3_holdersOf 61 = .ok (.iload 6, 2) := by decide +kernel
theorem dX3_holdersOf_63 : decode cX3_holdersOf 63 = .ok (.aload_n 1, 1) := by decide +kernel
theorem dX3_holdersOf_64 : decode cX3_holdersOf 64 = .ok (.iload 5, 2) := by decide +kernel
theorem dX3_holdersOf_66 : decode cX3_holdersOf 66 = .ok (.invokevirtual 49, 3) := by decide +kernel
theorem dX3_holdersOf_69 : decode cX3_holdersOf 69 = .ok (.if_icmp .ge 24, 3) := by decide +kernel
theorem dX3_holdersOf_72 : decode cX3_holdersOf 72 = .ok (.aload_n 1, 1) := by decide +kernel
theorem dX3_holdersOf_73 : decode cX3_holdersOf 73 = .ok (.iload 5, 2) := by decide +kernel
theorem dX3_holdersOf_75 : decode cX3_holdersOf 75 = .ok (.iload 6, 2) := by decide +kernel
theorem dX3_holdersOf_77 : decode cX3_holdersOf 77 = .ok (.invokevirtual 52, 3) := by decide +kernel
theorem dX3_holdersOf_80 : decode cX3_holdersOf 80 = .ok (.iload_n 2, 1) := by decide +kernel
theorem dX3_holdersOf_81 : decode cX3_holdersOf 81 = .ok (.if_icmp .ne 6, 3) := by decide +kernel
theorem dX3_holdersOf_84 : decode cX3_holdersOf 84 = .ok (.iinc 3 1, 3) := by decide +kernel
theorem dX3_holdersOf_87 : decode cX3_holdersOf 87 = .ok (.iinc 6 1, 3) := by decide +kernel
theorem dX3_holdersOf_90 : decode cX3_holdersOf 90 = .ok (.goto (-29), 3) := by decide +kernel
theorem dX3_holdersOf_93 : decode cX3_holdersOf 93 = .ok (.iinc 4 1, 3) := by decide +kernel
theorem dX3_holdersOf_96 : decode cX3_holdersOf 96 = .ok (.goto (-61), 3) := by decide +kernel
theorem dX3_holdersOf_99 : decode cX3_holdersOf 99 = .ok (.iload_n 3, 1) := by decide +kernel
theorem dX3_holdersOf_100 : decode cX3_holdersOf 100 = .ok (.ireturn, 1) := by decide +kernel
theorem dX3_findWays_0 : decode cX3_findWays 0 = .ok (.aload_n 0, 1) := by decide +kernel
theorem dX3_findWays_1 : decode cX3_findWays 1 = .ok (.invokevirtual 60, 3) := by decide +kernel
theorem dX3_findWays_4 : decode cX3_findWays 4 = .ok (.iconst 0, 1) := by decide +kernel
theorem dX3_findWays_5 : decode cX3_findWays 5 = .ok (.istore_n 2, 1) := by decide +kernel
theorem dX3_findWays_6 : decode cX3_findWays 6 = .ok (.iload_n 2, 1) := by decide +kernel
theorem dX3_findWays_7 : decode cX3_findWays 7 = .ok (.bipush 8, 2) := by decide +kernel
theorem dX3_findWays_9 : decode cX3_findWays 9 = .ok (.if_icmp .ge 21, 3) := by decide +kernel
theorem dX3_findWays_12 : decode cX3_findWays 12 = .ok (.aload_n 0, 1) := by decide +kernel
theorem dX3_findWays_13 : decode cX3_findWays 13 = .ok (.aload_n 1, 1) := by decide +kernel
theorem dX3_findWays_14 : decode cX3_findWays 14 = .ok (.getfield 63, 3) := by decide +kernel
theorem dX3_findWays_17 : decode cX3_findWays 17 = .ok (.iload_n 2, 1) := by decide +kernel
theorem dX3_findWays_18 : decode cX3_findWays 18 = .ok (.iaload, 1) := by decide +kernel
theorem dX3_findWays_19 : decode cX3_findWays 19 = .ok (.iconst (-1), 1) := by decide +kernel
theorem dX3_findWays_20 : decode cX3_findWays 20 = .ok (.iconst (-1), 1) := by decide +kernel
theorem dX3_findWays_21 : decode cX3_findWays 21 = .ok (.invokevirtual 56, 3) := by decide +kernel
theorem dX3_findWays_24 : decode cX3_findWays 24 = .ok (.iinc 2 1, 3) := by decide +kernel
theorem dX3_findWays_27 : decode cX3_findWays 27 = .ok (.goto (-21), 3) := by decide +kernel
theorem dX3_findWays_30 : decode cX3_findWays 30 = .ok (.aload_n 0, 1) := by decide +kernel
theorem dX3_findWays_31 : decode cX3_findWays 31 = .ok (.aload_n 1, 1) := by decide +kernel
theorem dX3_findWays_32 : decode cX3_findWays 32 = .ok (.iconst 0, 1) := by decide +kernel
theorem dX3_findWays_33 : decode cX3_findWays 33 = .ok (.invokevirtual 78, 3) := by decide +kernel
theorem dX3_findWays_36 : decode cX3_findWays 36 = .ok (.return_, 1) := by decide +kernel
theorem dX3_wayTo_0 : decode cX3_wayTo 0 = .ok (.aload_n 0, 1) := by decide +kernel
theorem dX3_wayTo_1 : decode cX3_wayTo 1 = .ok (.iload_n 2, 1) := by decide +kernel
theorem dX3_wayTo_2 : decode cX3_wayTo 2 = .ok (.invokevirtual 91, 3) := by decide +kernel
theorem dX3_wayTo_5 : decode cX3_wayTo 5 = .ok (.ifCond .ne 5, 3) := by decide +kernel
theorem dX3_wayTo_8 : decode cX3_wayTo 8 = .ok (.iconst (-1), 1) := by decide +kernel
theorem dX3_wayTo_9 : decode cX3_wayTo 9 = .ok (.ireturn, 1) := by decide +kernel
theorem dX3_wayTo_10 : decode cX3_wayTo 10 = .ok (.aload_n 0, 1) := by decide +kernel
theorem dX3_wayTo_11 : decode cX3_wayTo 11 = .ok (.getfield 18, 3) := by decide +kernel
theorem dX3_wayTo_14 : decode cX3_wayTo 14 = .ok (.iload_n 2, 1) := by decide +kernel
theorem dX3_wayTo_15 : decode cX3_wayTo 15 = .ok (.iaload, 1) := by decide +kernel
theorem dX3_wayTo_16 : decode cX3_wayTo 16 = .ok (.istore 4, 2) := by decide +kernel
theorem dX3_wayTo_18 : decode cX3_wayTo 18 = .ok (.iload_n 3, 1) := by decide +kernel
theorem dX3_wayTo_19 : decode cX3_wayTo 19 = .ok (.iconst (-1), 1) := by decide +kernel
theorem dX3_wayTo_20 : decode cX3_wayTo 20 = .ok (.if_icmp .ne 6, 3) := by decide +kernel
theorem dX3_wayTo_23 : decode cX3_wayTo 23 = .ok (.iload 4, 2) := by decide +kernel
theorem dX3_wayTo_25 : decode cX3_wayTo 25 = .ok (.ireturn, 1) := by decide +kernel
theorem dX3_wayTo_26 : decode cX3_wayTo 26 = .ok (.iload_n 3, 1) := by decide +kernel
theorem dX3_wayTo_27 : decode cX3_wayTo 27 = .ok (.ifCond .lt 9, 3) := by decide +kernel
theorem dX3_wayTo_30 : decode cX3_wayTo 30 = .ok (.iload_n 3, 1) := by decide +kernel
theorem dX3_wayTo_31 : decode cX3_wayTo 31 = .ok (.iload 4, 2) := by decide +kernel
theorem dX3_wayTo_33 : decode cX3_wayTo 33 = .ok (.if_icmp .le 5, 3) := by decide +kernel
theorem dX3_wayTo_36 : decode cX3_wayTo 36 = .ok (.iconst (-1), 1) := by decide +kernel
theorem dX3_wayTo_37 : decode cX3_wayTo 37 = .ok (.ireturn, 1) := by decide +kernel
theorem dX3_wayTo_38 : decode cX3_wayTo 38 = .ok (.iload_n 2, 1) := by decide +kernel
theorem dX3_wayTo_39 : decode cX3_wayTo 39 = .ok (.istore 5, 2) := by decide +kernel
theorem dX3_wayTo_41 : decode cX3_wayTo 41 = .ok (.iload 4, 2) := by decide +kernel
theorem dX3_wayTo_43 : decode cX3_wayTo 43 = .ok (.istore 6, 2) := by decide +kernel
theorem dX3_wayTo_45 : decode cX3_wayTo 45 = .ok (.iload 6, 2) := by decide +kernel
theorem dX3_wayTo_47 : decode cX3_wayTo 47 = .ok (.iload_n 3, 1) := by decide +kernel
theorem dX3_wayTo_48 : decode cX3_wayTo 48 = .ok (.if_icmp .le 29, 3) := by decide +kernel
theorem dX3_wayTo_51 : decode cX3_wayTo 51 = .ok (.aload_n 0, 1) := by decide +kernel
theorem dX3_wayTo_52 : decode cX3_wayTo 52 = .ok (.getfield 21, 3) := by decide +kernel
theorem dX3_wayTo_55 : decode cX3_wayTo 55 = .ok (.iload 5, 2) := by decide +kernel
theorem dX3_wayTo_57 : decode cX3_wayTo 57 = .ok (.iaload, 1) := by decide +kernel
theorem dX3_wayTo_58 : decode cX3_wayTo 58 = .ok (.iconst (-1), 1) := by decide +kernel
theorem dX3_wayTo_59 : decode cX3_wayTo 59 = .ok (.if_icmp .eq 18, 3) := by decide +kernel
theorem dX3_wayTo_62 : decode cX3_wayTo 62 = .ok (.aload_n 0, 1) := by decide +kernel
theorem dX3_wayTo_63 : decode cX3_wayTo 63 = .ok (.getfield 21, 3) := by decide +kernel
theorem dX3_wayTo_66 : decode cX3_wayTo 66 = .ok (.iload 5, 2) := by decide +kernel
theorem dX3_wayTo_68 : decode cX3_wayTo 68 = .ok (.iaload, 1) := by decide +kernel
theorem dX3_wayTo_69 : decode cX3_wayTo 69 = .ok (.istore 5, 2) := by decide +kernel
theorem dX3_wayTo_71 : decode cX3_wayTo 71 = .ok (.iinc 6 (-1), 3) := by decide +kernel
theorem dX3_wayTo_74 : decode cX3_wayTo 74 = .ok (.goto (-29), 3) := by decide +kernel
theorem dX3_wayTo_77 : decode cX3_wayTo 77 = .ok (.iload_n 3, 1) := by decide +kernel
theorem dX3_wayTo_78 : decode cX3_wayTo 78 = .ok (.ifCond .ne 12, 3) := by decide +kernel
theorem dX3_wayTo_81 : decode cX3_wayTo 81 = .ok (.aload_n 1, 1) := by decide +kernel
theorem dX3_wayTo_82 : decode cX3_wayTo 82 = .ok (.iload 5, 2) := by decide +kernel
theorem dX3_wayTo_84 : decode cX3_wayTo 84 = .ok (.invokestatic 95, 3) := by decide +kernel
theorem dX3_wayTo_87 : decode cX3_wayTo 87 = .ok (.goto 10, 3) := by decide +kernel
theorem dX3_wayTo_90 : decode cX3_wayTo 90 = .ok (.aload_n 0, 1) := by decide +kernel
theorem dX3_wayTo_91 : decode cX3_wayTo 91 = .ok (.getfield 24, 3) := by decide +kernel
theorem dX3_wayTo_94 : decode cX3_wayTo 94 = .ok (.iload 5, 2) := by decide +kernel
theorem dX3_wayTo_96 : decode cX3_wayTo 96 = .ok (.iaload, 1) := by decide +kernel
theorem dX3_wayTo_97 : decode cX3_wayTo 97 = .ok (.ireturn, 1) := by decide +kernel
theorem dX3_lowestRootOf_0 : decode cX3_lowestRootOf 0 = .ok (.iconst 0, 1) := by decide +kernel
theorem dX3_lowestRootOf_1 : decode cX3_lowestRootOf 1 = .ok (.istore_n 2, 1) := by decide +kernel
theorem dX3_lowestRootOf_2 : decode cX3_lowestRootOf 2 = .ok (.iload_n 2, 1) := by decide +kernel
theorem dX3_lowestRootOf_3 : decode cX3_lowestRootOf 3 = .ok (.bipush 8, 2) := by decide +kernel
theorem dX3_lowestRootOf_5 : decode cX3_lowestRootOf 5 = .ok (.if_icmp .ge 21, 3) := by decide +kernel
theorem dX3_lowestRootOf_8 : decode cX3_lowestRootOf 8 = .ok (.aload_n 0, 1) := by decide +kernel
theorem dX3_lowestRootOf_9 : decode cX3_lowestRootOf 9 = .ok (.getfield 63, 3) := by decide +kernel
theorem dX3_lowestRootOf_12 : decode cX3_lowestRootOf 12 = .ok (.iload_n 2, 1) := by decide +kernel
theorem dX3_lowestRootOf_13 : decode cX3_lowestRootOf 13 = .ok (.iaload, 1) := by decide +kernel
theorem dX3_lowestRootOf_14 : decode cX3_lowestRootOf 14 = .ok (.iload_n 1, 1) := by decide +kernel
theorem dX3_lowestRootOf_15 : decode cX3_lowestRootOf 15 = .ok (.if_icmp .ne 5, 3) := by decide +kernel
theorem dX3_lowestRootOf_18 : decode cX3_lowestRootOf 18 = .ok (.iload_n 2, 1) := by decide +kernel
theorem dX3_lowestRootOf_19 : decode cX3_lowestRootOf 19 = .ok (.ireturn, 1) := by decide +kernel
theorem dX3_lowestRootOf_20 : decode cX3_lowestRootOf 20 = .ok (.iinc 2 1, 3) := by decide +kernel
theorem dX3_lowestRootOf_23 : decode cX3_lowestRootOf 23 = .ok (.goto (-21), 3) := by decide +kernel
theorem dX3_lowestRootOf_26 : decode cX3_lowestRootOf 26 = .ok (.iconst (-1), 1) := by decide +kernel
theorem dX3_lowestRootOf_27 : decode cX3_lowestRootOf 27 = .ok (.ireturn, 1) := by decide +kernel
theorem dX3_wayBack_0 : decode cX3_wayBack 0 = .ok (.aload_n 0, 1) := by decide +kernel
theorem dX3_wayBack_1 : decode cX3_wayBack 1 = .ok (.invokevirtual 60, 3) := by decide +kernel
theorem dX3_wayBack_4 : decode cX3_wayBack 4 = .ok (.aload_n 0, 1) := by decide +kernel
theorem dX3_wayBack_5 : decode cX3_wayBack 5 = .ok (.iload_n 2, 1) := by decide +kernel
theorem dX3_wayBack_6 : decode cX3_wayBack 6 = .ok (.iconst (-1), 1) := by decide +kernel
theorem dX3_wayBack_7 : decode cX3_wayBack 7 = .ok (.iconst (-1), 1) := by decide +kernel
theorem dX3_wayBack_8 : decode cX3_wayBack 8 = .ok (.invokevirtual 56, 3) := by decide +kernel
theorem dX3_wayBack_11 : decode cX3_wayBack 11 = .ok (.iconst 0, 1) := by decide +kernel
theorem dX3_wayBack_12 : decode cX3_wayBack 12 = .ok (.istore_n 3, 1) := by decide +kernel
theorem dX3_wayBack_13 : decode cX3_wayBack 13 = .ok (.iload_n 3, 1) := by decide +kernel
theorem dX3_wayBack_14 : decode cX3_wayBack 14 = .ok (.aload_n 0, 1) := by decide +kernel
theorem dX3_wayBack_15 : decode cX3_wayBack 15 = .ok (.getfield 39, 3) := by decide +kernel
theorem dX3_wayBack_18 : decode cX3_wayBack 18 = .ok (.if_icmp .ge 84, 3) := by decide +kernel
theorem dX3_wayBack_21 : decode cX3_wayBack 21 = .ok (.iload_n 3, 1) := by decide +kernel
theorem dX3_wayBack_22 : decode cX3_wayBack 22 = .ok (.bipush 80, 2) := by decide +kernel
theorem dX3_wayBack_24 : decode cX3_wayBack 24 = .ok (.if_icmp .ge 78, 3) := by decide +kernel
theorem dX3_wayBack_27 : decode cX3_wayBack 27 = .ok (.aload_n 0, 1) := by decide +kernel
theorem dX3_wayBack_28 : decode cX3_wayBack 28 = .ok (.getfield 15, 3) := by decide +kernel
theorem dX3_wayBack_31 : decode cX3_wayBack 31 = .ok (.iload_n 3, 1) := by decide +kernel
theorem dX3_wayBack_32 : decode cX3_wayBack 32 = .ok (.iaload, 1) := by decide +kernel
theorem dX3_wayBack_33 : decode cX3_wayBack 33 = .ok (.istore 4, 2) := by decide +kernel
theorem dX3_wayBack_35 : decode cX3_wayBack 35 = .ok (.aload_n 1, 1) := by decide +kernel
theorem dX3_wayBack_36 : decode cX3_wayBack 36 = .ok (.iload 4, 2) := by decide +kernel
theorem dX3_wayBack_38 : decode cX3_wayBack 38 = .ok (.invokevirtual 43, 3) := by decide +kernel
theorem dX3_wayBack_41 : decode cX3_wayBack 41 = .ok (.istore 5, 2) := by decide +kernel
theorem dX3_wayBack_43 : decode cX3_wayBack 43 = .ok (.iload 5, 2) := by decide +kernel
theorem dX3_wayBack_45 : decode cX3_wayBack 45 = .ok (.aload_n 1, 1) := by decide +kernel
theorem dX3_wayBack_46 : decode cX3_wayBack 46 = .ok (.iload 4, 2) := by decide +kernel
theorem dX3_wayBack_48 : decode cX3_wayBack 48 = .ok (.invokevirtual 49, 3) := by decide +kernel
theorem dX3_wayBack_51 : decode cX3_wayBack 51 = .ok (.if_icmp .ge 45, 3) := by decide +kernel
theorem dX3_wayBack_54 : decode cX3_wayBack 54 = .ok (.aload_n 1, 1) := by decide +kernel
theorem dX3_wayBack_55 : decode cX3_wayBack 55 = .ok (.iload 4, 2) := by decide +kernel
theorem dX3_wayBack_57 : decode cX3_wayBack 57 = .ok (.iload 5, 2) := by decide +kernel
theorem dX3_wayBack_59 : decode cX3_wayBack 59 = .ok (.invokevirtual 52, 3) := by decide +kernel
theorem dX3_wayBack_62 : decode cX3_wayBack 62 = .ok (.istore 6, 2) := by decide +kernel
theorem dX3_wayBack_64 : decode cX3_wayBack 64 = .ok (.iload 6, 2) := by decide +kernel
theorem dX3_wayBack_66 : decode cX3_wayBack 66 = .ok (.iload_n 2, 1) := by decide +kernel
theorem dX3_wayBack_67 : decode cX3_wayBack 67 = .ok (.if_icmp .ne 13, 3) := by decide +kernel
theorem dX3_wayBack_70 : decode cX3_wayBack 70 = .ok (.aload_n 0, 1) := by decide +kernel
theorem dX3_wayBack_71 : decode cX3_wayBack 71 = .ok (.getfield 18, 3) := by decide +kernel
theorem dX3_wayBack_74 : decode cX3_wayBack 74 = .ok (.iload 4, 2) := by decide +kernel
theorem dX3_wayBack_76 : decode cX3_wayBack 76 = .ok (.iaload, 1) := by decide +kernel
theorem dX3_wayBack_77 : decode cX3_wayBack 77 = .ok (.iconst 1, 1) := by decide +kernel
theorem dX3_wayBack_78 : decode cX3_wayBack 78 = .ok (.iadd, 1) := by decide +kernel
theorem dX3_wayBack_79 : decode cX3_wayBack 79 = .ok (.ireturn, 1) := by decide +kernel
theorem dX3_wayBack_80 : decode cX3_wayBack 80 = .ok (.aload_n 0, 1) := by decide +kernel
theorem dX3_wayBack_81 : decode cX3_wayBack 81 = .ok (.iload 6, 2) := by decide +kernel
theorem dX3_wayBack_83 : decode cX3_wayBack 83 = .ok (.iload 4, 2) := by decide +kernel
theorem dX3_wayBack_85 : decode cX3_wayBack 85 = .ok (.iload 5, 2) := by decide +kernel
theorem dX3_wayBack_87 : decode cX3_wayBack 87 = .ok (.invokevirtual 56, 3) := by decide +kernel
theorem dX3_wayBack_90 : decode cX3_wayBack 90 = .ok (.iinc 5 1, 3) := by decide +kernel
theorem dX3_wayBack_93 : decode cX3_wayBack 93 = .ok (.goto (-50), 3) := by decide +kernel
theorem dX3_wayBack_96 : decode cX3_wayBack 96 = .ok (.iinc 3 1, 3) := by decide +kernel
theorem dX3_wayBack_99 : decode cX3_wayBack 99 = .ok (.goto (-86), 3) := by decide +kernel
theorem dX3_wayBack_102 : decode cX3_wayBack 102 = .ok (.iconst (-1), 1) := by decide +kernel
theorem dX3_wayBack_103 : decode cX3_wayBack 103 = .ok (.ireturn, 1) := by decide +kernel
theorem dX3_areAlike_0 : decode cX3_areAlike 0 = .ok (.aload_n 0, 1) := by decide +kernel
theorem dX3_areAlike_1 : decode cX3_areAlike 1 = .ok (.getfield 27, 3) := by decide +kernel
theorem dX3_areAlike_4 : decode cX3_areAlike 4 = .ok (.iconst (-1), 1) := by decide +kernel
theorem dX3_areAlike_5 : decode cX3_areAlike 5 = .ok (.invokestatic 33, 3) := by decide +kernel
theorem dX3_areAlike_8 : decode cX3_areAlike 8 = .ok (.aload_n 0, 1) := by decide +kernel
theorem dX3_areAlike_9 : decode cX3_areAlike 9 = .ok (.getfield 30, 3) := by decide +kernel
theorem dX3_areAlike_12 : decode cX3_areAlike 12 = .ok (.iconst (-1), 1) := by decide +kernel
theorem dX3_areAlike_13 : decode cX3_areAlike 13 = .ok (.invokestatic 33, 3) := by decide +kernel
theorem dX3_areAlike_16 : decode cX3_areAlike 16 = .ok (.aload_n 0, 1) := by decide +kernel
theorem dX3_areAlike_17 : decode cX3_areAlike 17 = .ok (.iconst 0, 1) := by decide +kernel
theorem dX3_areAlike_18 : decode cX3_areAlike 18 = .ok (.putfield 39, 3) := by decide +kernel
theorem dX3_areAlike_21 : decode cX3_areAlike 21 = .ok (.aload_n 0, 1) := by decide +kernel
theorem dX3_areAlike_22 : decode cX3_areAlike 22 = .ok (.iload_n 2, 1) := by decide +kernel
theorem dX3_areAlike_23 : decode cX3_areAlike 23 = .ok (.iload_n 3, 1) := by decide +kernel
theorem dX3_areAlike_24 : decode cX3_areAlike 24 = .ok (.invokevirtual 99, 3) := by decide +kernel
theorem dX3_areAlike_27 : decode cX3_areAlike 27 = .ok (.istore 4, 2) := by decide +kernel
theorem dX3_areAlike_29 : decode cX3_areAlike 29 = .ok (.iconst 0, 1) := by decide +kernel
theorem dX3_areAlike_30 : decode cX3_areAlike 30 = .ok (.istore 5, 2) := by decide +kernel
theorem dX3_areAlike_32 : decode cX3_areAlike 32 = .ok (.iload 4, 2) := by decide +kernel
theorem dX3_areAlike_34 : decode cX3_areAlike 34 = .ok (.ifCond .eq 51, 3) := by decide +kernel
theorem dX3_areAlike_37 : decode cX3_areAlike 37 = .ok (.iload 5, 2) := by decide +kernel
theorem dX3_areAlike_39 : decode cX3_areAlike 39 = .ok (.aload_n 0, 1) := by decide +kernel
theorem dX3_areAlike_40 : decode cX3_areAlike 40 = .ok (.getfield 39, 3) := by decide +kernel
theorem dX3_areAlike_43 : decode cX3_areAlike 43 = .ok (.if_icmp .ge 42, 3) := by decide +kernel
theorem dX3_areAlike_46 : decode cX3_areAlike 46 = .ok (.iload 5, 2) := by decide +kernel
theorem dX3_areAlike_48 : decode cX3_areAlike 48 = .ok (.bipush 80, 2) := by decide +kernel
theorem dX3_areAlike_50 : decode cX3_areAlike 50 = .ok (.if_icmp .ge 35, 3) := by decide +kernel
theorem dX3_areAlike_53 : decode cX3_areAlike 53 = .ok (.aload_n 0, 1) := by decide +kernel
theorem dX3_areAlike_54 : decode cX3_areAlike 54 = .ok (.aload_n 1, 1) := by decide +kernel
theorem dX3_areAlike_55 : decode cX3_areAlike 55 = .ok (.aload_n 0, 1) := by decide +kernel
theorem dX3_areAlike_56 : decode cX3_areAlike 56 = .ok (.getfield 15, 3) := by decide +kernel
theorem dX3_areAlike_59 : decode cX3_areAlike 59 = .ok (.iload 5, 2) := by decide +kernel
theorem dX3_areAlike_61 : decode cX3_areAlike 61 = .ok (.iaload, 1) := by decide +kernel
theorem dX3_areAlike_62 : decode cX3_areAlike 62 = .ok (.aload_n 0, 1) := by decide +kernel
theorem dX3_areAlike_63 : decode cX3_areAlike 63 = .ok (.getfield 27, 3) := by decide +kernel
theorem dX3_areAlike_66 : decode cX3_areAlike 66 = .ok (.aload_n 0, 1) := by decide +kernel
theorem dX3_areAlike_67 : decode cX3_areAlike 67 = .ok (.getfield 15, 3) := by decide +kernel
theorem dX3_areAlike_70 : decode cX3_areAlike 70 = .ok (.iload 5, 2) := by decide +kernel
theorem dX3_areAlike_72 : decode cX3_areAlike 72 = .ok (.iaload, 1) := by decide +kernel
theorem dX3_areAlike_73 : decode cX3_areAlike 73 = .ok (.iaload, 1) := by decide +kernel
theorem dX3_areAlike_74 : decode cX3_areAlike 74 = .ok (.invokevirtual 103, 3) := by decide +kernel
theorem dX3_areAlike_77 : decode cX3_areAlike 77 = .ok (.istore 4, 2) := by decide +kernel
theorem dX3_areAlike_79 : decode cX3_areAlike 79 = .ok (.iinc 5 1, 3) := by decide +kernel
theorem dX3_areAlike_82 : decode cX3_areAlike 82 = .ok (.goto (-50), 3) := by decide +kernel
theorem dX3_areAlike_85 : decode cX3_areAlike 85 = .ok (.iload 4, 2) := by decide +kernel
theorem dX3_areAlike_87 : decode cX3_areAlike 87 = .ok (.ireturn, 1) := by decide +kernel
theorem dX3_areAlikeHere_0 : decode cX3_areAlikeHere 0 = .ok (.aload_n 1, 1) := by decide +kernel
theorem dX3_areAlikeHere_1 : decode cX3_areAlikeHere 1 = .ok (.iload_n 2, 1) := by decide +kernel
theorem dX3_areAlikeHere_2 : decode cX3_areAlikeHere 2 = .ok (.invokevirtual 107, 3) := by decide +kernel
theorem dX3_areAlikeHere_5 : decode cX3_areAlikeHere 5 = .ok (.ifCond .eq 56, 3) := by decide +kernel
theorem dX3_areAlikeHere_8 : decode cX3_areAlikeHere 8 = .ok (.aload_n 1, 1) := by decide +kernel
theorem dX3_areAlikeHere_9 : decode cX3_areAlikeHere 9 = .ok (.iload_n 3, 1) := by decide +kernel
theorem dX3_areAlikeHere_10 : decode cX3_areAlikeHere 10 = .ok (.invokevirtual 107, 3) := by decide +kernel
theorem dX3_areAlikeHere_13 : decode cX3_areAlikeHere 13 = .ok (.ifCond .eq 48, 3) := by decide +kernel
theorem dX3_areAlikeHere_16 : decode cX3_areAlikeHere 16 = .ok (.aload_n 1, 1) := by decide +kernel
theorem dX3_areAlikeHere_17 : decode cX3_areAlikeHere 17 = .ok (.getfield 110, 3) := by decide +kernel
theorem dX3_areAlikeHere_20 : decode cX3_areAlikeHere 20 = .ok (.iload_n 2, 1) := by decide +kernel
theorem dX3_areAlikeHere_21 : decode cX3_areAlikeHere 21 = .ok (.iaload, 1) := by decide +kernel
theorem dX3_areAlikeHere_22 : decode cX3_areAlikeHere 22 = .ok (.aload_n 1, 1) := by decide +kernel
theorem dX3_areAlikeHere_23 : decode cX3_areAlikeHere 23 = .ok (.getfield 110, 3) := by decide +kernel
theorem dX3_areAlikeHere_26 : decode cX3_areAlikeHere 26 = .ok (.iload_n 3, 1) := by decide +kernel
theorem dX3_areAlikeHere_27 : decode cX3_areAlikeHere 27 = .ok (.iaload, 1) := by decide +kernel
theorem dX3_areAlikeHere_28 : decode cX3_areAlikeHere 28 = .ok (.if_icmp .ne 33, 3) := by decide +kernel
theorem dX3_areAlikeHere_31 : decode cX3_areAlikeHere 31 = .ok (.aload_n 1, 1) := by decide +kernel
theorem dX3_areAlikeHere_32 : decode cX3_areAlikeHere 32 = .ok (.getfield 113, 3) := by decide +kernel
theorem dX3_areAlikeHere_35 : decode cX3_areAlikeHere 35 = .ok (.iload_n 2, 1) := by decide +kernel
theorem dX3_areAlikeHere_36 : decode cX3_areAlikeHere 36 = .ok (.iaload, 1) := by decide +kernel
theorem dX3_areAlikeHere_37 : decode cX3_areAlikeHere 37 = .ok (.aload_n 1, 1) := by decide +kernel
theorem dX3_areAlikeHere_38 : decode cX3_areAlikeHere 38 = .ok (.getfield 113, 3) := by decide +kernel
theorem dX3_areAlikeHere_41 : decode cX3_areAlikeHere 41 = .ok (.iload_n 3, 1) := by decide +kernel
theorem dX3_areAlikeHere_42 : decode cX3_areAlikeHere 42 = .ok (.iaload, 1) := by decide +kernel
theorem dX3_areAlikeHere_43 : decode cX3_areAlikeHere 43 = .ok (.if_icmp .ne 18, 3) := by decide +kernel
theorem dX3_areAlikeHere_46 : decode cX3_areAlikeHere 46 = .ok (.aload_n 1, 1) := by decide +kernel
theorem dX3_areAlikeHere_47 : decode cX3_areAlikeHere 47 = .ok (.getfield 116, 3) := by decide +kernel
theorem dX3_areAlikeHere_50 : decode cX3_areAlikeHere 50 = .ok (.iload_n 2, 1) := by decide +kernel
theorem dX3_areAlikeHere_51 : decode cX3_areAlikeHere 51 = .ok (.iaload, 1) := by decide +kernel
theorem dX3_areAlikeHere_52 : decode cX3_areAlikeHere 52 = .ok (.aload_n 1, 1) := by decide +kernel
theorem dX3_areAlikeHere_53 : decode cX3_areAlikeHere 53 = .ok (.getfield 116, 3) := by decide +kernel
theorem dX3_areAlikeHere_56 : decode cX3_areAlikeHere 56 = .ok (.iload_n 3, 1) := by decide +kernel
theorem dX3_areAlikeHere_57 : decode cX3_areAlikeHere 57 = .ok (.iaload, 1) := by decide +kernel
theorem dX3_areAlikeHere_58 : decode cX3_areAlikeHere 58 = .ok (.if_icmp .eq 5, 3) := by decide +kernel
theorem dX3_areAlikeHere_61 : decode cX3_areAlikeHere 61 = .ok (.iconst 0, 1) := by decide +kernel
theorem dX3_areAlikeHere_62 : decode cX3_areAlikeHere 62 = .ok (.ireturn, 1) := by decide +kernel
theorem dX3_areAlikeHere_63 : decode cX3_areAlikeHere 63 = .ok (.iconst 1, 1) := by decide +kernel
theorem dX3_areAlikeHere_64 : decode cX3_areAlikeHere 64 = .ok (.istore 4, 2) := by decide +kernel
theorem dX3_areAlikeHere_66 : decode cX3_areAlikeHere 66 = .ok (.iconst 0, 1) := by decide +kernel
theorem dX3_areAlikeHere_67 : decode cX3_areAlikeHere 67 = .ok (.istore 5, 2) := by decide +kernel
theorem dX3_areAlikeHere_69 : decode cX3_areAlikeHere 69 = .ok (.iload 4, 2) := by decide +kernel
theorem dX3_areAlikeHere_71 : decode cX3_areAlikeHere 71 = .ok (.ifCond .eq 40, 3) := by decide +kernel
theorem dX3_areAlikeHere_74 : decode cX3_areAlikeHere 74 = .ok (.iload 5, 2) := by decide +kernel
theorem dX3_areAlikeHere_76 : decode cX3_areAlikeHere 76 = .ok (.aload_n 1, 1) := by decide +kernel
theorem dX3_areAlikeHere_77 : decode cX3_areAlikeHere 77 = .ok (.getfield 116, 3) := by decide +kernel
theorem dX3_areAlikeHere_80 : decode cX3_areAlikeHere 80 = .ok (.iload_n 2, 1) := by decide +kernel
theorem dX3_areAlikeHere_81 : decode cX3_areAlikeHere 81 = .ok (.iaload, 1) := by decide +kernel
theorem dX3_areAlikeHere_82 : decode cX3_areAlikeHere 82 = .ok (.if_icmp .ge 29, 3) := by decide +kernel
theorem dX3_areAlikeHere_85 : decode cX3_areAlikeHere 85 = .ok (.aload_n 0, 1) := by decide +kernel
theorem dX3_areAlikeHere_86 : decode cX3_areAlikeHere 86 = .ok (.aload_n 1, 1) := by decide +kernel
theorem dX3_areAlikeHere_87 : decode cX3_areAlikeHere 87 = .ok (.iload_n 2, 1) := by decide +kernel
theorem dX3_areAlikeHere_88 : decode cX3_areAlikeHere 88 = .ok (.iload 5, 2) := by decide +kernel
theorem dX3_areAlikeHere_90 : decode cX3_areAlikeHere 90 = .ok (.invokevirtual 52, 3) := by decide +kernel
theorem dX3_areAlikeHere_93 : decode cX3_areAlikeHere 93 = .ok (.aload_n 1, 1) := by decide +kernel
theorem dX3_areAlikeHere_94 : decode cX3_areAlikeHere 94 = .ok (.iload_n 3, 1) := by decide +kernel
theorem dX3_areAlikeHere_95 : decode cX3_areAlikeHere 95 = .ok (.iload 5, 2) := by decide +kernel
theorem dX3_areAlikeHere_97 : decode cX3_areAlikeHere 97 = .ok (.invokevirtual 52, 3) := by decide +kernel
theorem dX3_areAlikeHere_100 : decode cX3_areAlikeHere 100 = .ok (.invokevirtual 99, 3) := by decide +kernel
theorem dX3_areAlikeHere_103 : decode cX3_areAlikeHere 103 = .ok (.istore 4, 2) := by decide +kernel
theorem dX3_areAlikeHere_105 : decode cX3_areAlikeHere 105 = .ok (.iinc 5 1, 3) := by decide +kernel
theorem dX3_areAlikeHere_108 : decode cX3_areAlikeHere 108 = .ok (.goto (-39), 3) := by decide +kernel
theorem dX3_areAlikeHere_111 : decode cX3_areAlikeHere 111 = .ok (.iload 4, 2) := by decide +kernel
theorem dX3_areAlikeHere_113 : decode cX3_areAlikeHere 113 = .ok (.ireturn, 1) := by decide +kernel
theorem dX3_setBeside_0 : decode cX3_setBeside 0 = .ok (.iload_n 1, 1) := by decide +kernel
theorem dX3_setBeside_1 : decode cX3_setBeside 1 = .ok (.ifCond .lt 19, 3) := by decide +kernel
theorem dX3_setBeside_4 : decode cX3_setBeside 4 = .ok (.iload_n 2, 1) := by decide +kernel
theorem dX3_setBeside_5 : decode cX3_setBeside 5 = .ok (.ifCond .lt 15, 3) := by decide +kernel
theorem dX3_setBeside_8 : decode cX3_setBeside 8 = .ok (.iload_n 1, 1) := by decide +kernel
theorem dX3_setBeside_9 : decode cX3_setBeside 9 = .ok (.bipush 80, 2) := by decide +kernel
theorem dX3_setBeside_11 : decode cX3_setBeside 11 = .ok (.if_icmp .ge 9, 3) := by decide +kernel
theorem dX3_setBeside_14 : decode cX3_setBeside 14 = .ok (.iload_n 2, 1) := by decide +kernel
theorem dX3_setBeside_15 : decode cX3_setBeside 15 = .ok (.bipush 80, 2) := by decide +kernel
theorem dX3_setBeside_17 : decode cX3_setBeside 17 = .ok (.if_icmp .lt 14, 3) := by decide +kernel
theorem dX3_setBeside_20 : decode cX3_setBeside 20 = .ok (.iload_n 1, 1) := by decide +kernel
theorem dX3_setBeside_21 : decode cX3_setBeside 21 = .ok (.iload_n 2, 1) := by decide +kernel
theorem dX3_setBeside_22 : decode cX3_setBeside 22 = .ok (.if_icmp .ne 7, 3) := by decide +kernel
theorem dX3_setBeside_25 : decode cX3_setBeside 25 = .ok (.iconst 1, 1) := by decide +kernel
theorem dX3_setBeside_26 : decode cX3_setBeside 26 = .ok (.goto 4, 3) := by decide +kernel
theorem dX3_setBeside_29 : decode cX3_setBeside 29 = .ok (.iconst 0, 1) := by decide +kernel
theorem dX3_setBeside_30 : decode cX3_setBeside 30 = .ok (.ireturn, 1) := by decide +kernel
theorem dX3_setBeside_31 : decode cX3_setBeside 31 = .ok (.aload_n 0, 1) := by decide +kernel
theorem dX3_setBeside_32 : decode cX3_setBeside 32 = .ok (.getfield 27, 3) := by decide +kernel
theorem dX3_setBeside_35 : decode cX3_setBeside 35 = .ok (.iload_n 1, 1) := by decide +kernel
theorem dX3_setBeside_36 : decode cX3_setBeside 36 = .ok (.iaload, 1) := by decide +kernel
theorem dX3_setBeside_37 : decode cX3_setBeside 37 = .ok (.iconst (-1), 1) := by decide +kernel
theorem dX3_setBeside_38 : decode cX3_setBeside 38 = .ok (.if_icmp .ne 13, 3) := by decide +kernel
theorem dX3_setBeside_41 : decode cX3_setBeside 41 = .ok (.aload_n 0, 1) := by decide +kernel
theorem dX3_setBeside_42 : decode cX3_setBeside 42 = .ok (.getfield 30, 3) := by decide +kernel
theorem dX3_setBeside_45 : decode cX3_setBeside 45 = .ok (.iload_n 2, 1) := by decide +kernel
theorem dX3_setBeside_46 : decode cX3_setBeside 46 = .ok (.iaload, 1) := by decide +kernel
theorem dX3_setBeside_47 : decode cX3_setBeside 47 = .ok (.iconst (-1), 1) := by decide +kernel
theorem dX3_setBeside_48 : decode cX3_setBeside 48 = .ok (.if_icmp .eq 29, 3) := by decide +kernel
theorem dX3_setBeside_51 : decode cX3_setBeside 51 = .ok (.aload_n 0, 1) := by decide +kernel
theorem dX3_setBeside_52 : decode cX3_setBeside 52 = .ok (.getfield 27, 3) := by decide +kernel
theorem dX3_setBeside_55 : decode cX3_setBeside 55 = .ok (.iload_n 1, 1) := by decide +kernel
theorem dX3_setBeside_56 : decode cX3_setBeside 56 = .ok (.iaload, 1) := by decide +kernel
theorem dX3_setBeside_57 : decode cX3_setBeside 57 = .ok (.iload_n 2, 1) := by decide +kernel
theorem dX3_setBeside_58 : decode cX3_setBeside 58 = .ok (.if_icmp .ne 17, 3) := by decide +kernel
theorem dX3_setBeside_61 : decode cX3_setBeside 61 = .ok (.aload_n 0, 1) := by decide +kernel
theorem dX3_setBeside_62 : decode cX3_setBeside 62 = .ok (.getfield 30, 3) := by decide +kernel
theorem dX3_setBeside_65 : decode cX3_setBeside 65 = .ok (.iload_n 2, 1) := by decide +kernel
theorem dX3_setBeside_66 : decode cX3_setBeside 66 = .ok (.iaload, 1) := by decide +kernel
theorem dX3_setBeside_67 : decode cX3_setBeside 67 = .ok (.iload_n 1, 1) := by decide +kernel
theorem dX3_setBeside_68 : decode cX3_setBeside 68 = .ok (.if_icmp .ne 7, 3) := by decide +kernel
theorem dX3_setBeside_71 : decode cX3_setBeside 71 = .ok (.iconst 1, 1) := by decide +kernel
theorem dX3_setBeside_72 : decode cX3_setBeside 72 = .ok (.goto 4, 3) := by decide +kernel
theorem dX3_setBeside_75 : decode cX3_setBeside 75 = .ok (.iconst 0, 1) := by decide +kernel
theorem dX3_setBeside_76 : decode cX3_setBeside 76 = .ok (.ireturn, 1) := by decide +kernel
theorem dX3_setBeside_77 : decode cX3_setBeside 77 = .ok (.aload_n 0, 1) := by decide +kernel
theorem dX3_setBeside_78 : decode cX3_setBeside 78 = .ok (.getfield 27, 3) := by decide +kernel
theorem dX3_setBeside_81 : decode cX3_setBeside 81 = .ok (.iload_n 1, 1) := by decide +kernel
theorem dX3_setBeside_82 : decode cX3_setBeside 82 = .ok (.iload_n 2, 1) := by decide +kernel
theorem dX3_setBeside_83 : decode cX3_setBeside 83 = .ok (.iastore, 1) := by decide +kernel
theorem dX3_setBeside_84 : decode cX3_setBeside 84 = .ok (.aload_n 0, 1) := by decide +kernel
theorem dX3_setBeside_85 : decode cX3_setBeside 85 = .ok (.getfield 30, 3) := by decide +kernel
theorem dX3_setBeside_88 : decode cX3_setBeside 88 = .ok (.iload_n 2, 1) := by decide +kernel
theorem dX3_setBeside_89 : decode cX3_setBeside 89 = .ok (.iload_n 1, 1) := by decide +kernel
theorem dX3_setBeside_90 : decode cX3_setBeside 90 = .ok (.iastore, 1) := by decide +kernel
theorem dX3_setBeside_91 : decode cX3_setBeside 91 = .ok (.aload_n 0, 1) := by decide +kernel
theorem dX3_setBeside_92 : decode cX3_setBeside 92 = .ok (.getfield 15, 3) := by decide +kernel
theorem dX3_setBeside_95 : decode cX3_setBeside 95 = .ok (.aload_n 0, 1) := by decide +kernel
theorem dX3_setBeside_96 : decode cX3_setBeside 96 = .ok (.getfield 39, 3) := by decide +kernel
theorem dX3_setBeside_99 : decode cX3_setBeside 99 = .ok (.iload_n 1, 1) := by decide +kernel
theorem dX3_setBeside_100 : decode cX3_setBeside 100 = .ok (.iastore, 1) := by decide +kernel
theorem dX3_setBeside_101 : decode cX3_setBeside 101 = .ok (.aload_n 0, 1) := by decide +kernel
theorem dX3_setBeside_102 : decode cX3_setBeside 102 = .ok (.dup, 1) := by decide +kernel
theorem dX3_setBeside_103 : decode cX3_setBeside 103 = .ok (.getfield 39, 3) := by decide +kernel
theorem dX3_setBeside_106 : decode cX3_setBeside 106 = .ok (.iconst 1, 1) := by decide +kernel
theorem dX3_setBeside_107 : decode cX3_setBeside 107 = .ok (.iadd, 1) := by decide +kernel
theorem dX3_setBeside_108 : decode cX3_setBeside 108 = .ok (.putfield 39, 3) := by decide +kernel
theorem dX3_setBeside_111 : decode cX3_setBeside 111 = .ok (.iconst 1, 1) := by decide +kernel
theorem dX3_setBeside_112 : decode cX3_setBeside 112 = .ok (.ireturn, 1) := by decide +kernel
theorem dX7_init_0 : decode cX7_init 0 = .ok (.aload_n 0, 1) := by decide +kernel
theorem dX7_init_1 : decode cX7_init 1 = .ok (.invokespecial 3, 3) := by decide +kernel
theorem dX7_init_4 : decode cX7_init 4 = .ok (.aload_n 0, 1) := by decide +kernel
theorem dX7_init_5 : decode cX7_init 5 = .ok (.bipush 80, 2) := by decide +kernel
theorem dX7_init_7 : decode cX7_init 7 = .ok (.newarray .int, 2) := by decide +kernel
theorem dX7_init_9 : decode cX7_init 9 = .ok (.putfield 9, 3) := by decide +kernel
theorem dX7_init_12 : decode cX7_init 12 = .ok (.aload_n 0, 1) := by decide +kernel
theorem dX7_init_13 : decode cX7_init 13 = .ok (.bipush 80, 2) := by decide +kernel
theorem dX7_init_15 : decode cX7_init 15 = .ok (.newarray .int, 2) := by decide +kernel
theorem dX7_init_17 : decode cX7_init 17 = .ok (.putfield 15, 3) := by decide +kernel
theorem dX7_init_20 : decode cX7_init 20 = .ok (.aload_n 0, 1) := by decide +kernel
theorem dX7_init_21 : decode cX7_init 21 = .ok (.bipush 80, 2) := by decide +kernel
theorem dX7_init_23 : decode cX7_init 23 = .ok (.newarray .int, 2) := by decide +kernel
theorem dX7_init_25 : decode cX7_init 25 = .ok (.putfield 18, 3) := by decide +kernel
theorem dX7_init_28 : decode cX7_init 28 = .ok (.aload_n 0, 1) := by decide +kernel
theorem dX7_init_29 : decode cX7_init 29 = .ok (.bipush 80, 2) := by decide +kernel
theorem dX7_init_31 : decode cX7_init 31 = .ok (.newarray .int, 2) := by decide +kernel
theorem dX7_init_33 : decode cX7_init 33 = .ok (.putfield 21, 3) := by decide +kernel
theorem dX7_init_36 : decode cX7_init 36 = .ok (.aload_n 0, 1) := by decide +kernel
theorem dX7_init_37 : decode cX7_init 37 = .ok (.bipush 80, 2) := by decide +kernel
theorem dX7_init_39 : decode cX7_init 39 = .ok (.newarray .int, 2) := by decide +kernel
theorem dX7_init_41 : decode cX7_init 41 = .ok (.putfield 24, 3) := by decide +kernel
theorem dX7_init_44 : decode cX7_init 44 = .ok (.aload_n 0, 1) := by decide +kernel
theorem dX7_init_45 : decode cX7_init 45 = .ok (.bipush 80, 2) := by decide +kernel
theorem dX7_init_47 : decode cX7_init 47 = .ok (.newarray .int, 2) := by decide +kernel
theorem dX7_init_49 : decode cX7_init 49 = .ok (.putfield 27, 3) := by decide +kernel
theorem dX7_init_52 : decode cX7_init 52 = .ok (.aload_n 0, 1) := by decide +kernel
theorem dX7_init_53 : decode cX7_init 53 = .ok (.bipush 80, 2) := by decide +kernel
theorem dX7_init_55 : decode cX7_init 55 = .ok (.newarray .int, 2) := by decide +kernel
theorem dX7_init_57 : decode cX7_init 57 = .ok (.putfield 30, 3) := by decide +kernel
theorem dX7_init_60 : decode cX7_init 60 = .ok (.aload_n 0, 1) := by decide +kernel
theorem dX7_init_61 : decode cX7_init 61 = .ok (.sipush 320, 3) := by decide +kernel
theorem dX7_init_64 : decode cX7_init 64 = .ok (.newarray .int, 2) := by decide +kernel
theorem dX7_init_66 : decode cX7_init 66 = .ok (.putfield 33, 3) := by decide +kernel
theorem dX7_init_69 : decode cX7_init 69 = .ok (.aload_n 0, 1) := by decide +kernel
theorem dX7_init_70 : decode cX7_init 70 = .ok (.bipush 8, 2) := by decide +kernel
theorem dX7_init_72 : decode cX7_init 72 = .ok (.newarray .int, 2) := by decide +kernel
theorem dX7_init_74 : decode cX7_init 74 = .ok (.putfield 36, 3) := by decide +kernel
theorem dX7_init_77 : decode cX7_init 77 = .ok (.aload_n 0, 1) := by decide +kernel
theorem dX7_init_78 : decode cX7_init 78 = .ok (.iconst 3, 1) := by decide +kernel
theorem dX7_init_79 : decode cX7_init 79 = .ok (.newarray .int, 2) := by decide +kernel
theorem dX7_init_81 : decode cX7_init 81 = .ok (.putfield 39, 3) := by decide +kernel
theorem dX7_init_84 : decode cX7_init 84 = .ok (.aload_n 0, 1) := by decide +kernel
theorem dX7_init_85 : decode cX7_init 85 = .ok (.bipush 8, 2) := by decide +kernel
theorem dX7_init_87 : decode cX7_init 87 = .ok (.newarray .int, 2) := by decide +kernel
theorem dX7_init_89 : decode cX7_init 89 = .ok (.putfield 42, 3) := by decide +kernel
theorem dX7_init_92 : decode cX7_init 92 = .ok (.aload_n 0, 1) := by decide +kernel
theorem dX7_init_93 : decode cX7_init 93 = .ok (.new 45, 3) := by decide +kernel
theorem dX7_init_96 : decode cX7_init 96 = .ok (.dup, 1) := by decide +kernel
theorem dX7_init_97 : decode cX7_init 97 = .ok (.bipush 80, 2) := by decide +kernel
theorem dX7_init_99 : decode cX7_init 99 = .ok (.invokespecial 47, 3) := by decide +kernel
theorem dX7_init_102 : decode cX7_init 102 = .ok (.putfield 50, 3) := by decide +kernel
theorem dX7_init_105 : decode cX7_init 105 = .ok (.aload_n 0, 1) := by decide +kernel
theorem dX7_init_106 : decode cX7_init 106 = .ok (.new 45, 3) := by decide +kernel
theorem dX7_init_109 : decode cX7_init 109 = .ok (.dup, 1) := by decide +kernel
theorem dX7_init_110 : decode cX7_init 110 = .ok (.bipush 40, 2) := by decide +kernel
theorem dX7_init_112 : decode cX7_init 112 = .ok (.invokespecial 47, 3) := by decide +kernel
theorem dX7_init_115 : decode cX7_init 115 = .ok (.putfield 54, 3) := by decide +kernel
theorem dX7_init_118 : decode cX7_init 118 = .ok (.aload_n 0, 1) := by decide +kernel
theorem dX7_init_119 : decode cX7_init 119 = .ok (.new 45, 3) := by decide +kernel
theorem dX7_init_122 : decode cX7_init 122 = .ok (.dup, 1) := by decide +kernel
theorem dX7_init_123 : decode cX7_init 123 = .ok (.bipush 80, 2) := by decide +kernel
theorem dX7_init_125 : decode cX7_init 125 = .ok (.invokespecial 47, 3) := by decide +kernel
theorem dX7_init_128 : decode cX7_init 128 = .ok (.putfield 57, 3) := by decide +kernel
theorem dX7_init_131 : decode cX7_init 131 = .ok (.aload_n 0, 1) := by decide +kernel
theorem dX7_init_132 : decode cX7_init 132 = .ok (.new 45, 3) := by decide +kernel
theorem dX7_init_135 : decode cX7_init 135 = .ok (.dup, 1) := by decide +kernel
theorem dX7_init_136 : decode cX7_init 136 = .ok (.bipush 60, 2) := by decide +kernel
theorem dX7_init_138 : decode cX7_init 138 = .ok (.invokespecial 47, 3) := by decide +kernel
theorem dX7_init_141 : decode cX7_init 141 = .ok (.putfield 60, 3) := by decide +kernel
theorem dX7_init_144 : decode cX7_init 144 = .ok (.aload_n 0, 1) := by decide +kernel
theorem dX7_init_145 : decode cX7_init 145 = .ok (.new 45, 3) := by decide +kernel
theorem dX7_init_148 : decode cX7_init 148 = .ok (.dup, 1) := by decide +kernel
theorem dX7_init_149 : decode cX7_init 149 = .ok (.bipush 60, 2) := by decide +kernel
theorem dX7_init_151 : decode cX7_init 151 = .ok (.invokespecial 47, 3) := by decide +kernel
theorem dX7_init_154 : decode cX7_init 154 = .ok (.putfield 63, 3) := by decide +kernel
theorem dX7_init_157 : decode cX7_init 157 = .ok (.aload_n 0, 1) := by decide +kernel
theorem dX7_init_158 : decode cX7_init 158 = .ok (.new 45, 3) := by decide +kernel
theorem dX7_init_161 : decode cX7_init 161 = .ok (.dup, 1) := by decide +kernel
theorem dX7_init_162 : decode cX7_init 162 = .ok (.bipush 60, 2) := by decide +kernel
theorem dX7_init_164 : decode cX7_init 164 = .ok (.invokespecial 47, 3) := by decide +kernel
theorem dX7_init_167 : decode cX7_init 167 = .ok (.putfield 66, 3) := by decide +kernel
theorem dX7_init_170 : decode cX7_init 170 = .ok (.aload_n 0, 1) := by decide +kernel
theorem dX7_init_171 : decode cX7_init 171 = .ok (.getfield 36, 3) := by decide +kernel
theorem dX7_init_174 : decode cX7_init 174 = .ok (.iconst (-1), 1) := by decide +kernel
theorem dX7_init_175 : decode cX7_init 175 = .ok (.invokestatic 69, 3) := by decide +kernel
theorem dX7_init_178 : decode cX7_init 178 = .ok (.return_, 1) := by decide +kernel
theorem dX7_clear_0 : decode cX7_clear 0 = .ok (.aload_n 0, 1) := by decide +kernel
theorem dX7_clear_1 : decode cX7_clear 1 = .ok (.iconst 0, 1) := by decide +kernel
theorem dX7_clear_2 : decode cX7_clear 2 = .ok (.putfield 75, 3) := by decide +kernel
theorem dX7_clear_5 : decode cX7_clear 5 = .ok (.aload_n 0, 1) := by decide +kernel
theorem dX7_clear_6 : decode cX7_clear 6 = .ok (.iconst 0, 1) := by decide +kernel
theorem dX7_clear_7 : decode cX7_clear 7 = .ok (.putfield 79, 3) := by decide +kernel
theorem dX7_clear_10 : decode cX7_clear 10 = .ok (.aload_n 0, 1) := by decide +kernel
theorem dX7_clear_11 : decode cX7_clear 11 = .ok (.getfield 36, 3) := by decide +kernel
theorem dX7_clear_14 : decode cX7_clear 14 = .ok (.iconst (-1), 1) := by decide +kernel
theorem dX7_clear_15 : decode cX7_clear 15 = .ok (.invokestatic 69, 3) := by decide +kernel
theorem dX7_clear_18 : decode cX7_clear 18 = .ok (.aload_n 0, 1) := by decide +kernel
theorem dX7_clear_19 : decode cX7_clear 19 = .ok (.getfield 39, 3) := by decide +kernel
theorem dX7_clear_22 : decode cX7_clear 22 = .ok (.iconst 0, 1) := by decide +kernel
theorem dX7_clear_23 : decode cX7_clear 23 = .ok (.invokestatic 69, 3) := by decide +kernel
theorem dX7_clear_26 : decode cX7_clear 26 = .ok (.aload_n 0, 1) := by decide +kernel
theorem dX7_clear_27 : decode cX7_clear 27 = .ok (.getfield 42, 3) := by decide +kernel
theorem dX7_clear_30 : decode cX7_clear 30 = .ok (.iconst 0, 1) := by decide +kernel
theorem dX7_clear_31 : decode cX7_clear 31 = .ok (.invokestatic 69, 3) := by decide +kernel
theorem dX7_clear_34 : decode cX7_clear 34 = .ok (.aload_n 0, 1) := by decide +kernel
theorem dX7_clear_35 : decode cX7_clear 35 = .ok (.getfield 50, 3) := by decide +kernel
theorem dX7_clear_38 : decode cX7_clear 38 = .ok (.iconst 0, 1) := by decide +kernel
theorem dX7_clear_39 : decode cX7_clear 39 = .ok (.putfield 82, 3) := by decide +kernel
theorem dX7_clear_42 : decode cX7_clear 42 = .ok (.aload_n 0, 1) := by decide +kernel
theorem dX7_clear_43 : decode cX7_clear 43 = .ok (.getfield 54, 3) := by decide +kernel
theorem dX7_clear_46 : decode cX7_clear 46 = .ok (.iconst 0, 1) := by decide +kernel
theorem dX7_clear_47 : decode cX7_clear 47 = .ok (.putfield 82, 3) := by decide +kernel
theorem dX7_clear_50 : decode cX7_clear 50 = .ok (.aload_n 0, 1) := by decide +kernel
theorem dX7_clear_51 : decode cX7_clear 51 = .ok (.getfield 57, 3) := by decide +kernel
theorem dX7_clear_54 : decode cX7_clear 54 = .ok (.iconst 0, 1) := by decide +kernel
theorem dX7_clear_55 : decode cX7_clear 55 = .ok (.putfield 82, 3) := by decide +kernel
theorem dX7_clear_58 : decode cX7_clear 58 = .ok (.aload_n 0, 1) := by decide +kernel
theorem dX7_clear_59 : decode cX7_clear 59 = .ok (.getfield 60, 3) := by decide +kernel
theorem dX7_clear_62 : decode cX7_clear 62 = .ok (.iconst 0, 1) := by decide +kernel
theorem dX7_clear_63 : decode cX7_clear 63 = .ok (.putfield 82, 3) := by decide +kernel
theorem dX7_clear_66 : decode cX7_clear 66 = .ok (.aload_n 0, 1) := by decide +kernel
theorem dX7_clear_67 : decode cX7_clear 67 = .ok (.getfield 63, 3) := by decide +kernel
theorem dX7_clear_70 : decode cX7_clear 70 = .ok (.iconst 0, 1) := by decide +kernel
theorem dX7_clear_71 : decode cX7_clear 71 = .ok (.putfield 82, 3) := by decide +kernel
theorem dX7_clear_74 : decode cX7_clear 74 = .ok (.aload_n 0, 1) := by decide +kernel
theorem dX7_clear_75 : decode cX7_clear 75 = .ok (.getfield 66, 3) := by decide +kernel
theorem dX7_clear_78 : decode cX7_clear 78 = .ok (.iconst 0, 1) := by decide +kernel
theorem dX7_clear_79 : decode cX7_clear 79 = .ok (.putfield 82, 3) := by decide +kernel
theorem dX7_clear_82 : decode cX7_clear 82 = .ok (.return_, 1) := by decide +kernel
theorem dX7_copyFrom_0 : decode cX7_copyFrom 0 = .ok (.aload_n 0, 1) := by decide +kernel
theorem dX7_copyFrom_1 : decode cX7_copyFrom 1 = .ok (.aload_n 1, 1) := by decide +kernel
theorem dX7_copyFrom_2 : decode cX7_copyFrom 2 = .ok (.getfield 75, 3) := by decide +kernel
theorem dX7_copyFrom_5 : decode cX7_copyFrom 5 = .ok (.putfield 75, 3) := by decide +kernel
theorem dX7_copyFrom_8 : decode cX7_copyFrom 8 = .ok (.aload_n 0, 1) := by decide +kernel
theorem dX7_copyFrom_9 : decode cX7_copyFrom 9 = .ok (.aload_n 1, 1) := by decide +kernel
theorem dX7_copyFrom_10 : decode cX7_copyFrom 10 = .ok (.getfield 79, 3) := by decide +kernel
theorem dX7_copyFrom_13 : decode cX7_copyFrom 13 = .ok (.putfield 79, 3) := by decide +kernel
theorem dX7_copyFrom_16 : decode cX7_copyFrom 16 = .ok (.aload_n 1, 1) := by decide +kernel
theorem dX7_copyFrom_17 : decode cX7_copyFrom 17 = .ok (.getfield 9, 3) := by decide +kernel
theorem dX7_copyFrom_20 : decode cX7_copyFrom 20 = .ok (.iconst 0, 1) := by decide +kernel
theorem dX7_copyFrom_21 : decode cX7_copyFrom 21 = .ok (.aload_n 0, 1) := by decide +kernel
theorem dX7_copyFrom_22 : decode cX7_copyFrom 22 = .ok (.getfield 9, 3) := by decide +kernel
theorem dX7_copyFrom_25 : decode cX7_copyFrom 25 = .ok (.iconst 0, 1) := by decide +kernel
theorem dX7_copyFrom_26 : decode cX7_copyFrom 26 = .ok (.aload_n 0, 1) := by decide +kernel
theorem dX7_copyFrom_27 : decode cX7_copyFrom 27 = .ok (.getfield 75, 3) := by decide +kernel
theorem dX7_copyFrom_30 : decode cX7_copyFrom 30 = .ok (.invokestatic 85, 3) := by decide +kernel
theorem dX7_copyFrom_33 : decode cX7_copyFrom 33 = .ok (.aload_n 1, 1) := by decide +kernel
theorem dX7_copyFrom_34 : decode cX7_copyFrom 34 = .ok (.getfield 15, 3) := by decide +kernel
theorem dX7_copyFrom_37 : decode cX7_copyFrom 37 = .ok (.iconst 0, 1) := by decide +kernel
theorem dX7_copyFrom_38 : decode cX7_copyFrom 38 = .ok (.aload_n 0, 1) := by decide +kernel
theorem dX7_copyFrom_39 : decode cX7_copyFrom 39 = .ok (.getfield 15, 3) := by decide +kernel
theorem dX7_copyFrom_42 : decode cX7_copyFrom 42 = .ok (.iconst 0, 1) := by decide +kernel
theorem dX7_copyFrom_43 : decode cX7_copyFrom 43 = .ok (.aload_n 0, 1) := by decide +kernel
theorem dX7_copyFrom_44 : decode cX7_copyFrom 44 = .ok (.getfield 75, 3) := by decide +kernel
theorem dX7_copyFrom_47 : decode cX7_copyFrom 47 = .ok (.invokestatic 85, 3) := by decide +kernel
theorem dX7_copyFrom_50 : decode cX7_copyFrom 50 = .ok (.aload_n 1, 1) := by decide +kernel
theorem dX7_copyFrom_51 : decode cX7_copyFrom 51 = .ok (.getfield 18, 3) := by decide +kernel
theorem dX7_copyFrom_54 : decode cX7_copyFrom 54 = .ok (.iconst 0, 1) := by decide +kernel
theorem dX7_copyFrom_55 : decode cX7_copyFrom 55 = .ok (.aload_n 0, 1) := by decide +kernel
theorem dX7_copyFrom_56 : decode cX7_copyFrom 56 = .ok (.getfield 18, 3) := by decide +kernel
theorem dX7_copyFrom_59 : decode cX7_copyFrom 59 = .ok (.iconst 0, 1) := by decide +kernel
theorem dX7_copyFrom_60 : decode cX7_copyFrom 60 = .ok (.aload_n 0, 1) := by decide +kernel
theorem dX7_copyFrom_61 : decode cX7_copyFrom 61 = .ok (.getfield 75, 3) := by decide +kernel
theorem dX7_copyFrom_64 : decode cX7_copyFrom 64 = .ok (.invokestatic 85, 3) := by decide +kernel
theorem dX7_copyFrom_67 : decode cX7_copyFrom 67 = .ok (.aload_n 1, 1) := by decide +kernel
theorem dX7_copyFrom_68 : decode cX7_copyFrom 68 = .ok (.getfield 21, 3) := by decide +kernel
theorem dX7_copyFrom_71 : decode cX7_copyFrom 71 = .ok (.iconst 0, 1) := by decide +kernel
theorem dX7_copyFrom_72 : decode cX7_copyFrom 72 = .ok (.aload_n 0, 1) := by decide +kernel
theorem dX7_copyFrom_73 : decode cX7_copyFrom 73 = .ok (.getfield 21, 3) := by decide +kernel
theorem dX7_copyFrom_76 : decode cX7_copyFrom 76 = .ok (.iconst 0, 1) := by decide +kernel
theorem dX7_copyFrom_77 : decode cX7_copyFrom 77 = .ok (.aload_n 0, 1) := by decide +kernel
theorem dX7_copyFrom_78 : decode cX7_copyFrom 78 = .ok (.getfield 75, 3) := by decide +kernel
theorem dX7_copyFrom_81 : decode cX7_copyFrom 81 = .ok (.invokestatic 85, 3) := by decide +kernel
theorem dX7_copyFrom_84 : decode cX7_copyFrom 84 = .ok (.aload_n 1, 1) := by decide +kernel
theorem dX7_copyFrom_85 : decode cX7_copyFrom 85 = .ok (.getfield 24, 3) := by decide +kernel
theorem dX7_copyFrom_88 : decode cX7_copyFrom 88 = .ok (.iconst 0, 1) := by decide +kernel
theorem dX7_copyFrom_89 : decode cX7_copyFrom 89 = .ok (.aload_n 0, 1) := by decide +kernel
theorem dX7_copyFrom_90 : decode cX7_copyFrom 90 = .ok (.getfield 24, 3) := by decide +kernel
theorem dX7_copyFrom_93 : decode cX7_copyFrom 93 = .ok (.iconst 0, 1) := by decide +kernel
theorem dX7_copyFrom_94 : decode cX7_copyFrom 94 = .ok (.aload_n 0, 1) := by decide +kernel
theorem dX7_copyFrom_95 : decode cX7_copyFrom 95 = .ok (.getfield 75, 3) := by decide +kernel
theorem dX7_copyFrom_98 : decode cX7_copyFrom 98 = .ok (.invokestatic 85, 3) := by decide +kernel
theorem dX7_copyFrom_101 : decode cX7_copyFrom 101 = .ok (.aload_n 1, 1) := by decide +kernel
theorem dX7_copyFrom_102 : decode cX7_copyFrom 102 = .ok (.getfield 27, 3) := by decide +kernel
theorem dX7_copyFrom_105 : decode cX7_copyFrom 105 = .ok (.iconst 0, 1) := by decide +kernel
theorem dX7_copyFrom_106 : decode cX7_copyFrom 106 = .ok (.aload_n 0, 1) := by decide +kernel
theorem dX7_copyFrom_107 : decode cX7_copyFrom 107 = .ok (.getfield 27, 3) := by decide +kernel
theorem dX7_copyFrom_110 : decode cX7_copyFrom 110 = .ok (.iconst 0, 1) := by decide +kernel
theorem dX7_copyFrom_111 : decode cX7_copyFrom 111 = .ok (.aload_n 0, 1) := by decide +kernel
theorem dX7_copyFrom_112 : decode cX7_copyFrom 112 = .ok (.getfield 75, 3) := by decide +kernel
theorem dX7_copyFrom_115 : decode cX7_copyFrom 115 = .ok (.invokestatic 85, 3) := by decide +kernel
theorem dX7_copyFrom_118 : decode cX7_copyFrom 118 = .ok (.aload_n 1, 1) := by decide +kernel
theorem dX7_copyFrom_119 : decode cX7_copyFrom 119 = .ok (.getfield 30, 3) := by decide +kernel
theorem dX7_copyFrom_122 : decode cX7_copyFrom 122 = .ok (.iconst 0, 1) := by decide +kernel
theorem dX7_copyFrom_123 : decode cX7_copyFrom 123 = .ok (.aload_n 0, 1) := by decide +kernel
theorem dX7_copyFrom_124 : decode cX7_copyFrom 124 = .ok (.getfield 30, 3) := by decide +kernel
theorem dX7_copyFrom_127 : decode cX7_copyFrom 127 = .ok (.iconst 0, 1) := by decide +kernel
theorem dX7_copyFrom_128 : decode cX7_copyFrom 128 = .ok (.aload_n 0, 1) := by decide +kernel
theorem dX7_copyFrom_129 : decode cX7_copyFrom 129 = .ok (.getfield 75, 3) := by decide +kernel
theorem dX7_copyFrom_132 : decode cX7_copyFrom 132 = .ok (.invokestatic 85, 3) := by decide +kernel
theorem dX7_copyFrom_135 : decode cX7_copyFrom 135 = .ok (.aload_n 1, 1) := by decide +kernel
theorem dX7_copyFrom_136 : decode cX7_copyFrom 136 = .ok (.getfield 33, 3) := by decide +kernel
theorem dX7_copyFrom_139 : decode cX7_copyFrom 139 = .ok (.iconst 0, 1) := by decide +kernel
theorem dX7_copyFrom_140 : decode cX7_copyFrom 140 = .ok (.aload_n 0, 1) := by decide +kernel
theorem dX7_copyFrom_141 : decode cX7_copyFrom 141 = .ok (.getfield 33, 3) := by decide +kernel
theorem dX7_copyFrom_144 : decode cX7_copyFrom 144 = .ok (.iconst 0, 1) := by decide +kernel
theorem dX7_copyFrom_145 : decode cX7_copyFrom 145 = .ok (.aload_n 0, 1) := by decide +kernel
theorem dX7_copyFrom_146 : decode cX7_copyFrom 146 = .ok (.getfield 75, 3) := by decide +kernel
theorem dX7_copyFrom_149 : decode cX7_copyFrom 149 = .ok (.iconst 4, 1) := by decide +kernel
theorem dX7_copyFrom_150 : decode cX7_copyFrom 150 = .ok (.imul, 1) := by decide +kernel
theorem dX7_copyFrom_151 : decode cX7_copyFrom 151 = .ok (.invokestatic 85, 3) := by decide +kernel
theorem dX7_copyFrom_154 : decode cX7_copyFrom 154 = .ok (.aload_n 1, 1) := by decide +kernel
theorem dX7_copyFrom_155 : decode cX7_copyFrom 155 = .ok (.getfield 36, 3) := by decide +kernel
theorem dX7_copyFrom_158 : decode cX7_copyFrom 158 = .ok (.iconst 0, 1) := by decide +kernel
theorem dX7_copyFrom_159 : decode cX7_copyFrom 159 = .ok (.aload_n 0, 1) := by decide +kernel
theorem dX7_copyFrom_160 : decode cX7_copyFrom 160 = .ok (.getfield 36, 3) := by decide +kernel
theorem dX7_copyFrom_163 : decode cX7_copyFrom 163 = .ok (.iconst 0, 1) := by decide +kernel
theorem dX7_copyFrom_164 : decode cX7_copyFrom 164 = .ok (.bipush 8, 2) := by decide +kernel
theorem dX7_copyFrom_166 : decode cX7_copyFrom 166 = .ok (.invokestatic 85, 3) := by decide +kernel
theorem dX7_copyFrom_169 : decode cX7_copyFrom 169 = .ok (.aload_n 1, 1) := by decide +kernel
theorem dX7_copyFrom_170 : decode cX7_copyFrom 170 = .ok (.getfield 39, 3) := by decide +kernel
theorem dX7_copyFrom_173 : decode cX7_copyFrom 173 = .ok (.iconst 0, 1) := by decide +kernel
theorem dX7_copyFrom_174 : decode cX7_copyFrom 174 = .ok (.aload_n 0, 1) := by decide +kernel
theorem dX7_copyFrom_175 : decode cX7_copyFrom 175 = .ok (.getfield 39, 3) := by decide +kernel
theorem dX7_copyFrom_178 : decode cX7_copyFrom 178 = .ok (.iconst 0, 1) := by decide +kernel
theorem dX7_copyFrom_179 : decode cX7_copyFrom 179 = .ok (.iconst 3, 1) := by decide +kernel
theorem dX7_copyFrom_180 : decode cX7_copyFrom 180 = .ok (.invokestatic 85, 3) := by decide +kernel
theorem dX7_copyFrom_183 : decode cX7_copyFrom 183 = .ok (.aload_n 1, 1) := by decide +kernel
theorem dX7_copyFrom_184 : decode cX7_copyFrom 184 = .ok (.getfield 42, 3) := by decide +kernel
theorem dX7_copyFrom_187 : decode cX7_copyFrom 187 = .ok (.iconst 0, 1) := by decide +kernel
theorem dX7_copyFrom_188 : decode cX7_copyFrom 188 = .ok (.aload_n 0, 1) := by decide +kernel
theorem dX7_copyFrom_189 : decode cX7_copyFrom 189 = .ok (.getfield 42, 3) := by decide +kernel
theorem dX7_copyFrom_192 : decode cX7_copyFrom 192 = .ok (.iconst 0, 1) := by decide +kernel
theorem dX7_copyFrom_193 : decode cX7_copyFrom 193 = .ok (.bipush 8, 2) := by decide +kernel
theorem dX7_copyFrom_195 : decode cX7_copyFrom 195 = .ok (.invokestatic 85, 3) := by decide +kernel
theorem dX7_copyFrom_198 : decode cX7_copyFrom 198 = .ok (.aload_n 0, 1) := by decide +kernel
theorem dX7_copyFrom_199 : decode cX7_copyFrom 199 = .ok (.getfield 50, 3) := by decide +kernel
theorem dX7_copyFrom_202 : decode cX7_copyFrom 202 = .ok (.aload_n 1, 1) := by decide +kernel
theorem dX7_copyFrom_203 : decode cX7_copyFrom 203 = .ok (.getfield 50, 3) := by decide +kernel
theorem dX7_copyFrom_206 : decode cX7_copyFrom 206 = .ok (.invokevirtual 91, 3) := by decide +kernel
theorem dX7_copyFrom_209 : decode cX7_copyFrom 209 = .ok (.aload_n 0, 1) := by decide +kernel
theorem dX7_copyFrom_210 : decode cX7_copyFrom 210 = .ok (.getfield 54, 3) := by decide +kernel
theorem dX7_copyFrom_213 : decode cX7_copyFrom 213 = .ok (.aload_n 1, 1) := by decide +kernel
theorem dX7_copyFrom_214 : decode cX7_copyFrom 214 = .ok (.getfield 54, 3) := by decide +kernel
theorem dX7_copyFrom_217 : decode cX7_copyFrom 217 = .ok (.invokevirtual 91, 3) := by decide +kernel
theorem dX7_copyFrom_220 : decode cX7_copyFrom 220 = .ok (.aload_n 0, 1) := by decide +kernel
theorem dX7_copyFrom_221 : decode cX7_copyFrom 221 = .ok (.getfield 57, 3) := by decide +kernel
theorem dX7_copyFrom_224 : decode cX7_copyFrom 224 = .ok (.aload_n 1, 1) := by decide +kernel
theorem dX7_copyFrom_225 : decode cX7_copyFrom 225 = .ok (.getfield 57, 3) := by decide +kernel
theorem dX7_copyFrom_228 : decode cX7_copyFrom 228 = .ok (.invokevirtual 91, 3) := by decide +kernel
theorem dX7_copyFrom_231 : decode cX7_copyFrom 231 = .ok (.aload_n 0, 1) := by decide +kernel
theorem dX7_copyFrom_232 : decode cX7_copyFrom 232 = .ok (.getfield 60, 3) := by decide +kernel
theorem dX7_copyFrom_235 : decode cX7_copyFrom 235 = .ok (.aload_n 1, 1) := by decide +kernel
theorem dX7_copyFrom_236 : decode cX7_copyFrom 236 = .ok (.getfield 60, 3) := by decide +kernel
theorem dX7_copyFrom_239 : decode cX7_copyFrom 239 = .ok (.invokevirtual 91, 3) := by decide +kernel
theorem dX7_copyFrom_242 : decode cX7_copyFrom 242 = .ok (.aload_n 0, 1) := by decide +kernel
theorem dX7_copyFrom_243 : decode cX7_copyFrom 243 = .ok (.getfield 63, 3) := by decide +kernel
theorem dX7_copyFrom_246 : decode cX7_copyFrom 246 = .ok (.aload_n 1, 1) := by decide +kernel
theorem dX7_copyFrom_247 : decode cX7_copyFrom 247 = .ok (.getfield 63, 3) := by decide +kernel
theorem dX7_copyFrom_250 : decode cX7_copyFrom 250 = .ok (.invokevirtual 91, 3) := by decide +kernel
theorem dX7_copyFrom_253 : decode cX7_copyFrom 253 = .ok (.aload_n 0, 1) := by decide +kernel
theorem dX7_copyFrom_254 : decode cX7_copyFrom 254 = .ok (.getfield 66, 3) := by decide +kernel
theorem dX7_copyFrom_257 : decode cX7_copyFrom 257 = .ok (.aload_n 1, 1) := by decide +kernel
theorem dX7_copyFrom_258 : decode cX7_copyFrom 258 = .ok (.getfield 66, 3) := by decide +kernel
theorem dX7_copyFrom_261 : decode cX7_copyFrom 261 = .ok (.invokevirtual 91, 3) := by decide +kernel
theorem dX7_copyFrom_264 : decode cX7_copyFrom 264 = .ok (.return_, 1) := by decide +kernel
theorem dX7_isSlot_0 : decode cX7_isSlot 0 = .ok (.iload_n 1, 1) := by decide +kernel
theorem dX7_isSlot_1 : decode cX7_isSlot 1 = .ok (.ifCond .lt 15, 3) := by decide +kernel
theorem dX7_isSlot_4 : decode cX7_isSlot 4 = .ok (.iload_n 1, 1) := by decide +kernel
theorem dX7_isSlot_5 : decode cX7_isSlot 5 = .ok (.aload_n 0, 1) := by decide +kernel
theorem dX7_isSlot_6 : decode cX7_isSlot 6 = .ok (.getfield 75, 3) := by decide +kernel
theorem dX7_isSlot_9 : decode cX7_isSlot 9 = .ok (.if_icmp .ge 7, 3) := by decide +kernel
theorem dX7_isSlot_12 : decode cX7_isSlot 12 = .ok (.iconst 1, 1) := by decide +kernel
theorem dX7_isSlot_13 : decode cX7_isSlot 13 = .ok (.goto 4, 3) := by decide +kernel
theorem dX7_isSlot_16 : decode cX7_isSlot 16 = .ok (.iconst 0, 1) := by decide +kernel
theorem dX7_isSlot_17 : decode cX7_isSlot 17 = .ok (.ireturn, 1) := by decide +kernel
theorem dX7_find_0 : decode cX7_find 0 = .ok (.iconst 0, 1) := by decide +kernel
theorem dX7_find_1 : decode cX7_find 1 = .ok (.istore_n 2, 1) := by decide +kernel
theorem dX7_find_2 : decode cX7_find 2 = .ok (.iload_n 2, 1) := by decide +kernel
theorem dX7_find_3 : decode cX7_find 3 = .ok (.aload_n 0, 1) := by decide +kernel
theorem dX7_find_4 : decode cX7_find 4 = .ok (.getfield 75, 3) := by decide +kernel
theorem dX7_find_7 : decode cX7_find 7 = .ok (.if_icmp .ge 21, 3) := by decide +kernel
theorem dX7_find_10 : decode cX7_find 10 = .ok (.aload_n 0, 1) := by decide +kernel
theorem dX7_find_11 : decode cX7_find 11 = .ok (.getfield 9, 3) := by decide +kernel
theorem dX7_find_14 : decode cX7_find 14 = .ok (.iload_n 2, 1) := by decide +kernel
theorem dX7_find_15 : decode cX7_find 15 = .ok (.iaload, 1) := by decide +kernel
theorem dX7_find_16 : decode cX7_find 16 = .ok (.iload_n 1, 1) := by decide +kernel
theorem dX7_find_17 : decode cX7_find 17 = .ok (.if_icmp .ne 5, 3) := by decide +kernel
theorem dX7_find_20 : decode cX7_find 20 = .ok (.iload_n 2, 1) := by decide +kernel
theorem dX7_find_21 : decode cX7_find 21 = .ok (.ireturn, 1) := by decide +kernel
theorem dX7_find_22 : decode cX7_find 22 = .ok (.iinc 2 1, 3) := by decide +kernel
theorem dX7_find_25 : decode cX7_find 25 = .ok (.goto (-23), 3) := by decide +kernel
theorem dX7_find_28 : decode cX7_find 28 = .ok (.iconst (-1), 1) := by decide +kernel
theorem dX7_find_29 : decode cX7_find 29 = .ok (.ireturn, 1) := by decide +kernel
theorem dX7_findAt_0 : decode cX7_findAt 0 = .ok (.iconst 0, 1) := by decide +kernel
theorem dX7_findAt_1 : decode cX7_findAt 1 = .ok (.istore_n 3, 1) := by decide +kernel
theorem dX7_findAt_2 : decode cX7_findAt 2 = .ok (.iload_n 3, 1) := by decide +kernel
theorem dX7_findAt_3 : decode cX7_findAt 3 = .ok (.aload_n 0, 1) := by decide +kernel
theorem dX7_findAt_4 : decode cX7_findAt 4 = .ok (.getfield 75, 3) := by decide +kernel
theorem dX7_findAt_7 : decode cX7_findAt 7 = .ok (.if_icmp .ge 47, 3) := by decide +kernel
theorem dX7_findAt_10 : decode cX7_findAt 10 = .ok (.aload_n 0, 1) := by decide +kernel
theorem dX7_findAt_11 : decode cX7_findAt 11 = .ok (.getfield 27, 3) := by decide +kernel
theorem dX7_findAt_14 : decode cX7_findAt 14 = .ok (.iload_n 3, 1) := by decide +kernel
theorem dX7_findAt_15 : decode cX7_findAt 15 = .ok (.iaload, 1) := by decide +kernel
theorem dX7_findAt_16 : decode cX7_findAt 16 = .ok (.iload_n 1, 1) := by decide +kernel
theorem dX7_findAt_17 : decode cX7_findAt 17 = .ok (.if_icmp .ne 31, 3) := by decide +kernel
theorem dX7_findAt_20 : decode cX7_findAt 20 = .ok (.aload_n 0, 1) := by decide +kernel
theorem dX7_findAt_21 : decode cX7_findAt 21 = .ok (.getfield 30, 3) := by decide +kernel
theorem dX7_findAt_24 : decode cX7_findAt 24 = .ok (.iload_n 3, 1) := by decide +kernel
theorem dX7_findAt_25 : decode cX7_findAt 25 = .ok (.iaload, 1) := by decide +kernel
theorem dX7_findAt_26 : decode cX7_findAt 26 = .ok (.iload_n 2, 1) := by decide +kernel
theorem dX7_findAt_27 : decode cX7_findAt 27 = .ok (.if_icmp .gt 21, 3) := by decide +kernel
theorem dX7_findAt_30 : decode cX7_findAt 30 = .ok (.iload_n 2, 1) := by decide +kernel
theorem dX7_findAt_31 : decode cX7_findAt 31 = .ok (.aload_n 0, 1) := by decide +kernel
theorem dX7_findAt_32 : decode cX7_findAt 32 = .ok (.getfield 30, 3) := by decide +kernel
theorem dX7_findAt_35 : decode cX7_findAt 35 = .ok (.iload_n 3, 1) := by decide +kernel
theorem dX7_findAt_36 : decode cX7_findAt 36 = .ok (.iaload, 1) := by decide +kernel
theorem dX7_findAt_37 : decode cX7_findAt 37 = .ok (.aload_n 0, 1) := by decide +kernel
theorem dX7_findAt_38 : decode cX7_findAt 38 = .ok (.iload_n 3, 1) := by decide +kernel
theorem dX7_findAt_39 : decode cX7_findAt 39 = .ok (.invokevirtual 95, 3) := by decide +kernel
theorem dX7_findAt_42 : decode cX7_findAt 42 = .ok (.iadd, 1) := by decide +kernel
theorem dX7_findAt_43 : decode cX7_findAt 43 = .ok (.if_icmp .ge 5, 3) := by decide +kernel
theorem dX7_findAt_46 : decode cX7_findAt 46 = .ok (.iload_n 3, 1) := by decide +kernel
theorem dX7_findAt_47 : decode cX7_findAt 47 = .ok (.ireturn, 1) := by decide +kernel
theorem dX7_findAt_48 : decode cX7_findAt 48 = .ok (.iinc 3 1, 3) := by decide +kernel
theorem dX7_findAt_51 : decode cX7_findAt 51 = .ok (.goto (-49), 3) := by decide +kernel
theorem dX7_findAt_54 : decode cX7_findAt 54 = .ok (.iconst (-1), 1) := by decide +kernel
theorem dX7_findAt_55 : decode cX7_findAt 55 = .ok (.ireturn, 1) := by decide +kernel
theorem dX7_numberOf_0 : decode cX7_numberOf 0 = .ok (.aload_n 0, 1) := by decide +kernel
theorem dX7_numberOf_1 : decode cX7_numberOf 1 = .ok (.iload_n 1, 1) := by decide +kernel
theorem dX7_numberOf_2 : decode cX7_numberOf 2 = .ok (.invokevirtual 99, 3) := by decide +kernel
theorem dX7_numberOf_5 : decode cX7_numberOf 5 = .ok (.ifCond .eq 12, 3) := by decide +kernel
theorem dX7_numberOf_8 : decode cX7_numberOf 8 = .ok (.aload_n 0, 1) := by decide +kernel
theorem dX7_numberOf_9 : decode cX7_numberOf 9 = .ok (.getfield 9, 3) := by decide +kernel
theorem dX7_numberOf_12 : decode cX7_numberOf 12 = .ok (.iload_n 1, 1) := by decide +kernel
theorem dX7_numberOf_13 : decode cX7_numberOf 13 = .ok (.iaload, 1) := by decide +kernel
theorem dX7_numberOf_14 : decode cX7_numberOf 14 = .ok (.goto 4, 3) := by decide +kernel
theorem dX7_numberOf_17 : decode cX7_numberOf 17 = .ok (.iconst 0, 1) := by decide +kernel
theorem dX7_numberOf_18 : decode cX7_numberOf 18 = .ok (.ireturn, 1) := by decide +kernel
theorem dX7_cells_0 : decode cX7_cells 0 = .ok (.iload_n 1, 1) := by decide +kernel
theorem dX7_cells_1 : decode cX7_cells 1 = .ok (.ifCond .lt 22, 3) := by decide +kernel
theorem dX7_cells_4 : decode cX7_cells 4 = .ok (.iload_n 1, 1) := by decide +kernel
theorem dX7_cells_5 : decode cX7_cells 5 = .ok (.aload_n 0, 1) := by decide +kernel
theorem dX7_cells_6 : decode cX7_cells 6 = .ok (.getfield 75, 3) := by decide +kernel
theorem dX7_cells_9 : decode cX7_cells 9 = .ok (.if_icmp .ge 14, 3) := by decide +kernel
theorem dX7_cells_12 : decode cX7_cells 12 = .ok (.iconst 3, 1) := by decide +kernel
theorem dX7_cells_13 : decode cX7_cells 13 = .ok (.aload_n 0, 1) := by decide +kernel
theorem dX7_cells_14 : decode cX7_cells 14 = .ok (.getfield 18, 3) := by decide +kernel
theorem dX7_cells_17 : decode cX7_cells 17 = .ok (.iload_n 1, 1) := by decide +kernel
theorem dX7_cells_18 : decode cX7_cells 18 = .ok (.iaload, 1) := by decide +kernel
theorem dX7_cells_19 : decode cX7_cells 19 = .ok (.iadd, 1) := by decide +kernel
theorem dX7_cells_20 : decode cX7_cells 20 = .ok (.goto 4, 3) := by decide +kernel
theorem dX7_cells_23 : decode cX7_cells 23 = .ok (.iconst 0, 1) := by decide +kernel
theorem dX7_cells_24 : decode cX7_cells 24 = .ok (.ireturn, 1) := by decide +kernel
theorem dX7_isYoung_0 : decode cX7_isYoung 0 = .ok (.iload_n 1, 1) := by decide +kernel
theorem dX7_isYoung_1 : decode cX7_isYoung 1 = .ok (.ifCond .lt 25, 3) := by decide +kernel
theorem dX7_isYoung_4 : decode cX7_isYoung 4 = .ok (.iload_n 1, 1) := by decide +kernel
theorem dX7_isYoung_5 : decode cX7_isYoung 5 = .ok (.aload_n 0, 1) := by decide +kernel
theorem dX7_isYoung_6 : decode cX7_isYoung 6 = .ok (.getfield 75, 3) := by decide +kernel
theorem dX7_isYoung_9 : decode cX7_isYoung 9 = .ok (.if_icmp .ge 17, 3) := by decide +kernel
theorem dX7_isYoung_12 : decode cX7_isYoung 12 = .ok (.aload_n 0, 1) := by decide +kernel
theorem dX7_isYoung_13 : decode cX7_isYoung 13 = .ok (.getfield 27, 3) := by decide +kernel
theorem dX7_isYoung_16 : decode cX7_isYoung 16 = .ok (.iload_n 1, 1) := by decide +kernel
theorem dX7_isYoung_17 : decode cX7_isYoung 17 = .ok (.iaload, 1) := by decide +kernel
theorem dX7_isYoung_18 : decode cX7_isYoung 18 = .ok (.iconst 2, 1) := by decide +kernel
theorem dX7_isYoung_19 : decode cX7_isYoung 19 = .ok (.if_icmp .eq 7, 3) := by decide +kernel
theorem dX7_isYoung_22 : decode cX7_isYoung 22 = .ok (.iconst 1, 1) := by decide +kernel
theorem dX7_isYoung_23 : decode cX7_isYoung 23 = .ok (.goto 4, 3) := by decide +kernel
theorem dX7_isYoung_26 : decode cX7_isYoung 26 = .ok (.iconst 0, 1) := by decide +kernel
theorem dX7_isYoung_27 : decode cX7_isYoung 27 = .ok (.ireturn, 1) := by decide +kernel
theorem dX7_isWeak_0 : decode cX7_isWeak 0 = .ok (.iload_n 1, 1) := by decide +kernel
theorem dX7_isWeak_1 : decode cX7_isWeak 1 = .ok (.ifCond .lt 25, 3) := by decide +kernel
theorem dX7_isWeak_4 : decode cX7_isWeak 4 = .ok (.iload_n 1, 1) := by decide +kernel
theorem dX7_isWeak_5 : decode cX7_isWeak 5 = .ok (.aload_n 0, 1) := by decide +kernel
theorem dX7_isWeak_6 : decode cX7_isWeak 6 = .ok (.getfield 75, 3) := by decide +kernel
theorem dX7_isWeak_9 : decode cX7_isWeak 9 = .ok (.if_icmp .ge 17, 3) := by decide +kernel
theorem dX7_isWeak_12 : decode cX7_isWeak 12 = .ok (.aload_n 0, 1) := by decide +kernel
theorem dX7_isWeak_13 : decode cX7_isWeak 13 = .ok (.getfield 15, 3) := by decide +kernel
theorem dX7_isWeak_16 : decode cX7_isWeak 16 = .ok (.iload_n 1, 1) := by decide +kernel
theorem dX7_isWeak_17 : decode cX7_isWeak 17 = .ok (.iaload, 1) := by decide +kernel
theorem dX7_isWeak_18 : decode cX7_isWeak 18 = .ok (.iconst 1, 1) := by decide +kernel
theorem dX7_isWeak_19 : decode cX7_isWeak 19 = .ok (.if_icmp .ne 7, 3) := by decide +kernel
theorem dX7_isWeak_22 : decode cX7_isWeak 22 = .ok (.iconst 1, 1) := by decide +kernel
theorem dX7_isWeak_23 : decode cX7_isWeak 23 = .ok (.goto 4, 3) := by decide +kernel
theorem dX7_isWeak_26 : decode cX7_isWeak 26 = .ok (.iconst 0, 1) := by decide +kernel
theorem dX7_isWeak_27 : decode cX7_isWeak 27 = .ok (.ireturn, 1) := by decide +kernel
theorem dX7_firstStrong_0 : decode cX7_firstStrong 0 = .ok (.iload_n 1, 1) := by decide +kernel
theorem dX7_firstStrong_1 : decode cX7_firstStrong 1 = .ok (.ifCond .lt 25, 3) := by decide +kernel
theorem dX7_firstStrong_4 : decode cX7_firstStrong 4 = .ok (.iload_n 1, 1) := by decide +kernel
theorem dX7_firstStrong_5 : decode cX7_firstStrong 5 = .ok (.aload_n 0, 1) := by decide +kernel
theorem dX7_firstStrong_6 : decode cX7_firstStrong 6 = .ok (.getfield 75, 3) := by decide +kernel
theorem dX7_firstStrong_9 : decode cX7_firstStrong 9 = .ok (.if_icmp .ge 17, 3) := by decide +kernel
theorem dX7_firstStrong_12 : decode cX7_firstStrong 12 = .ok (.aload_n 0, 1) := by decide +kernel
theorem dX7_firstStrong_13 : decode cX7_firstStrong 13 = .ok (.getfield 15, 3) := by decide +kernel
theorem dX7_firstStrong_16 : decode cX7_firstStrong 16 = .ok (.iload_n 1, 1) := by decide +kernel
theorem dX7_firstStrong_17 : decode cX7_firstStrong 17 = .ok (.iaload, 1) := by decide +kernel
theorem dX7_firstStrong_18 : decode cX7_firstStrong 18 = .ok (.iconst 1, 1) := by decide +kernel
theorem dX7_firstStrong_19 : decode cX7_firstStrong 19 = .ok (.if_icmp .ne 7, 3) := by decide +kernel
theorem dX7_firstStrong_22 : decode cX7_firstStrong 22 = .ok (.iconst 1, 1) := by decide +kernel
theorem dX7_firstStrong_23 : decode cX7_firstStrong 23 = .ok (.goto 4, 3) := by decide +kernel
theorem dX7_firstStrong_26 : decode cX7_firstStrong 26 = .ok (.iconst 0, 1) := by decide +kernel
theorem dX7_firstStrong_27 : decode cX7_firstStrong 27 = .ok (.ireturn, 1) := by decide +kernel
theorem dX7_fieldsOf_0 : decode cX7_fieldsOf 0 = .ok (.iload_n 1, 1) := by decide +kernel
theorem dX7_fieldsOf_1 : decode cX7_fieldsOf 1 = .ok (.ifCond .lt 20, 3) := by decide +kernel
theorem dX7_fieldsOf_4 : decode cX7_fieldsOf 4 = .ok (.iload_n 1, 1) := by decide +kernel
theorem dX7_fieldsOf_5 : decode cX7_fieldsOf 5 = .ok (.aload_n 0, 1) := by decide +kernel
theorem dX7_fieldsOf_6 : decode cX7_fieldsOf 6 = .ok (.getfield 75, 3) := by decide +kernel
theorem dX7_fieldsOf_9 : decode cX7_fieldsOf 9 = .ok (.if_icmp .ge 12, 3) := by decide +kernel
theorem dX7_fieldsOf_12 : decode cX7_fieldsOf 12 = .ok (.aload_n 0, 1) := by decide +kernel
theorem dX7_fieldsOf_13 : decode cX7_fieldsOf 13 = .ok (.getfield 18, 3) := by decide +kernel
theorem dX7_fieldsOf_16 : decode cX7_fieldsOf 16 = .ok (.iload_n 1, 1) := by decide +kernel
theorem dX7_fieldsOf_17 : decode cX7_fieldsOf 17 = .ok (.iaload, 1) := by decide +kernel
theorem dX7_fieldsOf_18 : decode cX7_fieldsOf 18 = .ok (.goto 4, 3) := by decide +kernel
theorem dX7_fieldsOf_21 : decode cX7_fieldsOf 21 = .ok (.iconst 0, 1) := by decide +kernel
theorem dX7_fieldsOf_22 : decode cX7_fieldsOf 22 = .ok (.ireturn, 1) := by decide +kernel
theorem dX7_target_0 : decode cX7_target 0 = .ok (.iload_n 1, 1) := by decide +kernel
theorem dX7_target_1 : decode cX7_target 1 = .ok (.ifCond .lt 25, 3) := by decide +kernel
theorem dX7_target_4 : decode cX7_target 4 = .ok (.iload_n 1, 1) := by decide +kernel
theorem dX7_target_5 : decode cX7_target 5 = .ok (.aload_n 0, 1) := by decide +kernel
theorem dX7_target_6 : decode cX7_target 6 = .ok (.getfield 75, 3) := by decide +kernel
theorem dX7_target_9 : decode cX7_target 9 = .ok (.if_icmp .ge 17, 3) := by decide +kernel
theorem dX7_target_12 : decode cX7_target 12 = .ok (.iload_n 2, 1) := by decide +kernel
theorem dX7_target_13 : decode cX7_target 13 = .ok (.ifCond .lt 13, 3) := by decide +kernel
theorem dX7_target_16 : decode cX7_target 16 = .ok (.iload_n 2, 1) := by decide +kernel
theorem dX7_target_17 : decode cX7_target 17 = .ok (.aload_n 0, 1) := by decide +kernel
theorem dX7_target_18 : decode cX7_target 18 = .ok (.getfield 18, 3) := by decide +kernel
theorem dX7_target_21 : decode cX7_target 21 = .ok (.iload_n 1, 1) := by decide +kernel
theorem dX7_target_22 : decode cX7_target 22 = .ok (.iaload, 1) := by decide +kernel
theorem dX7_target_23 : decode cX7_target 23 = .ok (.if_icmp .lt 5, 3) := by decide +kernel
theorem dX7_target_26 : decode cX7_target 26 = .ok (.iconst (-1), 1) := by decide +kernel
theorem dX7_target_27 : decode cX7_target 27 = .ok (.ireturn, 1) := by decide +kernel
theorem dX7_target_28 : decode cX7_target 28 = .ok (.aload_n 0, 1) := by decide +kernel
theorem dX7_target_29 : decode cX7_target 29 = .ok (.getfield 33, 3) := by decide +kernel
theorem dX7_target_32 : decode cX7_target 32 = .ok (.iload_n 1, 1) := by decide +kernel
theorem dX7_target_33 : decode cX7_target 33 = .ok (.iconst 4, 1) := by decide +kernel
theorem dX7_target_34 : decode cX7_target 34 = .ok (.imul, 1) := by decide +kernel
theorem dX7_target_35 : decode cX7_target 35 = .ok (.iload_n 2, 1) := by decide +kernel
theorem dX7_target_36 : decode cX7_target 36 = .ok (.iadd, 1) := by decide +kernel
theorem dX7_target_37 : decode cX7_target 37 = .ok (.iaload, 1) := by decide +kernel
theorem dX7_target_38 : decode cX7_target 38 = .ok (.ireturn, 1) := by decide +kernel
theorem dX7_hasField_0 : decode cX7_hasField 0 = .ok (.iload_n 1, 1) := by decide +kernel
theorem dX7_hasField_1 : decode cX7_hasField 1 = .ok (.ifCond .lt 29, 3) := by decide +kernel
theorem dX7_hasField_4 : decode cX7_hasField 4 = .ok (.iload_n 1, 1) := by decide +kernel
theorem dX7_hasField_5 : decode cX7_hasField 5 = .ok (.aload_n 0, 1) := by decide +kernel
theorem dX7_hasField_6 : decode cX7_hasField 6 = .ok (.getfield 75, 3) := by decide +kernel
theorem dX7_hasField_9 : decode cX7_hasField 9 = .ok (.if_icmp .ge 21, 3) := by decide +kernel
theorem dX7_hasField_12 : decode cX7_hasField 12 = .ok (.iload_n 2, 1) := by decide +kernel
theorem dX7_hasField_13 : decode cX7_hasField 13 = .ok (.ifCond .lt 17, 3) := by decide +kernel
theorem dX7_hasField_16 : decode cX7_hasField 16 = .ok (.iload_n 2, 1) := by decide +kernel
theorem dX7_hasField_17 : decode cX7_hasField 17 = .ok (.aload_n 0, 1) := by decide +kernel
theorem dX7_hasField_18 : decode cX7_hasField 18 = .ok (.getfield 18, 3) := by decide +kernel
theorem dX7_hasField_21 : decode cX7_hasField 21 = .ok (.iload_n 1, 1) := by decide +kernel
theorem dX7_hasField_22 : decode cX7_hasField 22 = .ok (.iaload, 1) := by decide +kernel
theorem dX7_hasField_23 : decode cX7_hasField 23 = .ok (.if_icmp .ge 7, 3) := by decide +kernel
theorem dX7_hasField_26 : decode cX7_hasField 26 = .ok (.iconst 1, 1) := by decide +kernel
theorem dX7_hasField_27 : decode cX7_hasField 27 = .ok (.goto 4, 3) := by decide +kernel
theorem dX7_hasField_30 : decode cX7_hasField 30 = .ok (.iconst 0, 1) := by decide +kernel
theorem dX7_hasField_31 : decode cX7_hasField 31 = .ok (.ireturn, 1) := by decide +kernel
theorem dX7_setTarget_0 : decode cX7_setTarget 0 = .ok (.aload_n 0, 1) := by decide +kernel
theorem dX7_setTarget_1 : decode cX7_setTarget 1 = .ok (.iload_n 1, 1) := by decide +kernel
theorem dX7_setTarget_2 : decode cX7_setTarget 2 = .ok (.iload_n 2, 1) := by decide +kernel
theorem dX7_setTarget_3 : decode cX7_setTarget 3 = .ok (.invokevirtual 103, 3) := by decide +kernel
theorem dX7_setTarget_6 : decode cX7_setTarget 6 = .ok (.ifCond .eq 14, 3) := by decide +kernel
theorem dX7_setTarget_9 : decode cX7_setTarget 9 = .ok (.aload_n 0, 1) := by decide +kernel
theorem dX7_setTarget_10 : decode cX7_setTarget 10 = .ok (.getfield 33, 3) := by decide +kernel
theorem dX7_setTarget_13 : decode cX7_setTarget 13 = .ok (.iload_n 1, 1) := by decide +kernel
theorem dX7_setTarget_14 : decode cX7_setTarget 14 = .ok (.iconst 4, 1) := by decide +kernel
theorem dX7_setTarget_15 : decode cX7_setTarget 15 = .ok (.imul, 1) := by decide +kernel
theorem dX7_setTarget_16 : decode cX7_setTarget 16 = .ok (.iload_n 2, 1) := by decide +kernel
theorem dX7_setTarget_17 : decode cX7_setTarget 17 = .ok (.iadd, 1) := by decide +kernel
theorem dX7_setTarget_18 : decode cX7_setTarget 18 = .ok (.iload_n 3, 1) := by decide +kernel
theorem dX7_setTarget_19 : decode cX7_setTarget 19 = .ok (.iastore, 1) := by decide +kernel
theorem dX7_setTarget_20 : decode cX7_setTarget 20 = .ok (.return_, 1) := by decide +kernel
theorem dX7_cellsInUse_0 : decode cX7_cellsInUse 0 = .ok (.aload_n 0, 1) := by decide +kernel
theorem dX7_cellsInUse_1 : decode cX7_cellsInUse 1 = .ok (.getfield 39, 3) := by decide +kernel
theorem dX7_cellsInUse_4 : decode cX7_cellsInUse 4 = .ok (.iconst 0, 1) := by decide +kernel
theorem dX7_cellsInUse_5 : decode cX7_cellsInUse 5 = .ok (.iaload, 1) := by decide +kernel
theorem dX7_cellsInUse_6 : decode cX7_cellsInUse 6 = .ok (.aload_n 0, 1) := by decide +kernel
theorem dX7_cellsInUse_7 : decode cX7_cellsInUse 7 = .ok (.getfield 39, 3) := by decide +kernel
theorem dX7_cellsInUse_10 : decode cX7_cellsInUse 10 = .ok (.iconst 1, 1) := by decide +kernel
theorem dX7_cellsInUse_11 : decode cX7_cellsInUse 11 = .ok (.iaload, 1) := by decide +kernel
theorem dX7_cellsInUse_12 : decode cX7_cellsInUse 12 = .ok (.iadd, 1) := by decide +kernel
theorem dX7_cellsInUse_13 : decode cX7_cellsInUse 13 = .ok (.aload_n 0, 1) := by decide +kernel
theorem dX7_cellsInUse_14 : decode cX7_cellsInUse 14 = .ok (.getfield 39, 3) := by decide +kernel
theorem dX7_cellsInUse_17 : decode cX7_cellsInUse 17 = .ok (.iconst 2, 1) := by decide +kernel
theorem dX7_cellsInUse_18 : decode cX7_cellsInUse 18 = .ok (.iaload, 1) := by decide +kernel
theorem dX7_cellsInUse_19 : decode cX7_cellsInUse 19 = .ok (.iadd, 1) := by decide +kernel
theorem dX7_cellsInUse_20 : decode cX7_cellsInUse 20 = .ok (.ireturn, 1) := by decide +kernel
theorem dX7_greatestAge_0 : decode cX7_greatestAge 0 = .ok (.iconst 0, 1) := by decide +kernel
theorem dX7_greatestAge_1 : decode cX7_greatestAge 1 = .ok (.istore_n 1, 1) := by decide +kernel
theorem dX7_greatestAge_2 : decode cX7_greatestAge 2 = .ok (.iconst 0, 1) := by decide +kernel
theorem dX7_greatestAge_3 : decode cX7_greatestAge 3 = .ok (.istore_n 2, 1) := by decide +kernel
theorem dX7_greatestAge_4 : decode cX7_greatestAge 4 = .ok (.iload_n 2, 1) := by decide +kernel
theorem dX7_greatestAge_5 : decode cX7_greatestAge 5 = .ok (.aload_n 0, 1) := by decide +kernel
theorem dX7_greatestAge_6 : decode cX7_greatestAge 6 = .ok (.getfield 75, 3) := by decide +kernel
theorem dX7_greatestAge_9 : decode cX7_greatestAge 9 = .ok (.if_icmp .ge 20, 3) := by decide +kernel
theorem dX7_greatestAge_12 : decode cX7_greatestAge 12 = .ok (.iload_n 1, 1) := by decide +kernel
theorem dX7_greatestAge_13 : decode cX7_greatestAge 13 = .ok (.aload_n 0, 1) := by decide +kernel
theorem dX7_greatestAge_14 : decode cX7_greatestAge 14 = .ok (.getfield 24, 3) := by decide +kernel
theorem dX7_greatestAge_17 : decode cX7_greatestAge 17 = .ok (.iload_n 2, 1) := by decide +kernel
theorem dX7_greatestAge_18 : decode cX7_greatestAge 18 = .ok (.iaload, 1) := by decide +kernel
theorem dX7_greatestAge_19 : decode cX7_greatestAge 19 = .ok (.invokestatic 107, 3) := by decide +kernel
theorem dX7_greatestAge_22 : decode cX7_greatestAge 22 = .ok (.istore_n 1, 1) := by decide +kernel
theorem dX7_greatestAge_23 : decode cX7_greatestAge 23 = .ok (.iinc 2 1, 3) := by decide +kernel
theorem dX7_greatestAge_26 : decode cX7_greatestAge 26 = .ok (.goto (-22), 3) := by decide +kernel
theorem dX7_greatestAge_29 : decode cX7_greatestAge 29 = .ok (.iload_n 1, 1) := by decide +kernel
theorem dX7_greatestAge_30 : decode cX7_greatestAge 30 = .ok (.ireturn, 1) := by decide +kernel
theorem dX7_linkedRoots_0 : decode cX7_linkedRoots 0 = .ok (.iconst 0, 1) := by decide +kernel
theorem dX7_linkedRoots_1 : decode cX7_linkedRoots 1 = .ok (.istore_n 1, 1) := by decide +kernel
theorem dX7_linkedRoots_2 : decode cX7_linkedRoots 2 = .ok (.iconst 0, 1) := by decide +kernel
theorem dX7_linkedRoots_3 : decode cX7_linkedRoots 3 = .ok (.istore_n 2, 1) := by decide +kernel
theorem dX7_linkedRoots_4 : decode cX7_linkedRoots 4 = .ok (.iload_n 2, 1) := by decide +kernel
theorem dX7_linkedRoots_5 : decode cX7_linkedRoots 5 = .ok (.bipush 8, 2) := by decide +kernel
theorem dX7_linkedRoots_7 : decode cX7_linkedRoots 7 = .ok (.if_icmp .ge 25, 3) := by decide +kernel
theorem dX7_linkedRoots_10 : decode cX7_linkedRoots 10 = .ok (.aload_n 0, 1) := by decide +kernel
theorem dX7_linkedRoots_11 : decode cX7_linkedRoots 11 = .ok (.getfield 36, 3) := by decide +kernel
theorem dX7_linkedRoots_14 : decode cX7_linkedRoots 14 = .ok (.iload_n 2, 1) := by decide +kernel
theorem dX7_linkedRoots_15 : decode cX7_linkedRoots 15 = .ok (.iaload, 1) := by decide +kernel
theorem dX7_linkedRoots_16 : decode cX7_linkedRoots 16 = .ok (.iconst (-1), 1) := by decide +kernel
theorem dX7_linkedRoots_17 : decode cX7_linkedRoots 17 = .ok (.if_icmp .eq 9, 3) := by decide +kernel
theorem dX7_linkedRoots_20 : decode cX7_linkedRoots 20 = .ok (.iload_n 1, 1) := by decide +kernel
theorem dX7_linkedRoots_21 : decode cX7_linkedRoots 21 = .ok (.iconst 1, 1) := by decide +kernel
theorem dX7_linkedRoots_22 : decode cX7_linkedRoots 22 = .ok (.iload_n 2, 1) := by decide +kernel
theorem dX7_linkedRoots_23 : decode cX7_linkedRoots 23 = .ok (.ishl, 1) := by decide +kernel
theorem dX7_linkedRoots_24 : decode cX7_linkedRoots 24 = .ok (.ior, 1) := by decide +kernel
theorem dX7_linkedRoots_25 : decode cX7_linkedRoots 25 = .ok (.istore_n 1, 1) := by decide +kernel
theorem dX7_linkedRoots_26 : decode cX7_linkedRoots 26 = .ok (.iinc 2 1, 3) := by decide +kernel
theorem dX7_linkedRoots_29 : decode cX7_linkedRoots 29 = .ok (.goto (-25), 3) := by decide +kernel
theorem dX7_linkedRoots_32 : decode cX7_linkedRoots 32 = .ok (.iload_n 1, 1) := by decide +kernel
theorem dX7_linkedRoots_33 : decode cX7_linkedRoots 33 = .ok (.ireturn, 1) := by decide +kernel
theorem dX7_note_0 : decode cX7_note 0 = .ok (.aload_n 0, 1) := by decide +kernel
theorem dX7_note_1 : decode cX7_note 1 = .ok (.getfield 60, 3) := by decide +kernel
theorem dX7_note_4 : decode cX7_note 4 = .ok (.iload_n 1, 1) := by decide +kernel
theorem dX7_note_5 : decode cX7_note 5 = .ok (.invokevirtual 113, 3) := by decide +kernel
theorem dX7_note_8 : decode cX7_note 8 = .ok (.aload_n 0, 1) := by decide +kernel
theorem dX7_note_9 : decode cX7_note 9 = .ok (.getfield 63, 3) := by decide +kernel
theorem dX7_note_12 : decode cX7_note 12 = .ok (.iload_n 2, 1) := by decide +kernel
theorem dX7_note_13 : decode cX7_note 13 = .ok (.invokevirtual 113, 3) := by decide +kernel
theorem dX7_note_16 : decode cX7_note 16 = .ok (.aload_n 0, 1) := by decide +kernel
theorem dX7_note_17 : decode cX7_note 17 = .ok (.getfield 66, 3) := by decide +kernel
theorem dX7_note_20 : decode cX7_note 20 = .ok (.aload_n 0, 1) := by decide +kernel
theorem dX7_note_21 : decode cX7_note 21 = .ok (.invokevirtual 116, 3) := by decide +kernel
theorem dX7_note_24 : decode cX7_note 24 = .ok (.invokevirtual 113, 3) := by decide +kernel
theorem dX7_note_27 : decode cX7_note 27 = .ok (.return_, 1) := by decide +kernel
theorem dX7_addObject_0 : decode cX7_addObject 0 = .ok (.aload_n 0, 1) := by decide +kernel
theorem dX7_addObject_1 : decode cX7_addObject 1 = .ok (.getfield 75, 3) := by decide +kernel
theorem dX7_addObject_4 : decode cX7_addObject 4 = .ok (.bipush 80, 2) := by decide +kernel
theorem dX7_addObject_6 : decode cX7_addObject 6 = .ok (.if_icmp .lt 5, 3) := by decide +kernel
theorem dX7_addObject_9 : decode cX7_addObject 9 = .ok (.iconst (-1), 1) := by decide +kernel
theorem dX7_addObject_10 : decode cX7_addObject 10 = .ok (.ireturn, 1) := by decide +kernel
theorem dX7_addObject_11 : decode cX7_addObject 11 = .ok (.aload_n 0, 1) := by decide +kernel
theorem dX7_addObject_12 : decode cX7_addObject 12 = .ok (.getfield 75, 3) := by decide +kernel
theorem dX7_addObject_15 : decode cX7_addObject 15 = .ok (.istore 4, 2) := by decide +kernel
theorem dX7_addObject_17 : decode cX7_addObject 17 = .ok (.aload_n 0, 1) := by decide +kernel
theorem dX7_addObject_18 : decode cX7_addObject 18 = .ok (.dup, 1) := by decide +kernel
theorem dX7_addObject_19 : decode cX7_addObject 19 = .ok (.getfield 75, 3) := by decide +kernel
theorem dX7_addObject_22 : decode cX7_addObject 22 = .ok (.iconst 1, 1) := by decide +kernel
theorem dX7_addObject_23 : decode cX7_addObject 23 = .ok (.iadd, 1) := by decide +kernel
theorem dX7_addObject_24 : decode cX7_addObject 24 = .ok (.putfield 75, 3) := by decide +kernel
theorem dX7_addObject_27 : decode cX7_addObject 27 = .ok (.aload_n 0, 1) := by decide +kernel
theorem dX7_addObject_28 : decode cX7_addObject 28 = .ok (.getfield 42, 3) := by decide +kernel
theorem dX7_addObject_31 : decode cX7_addObject 31 = .ok (.iconst 0, 1) := by decide +kernel
theorem dX7_addObject_32 : decode cX7_addObject 32 = .ok (.dup2, 1) := by decide +kernel
theorem dX7_addObject_33 : decode cX7_addObject 33 = .ok (.iaload, 1) := by decide +kernel
theorem dX7_addObject_34 : decode cX7_addObject 34 = .ok (.iconst 1, 1) := by decide +kernel
theorem dX7_addObject_35 : decode cX7_addObject 35 = .ok (.iadd, 1) := by decide +kernel
theorem dX7_addObject_36 : decode cX7_addObject 36 = .ok (.iastore, 1) := by decide +kernel
theorem dX7_addObject_37 : decode cX7_addObject 37 = .ok (.aload_n 0, 1) := by decide +kernel
theorem dX7_addObject_38 : decode cX7_addObject 38 = .ok (.getfield 9, 3) := by decide +kernel
theorem dX7_addObject_41 : decode cX7_addObject 41 = .ok (.iload 4, 2) := by decide +kernel
theorem dX7_addObject_43 : decode cX7_addObject 43 = .ok (.aload_n 0, 1) := by decide +kernel
theorem dX7_addObject_44 : decode cX7_addObject 44 = .ok (.getfield 42, 3) := by decide +kernel
theorem dX7_addObject_47 : decode cX7_addObject 47 = .ok (.iconst 0, 1) := by decide +kernel
theorem dX7_addObject_48 : decode cX7_addObject 48 = .ok (.iaload, 1) := by decide +kernel
theorem dX7_addObject_49 : decode cX7_addObject 49 = .ok (.iastore, 1) := by decide +kernel
theorem dX7_addObject_50 : decode cX7_addObject 50 = .ok (.aload_n 0, 1) := by decide +kernel
theorem dX7_addObject_51 : decode cX7_addObject 51 = .ok (.getfield 15, 3) := by decide +kernel
theorem dX7_addObject_54 : decode cX7_addObject 54 = .ok (.iload 4, 2) := by decide +kernel
theorem dX7_addObject_56 : decode cX7_addObject 56 = .ok (.iload_n 1, 1) := by decide +kernel
theorem dX7_addObject_57 : decode cX7_addObject 57 = .ok (.iastore, 1) := by decide +kernel
theorem dX7_addObject_58 : decode cX7_addObject 58 = .ok (.aload_n 0, 1) := by decide +kernel
theorem dX7_addObject_59 : decode cX7_addObject 59 = .ok (.getfield 18, 3) := by decide +kernel
theorem dX7_addObject_62 : decode cX7_addObject 62 = .ok (.iload 4, 2) := by decide +kernel
theorem dX7_addObject_64 : decode cX7_addObject 64 = .ok (.iload_n 2, 1) := by decide +kernel
theorem dX7_addObject_65 : decode cX7_addObject 65 = .ok (.iastore, 1) := by decide +kernel
theorem dX7_addObject_66 : decode cX7_addObject 66 = .ok (.aload_n 0, 1) := by decide +kernel
theorem dX7_addObject_67 : decode cX7_addObject 67 = .ok (.getfield 21, 3) := by decide +kernel
theorem dX7_addObject_70 : decode cX7_addObject 70 = .ok (.iload 4, 2) := by decide +kernel
theorem dX7_addObject_72 : decode cX7_addObject 72 = .ok (.iload_n 3, 1) := by decide +kernel
theorem dX7_addObject_73 : decode cX7_addObject 73 = .ok (.iastore, 1) := by decide +kernel
theorem dX7_addObject_74 : decode cX7_addObject 74 = .ok (.aload_n 0, 1) := by decide +kernel
theorem dX7_addObject_75 : decode cX7_addObject 75 = .ok (.getfield 24, 3) := by decide +kernel
theorem dX7_addObject_78 : decode cX7_addObject 78 = .ok (.iload 4, 2) := by decide +kernel
theorem dX7_addObject_80 : decode cX7_addObject 80 = .ok (.iconst 0, 1) := by decide +kernel
theorem dX7_addObject_81 : decode cX7_addObject 81 = .ok (.iastore, 1) := by decide +kernel
theorem dX7_addObject_82 : decode cX7_addObject 82 = .ok (.aload_n 0, 1) := by decide +kernel
theorem dX7_addObject_83 : decode cX7_addObject 83 = .ok (.getfield 27, 3) := by decide +kernel
theorem dX7_addObject_86 : decode cX7_addObject 86 = .ok (.iload 4, 2) := by decide +kernel
theorem dX7_addObject_88 : decode cX7_addObject 88 = .ok (.iconst 0, 1) := by decide +kernel
theorem dX7_addObject_89 : decode cX7_addObject 89 = .ok (.iastore, 1) := by decide +kernel
theorem dX7_addObject_90 : decode cX7_addObject 90 = .ok (.aload_n 0, 1) := by decide +kernel
theorem dX7_addObject_91 : decode cX7_addObject 91 = .ok (.getfield 30, 3) := by decide +kernel
theorem dX7_addObject_94 : decode cX7_addObject 94 = .ok (.iload 4, 2) := by decide +kernel
theorem dX7_addObject_96 : decode cX7_addObject 96 = .ok (.aload_n 0, 1) := by decide +kernel
theorem dX7_addObject_97 : decode cX7_addObject 97 = .ok (.getfield 39, 3) := by decide +kernel
theorem dX7_addObject_100 : decode cX7_addObject 100 = .ok (.iconst 0, 1) := by decide +kernel
theorem dX7_addObject_101 : decode cX7_addObject 101 = .ok (.iaload, 1) := by decide +kernel
theorem dX7_addObject_102 : decode cX7_addObject 102 = .ok (.iastore, 1) := by decide +kernel
theorem dX7_addObject_103 : decode cX7_addObject 103 = .ok (.aload_n 0, 1) := by decide +kernel
theorem dX7_addObject_104 : decode cX7_addObject 104 = .ok (.getfield 39, 3) := by decide +kernel
theorem dX7_addObject_107 : decode cX7_addObject 107 = .ok (.iconst 0, 1) := by decide +kernel
theorem dX7_addObject_108 : decode cX7_addObject 108 = .ok (.dup2, 1) := by decide +kernel
theorem dX7_addObject_109 : decode cX7_addObject 109 = .ok (.iaload, 1) := by decide +kernel
theorem dX7_addObject_110 : decode cX7_addObject 110 = .ok (.aload_n 0, 1) := by decide +kernel
theorem dX7_addObject_111 : decode cX7_addObject 111 = .ok (.iload 4, 2) := by decide +kernel
theorem dX7_addObject_113 : decode cX7_addObject 113 = .ok (.invokevirtual 95, 3) := by decide +kernel
theorem dX7_addObject_116 : decode cX7_addObject 116 = .ok (.iadd, 1) := by decide +kernel
theorem dX7_addObject_117 : decode cX7_addObject 117 = .ok (.iastore, 1) := by decide +kernel
theorem dX7_addObject_118 : decode cX7_addObject 118 = .ok (.aload_n 0, 1) := by decide +kernel
theorem dX7_addObject_119 : decode cX7_addObject 119 = .ok (.getfield 33, 3) := by decide +kernel
theorem dX7_addObject_122 : decode cX7_addObject 122 = .ok (.iload 4, 2) := by decide +kernel
theorem dX7_addObject_124 : decode cX7_addObject 124 = .ok (.iconst 4, 1) := by decide +kernel
theorem dX7_addObject_125 : decode cX7_addObject 125 = .ok (.imul, 1) := by decide +kernel
theorem dX7_addObject_126 : decode cX7_addObject 126 = .ok (.iload 4, 2) := by decide +kernel
theorem dX7_addObject_128 : decode cX7_addObject 128 = .ok (.iconst 1, 1) := by decide +kernel
theorem dX7_addObject_129 : decode cX7_addObject 129 = .ok (.iadd, 1) := by decide +kernel
theorem dX7_addObject_130 : decode cX7_addObject 130 = .ok (.iconst 4, 1) := by decide +kernel
theorem dX7_addObject_131 : decode cX7_addObject 131 = .ok (.imul, 1) := by decide +kernel
theorem dX7_addObject_132 : decode cX7_addObject 132 = .ok (.iconst (-1), 1) := by decide +kernel
theorem dX7_addObject_133 : decode cX7_addObject 133 = .ok (.invokestatic 120, 3) := by decide +kernel
theorem dX7_addObject_136 : decode cX7_addObject 136 = .ok (.iload 4, 2) := by decide +kernel
theorem dX7_addObject_138 : decode cX7_addObject 138 = .ok (.ireturn, 1) := by decide +kernel
theorem dX7_isOldToYoung_0 : decode cX7_isOldToYoung 0 = .ok (.aload_n 0, 1) := by decide +kernel
theorem dX7_isOldToYoung_1 : decode cX7_isOldToYoung 1 = .ok (.iload_n 1, 1) := by decide +kernel
theorem dX7_isOldToYoung_2 : decode cX7_isOldToYoung 2 = .ok (.invokevirtual 99, 3) := by decide +kernel
theorem dX7_isOldToYoung_5 : decode cX7_isOldToYoung 5 = .ok (.ifCond .eq 28, 3) := by decide +kernel
theorem dX7_isOldToYoung_8 : decode cX7_isOldToYoung 8 = .ok (.aload_n 0, 1) := by decide +kernel
theorem dX7_isOldToYoung_9 : decode cX7_isOldToYoung 9 = .ok (.iload_n 1, 1) := by decide +kernel
theorem dX7_isOldToYoung_10 : decode cX7_isOldToYoung 10 = .ok (.invokevirtual 123, 3) := by decide +kernel
theorem dX7_isOldToYoung_13 : decode cX7_isOldToYoung 13 = .ok (.ifCond .ne 20, 3) := by decide +kernel
theorem dX7_isOldToYoung_16 : decode cX7_isOldToYoung 16 = .ok (.aload_n 0, 1) := by decide +kernel
theorem dX7_isOldToYoung_17 : decode cX7_isOldToYoung 17 = .ok (.aload_n 0, 1) := by decide +kernel
theorem dX7_isOldToYoung_18 : decode cX7_isOldToYoung 18 = .ok (.iload_n 1, 1) := by decide +kernel
theorem dX7_isOldToYoung_19 : decode cX7_isOldToYoung 19 = .ok (.iload_n 2, 1) := by decide +kernel
theorem dX7_isOldToYoung_20 : decode cX7_isOldToYoung 20 = .ok (.invokevirtual 126, 3) := by decide +kernel
theorem dX7_isOldToYoung_23 : decode cX7_isOldToYoung 23 = .ok (.invokevirtual 123, 3) := by decide +kernel
theorem dX7_isOldToYoung_26 : decode cX7_isOldToYoung 26 = .ok (.ifCond .eq 7, 3) := by decide +kernel
theorem dX7_isOldToYoung_29 : decode cX7_isOldToYoung 29 = .ok (.iconst 1, 1) := by decide +kernel
theorem dX7_isOldToYoung_30 : decode cX7_isOldToYoung 30 = .ok (.goto 4, 3) := by decide +kernel
theorem dX7_isOldToYoung_33 : decode cX7_isOldToYoung 33 = .ok (.iconst 0, 1) := by decide +kernel
theorem dX7_isOldToYoung_34 : decode cX7_isOldToYoung 34 = .ok (.ireturn, 1) := by decide +kernel
theorem dX7_refreshRemembered_0 : decode cX7_refreshRemembered 0 = .ok (.iload_n 1, 1) := by decide +kernel
theorem dX7_refreshRemembered_1 : decode cX7_refreshRemembered 1 = .ok (.iconst 4, 1) := by decide +kernel
theorem dX7_refreshRemembered_2 : decode cX7_refreshRemembered 2 = .ok (.imul, 1) := by decide +kernel
theorem dX7_refreshRemembered_3 : decode cX7_refreshRemembered 3 = .ok (.iload_n 2, 1) := by decide +kernel
theorem dX7_refreshRemembered_4 : decode cX7_refreshRemembered 4 = .ok (.iadd, 1) := by decide +kernel
theorem dX7_refreshRemembered_5 : decode cX7_refreshRemembered 5 = .ok (.istore_n 3, 1) := by decide +kernel
theorem dX7_refreshRemembered_6 : decode cX7_refreshRemembered 6 = .ok (.aload_n 0, 1) := by decide +kernel
theorem dX7_refreshRemembered_7 : decode cX7_refreshRemembered 7 = .ok (.getfield 57, 3) := by decide +kernel
theorem dX7_refreshRemembered_10 : decode cX7_refreshRemembered 10 = .ok (.iload_n 3, 1) := by decide +kernel
theorem dX7_refreshRemembered_11 : decode cX7_refreshRemembered 11 = .ok (.invokevirtual 129, 3) := by decide +kernel
theorem dX7_refreshRemembered_14 : decode cX7_refreshRemembered 14 = .ok (.istore 4, 2) := by decide +kernel
theorem dX7_refreshRemembered_16 : decode cX7_refreshRemembered 16 = .ok (.aload_n 0, 1) := by decide +kernel
theorem dX7_refreshRemembered_17 : decode cX7_refreshRemembered 17 = .ok (.iload_n 1, 1) := by decide +kernel
theorem dX7_refreshRemembered_18 : decode cX7_refreshRemembered 18 = .ok (.iload_n 2, 1) := by decide +kernel
theorem dX7_refreshRemembered_19 : decode cX7_refreshRemembered 19 = .ok (.invokevirtual 132, 3) := by decide +kernel
theorem dX7_refreshRemembered_22 : decode cX7_refreshRemembered 22 = .ok (.istore 5, 2) := by decide +kernel
theorem dX7_refreshRemembered_24 : decode cX7_refreshRemembered 24 = .ok (.iload 5, 2) := by decide +kernel
theorem dX7_refreshRemembered_26 : decode cX7_refreshRemembered 26 = .ok (.ifCond .eq 20, 3) := by decide +kernel
theorem dX7_refreshRemembered_29 : decode cX7_refreshRemembered 29 = .ok (.iload 4, 2) := by decide +kernel
theorem dX7_refreshRemembered_31 : decode cX7_refreshRemembered 31 = .ok (.iconst (-1), 1) := by decide +kernel
theorem dX7_refreshRemembered_32 : decode cX7_refreshRemembered 32 = .ok (.if_icmp .ne 14, 3) := by decide +kernel
theorem dX7_refreshRemembered_35 : decode cX7_refreshRemembered 35 = .ok (.aload_n 0, 1) := by decide +kernel
theorem dX7_refreshRemembered_36 : decode cX7_refreshRemembered 36 = .ok (.getfield 57, 3) := by decide +kernel
theorem dX7_refreshRemembered_39 : decode cX7_refreshRemembered 39 = .ok (.iload_n 3, 1) := by decide +kernel
theorem dX7_refreshRemembered_40 : decode cX7_refreshRemembered 40 = .ok (.invokevirtual 113, 3) := by decide +kernel
theorem dX7_refreshRemembered_43 : decode cX7_refreshRemembered 43 = .ok (.goto 23, 3) := by decide +kernel
theorem dX7_refreshRemembered_46 : decode cX7_refreshRemembered 46 = .ok (.iload 5, 2) := by decide +kernel
theorem dX7_refreshRemembered_48 : decode cX7_refreshRemembered 48 = .ok (.ifCond .ne 18, 3) := by decide +kernel
theorem dX7_refreshRemembered_51 : decode cX7_refreshRemembered 51 = .ok (.iload 4, 2) := by decide +kernel
theorem dX7_refreshRemembered_53 : decode cX7_refreshRemembered 53 = .ok (.iconst (-1), 1) := by decide +kernel
theorem dX7_refreshRemembered_54 : decode cX7_refreshRemembered 54 = .ok (.if_icmp .eq 12, 3) := by decide +kernel
theorem dX7_refreshRemembered_57 : decode cX7_refreshRemembered 57 = .ok (.aload_n 0, 1) := by decide +kernel
theorem dX7_refreshRemembered_58 : decode cX7_refreshRemembered 58 = .ok (.getfield 57, 3) := by decide +kernel
theorem dX7_refreshRemembered_61 : decode cX7_refreshRemembered 61 = .ok (.iload 4, 2) := by decide +kernel
theorem dX7_refreshRemembered_63 : decode cX7_refreshRemembered 63 = .ok (.invokevirtual 135, 3) := by decide +kernel
theorem dX7_refreshRemembered_66 : decode cX7_refreshRemembered 66 = .ok (.return_, 1) := by decide +kernel
theorem dX7_closeUp_0 : decode cX7_closeUp 0 = .ok (.aload_n 0, 1) := by decide +kernel
theorem dX7_closeUp_1 : decode cX7_closeUp 1 = .ok (.getfield 75, 3) := by decide +kernel
theorem dX7_closeUp_4 : decode cX7_closeUp 4 = .ok (.istore_n 2, 1) := by decide +kernel
theorem dX7_closeUp_5 : decode cX7_closeUp 5 = .ok (.iconst 0, 1) := by decide +kernel
theorem dX7_closeUp_6 : decode cX7_closeUp 6 = .ok (.istore_n 3, 1) := by decide +kernel
theorem dX7_closeUp_7 : decode cX7_closeUp 7 = .ok (.iconst 0, 1) := by decide +kernel
theorem dX7_closeUp_8 : decode cX7_closeUp 8 = .ok (.istore 4, 2) := by decide +kernel
theorem dX7_closeUp_10 : decode cX7_closeUp 10 = .ok (.iload 4, 2) := by decide +kernel
theorem dX7_closeUp_12 : decode cX7_closeUp 12 = .ok (.iload_n 2, 1) := by decide +kernel
theorem dX7_closeUp_13 : decode cX7_closeUp 13 = .ok (.if_icmp .ge 28, 3) := by decide +kernel
theorem dX7_closeUp_16 : decode cX7_closeUp 16 = .ok (.aload_n 1, 1) := by decide +kernel
theorem dX7_closeUp_17 : decode cX7_closeUp 17 = .ok (.iload 4, 2) := by decide +kernel
theorem dX7_closeUp_19 : decode cX7_closeUp 19 = .ok (.iaload, 1) := by decide +kernel
theorem dX7_closeUp_20 : decode cX7_closeUp 20 = .ok (.iconst (-1), 1) := by decide +kernel
theorem dX7_closeUp_21 : decode cX7_closeUp 21 = .ok (.if_icmp .eq 14, 3) := by decide +kernel
theorem dX7_closeUp_24 : decode cX7_closeUp 24 = .ok (.aload_n 0, 1) := by decide +kernel
theorem dX7_closeUp_25 : decode cX7_closeUp 25 = .ok (.iload 4, 2) := by decide +kernel
theorem dX7_closeUp_27 : decode cX7_closeUp 27 = .ok (.iload_n 3, 1) := by decide +kernel
theorem dX7_closeUp_28 : decode cX7_closeUp 28 = .ok (.aload_n 1, 1) := by decide +kernel
theorem dX7_closeUp_29 : decode cX7_closeUp 29 = .ok (.invokevirtual 138, 3) := by decide +kernel
theorem dX7_closeUp_32 : decode cX7_closeUp 32 = .ok (.iinc 3 1, 3) := by decide +kernel
theorem dX7_closeUp_35 : decode cX7_closeUp 35 = .ok (.iinc 4 1, 3) := by decide +kernel
theorem dX7_closeUp_38 : decode cX7_closeUp 38 = .ok (.goto (-28), 3) := by decide +kernel
theorem dX7_closeUp_41 : decode cX7_closeUp 41 = .ok (.aload_n 0, 1) := by decide +kernel
theorem dX7_closeUp_42 : decode cX7_closeUp 42 = .ok (.iload_n 3, 1) := by decide +kernel
theorem dX7_closeUp_43 : decode cX7_closeUp 43 = .ok (.putfield 75, 3) := by decide +kernel
theorem dX7_closeUp_46 : decode cX7_closeUp 46 = .ok (.iconst 0, 1) := by decide +kernel
theorem dX7_closeUp_47 : decode cX7_closeUp 47 = .ok (.istore 4, 2) := by decide +kernel
theorem dX7_closeUp_49 : decode cX7_closeUp 49 = .ok (.iload 4, 2) := by decide +kernel
theorem dX7_closeUp_51 : decode cX7_closeUp 51 = .ok (.bipush 8, 2) := by decide +kernel
theorem dX7_closeUp_53 : decode cX7_closeUp 53 = .ok (.if_icmp .ge 27, 3) := by decide +kernel
theorem dX7_closeUp_56 : decode cX7_closeUp 56 = .ok (.aload_n 0, 1) := by decide +kernel
theorem dX7_closeUp_57 : decode cX7_closeUp 57 = .ok (.getfield 36, 3) := by decide +kernel
theorem dX7_closeUp_60 : decode cX7_closeUp 60 = .ok (.iload 4, 2) := by decide +kernel
theorem dX7_closeUp_62 : decode cX7_closeUp 62 = .ok (.aload_n 0, 1) := by decide +kernel
theorem dX7_closeUp_63 : decode cX7_closeUp 63 = .ok (.getfield 36, 3) := by decide +kernel
theorem dX7_closeUp_66 : decode cX7_closeUp 66 = .ok (.iload 4, 2) := by decide +kernel
theorem dX7_closeUp_68 : decode cX7_closeUp 68 = .ok (.iaload, 1) := by decide +kernel
theorem dX7_closeUp_69 : decode cX7_closeUp 69 = .ok (.aload_n 1, 1) := by decide +kernel
theorem dX7_closeUp_70 : decode cX7_closeUp 70 = .ok (.invokestatic 142, 3) := by decide +kernel
theorem dX7_closeUp_73 : decode cX7_closeUp 73 = .ok (.iastore, 1) := by decide +kernel
theorem dX7_closeUp_74 : decode cX7_closeUp 74 = .ok (.iinc 4 1, 3) := by decide +kernel
theorem dX7_closeUp_77 : decode cX7_closeUp 77 = .ok (.goto (-28), 3) := by decide +kernel
theorem dX7_closeUp_80 : decode cX7_closeUp 80 = .ok (.iconst 0, 1) := by decide +kernel
theorem dX7_closeUp_81 : decode cX7_closeUp 81 = .ok (.istore 4, 2) := by decide +kernel
theorem dX7_closeUp_83 : decode cX7_closeUp 83 = .ok (.iload 4, 2) := by decide +kernel
theorem dX7_closeUp_85 : decode cX7_closeUp 85 = .ok (.aload_n 0, 1) := by decide +kernel
theorem dX7_closeUp_86 : decode cX7_closeUp 86 = .ok (.getfield 50, 3) := by decide +kernel
theorem dX7_closeUp_89 : decode cX7_closeUp 89 = .ok (.getfield 82, 3) := by decide +kernel
theorem dX7_closeUp_92 : decode cX7_closeUp 92 = .ok (.if_icmp .ge 31, 3) := by decide +kernel
theorem dX7_closeUp_95 : decode cX7_closeUp 95 = .ok (.aload_n 0, 1) := by decide +kernel
theorem dX7_closeUp_96 : decode cX7_closeUp 96 = .ok (.getfield 50, 3) := by decide +kernel
theorem dX7_closeUp_99 : decode cX7_closeUp 99 = .ok (.iload 4, 2) := by decide +kernel
theorem dX7_closeUp_101 : decode cX7_closeUp 101 = .ok (.aload_n 0, 1) := by decide +kernel
theorem dX7_closeUp_102 : decode cX7_closeUp 102 = .ok (.getfield 50, 3) := by decide +kernel
theorem dX7_closeUp_105 : decode cX7_closeUp 105 = .ok (.iload 4, 2) := by decide +kernel
theorem dX7_closeUp_107 : decode cX7_closeUp 107 = .ok (.invokevirtual 146, 3) := by decide +kernel
theorem dX7_closeUp_110 : decode cX7_closeUp 110 = .ok (.aload_n 1, 1) := by decide +kernel
theorem dX7_closeUp_111 : decode cX7_closeUp 111 = .ok (.invokestatic 142, 3) := by decide +kernel
theorem dX7_closeUp_114 : decode cX7_closeUp 114 = .ok (.invokevirtual 149, 3) := by decide +kernel
theorem dX7_closeUp_117 : decode cX7_closeUp 117 = .ok (.iinc 4 1, 3) := by decide +kernel
theorem dX7_closeUp_120 : decode cX7_closeUp 120 = .ok (.goto (-37), 3) := by decide +kernel
theorem dX7_closeUp_123 : decode cX7_closeUp 123 = .ok (.iconst 0, 1) := by decide +kernel
theorem dX7_closeUp_124 : decode cX7_closeUp 124 = .ok (.istore 4, 2) := by decide +kernel
theorem dX7_closeUp_126 : decode cX7_closeUp 126 = .ok (.iload 4, 2) := by decide +kernel
theorem dX7_closeUp_128 : decode cX7_closeUp 128 = .ok (.aload_n 0, 1) := by decide +kernel
theorem dX7_closeUp_129 : decode cX7_closeUp 129 = .ok (.getfield 57, 3) := by decide +kernel
theorem dX7_closeUp_132 : decode cX7_closeUp 132 = .ok (.getfield 82, 3) := by decide +kernel
theorem dX7_closeUp_135 : decode cX7_closeUp 135 = .ok (.if_icmp .ge 44, 3) := by decide +kernel
theorem dX7_closeUp_138 : decode cX7_closeUp 138 = .ok (.aload_n 0, 1) := by decide +kernel
theorem dX7_closeUp_139 : decode cX7_closeUp 139 = .ok (.getfield 57, 3) := by decide +kernel
theorem dX7_closeUp_142 : decode cX7_closeUp 142 = .ok (.iload 4, 2) := by decide +kernel
theorem dX7_closeUp_144 : decode cX7_closeUp 144 = .ok (.invokevirtual 146, 3) := by decide +kernel
theorem dX7_closeUp_147 : decode cX7_closeUp 147 = .ok (.istore 5, 2) := by decide +kernel
theorem dX7_closeUp_149 : decode cX7_closeUp 149 = .ok (.aload_n 0, 1) := by decide +kernel
theorem dX7_closeUp_150 : decode cX7_closeUp 150 = .ok (.getfield 57, 3) := by decide +kernel
theorem dX7_closeUp_153 : decode cX7_closeUp 153 = .ok (.iload 4, 2) := by decide +kernel
theorem dX7_closeUp_155 : decode cX7_closeUp 155 = .ok (.iload 5, 2) := by decide +kernel
theorem dX7_closeUp_157 : decode cX7_closeUp 157 = .ok (.iconst 4, 1) := by decide +kernel
theorem dX7_closeUp_158 : decode cX7_closeUp 158 = .ok (.idiv, 1) := by decide +kernel
theorem dX7_closeUp_159 : decode cX7_closeUp 159 = .ok (.aload_n 1, 1) := by decide +kernel
theorem dX7_closeUp_160 : decode cX7_closeUp 160 = .ok (.invokestatic 142, 3) := by decide +kernel
theorem dX7_closeUp_163 : decode cX7_closeUp 163 = .ok (.iconst 4, 1) := by decide +kernel
theorem dX7_closeUp_164 : decode cX7_closeUp 164 = .ok (.imul, 1) := by decide +kernel
theorem dX7_closeUp_165 : decode cX7_closeUp 165 = .ok (.iload 5, 2) := by decide +kernel
theorem dX7_closeUp_167 : decode cX7_closeUp 167 = .ok (.iconst 4, 1) := by decide +kernel
theorem dX7_closeUp_168 : decode cX7_closeUp 168 = .ok (.irem, 1) := by decide +kernel
theorem dX7_closeUp_169 : decode cX7_closeUp 169 = .ok (.iadd, 1) := by decide +kernel
theorem dX7_closeUp_170 : decode cX7_closeUp 170 = .ok (.invokevirtual 149, 3) := by decide +kernel
theorem dX7_closeUp_173 : decode cX7_closeUp 173 = .ok (.iinc 4 1, 3) := by decide +kernel
theorem dX7_closeUp_176 : decode cX7_closeUp 176 = .ok (.goto (-50), 3) := by decide +kernel
theorem dX7_closeUp_179 : decode cX7_closeUp 179 = .ok (.return_, 1) := by decide +kernel
theorem dX7_moveSlot_0 : decode cX7_moveSlot 0 = .ok (.aload_n 0, 1) := by decide +kernel
theorem dX7_moveSlot_1 : decode cX7_moveSlot 1 = .ok (.getfield 9, 3) := by decide +kernel
theorem dX7_moveSlot_4 : decode cX7_moveSlot 4 = .ok (.iload_n 2, 1) := by decide +kernel
theorem dX7_moveSlot_5 : decode cX7_moveSlot 5 = .ok (.aload_n 0, 1) := by decide +kernel
theorem dX7_moveSlot_6 : decode cX7_moveSlot 6 = .ok (.getfield 9, 3) := by decide +kernel
theorem dX7_moveSlot_9 : decode cX7_moveSlot 9 = .ok (.iload_n 1, 1) := by decide +kernel
theorem dX7_moveSlot_10 : decode cX7_moveSlot 10 = .ok (.iaload, 1) := by decide +kernel
theorem dX7_moveSlot_11 : decode cX7_moveSlot 11 = .ok (.iastore, 1) := by decide +kernel
theorem dX7_moveSlot_12 : decode cX7_moveSlot 12 = .ok (.aload_n 0, 1) := by decide +kernel
theorem dX7_moveSlot_13 : decode cX7_moveSlot 13 = .ok (.getfield 15, 3) := by decide +kernel
theorem dX7_moveSlot_16 : decode cX7_moveSlot 16 = .ok (.iload_n 2, 1) := by decide +kernel
theorem dX7_moveSlot_17 : decode cX7_moveSlot 17 = .ok (.aload_n 0, 1) := by decide +kernel
theorem dX7_moveSlot_18 : decode cX7_moveSlot 18 = .ok (.getfield 15, 3) := by decide +kernel
theorem dX7_moveSlot_21 : decode cX7_moveSlot 21 = .ok (.iload_n 1, 1) := by decide +kernel
theorem dX7_moveSlot_22 : decode cX7_moveSlot 22 = .ok (.iaload, 1) := by decide +kernel
theorem dX7_moveSlot_23 : decode cX7_moveSlot 23 = .ok (.iastore, 1) := by decide +kernel
theorem dX7_moveSlot_24 : decode cX7_moveSlot 24 = .ok (.aload_n 0, 1) := by decide +kernel
theorem dX7_moveSlot_25 : decode cX7_moveSlot 25 = .ok (.getfield 18, 3) := by decide +kernel
theorem dX7_moveSlot_28 : decode cX7_moveSlot 28 = .ok (.iload_n 2, 1) := by decide +kernel
theorem dX7_moveSlot_29 : decode cX7_moveSlot 29 = .ok (.aload_n 0, 1) := by decide +kernel
theorem dX7_moveSlot_30 : decode cX7_moveSlot 30 = .ok (.getfield 18, 3) := by decide +kernel
theorem dX7_moveSlot_33 : decode cX7_moveSlot 33 = .ok (.iload_n 1, 1) := by decide +kernel
theorem dX7_moveSlot_34 : decode cX7_moveSlot 34 = .ok (.iaload, 1) := by decide +kernel
theorem dX7_moveSlot_35 : decode cX7_moveSlot 35 = .ok (.iastore, 1) := by decide +kernel
theorem dX7_moveSlot_36 : decode cX7_moveSlot 36 = .ok (.aload_n 0, 1) := by decide +kernel
theorem dX7_moveSlot_37 : decode cX7_moveSlot 37 = .ok (.getfield 21, 3) := by decide +kernel
theorem dX7_moveSlot_40 : decode cX7_moveSlot 40 = .ok (.iload_n 2, 1) := by decide +kernel
theorem dX7_moveSlot_41 : decode cX7_moveSlot 41 = .ok (.aload_n 0, 1) := by decide +kernel
theorem dX7_moveSlot_42 : decode cX7_moveSlot 42 = .ok (.getfield 21, 3) := by decide +kernel
theorem dX7_moveSlot_45 : decode cX7_moveSlot 45 = .ok (.iload_n 1, 1) := by decide +kernel
theorem dX7_moveSlot_46 : decode cX7_moveSlot 46 = .ok (.iaload, 1) := by decide +kernel
theorem dX7_moveSlot_47 : decode cX7_moveSlot 47 = .ok (.iastore, 1) := by decide +kernel
theorem dX7_moveSlot_48 : decode cX7_moveSlot 48 = .ok (.aload_n 0, 1) := by decide +kernel
theorem dX7_moveSlot_49 : decode cX7_moveSlot 49 = .ok (.getfield 24, 3) := by decide +kernel
theorem dX7_moveSlot_52 : decode cX7_moveSlot 52 = .ok (.iload_n 2, 1) := by decide +kernel
theorem dX7_moveSlot_53 : decode cX7_moveSlot 53 = .ok (.aload_n 0, 1) := by decide +kernel
theorem dX7_moveSlot_54 : decode cX7_moveSlot 54 = .ok (.getfield 24, 3) := by decide +kernel
theorem dX7_moveSlot_57 : decode cX7_moveSlot 57 = .ok (.iload_n 1, 1) := by decide +kernel
theorem dX7_moveSlot_58 : decode cX7_moveSlot 58 = .ok (.iaload, 1) := by decide +kernel
theorem dX7_moveSlot_59 : decode cX7_moveSlot 59 = .ok (.iastore, 1) := by decide +kernel
theorem dX7_moveSlot_60 : decode cX7_moveSlot 60 = .ok (.aload_n 0, 1) := by decide +kernel
theorem dX7_moveSlot_61 : decode cX7_moveSlot 61 = .ok (.getfield 27, 3) := by decide +kernel
theorem dX7_moveSlot_64 : decode cX7_moveSlot 64 = .ok (.iload_n 2, 1) := by decide +kernel
theorem dX7_moveSlot_65 : decode cX7_moveSlot 65 = .ok (.aload_n 0, 1) := by decide +kernel
theorem dX7_moveSlot_66 : decode cX7_moveSlot 66 = .ok (.getfield 27, 3) := by decide +kernel
theorem dX7_moveSlot_69 : decode cX7_moveSlot 69 = .ok (.iload_n 1, 1) := by decide +kernel
theorem dX7_moveSlot_70 : decode cX7_moveSlot 70 = .ok (.iaload, 1) := by decide +kernel
theorem dX7_moveSlot_71 : decode cX7_moveSlot 71 = .ok (.iastore, 1) := by decide +kernel
theorem dX7_moveSlot_72 : decode cX7_moveSlot 72 = .ok (.aload_n 0, 1) := by decide +kernel
theorem dX7_moveSlot_73 : decode cX7_moveSlot 73 = .ok (.getfield 30, 3) := by decide +kernel
theorem dX7_moveSlot_76 : decode cX7_moveSlot 76 = .ok (.iload_n 2, 1) := by decide +kernel
theorem dX7_moveSlot_77 : decode cX7_moveSlot 77 = .ok (.aload_n 0, 1) := by decide +kernel
theorem dX7_moveSlot_78 : decode cX7_moveSlot 78 = .ok (.getfield 30, 3) := by decide +kernel
theorem dX7_moveSlot_81 : decode cX7_moveSlot 81 = .ok (.iload_n 1, 1) := by decide +kernel
theorem dX7_moveSlot_82 : decode cX7_moveSlot 82 = .ok (.iaload, 1) := by decide +kernel
theorem dX7_moveSlot_83 : decode cX7_moveSlot 83 = .ok (.iastore, 1) := by decide +kernel
theorem dX7_moveSlot_84 : decode cX7_moveSlot 84 = .ok (.iconst 0, 1) := by decide +kernel
theorem dX7_moveSlot_85 : decode cX7_moveSlot 85 = .ok (.istore 4, 2) := by decide +kernel
theorem dX7_moveSlot_87 : decode cX7_moveSlot 87 = .ok (.iload 4, 2) := by decide +kernel
theorem dX7_moveSlot_89 : decode cX7_moveSlot 89 = .ok (.iconst 4, 1) := by decide +kernel
theorem dX7_moveSlot_90 : decode cX7_moveSlot 90 = .ok (.if_icmp .ge 35, 3) := by decide +kernel
theorem dX7_moveSlot_93 : decode cX7_moveSlot 93 = .ok (.aload_n 0, 1) := by decide +kernel
theorem dX7_moveSlot_94 : decode cX7_moveSlot 94 = .ok (.getfield 33, 3) := by decide +kernel
theorem dX7_moveSlot_97 : decode cX7_moveSlot 97 = .ok (.iload_n 2, 1) := by decide +kernel
theorem dX7_moveSlot_98 : decode cX7_moveSlot 98 = .ok (.iconst 4, 1) := by decide +kernel
theorem dX7_moveSlot_99 : decode cX7_moveSlot 99 = .ok (.imul, 1) := by decide +kernel
theorem dX7_moveSlot_100 : decode cX7_moveSlot 100 = .ok (.iload 4, 2) := by decide +kernel
theorem dX7_moveSlot_102 : decode cX7_moveSlot 102 = .ok (.iadd, 1) := by decide +kernel
theorem dX7_moveSlot_103 : decode cX7_moveSlot 103 = .ok (.aload_n 0, 1) := by decide +kernel
theorem dX7_moveSlot_104 : decode cX7_moveSlot 104 = .ok (.getfield 33, 3) := by decide +kernel
theorem dX7_moveSlot_107 : decode cX7_moveSlot 107 = .ok (.iload_n 1, 1) := by decide +kernel
theorem dX7_moveSlot_108 : decode cX7_moveSlot 108 = .ok (.iconst 4, 1) := by decide +kernel
theorem dX7_moveSlot_109 : decode cX7_moveSlot 109 = .ok (.imul, 1) := by decide +kernel
theorem dX7_moveSlot_110 : decode cX7_moveSlot 110 = .ok (.iload 4, 2) := by decide +kernel
theorem dX7_moveSlot_112 : decode cX7_moveSlot 112 = .ok (.iadd, 1) := by decide +kernel
theorem dX7_moveSlot_113 : decode cX7_moveSlot 113 = .ok (.iaload, 1) := by decide +kernel
theorem dX7_moveSlot_114 : decode cX7_moveSlot 114 = .ok (.aload_n 3, 1) := by decide +kernel
theorem dX7_moveSlot_115 : decode cX7_moveSlot 115 = .ok (.invokestatic 142, 3) := by decide +kernel
theorem dX7_moveSlot_118 : decode cX7_moveSlot 118 = .ok (.iastore, 1) := by decide +kernel
theorem dX7_moveSlot_119 : decode cX7_moveSlot 119 = .ok (.iinc 4 1, 3) := by decide +kernel
theorem dX7_moveSlot_122 : decode cX7_moveSlot 122 = .ok (.goto (-35), 3) := by decide +kernel
theorem dX7_moveSlot_125 : decode cX7_moveSlot 125 = .ok (.return_, 1) := by decide +kernel
theorem dX7_renamed_0 : decode cX7_renamed 0 = .ok (.iload_n 0, 1) := by decide +kernel
theorem dX7_renamed_1 : decode cX7_renamed 1 = .ok (.ifCond .lt 15, 3) := by decide +kernel
theorem dX7_renamed_4 : decode cX7_renamed 4 = .ok (.iload_n 0, 1) := by decide +kernel
theorem dX7_renamed_5 : decode cX7_renamed 5 = .ok (.aload_n 1, 1) := by decide +kernel
theorem dX7_renamed_6 : decode cX7_renamed 6 = .ok (.arraylength, 1) := by decide +kernel
theorem dX7_renamed_7 : decode cX7_renamed 7 = .ok (.if_icmp .ge 9, 3) := by decide +kernel
theorem dX7_renamed_10 : decode cX7_renamed 10 = .ok (.aload_n 1, 1) := by decide +kernel
theorem dX7_renamed_11 : decode cX7_renamed 11 = .ok (.iload_n 0, 1) := by decide +kernel
theorem dX7_renamed_12 : decode cX7_renamed 12 = .ok (.iaload, 1) := by decide +kernel
theorem dX7_renamed_13 : decode cX7_renamed 13 = .ok (.goto 4, 3) := by decide +kernel
theorem dX7_renamed_16 : decode cX7_renamed 16 = .ok (.iconst (-1), 1) := by decide +kernel
theorem dX7_renamed_17 : decode cX7_renamed 17 = .ok (.ireturn, 1) := by decide +kernel
