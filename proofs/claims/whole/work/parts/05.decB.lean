theorem dX1_init_0 : decode cX1_init 0 = .ok (.aload_n 0, 1) := by decide +kernel
theorem dX1_init_1 : decode cX1_init 1 = .ok (.invokespecial 3, 3) := by decide +kernel
theorem dX1_init_4 : decode cX1_init 4 = .ok (.aload_n 0, 1) := by decide +kernel
theorem dX1_init_5 : decode cX1_init 5 = .ok (.iconst 5, 1) := by decide +kernel
theorem dX1_init_6 : decode cX1_init 6 = .ok (.newarray .int, 2) := by decide +kernel
theorem dX1_init_8 : decode cX1_init 8 = .ok (.putfield 9, 3) := by decide +kernel
theorem dX1_init_11 : decode cX1_init 11 = .ok (.aload_n 0, 1) := by decide +kernel
theorem dX1_init_12 : decode cX1_init 12 = .ok (.bipush 80, 2) := by decide +kernel
theorem dX1_init_14 : decode cX1_init 14 = .ok (.newarray .int, 2) := by decide +kernel
theorem dX1_init_16 : decode cX1_init 16 = .ok (.putfield 15, 3) := by decide +kernel
theorem dX1_init_19 : decode cX1_init 19 = .ok (.aload_n 0, 1) := by decide +kernel
theorem dX1_init_20 : decode cX1_init 20 = .ok (.bipush 80, 2) := by decide +kernel
theorem dX1_init_22 : decode cX1_init 22 = .ok (.newarray .int, 2) := by decide +kernel
theorem dX1_init_24 : decode cX1_init 24 = .ok (.putfield 18, 3) := by decide +kernel
theorem dX1_init_27 : decode cX1_init 27 = .ok (.aload_n 0, 1) := by decide +kernel
theorem dX1_init_28 : decode cX1_init 28 = .ok (.bipush 80, 2) := by decide +kernel
theorem dX1_init_30 : decode cX1_init 30 = .ok (.newarray .int, 2) := by decide +kernel
theorem dX1_init_32 : decode cX1_init 32 = .ok (.putfield 21, 3) := by decide +kernel
theorem dX1_init_35 : decode cX1_init 35 = .ok (.aload_n 0, 1) := by decide +kernel
theorem dX1_init_36 : decode cX1_init 36 = .ok (.bipush 80, 2) := by decide +kernel
theorem dX1_init_38 : decode cX1_init 38 = .ok (.newarray .int, 2) := by decide +kernel
theorem dX1_init_40 : decode cX1_init 40 = .ok (.putfield 24, 3) := by decide +kernel
theorem dX1_init_43 : decode cX1_init 43 = .ok (.aload_n 0, 1) := by decide +kernel
theorem dX1_init_44 : decode cX1_init 44 = .ok (.bipush 80, 2) := by decide +kernel
theorem dX1_init_46 : decode cX1_init 46 = .ok (.newarray .int, 2) := by decide +kernel
theorem dX1_init_48 : decode cX1_init 48 = .ok (.putfield 27, 3) := by decide +kernel
theorem dX1_init_51 : decode cX1_init 51 = .ok (.aload_n 0, 1) := by decide +kernel
theorem dX1_init_52 : decode cX1_init 52 = .ok (.iconst 3, 1) := by decide +kernel
theorem dX1_init_53 : decode cX1_init 53 = .ok (.newarray .int, 2) := by decide +kernel
theorem dX1_init_55 : decode cX1_init 55 = .ok (.putfield 30, 3) := by decide +kernel
theorem dX1_init_58 : decode cX1_init 58 = .ok (.aload_n 0, 1) := by decide +kernel
theorem dX1_init_59 : decode cX1_init 59 = .ok (.sipush 128, 3) := by decide +kernel
theorem dX1_init_62 : decode cX1_init 62 = .ok (.newarray .int, 2) := by decide +kernel
theorem dX1_init_64 : decode cX1_init 64 = .ok (.putfield 33, 3) := by decide +kernel
theorem dX1_init_67 : decode cX1_init 67 = .ok (.aload_n 0, 1) := by decide +kernel
theorem dX1_init_68 : decode cX1_init 68 = .ok (.aload_n 1, 1) := by decide +kernel
theorem dX1_init_69 : decode cX1_init 69 = .ok (.putfield 36, 3) := by decide +kernel
theorem dX1_init_72 : decode cX1_init 72 = .ok (.aload_n 0, 1) := by decide +kernel
theorem dX1_init_73 : decode cX1_init 73 = .ok (.aload_n 2, 1) := by decide +kernel
theorem dX1_init_74 : decode cX1_init 74 = .ok (.putfield 39, 3) := by decide +kernel
theorem dX1_init_77 : decode cX1_init 77 = .ok (.return_, 1) := by decide +kernel
theorem dX1_collectYoung_0 : decode cX1_collectYoung 0 = .ok (.aload_n 0, 1) := by decide +kernel
theorem dX1_collectYoung_1 : decode cX1_collectYoung 1 = .ok (.aload_n 1, 1) := by decide +kernel
theorem dX1_collectYoung_2 : decode cX1_collectYoung 2 = .ok (.invokevirtual 43, 3) := by decide +kernel
theorem dX1_collectYoung_5 : decode cX1_collectYoung 5 = .ok (.aload_n 0, 1) := by decide +kernel
theorem dX1_collectYoung_6 : decode cX1_collectYoung 6 = .ok (.aload_n 1, 1) := by decide +kernel
theorem dX1_collectYoung_7 : decode cX1_collectYoung 7 = .ok (.invokevirtual 47, 3) := by decide +kernel
theorem dX1_collectYoung_10 : decode cX1_collectYoung 10 = .ok (.aload_n 0, 1) := by decide +kernel
theorem dX1_collectYoung_11 : decode cX1_collectYoung 11 = .ok (.aload_n 1, 1) := by decide +kernel
theorem dX1_collectYoung_12 : decode cX1_collectYoung 12 = .ok (.iconst 0, 1) := by decide +kernel
theorem dX1_collectYoung_13 : decode cX1_collectYoung 13 = .ok (.iconst 1, 1) := by decide +kernel
theorem dX1_collectYoung_14 : decode cX1_collectYoung 14 = .ok (.invokevirtual 50, 3) := by decide +kernel
theorem dX1_collectYoung_17 : decode cX1_collectYoung 17 = .ok (.aload_n 0, 1) := by decide +kernel
theorem dX1_collectYoung_18 : decode cX1_collectYoung 18 = .ok (.aload_n 1, 1) := by decide +kernel
theorem dX1_collectYoung_19 : decode cX1_collectYoung 19 = .ok (.invokevirtual 54, 3) := by decide +kernel
theorem dX1_collectYoung_22 : decode cX1_collectYoung 22 = .ok (.aload_n 0, 1) := by decide +kernel
theorem dX1_collectYoung_23 : decode cX1_collectYoung 23 = .ok (.getfield 57, 3) := by decide +kernel
theorem dX1_collectYoung_26 : decode cX1_collectYoung 26 = .ok (.ifCond .eq 5, 3) := by decide +kernel
theorem dX1_collectYoung_29 : decode cX1_collectYoung 29 = .ok (.iconst 0, 1) := by decide +kernel
theorem dX1_collectYoung_30 : decode cX1_collectYoung 30 = .ok (.ireturn, 1) := by decide +kernel
theorem dX1_collectYoung_31 : decode cX1_collectYoung 31 = .ok (.aload_n 0, 1) := by decide +kernel
theorem dX1_collectYoung_32 : decode cX1_collectYoung 32 = .ok (.getfield 9, 3) := by decide +kernel
theorem dX1_collectYoung_35 : decode cX1_collectYoung 35 = .ok (.iconst 0, 1) := by decide +kernel
theorem dX1_collectYoung_36 : decode cX1_collectYoung 36 = .ok (.invokestatic 61, 3) := by decide +kernel
theorem dX1_collectYoung_39 : decode cX1_collectYoung 39 = .ok (.aload_n 0, 1) := by decide +kernel
theorem dX1_collectYoung_40 : decode cX1_collectYoung 40 = .ok (.aload_n 1, 1) := by decide +kernel
theorem dX1_collectYoung_41 : decode cX1_collectYoung 41 = .ok (.iconst 1, 1) := by decide +kernel
theorem dX1_collectYoung_42 : decode cX1_collectYoung 42 = .ok (.invokevirtual 67, 3) := by decide +kernel
theorem dX1_collectYoung_45 : decode cX1_collectYoung 45 = .ok (.aload_n 0, 1) := by decide +kernel
theorem dX1_collectYoung_46 : decode cX1_collectYoung 46 = .ok (.aload_n 1, 1) := by decide +kernel
theorem dX1_collectYoung_47 : decode cX1_collectYoung 47 = .ok (.invokevirtual 71, 3) := by decide +kernel
theorem dX1_collectYoung_50 : decode cX1_collectYoung 50 = .ok (.aload_n 0, 1) := by decide +kernel
theorem dX1_collectYoung_51 : decode cX1_collectYoung 51 = .ok (.aload_n 1, 1) := by decide +kernel
theorem dX1_collectYoung_52 : decode cX1_collectYoung 52 = .ok (.iconst 2, 1) := by decide +kernel
theorem dX1_collectYoung_53 : decode cX1_collectYoung 53 = .ok (.invokevirtual 67, 3) := by decide +kernel
theorem dX1_collectYoung_56 : decode cX1_collectYoung 56 = .ok (.aload_n 0, 1) := by decide +kernel
theorem dX1_collectYoung_57 : decode cX1_collectYoung 57 = .ok (.aload_n 1, 1) := by decide +kernel
theorem dX1_collectYoung_58 : decode cX1_collectYoung 58 = .ok (.invokevirtual 74, 3) := by decide +kernel
theorem dX1_collectYoung_61 : decode cX1_collectYoung 61 = .ok (.aload_n 0, 1) := by decide +kernel
theorem dX1_collectYoung_62 : decode cX1_collectYoung 62 = .ok (.aload_n 1, 1) := by decide +kernel
theorem dX1_collectYoung_63 : decode cX1_collectYoung 63 = .ok (.invokevirtual 77, 3) := by decide +kernel
theorem dX1_collectYoung_66 : decode cX1_collectYoung 66 = .ok (.aload_n 0, 1) := by decide +kernel
theorem dX1_collectYoung_67 : decode cX1_collectYoung 67 = .ok (.aload_n 1, 1) := by decide +kernel
theorem dX1_collectYoung_68 : decode cX1_collectYoung 68 = .ok (.invokevirtual 80, 3) := by decide +kernel
theorem dX1_collectYoung_71 : decode cX1_collectYoung 71 = .ok (.aload_n 0, 1) := by decide +kernel
theorem dX1_collectYoung_72 : decode cX1_collectYoung 72 = .ok (.aload_n 1, 1) := by decide +kernel
theorem dX1_collectYoung_73 : decode cX1_collectYoung 73 = .ok (.iconst 0, 1) := by decide +kernel
theorem dX1_collectYoung_74 : decode cX1_collectYoung 74 = .ok (.invokevirtual 83, 3) := by decide +kernel
theorem dX1_collectYoung_77 : decode cX1_collectYoung 77 = .ok (.aload_n 1, 1) := by decide +kernel
theorem dX1_collectYoung_78 : decode cX1_collectYoung 78 = .ok (.aload_n 0, 1) := by decide +kernel
theorem dX1_collectYoung_79 : decode cX1_collectYoung 79 = .ok (.getfield 27, 3) := by decide +kernel
theorem dX1_collectYoung_82 : decode cX1_collectYoung 82 = .ok (.invokevirtual 87, 3) := by decide +kernel
theorem dX1_collectYoung_85 : decode cX1_collectYoung 85 = .ok (.aload_n 1, 1) := by decide +kernel
theorem dX1_collectYoung_86 : decode cX1_collectYoung 86 = .ok (.getfield 93, 3) := by decide +kernel
theorem dX1_collectYoung_89 : decode cX1_collectYoung 89 = .ok (.iconst 1, 1) := by decide +kernel
theorem dX1_collectYoung_90 : decode cX1_collectYoung 90 = .ok (.dup2, 1) := by decide +kernel
theorem dX1_collectYoung_91 : decode cX1_collectYoung 91 = .ok (.iaload, 1) := by decide +kernel
theorem dX1_collectYoung_92 : decode cX1_collectYoung 92 = .ok (.iconst 1, 1) := by decide +kernel
theorem dX1_collectYoung_93 : decode cX1_collectYoung 93 = .ok (.iadd, 1) := by decide +kernel
theorem dX1_collectYoung_94 : decode cX1_collectYoung 94 = .ok (.iastore, 1) := by decide +kernel
theorem dX1_collectYoung_95 : decode cX1_collectYoung 95 = .ok (.aload_n 0, 1) := by decide +kernel
theorem dX1_collectYoung_96 : decode cX1_collectYoung 96 = .ok (.aload_n 1, 1) := by decide +kernel
theorem dX1_collectYoung_97 : decode cX1_collectYoung 97 = .ok (.iconst 0, 1) := by decide +kernel
theorem dX1_collectYoung_98 : decode cX1_collectYoung 98 = .ok (.invokevirtual 96, 3) := by decide +kernel
theorem dX1_collectYoung_101 : decode cX1_collectYoung 101 = .ok (.iconst 1, 1) := by decide +kernel
theorem dX1_collectYoung_102 : decode cX1_collectYoung 102 = .ok (.ireturn, 1) := by decide +kernel
theorem dX1_collectAll_0 : decode cX1_collectAll 0 = .ok (.aload_n 0, 1) := by decide +kernel
theorem dX1_collectAll_1 : decode cX1_collectAll 1 = .ok (.getfield 9, 3) := by decide +kernel
theorem dX1_collectAll_4 : decode cX1_collectAll 4 = .ok (.iconst 0, 1) := by decide +kernel
theorem dX1_collectAll_5 : decode cX1_collectAll 5 = .ok (.invokestatic 61, 3) := by decide +kernel
theorem dX1_collectAll_8 : decode cX1_collectAll 8 = .ok (.aload_n 0, 1) := by decide +kernel
theorem dX1_collectAll_9 : decode cX1_collectAll 9 = .ok (.getfield 39, 3) := by decide +kernel
theorem dX1_collectAll_12 : decode cX1_collectAll 12 = .ok (.aload_n 1, 1) := by decide +kernel
theorem dX1_collectAll_13 : decode cX1_collectAll 13 = .ok (.iconst (-1), 1) := by decide +kernel
theorem dX1_collectAll_14 : decode cX1_collectAll 14 = .ok (.invokevirtual 99, 3) := by decide +kernel
theorem dX1_collectAll_17 : decode cX1_collectAll 17 = .ok (.aload_n 0, 1) := by decide +kernel
theorem dX1_collectAll_18 : decode cX1_collectAll 18 = .ok (.aload_n 1, 1) := by decide +kernel
theorem dX1_collectAll_19 : decode cX1_collectAll 19 = .ok (.invokevirtual 104, 3) := by decide +kernel
theorem dX1_collectAll_22 : decode cX1_collectAll 22 = .ok (.aload_n 0, 1) := by decide +kernel
theorem dX1_collectAll_23 : decode cX1_collectAll 23 = .ok (.aload_n 1, 1) := by decide +kernel
theorem dX1_collectAll_24 : decode cX1_collectAll 24 = .ok (.invokevirtual 107, 3) := by decide +kernel
theorem dX1_collectAll_27 : decode cX1_collectAll 27 = .ok (.aload_n 0, 1) := by decide +kernel
theorem dX1_collectAll_28 : decode cX1_collectAll 28 = .ok (.aload_n 1, 1) := by decide +kernel
theorem dX1_collectAll_29 : decode cX1_collectAll 29 = .ok (.iconst 1, 1) := by decide +kernel
theorem dX1_collectAll_30 : decode cX1_collectAll 30 = .ok (.invokevirtual 67, 3) := by decide +kernel
theorem dX1_collectAll_33 : decode cX1_collectAll 33 = .ok (.aload_n 0, 1) := by decide +kernel
theorem dX1_collectAll_34 : decode cX1_collectAll 34 = .ok (.aload_n 1, 1) := by decide +kernel
theorem dX1_collectAll_35 : decode cX1_collectAll 35 = .ok (.invokevirtual 71, 3) := by decide +kernel
theorem dX1_collectAll_38 : decode cX1_collectAll 38 = .ok (.aload_n 0, 1) := by decide +kernel
theorem dX1_collectAll_39 : decode cX1_collectAll 39 = .ok (.aload_n 1, 1) := by decide +kernel
theorem dX1_collectAll_40 : decode cX1_collectAll 40 = .ok (.iconst 2, 1) := by decide +kernel
theorem dX1_collectAll_41 : decode cX1_collectAll 41 = .ok (.invokevirtual 67, 3) := by decide +kernel
theorem dX1_collectAll_44 : decode cX1_collectAll 44 = .ok (.aload_n 0, 1) := by decide +kernel
theorem dX1_collectAll_45 : decode cX1_collectAll 45 = .ok (.aload_n 1, 1) := by decide +kernel
theorem dX1_collectAll_46 : decode cX1_collectAll 46 = .ok (.invokevirtual 110, 3) := by decide +kernel
theorem dX1_collectAll_49 : decode cX1_collectAll 49 = .ok (.aload_n 0, 1) := by decide +kernel
theorem dX1_collectAll_50 : decode cX1_collectAll 50 = .ok (.aload_n 1, 1) := by decide +kernel
theorem dX1_collectAll_51 : decode cX1_collectAll 51 = .ok (.invokevirtual 113, 3) := by decide +kernel
theorem dX1_collectAll_54 : decode cX1_collectAll 54 = .ok (.aload_n 0, 1) := by decide +kernel
theorem dX1_collectAll_55 : decode cX1_collectAll 55 = .ok (.aload_n 1, 1) := by decide +kernel
theorem dX1_collectAll_56 : decode cX1_collectAll 56 = .ok (.invokevirtual 77, 3) := by decide +kernel
theorem dX1_collectAll_59 : decode cX1_collectAll 59 = .ok (.aload_n 0, 1) := by decide +kernel
theorem dX1_collectAll_60 : decode cX1_collectAll 60 = .ok (.aload_n 1, 1) := by decide +kernel
theorem dX1_collectAll_61 : decode cX1_collectAll 61 = .ok (.iconst 1, 1) := by decide +kernel
theorem dX1_collectAll_62 : decode cX1_collectAll 62 = .ok (.invokevirtual 83, 3) := by decide +kernel
theorem dX1_collectAll_65 : decode cX1_collectAll 65 = .ok (.aload_n 1, 1) := by decide +kernel
theorem dX1_collectAll_66 : decode cX1_collectAll 66 = .ok (.aload_n 0, 1) := by decide +kernel
theorem dX1_collectAll_67 : decode cX1_collectAll 67 = .ok (.getfield 27, 3) := by decide +kernel
theorem dX1_collectAll_70 : decode cX1_collectAll 70 = .ok (.invokevirtual 87, 3) := by decide +kernel
theorem dX1_collectAll_73 : decode cX1_collectAll 73 = .ok (.aload_n 1, 1) := by decide +kernel
theorem dX1_collectAll_74 : decode cX1_collectAll 74 = .ok (.getfield 93, 3) := by decide +kernel
theorem dX1_collectAll_77 : decode cX1_collectAll 77 = .ok (.iconst 2, 1) := by decide +kernel
theorem dX1_collectAll_78 : decode cX1_collectAll 78 = .ok (.dup2, 1) := by decide +kernel
theorem dX1_collectAll_79 : decode cX1_collectAll 79 = .ok (.iaload, 1) := by decide +kernel
theorem dX1_collectAll_80 : decode cX1_collectAll 80 = .ok (.iconst 1, 1) := by decide +kernel
theorem dX1_collectAll_81 : decode cX1_collectAll 81 = .ok (.iadd, 1) := by decide +kernel
theorem dX1_collectAll_82 : decode cX1_collectAll 82 = .ok (.iastore, 1) := by decide +kernel
theorem dX1_collectAll_83 : decode cX1_collectAll 83 = .ok (.aload_n 0, 1) := by decide +kernel
theorem dX1_collectAll_84 : decode cX1_collectAll 84 = .ok (.aload_n 1, 1) := by decide +kernel
theorem dX1_collectAll_85 : decode cX1_collectAll 85 = .ok (.iconst 2, 1) := by decide +kernel
theorem dX1_collectAll_86 : decode cX1_collectAll 86 = .ok (.invokevirtual 96, 3) := by decide +kernel
theorem dX1_collectAll_89 : decode cX1_collectAll 89 = .ok (.return_, 1) := by decide +kernel
theorem dX1_addCounts_0 : decode cX1_addCounts 0 = .ok (.iload_n 2, 1) := by decide +kernel
theorem dX1_addCounts_1 : decode cX1_addCounts 1 = .ok (.istore_n 3, 1) := by decide +kernel
theorem dX1_addCounts_2 : decode cX1_addCounts 2 = .ok (.iload_n 3, 1) := by decide +kernel
theorem dX1_addCounts_3 : decode cX1_addCounts 3 = .ok (.iconst 5, 1) := by decide +kernel
theorem dX1_addCounts_4 : decode cX1_addCounts 4 = .ok (.if_icmp .ge 26, 3) := by decide +kernel
theorem dX1_addCounts_7 : decode cX1_addCounts 7 = .ok (.aload_n 1, 1) := by decide +kernel
theorem dX1_addCounts_8 : decode cX1_addCounts 8 = .ok (.getfield 93, 3) := by decide +kernel
theorem dX1_addCounts_11 : decode cX1_addCounts 11 = .ok (.iconst 3, 1) := by decide +kernel
theorem dX1_addCounts_12 : decode cX1_addCounts 12 = .ok (.iload_n 3, 1) := by decide +kernel
theorem dX1_addCounts_13 : decode cX1_addCounts 13 = .ok (.iadd, 1) := by decide +kernel
theorem dX1_addCounts_14 : decode cX1_addCounts 14 = .ok (.dup2, 1) := by decide +kernel
theorem dX1_addCounts_15 : decode cX1_addCounts 15 = .ok (.iaload, 1) := by decide +kernel
theorem dX1_addCounts_16 : decode cX1_addCounts 16 = .ok (.aload_n 0, 1) := by decide +kernel
theorem dX1_addCounts_17 : decode cX1_addCounts 17 = .ok (.getfield 9, 3) := by decide +kernel
theorem dX1_addCounts_20 : decode cX1_addCounts 20 = .ok (.iload_n 3, 1) := by decide +kernel
theorem dX1_addCounts_21 : decode cX1_addCounts 21 = .ok (.iaload, 1) := by decide +kernel
theorem dX1_addCounts_22 : decode cX1_addCounts 22 = .ok (.iadd, 1) := by decide +kernel
theorem dX1_addCounts_23 : decode cX1_addCounts 23 = .ok (.iastore, 1) := by decide +kernel
theorem dX1_addCounts_24 : decode cX1_addCounts 24 = .ok (.iinc 3 1, 3) := by decide +kernel
theorem dX1_addCounts_27 : decode cX1_addCounts 27 = .ok (.goto (-25), 3) := by decide +kernel
theorem dX1_addCounts_30 : decode cX1_addCounts 30 = .ok (.return_, 1) := by decide +kernel
theorem dX1_beginPlan_0 : decode cX1_beginPlan 0 = .ok (.aload_n 0, 1) := by decide +kernel
theorem dX1_beginPlan_1 : decode cX1_beginPlan 1 = .ok (.iconst 0, 1) := by decide +kernel
theorem dX1_beginPlan_2 : decode cX1_beginPlan 2 = .ok (.putfield 116, 3) := by decide +kernel
theorem dX1_beginPlan_5 : decode cX1_beginPlan 5 = .ok (.aload_n 0, 1) := by decide +kernel
theorem dX1_beginPlan_6 : decode cX1_beginPlan 6 = .ok (.iconst 0, 1) := by decide +kernel
theorem dX1_beginPlan_7 : decode cX1_beginPlan 7 = .ok (.putfield 57, 3) := by decide +kernel
theorem dX1_beginPlan_10 : decode cX1_beginPlan 10 = .ok (.aload_n 0, 1) := by decide +kernel
theorem dX1_beginPlan_11 : decode cX1_beginPlan 11 = .ok (.getfield 30, 3) := by decide +kernel
theorem dX1_beginPlan_14 : decode cX1_beginPlan 14 = .ok (.iconst 1, 1) := by decide +kernel
theorem dX1_beginPlan_15 : decode cX1_beginPlan 15 = .ok (.iconst 0, 1) := by decide +kernel
theorem dX1_beginPlan_16 : decode cX1_beginPlan 16 = .ok (.iastore, 1) := by decide +kernel
theorem dX1_beginPlan_17 : decode cX1_beginPlan 17 = .ok (.aload_n 0, 1) := by decide +kernel
theorem dX1_beginPlan_18 : decode cX1_beginPlan 18 = .ok (.getfield 30, 3) := by decide +kernel
theorem dX1_beginPlan_21 : decode cX1_beginPlan 21 = .ok (.iconst 2, 1) := by decide +kernel
theorem dX1_beginPlan_22 : decode cX1_beginPlan 22 = .ok (.aload_n 1, 1) := by decide +kernel
theorem dX1_beginPlan_23 : decode cX1_beginPlan 23 = .ok (.getfield 120, 3) := by decide +kernel
theorem dX1_beginPlan_26 : decode cX1_beginPlan 26 = .ok (.iconst 2, 1) := by decide +kernel
theorem dX1_beginPlan_27 : decode cX1_beginPlan 27 = .ok (.iaload, 1) := by decide +kernel
theorem dX1_beginPlan_28 : decode cX1_beginPlan 28 = .ok (.iastore, 1) := by decide +kernel
theorem dX1_beginPlan_29 : decode cX1_beginPlan 29 = .ok (.iconst 0, 1) := by decide +kernel
theorem dX1_beginPlan_30 : decode cX1_beginPlan 30 = .ok (.istore_n 2, 1) := by decide +kernel
theorem dX1_beginPlan_31 : decode cX1_beginPlan 31 = .ok (.iload_n 2, 1) := by decide +kernel
theorem dX1_beginPlan_32 : decode cX1_beginPlan 32 = .ok (.aload_n 1, 1) := by decide +kernel
theorem dX1_beginPlan_33 : decode cX1_beginPlan 33 = .ok (.getfield 123, 3) := by decide +kernel
theorem dX1_beginPlan_36 : decode cX1_beginPlan 36 = .ok (.if_icmp .ge 28, 3) := by decide +kernel
theorem dX1_beginPlan_39 : decode cX1_beginPlan 39 = .ok (.aload_n 0, 1) := by decide +kernel
theorem dX1_beginPlan_40 : decode cX1_beginPlan 40 = .ok (.getfield 15, 3) := by decide +kernel
theorem dX1_beginPlan_43 : decode cX1_beginPlan 43 = .ok (.iload_n 2, 1) := by decide +kernel
theorem dX1_beginPlan_44 : decode cX1_beginPlan 44 = .ok (.aload_n 1, 1) := by decide +kernel
theorem dX1_beginPlan_45 : decode cX1_beginPlan 45 = .ok (.iload_n 2, 1) := by decide +kernel
theorem dX1_beginPlan_46 : decode cX1_beginPlan 46 = .ok (.invokevirtual 126, 3) := by decide +kernel
theorem dX1_beginPlan_49 : decode cX1_beginPlan 49 = .ok (.ifCond .eq 7, 3) := by decide +kernel
theorem dX1_beginPlan_52 : decode cX1_beginPlan 52 = .ok (.iconst 0, 1) := by decide +kernel
theorem dX1_beginPlan_53 : decode cX1_beginPlan 53 = .ok (.goto 4, 3) := by decide +kernel
theorem dX1_beginPlan_56 : decode cX1_beginPlan 56 = .ok (.iconst 1, 1) := by decide +kernel
theorem dX1_beginPlan_57 : decode cX1_beginPlan 57 = .ok (.iastore, 1) := by decide +kernel
theorem dX1_beginPlan_58 : decode cX1_beginPlan 58 = .ok (.iinc 2 1, 3) := by decide +kernel
theorem dX1_beginPlan_61 : decode cX1_beginPlan 61 = .ok (.goto (-30), 3) := by decide +kernel
theorem dX1_beginPlan_64 : decode cX1_beginPlan 64 = .ok (.return_, 1) := by decide +kernel
theorem dX1_planFromRoots_0 : decode cX1_planFromRoots 0 = .ok (.iconst 0, 1) := by decide +kernel
theorem dX1_planFromRoots_1 : decode cX1_planFromRoots 1 = .ok (.istore_n 2, 1) := by decide +kernel
theorem dX1_planFromRoots_2 : decode cX1_planFromRoots 2 = .ok (.iload_n 2, 1) := by decide +kernel
theorem dX1_planFromRoots_3 : decode cX1_planFromRoots 3 = .ok (.bipush 8, 2) := by decide +kernel
theorem dX1_planFromRoots_5 : decode cX1_planFromRoots 5 = .ok (.if_icmp .ge 21, 3) := by decide +kernel
theorem dX1_planFromRoots_8 : decode cX1_planFromRoots 8 = .ok (.aload_n 0, 1) := by decide +kernel
theorem dX1_planFromRoots_9 : decode cX1_planFromRoots 9 = .ok (.aload_n 1, 1) := by decide +kernel
theorem dX1_planFromRoots_10 : decode cX1_planFromRoots 10 = .ok (.aload_n 1, 1) := by decide +kernel
theorem dX1_planFromRoots_11 : decode cX1_planFromRoots 11 = .ok (.getfield 130, 3) := by decide +kernel
theorem dX1_planFromRoots_14 : decode cX1_planFromRoots 14 = .ok (.iload_n 2, 1) := by decide +kernel
theorem dX1_planFromRoots_15 : decode cX1_planFromRoots 15 = .ok (.iaload, 1) := by decide +kernel
theorem dX1_planFromRoots_16 : decode cX1_planFromRoots 16 = .ok (.iconst 1, 1) := by decide +kernel
theorem dX1_planFromRoots_17 : decode cX1_planFromRoots 17 = .ok (.invokevirtual 133, 3) := by decide +kernel
theorem dX1_planFromRoots_20 : decode cX1_planFromRoots 20 = .ok (.iinc 2 1, 3) := by decide +kernel
theorem dX1_planFromRoots_23 : decode cX1_planFromRoots 23 = .ok (.goto (-21), 3) := by decide +kernel
theorem dX1_planFromRoots_26 : decode cX1_planFromRoots 26 = .ok (.iconst 0, 1) := by decide +kernel
theorem dX1_planFromRoots_27 : decode cX1_planFromRoots 27 = .ok (.istore_n 2, 1) := by decide +kernel
theorem dX1_planFromRoots_28 : decode cX1_planFromRoots 28 = .ok (.iload_n 2, 1) := by decide +kernel
theorem dX1_planFromRoots_29 : decode cX1_planFromRoots 29 = .ok (.aload_n 1, 1) := by decide +kernel
theorem dX1_planFromRoots_30 : decode cX1_planFromRoots 30 = .ok (.getfield 136, 3) := by decide +kernel
theorem dX1_planFromRoots_33 : decode cX1_planFromRoots 33 = .ok (.getfield 140, 3) := by decide +kernel
theorem dX1_planFromRoots_36 : decode cX1_planFromRoots 36 = .ok (.if_icmp .ge 23, 3) := by decide +kernel
theorem dX1_planFromRoots_39 : decode cX1_planFromRoots 39 = .ok (.aload_n 0, 1) := by decide +kernel
theorem dX1_planFromRoots_40 : decode cX1_planFromRoots 40 = .ok (.aload_n 1, 1) := by decide +kernel
theorem dX1_planFromRoots_41 : decode cX1_planFromRoots 41 = .ok (.aload_n 1, 1) := by decide +kernel
theorem dX1_planFromRoots_42 : decode cX1_planFromRoots 42 = .ok (.getfield 136, 3) := by decide +kernel
theorem dX1_planFromRoots_45 : decode cX1_planFromRoots 45 = .ok (.iload_n 2, 1) := by decide +kernel
theorem dX1_planFromRoots_46 : decode cX1_planFromRoots 46 = .ok (.invokevirtual 145, 3) := by decide +kernel
theorem dX1_planFromRoots_49 : decode cX1_planFromRoots 49 = .ok (.iconst 1, 1) := by decide +kernel
theorem dX1_planFromRoots_50 : decode cX1_planFromRoots 50 = .ok (.invokevirtual 133, 3) := by decide +kernel
theorem dX1_planFromRoots_53 : decode cX1_planFromRoots 53 = .ok (.iinc 2 1, 3) := by decide +kernel
theorem dX1_planFromRoots_56 : decode cX1_planFromRoots 56 = .ok (.goto (-28), 3) := by decide +kernel
theorem dX1_planFromRoots_59 : decode cX1_planFromRoots 59 = .ok (.iconst 0, 1) := by decide +kernel
theorem dX1_planFromRoots_60 : decode cX1_planFromRoots 60 = .ok (.istore_n 2, 1) := by decide +kernel
theorem dX1_planFromRoots_61 : decode cX1_planFromRoots 61 = .ok (.iload_n 2, 1) := by decide +kernel
theorem dX1_planFromRoots_62 : decode cX1_planFromRoots 62 = .ok (.aload_n 1, 1) := by decide +kernel
theorem dX1_planFromRoots_63 : decode cX1_planFromRoots 63 = .ok (.getfield 149, 3) := by decide +kernel
theorem dX1_planFromRoots_66 : decode cX1_planFromRoots 66 = .ok (.getfield 140, 3) := by decide +kernel
theorem dX1_planFromRoots_69 : decode cX1_planFromRoots 69 = .ok (.if_icmp .ge 53, 3) := by decide +kernel
theorem dX1_planFromRoots_72 : decode cX1_planFromRoots 72 = .ok (.aload_n 1, 1) := by decide +kernel
theorem dX1_planFromRoots_73 : decode cX1_planFromRoots 73 = .ok (.getfield 149, 3) := by decide +kernel
theorem dX1_planFromRoots_76 : decode cX1_planFromRoots 76 = .ok (.iload_n 2, 1) := by decide +kernel
theorem dX1_planFromRoots_77 : decode cX1_planFromRoots 77 = .ok (.invokevirtual 145, 3) := by decide +kernel
theorem dX1_planFromRoots_80 : decode cX1_planFromRoots 80 = .ok (.istore_n 3, 1) := by decide +kernel
theorem dX1_planFromRoots_81 : decode cX1_planFromRoots 81 = .ok (.iload_n 3, 1) := by decide +kernel
theorem dX1_planFromRoots_82 : decode cX1_planFromRoots 82 = .ok (.iconst 4, 1) := by decide +kernel
theorem dX1_planFromRoots_83 : decode cX1_planFromRoots 83 = .ok (.idiv, 1) := by decide +kernel
theorem dX1_planFromRoots_84 : decode cX1_planFromRoots 84 = .ok (.istore 4, 2) := by decide +kernel
theorem dX1_planFromRoots_86 : decode cX1_planFromRoots 86 = .ok (.iload_n 3, 1) := by decide +kernel
theorem dX1_planFromRoots_87 : decode cX1_planFromRoots 87 = .ok (.iconst 4, 1) := by decide +kernel
theorem dX1_planFromRoots_88 : decode cX1_planFromRoots 88 = .ok (.irem, 1) := by decide +kernel
theorem dX1_planFromRoots_89 : decode cX1_planFromRoots 89 = .ok (.istore 5, 2) := by decide +kernel
theorem dX1_planFromRoots_91 : decode cX1_planFromRoots 91 = .ok (.iload 5, 2) := by decide +kernel
theorem dX1_planFromRoots_93 : decode cX1_planFromRoots 93 = .ok (.aload_n 1, 1) := by decide +kernel
theorem dX1_planFromRoots_94 : decode cX1_planFromRoots 94 = .ok (.iload 4, 2) := by decide +kernel
theorem dX1_planFromRoots_96 : decode cX1_planFromRoots 96 = .ok (.invokevirtual 152, 3) := by decide +kernel
theorem dX1_planFromRoots_99 : decode cX1_planFromRoots 99 = .ok (.if_icmp .lt 17, 3) := by decide +kernel
theorem dX1_planFromRoots_102 : decode cX1_planFromRoots 102 = .ok (.aload_n 0, 1) := by decide +kernel
theorem dX1_planFromRoots_103 : decode cX1_planFromRoots 103 = .ok (.aload_n 1, 1) := by decide +kernel
theorem dX1_planFromRoots_104 : decode cX1_planFromRoots 104 = .ok (.aload_n 1, 1) := by decide +kernel
theorem dX1_planFromRoots_105 : decode cX1_planFromRoots 105 = .ok (.iload 4, 2) := by decide +kernel
theorem dX1_planFromRoots_107 : decode cX1_planFromRoots 107 = .ok (.iload 5, 2) := by decide +kernel
theorem dX1_planFromRoots_109 : decode cX1_planFromRoots 109 = .ok (.invokevirtual 155, 3) := by decide +kernel
theorem dX1_planFromRoots_112 : decode cX1_planFromRoots 112 = .ok (.iconst 1, 1) := by decide +kernel
theorem dX1_planFromRoots_113 : decode cX1_planFromRoots 113 = .ok (.invokevirtual 133, 3) := by decide +kernel
theorem dX1_planFromRoots_116 : decode cX1_planFromRoots 116 = .ok (.iinc 2 1, 3) := by decide +kernel
theorem dX1_planFromRoots_119 : decode cX1_planFromRoots 119 = .ok (.goto (-58), 3) := by decide +kernel
theorem dX1_planFromRoots_122 : decode cX1_planFromRoots 122 = .ok (.return_, 1) := by decide +kernel
theorem dX1_planFrom_0 : decode cX1_planFrom 0 = .ok (.iload_n 2, 1) := by decide +kernel
theorem dX1_planFrom_1 : decode cX1_planFrom 1 = .ok (.istore 4, 2) := by decide +kernel
theorem dX1_planFrom_3 : decode cX1_planFrom 3 = .ok (.iload 4, 2) := by decide +kernel
theorem dX1_planFrom_5 : decode cX1_planFrom 5 = .ok (.aload_n 0, 1) := by decide +kernel
theorem dX1_planFrom_6 : decode cX1_planFrom 6 = .ok (.getfield 116, 3) := by decide +kernel
theorem dX1_planFrom_9 : decode cX1_planFrom 9 = .ok (.if_icmp .ge 64, 3) := by decide +kernel
theorem dX1_planFrom_12 : decode cX1_planFrom 12 = .ok (.iload 4, 2) := by decide +kernel
theorem dX1_planFrom_14 : decode cX1_planFrom 14 = .ok (.bipush 80, 2) := by decide +kernel
theorem dX1_planFrom_16 : decode cX1_planFrom 16 = .ok (.if_icmp .ge 57, 3) := by decide +kernel
theorem dX1_planFrom_19 : decode cX1_planFrom 19 = .ok (.aload_n 0, 1) := by decide +kernel
theorem dX1_planFrom_20 : decode cX1_planFrom 20 = .ok (.getfield 18, 3) := by decide +kernel
theorem dX1_planFrom_23 : decode cX1_planFrom 23 = .ok (.iload 4, 2) := by decide +kernel
theorem dX1_planFrom_25 : decode cX1_planFrom 25 = .ok (.iaload, 1) := by decide +kernel
theorem dX1_planFrom_26 : decode cX1_planFrom 26 = .ok (.istore 5, 2) := by decide +kernel
theorem dX1_planFrom_28 : decode cX1_planFrom 28 = .ok (.aload_n 1, 1) := by decide +kernel
theorem dX1_planFrom_29 : decode cX1_planFrom 29 = .ok (.iload 5, 2) := by decide +kernel
theorem dX1_planFrom_31 : decode cX1_planFrom 31 = .ok (.invokevirtual 152, 3) := by decide +kernel
theorem dX1_planFrom_34 : decode cX1_planFrom 34 = .ok (.istore 6, 2) := by decide +kernel
theorem dX1_planFrom_36 : decode cX1_planFrom 36 = .ok (.iload 6, 2) := by decide +kernel
theorem dX1_planFrom_38 : decode cX1_planFrom 38 = .ok (.aload_n 1, 1) := by decide +kernel
theorem dX1_planFrom_39 : decode cX1_planFrom 39 = .ok (.iload 5, 2) := by decide +kernel
theorem dX1_planFrom_41 : decode cX1_planFrom 41 = .ok (.invokevirtual 159, 3) := by decide +kernel
theorem dX1_planFrom_44 : decode cX1_planFrom 44 = .ok (.if_icmp .ge 23, 3) := by decide +kernel
theorem dX1_planFrom_47 : decode cX1_planFrom 47 = .ok (.aload_n 0, 1) := by decide +kernel
theorem dX1_planFrom_48 : decode cX1_planFrom 48 = .ok (.aload_n 1, 1) := by decide +kernel
theorem dX1_planFrom_49 : decode cX1_planFrom 49 = .ok (.aload_n 1, 1) := by decide +kernel
theorem dX1_planFrom_50 : decode cX1_planFrom 50 = .ok (.iload 5, 2) := by decide +kernel
theorem dX1_planFrom_52 : decode cX1_planFrom 52 = .ok (.iload 6, 2) := by decide +kernel
theorem dX1_planFrom_54 : decode cX1_planFrom 54 = .ok (.invokevirtual 155, 3) := by decide +kernel
theorem dX1_planFrom_57 : decode cX1_planFrom 57 = .ok (.iload_n 3, 1) := by decide +kernel
theorem dX1_planFrom_58 : decode cX1_planFrom 58 = .ok (.invokevirtual 133, 3) := by decide +kernel
theorem dX1_planFrom_61 : decode cX1_planFrom 61 = .ok (.iinc 6 1, 3) := by decide +kernel
theorem dX1_planFrom_64 : decode cX1_planFrom 64 = .ok (.goto (-28), 3) := by decide +kernel
theorem dX1_planFrom_67 : decode cX1_planFrom 67 = .ok (.iinc 4 1, 3) := by decide +kernel
theorem dX1_planFrom_70 : decode cX1_planFrom 70 = .ok (.goto (-67), 3) := by decide +kernel
theorem dX1_planFrom_73 : decode cX1_planFrom 73 = .ok (.return_, 1) := by decide +kernel
theorem dX1_planFromLasting_0 : decode cX1_planFromLasting 0 = .ok (.iconst 0, 1) := by decide +kernel
theorem dX1_planFromLasting_1 : decode cX1_planFromLasting 1 = .ok (.istore_n 2, 1) := by decide +kernel
theorem dX1_planFromLasting_2 : decode cX1_planFromLasting 2 = .ok (.iload_n 2, 1) := by decide +kernel
theorem dX1_planFromLasting_3 : decode cX1_planFromLasting 3 = .ok (.aload_n 1, 1) := by decide +kernel
theorem dX1_planFromLasting_4 : decode cX1_planFromLasting 4 = .ok (.getfield 123, 3) := by decide +kernel
theorem dX1_planFromLasting_7 : decode cX1_planFromLasting 7 = .ok (.if_icmp .ge 47, 3) := by decide +kernel
theorem dX1_planFromLasting_10 : decode cX1_planFromLasting 10 = .ok (.aload_n 1, 1) := by decide +kernel
theorem dX1_planFromLasting_11 : decode cX1_planFromLasting 11 = .ok (.getfield 162, 3) := by decide +kernel
theorem dX1_planFromLasting_14 : decode cX1_planFromLasting 14 = .ok (.iload_n 2, 1) := by decide +kernel
theorem dX1_planFromLasting_15 : decode cX1_planFromLasting 15 = .ok (.iaload, 1) := by decide +kernel
theorem dX1_planFromLasting_16 : decode cX1_planFromLasting 16 = .ok (.iconst 2, 1) := by decide +kernel
theorem dX1_planFromLasting_17 : decode cX1_planFromLasting 17 = .ok (.if_icmp .ne 31, 3) := by decide +kernel
theorem dX1_planFromLasting_20 : decode cX1_planFromLasting 20 = .ok (.aload_n 0, 1) := by decide +kernel
theorem dX1_planFromLasting_21 : decode cX1_planFromLasting 21 = .ok (.getfield 15, 3) := by decide +kernel
theorem dX1_planFromLasting_24 : decode cX1_planFromLasting 24 = .ok (.iload_n 2, 1) := by decide +kernel
theorem dX1_planFromLasting_25 : decode cX1_planFromLasting 25 = .ok (.iaload, 1) := by decide +kernel
theorem dX1_planFromLasting_26 : decode cX1_planFromLasting 26 = .ok (.ifCond .ne 22, 3) := by decide +kernel
theorem dX1_planFromLasting_29 : decode cX1_planFromLasting 29 = .ok (.aload_n 0, 1) := by decide +kernel
theorem dX1_planFromLasting_30 : decode cX1_planFromLasting 30 = .ok (.getfield 116, 3) := by decide +kernel
theorem dX1_planFromLasting_33 : decode cX1_planFromLasting 33 = .ok (.istore_n 3, 1) := by decide +kernel
theorem dX1_planFromLasting_34 : decode cX1_planFromLasting 34 = .ok (.aload_n 0, 1) := by decide +kernel
theorem dX1_planFromLasting_35 : decode cX1_planFromLasting 35 = .ok (.aload_n 1, 1) := by decide +kernel
theorem dX1_planFromLasting_36 : decode cX1_planFromLasting 36 = .ok (.iload_n 2, 1) := by decide +kernel
theorem dX1_planFromLasting_37 : decode cX1_planFromLasting 37 = .ok (.iconst 2, 1) := by decide +kernel
theorem dX1_planFromLasting_38 : decode cX1_planFromLasting 38 = .ok (.invokevirtual 133, 3) := by decide +kernel
theorem dX1_planFromLasting_41 : decode cX1_planFromLasting 41 = .ok (.aload_n 0, 1) := by decide +kernel
theorem dX1_planFromLasting_42 : decode cX1_planFromLasting 42 = .ok (.aload_n 1, 1) := by decide +kernel
theorem dX1_planFromLasting_43 : decode cX1_planFromLasting 43 = .ok (.iload_n 3, 1) := by decide +kernel
theorem dX1_planFromLasting_44 : decode cX1_planFromLasting 44 = .ok (.iconst 2, 1) := by decide +kernel
theorem dX1_planFromLasting_45 : decode cX1_planFromLasting 45 = .ok (.invokevirtual 50, 3) := by decide +kernel
theorem dX1_planFromLasting_48 : decode cX1_planFromLasting 48 = .ok (.iinc 2 1, 3) := by decide +kernel
theorem dX1_planFromLasting_51 : decode cX1_planFromLasting 51 = .ok (.goto (-49), 3) := by decide +kernel
theorem dX1_planFromLasting_54 : decode cX1_planFromLasting 54 = .ok (.return_, 1) := by decide +kernel
theorem dX1_planMove_0 : decode cX1_planMove 0 = .ok (.aload_n 0, 1) := by decide +kernel
theorem dX1_planMove_1 : decode cX1_planMove 1 = .ok (.getfield 57, 3) := by decide +kernel
theorem dX1_planMove_4 : decode cX1_planMove 4 = .ok (.ifCond .ne 24, 3) := by decide +kernel
theorem dX1_planMove_7 : decode cX1_planMove 7 = .ok (.iload_n 2, 1) := by decide +kernel
theorem dX1_planMove_8 : decode cX1_planMove 8 = .ok (.ifCond .lt 20, 3) := by decide +kernel
theorem dX1_planMove_11 : decode cX1_planMove 11 = .ok (.iload_n 2, 1) := by decide +kernel
theorem dX1_planMove_12 : decode cX1_planMove 12 = .ok (.aload_n 1, 1) := by decide +kernel
theorem dX1_planMove_13 : decode cX1_planMove 13 = .ok (.getfield 123, 3) := by decide +kernel
theorem dX1_planMove_16 : decode cX1_planMove 16 = .ok (.if_icmp .ge 12, 3) := by decide +kernel
theorem dX1_planMove_19 : decode cX1_planMove 19 = .ok (.aload_n 0, 1) := by decide +kernel
theorem dX1_planMove_20 : decode cX1_planMove 20 = .ok (.getfield 15, 3) := by decide +kernel
theorem dX1_planMove_23 : decode cX1_planMove 23 = .ok (.iload_n 2, 1) := by decide +kernel
theorem dX1_planMove_24 : decode cX1_planMove 24 = .ok (.iaload, 1) := by decide +kernel
theorem dX1_planMove_25 : decode cX1_planMove 25 = .ok (.ifCond .eq 4, 3) := by decide +kernel
theorem dX1_planMove_28 : decode cX1_planMove 28 = .ok (.return_, 1) := by decide +kernel
theorem dX1_planMove_29 : decode cX1_planMove 29 = .ok (.iconst 3, 1) := by decide +kernel
theorem dX1_planMove_30 : decode cX1_planMove 30 = .ok (.aload_n 1, 1) := by decide +kernel
theorem dX1_planMove_31 : decode cX1_planMove 31 = .ok (.getfield 165, 3) := by decide +kernel
theorem dX1_planMove_34 : decode cX1_planMove 34 = .ok (.iload_n 2, 1) := by decide +kernel
theorem dX1_planMove_35 : decode cX1_planMove 35 = .ok (.iaload, 1) := by decide +kernel
theorem dX1_planMove_36 : decode cX1_planMove 36 = .ok (.iadd, 1) := by decide +kernel
theorem dX1_planMove_37 : decode cX1_planMove 37 = .ok (.istore 4, 2) := by decide +kernel
theorem dX1_planMove_39 : decode cX1_planMove 39 = .ok (.aload_n 1, 1) := by decide +kernel
theorem dX1_planMove_40 : decode cX1_planMove 40 = .ok (.getfield 168, 3) := by decide +kernel
theorem dX1_planMove_43 : decode cX1_planMove 43 = .ok (.iload_n 2, 1) := by decide +kernel
theorem dX1_planMove_44 : decode cX1_planMove 44 = .ok (.iaload, 1) := by decide +kernel
theorem dX1_planMove_45 : decode cX1_planMove 45 = .ok (.iconst 1, 1) := by decide +kernel
theorem dX1_planMove_46 : decode cX1_planMove 46 = .ok (.iadd, 1) := by decide +kernel
theorem dX1_planMove_47 : decode cX1_planMove 47 = .ok (.aload_n 0, 1) := by decide +kernel
theorem dX1_planMove_48 : decode cX1_planMove 48 = .ok (.getfield 36, 3) := by decide +kernel
theorem dX1_planMove_51 : decode cX1_planMove 51 = .ok (.iconst 3, 1) := by decide +kernel
theorem dX1_planMove_52 : decode cX1_planMove 52 = .ok (.iaload, 1) := by decide +kernel
theorem dX1_planMove_53 : decode cX1_planMove 53 = .ok (.if_icmp .ge 25, 3) := by decide +kernel
theorem dX1_planMove_56 : decode cX1_planMove 56 = .ok (.aload_n 0, 1) := by decide +kernel
theorem dX1_planMove_57 : decode cX1_planMove 57 = .ok (.getfield 30, 3) := by decide +kernel
theorem dX1_planMove_60 : decode cX1_planMove 60 = .ok (.iconst 1, 1) := by decide +kernel
theorem dX1_planMove_61 : decode cX1_planMove 61 = .ok (.iaload, 1) := by decide +kernel
theorem dX1_planMove_62 : decode cX1_planMove 62 = .ok (.iload 4, 2) := by decide +kernel
theorem dX1_planMove_64 : decode cX1_planMove 64 = .ok (.iadd, 1) := by decide +kernel
theorem dX1_planMove_65 : decode cX1_planMove 65 = .ok (.aload_n 0, 1) := by decide +kernel
theorem dX1_planMove_66 : decode cX1_planMove 66 = .ok (.getfield 36, 3) := by decide +kernel
theorem dX1_planMove_69 : decode cX1_planMove 69 = .ok (.iconst 1, 1) := by decide +kernel
theorem dX1_planMove_70 : decode cX1_planMove 70 = .ok (.iaload, 1) := by decide +kernel
theorem dX1_planMove_71 : decode cX1_planMove 71 = .ok (.if_icmp .gt 7, 3) := by decide +kernel
theorem dX1_planMove_74 : decode cX1_planMove 74 = .ok (.iconst 1, 1) := by decide +kernel
theorem dX1_planMove_75 : decode cX1_planMove 75 = .ok (.goto 4, 3) := by decide +kernel
theorem dX1_planMove_78 : decode cX1_planMove 78 = .ok (.iconst 0, 1) := by decide +kernel
theorem dX1_planMove_79 : decode cX1_planMove 79 = .ok (.istore 5, 2) := by decide +kernel
theorem dX1_planMove_81 : decode cX1_planMove 81 = .ok (.iload 5, 2) := by decide +kernel
theorem dX1_planMove_83 : decode cX1_planMove 83 = .ok (.ifCond .eq 7, 3) := by decide +kernel
theorem dX1_planMove_86 : decode cX1_planMove 86 = .ok (.iconst 1, 1) := by decide +kernel
theorem dX1_planMove_87 : decode cX1_planMove 87 = .ok (.goto 4, 3) := by decide +kernel
theorem dX1_planMove_90 : decode cX1_planMove 90 = .ok (.iconst 2, 1) := by decide +kernel
theorem dX1_planMove_91 : decode cX1_planMove 91 = .ok (.istore 6, 2) := by decide +kernel
theorem dX1_planMove_93 : decode cX1_planMove 93 = .ok (.aload_n 0, 1) := by decide +kernel
theorem dX1_planMove_94 : decode cX1_planMove 94 = .ok (.getfield 30, 3) := by decide +kernel
theorem dX1_planMove_97 : decode cX1_planMove 97 = .ok (.iload 6, 2) := by decide +kernel
theorem dX1_planMove_99 : decode cX1_planMove 99 = .ok (.iaload, 1) := by decide +kernel
theorem dX1_planMove_100 : decode cX1_planMove 100 = .ok (.iload 4, 2) := by decide +kernel
theorem dX1_planMove_102 : decode cX1_planMove 102 = .ok (.iadd, 1) := by decide +kernel
theorem dX1_planMove_103 : decode cX1_planMove 103 = .ok (.aload_n 0, 1) := by decide +kernel
theorem dX1_planMove_104 : decode cX1_planMove 104 = .ok (.getfield 36, 3) := by decide +kernel
theorem dX1_planMove_107 : decode cX1_planMove 107 = .ok (.iload 6, 2) := by decide +kernel
theorem dX1_planMove_109 : decode cX1_planMove 109 = .ok (.iaload, 1) := by decide +kernel
theorem dX1_planMove_110 : decode cX1_planMove 110 = .ok (.if_icmp .le 9, 3) := by decide +kernel
theorem dX1_planMove_113 : decode cX1_planMove 113 = .ok (.aload_n 0, 1) := by decide +kernel
theorem dX1_planMove_114 : decode cX1_planMove 114 = .ok (.iconst 1, 1) := by decide +kernel
theorem dX1_planMove_115 : decode cX1_planMove 115 = .ok (.putfield 57, 3) := by decide +kernel
theorem dX1_planMove_118 : decode cX1_planMove 118 = .ok (.return_, 1) := by decide +kernel
theorem dX1_planMove_119 : decode cX1_planMove 119 = .ok (.aload_n 0, 1) := by decide +kernel
theorem dX1_planMove_120 : decode cX1_planMove 120 = .ok (.getfield 21, 3) := by decide +kernel
theorem dX1_planMove_123 : decode cX1_planMove 123 = .ok (.iload_n 2, 1) := by decide +kernel
theorem dX1_planMove_124 : decode cX1_planMove 124 = .ok (.iload 6, 2) := by decide +kernel
theorem dX1_planMove_126 : decode cX1_planMove 126 = .ok (.iastore, 1) := by decide +kernel
theorem dX1_planMove_127 : decode cX1_planMove 127 = .ok (.aload_n 0, 1) := by decide +kernel
theorem dX1_planMove_128 : decode cX1_planMove 128 = .ok (.getfield 24, 3) := by decide +kernel
theorem dX1_planMove_131 : decode cX1_planMove 131 = .ok (.iload_n 2, 1) := by decide +kernel
theorem dX1_planMove_132 : decode cX1_planMove 132 = .ok (.aload_n 0, 1) := by decide +kernel
theorem dX1_planMove_133 : decode cX1_planMove 133 = .ok (.getfield 30, 3) := by decide +kernel
theorem dX1_planMove_136 : decode cX1_planMove 136 = .ok (.iload 6, 2) := by decide +kernel
theorem dX1_planMove_138 : decode cX1_planMove 138 = .ok (.iaload, 1) := by decide +kernel
theorem dX1_planMove_139 : decode cX1_planMove 139 = .ok (.iastore, 1) := by decide +kernel
theorem dX1_planMove_140 : decode cX1_planMove 140 = .ok (.aload_n 0, 1) := by decide +kernel
theorem dX1_planMove_141 : decode cX1_planMove 141 = .ok (.getfield 30, 3) := by decide +kernel
theorem dX1_planMove_144 : decode cX1_planMove 144 = .ok (.iload 6, 2) := by decide +kernel
theorem dX1_planMove_146 : decode cX1_planMove 146 = .ok (.dup2, 1) := by decide +kernel
theorem dX1_planMove_147 : decode cX1_planMove 147 = .ok (.iaload, 1) := by decide +kernel
theorem dX1_planMove_148 : decode cX1_planMove 148 = .ok (.iload 4, 2) := by decide +kernel
theorem dX1_planMove_150 : decode cX1_planMove 150 = .ok (.iadd, 1) := by decide +kernel
theorem dX1_planMove_151 : decode cX1_planMove 151 = .ok (.iastore, 1) := by decide +kernel
theorem dX1_planMove_152 : decode cX1_planMove 152 = .ok (.aload_n 0, 1) := by decide +kernel
theorem dX1_planMove_153 : decode cX1_planMove 153 = .ok (.getfield 15, 3) := by decide +kernel
theorem dX1_planMove_156 : decode cX1_planMove 156 = .ok (.iload_n 2, 1) := by decide +kernel
theorem dX1_planMove_157 : decode cX1_planMove 157 = .ok (.iload_n 3, 1) := by decide +kernel
theorem dX1_planMove_158 : decode cX1_planMove 158 = .ok (.iastore, 1) := by decide +kernel
theorem dX1_planMove_159 : decode cX1_planMove 159 = .ok (.aload_n 0, 1) := by decide +kernel
theorem dX1_planMove_160 : decode cX1_planMove 160 = .ok (.getfield 18, 3) := by decide +kernel
theorem dX1_planMove_163 : decode cX1_planMove 163 = .ok (.aload_n 0, 1) := by decide +kernel
theorem dX1_planMove_164 : decode cX1_planMove 164 = .ok (.getfield 116, 3) := by decide +kernel
theorem dX1_planMove_167 : decode cX1_planMove 167 = .ok (.iload_n 2, 1) := by decide +kernel
theorem dX1_planMove_168 : decode cX1_planMove 168 = .ok (.iastore, 1) := by decide +kernel
theorem dX1_planMove_169 : decode cX1_planMove 169 = .ok (.aload_n 0, 1) := by decide +kernel
theorem dX1_planMove_170 : decode cX1_planMove 170 = .ok (.dup, 1) := by decide +kernel
theorem dX1_planMove_171 : decode cX1_planMove 171 = .ok (.getfield 116, 3) := by decide +kernel
theorem dX1_planMove_174 : decode cX1_planMove 174 = .ok (.iconst 1, 1) := by decide +kernel
theorem dX1_planMove_175 : decode cX1_planMove 175 = .ok (.iadd, 1) := by decide +kernel
theorem dX1_planMove_176 : decode cX1_planMove 176 = .ok (.putfield 116, 3) := by decide +kernel
theorem dX1_planMove_179 : decode cX1_planMove 179 = .ok (.return_, 1) := by decide +kernel
theorem dX1_stageByMarks_0 : decode cX1_stageByMarks 0 = .ok (.iconst 0, 1) := by decide +kernel
theorem dX1_stageByMarks_1 : decode cX1_stageByMarks 1 = .ok (.istore_n 2, 1) := by decide +kernel
theorem dX1_stageByMarks_2 : decode cX1_stageByMarks 2 = .ok (.iload_n 2, 1) := by decide +kernel
theorem dX1_stageByMarks_3 : decode cX1_stageByMarks 3 = .ok (.aload_n 1, 1) := by decide +kernel
theorem dX1_stageByMarks_4 : decode cX1_stageByMarks 4 = .ok (.getfield 123, 3) := by decide +kernel
theorem dX1_stageByMarks_7 : decode cX1_stageByMarks 7 = .ok (.if_icmp .ge 31, 3) := by decide +kernel
theorem dX1_stageByMarks_10 : decode cX1_stageByMarks 10 = .ok (.aload_n 0, 1) := by decide +kernel
theorem dX1_stageByMarks_11 : decode cX1_stageByMarks 11 = .ok (.getfield 15, 3) := by decide +kernel
theorem dX1_stageByMarks_14 : decode cX1_stageByMarks 14 = .ok (.iload_n 2, 1) := by decide +kernel
theorem dX1_stageByMarks_15 : decode cX1_stageByMarks 15 = .ok (.aload_n 0, 1) := by decide +kernel
theorem dX1_stageByMarks_16 : decode cX1_stageByMarks 16 = .ok (.getfield 39, 3) := by decide +kernel
theorem dX1_stageByMarks_19 : decode cX1_stageByMarks 19 = .ok (.iload_n 2, 1) := by decide +kernel
theorem dX1_stageByMarks_20 : decode cX1_stageByMarks 20 = .ok (.invokevirtual 171, 3) := by decide +kernel
theorem dX1_stageByMarks_23 : decode cX1_stageByMarks 23 = .ok (.ifCond .eq 7, 3) := by decide +kernel
theorem dX1_stageByMarks_26 : decode cX1_stageByMarks 26 = .ok (.iconst 1, 1) := by decide +kernel
theorem dX1_stageByMarks_27 : decode cX1_stageByMarks 27 = .ok (.goto 4, 3) := by decide +kernel
theorem dX1_stageByMarks_30 : decode cX1_stageByMarks 30 = .ok (.iconst 0, 1) := by decide +kernel
theorem dX1_stageByMarks_31 : decode cX1_stageByMarks 31 = .ok (.iastore, 1) := by decide +kernel
theorem dX1_stageByMarks_32 : decode cX1_stageByMarks 32 = .ok (.iinc 2 1, 3) := by decide +kernel
theorem dX1_stageByMarks_35 : decode cX1_stageByMarks 35 = .ok (.goto (-33), 3) := by decide +kernel
theorem dX1_stageByMarks_38 : decode cX1_stageByMarks 38 = .ok (.return_, 1) := by decide +kernel
theorem dX1_markLasting_0 : decode cX1_markLasting 0 = .ok (.aload_n 0, 1) := by decide +kernel
theorem dX1_markLasting_1 : decode cX1_markLasting 1 = .ok (.getfield 39, 3) := by decide +kernel
theorem dX1_markLasting_4 : decode cX1_markLasting 4 = .ok (.getfield 174, 3) := by decide +kernel
theorem dX1_markLasting_7 : decode cX1_markLasting 7 = .ok (.istore_n 2, 1) := by decide +kernel
theorem dX1_markLasting_8 : decode cX1_markLasting 8 = .ok (.iconst 0, 1) := by decide +kernel
theorem dX1_markLasting_9 : decode cX1_markLasting 9 = .ok (.istore_n 3, 1) := by decide +kernel
theorem dX1_markLasting_10 : decode cX1_markLasting 10 = .ok (.iload_n 3, 1) := by decide +kernel
theorem dX1_markLasting_11 : decode cX1_markLasting 11 = .ok (.aload_n 1, 1) := by decide +kernel
theorem dX1_markLasting_12 : decode cX1_markLasting 12 = .ok (.getfield 123, 3) := by decide +kernel
theorem dX1_markLasting_15 : decode cX1_markLasting 15 = .ok (.if_icmp .ge 29, 3) := by decide +kernel
theorem dX1_markLasting_18 : decode cX1_markLasting 18 = .ok (.aload_n 1, 1) := by decide +kernel
theorem dX1_markLasting_19 : decode cX1_markLasting 19 = .ok (.getfield 162, 3) := by decide +kernel
theorem dX1_markLasting_22 : decode cX1_markLasting 22 = .ok (.iload_n 3, 1) := by decide +kernel
theorem dX1_markLasting_23 : decode cX1_markLasting 23 = .ok (.iaload, 1) := by decide +kernel
theorem dX1_markLasting_24 : decode cX1_markLasting 24 = .ok (.iconst 2, 1) := by decide +kernel
theorem dX1_markLasting_25 : decode cX1_markLasting 25 = .ok (.if_icmp .ne 13, 3) := by decide +kernel
theorem dX1_markLasting_28 : decode cX1_markLasting 28 = .ok (.aload_n 0, 1) := by decide +kernel
theorem dX1_markLasting_29 : decode cX1_markLasting 29 = .ok (.getfield 39, 3) := by decide +kernel
theorem dX1_markLasting_32 : decode cX1_markLasting 32 = .ok (.iload_n 3, 1) := by decide +kernel
theorem dX1_markLasting_33 : decode cX1_markLasting 33 = .ok (.iconst (-1), 1) := by decide +kernel
theorem dX1_markLasting_34 : decode cX1_markLasting 34 = .ok (.iconst (-1), 1) := by decide +kernel
theorem dX1_markLasting_35 : decode cX1_markLasting 35 = .ok (.invokevirtual 177, 3) := by decide +kernel
theorem dX1_markLasting_38 : decode cX1_markLasting 38 = .ok (.iinc 3 1, 3) := by decide +kernel
theorem dX1_markLasting_41 : decode cX1_markLasting 41 = .ok (.goto (-31), 3) := by decide +kernel
theorem dX1_markLasting_44 : decode cX1_markLasting 44 = .ok (.aload_n 0, 1) := by decide +kernel
theorem dX1_markLasting_45 : decode cX1_markLasting 45 = .ok (.getfield 39, 3) := by decide +kernel
theorem dX1_markLasting_48 : decode cX1_markLasting 48 = .ok (.aload_n 1, 1) := by decide +kernel
theorem dX1_markLasting_49 : decode cX1_markLasting 49 = .ok (.iload_n 2, 1) := by decide +kernel
theorem dX1_markLasting_50 : decode cX1_markLasting 50 = .ok (.invokevirtual 181, 3) := by decide +kernel
theorem dX1_markLasting_53 : decode cX1_markLasting 53 = .ok (.iload_n 2, 1) := by decide +kernel
theorem dX1_markLasting_54 : decode cX1_markLasting 54 = .ok (.istore_n 3, 1) := by decide +kernel
theorem dX1_markLasting_55 : decode cX1_markLasting 55 = .ok (.iload_n 3, 1) := by decide +kernel
theorem dX1_markLasting_56 : decode cX1_markLasting 56 = .ok (.aload_n 0, 1) := by decide +kernel
theorem dX1_markLasting_57 : decode cX1_markLasting 57 = .ok (.getfield 39, 3) := by decide +kernel
theorem dX1_markLasting_60 : decode cX1_markLasting 60 = .ok (.getfield 174, 3) := by decide +kernel
theorem dX1_markLasting_63 : decode cX1_markLasting 63 = .ok (.if_icmp .ge 24, 3) := by decide +kernel
theorem dX1_markLasting_66 : decode cX1_markLasting 66 = .ok (.aload_n 0, 1) := by decide +kernel
theorem dX1_markLasting_67 : decode cX1_markLasting 67 = .ok (.getfield 15, 3) := by decide +kernel
theorem dX1_markLasting_70 : decode cX1_markLasting 70 = .ok (.aload_n 0, 1) := by decide +kernel
theorem dX1_markLasting_71 : decode cX1_markLasting 71 = .ok (.getfield 39, 3) := by decide +kernel
theorem dX1_markLasting_74 : decode cX1_markLasting 74 = .ok (.getfield 184, 3) := by decide +kernel
theorem dX1_markLasting_77 : decode cX1_markLasting 77 = .ok (.iload_n 3, 1) := by decide +kernel
theorem dX1_markLasting_78 : decode cX1_markLasting 78 = .ok (.iaload, 1) := by decide +kernel
theorem dX1_markLasting_79 : decode cX1_markLasting 79 = .ok (.iconst 2, 1) := by decide +kernel
theorem dX1_markLasting_80 : decode cX1_markLasting 80 = .ok (.iastore, 1) := by decide +kernel
theorem dX1_markLasting_81 : decode cX1_markLasting 81 = .ok (.iinc 3 1, 3) := by decide +kernel
theorem dX1_markLasting_84 : decode cX1_markLasting 84 = .ok (.goto (-29), 3) := by decide +kernel
theorem dX1_markLasting_87 : decode cX1_markLasting 87 = .ok (.return_, 1) := by decide +kernel
theorem dX1_lineUpLasting_0 : decode cX1_lineUpLasting 0 = .ok (.iconst 0, 1) := by decide +kernel
theorem dX1_lineUpLasting_1 : decode cX1_lineUpLasting 1 = .ok (.istore_n 2, 1) := by decide +kernel
theorem dX1_lineUpLasting_2 : decode cX1_lineUpLasting 2 = .ok (.iload_n 2, 1) := by decide +kernel
theorem dX1_lineUpLasting_3 : decode cX1_lineUpLasting 3 = .ok (.aload_n 1, 1) := by decide +kernel
theorem dX1_lineUpLasting_4 : decode cX1_lineUpLasting 4 = .ok (.getfield 123, 3) := by decide +kernel
theorem dX1_lineUpLasting_7 : decode cX1_lineUpLasting 7 = .ok (.if_icmp .ge 47, 3) := by decide +kernel
theorem dX1_lineUpLasting_10 : decode cX1_lineUpLasting 10 = .ok (.aload_n 1, 1) := by decide +kernel
theorem dX1_lineUpLasting_11 : decode cX1_lineUpLasting 11 = .ok (.getfield 162, 3) := by decide +kernel
theorem dX1_lineUpLasting_14 : decode cX1_lineUpLasting 14 = .ok (.iload_n 2, 1) := by decide +kernel
theorem dX1_lineUpLasting_15 : decode cX1_lineUpLasting 15 = .ok (.iaload, 1) := by decide +kernel
theorem dX1_lineUpLasting_16 : decode cX1_lineUpLasting 16 = .ok (.iconst 2, 1) := by decide +kernel
theorem dX1_lineUpLasting_17 : decode cX1_lineUpLasting 17 = .ok (.if_icmp .ne 31, 3) := by decide +kernel
theorem dX1_lineUpLasting_20 : decode cX1_lineUpLasting 20 = .ok (.aload_n 0, 1) := by decide +kernel
theorem dX1_lineUpLasting_21 : decode cX1_lineUpLasting 21 = .ok (.getfield 15, 3) := by decide +kernel
theorem dX1_lineUpLasting_24 : decode cX1_lineUpLasting 24 = .ok (.iload_n 2, 1) := by decide +kernel
theorem dX1_lineUpLasting_25 : decode cX1_lineUpLasting 25 = .ok (.iaload, 1) := by decide +kernel
theorem dX1_lineUpLasting_26 : decode cX1_lineUpLasting 26 = .ok (.iconst 1, 1) := by decide +kernel
theorem dX1_lineUpLasting_27 : decode cX1_lineUpLasting 27 = .ok (.if_icmp .eq 21, 3) := by decide +kernel
theorem dX1_lineUpLasting_30 : decode cX1_lineUpLasting 30 = .ok (.aload_n 1, 1) := by decide +kernel
theorem dX1_lineUpLasting_31 : decode cX1_lineUpLasting 31 = .ok (.getfield 136, 3) := by decide +kernel
theorem dX1_lineUpLasting_34 : decode cX1_lineUpLasting 34 = .ok (.iload_n 2, 1) := by decide +kernel
theorem dX1_lineUpLasting_35 : decode cX1_lineUpLasting 35 = .ok (.invokevirtual 187, 3) := by decide +kernel
theorem dX1_lineUpLasting_38 : decode cX1_lineUpLasting 38 = .ok (.aload_n 0, 1) := by decide +kernel
theorem dX1_lineUpLasting_39 : decode cX1_lineUpLasting 39 = .ok (.getfield 9, 3) := by decide +kernel
theorem dX1_lineUpLasting_42 : decode cX1_lineUpLasting 42 = .ok (.iconst 4, 1) := by decide +kernel
theorem dX1_lineUpLasting_43 : decode cX1_lineUpLasting 43 = .ok (.dup2, 1) := by decide +kernel
theorem dX1_lineUpLasting_44 : decode cX1_lineUpLasting 44 = .ok (.iaload, 1) := by decide +kernel
theorem dX1_lineUpLasting_45 : decode cX1_lineUpLasting 45 = .ok (.iconst 1, 1) := by decide +kernel
theorem dX1_lineUpLasting_46 : decode cX1_lineUpLasting 46 = .ok (.iadd, 1) := by decide +kernel
theorem dX1_lineUpLasting_47 : decode cX1_lineUpLasting 47 = .ok (.iastore, 1) := by decide +kernel
theorem dX1_lineUpLasting_48 : decode cX1_lineUpLasting 48 = .ok (.iinc 2 1, 3) := by decide +kernel
theorem dX1_lineUpLasting_51 : decode cX1_lineUpLasting 51 = .ok (.goto (-49), 3) := by decide +kernel
theorem dX1_lineUpLasting_54 : decode cX1_lineUpLasting 54 = .ok (.return_, 1) := by decide +kernel
theorem dX1_emptyWeak_0 : decode cX1_emptyWeak 0 = .ok (.iconst 0, 1) := by decide +kernel
theorem dX1_emptyWeak_1 : decode cX1_emptyWeak 1 = .ok (.istore_n 3, 1) := by decide +kernel
theorem dX1_emptyWeak_2 : decode cX1_emptyWeak 2 = .ok (.iload_n 3, 1) := by decide +kernel
theorem dX1_emptyWeak_3 : decode cX1_emptyWeak 3 = .ok (.aload_n 1, 1) := by decide +kernel
theorem dX1_emptyWeak_4 : decode cX1_emptyWeak 4 = .ok (.getfield 123, 3) := by decide +kernel
theorem dX1_emptyWeak_7 : decode cX1_emptyWeak 7 = .ok (.if_icmp .ge 95, 3) := by decide +kernel
theorem dX1_emptyWeak_10 : decode cX1_emptyWeak 10 = .ok (.aload_n 1, 1) := by decide +kernel
theorem dX1_emptyWeak_11 : decode cX1_emptyWeak 11 = .ok (.iload_n 3, 1) := by decide +kernel
theorem dX1_emptyWeak_12 : decode cX1_emptyWeak 12 = .ok (.iconst 0, 1) := by decide +kernel
theorem dX1_emptyWeak_13 : decode cX1_emptyWeak 13 = .ok (.invokevirtual 155, 3) := by decide +kernel
theorem dX1_emptyWeak_16 : decode cX1_emptyWeak 16 = .ok (.istore 4, 2) := by decide +kernel
theorem dX1_emptyWeak_18 : decode cX1_emptyWeak 18 = .ok (.aload_n 1, 1) := by decide +kernel
theorem dX1_emptyWeak_19 : decode cX1_emptyWeak 19 = .ok (.iload_n 3, 1) := by decide +kernel
theorem dX1_emptyWeak_20 : decode cX1_emptyWeak 20 = .ok (.invokevirtual 191, 3) := by decide +kernel
theorem dX1_emptyWeak_23 : decode cX1_emptyWeak 23 = .ok (.ifCond .eq 73, 3) := by decide +kernel
theorem dX1_emptyWeak_26 : decode cX1_emptyWeak 26 = .ok (.aload_n 0, 1) := by decide +kernel
theorem dX1_emptyWeak_27 : decode cX1_emptyWeak 27 = .ok (.getfield 15, 3) := by decide +kernel
theorem dX1_emptyWeak_30 : decode cX1_emptyWeak 30 = .ok (.iload_n 3, 1) := by decide +kernel
theorem dX1_emptyWeak_31 : decode cX1_emptyWeak 31 = .ok (.iaload, 1) := by decide +kernel
theorem dX1_emptyWeak_32 : decode cX1_emptyWeak 32 = .ok (.iload_n 2, 1) := by decide +kernel
theorem dX1_emptyWeak_33 : decode cX1_emptyWeak 33 = .ok (.if_icmp .ne 63, 3) := by decide +kernel
theorem dX1_emptyWeak_36 : decode cX1_emptyWeak 36 = .ok (.aload_n 1, 1) := by decide +kernel
theorem dX1_emptyWeak_37 : decode cX1_emptyWeak 37 = .ok (.iload 4, 2) := by decide +kernel
theorem dX1_emptyWeak_39 : decode cX1_emptyWeak 39 = .ok (.invokevirtual 194, 3) := by decide +kernel
theorem dX1_emptyWeak_42 : decode cX1_emptyWeak 42 = .ok (.ifCond .eq 54, 3) := by decide +kernel
theorem dX1_emptyWeak_45 : decode cX1_emptyWeak 45 = .ok (.aload_n 0, 1) := by decide +kernel
theorem dX1_emptyWeak_46 : decode cX1_emptyWeak 46 = .ok (.getfield 15, 3) := by decide +kernel
theorem dX1_emptyWeak_49 : decode cX1_emptyWeak 49 = .ok (.iload 4, 2) := by decide +kernel
theorem dX1_emptyWeak_51 : decode cX1_emptyWeak 51 = .ok (.iaload, 1) := by decide +kernel
theorem dX1_emptyWeak_52 : decode cX1_emptyWeak 52 = .ok (.ifCond .eq 14, 3) := by decide +kernel
theorem dX1_emptyWeak_55 : decode cX1_emptyWeak 55 = .ok (.aload_n 0, 1) := by decide +kernel
theorem dX1_emptyWeak_56 : decode cX1_emptyWeak 56 = .ok (.getfield 15, 3) := by decide +kernel
theorem dX1_emptyWeak_59 : decode cX1_emptyWeak 59 = .ok (.iload 4, 2) := by decide +kernel
theorem dX1_emptyWeak_61 : decode cX1_emptyWeak 61 = .ok (.iaload, 1) := by decide +kernel
theorem dX1_emptyWeak_62 : decode cX1_emptyWeak 62 = .ok (.iload_n 2, 1) := by decide +kernel
theorem dX1_emptyWeak_63 : decode cX1_emptyWeak 63 = .ok (.if_icmp .le 33, 3) := by decide +kernel
theorem dX1_emptyWeak_66 : decode cX1_emptyWeak 66 = .ok (.aload_n 1, 1) := by decide +kernel
theorem dX1_emptyWeak_67 : decode cX1_emptyWeak 67 = .ok (.iload_n 3, 1) := by decide +kernel
theorem dX1_emptyWeak_68 : decode cX1_emptyWeak 68 = .ok (.iconst 0, 1) := by decide +kernel
theorem dX1_emptyWeak_69 : decode cX1_emptyWeak 69 = .ok (.iconst (-1), 1) := by decide +kernel
theorem dX1_emptyWeak_70 : decode cX1_emptyWeak 70 = .ok (.invokevirtual 197, 3) := by decide +kernel
theorem dX1_emptyWeak_73 : decode cX1_emptyWeak 73 = .ok (.aload_n 1, 1) := by decide +kernel
theorem dX1_emptyWeak_74 : decode cX1_emptyWeak 74 = .ok (.getfield 200, 3) := by decide +kernel
theorem dX1_emptyWeak_77 : decode cX1_emptyWeak 77 = .ok (.aload_n 1, 1) := by decide +kernel
theorem dX1_emptyWeak_78 : decode cX1_emptyWeak 78 = .ok (.getfield 203, 3) := by decide +kernel
theorem dX1_emptyWeak_81 : decode cX1_emptyWeak 81 = .ok (.iload_n 3, 1) := by decide +kernel
theorem dX1_emptyWeak_82 : decode cX1_emptyWeak 82 = .ok (.iaload, 1) := by decide +kernel
theorem dX1_emptyWeak_83 : decode cX1_emptyWeak 83 = .ok (.invokevirtual 187, 3) := by decide +kernel
theorem dX1_emptyWeak_86 : decode cX1_emptyWeak 86 = .ok (.aload_n 0, 1) := by decide +kernel
theorem dX1_emptyWeak_87 : decode cX1_emptyWeak 87 = .ok (.getfield 9, 3) := by decide +kernel
theorem dX1_emptyWeak_90 : decode cX1_emptyWeak 90 = .ok (.iconst 3, 1) := by decide +kernel
theorem dX1_emptyWeak_91 : decode cX1_emptyWeak 91 = .ok (.dup2, 1) := by decide +kernel
theorem dX1_emptyWeak_92 : decode cX1_emptyWeak 92 = .ok (.iaload, 1) := by decide +kernel
theorem dX1_emptyWeak_93 : decode cX1_emptyWeak 93 = .ok (.iconst 1, 1) := by decide +kernel
theorem dX1_emptyWeak_94 : decode cX1_emptyWeak 94 = .ok (.iadd, 1) := by decide +kernel
theorem dX1_emptyWeak_95 : decode cX1_emptyWeak 95 = .ok (.iastore, 1) := by decide +kernel
theorem dX1_emptyWeak_96 : decode cX1_emptyWeak 96 = .ok (.iinc 3 1, 3) := by decide +kernel
theorem dX1_emptyWeak_99 : decode cX1_emptyWeak 99 = .ok (.goto (-97), 3) := by decide +kernel
theorem dX1_emptyWeak_102 : decode cX1_emptyWeak 102 = .ok (.return_, 1) := by decide +kernel
theorem dX1_settle_0 : decode cX1_settle 0 = .ok (.iconst 0, 1) := by decide +kernel
theorem dX1_settle_1 : decode cX1_settle 1 = .ok (.istore_n 2, 1) := by decide +kernel
theorem dX1_settle_2 : decode cX1_settle 2 = .ok (.iload_n 2, 1) := by decide +kernel
theorem dX1_settle_3 : decode cX1_settle 3 = .ok (.aload_n 0, 1) := by decide +kernel
theorem dX1_settle_4 : decode cX1_settle 4 = .ok (.getfield 116, 3) := by decide +kernel
theorem dX1_settle_7 : decode cX1_settle 7 = .ok (.if_icmp .ge 80, 3) := by decide +kernel
theorem dX1_settle_10 : decode cX1_settle 10 = .ok (.aload_n 0, 1) := by decide +kernel
theorem dX1_settle_11 : decode cX1_settle 11 = .ok (.getfield 18, 3) := by decide +kernel
theorem dX1_settle_14 : decode cX1_settle 14 = .ok (.iload_n 2, 1) := by decide +kernel
theorem dX1_settle_15 : decode cX1_settle 15 = .ok (.iaload, 1) := by decide +kernel
theorem dX1_settle_16 : decode cX1_settle 16 = .ok (.istore_n 3, 1) := by decide +kernel
theorem dX1_settle_17 : decode cX1_settle 17 = .ok (.aload_n 1, 1) := by decide +kernel
theorem dX1_settle_18 : decode cX1_settle 18 = .ok (.getfield 168, 3) := by decide +kernel
theorem dX1_settle_21 : decode cX1_settle 21 = .ok (.iload_n 3, 1) := by decide +kernel
theorem dX1_settle_22 : decode cX1_settle 22 = .ok (.dup2, 1) := by decide +kernel
theorem dX1_settle_23 : decode cX1_settle 23 = .ok (.iaload, 1) := by decide +kernel
theorem dX1_settle_24 : decode cX1_settle 24 = .ok (.iconst 1, 1) := by decide +kernel
theorem dX1_settle_25 : decode cX1_settle 25 = .ok (.iadd, 1) := by decide +kernel
theorem dX1_settle_26 : decode cX1_settle 26 = .ok (.iastore, 1) := by decide +kernel
theorem dX1_settle_27 : decode cX1_settle 27 = .ok (.aload_n 1, 1) := by decide +kernel
theorem dX1_settle_28 : decode cX1_settle 28 = .ok (.getfield 206, 3) := by decide +kernel
theorem dX1_settle_31 : decode cX1_settle 31 = .ok (.iload_n 3, 1) := by decide +kernel
theorem dX1_settle_32 : decode cX1_settle 32 = .ok (.aload_n 0, 1) := by decide +kernel
theorem dX1_settle_33 : decode cX1_settle 33 = .ok (.getfield 21, 3) := by decide +kernel
theorem dX1_settle_36 : decode cX1_settle 36 = .ok (.iload_n 3, 1) := by decide +kernel
theorem dX1_settle_37 : decode cX1_settle 37 = .ok (.iaload, 1) := by decide +kernel
theorem dX1_settle_38 : decode cX1_settle 38 = .ok (.iastore, 1) := by decide +kernel
theorem dX1_settle_39 : decode cX1_settle 39 = .ok (.aload_n 1, 1) := by decide +kernel
theorem dX1_settle_40 : decode cX1_settle 40 = .ok (.getfield 209, 3) := by decide +kernel
theorem dX1_settle_43 : decode cX1_settle 43 = .ok (.iload_n 3, 1) := by decide +kernel
theorem dX1_settle_44 : decode cX1_settle 44 = .ok (.aload_n 0, 1) := by decide +kernel
theorem dX1_settle_45 : decode cX1_settle 45 = .ok (.getfield 24, 3) := by decide +kernel
theorem dX1_settle_48 : decode cX1_settle 48 = .ok (.iload_n 3, 1) := by decide +kernel
theorem dX1_settle_49 : decode cX1_settle 49 = .ok (.iaload, 1) := by decide +kernel
theorem dX1_settle_50 : decode cX1_settle 50 = .ok (.iastore, 1) := by decide +kernel
theorem dX1_settle_51 : decode cX1_settle 51 = .ok (.aload_n 0, 1) := by decide +kernel
theorem dX1_settle_52 : decode cX1_settle 52 = .ok (.getfield 9, 3) := by decide +kernel
theorem dX1_settle_55 : decode cX1_settle 55 = .ok (.iconst 0, 1) := by decide +kernel
theorem dX1_settle_56 : decode cX1_settle 56 = .ok (.dup2, 1) := by decide +kernel
theorem dX1_settle_57 : decode cX1_settle 57 = .ok (.iaload, 1) := by decide +kernel
theorem dX1_settle_58 : decode cX1_settle 58 = .ok (.iconst 1, 1) := by decide +kernel
theorem dX1_settle_59 : decode cX1_settle 59 = .ok (.iadd, 1) := by decide +kernel
theorem dX1_settle_60 : decode cX1_settle 60 = .ok (.iastore, 1) := by decide +kernel
theorem dX1_settle_61 : decode cX1_settle 61 = .ok (.aload_n 0, 1) := by decide +kernel
theorem dX1_settle_62 : decode cX1_settle 62 = .ok (.getfield 21, 3) := by decide +kernel
theorem dX1_settle_65 : decode cX1_settle 65 = .ok (.iload_n 3, 1) := by decide +kernel
theorem dX1_settle_66 : decode cX1_settle 66 = .ok (.iaload, 1) := by decide +kernel
theorem dX1_settle_67 : decode cX1_settle 67 = .ok (.iconst 2, 1) := by decide +kernel
theorem dX1_settle_68 : decode cX1_settle 68 = .ok (.if_icmp .ne 13, 3) := by decide +kernel
theorem dX1_settle_71 : decode cX1_settle 71 = .ok (.aload_n 0, 1) := by decide +kernel
theorem dX1_settle_72 : decode cX1_settle 72 = .ok (.getfield 9, 3) := by decide +kernel
theorem dX1_settle_75 : decode cX1_settle 75 = .ok (.iconst 1, 1) := by decide +kernel
theorem dX1_settle_76 : decode cX1_settle 76 = .ok (.dup2, 1) := by decide +kernel
theorem dX1_settle_77 : decode cX1_settle 77 = .ok (.iaload, 1) := by decide +kernel
theorem dX1_settle_78 : decode cX1_settle 78 = .ok (.iconst 1, 1) := by decide +kernel
theorem dX1_settle_79 : decode cX1_settle 79 = .ok (.iadd, 1) := by decide +kernel
theorem dX1_settle_80 : decode cX1_settle 80 = .ok (.iastore, 1) := by decide +kernel
theorem dX1_settle_81 : decode cX1_settle 81 = .ok (.iinc 2 1, 3) := by decide +kernel
theorem dX1_settle_84 : decode cX1_settle 84 = .ok (.goto (-82), 3) := by decide +kernel
theorem dX1_settle_87 : decode cX1_settle 87 = .ok (.aload_n 1, 1) := by decide +kernel
theorem dX1_settle_88 : decode cX1_settle 88 = .ok (.getfield 120, 3) := by decide +kernel
theorem dX1_settle_91 : decode cX1_settle 91 = .ok (.iconst 0, 1) := by decide +kernel
theorem dX1_settle_92 : decode cX1_settle 92 = .ok (.iconst 0, 1) := by decide +kernel
theorem dX1_settle_93 : decode cX1_settle 93 = .ok (.iastore, 1) := by decide +kernel
theorem dX1_settle_94 : decode cX1_settle 94 = .ok (.aload_n 1, 1) := by decide +kernel
theorem dX1_settle_95 : decode cX1_settle 95 = .ok (.getfield 120, 3) := by decide +kernel
theorem dX1_settle_98 : decode cX1_settle 98 = .ok (.iconst 1, 1) := by decide +kernel
theorem dX1_settle_99 : decode cX1_settle 99 = .ok (.aload_n 0, 1) := by decide +kernel
theorem dX1_settle_100 : decode cX1_settle 100 = .ok (.getfield 30, 3) := by decide +kernel
theorem dX1_settle_103 : decode cX1_settle 103 = .ok (.iconst 1, 1) := by decide +kernel
theorem dX1_settle_104 : decode cX1_settle 104 = .ok (.iaload, 1) := by decide +kernel
theorem dX1_settle_105 : decode cX1_settle 105 = .ok (.iastore, 1) := by decide +kernel
theorem dX1_settle_106 : decode cX1_settle 106 = .ok (.aload_n 1, 1) := by decide +kernel
theorem dX1_settle_107 : decode cX1_settle 107 = .ok (.getfield 120, 3) := by decide +kernel
theorem dX1_settle_110 : decode cX1_settle 110 = .ok (.iconst 2, 1) := by decide +kernel
theorem dX1_settle_111 : decode cX1_settle 111 = .ok (.aload_n 0, 1) := by decide +kernel
theorem dX1_settle_112 : decode cX1_settle 112 = .ok (.getfield 30, 3) := by decide +kernel
theorem dX1_settle_115 : decode cX1_settle 115 = .ok (.iconst 2, 1) := by decide +kernel
theorem dX1_settle_116 : decode cX1_settle 116 = .ok (.iaload, 1) := by decide +kernel
theorem dX1_settle_117 : decode cX1_settle 117 = .ok (.iastore, 1) := by decide +kernel
theorem dX1_settle_118 : decode cX1_settle 118 = .ok (.aload_n 1, 1) := by decide +kernel
theorem dX1_settle_119 : decode cX1_settle 119 = .ok (.iconst 1, 1) := by decide +kernel
theorem dX1_settle_120 : decode cX1_settle 120 = .ok (.aload_n 1, 1) := by decide +kernel
theorem dX1_settle_121 : decode cX1_settle 121 = .ok (.getfield 212, 3) := by decide +kernel
theorem dX1_settle_124 : decode cX1_settle 124 = .ok (.isub, 1) := by decide +kernel
theorem dX1_settle_125 : decode cX1_settle 125 = .ok (.putfield 212, 3) := by decide +kernel
theorem dX1_settle_128 : decode cX1_settle 128 = .ok (.return_, 1) := by decide +kernel
theorem dX1_pushTogether_0 : decode cX1_pushTogether 0 = .ok (.aload_n 0, 1) := by decide +kernel
theorem dX1_pushTogether_1 : decode cX1_pushTogether 1 = .ok (.getfield 33, 3) := by decide +kernel
theorem dX1_pushTogether_4 : decode cX1_pushTogether 4 = .ok (.iconst (-1), 1) := by decide +kernel
theorem dX1_pushTogether_5 : decode cX1_pushTogether 5 = .ok (.invokestatic 61, 3) := by decide +kernel
theorem dX1_pushTogether_8 : decode cX1_pushTogether 8 = .ok (.iconst 0, 1) := by decide +kernel
theorem dX1_pushTogether_9 : decode cX1_pushTogether 9 = .ok (.istore_n 2, 1) := by decide +kernel
theorem dX1_pushTogether_10 : decode cX1_pushTogether 10 = .ok (.iload_n 2, 1) := by decide +kernel
theorem dX1_pushTogether_11 : decode cX1_pushTogether 11 = .ok (.aload_n 1, 1) := by decide +kernel
theorem dX1_pushTogether_12 : decode cX1_pushTogether 12 = .ok (.getfield 123, 3) := by decide +kernel
theorem dX1_pushTogether_15 : decode cX1_pushTogether 15 = .ok (.if_icmp .ge 51, 3) := by decide +kernel
theorem dX1_pushTogether_18 : decode cX1_pushTogether 18 = .ok (.aload_n 1, 1) := by decide +kernel
theorem dX1_pushTogether_19 : decode cX1_pushTogether 19 = .ok (.getfield 209, 3) := by decide +kernel
theorem dX1_pushTogether_22 : decode cX1_pushTogether 22 = .ok (.iload_n 2, 1) := by decide +kernel
theorem dX1_pushTogether_23 : decode cX1_pushTogether 23 = .ok (.iaload, 1) := by decide +kernel
theorem dX1_pushTogether_24 : decode cX1_pushTogether 24 = .ok (.istore_n 3, 1) := by decide +kernel
theorem dX1_pushTogether_25 : decode cX1_pushTogether 25 = .ok (.aload_n 1, 1) := by decide +kernel
theorem dX1_pushTogether_26 : decode cX1_pushTogether 26 = .ok (.iload_n 2, 1) := by decide +kernel
theorem dX1_pushTogether_27 : decode cX1_pushTogether 27 = .ok (.invokevirtual 126, 3) := by decide +kernel
theorem dX1_pushTogether_30 : decode cX1_pushTogether 30 = .ok (.ifCond .ne 30, 3) := by decide +kernel
theorem dX1_pushTogether_33 : decode cX1_pushTogether 33 = .ok (.aload_n 0, 1) := by decide +kernel
theorem dX1_pushTogether_34 : decode cX1_pushTogether 34 = .ok (.getfield 15, 3) := by decide +kernel
theorem dX1_pushTogether_37 : decode cX1_pushTogether 37 = .ok (.iload_n 2, 1) := by decide +kernel
theorem dX1_pushTogether_38 : decode cX1_pushTogether 38 = .ok (.iaload, 1) := by decide +kernel
theorem dX1_pushTogether_39 : decode cX1_pushTogether 39 = .ok (.ifCond .eq 21, 3) := by decide +kernel
theorem dX1_pushTogether_42 : decode cX1_pushTogether 42 = .ok (.iload_n 3, 1) := by decide +kernel
theorem dX1_pushTogether_43 : decode cX1_pushTogether 43 = .ok (.ifCond .lt 17, 3) := by decide +kernel
theorem dX1_pushTogether_46 : decode cX1_pushTogether 46 = .ok (.iload_n 3, 1) := by decide +kernel
theorem dX1_pushTogether_47 : decode cX1_pushTogether 47 = .ok (.sipush 128, 3) := by decide +kernel
theorem dX1_pushTogether_50 : decode cX1_pushTogether 50 = .ok (.if_icmp .ge 10, 3) := by decide +kernel
theorem dX1_pushTogether_53 : decode cX1_pushTogether 53 = .ok (.aload_n 0, 1) := by decide +kernel
theorem dX1_pushTogether_54 : decode cX1_pushTogether 54 = .ok (.getfield 33, 3) := by decide +kernel
theorem dX1_pushTogether_57 : decode cX1_pushTogether 57 = .ok (.iload_n 3, 1) := by decide +kernel
theorem dX1_pushTogether_58 : decode cX1_pushTogether 58 = .ok (.iload_n 2, 1) := by decide +kernel
theorem dX1_pushTogether_59 : decode cX1_pushTogether 59 = .ok (.iastore, 1) := by decide +kernel
theorem dX1_pushTogether_60 : decode cX1_pushTogether 60 = .ok (.iinc 2 1, 3) := by decide +kernel
theorem dX1_pushTogether_63 : decode cX1_pushTogether 63 = .ok (.goto (-53), 3) := by decide +kernel
theorem dX1_pushTogether_66 : decode cX1_pushTogether 66 = .ok (.iconst 0, 1) := by decide +kernel
theorem dX1_pushTogether_67 : decode cX1_pushTogether 67 = .ok (.istore_n 2, 1) := by decide +kernel
theorem dX1_pushTogether_68 : decode cX1_pushTogether 68 = .ok (.iconst 0, 1) := by decide +kernel
theorem dX1_pushTogether_69 : decode cX1_pushTogether 69 = .ok (.istore_n 3, 1) := by decide +kernel
theorem dX1_pushTogether_70 : decode cX1_pushTogether 70 = .ok (.iload_n 3, 1) := by decide +kernel
theorem dX1_pushTogether_71 : decode cX1_pushTogether 71 = .ok (.sipush 128, 3) := by decide +kernel
theorem dX1_pushTogether_74 : decode cX1_pushTogether 74 = .ok (.if_icmp .ge 59, 3) := by decide +kernel
theorem dX1_pushTogether_77 : decode cX1_pushTogether 77 = .ok (.aload_n 0, 1) := by decide +kernel
theorem dX1_pushTogether_78 : decode cX1_pushTogether 78 = .ok (.getfield 33, 3) := by decide +kernel
theorem dX1_pushTogether_81 : decode cX1_pushTogether 81 = .ok (.iload_n 3, 1) := by decide +kernel
theorem dX1_pushTogether_82 : decode cX1_pushTogether 82 = .ok (.iaload, 1) := by decide +kernel
theorem dX1_pushTogether_83 : decode cX1_pushTogether 83 = .ok (.istore 4, 2) := by decide +kernel
theorem dX1_pushTogether_85 : decode cX1_pushTogether 85 = .ok (.iload 4, 2) := by decide +kernel
theorem dX1_pushTogether_87 : decode cX1_pushTogether 87 = .ok (.iconst (-1), 1) := by decide +kernel
theorem dX1_pushTogether_88 : decode cX1_pushTogether 88 = .ok (.if_icmp .eq 39, 3) := by decide +kernel
theorem dX1_pushTogether_91 : decode cX1_pushTogether 91 = .ok (.aload_n 0, 1) := by decide +kernel
theorem dX1_pushTogether_92 : decode cX1_pushTogether 92 = .ok (.getfield 9, 3) := by decide +kernel
theorem dX1_pushTogether_95 : decode cX1_pushTogether 95 = .ok (.iconst 0, 1) := by decide +kernel
theorem dX1_pushTogether_96 : decode cX1_pushTogether 96 = .ok (.dup2, 1) := by decide +kernel
theorem dX1_pushTogether_97 : decode cX1_pushTogether 97 = .ok (.iaload, 1) := by decide +kernel
theorem dX1_pushTogether_98 : decode cX1_pushTogether 98 = .ok (.iload_n 3, 1) := by decide +kernel
theorem dX1_pushTogether_99 : decode cX1_pushTogether 99 = .ok (.iload_n 2, 1) := by decide +kernel
theorem dX1_pushTogether_100 : decode cX1_pushTogether 100 = .ok (.if_icmp .ne 7, 3) := by decide +kernel
theorem dX1_pushTogether_103 : decode cX1_pushTogether 103 = .ok (.iconst 0, 1) := by decide +kernel
theorem dX1_pushTogether_104 : decode cX1_pushTogether 104 = .ok (.goto 4, 3) := by decide +kernel
theorem dX1_pushTogether_107 : decode cX1_pushTogether 107 = .ok (.iconst 1, 1) := by decide +kernel
theorem dX1_pushTogether_108 : decode cX1_pushTogether 108 = .ok (.iadd, 1) := by decide +kernel
theorem dX1_pushTogether_109 : decode cX1_pushTogether 109 = .ok (.iastore, 1) := by decide +kernel
theorem dX1_pushTogether_110 : decode cX1_pushTogether 110 = .ok (.aload_n 1, 1) := by decide +kernel
theorem dX1_pushTogether_111 : decode cX1_pushTogether 111 = .ok (.getfield 209, 3) := by decide +kernel
theorem dX1_pushTogether_114 : decode cX1_pushTogether 114 = .ok (.iload 4, 2) := by decide +kernel
theorem dX1_pushTogether_116 : decode cX1_pushTogether 116 = .ok (.iload_n 2, 1) := by decide +kernel
theorem dX1_pushTogether_117 : decode cX1_pushTogether 117 = .ok (.iastore, 1) := by decide +kernel
theorem dX1_pushTogether_118 : decode cX1_pushTogether 118 = .ok (.iload_n 2, 1) := by decide +kernel
theorem dX1_pushTogether_119 : decode cX1_pushTogether 119 = .ok (.aload_n 1, 1) := by decide +kernel
theorem dX1_pushTogether_120 : decode cX1_pushTogether 120 = .ok (.iload 4, 2) := by decide +kernel
theorem dX1_pushTogether_122 : decode cX1_pushTogether 122 = .ok (.invokevirtual 215, 3) := by decide +kernel
theorem dX1_pushTogether_125 : decode cX1_pushTogether 125 = .ok (.iadd, 1) := by decide +kernel
theorem dX1_pushTogether_126 : decode cX1_pushTogether 126 = .ok (.istore_n 2, 1) := by decide +kernel
theorem dX1_pushTogether_127 : decode cX1_pushTogether 127 = .ok (.iinc 3 1, 3) := by decide +kernel
theorem dX1_pushTogether_130 : decode cX1_pushTogether 130 = .ok (.goto (-60), 3) := by decide +kernel
theorem dX1_pushTogether_133 : decode cX1_pushTogether 133 = .ok (.aload_n 1, 1) := by decide +kernel
theorem dX1_pushTogether_134 : decode cX1_pushTogether 134 = .ok (.getfield 120, 3) := by decide +kernel
theorem dX1_pushTogether_137 : decode cX1_pushTogether 137 = .ok (.iconst 2, 1) := by decide +kernel
theorem dX1_pushTogether_138 : decode cX1_pushTogether 138 = .ok (.iload_n 2, 1) := by decide +kernel
theorem dX1_pushTogether_139 : decode cX1_pushTogether 139 = .ok (.iastore, 1) := by decide +kernel
theorem dX1_pushTogether_140 : decode cX1_pushTogether 140 = .ok (.return_, 1) := by decide +kernel
theorem dX1_unlinkUnkeptYoung_0 : decode cX1_unlinkUnkeptYoung 0 = .ok (.iconst 0, 1) := by decide +kernel
theorem dX1_unlinkUnkeptYoung_1 : decode cX1_unlinkUnkeptYoung 1 = .ok (.istore_n 2, 1) := by decide +kernel
theorem dX1_unlinkUnkeptYoung_2 : decode cX1_unlinkUnkeptYoung 2 = .ok (.iload_n 2, 1) := by decide +kernel
theorem dX1_unlinkUnkeptYoung_3 : decode cX1_unlinkUnkeptYoung 3 = .ok (.aload_n 1, 1) := by decide +kernel
theorem dX1_unlinkUnkeptYoung_4 : decode cX1_unlinkUnkeptYoung 4 = .ok (.getfield 123, 3) := by decide +kernel
theorem dX1_unlinkUnkeptYoung_7 : decode cX1_unlinkUnkeptYoung 7 = .ok (.if_icmp .ge 50, 3) := by decide +kernel
theorem dX1_unlinkUnkeptYoung_10 : decode cX1_unlinkUnkeptYoung 10 = .ok (.aload_n 1, 1) := by decide +kernel
theorem dX1_unlinkUnkeptYoung_11 : decode cX1_unlinkUnkeptYoung 11 = .ok (.iload_n 2, 1) := by decide +kernel
theorem dX1_unlinkUnkeptYoung_12 : decode cX1_unlinkUnkeptYoung 12 = .ok (.invokevirtual 126, 3) := by decide +kernel
theorem dX1_unlinkUnkeptYoung_15 : decode cX1_unlinkUnkeptYoung 15 = .ok (.ifCond .eq 36, 3) := by decide +kernel
theorem dX1_unlinkUnkeptYoung_18 : decode cX1_unlinkUnkeptYoung 18 = .ok (.aload_n 0, 1) := by decide +kernel
theorem dX1_unlinkUnkeptYoung_19 : decode cX1_unlinkUnkeptYoung 19 = .ok (.getfield 15, 3) := by decide +kernel
theorem dX1_unlinkUnkeptYoung_22 : decode cX1_unlinkUnkeptYoung 22 = .ok (.iload_n 2, 1) := by decide +kernel
theorem dX1_unlinkUnkeptYoung_23 : decode cX1_unlinkUnkeptYoung 23 = .ok (.iaload, 1) := by decide +kernel
theorem dX1_unlinkUnkeptYoung_24 : decode cX1_unlinkUnkeptYoung 24 = .ok (.ifCond .ne 27, 3) := by decide +kernel
theorem dX1_unlinkUnkeptYoung_27 : decode cX1_unlinkUnkeptYoung 27 = .ok (.iconst 0, 1) := by decide +kernel
theorem dX1_unlinkUnkeptYoung_28 : decode cX1_unlinkUnkeptYoung 28 = .ok (.istore_n 3, 1) := by decide +kernel
theorem dX1_unlinkUnkeptYoung_29 : decode cX1_unlinkUnkeptYoung 29 = .ok (.iload_n 3, 1) := by decide +kernel
theorem dX1_unlinkUnkeptYoung_30 : decode cX1_unlinkUnkeptYoung 30 = .ok (.aload_n 1, 1) := by decide +kernel
theorem dX1_unlinkUnkeptYoung_31 : decode cX1_unlinkUnkeptYoung 31 = .ok (.iload_n 2, 1) := by decide +kernel
theorem dX1_unlinkUnkeptYoung_32 : decode cX1_unlinkUnkeptYoung 32 = .ok (.invokevirtual 159, 3) := by decide +kernel
theorem dX1_unlinkUnkeptYoung_35 : decode cX1_unlinkUnkeptYoung 35 = .ok (.if_icmp .ge 16, 3) := by decide +kernel
theorem dX1_unlinkUnkeptYoung_38 : decode cX1_unlinkUnkeptYoung 38 = .ok (.aload_n 1, 1) := by decide +kernel
theorem dX1_unlinkUnkeptYoung_39 : decode cX1_unlinkUnkeptYoung 39 = .ok (.iload_n 2, 1) := by decide +kernel
theorem dX1_unlinkUnkeptYoung_40 : decode cX1_unlinkUnkeptYoung 40 = .ok (.iload_n 3, 1) := by decide +kernel
theorem dX1_unlinkUnkeptYoung_41 : decode cX1_unlinkUnkeptYoung 41 = .ok (.iconst (-1), 1) := by decide +kernel
theorem dX1_unlinkUnkeptYoung_42 : decode cX1_unlinkUnkeptYoung 42 = .ok (.invokevirtual 197, 3) := by decide +kernel
theorem dX1_unlinkUnkeptYoung_45 : decode cX1_unlinkUnkeptYoung 45 = .ok (.iinc 3 1, 3) := by decide +kernel
theorem dX1_unlinkUnkeptYoung_48 : decode cX1_unlinkUnkeptYoung 48 = .ok (.goto (-19), 3) := by decide +kernel
theorem dX1_unlinkUnkeptYoung_51 : decode cX1_unlinkUnkeptYoung 51 = .ok (.iinc 2 1, 3) := by decide +kernel
theorem dX1_unlinkUnkeptYoung_54 : decode cX1_unlinkUnkeptYoung 54 = .ok (.goto (-52), 3) := by decide +kernel
theorem dX1_unlinkUnkeptYoung_57 : decode cX1_unlinkUnkeptYoung 57 = .ok (.return_, 1) := by decide +kernel
theorem dX1_dropRemembered_0 : decode cX1_dropRemembered 0 = .ok (.aload_n 1, 1) := by decide +kernel
theorem dX1_dropRemembered_1 : decode cX1_dropRemembered 1 = .ok (.getfield 149, 3) := by decide +kernel
theorem dX1_dropRemembered_4 : decode cX1_dropRemembered 4 = .ok (.astore_n 2, 1) := by decide +kernel
theorem dX1_dropRemembered_5 : decode cX1_dropRemembered 5 = .ok (.iconst 0, 1) := by decide +kernel
theorem dX1_dropRemembered_6 : decode cX1_dropRemembered 6 = .ok (.istore_n 3, 1) := by decide +kernel
theorem dX1_dropRemembered_7 : decode cX1_dropRemembered 7 = .ok (.iconst 0, 1) := by decide +kernel
theorem dX1_dropRemembered_8 : decode cX1_dropRemembered 8 = .ok (.istore 4, 2) := by decide +kernel
theorem dX1_dropRemembered_10 : decode cX1_dropRemembered 10 = .ok (.iload 4, 2) := by decide +kernel
theorem dX1_dropRemembered_12 : decode cX1_dropRemembered 12 = .ok (.aload_n 2, 1) := by decide +kernel
theorem dX1_dropRemembered_13 : decode cX1_dropRemembered 13 = .ok (.getfield 140, 3) := by decide +kernel
theorem dX1_dropRemembered_16 : decode cX1_dropRemembered 16 = .ok (.if_icmp .ge 56, 3) := by decide +kernel
theorem dX1_dropRemembered_19 : decode cX1_dropRemembered 19 = .ok (.aload_n 2, 1) := by decide +kernel
theorem dX1_dropRemembered_20 : decode cX1_dropRemembered 20 = .ok (.iload 4, 2) := by decide +kernel
theorem dX1_dropRemembered_22 : decode cX1_dropRemembered 22 = .ok (.invokevirtual 145, 3) := by decide +kernel
theorem dX1_dropRemembered_25 : decode cX1_dropRemembered 25 = .ok (.istore 5, 2) := by decide +kernel
theorem dX1_dropRemembered_27 : decode cX1_dropRemembered 27 = .ok (.iload 5, 2) := by decide +kernel
theorem dX1_dropRemembered_29 : decode cX1_dropRemembered 29 = .ok (.iconst 4, 1) := by decide +kernel
theorem dX1_dropRemembered_30 : decode cX1_dropRemembered 30 = .ok (.idiv, 1) := by decide +kernel
theorem dX1_dropRemembered_31 : decode cX1_dropRemembered 31 = .ok (.istore 6, 2) := by decide +kernel
theorem dX1_dropRemembered_33 : decode cX1_dropRemembered 33 = .ok (.aload_n 1, 1) := by decide +kernel
theorem dX1_dropRemembered_34 : decode cX1_dropRemembered 34 = .ok (.iload 6, 2) := by decide +kernel
theorem dX1_dropRemembered_36 : decode cX1_dropRemembered 36 = .ok (.iload 5, 2) := by decide +kernel
theorem dX1_dropRemembered_38 : decode cX1_dropRemembered 38 = .ok (.iconst 4, 1) := by decide +kernel
theorem dX1_dropRemembered_39 : decode cX1_dropRemembered 39 = .ok (.irem, 1) := by decide +kernel
theorem dX1_dropRemembered_40 : decode cX1_dropRemembered 40 = .ok (.invokevirtual 218, 3) := by decide +kernel
theorem dX1_dropRemembered_43 : decode cX1_dropRemembered 43 = .ok (.ifCond .eq 23, 3) := by decide +kernel
theorem dX1_dropRemembered_46 : decode cX1_dropRemembered 46 = .ok (.aload_n 0, 1) := by decide +kernel
theorem dX1_dropRemembered_47 : decode cX1_dropRemembered 47 = .ok (.getfield 15, 3) := by decide +kernel
theorem dX1_dropRemembered_50 : decode cX1_dropRemembered 50 = .ok (.iload 6, 2) := by decide +kernel
theorem dX1_dropRemembered_52 : decode cX1_dropRemembered 52 = .ok (.iaload, 1) := by decide +kernel
theorem dX1_dropRemembered_53 : decode cX1_dropRemembered 53 = .ok (.ifCond .eq 13, 3) := by decide +kernel
theorem dX1_dropRemembered_56 : decode cX1_dropRemembered 56 = .ok (.aload_n 2, 1) := by decide +kernel
theorem dX1_dropRemembered_57 : decode cX1_dropRemembered 57 = .ok (.iload_n 3, 1) := by decide +kernel
theorem dX1_dropRemembered_58 : decode cX1_dropRemembered 58 = .ok (.iload 5, 2) := by decide +kernel
theorem dX1_dropRemembered_60 : decode cX1_dropRemembered 60 = .ok (.invokevirtual 222, 3) := by decide +kernel
theorem dX1_dropRemembered_63 : decode cX1_dropRemembered 63 = .ok (.iinc 3 1, 3) := by decide +kernel
theorem dX1_dropRemembered_66 : decode cX1_dropRemembered 66 = .ok (.iinc 4 1, 3) := by decide +kernel
theorem dX1_dropRemembered_69 : decode cX1_dropRemembered 69 = .ok (.goto (-59), 3) := by decide +kernel
theorem dX1_dropRemembered_72 : decode cX1_dropRemembered 72 = .ok (.aload_n 2, 1) := by decide +kernel
theorem dX1_dropRemembered_73 : decode cX1_dropRemembered 73 = .ok (.iload_n 3, 1) := by decide +kernel
theorem dX1_dropRemembered_74 : decode cX1_dropRemembered 74 = .ok (.putfield 140, 3) := by decide +kernel
theorem dX1_dropRemembered_77 : decode cX1_dropRemembered 77 = .ok (.return_, 1) := by decide +kernel
theorem dX1_rememberMoved_0 : decode cX1_rememberMoved 0 = .ok (.iconst 0, 1) := by decide +kernel
theorem dX1_rememberMoved_1 : decode cX1_rememberMoved 1 = .ok (.istore_n 2, 1) := by decide +kernel
theorem dX1_rememberMoved_2 : decode cX1_rememberMoved 2 = .ok (.iload_n 2, 1) := by decide +kernel
theorem dX1_rememberMoved_3 : decode cX1_rememberMoved 3 = .ok (.aload_n 0, 1) := by decide +kernel
theorem dX1_rememberMoved_4 : decode cX1_rememberMoved 4 = .ok (.getfield 116, 3) := by decide +kernel
theorem dX1_rememberMoved_7 : decode cX1_rememberMoved 7 = .ok (.if_icmp .ge 58, 3) := by decide +kernel
theorem dX1_rememberMoved_10 : decode cX1_rememberMoved 10 = .ok (.aload_n 0, 1) := by decide +kernel
theorem dX1_rememberMoved_11 : decode cX1_rememberMoved 11 = .ok (.getfield 18, 3) := by decide +kernel
theorem dX1_rememberMoved_14 : decode cX1_rememberMoved 14 = .ok (.iload_n 2, 1) := by decide +kernel
theorem dX1_rememberMoved_15 : decode cX1_rememberMoved 15 = .ok (.iaload, 1) := by decide +kernel
theorem dX1_rememberMoved_16 : decode cX1_rememberMoved 16 = .ok (.istore_n 3, 1) := by decide +kernel
theorem dX1_rememberMoved_17 : decode cX1_rememberMoved 17 = .ok (.iconst 0, 1) := by decide +kernel
theorem dX1_rememberMoved_18 : decode cX1_rememberMoved 18 = .ok (.istore 4, 2) := by decide +kernel
theorem dX1_rememberMoved_20 : decode cX1_rememberMoved 20 = .ok (.iload 4, 2) := by decide +kernel
theorem dX1_rememberMoved_22 : decode cX1_rememberMoved 22 = .ok (.aload_n 1, 1) := by decide +kernel
theorem dX1_rememberMoved_23 : decode cX1_rememberMoved 23 = .ok (.iload_n 3, 1) := by decide +kernel
theorem dX1_rememberMoved_24 : decode cX1_rememberMoved 24 = .ok (.invokevirtual 159, 3) := by decide +kernel
theorem dX1_rememberMoved_27 : decode cX1_rememberMoved 27 = .ok (.if_icmp .ge 32, 3) := by decide +kernel
theorem dX1_rememberMoved_30 : decode cX1_rememberMoved 30 = .ok (.aload_n 1, 1) := by decide +kernel
theorem dX1_rememberMoved_31 : decode cX1_rememberMoved 31 = .ok (.iload_n 3, 1) := by decide +kernel
theorem dX1_rememberMoved_32 : decode cX1_rememberMoved 32 = .ok (.iload 4, 2) := by decide +kernel
theorem dX1_rememberMoved_34 : decode cX1_rememberMoved 34 = .ok (.invokevirtual 218, 3) := by decide +kernel
theorem dX1_rememberMoved_37 : decode cX1_rememberMoved 37 = .ok (.ifCond .eq 16, 3) := by decide +kernel
theorem dX1_rememberMoved_40 : decode cX1_rememberMoved 40 = .ok (.aload_n 1, 1) := by decide +kernel
theorem dX1_rememberMoved_41 : decode cX1_rememberMoved 41 = .ok (.getfield 149, 3) := by decide +kernel
theorem dX1_rememberMoved_44 : decode cX1_rememberMoved 44 = .ok (.iload_n 3, 1) := by decide +kernel
theorem dX1_rememberMoved_45 : decode cX1_rememberMoved 45 = .ok (.iconst 4, 1) := by decide +kernel
theorem dX1_rememberMoved_46 : decode cX1_rememberMoved 46 = .ok (.imul, 1) := by decide +kernel
theorem dX1_rememberMoved_47 : decode cX1_rememberMoved 47 = .ok (.iload 4, 2) := by decide +kernel
theorem dX1_rememberMoved_49 : decode cX1_rememberMoved 49 = .ok (.iadd, 1) := by decide +kernel
theorem dX1_rememberMoved_50 : decode cX1_rememberMoved 50 = .ok (.invokevirtual 187, 3) := by decide +kernel
theorem dX1_rememberMoved_53 : decode cX1_rememberMoved 53 = .ok (.iinc 4 1, 3) := by decide +kernel
theorem dX1_rememberMoved_56 : decode cX1_rememberMoved 56 = .ok (.goto (-36), 3) := by decide +kernel
theorem dX1_rememberMoved_59 : decode cX1_rememberMoved 59 = .ok (.iinc 2 1, 3) := by decide +kernel
theorem dX1_rememberMoved_62 : decode cX1_rememberMoved 62 = .ok (.goto (-60), 3) := by decide +kernel
theorem dX1_rememberMoved_65 : decode cX1_rememberMoved 65 = .ok (.return_, 1) := by decide +kernel
theorem dX1_nameSlotsAnew_0 : decode cX1_nameSlotsAnew 0 = .ok (.iconst 0, 1) := by decide +kernel
theorem dX1_nameSlotsAnew_1 : decode cX1_nameSlotsAnew 1 = .ok (.istore_n 3, 1) := by decide +kernel
theorem dX1_nameSlotsAnew_2 : decode cX1_nameSlotsAnew 2 = .ok (.iconst 0, 1) := by decide +kernel
theorem dX1_nameSlotsAnew_3 : decode cX1_nameSlotsAnew 3 = .ok (.istore 4, 2) := by decide +kernel
theorem dX1_nameSlotsAnew_5 : decode cX1_nameSlotsAnew 5 = .ok (.iload 4, 2) := by decide +kernel
theorem dX1_nameSlotsAnew_7 : decode cX1_nameSlotsAnew 7 = .ok (.aload_n 1, 1) := by decide +kernel
theorem dX1_nameSlotsAnew_8 : decode cX1_nameSlotsAnew 8 = .ok (.getfield 123, 3) := by decide +kernel
theorem dX1_nameSlotsAnew_11 : decode cX1_nameSlotsAnew 11 = .ok (.if_icmp .ge 64, 3) := by decide +kernel
theorem dX1_nameSlotsAnew_14 : decode cX1_nameSlotsAnew 14 = .ok (.aload_n 0, 1) := by decide +kernel
theorem dX1_nameSlotsAnew_15 : decode cX1_nameSlotsAnew 15 = .ok (.getfield 15, 3) := by decide +kernel
theorem dX1_nameSlotsAnew_18 : decode cX1_nameSlotsAnew 18 = .ok (.iload 4, 2) := by decide +kernel
theorem dX1_nameSlotsAnew_20 : decode cX1_nameSlotsAnew 20 = .ok (.iaload, 1) := by decide +kernel
theorem dX1_nameSlotsAnew_21 : decode cX1_nameSlotsAnew 21 = .ok (.ifCond .ne 16, 3) := by decide +kernel
theorem dX1_nameSlotsAnew_24 : decode cX1_nameSlotsAnew 24 = .ok (.iload_n 2, 1) := by decide +kernel
theorem dX1_nameSlotsAnew_25 : decode cX1_nameSlotsAnew 25 = .ok (.ifCond .eq 26, 3) := by decide +kernel
theorem dX1_nameSlotsAnew_28 : decode cX1_nameSlotsAnew 28 = .ok (.aload_n 1, 1) := by decide +kernel
theorem dX1_nameSlotsAnew_29 : decode cX1_nameSlotsAnew 29 = .ok (.iload 4, 2) := by decide +kernel
theorem dX1_nameSlotsAnew_31 : decode cX1_nameSlotsAnew 31 = .ok (.invokevirtual 126, 3) := by decide +kernel
theorem dX1_nameSlotsAnew_34 : decode cX1_nameSlotsAnew 34 = .ok (.ifCond .eq 17, 3) := by decide +kernel
theorem dX1_nameSlotsAnew_37 : decode cX1_nameSlotsAnew 37 = .ok (.aload_n 0, 1) := by decide +kernel
theorem dX1_nameSlotsAnew_38 : decode cX1_nameSlotsAnew 38 = .ok (.getfield 27, 3) := by decide +kernel
theorem dX1_nameSlotsAnew_41 : decode cX1_nameSlotsAnew 41 = .ok (.iload 4, 2) := by decide +kernel
theorem dX1_nameSlotsAnew_43 : decode cX1_nameSlotsAnew 43 = .ok (.iload_n 3, 1) := by decide +kernel
theorem dX1_nameSlotsAnew_44 : decode cX1_nameSlotsAnew 44 = .ok (.iastore, 1) := by decide +kernel
theorem dX1_nameSlotsAnew_45 : decode cX1_nameSlotsAnew 45 = .ok (.iinc 3 1, 3) := by decide +kernel
theorem dX1_nameSlotsAnew_48 : decode cX1_nameSlotsAnew 48 = .ok (.goto 21, 3) := by decide +kernel
theorem dX1_nameSlotsAnew_51 : decode cX1_nameSlotsAnew 51 = .ok (.aload_n 0, 1) := by decide +kernel
theorem dX1_nameSlotsAnew_52 : decode cX1_nameSlotsAnew 52 = .ok (.getfield 27, 3) := by decide +kernel
theorem dX1_nameSlotsAnew_55 : decode cX1_nameSlotsAnew 55 = .ok (.iload 4, 2) := by decide +kernel
theorem dX1_nameSlotsAnew_57 : decode cX1_nameSlotsAnew 57 = .ok (.iconst (-1), 1) := by decide +kernel
theorem dX1_nameSlotsAnew_58 : decode cX1_nameSlotsAnew 58 = .ok (.iastore, 1) := by decide +kernel
theorem dX1_nameSlotsAnew_59 : decode cX1_nameSlotsAnew 59 = .ok (.aload_n 0, 1) := by decide +kernel
theorem dX1_nameSlotsAnew_60 : decode cX1_nameSlotsAnew 60 = .ok (.getfield 9, 3) := by decide +kernel
theorem dX1_nameSlotsAnew_63 : decode cX1_nameSlotsAnew 63 = .ok (.iconst 2, 1) := by decide +kernel
theorem dX1_nameSlotsAnew_64 : decode cX1_nameSlotsAnew 64 = .ok (.dup2, 1) := by decide +kernel
theorem dX1_nameSlotsAnew_65 : decode cX1_nameSlotsAnew 65 = .ok (.iaload, 1) := by decide +kernel
theorem dX1_nameSlotsAnew_66 : decode cX1_nameSlotsAnew 66 = .ok (.iconst 1, 1) := by decide +kernel
theorem dX1_nameSlotsAnew_67 : decode cX1_nameSlotsAnew 67 = .ok (.iadd, 1) := by decide +kernel
theorem dX1_nameSlotsAnew_68 : decode cX1_nameSlotsAnew 68 = .ok (.iastore, 1) := by decide +kernel
theorem dX1_nameSlotsAnew_69 : decode cX1_nameSlotsAnew 69 = .ok (.iinc 4 1, 3) := by decide +kernel
theorem dX1_nameSlotsAnew_72 : decode cX1_nameSlotsAnew 72 = .ok (.goto (-67), 3) := by decide +kernel
theorem dX1_nameSlotsAnew_75 : decode cX1_nameSlotsAnew 75 = .ok (.return_, 1) := by decide +kernel
