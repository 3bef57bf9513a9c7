theorem dX0_init_0 : decode cX0_init 0 = .ok (.aload_n 0, 1) := by decide +kernel
theorem dX0_init_1 : decode cX0_init 1 = .ok (.invokespecial 3, 3) := by decide +kernel
theorem dX0_init_4 : decode cX0_init 4 = .ok (.aload_n 0, 1) := by decide +kernel
theorem dX0_init_5 : decode cX0_init 5 = .ok (.new 9, 3) := by decide +kernel
theorem dX0_init_8 : decode cX0_init 8 = .ok (.dup, 1) := by decide +kernel
theorem dX0_init_9 : decode cX0_init 9 = .ok (.invokespecial 11, 3) := by decide +kernel
theorem dX0_init_12 : decode cX0_init 12 = .ok (.putfield 12, 3) := by decide +kernel
theorem dX0_init_15 : decode cX0_init 15 = .ok (.aload_n 0, 1) := by decide +kernel
theorem dX0_init_16 : decode cX0_init 16 = .ok (.aload_n 1, 1) := by decide +kernel
theorem dX0_init_17 : decode cX0_init 17 = .ok (.putfield 18, 3) := by decide +kernel
theorem dX0_init_20 : decode cX0_init 20 = .ok (.aload_n 0, 1) := by decide +kernel
theorem dX0_init_21 : decode cX0_init 21 = .ok (.aload_n 2, 1) := by decide +kernel
theorem dX0_init_22 : decode cX0_init 22 = .ok (.putfield 22, 3) := by decide +kernel
theorem dX0_init_25 : decode cX0_init 25 = .ok (.return_, 1) := by decide +kernel
theorem dX0_apply_0 : decode cX0_apply 0 = .ok (.iload_n 2, 1) := by decide +kernel
theorem dX0_apply_1 : decode cX0_apply 1 = .ok (.tableswitch 114 0 7 #[47, 60, 71, 82, 89, 95, 101, 108], 47) := by decide +kernel
theorem dX0_apply_48 : decode cX0_apply 48 = .ok (.aload_n 0, 1) := by decide +kernel
theorem dX0_apply_49 : decode cX0_apply 49 = .ok (.aload_n 1, 1) := by decide +kernel
theorem dX0_apply_50 : decode cX0_apply 50 = .ok (.iload_n 3, 1) := by decide +kernel
theorem dX0_apply_51 : decode cX0_apply 51 = .ok (.iload 4, 2) := by decide +kernel
theorem dX0_apply_53 : decode cX0_apply 53 = .ok (.iload 5, 2) := by decide +kernel
theorem dX0_apply_55 : decode cX0_apply 55 = .ok (.iload 6, 2) := by decide +kernel
theorem dX0_apply_57 : decode cX0_apply 57 = .ok (.invokevirtual 26, 3) := by decide +kernel
theorem dX0_apply_60 : decode cX0_apply 60 = .ok (.ireturn, 1) := by decide +kernel
theorem dX0_apply_61 : decode cX0_apply 61 = .ok (.aload_n 0, 1) := by decide +kernel
theorem dX0_apply_62 : decode cX0_apply 62 = .ok (.aload_n 1, 1) := by decide +kernel
theorem dX0_apply_63 : decode cX0_apply 63 = .ok (.iload_n 3, 1) := by decide +kernel
theorem dX0_apply_64 : decode cX0_apply 64 = .ok (.iload 4, 2) := by decide +kernel
theorem dX0_apply_66 : decode cX0_apply 66 = .ok (.iload 5, 2) := by decide +kernel
theorem dX0_apply_68 : decode cX0_apply 68 = .ok (.invokevirtual 30, 3) := by decide +kernel
theorem dX0_apply_71 : decode cX0_apply 71 = .ok (.ireturn, 1) := by decide +kernel
theorem dX0_apply_72 : decode cX0_apply 72 = .ok (.aload_n 0, 1) := by decide +kernel
theorem dX0_apply_73 : decode cX0_apply 73 = .ok (.aload_n 1, 1) := by decide +kernel
theorem dX0_apply_74 : decode cX0_apply 74 = .ok (.iload_n 3, 1) := by decide +kernel
theorem dX0_apply_75 : decode cX0_apply 75 = .ok (.iload 4, 2) := by decide +kernel
theorem dX0_apply_77 : decode cX0_apply 77 = .ok (.iload 5, 2) := by decide +kernel
theorem dX0_apply_79 : decode cX0_apply 79 = .ok (.invokevirtual 34, 3) := by decide +kernel
theorem dX0_apply_82 : decode cX0_apply 82 = .ok (.ireturn, 1) := by decide +kernel
theorem dX0_apply_83 : decode cX0_apply 83 = .ok (.aload_n 0, 1) := by decide +kernel
theorem dX0_apply_84 : decode cX0_apply 84 = .ok (.aload_n 1, 1) := by decide +kernel
theorem dX0_apply_85 : decode cX0_apply 85 = .ok (.iload_n 3, 1) := by decide +kernel
theorem dX0_apply_86 : decode cX0_apply 86 = .ok (.invokevirtual 37, 3) := by decide +kernel
theorem dX0_apply_89 : decode cX0_apply 89 = .ok (.ireturn, 1) := by decide +kernel
theorem dX0_apply_90 : decode cX0_apply 90 = .ok (.aload_n 0, 1) := by decide +kernel
theorem dX0_apply_91 : decode cX0_apply 91 = .ok (.aload_n 1, 1) := by decide +kernel
theorem dX0_apply_92 : decode cX0_apply 92 = .ok (.invokevirtual 41, 3) := by decide +kernel
theorem dX0_apply_95 : decode cX0_apply 95 = .ok (.ireturn, 1) := by decide +kernel
theorem dX0_apply_96 : decode cX0_apply 96 = .ok (.aload_n 0, 1) := by decide +kernel
theorem dX0_apply_97 : decode cX0_apply 97 = .ok (.aload_n 1, 1) := by decide +kernel
theorem dX0_apply_98 : decode cX0_apply 98 = .ok (.invokevirtual 45, 3) := by decide +kernel
theorem dX0_apply_101 : decode cX0_apply 101 = .ok (.ireturn, 1) := by decide +kernel
theorem dX0_apply_102 : decode cX0_apply 102 = .ok (.aload_n 0, 1) := by decide +kernel
theorem dX0_apply_103 : decode cX0_apply 103 = .ok (.aload_n 1, 1) := by decide +kernel
theorem dX0_apply_104 : decode cX0_apply 104 = .ok (.iload_n 3, 1) := by decide +kernel
theorem dX0_apply_105 : decode cX0_apply 105 = .ok (.invokevirtual 48, 3) := by decide +kernel
theorem dX0_apply_108 : decode cX0_apply 108 = .ok (.ireturn, 1) := by decide +kernel
theorem dX0_apply_109 : decode cX0_apply 109 = .ok (.aload_n 0, 1) := by decide +kernel
theorem dX0_apply_110 : decode cX0_apply 110 = .ok (.aload_n 1, 1) := by decide +kernel
theorem dX0_apply_111 : decode cX0_apply 111 = .ok (.invokevirtual 51, 3) := by decide +kernel
theorem dX0_apply_114 : decode cX0_apply 114 = .ok (.ireturn, 1) := by decide +kernel
theorem dX0_apply_115 : decode cX0_apply 115 = .ok (.iconst (-1), 1) := by decide +kernel
theorem dX0_apply_116 : decode cX0_apply 116 = .ok (.ireturn, 1) := by decide +kernel
theorem dX0_makeObject_0 : decode cX0_makeObject 0 = .ok (.iload_n 2, 1) := by decide +kernel
theorem dX0_makeObject_1 : decode cX0_makeObject 1 = .ok (.invokestatic 54, 3) := by decide +kernel
theorem dX0_makeObject_4 : decode cX0_makeObject 4 = .ok (.ifCond .ne 5, 3) := by decide +kernel
theorem dX0_makeObject_7 : decode cX0_makeObject 7 = .ok (.iconst (-1), 1) := by decide +kernel
theorem dX0_makeObject_8 : decode cX0_makeObject 8 = .ok (.ireturn, 1) := by decide +kernel
theorem dX0_makeObject_9 : decode cX0_makeObject 9 = .ok (.iload_n 3, 1) := by decide +kernel
theorem dX0_makeObject_10 : decode cX0_makeObject 10 = .ok (.ifCond .lt 42, 3) := by decide +kernel
theorem dX0_makeObject_13 : decode cX0_makeObject 13 = .ok (.iload_n 3, 1) := by decide +kernel
theorem dX0_makeObject_14 : decode cX0_makeObject 14 = .ok (.iconst 2, 1) := by decide +kernel
theorem dX0_makeObject_15 : decode cX0_makeObject 15 = .ok (.if_icmp .gt 37, 3) := by decide +kernel
theorem dX0_makeObject_18 : decode cX0_makeObject 18 = .ok (.iload 4, 2) := by decide +kernel
theorem dX0_makeObject_20 : decode cX0_makeObject 20 = .ok (.ifCond .lt 32, 3) := by decide +kernel
theorem dX0_makeObject_23 : decode cX0_makeObject 23 = .ok (.iload 4, 2) := by decide +kernel
theorem dX0_makeObject_25 : decode cX0_makeObject 25 = .ok (.iconst 4, 1) := by decide +kernel
theorem dX0_makeObject_26 : decode cX0_makeObject 26 = .ok (.if_icmp .gt 26, 3) := by decide +kernel
theorem dX0_makeObject_29 : decode cX0_makeObject 29 = .ok (.iload 5, 2) := by decide +kernel
theorem dX0_makeObject_31 : decode cX0_makeObject 31 = .ok (.ifCond .lt 21, 3) := by decide +kernel
theorem dX0_makeObject_34 : decode cX0_makeObject 34 = .ok (.iload 5, 2) := by decide +kernel
theorem dX0_makeObject_36 : decode cX0_makeObject 36 = .ok (.sipush 999, 3) := by decide +kernel
theorem dX0_makeObject_39 : decode cX0_makeObject 39 = .ok (.if_icmp .gt 13, 3) := by decide +kernel
theorem dX0_makeObject_42 : decode cX0_makeObject 42 = .ok (.iload_n 3, 1) := by decide +kernel
theorem dX0_makeObject_43 : decode cX0_makeObject 43 = .ok (.iconst 1, 1) := by decide +kernel
theorem dX0_makeObject_44 : decode cX0_makeObject 44 = .ok (.if_icmp .ne 11, 3) := by decide +kernel
theorem dX0_makeObject_47 : decode cX0_makeObject 47 = .ok (.iload 4, 2) := by decide +kernel
theorem dX0_makeObject_49 : decode cX0_makeObject 49 = .ok (.ifCond .ne 6, 3) := by decide +kernel
theorem dX0_makeObject_52 : decode cX0_makeObject 52 = .ok (.bipush (-2), 2) := by decide +kernel
theorem dX0_makeObject_54 : decode cX0_makeObject 54 = .ok (.ireturn, 1) := by decide +kernel
theorem dX0_makeObject_55 : decode cX0_makeObject 55 = .ok (.aload_n 1, 1) := by decide +kernel
theorem dX0_makeObject_56 : decode cX0_makeObject 56 = .ok (.getfield 58, 3) := by decide +kernel
theorem dX0_makeObject_59 : decode cX0_makeObject 59 = .ok (.iconst 0, 1) := by decide +kernel
theorem dX0_makeObject_60 : decode cX0_makeObject 60 = .ok (.iaload, 1) := by decide +kernel
theorem dX0_makeObject_61 : decode cX0_makeObject 61 = .ok (.iconst 3, 1) := by decide +kernel
theorem dX0_makeObject_62 : decode cX0_makeObject 62 = .ok (.iadd, 1) := by decide +kernel
theorem dX0_makeObject_63 : decode cX0_makeObject 63 = .ok (.iload 4, 2) := by decide +kernel
theorem dX0_makeObject_65 : decode cX0_makeObject 65 = .ok (.iadd, 1) := by decide +kernel
theorem dX0_makeObject_66 : decode cX0_makeObject 66 = .ok (.aload_n 0, 1) := by decide +kernel
theorem dX0_makeObject_67 : decode cX0_makeObject 67 = .ok (.getfield 18, 3) := by decide +kernel
theorem dX0_makeObject_70 : decode cX0_makeObject 70 = .ok (.iconst 0, 1) := by decide +kernel
theorem dX0_makeObject_71 : decode cX0_makeObject 71 = .ok (.iaload, 1) := by decide +kernel
theorem dX0_makeObject_72 : decode cX0_makeObject 72 = .ok (.if_icmp .gt 7, 3) := by decide +kernel
theorem dX0_makeObject_75 : decode cX0_makeObject 75 = .ok (.iconst 1, 1) := by decide +kernel
theorem dX0_makeObject_76 : decode cX0_makeObject 76 = .ok (.goto 4, 3) := by decide +kernel
theorem dX0_makeObject_79 : decode cX0_makeObject 79 = .ok (.iconst 0, 1) := by decide +kernel
theorem dX0_makeObject_80 : decode cX0_makeObject 80 = .ok (.istore 6, 2) := by decide +kernel
theorem dX0_makeObject_82 : decode cX0_makeObject 82 = .ok (.iload 6, 2) := by decide +kernel
theorem dX0_makeObject_84 : decode cX0_makeObject 84 = .ok (.ifCond .ne 52, 3) := by decide +kernel
theorem dX0_makeObject_87 : decode cX0_makeObject 87 = .ok (.aload_n 0, 1) := by decide +kernel
theorem dX0_makeObject_88 : decode cX0_makeObject 88 = .ok (.getfield 22, 3) := by decide +kernel
theorem dX0_makeObject_91 : decode cX0_makeObject 91 = .ok (.aload_n 1, 1) := by decide +kernel
theorem dX0_makeObject_92 : decode cX0_makeObject 92 = .ok (.invokevirtual 61, 3) := by decide +kernel
theorem dX0_makeObject_95 : decode cX0_makeObject 95 = .ok (.ifCond .ne 41, 3) := by decide +kernel
theorem dX0_makeObject_98 : decode cX0_makeObject 98 = .ok (.aload_n 0, 1) := by decide +kernel
theorem dX0_makeObject_99 : decode cX0_makeObject 99 = .ok (.getfield 12, 3) := by decide +kernel
theorem dX0_makeObject_102 : decode cX0_makeObject 102 = .ok (.aload_n 1, 1) := by decide +kernel
theorem dX0_makeObject_103 : decode cX0_makeObject 103 = .ok (.invokevirtual 67, 3) := by decide +kernel
theorem dX0_makeObject_106 : decode cX0_makeObject 106 = .ok (.aload_n 0, 1) := by decide +kernel
theorem dX0_makeObject_107 : decode cX0_makeObject 107 = .ok (.getfield 22, 3) := by decide +kernel
theorem dX0_makeObject_110 : decode cX0_makeObject 110 = .ok (.aload_n 1, 1) := by decide +kernel
theorem dX0_makeObject_111 : decode cX0_makeObject 111 = .ok (.invokevirtual 71, 3) := by decide +kernel
theorem dX0_makeObject_114 : decode cX0_makeObject 114 = .ok (.aload_n 0, 1) := by decide +kernel
theorem dX0_makeObject_115 : decode cX0_makeObject 115 = .ok (.getfield 22, 3) := by decide +kernel
theorem dX0_makeObject_118 : decode cX0_makeObject 118 = .ok (.aload_n 1, 1) := by decide +kernel
theorem dX0_makeObject_119 : decode cX0_makeObject 119 = .ok (.invokevirtual 61, 3) := by decide +kernel
theorem dX0_makeObject_122 : decode cX0_makeObject 122 = .ok (.ifCond .ne 14, 3) := by decide +kernel
theorem dX0_makeObject_125 : decode cX0_makeObject 125 = .ok (.aload_n 1, 1) := by decide +kernel
theorem dX0_makeObject_126 : decode cX0_makeObject 126 = .ok (.aload_n 0, 1) := by decide +kernel
theorem dX0_makeObject_127 : decode cX0_makeObject 127 = .ok (.getfield 12, 3) := by decide +kernel
theorem dX0_makeObject_130 : decode cX0_makeObject 130 = .ok (.invokevirtual 67, 3) := by decide +kernel
theorem dX0_makeObject_133 : decode cX0_makeObject 133 = .ok (.bipush (-4), 2) := by decide +kernel
theorem dX0_makeObject_135 : decode cX0_makeObject 135 = .ok (.ireturn, 1) := by decide +kernel
theorem dX0_makeObject_136 : decode cX0_makeObject 136 = .ok (.aload_n 1, 1) := by decide +kernel
theorem dX0_makeObject_137 : decode cX0_makeObject 137 = .ok (.iload_n 3, 1) := by decide +kernel
theorem dX0_makeObject_138 : decode cX0_makeObject 138 = .ok (.iload 4, 2) := by decide +kernel
theorem dX0_makeObject_140 : decode cX0_makeObject 140 = .ok (.iload 5, 2) := by decide +kernel
theorem dX0_makeObject_142 : decode cX0_makeObject 142 = .ok (.invokevirtual 74, 3) := by decide +kernel
theorem dX0_makeObject_145 : decode cX0_makeObject 145 = .ok (.istore 7, 2) := by decide +kernel
theorem dX0_makeObject_147 : decode cX0_makeObject 147 = .ok (.aload_n 1, 1) := by decide +kernel
theorem dX0_makeObject_148 : decode cX0_makeObject 148 = .ok (.getfield 78, 3) := by decide +kernel
theorem dX0_makeObject_151 : decode cX0_makeObject 151 = .ok (.iload_n 2, 1) := by decide +kernel
theorem dX0_makeObject_152 : decode cX0_makeObject 152 = .ok (.iload 7, 2) := by decide +kernel
theorem dX0_makeObject_154 : decode cX0_makeObject 154 = .ok (.iastore, 1) := by decide +kernel
theorem dX0_makeObject_155 : decode cX0_makeObject 155 = .ok (.aload_n 1, 1) := by decide +kernel
theorem dX0_makeObject_156 : decode cX0_makeObject 156 = .ok (.iconst 0, 1) := by decide +kernel
theorem dX0_makeObject_157 : decode cX0_makeObject 157 = .ok (.aload_n 1, 1) := by decide +kernel
theorem dX0_makeObject_158 : decode cX0_makeObject 158 = .ok (.iload 7, 2) := by decide +kernel
theorem dX0_makeObject_160 : decode cX0_makeObject 160 = .ok (.invokevirtual 81, 3) := by decide +kernel
theorem dX0_makeObject_163 : decode cX0_makeObject 163 = .ok (.invokevirtual 85, 3) := by decide +kernel
theorem dX0_makeObject_166 : decode cX0_makeObject 166 = .ok (.aload_n 1, 1) := by decide +kernel
theorem dX0_makeObject_167 : decode cX0_makeObject 167 = .ok (.iload 7, 2) := by decide +kernel
theorem dX0_makeObject_169 : decode cX0_makeObject 169 = .ok (.invokevirtual 81, 3) := by decide +kernel
theorem dX0_makeObject_172 : decode cX0_makeObject 172 = .ok (.ireturn, 1) := by decide +kernel
theorem dX0_linkField_0 : decode cX0_linkField 0 = .ok (.aload_n 1, 1) := by decide +kernel
theorem dX0_linkField_1 : decode cX0_linkField 1 = .ok (.iload_n 2, 1) := by decide +kernel
theorem dX0_linkField_2 : decode cX0_linkField 2 = .ok (.invokestatic 89, 3) := by decide +kernel
theorem dX0_linkField_5 : decode cX0_linkField 5 = .ok (.ifCond .eq 19, 3) := by decide +kernel
theorem dX0_linkField_8 : decode cX0_linkField 8 = .ok (.iload 4, 2) := by decide +kernel
theorem dX0_linkField_10 : decode cX0_linkField 10 = .ok (.bipush 8, 2) := by decide +kernel
theorem dX0_linkField_12 : decode cX0_linkField 12 = .ok (.if_icmp .eq 14, 3) := by decide +kernel
theorem dX0_linkField_15 : decode cX0_linkField 15 = .ok (.aload_n 1, 1) := by decide +kernel
theorem dX0_linkField_16 : decode cX0_linkField 16 = .ok (.iload 4, 2) := by decide +kernel
theorem dX0_linkField_18 : decode cX0_linkField 18 = .ok (.invokestatic 89, 3) := by decide +kernel
theorem dX0_linkField_21 : decode cX0_linkField 21 = .ok (.ifCond .ne 5, 3) := by decide +kernel
theorem dX0_linkField_24 : decode cX0_linkField 24 = .ok (.iconst (-1), 1) := by decide +kernel
theorem dX0_linkField_25 : decode cX0_linkField 25 = .ok (.ireturn, 1) := by decide +kernel
theorem dX0_linkField_26 : decode cX0_linkField 26 = .ok (.aload_n 1, 1) := by decide +kernel
theorem dX0_linkField_27 : decode cX0_linkField 27 = .ok (.getfield 78, 3) := by decide +kernel
theorem dX0_linkField_30 : decode cX0_linkField 30 = .ok (.iload_n 2, 1) := by decide +kernel
theorem dX0_linkField_31 : decode cX0_linkField 31 = .ok (.iaload, 1) := by decide +kernel
theorem dX0_linkField_32 : decode cX0_linkField 32 = .ok (.istore 5, 2) := by decide +kernel
theorem dX0_linkField_34 : decode cX0_linkField 34 = .ok (.aload_n 1, 1) := by decide +kernel
theorem dX0_linkField_35 : decode cX0_linkField 35 = .ok (.iload 5, 2) := by decide +kernel
theorem dX0_linkField_37 : decode cX0_linkField 37 = .ok (.iload_n 3, 1) := by decide +kernel
theorem dX0_linkField_38 : decode cX0_linkField 38 = .ok (.invokevirtual 93, 3) := by decide +kernel
theorem dX0_linkField_41 : decode cX0_linkField 41 = .ok (.ifCond .ne 6, 3) := by decide +kernel
theorem dX0_linkField_44 : decode cX0_linkField 44 = .ok (.bipush (-2), 2) := by decide +kernel
theorem dX0_linkField_46 : decode cX0_linkField 46 = .ok (.ireturn, 1) := by decide +kernel
theorem dX0_linkField_47 : decode cX0_linkField 47 = .ok (.aload_n 1, 1) := by decide +kernel
theorem dX0_linkField_48 : decode cX0_linkField 48 = .ok (.iload 5, 2) := by decide +kernel
theorem dX0_linkField_50 : decode cX0_linkField 50 = .ok (.iload_n 3, 1) := by decide +kernel
theorem dX0_linkField_51 : decode cX0_linkField 51 = .ok (.invokevirtual 97, 3) := by decide +kernel
theorem dX0_linkField_54 : decode cX0_linkField 54 = .ok (.istore 6, 2) := by decide +kernel
theorem dX0_linkField_56 : decode cX0_linkField 56 = .ok (.iload 4, 2) := by decide +kernel
theorem dX0_linkField_58 : decode cX0_linkField 58 = .ok (.bipush 8, 2) := by decide +kernel
theorem dX0_linkField_60 : decode cX0_linkField 60 = .ok (.if_icmp .ne 7, 3) := by decide +kernel
theorem dX0_linkField_63 : decode cX0_linkField 63 = .ok (.iconst (-1), 1) := by decide +kernel
theorem dX0_linkField_64 : decode cX0_linkField 64 = .ok (.goto 10, 3) := by decide +kernel
theorem dX0_linkField_67 : decode cX0_linkField 67 = .ok (.aload_n 1, 1) := by decide +kernel
theorem dX0_linkField_68 : decode cX0_linkField 68 = .ok (.getfield 78, 3) := by decide +kernel
theorem dX0_linkField_71 : decode cX0_linkField 71 = .ok (.iload 4, 2) := by decide +kernel
theorem dX0_linkField_73 : decode cX0_linkField 73 = .ok (.iaload, 1) := by decide +kernel
theorem dX0_linkField_74 : decode cX0_linkField 74 = .ok (.istore 7, 2) := by decide +kernel
theorem dX0_linkField_76 : decode cX0_linkField 76 = .ok (.iload 6, 2) := by decide +kernel
theorem dX0_linkField_78 : decode cX0_linkField 78 = .ok (.iload 7, 2) := by decide +kernel
theorem dX0_linkField_80 : decode cX0_linkField 80 = .ok (.if_icmp .ne 6, 3) := by decide +kernel
theorem dX0_linkField_83 : decode cX0_linkField 83 = .ok (.bipush (-3), 2) := by decide +kernel
theorem dX0_linkField_85 : decode cX0_linkField 85 = .ok (.ireturn, 1) := by decide +kernel
theorem dX0_linkField_86 : decode cX0_linkField 86 = .ok (.aload_n 1, 1) := by decide +kernel
theorem dX0_linkField_87 : decode cX0_linkField 87 = .ok (.iload 5, 2) := by decide +kernel
theorem dX0_linkField_89 : decode cX0_linkField 89 = .ok (.iload_n 3, 1) := by decide +kernel
theorem dX0_linkField_90 : decode cX0_linkField 90 = .ok (.iload 7, 2) := by decide +kernel
theorem dX0_linkField_92 : decode cX0_linkField 92 = .ok (.invokevirtual 101, 3) := by decide +kernel
theorem dX0_linkField_95 : decode cX0_linkField 95 = .ok (.aload_n 1, 1) := by decide +kernel
theorem dX0_linkField_96 : decode cX0_linkField 96 = .ok (.iload 5, 2) := by decide +kernel
theorem dX0_linkField_98 : decode cX0_linkField 98 = .ok (.iload_n 3, 1) := by decide +kernel
theorem dX0_linkField_99 : decode cX0_linkField 99 = .ok (.invokevirtual 105, 3) := by decide +kernel
theorem dX0_linkField_102 : decode cX0_linkField 102 = .ok (.aload_n 1, 1) := by decide +kernel
theorem dX0_linkField_103 : decode cX0_linkField 103 = .ok (.iconst 1, 1) := by decide +kernel
theorem dX0_linkField_104 : decode cX0_linkField 104 = .ok (.aload_n 1, 1) := by decide +kernel
theorem dX0_linkField_105 : decode cX0_linkField 105 = .ok (.getfield 108, 3) := by decide +kernel
theorem dX0_linkField_108 : decode cX0_linkField 108 = .ok (.iload 5, 2) := by decide +kernel
theorem dX0_linkField_110 : decode cX0_linkField 110 = .ok (.iaload, 1) := by decide +kernel
theorem dX0_linkField_111 : decode cX0_linkField 111 = .ok (.invokevirtual 85, 3) := by decide +kernel
theorem dX0_linkField_114 : decode cX0_linkField 114 = .ok (.aload_n 1, 1) := by decide +kernel
theorem dX0_linkField_115 : decode cX0_linkField 115 = .ok (.iload 6, 2) := by decide +kernel
theorem dX0_linkField_117 : decode cX0_linkField 117 = .ok (.invokevirtual 81, 3) := by decide +kernel
theorem dX0_linkField_120 : decode cX0_linkField 120 = .ok (.ireturn, 1) := by decide +kernel
theorem dX0_loadRoot_0 : decode cX0_loadRoot 0 = .ok (.iload_n 2, 1) := by decide +kernel
theorem dX0_loadRoot_1 : decode cX0_loadRoot 1 = .ok (.invokestatic 54, 3) := by decide +kernel
theorem dX0_loadRoot_4 : decode cX0_loadRoot 4 = .ok (.ifCond .eq 11, 3) := by decide +kernel
theorem dX0_loadRoot_7 : decode cX0_loadRoot 7 = .ok (.aload_n 1, 1) := by decide +kernel
theorem dX0_loadRoot_8 : decode cX0_loadRoot 8 = .ok (.iload_n 3, 1) := by decide +kernel
theorem dX0_loadRoot_9 : decode cX0_loadRoot 9 = .ok (.invokestatic 89, 3) := by decide +kernel
theorem dX0_loadRoot_12 : decode cX0_loadRoot 12 = .ok (.ifCond .ne 5, 3) := by decide +kernel
theorem dX0_loadRoot_15 : decode cX0_loadRoot 15 = .ok (.iconst (-1), 1) := by decide +kernel
theorem dX0_loadRoot_16 : decode cX0_loadRoot 16 = .ok (.ireturn, 1) := by decide +kernel
theorem dX0_loadRoot_17 : decode cX0_loadRoot 17 = .ok (.aload_n 1, 1) := by decide +kernel
theorem dX0_loadRoot_18 : decode cX0_loadRoot 18 = .ok (.getfield 78, 3) := by decide +kernel
theorem dX0_loadRoot_21 : decode cX0_loadRoot 21 = .ok (.iload_n 3, 1) := by decide +kernel
theorem dX0_loadRoot_22 : decode cX0_loadRoot 22 = .ok (.iaload, 1) := by decide +kernel
theorem dX0_loadRoot_23 : decode cX0_loadRoot 23 = .ok (.istore 5, 2) := by decide +kernel
theorem dX0_loadRoot_25 : decode cX0_loadRoot 25 = .ok (.aload_n 1, 1) := by decide +kernel
theorem dX0_loadRoot_26 : decode cX0_loadRoot 26 = .ok (.iload 5, 2) := by decide +kernel
theorem dX0_loadRoot_28 : decode cX0_loadRoot 28 = .ok (.iload 4, 2) := by decide +kernel
theorem dX0_loadRoot_30 : decode cX0_loadRoot 30 = .ok (.invokevirtual 93, 3) := by decide +kernel
theorem dX0_loadRoot_33 : decode cX0_loadRoot 33 = .ok (.ifCond .ne 6, 3) := by decide +kernel
theorem dX0_loadRoot_36 : decode cX0_loadRoot 36 = .ok (.bipush (-2), 2) := by decide +kernel
theorem dX0_loadRoot_38 : decode cX0_loadRoot 38 = .ok (.ireturn, 1) := by decide +kernel
theorem dX0_loadRoot_39 : decode cX0_loadRoot 39 = .ok (.aload_n 1, 1) := by decide +kernel
theorem dX0_loadRoot_40 : decode cX0_loadRoot 40 = .ok (.getfield 78, 3) := by decide +kernel
theorem dX0_loadRoot_43 : decode cX0_loadRoot 43 = .ok (.iload_n 2, 1) := by decide +kernel
theorem dX0_loadRoot_44 : decode cX0_loadRoot 44 = .ok (.iaload, 1) := by decide +kernel
theorem dX0_loadRoot_45 : decode cX0_loadRoot 45 = .ok (.istore 6, 2) := by decide +kernel
theorem dX0_loadRoot_47 : decode cX0_loadRoot 47 = .ok (.aload_n 1, 1) := by decide +kernel
theorem dX0_loadRoot_48 : decode cX0_loadRoot 48 = .ok (.iload 5, 2) := by decide +kernel
theorem dX0_loadRoot_50 : decode cX0_loadRoot 50 = .ok (.iload 4, 2) := by decide +kernel
theorem dX0_loadRoot_52 : decode cX0_loadRoot 52 = .ok (.invokevirtual 97, 3) := by decide +kernel
theorem dX0_loadRoot_55 : decode cX0_loadRoot 55 = .ok (.istore 7, 2) := by decide +kernel
theorem dX0_loadRoot_57 : decode cX0_loadRoot 57 = .ok (.aload_n 1, 1) := by decide +kernel
theorem dX0_loadRoot_58 : decode cX0_loadRoot 58 = .ok (.getfield 78, 3) := by decide +kernel
theorem dX0_loadRoot_61 : decode cX0_loadRoot 61 = .ok (.iload_n 2, 1) := by decide +kernel
theorem dX0_loadRoot_62 : decode cX0_loadRoot 62 = .ok (.iload 7, 2) := by decide +kernel
theorem dX0_loadRoot_64 : decode cX0_loadRoot 64 = .ok (.iastore, 1) := by decide +kernel
theorem dX0_loadRoot_65 : decode cX0_loadRoot 65 = .ok (.aload_n 1, 1) := by decide +kernel
theorem dX0_loadRoot_66 : decode cX0_loadRoot 66 = .ok (.iconst 2, 1) := by decide +kernel
theorem dX0_loadRoot_67 : decode cX0_loadRoot 67 = .ok (.aload_n 1, 1) := by decide +kernel
theorem dX0_loadRoot_68 : decode cX0_loadRoot 68 = .ok (.iload 6, 2) := by decide +kernel
theorem dX0_loadRoot_70 : decode cX0_loadRoot 70 = .ok (.invokevirtual 81, 3) := by decide +kernel
theorem dX0_loadRoot_73 : decode cX0_loadRoot 73 = .ok (.invokevirtual 85, 3) := by decide +kernel
theorem dX0_loadRoot_76 : decode cX0_loadRoot 76 = .ok (.aload_n 1, 1) := by decide +kernel
theorem dX0_loadRoot_77 : decode cX0_loadRoot 77 = .ok (.iload 7, 2) := by decide +kernel
theorem dX0_loadRoot_79 : decode cX0_loadRoot 79 = .ok (.invokevirtual 81, 3) := by decide +kernel
theorem dX0_loadRoot_82 : decode cX0_loadRoot 82 = .ok (.ireturn, 1) := by decide +kernel
theorem dX0_emptyRoot_0 : decode cX0_emptyRoot 0 = .ok (.iload_n 2, 1) := by decide +kernel
theorem dX0_emptyRoot_1 : decode cX0_emptyRoot 1 = .ok (.invokestatic 54, 3) := by decide +kernel
theorem dX0_emptyRoot_4 : decode cX0_emptyRoot 4 = .ok (.ifCond .ne 5, 3) := by decide +kernel
theorem dX0_emptyRoot_7 : decode cX0_emptyRoot 7 = .ok (.iconst (-1), 1) := by decide +kernel
theorem dX0_emptyRoot_8 : decode cX0_emptyRoot 8 = .ok (.ireturn, 1) := by decide +kernel
theorem dX0_emptyRoot_9 : decode cX0_emptyRoot 9 = .ok (.aload_n 1, 1) := by decide +kernel
theorem dX0_emptyRoot_10 : decode cX0_emptyRoot 10 = .ok (.getfield 78, 3) := by decide +kernel
theorem dX0_emptyRoot_13 : decode cX0_emptyRoot 13 = .ok (.iload_n 2, 1) := by decide +kernel
theorem dX0_emptyRoot_14 : decode cX0_emptyRoot 14 = .ok (.iaload, 1) := by decide +kernel
theorem dX0_emptyRoot_15 : decode cX0_emptyRoot 15 = .ok (.istore_n 3, 1) := by decide +kernel
theorem dX0_emptyRoot_16 : decode cX0_emptyRoot 16 = .ok (.iload_n 3, 1) := by decide +kernel
theorem dX0_emptyRoot_17 : decode cX0_emptyRoot 17 = .ok (.iconst (-1), 1) := by decide +kernel
theorem dX0_emptyRoot_18 : decode cX0_emptyRoot 18 = .ok (.if_icmp .ne 6, 3) := by decide +kernel
theorem dX0_emptyRoot_21 : decode cX0_emptyRoot 21 = .ok (.bipush (-3), 2) := by decide +kernel
theorem dX0_emptyRoot_23 : decode cX0_emptyRoot 23 = .ok (.ireturn, 1) := by decide +kernel
theorem dX0_emptyRoot_24 : decode cX0_emptyRoot 24 = .ok (.aload_n 1, 1) := by decide +kernel
theorem dX0_emptyRoot_25 : decode cX0_emptyRoot 25 = .ok (.getfield 78, 3) := by decide +kernel
theorem dX0_emptyRoot_28 : decode cX0_emptyRoot 28 = .ok (.iload_n 2, 1) := by decide +kernel
theorem dX0_emptyRoot_29 : decode cX0_emptyRoot 29 = .ok (.iconst (-1), 1) := by decide +kernel
theorem dX0_emptyRoot_30 : decode cX0_emptyRoot 30 = .ok (.iastore, 1) := by decide +kernel
theorem dX0_emptyRoot_31 : decode cX0_emptyRoot 31 = .ok (.aload_n 1, 1) := by decide +kernel
theorem dX0_emptyRoot_32 : decode cX0_emptyRoot 32 = .ok (.iconst 3, 1) := by decide +kernel
theorem dX0_emptyRoot_33 : decode cX0_emptyRoot 33 = .ok (.aload_n 1, 1) := by decide +kernel
theorem dX0_emptyRoot_34 : decode cX0_emptyRoot 34 = .ok (.iload_n 3, 1) := by decide +kernel
theorem dX0_emptyRoot_35 : decode cX0_emptyRoot 35 = .ok (.invokevirtual 81, 3) := by decide +kernel
theorem dX0_emptyRoot_38 : decode cX0_emptyRoot 38 = .ok (.invokevirtual 85, 3) := by decide +kernel
theorem dX0_emptyRoot_41 : decode cX0_emptyRoot 41 = .ok (.aload_n 1, 1) := by decide +kernel
theorem dX0_emptyRoot_42 : decode cX0_emptyRoot 42 = .ok (.iload_n 3, 1) := by decide +kernel
theorem dX0_emptyRoot_43 : decode cX0_emptyRoot 43 = .ok (.invokevirtual 81, 3) := by decide +kernel
theorem dX0_emptyRoot_46 : decode cX0_emptyRoot 46 = .ok (.ireturn, 1) := by decide +kernel
theorem dX0_actMinor_0 : decode cX0_actMinor 0 = .ok (.aload_n 0, 1) := by decide +kernel
theorem dX0_actMinor_1 : decode cX0_actMinor 1 = .ok (.getfield 22, 3) := by decide +kernel
theorem dX0_actMinor_4 : decode cX0_actMinor 4 = .ok (.aload_n 1, 1) := by decide +kernel
theorem dX0_actMinor_5 : decode cX0_actMinor 5 = .ok (.invokevirtual 61, 3) := by decide +kernel
theorem dX0_actMinor_8 : decode cX0_actMinor 8 = .ok (.ifCond .ne 6, 3) := by decide +kernel
theorem dX0_actMinor_11 : decode cX0_actMinor 11 = .ok (.bipush (-4), 2) := by decide +kernel
theorem dX0_actMinor_13 : decode cX0_actMinor 13 = .ok (.ireturn, 1) := by decide +kernel
theorem dX0_actMinor_14 : decode cX0_actMinor 14 = .ok (.aload_n 0, 1) := by decide +kernel
theorem dX0_actMinor_15 : decode cX0_actMinor 15 = .ok (.getfield 22, 3) := by decide +kernel
theorem dX0_actMinor_18 : decode cX0_actMinor 18 = .ok (.getfield 111, 3) := by decide +kernel
theorem dX0_actMinor_21 : decode cX0_actMinor 21 = .ok (.iconst 2, 1) := by decide +kernel
theorem dX0_actMinor_22 : decode cX0_actMinor 22 = .ok (.iaload, 1) := by decide +kernel
theorem dX0_actMinor_23 : decode cX0_actMinor 23 = .ok (.istore_n 2, 1) := by decide +kernel
theorem dX0_actMinor_24 : decode cX0_actMinor 24 = .ok (.aload_n 1, 1) := by decide +kernel
theorem dX0_actMinor_25 : decode cX0_actMinor 25 = .ok (.iconst 4, 1) := by decide +kernel
theorem dX0_actMinor_26 : decode cX0_actMinor 26 = .ok (.iload_n 2, 1) := by decide +kernel
theorem dX0_actMinor_27 : decode cX0_actMinor 27 = .ok (.invokevirtual 85, 3) := by decide +kernel
theorem dX0_actMinor_30 : decode cX0_actMinor 30 = .ok (.iload_n 2, 1) := by decide +kernel
theorem dX0_actMinor_31 : decode cX0_actMinor 31 = .ok (.ireturn, 1) := by decide +kernel
theorem dX0_actMajor_0 : decode cX0_actMajor 0 = .ok (.aload_n 0, 1) := by decide +kernel
theorem dX0_actMajor_1 : decode cX0_actMajor 1 = .ok (.getfield 22, 3) := by decide +kernel
theorem dX0_actMajor_4 : decode cX0_actMajor 4 = .ok (.aload_n 1, 1) := by decide +kernel
theorem dX0_actMajor_5 : decode cX0_actMajor 5 = .ok (.invokevirtual 71, 3) := by decide +kernel
theorem dX0_actMajor_8 : decode cX0_actMajor 8 = .ok (.aload_n 0, 1) := by decide +kernel
theorem dX0_actMajor_9 : decode cX0_actMajor 9 = .ok (.getfield 22, 3) := by decide +kernel
theorem dX0_actMajor_12 : decode cX0_actMajor 12 = .ok (.getfield 111, 3) := by decide +kernel
theorem dX0_actMajor_15 : decode cX0_actMajor 15 = .ok (.iconst 2, 1) := by decide +kernel
theorem dX0_actMajor_16 : decode cX0_actMajor 16 = .ok (.iaload, 1) := by decide +kernel
theorem dX0_actMajor_17 : decode cX0_actMajor 17 = .ok (.istore_n 2, 1) := by decide +kernel
theorem dX0_actMajor_18 : decode cX0_actMajor 18 = .ok (.aload_n 1, 1) := by decide +kernel
theorem dX0_actMajor_19 : decode cX0_actMajor 19 = .ok (.iconst 5, 1) := by decide +kernel
theorem dX0_actMajor_20 : decode cX0_actMajor 20 = .ok (.iload_n 2, 1) := by decide +kernel
theorem dX0_actMajor_21 : decode cX0_actMajor 21 = .ok (.invokevirtual 85, 3) := by decide +kernel
theorem dX0_actMajor_24 : decode cX0_actMajor 24 = .ok (.iload_n 2, 1) := by decide +kernel
theorem dX0_actMajor_25 : decode cX0_actMajor 25 = .ok (.ireturn, 1) := by decide +kernel
theorem dX0_tellEnd_0 : decode cX0_tellEnd 0 = .ok (.iload_n 2, 1) := by decide +kernel
theorem dX0_tellEnd_1 : decode cX0_tellEnd 1 = .ok (.bipush 8, 2) := by decide +kernel
theorem dX0_tellEnd_3 : decode cX0_tellEnd 3 = .ok (.if_icmp .eq 12, 3) := by decide +kernel
theorem dX0_tellEnd_6 : decode cX0_tellEnd 6 = .ok (.iload_n 2, 1) := by decide +kernel
theorem dX0_tellEnd_7 : decode cX0_tellEnd 7 = .ok (.invokestatic 54, 3) := by decide +kernel
theorem dX0_tellEnd_10 : decode cX0_tellEnd 10 = .ok (.ifCond .ne 5, 3) := by decide +kernel
theorem dX0_tellEnd_13 : decode cX0_tellEnd 13 = .ok (.iconst (-1), 1) := by decide +kernel
theorem dX0_tellEnd_14 : decode cX0_tellEnd 14 = .ok (.ireturn, 1) := by decide +kernel
theorem dX0_tellEnd_15 : decode cX0_tellEnd 15 = .ok (.aload_n 1, 1) := by decide +kernel
theorem dX0_tellEnd_16 : decode cX0_tellEnd 16 = .ok (.getfield 114, 3) := by decide +kernel
theorem dX0_tellEnd_19 : decode cX0_tellEnd 19 = .ok (.iconst 0, 1) := by decide +kernel
theorem dX0_tellEnd_20 : decode cX0_tellEnd 20 = .ok (.invokevirtual 118, 3) := by decide +kernel
theorem dX0_tellEnd_23 : decode cX0_tellEnd 23 = .ok (.istore_n 3, 1) := by decide +kernel
theorem dX0_tellEnd_24 : decode cX0_tellEnd 24 = .ok (.aload_n 1, 1) := by decide +kernel
theorem dX0_tellEnd_25 : decode cX0_tellEnd 25 = .ok (.iload_n 3, 1) := by decide +kernel
theorem dX0_tellEnd_26 : decode cX0_tellEnd 26 = .ok (.invokevirtual 123, 3) := by decide +kernel
theorem dX0_tellEnd_29 : decode cX0_tellEnd 29 = .ok (.ifCond .ne 6, 3) := by decide +kernel
theorem dX0_tellEnd_32 : decode cX0_tellEnd 32 = .ok (.bipush (-3), 2) := by decide +kernel
theorem dX0_tellEnd_34 : decode cX0_tellEnd 34 = .ok (.ireturn, 1) := by decide +kernel
theorem dX0_tellEnd_35 : decode cX0_tellEnd 35 = .ok (.aload_n 1, 1) := by decide +kernel
theorem dX0_tellEnd_36 : decode cX0_tellEnd 36 = .ok (.getfield 114, 3) := by decide +kernel
theorem dX0_tellEnd_39 : decode cX0_tellEnd 39 = .ok (.iconst 0, 1) := by decide +kernel
theorem dX0_tellEnd_40 : decode cX0_tellEnd 40 = .ok (.invokevirtual 126, 3) := by decide +kernel
theorem dX0_tellEnd_43 : decode cX0_tellEnd 43 = .ok (.aload_n 1, 1) := by decide +kernel
theorem dX0_tellEnd_44 : decode cX0_tellEnd 44 = .ok (.getfield 130, 3) := by decide +kernel
theorem dX0_tellEnd_47 : decode cX0_tellEnd 47 = .ok (.iload_n 3, 1) := by decide +kernel
theorem dX0_tellEnd_48 : decode cX0_tellEnd 48 = .ok (.iconst 0, 1) := by decide +kernel
theorem dX0_tellEnd_49 : decode cX0_tellEnd 49 = .ok (.iastore, 1) := by decide +kernel
theorem dX0_tellEnd_50 : decode cX0_tellEnd 50 = .ok (.iload_n 2, 1) := by decide +kernel
theorem dX0_tellEnd_51 : decode cX0_tellEnd 51 = .ok (.bipush 8, 2) := by decide +kernel
theorem dX0_tellEnd_53 : decode cX0_tellEnd 53 = .ok (.if_icmp .eq 10, 3) := by decide +kernel
theorem dX0_tellEnd_56 : decode cX0_tellEnd 56 = .ok (.aload_n 1, 1) := by decide +kernel
theorem dX0_tellEnd_57 : decode cX0_tellEnd 57 = .ok (.getfield 78, 3) := by decide +kernel
theorem dX0_tellEnd_60 : decode cX0_tellEnd 60 = .ok (.iload_n 2, 1) := by decide +kernel
theorem dX0_tellEnd_61 : decode cX0_tellEnd 61 = .ok (.iload_n 3, 1) := by decide +kernel
theorem dX0_tellEnd_62 : decode cX0_tellEnd 62 = .ok (.iastore, 1) := by decide +kernel
theorem dX0_tellEnd_63 : decode cX0_tellEnd 63 = .ok (.aload_n 1, 1) := by decide +kernel
theorem dX0_tellEnd_64 : decode cX0_tellEnd 64 = .ok (.bipush 6, 2) := by decide +kernel
theorem dX0_tellEnd_66 : decode cX0_tellEnd 66 = .ok (.aload_n 1, 1) := by decide +kernel
theorem dX0_tellEnd_67 : decode cX0_tellEnd 67 = .ok (.getfield 108, 3) := by decide +kernel
theorem dX0_tellEnd_70 : decode cX0_tellEnd 70 = .ok (.iload_n 3, 1) := by decide +kernel
theorem dX0_tellEnd_71 : decode cX0_tellEnd 71 = .ok (.iaload, 1) := by decide +kernel
theorem dX0_tellEnd_72 : decode cX0_tellEnd 72 = .ok (.invokevirtual 85, 3) := by decide +kernel
theorem dX0_tellEnd_75 : decode cX0_tellEnd 75 = .ok (.aload_n 1, 1) := by decide +kernel
theorem dX0_tellEnd_76 : decode cX0_tellEnd 76 = .ok (.getfield 108, 3) := by decide +kernel
theorem dX0_tellEnd_79 : decode cX0_tellEnd 79 = .ok (.iload_n 3, 1) := by decide +kernel
theorem dX0_tellEnd_80 : decode cX0_tellEnd 80 = .ok (.iaload, 1) := by decide +kernel
theorem dX0_tellEnd_81 : decode cX0_tellEnd 81 = .ok (.ireturn, 1) := by decide +kernel
theorem dX0_askLost_0 : decode cX0_askLost 0 = .ok (.aload_n 1, 1) := by decide +kernel
theorem dX0_askLost_1 : decode cX0_askLost 1 = .ok (.getfield 133, 3) := by decide +kernel
theorem dX0_askLost_4 : decode cX0_askLost 4 = .ok (.getfield 136, 3) := by decide +kernel
theorem dX0_askLost_7 : decode cX0_askLost 7 = .ok (.ifCond .ne 6, 3) := by decide +kernel
theorem dX0_askLost_10 : decode cX0_askLost 10 = .ok (.bipush (-3), 2) := by decide +kernel
theorem dX0_askLost_12 : decode cX0_askLost 12 = .ok (.ireturn, 1) := by decide +kernel
theorem dX0_askLost_13 : decode cX0_askLost 13 = .ok (.aload_n 1, 1) := by decide +kernel
theorem dX0_askLost_14 : decode cX0_askLost 14 = .ok (.getfield 133, 3) := by decide +kernel
theorem dX0_askLost_17 : decode cX0_askLost 17 = .ok (.iconst 0, 1) := by decide +kernel
theorem dX0_askLost_18 : decode cX0_askLost 18 = .ok (.invokevirtual 118, 3) := by decide +kernel
theorem dX0_askLost_21 : decode cX0_askLost 21 = .ok (.istore_n 2, 1) := by decide +kernel
theorem dX0_askLost_22 : decode cX0_askLost 22 = .ok (.aload_n 1, 1) := by decide +kernel
theorem dX0_askLost_23 : decode cX0_askLost 23 = .ok (.getfield 133, 3) := by decide +kernel
theorem dX0_askLost_26 : decode cX0_askLost 26 = .ok (.iconst 0, 1) := by decide +kernel
theorem dX0_askLost_27 : decode cX0_askLost 27 = .ok (.invokevirtual 126, 3) := by decide +kernel
theorem dX0_askLost_30 : decode cX0_askLost 30 = .ok (.aload_n 1, 1) := by decide +kernel
theorem dX0_askLost_31 : decode cX0_askLost 31 = .ok (.bipush 7, 2) := by decide +kernel
theorem dX0_askLost_33 : decode cX0_askLost 33 = .ok (.iload_n 2, 1) := by decide +kernel
theorem dX0_askLost_34 : decode cX0_askLost 34 = .ok (.invokevirtual 85, 3) := by decide +kernel
theorem dX0_askLost_37 : decode cX0_askLost 37 = .ok (.iload_n 2, 1) := by decide +kernel
theorem dX0_askLost_38 : decode cX0_askLost 38 = .ok (.ireturn, 1) := by decide +kernel
theorem dX0_isLinkedRoot_0 : decode cX0_isLinkedRoot 0 = .ok (.iload_n 1, 1) := by decide +kernel
theorem dX0_isLinkedRoot_1 : decode cX0_isLinkedRoot 1 = .ok (.invokestatic 54, 3) := by decide +kernel
theorem dX0_isLinkedRoot_4 : decode cX0_isLinkedRoot 4 = .ok (.ifCond .eq 17, 3) := by decide +kernel
theorem dX0_isLinkedRoot_7 : decode cX0_isLinkedRoot 7 = .ok (.aload_n 0, 1) := by decide +kernel
theorem dX0_isLinkedRoot_8 : decode cX0_isLinkedRoot 8 = .ok (.getfield 78, 3) := by decide +kernel
theorem dX0_isLinkedRoot_11 : decode cX0_isLinkedRoot 11 = .ok (.iload_n 1, 1) := by decide +kernel
theorem dX0_isLinkedRoot_12 : decode cX0_isLinkedRoot 12 = .ok (.iaload, 1) := by decide +kernel
theorem dX0_isLinkedRoot_13 : decode cX0_isLinkedRoot 13 = .ok (.iconst (-1), 1) := by decide +kernel
theorem dX0_isLinkedRoot_14 : decode cX0_isLinkedRoot 14 = .ok (.if_icmp .eq 7, 3) := by decide +kernel
theorem dX0_isLinkedRoot_17 : decode cX0_isLinkedRoot 17 = .ok (.iconst 1, 1) := by decide +kernel
theorem dX0_isLinkedRoot_18 : decode cX0_isLinkedRoot 18 = .ok (.goto 4, 3) := by decide +kernel
theorem dX0_isLinkedRoot_21 : decode cX0_isLinkedRoot 21 = .ok (.iconst 0, 1) := by decide +kernel
theorem dX0_isLinkedRoot_22 : decode cX0_isLinkedRoot 22 = .ok (.ireturn, 1) := by decide +kernel
theorem dX2_init_0 : decode cX2_init 0 = .ok (.aload_n 0, 1) := by decide +kernel
theorem dX2_init_1 : decode cX2_init 1 = .ok (.invokespecial 3, 3) := by decide +kernel
theorem dX2_init_4 : decode cX2_init 4 = .ok (.aload_n 0, 1) := by decide +kernel
theorem dX2_init_5 : decode cX2_init 5 = .ok (.lload_n 1, 1) := by decide +kernel
theorem dX2_init_6 : decode cX2_init 6 = .ok (.putfield 9, 3) := by decide +kernel
theorem dX2_init_9 : decode cX2_init 9 = .ok (.return_, 1) := by decide +kernel
theorem dX2_drawAct_0 : decode cX2_drawAct 0 = .ok (.aload_n 0, 1) := by decide +kernel
theorem dX2_drawAct_1 : decode cX2_drawAct 1 = .ok (.bipush 10, 2) := by decide +kernel
theorem dX2_drawAct_3 : decode cX2_drawAct 3 = .ok (.invokevirtual 15, 3) := by decide +kernel
theorem dX2_drawAct_6 : decode cX2_drawAct 6 = .ok (.istore_n 1, 1) := by decide +kernel
theorem dX2_drawAct_7 : decode cX2_drawAct 7 = .ok (.iload_n 1, 1) := by decide +kernel
theorem dX2_drawAct_8 : decode cX2_drawAct 8 = .ok (.iconst 3, 1) := by decide +kernel
theorem dX2_drawAct_9 : decode cX2_drawAct 9 = .ok (.if_icmp .gt 36, 3) := by decide +kernel
theorem dX2_drawAct_12 : decode cX2_drawAct 12 = .ok (.aload_n 0, 1) := by decide +kernel
theorem dX2_drawAct_13 : decode cX2_drawAct 13 = .ok (.iconst 0, 1) := by decide +kernel
theorem dX2_drawAct_14 : decode cX2_drawAct 14 = .ok (.aload_n 0, 1) := by decide +kernel
theorem dX2_drawAct_15 : decode cX2_drawAct 15 = .ok (.bipush 8, 2) := by decide +kernel
theorem dX2_drawAct_17 : decode cX2_drawAct 17 = .ok (.invokevirtual 15, 3) := by decide +kernel
theorem dX2_drawAct_20 : decode cX2_drawAct 20 = .ok (.aload_n 0, 1) := by decide +kernel
theorem dX2_drawAct_21 : decode cX2_drawAct 21 = .ok (.iconst 3, 1) := by decide +kernel
theorem dX2_drawAct_22 : decode cX2_drawAct 22 = .ok (.invokevirtual 15, 3) := by decide +kernel
theorem dX2_drawAct_25 : decode cX2_drawAct 25 = .ok (.aload_n 0, 1) := by decide +kernel
theorem dX2_drawAct_26 : decode cX2_drawAct 26 = .ok (.iconst 4, 1) := by decide +kernel
theorem dX2_drawAct_27 : decode cX2_drawAct 27 = .ok (.invokevirtual 15, 3) := by decide +kernel
theorem dX2_drawAct_30 : decode cX2_drawAct 30 = .ok (.iconst 1, 1) := by decide +kernel
theorem dX2_drawAct_31 : decode cX2_drawAct 31 = .ok (.iadd, 1) := by decide +kernel
theorem dX2_drawAct_32 : decode cX2_drawAct 32 = .ok (.aload_n 0, 1) := by decide +kernel
theorem dX2_drawAct_33 : decode cX2_drawAct 33 = .ok (.sipush 1000, 3) := by decide +kernel
theorem dX2_drawAct_36 : decode cX2_drawAct 36 = .ok (.invokevirtual 15, 3) := by decide +kernel
theorem dX2_drawAct_39 : decode cX2_drawAct 39 = .ok (.invokevirtual 19, 3) := by decide +kernel
theorem dX2_drawAct_42 : decode cX2_drawAct 42 = .ok (.goto 94, 3) := by decide +kernel
theorem dX2_drawAct_45 : decode cX2_drawAct 45 = .ok (.iload_n 1, 1) := by decide +kernel
theorem dX2_drawAct_46 : decode cX2_drawAct 46 = .ok (.bipush 6, 2) := by decide +kernel
theorem dX2_drawAct_48 : decode cX2_drawAct 48 = .ok (.if_icmp .gt 29, 3) := by decide +kernel
theorem dX2_drawAct_51 : decode cX2_drawAct 51 = .ok (.aload_n 0, 1) := by decide +kernel
theorem dX2_drawAct_52 : decode cX2_drawAct 52 = .ok (.iconst 1, 1) := by decide +kernel
theorem dX2_drawAct_53 : decode cX2_drawAct 53 = .ok (.aload_n 0, 1) := by decide +kernel
theorem dX2_drawAct_54 : decode cX2_drawAct 54 = .ok (.bipush 8, 2) := by decide +kernel
theorem dX2_drawAct_56 : decode cX2_drawAct 56 = .ok (.invokevirtual 15, 3) := by decide +kernel
theorem dX2_drawAct_59 : decode cX2_drawAct 59 = .ok (.aload_n 0, 1) := by decide +kernel
theorem dX2_drawAct_60 : decode cX2_drawAct 60 = .ok (.iconst 4, 1) := by decide +kernel
theorem dX2_drawAct_61 : decode cX2_drawAct 61 = .ok (.invokevirtual 15, 3) := by decide +kernel
theorem dX2_drawAct_64 : decode cX2_drawAct 64 = .ok (.aload_n 0, 1) := by decide +kernel
theorem dX2_drawAct_65 : decode cX2_drawAct 65 = .ok (.bipush 9, 2) := by decide +kernel
theorem dX2_drawAct_67 : decode cX2_drawAct 67 = .ok (.invokevirtual 15, 3) := by decide +kernel
theorem dX2_drawAct_70 : decode cX2_drawAct 70 = .ok (.iconst (-1), 1) := by decide +kernel
theorem dX2_drawAct_71 : decode cX2_drawAct 71 = .ok (.invokevirtual 19, 3) := by decide +kernel
theorem dX2_drawAct_74 : decode cX2_drawAct 74 = .ok (.goto 62, 3) := by decide +kernel
theorem dX2_drawAct_77 : decode cX2_drawAct 77 = .ok (.iload_n 1, 1) := by decide +kernel
theorem dX2_drawAct_78 : decode cX2_drawAct 78 = .ok (.bipush 7, 2) := by decide +kernel
theorem dX2_drawAct_80 : decode cX2_drawAct 80 = .ok (.if_icmp .ne 29, 3) := by decide +kernel
theorem dX2_drawAct_83 : decode cX2_drawAct 83 = .ok (.aload_n 0, 1) := by decide +kernel
theorem dX2_drawAct_84 : decode cX2_drawAct 84 = .ok (.iconst 2, 1) := by decide +kernel
theorem dX2_drawAct_85 : decode cX2_drawAct 85 = .ok (.aload_n 0, 1) := by decide +kernel
theorem dX2_drawAct_86 : decode cX2_drawAct 86 = .ok (.bipush 8, 2) := by decide +kernel
theorem dX2_drawAct_88 : decode cX2_drawAct 88 = .ok (.invokevirtual 15, 3) := by decide +kernel
theorem dX2_drawAct_91 : decode cX2_drawAct 91 = .ok (.aload_n 0, 1) := by decide +kernel
theorem dX2_drawAct_92 : decode cX2_drawAct 92 = .ok (.bipush 8, 2) := by decide +kernel
theorem dX2_drawAct_94 : decode cX2_drawAct 94 = .ok (.invokevirtual 15, 3) := by decide +kernel
theorem dX2_drawAct_97 : decode cX2_drawAct 97 = .ok (.aload_n 0, 1) := by decide +kernel
theorem dX2_drawAct_98 : decode cX2_drawAct 98 = .ok (.iconst 4, 1) := by decide +kernel
theorem dX2_drawAct_99 : decode cX2_drawAct 99 = .ok (.invokevirtual 15, 3) := by decide +kernel
theorem dX2_drawAct_102 : decode cX2_drawAct 102 = .ok (.iconst (-1), 1) := by decide +kernel
theorem dX2_drawAct_103 : decode cX2_drawAct 103 = .ok (.invokevirtual 19, 3) := by decide +kernel
theorem dX2_drawAct_106 : decode cX2_drawAct 106 = .ok (.goto 30, 3) := by decide +kernel
theorem dX2_drawAct_109 : decode cX2_drawAct 109 = .ok (.iload_n 1, 1) := by decide +kernel
theorem dX2_drawAct_110 : decode cX2_drawAct 110 = .ok (.bipush 8, 2) := by decide +kernel
theorem dX2_drawAct_112 : decode cX2_drawAct 112 = .ok (.if_icmp .ne 20, 3) := by decide +kernel
theorem dX2_drawAct_115 : decode cX2_drawAct 115 = .ok (.aload_n 0, 1) := by decide +kernel
theorem dX2_drawAct_116 : decode cX2_drawAct 116 = .ok (.iconst 3, 1) := by decide +kernel
theorem dX2_drawAct_117 : decode cX2_drawAct 117 = .ok (.aload_n 0, 1) := by decide +kernel
theorem dX2_drawAct_118 : decode cX2_drawAct 118 = .ok (.bipush 8, 2) := by decide +kernel
theorem dX2_drawAct_120 : decode cX2_drawAct 120 = .ok (.invokevirtual 15, 3) := by decide +kernel
theorem dX2_drawAct_123 : decode cX2_drawAct 123 = .ok (.iconst (-1), 1) := by decide +kernel
theorem dX2_drawAct_124 : decode cX2_drawAct 124 = .ok (.iconst (-1), 1) := by decide +kernel
theorem dX2_drawAct_125 : decode cX2_drawAct 125 = .ok (.iconst (-1), 1) := by decide +kernel
theorem dX2_drawAct_126 : decode cX2_drawAct 126 = .ok (.invokevirtual 19, 3) := by decide +kernel
theorem dX2_drawAct_129 : decode cX2_drawAct 129 = .ok (.goto 7, 3) := by decide +kernel
theorem dX2_drawAct_132 : decode cX2_drawAct 132 = .ok (.aload_n 0, 1) := by decide +kernel
theorem dX2_drawAct_133 : decode cX2_drawAct 133 = .ok (.invokevirtual 23, 3) := by decide +kernel
theorem dX2_drawAct_136 : decode cX2_drawAct 136 = .ok (.return_, 1) := by decide +kernel
theorem dX2_drawRareAct_0 : decode cX2_drawRareAct 0 = .ok (.aload_n 0, 1) := by decide +kernel
theorem dX2_drawRareAct_1 : decode cX2_drawRareAct 1 = .ok (.iconst 3, 1) := by decide +kernel
theorem dX2_drawRareAct_2 : decode cX2_drawRareAct 2 = .ok (.invokevirtual 15, 3) := by decide +kernel
theorem dX2_drawRareAct_5 : decode cX2_drawRareAct 5 = .ok (.istore_n 1, 1) := by decide +kernel
theorem dX2_drawRareAct_6 : decode cX2_drawRareAct 6 = .ok (.iload_n 1, 1) := by decide +kernel
theorem dX2_drawRareAct_7 : decode cX2_drawRareAct 7 = .ok (.ifCond .ne 15, 3) := by decide +kernel
theorem dX2_drawRareAct_10 : decode cX2_drawRareAct 10 = .ok (.aload_n 0, 1) := by decide +kernel
theorem dX2_drawRareAct_11 : decode cX2_drawRareAct 11 = .ok (.iconst 4, 1) := by decide +kernel
theorem dX2_drawRareAct_12 : decode cX2_drawRareAct 12 = .ok (.iconst (-1), 1) := by decide +kernel
theorem dX2_drawRareAct_13 : decode cX2_drawRareAct 13 = .ok (.iconst (-1), 1) := by decide +kernel
theorem dX2_drawRareAct_14 : decode cX2_drawRareAct 14 = .ok (.iconst (-1), 1) := by decide +kernel
theorem dX2_drawRareAct_15 : decode cX2_drawRareAct 15 = .ok (.iconst (-1), 1) := by decide +kernel
theorem dX2_drawRareAct_16 : decode cX2_drawRareAct 16 = .ok (.invokevirtual 19, 3) := by decide +kernel
theorem dX2_drawRareAct_19 : decode cX2_drawRareAct 19 = .ok (.goto 35, 3) := by decide +kernel
theorem dX2_drawRareAct_22 : decode cX2_drawRareAct 22 = .ok (.iload_n 1, 1) := by decide +kernel
theorem dX2_drawRareAct_23 : decode cX2_drawRareAct 23 = .ok (.iconst 1, 1) := by decide +kernel
theorem dX2_drawRareAct_24 : decode cX2_drawRareAct 24 = .ok (.if_icmp .ne 15, 3) := by decide +kernel
theorem dX2_drawRareAct_27 : decode cX2_drawRareAct 27 = .ok (.aload_n 0, 1) := by decide +kernel
theorem dX2_drawRareAct_28 : decode cX2_drawRareAct 28 = .ok (.iconst 5, 1) := by decide +kernel
theorem dX2_drawRareAct_29 : decode cX2_drawRareAct 29 = .ok (.iconst (-1), 1) := by decide +kernel
theorem dX2_drawRareAct_30 : decode cX2_drawRareAct 30 = .ok (.iconst (-1), 1) := by decide +kernel
theorem dX2_drawRareAct_31 : decode cX2_drawRareAct 31 = .ok (.iconst (-1), 1) := by decide +kernel
theorem dX2_drawRareAct_32 : decode cX2_drawRareAct 32 = .ok (.iconst (-1), 1) := by decide +kernel
theorem dX2_drawRareAct_33 : decode cX2_drawRareAct 33 = .ok (.invokevirtual 19, 3) := by decide +kernel
theorem dX2_drawRareAct_36 : decode cX2_drawRareAct 36 = .ok (.goto 18, 3) := by decide +kernel
theorem dX2_drawRareAct_39 : decode cX2_drawRareAct 39 = .ok (.aload_n 0, 1) := by decide +kernel
theorem dX2_drawRareAct_40 : decode cX2_drawRareAct 40 = .ok (.bipush 6, 2) := by decide +kernel
theorem dX2_drawRareAct_42 : decode cX2_drawRareAct 42 = .ok (.aload_n 0, 1) := by decide +kernel
theorem dX2_drawRareAct_43 : decode cX2_drawRareAct 43 = .ok (.bipush 9, 2) := by decide +kernel
theorem dX2_drawRareAct_45 : decode cX2_drawRareAct 45 = .ok (.invokevirtual 15, 3) := by decide +kernel
theorem dX2_drawRareAct_48 : decode cX2_drawRareAct 48 = .ok (.iconst (-1), 1) := by decide +kernel
theorem dX2_drawRareAct_49 : decode cX2_drawRareAct 49 = .ok (.iconst (-1), 1) := by decide +kernel
theorem dX2_drawRareAct_50 : decode cX2_drawRareAct 50 = .ok (.iconst (-1), 1) := by decide +kernel
theorem dX2_drawRareAct_51 : decode cX2_drawRareAct 51 = .ok (.invokevirtual 19, 3) := by decide +kernel
theorem dX2_drawRareAct_54 : decode cX2_drawRareAct 54 = .ok (.return_, 1) := by decide +kernel
theorem dX2_tellAct_0 : decode cX2_tellAct 0 = .ok (.aload_n 0, 1) := by decide +kernel
theorem dX2_tellAct_1 : decode cX2_tellAct 1 = .ok (.iload_n 1, 1) := by decide +kernel
theorem dX2_tellAct_2 : decode cX2_tellAct 2 = .ok (.putfield 26, 3) := by decide +kernel
theorem dX2_tellAct_5 : decode cX2_tellAct 5 = .ok (.aload_n 0, 1) := by decide +kernel
theorem dX2_tellAct_6 : decode cX2_tellAct 6 = .ok (.iload_n 2, 1) := by decide +kernel
theorem dX2_tellAct_7 : decode cX2_tellAct 7 = .ok (.putfield 30, 3) := by decide +kernel
theorem dX2_tellAct_10 : decode cX2_tellAct 10 = .ok (.aload_n 0, 1) := by decide +kernel
theorem dX2_tellAct_11 : decode cX2_tellAct 11 = .ok (.iload_n 3, 1) := by decide +kernel
theorem dX2_tellAct_12 : decode cX2_tellAct 12 = .ok (.putfield 33, 3) := by decide +kernel
theorem dX2_tellAct_15 : decode cX2_tellAct 15 = .ok (.aload_n 0, 1) := by decide +kernel
theorem dX2_tellAct_16 : decode cX2_tellAct 16 = .ok (.iload 4, 2) := by decide +kernel
theorem dX2_tellAct_18 : decode cX2_tellAct 18 = .ok (.putfield 36, 3) := by decide +kernel
theorem dX2_tellAct_21 : decode cX2_tellAct 21 = .ok (.aload_n 0, 1) := by decide +kernel
theorem dX2_tellAct_22 : decode cX2_tellAct 22 = .ok (.iload 5, 2) := by decide +kernel
theorem dX2_tellAct_24 : decode cX2_tellAct 24 = .ok (.putfield 39, 3) := by decide +kernel
theorem dX2_tellAct_27 : decode cX2_tellAct 27 = .ok (.return_, 1) := by decide +kernel
theorem dX2_next_0 : decode cX2_next 0 = .ok (.aload_n 0, 1) := by decide +kernel
theorem dX2_next_1 : decode cX2_next 1 = .ok (.aload_n 0, 1) := by decide +kernel
theorem dX2_next_2 : decode cX2_next 2 = .ok (.getfield 9, 3) := by decide +kernel
theorem dX2_next_5 : decode cX2_next 5 = .ok (.ldc2_w 42, 3) := by decide +kernel
theorem dX2_next_8 : decode cX2_next 8 = .ok (.lmul, 1) := by decide +kernel
theorem dX2_next_9 : decode cX2_next 9 = .ok (.ldc2_w 44, 3) := by decide +kernel
theorem dX2_next_12 : decode cX2_next 12 = .ok (.ladd, 1) := by decide +kernel
theorem dX2_next_13 : decode cX2_next 13 = .ok (.putfield 9, 3) := by decide +kernel
theorem dX2_next_16 : decode cX2_next 16 = .ok (.iload_n 1, 1) := by decide +kernel
theorem dX2_next_17 : decode cX2_next 17 = .ok (.ifCond .gt 7, 3) := by decide +kernel
theorem dX2_next_20 : decode cX2_next 20 = .ok (.iconst 0, 1) := by decide +kernel
theorem dX2_next_21 : decode cX2_next 21 = .ok (.goto 14, 3) := by decide +kernel
theorem dX2_next_24 : decode cX2_next 24 = .ok (.aload_n 0, 1) := by decide +kernel
theorem dX2_next_25 : decode cX2_next 25 = .ok (.getfield 9, 3) := by decide +kernel
theorem dX2_next_28 : decode cX2_next 28 = .ok (.bipush 33, 2) := by decide +kernel
theorem dX2_next_30 : decode cX2_next 30 = .ok (.lushr, 1) := by decide +kernel
theorem dX2_next_31 : decode cX2_next 31 = .ok (.iload_n 1, 1) := by decide +kernel
theorem dX2_next_32 : decode cX2_next 32 = .ok (.i2l, 1) := by decide +kernel
theorem dX2_next_33 : decode cX2_next 33 = .ok (.lrem, 1) := by decide +kernel
theorem dX2_next_34 : decode cX2_next 34 = .ok (.l2i, 1) := by decide +kernel
theorem dX2_next_35 : decode cX2_next 35 = .ok (.ireturn, 1) := by decide +kernel
theorem dX4_init_0 : decode cX4_init 0 = .ok (.aload_n 0, 1) := by decide +kernel
theorem dX4_init_1 : decode cX4_init 1 = .ok (.invokespecial 3, 3) := by decide +kernel
theorem dX4_init_4 : decode cX4_init 4 = .ok (.aload_n 0, 1) := by decide +kernel
theorem dX4_init_5 : decode cX4_init 5 = .ok (.iconst 1, 1) := by decide +kernel
theorem dX4_init_6 : decode cX4_init 6 = .ok (.iload_n 1, 1) := by decide +kernel
theorem dX4_init_7 : decode cX4_init 7 = .ok (.invokestatic 9, 3) := by decide +kernel
theorem dX4_init_10 : decode cX4_init 10 = .ok (.newarray .int, 2) := by decide +kernel
theorem dX4_init_12 : decode cX4_init 12 = .ok (.putfield 15, 3) := by decide +kernel
theorem dX4_init_15 : decode cX4_init 15 = .ok (.return_, 1) := by decide +kernel
theorem dX4_copyFrom_0 : decode cX4_copyFrom 0 = .ok (.aload_n 0, 1) := by decide +kernel
theorem dX4_copyFrom_1 : decode cX4_copyFrom 1 = .ok (.aload_n 1, 1) := by decide +kernel
theorem dX4_copyFrom_2 : decode cX4_copyFrom 2 = .ok (.getfield 21, 3) := by decide +kernel
theorem dX4_copyFrom_5 : decode cX4_copyFrom 5 = .ok (.aload_n 0, 1) := by decide +kernel
theorem dX4_copyFrom_6 : decode cX4_copyFrom 6 = .ok (.getfield 15, 3) := by decide +kernel
theorem dX4_copyFrom_9 : decode cX4_copyFrom 9 = .ok (.arraylength, 1) := by decide +kernel
theorem dX4_copyFrom_10 : decode cX4_copyFrom 10 = .ok (.invokestatic 25, 3) := by decide +kernel
theorem dX4_copyFrom_13 : decode cX4_copyFrom 13 = .ok (.putfield 21, 3) := by decide +kernel
theorem dX4_copyFrom_16 : decode cX4_copyFrom 16 = .ok (.aload_n 1, 1) := by decide +kernel
theorem dX4_copyFrom_17 : decode cX4_copyFrom 17 = .ok (.getfield 15, 3) := by decide +kernel
theorem dX4_copyFrom_20 : decode cX4_copyFrom 20 = .ok (.iconst 0, 1) := by decide +kernel
theorem dX4_copyFrom_21 : decode cX4_copyFrom 21 = .ok (.aload_n 0, 1) := by decide +kernel
theorem dX4_copyFrom_22 : decode cX4_copyFrom 22 = .ok (.getfield 15, 3) := by decide +kernel
theorem dX4_copyFrom_25 : decode cX4_copyFrom 25 = .ok (.iconst 0, 1) := by decide +kernel
theorem dX4_copyFrom_26 : decode cX4_copyFrom 26 = .ok (.aload_n 0, 1) := by decide +kernel
theorem dX4_copyFrom_27 : decode cX4_copyFrom 27 = .ok (.getfield 21, 3) := by decide +kernel
theorem dX4_copyFrom_30 : decode cX4_copyFrom 30 = .ok (.invokestatic 28, 3) := by decide +kernel
theorem dX4_copyFrom_33 : decode cX4_copyFrom 33 = .ok (.return_, 1) := by decide +kernel
theorem dX4_get_0 : decode cX4_get 0 = .ok (.iload_n 1, 1) := by decide +kernel
theorem dX4_get_1 : decode cX4_get 1 = .ok (.ifCond .lt 20, 3) := by decide +kernel
theorem dX4_get_4 : decode cX4_get 4 = .ok (.iload_n 1, 1) := by decide +kernel
theorem dX4_get_5 : decode cX4_get 5 = .ok (.aload_n 0, 1) := by decide +kernel
theorem dX4_get_6 : decode cX4_get 6 = .ok (.getfield 21, 3) := by decide +kernel
theorem dX4_get_9 : decode cX4_get 9 = .ok (.if_icmp .ge 12, 3) := by decide +kernel
theorem dX4_get_12 : decode cX4_get 12 = .ok (.aload_n 0, 1) := by decide +kernel
theorem dX4_get_13 : decode cX4_get 13 = .ok (.getfield 15, 3) := by decide +kernel
theorem dX4_get_16 : decode cX4_get 16 = .ok (.iload_n 1, 1) := by decide +kernel
theorem dX4_get_17 : decode cX4_get 17 = .ok (.iaload, 1) := by decide +kernel
theorem dX4_get_18 : decode cX4_get 18 = .ok (.goto 4, 3) := by decide +kernel
theorem dX4_get_21 : decode cX4_get 21 = .ok (.iconst (-1), 1) := by decide +kernel
theorem dX4_get_22 : decode cX4_get 22 = .ok (.ireturn, 1) := by decide +kernel
theorem dX4_set_0 : decode cX4_set 0 = .ok (.iload_n 1, 1) := by decide +kernel
theorem dX4_set_1 : decode cX4_set 1 = .ok (.ifCond .lt 18, 3) := by decide +kernel
theorem dX4_set_4 : decode cX4_set 4 = .ok (.iload_n 1, 1) := by decide +kernel
theorem dX4_set_5 : decode cX4_set 5 = .ok (.aload_n 0, 1) := by decide +kernel
theorem dX4_set_6 : decode cX4_set 6 = .ok (.getfield 21, 3) := by decide +kernel
theorem dX4_set_9 : decode cX4_set 9 = .ok (.if_icmp .ge 10, 3) := by decide +kernel
theorem dX4_set_12 : decode cX4_set 12 = .ok (.aload_n 0, 1) := by decide +kernel
theorem dX4_set_13 : decode cX4_set 13 = .ok (.getfield 15, 3) := by decide +kernel
theorem dX4_set_16 : decode cX4_set 16 = .ok (.iload_n 1, 1) := by decide +kernel
theorem dX4_set_17 : decode cX4_set 17 = .ok (.iload_n 2, 1) := by decide +kernel
theorem dX4_set_18 : decode cX4_set 18 = .ok (.iastore, 1) := by decide +kernel
theorem dX4_set_19 : decode cX4_set 19 = .ok (.return_, 1) := by decide +kernel
theorem dX4_add_0 : decode cX4_add 0 = .ok (.aload_n 0, 1) := by decide +kernel
theorem dX4_add_1 : decode cX4_add 1 = .ok (.getfield 21, 3) := by decide +kernel
theorem dX4_add_4 : decode cX4_add 4 = .ok (.aload_n 0, 1) := by decide +kernel
theorem dX4_add_5 : decode cX4_add 5 = .ok (.getfield 15, 3) := by decide +kernel
theorem dX4_add_8 : decode cX4_add 8 = .ok (.arraylength, 1) := by decide +kernel
theorem dX4_add_9 : decode cX4_add 9 = .ok (.if_icmp .ne 30, 3) := by decide +kernel
theorem dX4_add_12 : decode cX4_add 12 = .ok (.aload_n 0, 1) := by decide +kernel
theorem dX4_add_13 : decode cX4_add 13 = .ok (.dup, 1) := by decide +kernel
theorem dX4_add_14 : decode cX4_add 14 = .ok (.getfield 21, 3) := by decide +kernel
theorem dX4_add_17 : decode cX4_add 17 = .ok (.iconst 1, 1) := by decide +kernel
theorem dX4_add_18 : decode cX4_add 18 = .ok (.isub, 1) := by decide +kernel
theorem dX4_add_19 : decode cX4_add 19 = .ok (.putfield 21, 3) := by decide +kernel
theorem dX4_add_22 : decode cX4_add 22 = .ok (.aload_n 0, 1) := by decide +kernel
theorem dX4_add_23 : decode cX4_add 23 = .ok (.getfield 15, 3) := by decide +kernel
theorem dX4_add_26 : decode cX4_add 26 = .ok (.iconst 1, 1) := by decide +kernel
theorem dX4_add_27 : decode cX4_add 27 = .ok (.aload_n 0, 1) := by decide +kernel
theorem dX4_add_28 : decode cX4_add 28 = .ok (.getfield 15, 3) := by decide +kernel
theorem dX4_add_31 : decode cX4_add 31 = .ok (.iconst 0, 1) := by decide +kernel
theorem dX4_add_32 : decode cX4_add 32 = .ok (.aload_n 0, 1) := by decide +kernel
theorem dX4_add_33 : decode cX4_add 33 = .ok (.getfield 21, 3) := by decide +kernel
theorem dX4_add_36 : decode cX4_add 36 = .ok (.invokestatic 28, 3) := by decide +kernel
theorem dX4_add_39 : decode cX4_add 39 = .ok (.aload_n 0, 1) := by decide +kernel
theorem dX4_add_40 : decode cX4_add 40 = .ok (.getfield 15, 3) := by decide +kernel
theorem dX4_add_43 : decode cX4_add 43 = .ok (.aload_n 0, 1) := by decide +kernel
theorem dX4_add_44 : decode cX4_add 44 = .ok (.getfield 21, 3) := by decide +kernel
theorem dX4_add_47 : decode cX4_add 47 = .ok (.iload_n 1, 1) := by decide +kernel
theorem dX4_add_48 : decode cX4_add 48 = .ok (.iastore, 1) := by decide +kernel
theorem dX4_add_49 : decode cX4_add 49 = .ok (.aload_n 0, 1) := by decide +kernel
theorem dX4_add_50 : decode cX4_add 50 = .ok (.dup, 1) := by decide +kernel
theorem dX4_add_51 : decode cX4_add 51 = .ok (.getfield 21, 3) := by decide +kernel
theorem dX4_add_54 : decode cX4_add 54 = .ok (.iconst 1, 1) := by decide +kernel
theorem dX4_add_55 : decode cX4_add 55 = .ok (.iadd, 1) := by decide +kernel
theorem dX4_add_56 : decode cX4_add 56 = .ok (.putfield 21, 3) := by decide +kernel
theorem dX4_add_59 : decode cX4_add 59 = .ok (.return_, 1) := by decide +kernel
theorem dX4_removeAt_0 : decode cX4_removeAt 0 = .ok (.iload_n 1, 1) := by decide +kernel
theorem dX4_removeAt_1 : decode cX4_removeAt 1 = .ok (.ifCond .lt 42, 3) := by decide +kernel
theorem dX4_removeAt_4 : decode cX4_removeAt 4 = .ok (.iload_n 1, 1) := by decide +kernel
theorem dX4_removeAt_5 : decode cX4_removeAt 5 = .ok (.aload_n 0, 1) := by decide +kernel
theorem dX4_removeAt_6 : decode cX4_removeAt 6 = .ok (.getfield 21, 3) := by decide +kernel
theorem dX4_removeAt_9 : decode cX4_removeAt 9 = .ok (.if_icmp .ge 34, 3) := by decide +kernel
theorem dX4_removeAt_12 : decode cX4_removeAt 12 = .ok (.aload_n 0, 1) := by decide +kernel
theorem dX4_removeAt_13 : decode cX4_removeAt 13 = .ok (.dup, 1) := by decide +kernel
theorem dX4_removeAt_14 : decode cX4_removeAt 14 = .ok (.getfield 21, 3) := by decide +kernel
theorem dX4_removeAt_17 : decode cX4_removeAt 17 = .ok (.iconst 1, 1) := by decide +kernel
theorem dX4_removeAt_18 : decode cX4_removeAt 18 = .ok (.isub, 1) := by decide +kernel
theorem dX4_removeAt_19 : decode cX4_removeAt 19 = .ok (.putfield 21, 3) := by decide +kernel
theorem dX4_removeAt_22 : decode cX4_removeAt 22 = .ok (.aload_n 0, 1) := by decide +kernel
theorem dX4_removeAt_23 : decode cX4_removeAt 23 = .ok (.getfield 15, 3) := by decide +kernel
theorem dX4_removeAt_26 : decode cX4_removeAt 26 = .ok (.iload_n 1, 1) := by decide +kernel
theorem dX4_removeAt_27 : decode cX4_removeAt 27 = .ok (.iconst 1, 1) := by decide +kernel
theorem dX4_removeAt_28 : decode cX4_removeAt 28 = .ok (.iadd, 1) := by decide +kernel
theorem dX4_removeAt_29 : decode cX4_removeAt 29 = .ok (.aload_n 0, 1) := by decide +kernel
theorem dX4_removeAt_30 : decode cX4_removeAt 30 = .ok (.getfield 15, 3) := by decide +kernel
theorem dX4_removeAt_33 : decode cX4_removeAt 33 = .ok (.iload_n 1, 1) := by decide +kernel
theorem dX4_removeAt_34 : decode cX4_removeAt 34 = .ok (.aload_n 0, 1) := by decide +kernel
theorem dX4_removeAt_35 : decode cX4_removeAt 35 = .ok (.getfield 21, 3) := by decide +kernel
theorem dX4_removeAt_38 : decode cX4_removeAt 38 = .ok (.iload_n 1, 1) := by decide +kernel
theorem dX4_removeAt_39 : decode cX4_removeAt 39 = .ok (.isub, 1) := by decide +kernel
theorem dX4_removeAt_40 : decode cX4_removeAt 40 = .ok (.invokestatic 28, 3) := by decide +kernel
theorem dX4_removeAt_43 : decode cX4_removeAt 43 = .ok (.return_, 1) := by decide +kernel
theorem dX4_find_0 : decode cX4_find 0 = .ok (.iconst 0, 1) := by decide +kernel
theorem dX4_find_1 : decode cX4_find 1 = .ok (.istore_n 2, 1) := by decide +kernel
theorem dX4_find_2 : decode cX4_find 2 = .ok (.iload_n 2, 1) := by decide +kernel
theorem dX4_find_3 : decode cX4_find 3 = .ok (.aload_n 0, 1) := by decide +kernel
theorem dX4_find_4 : decode cX4_find 4 = .ok (.getfield 21, 3) := by decide +kernel
theorem dX4_find_7 : decode cX4_find 7 = .ok (.if_icmp .ge 21, 3) := by decide +kernel
theorem dX4_find_10 : decode cX4_find 10 = .ok (.aload_n 0, 1) := by decide +kernel
theorem dX4_find_11 : decode cX4_find 11 = .ok (.getfield 15, 3) := by decide +kernel
theorem dX4_find_14 : decode cX4_find 14 = .ok (.iload_n 2, 1) := by decide +kernel
theorem dX4_find_15 : decode cX4_find 15 = .ok (.iaload, 1) := by decide +kernel
theorem dX4_find_16 : decode cX4_find 16 = .ok (.iload_n 1, 1) := by decide +kernel
theorem dX4_find_17 : decode cX4_find 17 = .ok (.if_icmp .ne 5, 3) := by decide +kernel
theorem dX4_find_20 : decode cX4_find 20 = .ok (.iload_n 2, 1) := by decide +kernel
theorem dX4_find_21 : decode cX4_find 21 = .ok (.ireturn, 1) := by decide +kernel
theorem dX4_find_22 : decode cX4_find 22 = .ok (.iinc 2 1, 3) := by decide +kernel
theorem dX4_find_25 : decode cX4_find 25 = .ok (.goto (-23), 3) := by decide +kernel
theorem dX4_find_28 : decode cX4_find 28 = .ok (.iconst (-1), 1) := by decide +kernel
theorem dX4_find_29 : decode cX4_find 29 = .ok (.ireturn, 1) := by decide +kernel
theorem dX4_holds_0 : decode cX4_holds 0 = .ok (.aload_n 0, 1) := by decide +kernel
theorem dX4_holds_1 : decode cX4_holds 1 = .ok (.iload_n 1, 1) := by decide +kernel
theorem dX4_holds_2 : decode cX4_holds 2 = .ok (.invokevirtual 34, 3) := by decide +kernel
theorem dX4_holds_5 : decode cX4_holds 5 = .ok (.iconst (-1), 1) := by decide +kernel
theorem dX4_holds_6 : decode cX4_holds 6 = .ok (.if_icmp .eq 7, 3) := by decide +kernel
theorem dX4_holds_9 : decode cX4_holds 9 = .ok (.iconst 1, 1) := by decide +kernel
theorem dX4_holds_10 : decode cX4_holds 10 = .ok (.goto 4, 3) := by decide +kernel
theorem dX4_holds_13 : decode cX4_holds 13 = .ok (.iconst 0, 1) := by decide +kernel
theorem dX4_holds_14 : decode cX4_holds 14 = .ok (.ireturn, 1) := by decide +kernel
theorem dX5_init_0 : decode cX5_init 0 = .ok (.aload_n 0, 1) := by decide +kernel
theorem dX5_init_1 : decode cX5_init 1 = .ok (.invokespecial 3, 3) := by decide +kernel
theorem dX5_init_4 : decode cX5_init 4 = .ok (.aload_n 0, 1) := by decide +kernel
theorem dX5_init_5 : decode cX5_init 5 = .ok (.bipush 41, 2) := by decide +kernel
theorem dX5_init_7 : decode cX5_init 7 = .ok (.anewarray 9, 3) := by decide +kernel
theorem dX5_init_10 : decode cX5_init 10 = .ok (.putfield 11, 3) := by decide +kernel
theorem dX5_init_13 : decode cX5_init 13 = .ok (.return_, 1) := by decide +kernel
theorem dX5_prepare_0 : decode cX5_prepare 0 = .ok (.aload_n 0, 1) := by decide +kernel
theorem dX5_prepare_1 : decode cX5_prepare 1 = .ok (.getfield 11, 3) := by decide +kernel
theorem dX5_prepare_4 : decode cX5_prepare 4 = .ok (.aload_n 0, 1) := by decide +kernel
theorem dX5_prepare_5 : decode cX5_prepare 5 = .ok (.getfield 17, 3) := by decide +kernel
theorem dX5_prepare_8 : decode cX5_prepare 8 = .ok (.aaload, 1) := by decide +kernel
theorem dX5_prepare_9 : decode cX5_prepare 9 = .ok (.ifnonnull 19, 3) := by decide +kernel
theorem dX5_prepare_12 : decode cX5_prepare 12 = .ok (.aload_n 0, 1) := by decide +kernel
theorem dX5_prepare_13 : decode cX5_prepare 13 = .ok (.getfield 11, 3) := by decide +kernel
theorem dX5_prepare_16 : decode cX5_prepare 16 = .ok (.aload_n 0, 1) := by decide +kernel
theorem dX5_prepare_17 : decode cX5_prepare 17 = .ok (.getfield 17, 3) := by decide +kernel
theorem dX5_prepare_20 : decode cX5_prepare 20 = .ok (.new 9, 3) := by decide +kernel
theorem dX5_prepare_23 : decode cX5_prepare 23 = .ok (.dup, 1) := by decide +kernel
theorem dX5_prepare_24 : decode cX5_prepare 24 = .ok (.invokespecial 21, 3) := by decide +kernel
theorem dX5_prepare_27 : decode cX5_prepare 27 = .ok (.aastore, 1) := by decide +kernel
theorem dX5_prepare_28 : decode cX5_prepare 28 = .ok (.aload_n 0, 1) := by decide +kernel
theorem dX5_prepare_29 : decode cX5_prepare 29 = .ok (.getfield 11, 3) := by decide +kernel
theorem dX5_prepare_32 : decode cX5_prepare 32 = .ok (.aload_n 0, 1) := by decide +kernel
theorem dX5_prepare_33 : decode cX5_prepare 33 = .ok (.getfield 17, 3) := by decide +kernel
theorem dX5_prepare_36 : decode cX5_prepare 36 = .ok (.aaload, 1) := by decide +kernel
theorem dX5_prepare_37 : decode cX5_prepare 37 = .ok (.aload_n 1, 1) := by decide +kernel
theorem dX5_prepare_38 : decode cX5_prepare 38 = .ok (.invokevirtual 22, 3) := by decide +kernel
theorem dX5_prepare_41 : decode cX5_prepare 41 = .ok (.return_, 1) := by decide +kernel
theorem dX5_keepPrepared_0 : decode cX5_keepPrepared 0 = .ok (.aload_n 0, 1) := by decide +kernel
theorem dX5_keepPrepared_1 : decode cX5_keepPrepared 1 = .ok (.aload_n 0, 1) := by decide +kernel
theorem dX5_keepPrepared_2 : decode cX5_keepPrepared 2 = .ok (.getfield 17, 3) := by decide +kernel
theorem dX5_keepPrepared_5 : decode cX5_keepPrepared 5 = .ok (.iconst 1, 1) := by decide +kernel
theorem dX5_keepPrepared_6 : decode cX5_keepPrepared 6 = .ok (.iadd, 1) := by decide +kernel
theorem dX5_keepPrepared_7 : decode cX5_keepPrepared 7 = .ok (.aload_n 0, 1) := by decide +kernel
theorem dX5_keepPrepared_8 : decode cX5_keepPrepared 8 = .ok (.getfield 11, 3) := by decide +kernel
theorem dX5_keepPrepared_11 : decode cX5_keepPrepared 11 = .ok (.arraylength, 1) := by decide +kernel
theorem dX5_keepPrepared_12 : decode cX5_keepPrepared 12 = .ok (.irem, 1) := by decide +kernel
theorem dX5_keepPrepared_13 : decode cX5_keepPrepared 13 = .ok (.putfield 17, 3) := by decide +kernel
theorem dX5_keepPrepared_16 : decode cX5_keepPrepared 16 = .ok (.aload_n 0, 1) := by decide +kernel
theorem dX5_keepPrepared_17 : decode cX5_keepPrepared 17 = .ok (.aload_n 0, 1) := by decide +kernel
theorem dX5_keepPrepared_18 : decode cX5_keepPrepared 18 = .ok (.getfield 26, 3) := by decide +kernel
theorem dX5_keepPrepared_21 : decode cX5_keepPrepared 21 = .ok (.iconst 1, 1) := by decide +kernel
theorem dX5_keepPrepared_22 : decode cX5_keepPrepared 22 = .ok (.iadd, 1) := by decide +kernel
theorem dX5_keepPrepared_23 : decode cX5_keepPrepared 23 = .ok (.bipush 40, 2) := by decide +kernel
theorem dX5_keepPrepared_25 : decode cX5_keepPrepared 25 = .ok (.invokestatic 29, 3) := by decide +kernel
theorem dX5_keepPrepared_28 : decode cX5_keepPrepared 28 = .ok (.putfield 26, 3) := by decide +kernel
theorem dX5_keepPrepared_31 : decode cX5_keepPrepared 31 = .ok (.return_, 1) := by decide +kernel
theorem dX5_takeBack_0 : decode cX5_takeBack 0 = .ok (.aload_n 0, 1) := by decide +kernel
theorem dX5_takeBack_1 : decode cX5_takeBack 1 = .ok (.getfield 17, 3) := by decide +kernel
theorem dX5_takeBack_4 : decode cX5_takeBack 4 = .ok (.aload_n 0, 1) := by decide +kernel
theorem dX5_takeBack_5 : decode cX5_takeBack 5 = .ok (.getfield 11, 3) := by decide +kernel
theorem dX5_takeBack_8 : decode cX5_takeBack 8 = .ok (.arraylength, 1) := by decide +kernel
theorem dX5_takeBack_9 : decode cX5_takeBack 9 = .ok (.iadd, 1) := by decide +kernel
theorem dX5_takeBack_10 : decode cX5_takeBack 10 = .ok (.iconst 1, 1) := by decide +kernel
theorem dX5_takeBack_11 : decode cX5_takeBack 11 = .ok (.isub, 1) := by decide +kernel
theorem dX5_takeBack_12 : decode cX5_takeBack 12 = .ok (.aload_n 0, 1) := by decide +kernel
theorem dX5_takeBack_13 : decode cX5_takeBack 13 = .ok (.getfield 11, 3) := by decide +kernel
theorem dX5_takeBack_16 : decode cX5_takeBack 16 = .ok (.arraylength, 1) := by decide +kernel
theorem dX5_takeBack_17 : decode cX5_takeBack 17 = .ok (.irem, 1) := by decide +kernel
theorem dX5_takeBack_18 : decode cX5_takeBack 18 = .ok (.istore_n 2, 1) := by decide +kernel
theorem dX5_takeBack_19 : decode cX5_takeBack 19 = .ok (.aload_n 0, 1) := by decide +kernel
theorem dX5_takeBack_20 : decode cX5_takeBack 20 = .ok (.getfield 26, 3) := by decide +kernel
theorem dX5_takeBack_23 : decode cX5_takeBack 23 = .ok (.ifCond .eq 12, 3) := by decide +kernel
theorem dX5_takeBack_26 : decode cX5_takeBack 26 = .ok (.aload_n 0, 1) := by decide +kernel
theorem dX5_takeBack_27 : decode cX5_takeBack 27 = .ok (.getfield 11, 3) := by decide +kernel
theorem dX5_takeBack_30 : decode cX5_takeBack 30 = .ok (.iload_n 2, 1) := by decide +kernel
theorem dX5_takeBack_31 : decode cX5_takeBack 31 = .ok (.aaload, 1) := by decide +kernel
theorem dX5_takeBack_32 : decode cX5_takeBack 32 = .ok (.ifnonnull 5, 3) := by decide +kernel
theorem dX5_takeBack_35 : decode cX5_takeBack 35 = .ok (.iconst 0, 1) := by decide +kernel
theorem dX5_takeBack_36 : decode cX5_takeBack 36 = .ok (.ireturn, 1) := by decide +kernel
theorem dX5_takeBack_37 : decode cX5_takeBack 37 = .ok (.aload_n 1, 1) := by decide +kernel
theorem dX5_takeBack_38 : decode cX5_takeBack 38 = .ok (.aload_n 0, 1) := by decide +kernel
theorem dX5_takeBack_39 : decode cX5_takeBack 39 = .ok (.getfield 11, 3) := by decide +kernel
theorem dX5_takeBack_42 : decode cX5_takeBack 42 = .ok (.iload_n 2, 1) := by decide +kernel
theorem dX5_takeBack_43 : decode cX5_takeBack 43 = .ok (.aaload, 1) := by decide +kernel
theorem dX5_takeBack_44 : decode cX5_takeBack 44 = .ok (.invokevirtual 22, 3) := by decide +kernel
theorem dX5_takeBack_47 : decode cX5_takeBack 47 = .ok (.aload_n 0, 1) := by decide +kernel
theorem dX5_takeBack_48 : decode cX5_takeBack 48 = .ok (.iload_n 2, 1) := by decide +kernel
theorem dX5_takeBack_49 : decode cX5_takeBack 49 = .ok (.putfield 17, 3) := by decide +kernel
theorem dX5_takeBack_52 : decode cX5_takeBack 52 = .ok (.aload_n 0, 1) := by decide +kernel
theorem dX5_takeBack_53 : decode cX5_takeBack 53 = .ok (.dup, 1) := by decide +kernel
theorem dX5_takeBack_54 : decode cX5_takeBack 54 = .ok (.getfield 26, 3) := by decide +kernel
theorem dX5_takeBack_57 : decode cX5_takeBack 57 = .ok (.iconst 1, 1) := by decide +kernel
theorem dX5_takeBack_58 : decode cX5_takeBack 58 = .ok (.isub, 1) := by decide +kernel
theorem dX5_takeBack_59 : decode cX5_takeBack 59 = .ok (.putfield 26, 3) := by decide +kernel
theorem dX5_takeBack_62 : decode cX5_takeBack 62 = .ok (.iconst 1, 1) := by decide +kernel
theorem dX5_takeBack_63 : decode cX5_takeBack 63 = .ok (.ireturn, 1) := by decide +kernel
theorem dX6_init_0 : decode cX6_init 0 = .ok (.aload_n 0, 1) := by decide +kernel
theorem dX6_init_1 : decode cX6_init 1 = .ok (.invokespecial 3, 3) := by decide +kernel
theorem dX6_init_4 : decode cX6_init 4 = .ok (.aload_n 0, 1) := by decide +kernel
theorem dX6_init_5 : decode cX6_init 5 = .ok (.iconst 4, 1) := by decide +kernel
theorem dX6_init_6 : decode cX6_init 6 = .ok (.newarray .int, 2) := by decide +kernel
theorem dX6_init_8 : decode cX6_init 8 = .ok (.putfield 9, 3) := by decide +kernel
theorem dX6_init_11 : decode cX6_init 11 = .ok (.aload_n 0, 1) := by decide +kernel
theorem dX6_init_12 : decode cX6_init 12 = .ok (.bipush 80, 2) := by decide +kernel
theorem dX6_init_14 : decode cX6_init 14 = .ok (.newarray .int, 2) := by decide +kernel
theorem dX6_init_16 : decode cX6_init 16 = .ok (.putfield 15, 3) := by decide +kernel
theorem dX6_init_19 : decode cX6_init 19 = .ok (.aload_n 0, 1) := by decide +kernel
theorem dX6_init_20 : decode cX6_init 20 = .ok (.aload_n 1, 1) := by decide +kernel
theorem dX6_init_21 : decode cX6_init 21 = .ok (.putfield 18, 3) := by decide +kernel
theorem dX6_init_24 : decode cX6_init 24 = .ok (.return_, 1) := by decide +kernel
theorem dX6_readHeap_0 : decode cX6_readHeap 0 = .ok (.aload_n 0, 1) := by decide +kernel
theorem dX6_readHeap_1 : decode cX6_readHeap 1 = .ok (.iconst 0, 1) := by decide +kernel
theorem dX6_readHeap_2 : decode cX6_readHeap 2 = .ok (.putfield 22, 3) := by decide +kernel
theorem dX6_readHeap_5 : decode cX6_readHeap 5 = .ok (.getstatic 26, 3) := by decide +kernel
theorem dX6_readHeap_8 : decode cX6_readHeap 8 = .ok (.iconst 0, 1) := by decide +kernel
theorem dX6_readHeap_9 : decode cX6_readHeap 9 = .ok (.aload_n 0, 1) := by decide +kernel
theorem dX6_readHeap_10 : decode cX6_readHeap 10 = .ok (.getfield 9, 3) := by decide +kernel
theorem dX6_readHeap_13 : decode cX6_readHeap 13 = .ok (.iconst 0, 1) := by decide +kernel
theorem dX6_readHeap_14 : decode cX6_readHeap 14 = .ok (.iconst 4, 1) := by decide +kernel
theorem dX6_readHeap_15 : decode cX6_readHeap 15 = .ok (.invokestatic 29, 3) := by decide +kernel
theorem dX6_readHeap_18 : decode cX6_readHeap 18 = .ok (.aload_n 0, 1) := by decide +kernel
theorem dX6_readHeap_19 : decode cX6_readHeap 19 = .ok (.invokevirtual 35, 3) := by decide +kernel
theorem dX6_readHeap_22 : decode cX6_readHeap 22 = .ok (.bipush 104, 2) := by decide +kernel
theorem dX6_readHeap_24 : decode cX6_readHeap 24 = .ok (.if_icmp .eq 8, 3) := by decide +kernel
theorem dX6_readHeap_27 : decode cX6_readHeap 27 = .ok (.aload_n 0, 1) := by decide +kernel
theorem dX6_readHeap_28 : decode cX6_readHeap 28 = .ok (.getfield 22, 3) := by decide +kernel
theorem dX6_readHeap_31 : decode cX6_readHeap 31 = .ok (.ireturn, 1) := by decide +kernel
theorem dX6_readHeap_32 : decode cX6_readHeap 32 = .ok (.aload_n 0, 1) := by decide +kernel
theorem dX6_readHeap_33 : decode cX6_readHeap 33 = .ok (.dup, 1) := by decide +kernel
theorem dX6_readHeap_34 : decode cX6_readHeap 34 = .ok (.getfield 22, 3) := by decide +kernel
theorem dX6_readHeap_37 : decode cX6_readHeap 37 = .ok (.iconst 1, 1) := by decide +kernel
theorem dX6_readHeap_38 : decode cX6_readHeap 38 = .ok (.iadd, 1) := by decide +kernel
theorem dX6_readHeap_39 : decode cX6_readHeap 39 = .ok (.putfield 22, 3) := by decide +kernel
theorem dX6_readHeap_42 : decode cX6_readHeap 42 = .ok (.iconst 0, 1) := by decide +kernel
theorem dX6_readHeap_43 : decode cX6_readHeap 43 = .ok (.istore_n 1, 1) := by decide +kernel
theorem dX6_readHeap_44 : decode cX6_readHeap 44 = .ok (.iconst 0, 1) := by decide +kernel
theorem dX6_readHeap_45 : decode cX6_readHeap 45 = .ok (.istore_n 2, 1) := by decide +kernel
theorem dX6_readHeap_46 : decode cX6_readHeap 46 = .ok (.iload_n 2, 1) := by decide +kernel
theorem dX6_readHeap_47 : decode cX6_readHeap 47 = .ok (.iconst 4, 1) := by decide +kernel
theorem dX6_readHeap_48 : decode cX6_readHeap 48 = .ok (.if_icmp .gt 110, 3) := by decide +kernel
theorem dX6_readHeap_51 : decode cX6_readHeap 51 = .ok (.aload_n 0, 1) := by decide +kernel
theorem dX6_readHeap_52 : decode cX6_readHeap 52 = .ok (.invokevirtual 35, 3) := by decide +kernel
theorem dX6_readHeap_55 : decode cX6_readHeap 55 = .ok (.istore_n 3, 1) := by decide +kernel
theorem dX6_readHeap_56 : decode cX6_readHeap 56 = .ok (.iload_n 3, 1) := by decide +kernel
theorem dX6_readHeap_57 : decode cX6_readHeap 57 = .ok (.ifCond .ne 5, 3) := by decide +kernel
theorem dX6_readHeap_60 : decode cX6_readHeap 60 = .ok (.iconst (-1), 1) := by decide +kernel
theorem dX6_readHeap_61 : decode cX6_readHeap 61 = .ok (.ireturn, 1) := by decide +kernel
theorem dX6_readHeap_62 : decode cX6_readHeap 62 = .ok (.ldc 39, 2) := by decide +kernel
theorem dX6_readHeap_64 : decode cX6_readHeap 64 = .ok (.iload_n 3, 1) := by decide +kernel
theorem dX6_readHeap_65 : decode cX6_readHeap 65 = .ok (.i2c, 1) := by decide +kernel
theorem dX6_readHeap_66 : decode cX6_readHeap 66 = .ok (.invokevirtual 41, 3) := by decide +kernel
theorem dX6_readHeap_69 : decode cX6_readHeap 69 = .ok (.istore 4, 2) := by decide +kernel
theorem dX6_readHeap_71 : decode cX6_readHeap 71 = .ok (.iload 4, 2) := by decide +kernel
theorem dX6_readHeap_73 : decode cX6_readHeap 73 = .ok (.ifCond .lt 18, 3) := by decide +kernel
theorem dX6_readHeap_76 : decode cX6_readHeap 76 = .ok (.iload 4, 2) := by decide +kernel
theorem dX6_readHeap_78 : decode cX6_readHeap 78 = .ok (.iconst 4, 1) := by decide +kernel
theorem dX6_readHeap_79 : decode cX6_readHeap 79 = .ok (.if_icmp .ge 12, 3) := by decide +kernel
theorem dX6_readHeap_82 : decode cX6_readHeap 82 = .ok (.iload_n 1, 1) := by decide +kernel
theorem dX6_readHeap_83 : decode cX6_readHeap 83 = .ok (.iload 4, 2) := by decide +kernel
theorem dX6_readHeap_85 : decode cX6_readHeap 85 = .ok (.ishr, 1) := by decide +kernel
theorem dX6_readHeap_86 : decode cX6_readHeap 86 = .ok (.iconst 1, 1) := by decide +kernel
theorem dX6_readHeap_87 : decode cX6_readHeap 87 = .ok (.iand, 1) := by decide +kernel
theorem dX6_readHeap_88 : decode cX6_readHeap 88 = .ok (.ifCond .eq 8, 3) := by decide +kernel
theorem dX6_readHeap_91 : decode cX6_readHeap 91 = .ok (.aload_n 0, 1) := by decide +kernel
theorem dX6_readHeap_92 : decode cX6_readHeap 92 = .ok (.getfield 22, 3) := by decide +kernel
theorem dX6_readHeap_95 : decode cX6_readHeap 95 = .ok (.ireturn, 1) := by decide +kernel
theorem dX6_readHeap_96 : decode cX6_readHeap 96 = .ok (.aload_n 0, 1) := by decide +kernel
theorem dX6_readHeap_97 : decode cX6_readHeap 97 = .ok (.dup, 1) := by decide +kernel
theorem dX6_readHeap_98 : decode cX6_readHeap 98 = .ok (.getfield 22, 3) := by decide +kernel
theorem dX6_readHeap_101 : decode cX6_readHeap 101 = .ok (.iconst 1, 1) := by decide +kernel
theorem dX6_readHeap_102 : decode cX6_readHeap 102 = .ok (.iadd, 1) := by decide +kernel
theorem dX6_readHeap_103 : decode cX6_readHeap 103 = .ok (.putfield 22, 3) := by decide +kernel
theorem dX6_readHeap_106 : decode cX6_readHeap 106 = .ok (.iload_n 1, 1) := by decide +kernel
theorem dX6_readHeap_107 : decode cX6_readHeap 107 = .ok (.iconst 1, 1) := by decide +kernel
theorem dX6_readHeap_108 : decode cX6_readHeap 108 = .ok (.iload 4, 2) := by decide +kernel
theorem dX6_readHeap_110 : decode cX6_readHeap 110 = .ok (.ishl, 1) := by decide +kernel
theorem dX6_readHeap_111 : decode cX6_readHeap 111 = .ok (.ior, 1) := by decide +kernel
theorem dX6_readHeap_112 : decode cX6_readHeap 112 = .ok (.istore_n 1, 1) := by decide +kernel
theorem dX6_readHeap_113 : decode cX6_readHeap 113 = .ok (.aload_n 0, 1) := by decide +kernel
theorem dX6_readHeap_114 : decode cX6_readHeap 114 = .ok (.getfield 9, 3) := by decide +kernel
theorem dX6_readHeap_117 : decode cX6_readHeap 117 = .ok (.iload 4, 2) := by decide +kernel
theorem dX6_readHeap_119 : decode cX6_readHeap 119 = .ok (.aload_n 0, 1) := by decide +kernel
theorem dX6_readHeap_120 : decode cX6_readHeap 120 = .ok (.getstatic 47, 3) := by decide +kernel
theorem dX6_readHeap_123 : decode cX6_readHeap 123 = .ok (.iload 4, 2) := by decide +kernel
theorem dX6_readHeap_125 : decode cX6_readHeap 125 = .ok (.iaload, 1) := by decide +kernel
theorem dX6_readHeap_126 : decode cX6_readHeap 126 = .ok (.getstatic 50, 3) := by decide +kernel
theorem dX6_readHeap_129 : decode cX6_readHeap 129 = .ok (.iload 4, 2) := by decide +kernel
theorem dX6_readHeap_131 : decode cX6_readHeap 131 = .ok (.iaload, 1) := by decide +kernel
theorem dX6_readHeap_132 : decode cX6_readHeap 132 = .ok (.invokevirtual 53, 3) := by decide +kernel
theorem dX6_readHeap_135 : decode cX6_readHeap 135 = .ok (.iastore, 1) := by decide +kernel
theorem dX6_readHeap_136 : decode cX6_readHeap 136 = .ok (.aload_n 0, 1) := by decide +kernel
theorem dX6_readHeap_137 : decode cX6_readHeap 137 = .ok (.getfield 9, 3) := by decide +kernel
theorem dX6_readHeap_140 : decode cX6_readHeap 140 = .ok (.iload 4, 2) := by decide +kernel
theorem dX6_readHeap_142 : decode cX6_readHeap 142 = .ok (.iaload, 1) := by decide +kernel
theorem dX6_readHeap_143 : decode cX6_readHeap 143 = .ok (.iconst (-1), 1) := by decide +kernel
theorem dX6_readHeap_144 : decode cX6_readHeap 144 = .ok (.if_icmp .ne 8, 3) := by decide +kernel
theorem dX6_readHeap_147 : decode cX6_readHeap 147 = .ok (.aload_n 0, 1) := by decide +kernel
theorem dX6_readHeap_148 : decode cX6_readHeap 148 = .ok (.getfield 57, 3) := by decide +kernel
theorem dX6_readHeap_151 : decode cX6_readHeap 151 = .ok (.ireturn, 1) := by decide +kernel
theorem dX6_readHeap_152 : decode cX6_readHeap 152 = .ok (.iinc 2 1, 3) := by decide +kernel
theorem dX6_readHeap_155 : decode cX6_readHeap 155 = .ok (.goto (-109), 3) := by decide +kernel
theorem dX6_readHeap_158 : decode cX6_readHeap 158 = .ok (.aload_n 0, 1) := by decide +kernel
theorem dX6_readHeap_159 : decode cX6_readHeap 159 = .ok (.getfield 22, 3) := by decide +kernel
theorem dX6_readHeap_162 : decode cX6_readHeap 162 = .ok (.ireturn, 1) := by decide +kernel
theorem dX6_readScript_0 : decode cX6_readScript 0 = .ok (.aload_n 0, 1) := by decide +kernel
theorem dX6_readScript_1 : decode cX6_readScript 1 = .ok (.iconst 0, 1) := by decide +kernel
theorem dX6_readScript_2 : decode cX6_readScript 2 = .ok (.putfield 22, 3) := by decide +kernel
theorem dX6_readScript_5 : decode cX6_readScript 5 = .ok (.aload_n 0, 1) := by decide +kernel
theorem dX6_readScript_6 : decode cX6_readScript 6 = .ok (.iconst 0, 1) := by decide +kernel
theorem dX6_readScript_7 : decode cX6_readScript 7 = .ok (.putfield 60, 3) := by decide +kernel
theorem dX6_readScript_10 : decode cX6_readScript 10 = .ok (.iconst 0, 1) := by decide +kernel
theorem dX6_readScript_11 : decode cX6_readScript 11 = .ok (.istore_n 1, 1) := by decide +kernel
theorem dX6_readScript_12 : decode cX6_readScript 12 = .ok (.iload_n 1, 1) := by decide +kernel
theorem dX6_readScript_13 : decode cX6_readScript 13 = .ok (.bipush 16, 2) := by decide +kernel
theorem dX6_readScript_15 : decode cX6_readScript 15 = .ok (.if_icmp .ge 64, 3) := by decide +kernel
theorem dX6_readScript_18 : decode cX6_readScript 18 = .ok (.aload_n 0, 1) := by decide +kernel
theorem dX6_readScript_19 : decode cX6_readScript 19 = .ok (.iload_n 1, 1) := by decide +kernel
theorem dX6_readScript_20 : decode cX6_readScript 20 = .ok (.invokevirtual 63, 3) := by decide +kernel
theorem dX6_readScript_23 : decode cX6_readScript 23 = .ok (.ifCond .ne 8, 3) := by decide +kernel
theorem dX6_readScript_26 : decode cX6_readScript 26 = .ok (.aload_n 0, 1) := by decide +kernel
theorem dX6_readScript_27 : decode cX6_readScript 27 = .ok (.getfield 57, 3) := by decide +kernel
theorem dX6_readScript_30 : decode cX6_readScript 30 = .ok (.ireturn, 1) := by decide +kernel
theorem dX6_readScript_31 : decode cX6_readScript 31 = .ok (.aload_n 0, 1) := by decide +kernel
theorem dX6_readScript_32 : decode cX6_readScript 32 = .ok (.dup, 1) := by decide +kernel
theorem dX6_readScript_33 : decode cX6_readScript 33 = .ok (.getfield 60, 3) := by decide +kernel
theorem dX6_readScript_36 : decode cX6_readScript 36 = .ok (.iconst 1, 1) := by decide +kernel
theorem dX6_readScript_37 : decode cX6_readScript 37 = .ok (.iadd, 1) := by decide +kernel
theorem dX6_readScript_38 : decode cX6_readScript 38 = .ok (.putfield 60, 3) := by decide +kernel
theorem dX6_readScript_41 : decode cX6_readScript 41 = .ok (.aload_n 0, 1) := by decide +kernel
theorem dX6_readScript_42 : decode cX6_readScript 42 = .ok (.invokevirtual 35, 3) := by decide +kernel
theorem dX6_readScript_45 : decode cX6_readScript 45 = .ok (.istore_n 2, 1) := by decide +kernel
theorem dX6_readScript_46 : decode cX6_readScript 46 = .ok (.iload_n 2, 1) := by decide +kernel
theorem dX6_readScript_47 : decode cX6_readScript 47 = .ok (.ifCond .ne 5, 3) := by decide +kernel
theorem dX6_readScript_50 : decode cX6_readScript 50 = .ok (.iconst (-1), 1) := by decide +kernel
theorem dX6_readScript_51 : decode cX6_readScript 51 = .ok (.ireturn, 1) := by decide +kernel
theorem dX6_readScript_52 : decode cX6_readScript 52 = .ok (.iload_n 2, 1) := by decide +kernel
theorem dX6_readScript_53 : decode cX6_readScript 53 = .ok (.bipush 59, 2) := by decide +kernel
theorem dX6_readScript_55 : decode cX6_readScript 55 = .ok (.if_icmp .eq 8, 3) := by decide +kernel
theorem dX6_readScript_58 : decode cX6_readScript 58 = .ok (.aload_n 0, 1) := by decide +kernel
theorem dX6_readScript_59 : decode cX6_readScript 59 = .ok (.getfield 22, 3) := by decide +kernel
theorem dX6_readScript_62 : decode cX6_readScript 62 = .ok (.ireturn, 1) := by decide +kernel
theorem dX6_readScript_63 : decode cX6_readScript 63 = .ok (.aload_n 0, 1) := by decide +kernel
theorem dX6_readScript_64 : decode cX6_readScript 64 = .ok (.dup, 1) := by decide +kernel
theorem dX6_readScript_65 : decode cX6_readScript 65 = .ok (.getfield 22, 3) := by decide +kernel
theorem dX6_readScript_68 : decode cX6_readScript 68 = .ok (.iconst 1, 1) := by decide +kernel
theorem dX6_readScript_69 : decode cX6_readScript 69 = .ok (.iadd, 1) := by decide +kernel
theorem dX6_readScript_70 : decode cX6_readScript 70 = .ok (.putfield 22, 3) := by decide +kernel
theorem dX6_readScript_73 : decode cX6_readScript 73 = .ok (.iinc 1 1, 3) := by decide +kernel
theorem dX6_readScript_76 : decode cX6_readScript 76 = .ok (.goto (-64), 3) := by decide +kernel
theorem dX6_readScript_79 : decode cX6_readScript 79 = .ok (.aload_n 0, 1) := by decide +kernel
theorem dX6_readScript_80 : decode cX6_readScript 80 = .ok (.getfield 22, 3) := by decide +kernel
theorem dX6_readScript_83 : decode cX6_readScript 83 = .ok (.iconst 1, 1) := by decide +kernel
theorem dX6_readScript_84 : decode cX6_readScript 84 = .ok (.isub, 1) := by decide +kernel
theorem dX6_readScript_85 : decode cX6_readScript 85 = .ok (.ireturn, 1) := by decide +kernel
theorem dX6_readStep_0 : decode cX6_readStep 0 = .ok (.ldc 67, 2) := by decide +kernel
theorem dX6_readStep_2 : decode cX6_readStep 2 = .ok (.aload_n 0, 1) := by decide +kernel
theorem dX6_readStep_3 : decode cX6_readStep 3 = .ok (.invokevirtual 35, 3) := by decide +kernel
theorem dX6_readStep_6 : decode cX6_readStep 6 = .ok (.i2c, 1) := by decide +kernel
theorem dX6_readStep_7 : decode cX6_readStep 7 = .ok (.invokevirtual 41, 3) := by decide +kernel
theorem dX6_readStep_10 : decode cX6_readStep 10 = .ok (.istore_n 2, 1) := by decide +kernel
theorem dX6_readStep_11 : decode cX6_readStep 11 = .ok (.iload_n 2, 1) := by decide +kernel
theorem dX6_readStep_12 : decode cX6_readStep 12 = .ok (.ifCond .lt 11, 3) := by decide +kernel
theorem dX6_readStep_15 : decode cX6_readStep 15 = .ok (.iload_n 2, 1) := by decide +kernel
theorem dX6_readStep_16 : decode cX6_readStep 16 = .ok (.getstatic 69, 3) := by decide +kernel
theorem dX6_readStep_19 : decode cX6_readStep 19 = .ok (.arraylength, 1) := by decide +kernel
theorem dX6_readStep_20 : decode cX6_readStep 20 = .ok (.if_icmp .lt 13, 3) := by decide +kernel
theorem dX6_readStep_23 : decode cX6_readStep 23 = .ok (.aload_n 0, 1) := by decide +kernel
theorem dX6_readStep_24 : decode cX6_readStep 24 = .ok (.aload_n 0, 1) := by decide +kernel
theorem dX6_readStep_25 : decode cX6_readStep 25 = .ok (.getfield 22, 3) := by decide +kernel
theorem dX6_readStep_28 : decode cX6_readStep 28 = .ok (.putfield 57, 3) := by decide +kernel
theorem dX6_readStep_31 : decode cX6_readStep 31 = .ok (.iconst 0, 1) := by decide +kernel
theorem dX6_readStep_32 : decode cX6_readStep 32 = .ok (.ireturn, 1) := by decide +kernel
theorem dX6_readStep_33 : decode cX6_readStep 33 = .ok (.aload_n 0, 1) := by decide +kernel
theorem dX6_readStep_34 : decode cX6_readStep 34 = .ok (.dup, 1) := by decide +kernel
theorem dX6_readStep_35 : decode cX6_readStep 35 = .ok (.getfield 22, 3) := by decide +kernel
theorem dX6_readStep_38 : decode cX6_readStep 38 = .ok (.iconst 1, 1) := by decide +kernel
theorem dX6_readStep_39 : decode cX6_readStep 39 = .ok (.iadd, 1) := by decide +kernel
theorem dX6_readStep_40 : decode cX6_readStep 40 = .ok (.putfield 22, 3) := by decide +kernel
theorem dX6_readStep_43 : decode cX6_readStep 43 = .ok (.iload_n 1, 1) := by decide +kernel
theorem dX6_readStep_44 : decode cX6_readStep 44 = .ok (.iconst 5, 1) := by decide +kernel
theorem dX6_readStep_45 : decode cX6_readStep 45 = .ok (.imul, 1) := by decide +kernel
theorem dX6_readStep_46 : decode cX6_readStep 46 = .ok (.istore_n 3, 1) := by decide +kernel
theorem dX6_readStep_47 : decode cX6_readStep 47 = .ok (.aload_n 0, 1) := by decide +kernel
theorem dX6_readStep_48 : decode cX6_readStep 48 = .ok (.getfield 15, 3) := by decide +kernel
theorem dX6_readStep_51 : decode cX6_readStep 51 = .ok (.iload_n 3, 1) := by decide +kernel
theorem dX6_readStep_52 : decode cX6_readStep 52 = .ok (.iload_n 2, 1) := by decide +kernel
theorem dX6_readStep_53 : decode cX6_readStep 53 = .ok (.iastore, 1) := by decide +kernel
theorem dX6_readStep_54 : decode cX6_readStep 54 = .ok (.iconst 1, 1) := by decide +kernel
theorem dX6_readStep_55 : decode cX6_readStep 55 = .ok (.istore 4, 2) := by decide +kernel
theorem dX6_readStep_57 : decode cX6_readStep 57 = .ok (.iload 4, 2) := by decide +kernel
theorem dX6_readStep_59 : decode cX6_readStep 59 = .ok (.iconst 5, 1) := by decide +kernel
theorem dX6_readStep_60 : decode cX6_readStep 60 = .ok (.if_icmp .ge 19, 3) := by decide +kernel
theorem dX6_readStep_63 : decode cX6_readStep 63 = .ok (.aload_n 0, 1) := by decide +kernel
theorem dX6_readStep_64 : decode cX6_readStep 64 = .ok (.getfield 15, 3) := by decide +kernel
theorem dX6_readStep_67 : decode cX6_readStep 67 = .ok (.iload_n 3, 1) := by decide +kernel
theorem dX6_readStep_68 : decode cX6_readStep 68 = .ok (.iload 4, 2) := by decide +kernel
theorem dX6_readStep_70 : decode cX6_readStep 70 = .ok (.iadd, 1) := by decide +kernel
theorem dX6_readStep_71 : decode cX6_readStep 71 = .ok (.iconst (-1), 1) := by decide +kernel
theorem dX6_readStep_72 : decode cX6_readStep 72 = .ok (.iastore, 1) := by decide +kernel
theorem dX6_readStep_73 : decode cX6_readStep 73 = .ok (.iinc 4 1, 3) := by decide +kernel
theorem dX6_readStep_76 : decode cX6_readStep 76 = .ok (.goto (-19), 3) := by decide +kernel
theorem dX6_readStep_79 : decode cX6_readStep 79 = .ok (.iconst 1, 1) := by decide +kernel
theorem dX6_readStep_80 : decode cX6_readStep 80 = .ok (.istore 4, 2) := by decide +kernel
theorem dX6_readStep_82 : decode cX6_readStep 82 = .ok (.iload 4, 2) := by decide +kernel
theorem dX6_readStep_84 : decode cX6_readStep 84 = .ok (.getstatic 69, 3) := by decide +kernel
theorem dX6_readStep_87 : decode cX6_readStep 87 = .ok (.iload_n 2, 1) := by decide +kernel
theorem dX6_readStep_88 : decode cX6_readStep 88 = .ok (.iaload, 1) := by decide +kernel
theorem dX6_readStep_89 : decode cX6_readStep 89 = .ok (.if_icmp .gt 56, 3) := by decide +kernel
theorem dX6_readStep_92 : decode cX6_readStep 92 = .ok (.iload 4, 2) := by decide +kernel
theorem dX6_readStep_94 : decode cX6_readStep 94 = .ok (.iconst 1, 1) := by decide +kernel
theorem dX6_readStep_95 : decode cX6_readStep 95 = .ok (.if_icmp .le 12, 3) := by decide +kernel
theorem dX6_readStep_98 : decode cX6_readStep 98 = .ok (.aload_n 0, 1) := by decide +kernel
theorem dX6_readStep_99 : decode cX6_readStep 99 = .ok (.invokevirtual 72, 3) := by decide +kernel
theorem dX6_readStep_102 : decode cX6_readStep 102 = .ok (.ifCond .ne 5, 3) := by decide +kernel
theorem dX6_readStep_105 : decode cX6_readStep 105 = .ok (.iconst 0, 1) := by decide +kernel
theorem dX6_readStep_106 : decode cX6_readStep 106 = .ok (.ireturn, 1) := by decide +kernel
theorem dX6_readStep_107 : decode cX6_readStep 107 = .ok (.aload_n 0, 1) := by decide +kernel
theorem dX6_readStep_108 : decode cX6_readStep 108 = .ok (.getfield 15, 3) := by decide +kernel
theorem dX6_readStep_111 : decode cX6_readStep 111 = .ok (.iload_n 3, 1) := by decide +kernel
theorem dX6_readStep_112 : decode cX6_readStep 112 = .ok (.iload 4, 2) := by decide +kernel
theorem dX6_readStep_114 : decode cX6_readStep 114 = .ok (.iadd, 1) := by decide +kernel
theorem dX6_readStep_115 : decode cX6_readStep 115 = .ok (.aload_n 0, 1) := by decide +kernel
theorem dX6_readStep_116 : decode cX6_readStep 116 = .ok (.iconst 0, 1) := by decide +kernel
theorem dX6_readStep_117 : decode cX6_readStep 117 = .ok (.sipush 999, 3) := by decide +kernel
theorem dX6_readStep_120 : decode cX6_readStep 120 = .ok (.invokevirtual 53, 3) := by decide +kernel
theorem dX6_readStep_123 : decode cX6_readStep 123 = .ok (.iastore, 1) := by decide +kernel
theorem dX6_readStep_124 : decode cX6_readStep 124 = .ok (.aload_n 0, 1) := by decide +kernel
theorem dX6_readStep_125 : decode cX6_readStep 125 = .ok (.getfield 15, 3) := by decide +kernel
theorem dX6_readStep_128 : decode cX6_readStep 128 = .ok (.iload_n 3, 1) := by decide +kernel
theorem dX6_readStep_129 : decode cX6_readStep 129 = .ok (.iload 4, 2) := by decide +kernel
theorem dX6_readStep_131 : decode cX6_readStep 131 = .ok (.iadd, 1) := by decide +kernel
theorem dX6_readStep_132 : decode cX6_readStep 132 = .ok (.iaload, 1) := by decide +kernel
theorem dX6_readStep_133 : decode cX6_readStep 133 = .ok (.iconst (-1), 1) := by decide +kernel
theorem dX6_readStep_134 : decode cX6_readStep 134 = .ok (.if_icmp .ne 5, 3) := by decide +kernel
theorem dX6_readStep_137 : decode cX6_readStep 137 = .ok (.iconst 0, 1) := by decide +kernel
theorem dX6_readStep_138 : decode cX6_readStep 138 = .ok (.ireturn, 1) := by decide +kernel
theorem dX6_readStep_139 : decode cX6_readStep 139 = .ok (.iinc 4 1, 3) := by decide +kernel
theorem dX6_readStep_142 : decode cX6_readStep 142 = .ok (.goto (-60), 3) := by decide +kernel
theorem dX6_readStep_145 : decode cX6_readStep 145 = .ok (.iconst 1, 1) := by decide +kernel
theorem dX6_readStep_146 : decode cX6_readStep 146 = .ok (.ireturn, 1) := by decide +kernel
theorem dX6_readComma_0 : decode cX6_readComma 0 = .ok (.aload_n 0, 1) := by decide +kernel
theorem dX6_readComma_1 : decode cX6_readComma 1 = .ok (.invokevirtual 35, 3) := by decide +kernel
theorem dX6_readComma_4 : decode cX6_readComma 4 = .ok (.bipush 44, 2) := by decide +kernel
theorem dX6_readComma_6 : decode cX6_readComma 6 = .ok (.if_icmp .eq 13, 3) := by decide +kernel
theorem dX6_readComma_9 : decode cX6_readComma 9 = .ok (.aload_n 0, 1) := by decide +kernel
theorem dX6_readComma_10 : decode cX6_readComma 10 = .ok (.aload_n 0, 1) := by decide +kernel
theorem dX6_readComma_11 : decode cX6_readComma 11 = .ok (.getfield 22, 3) := by decide +kernel
theorem dX6_readComma_14 : decode cX6_readComma 14 = .ok (.putfield 57, 3) := by decide +kernel
theorem dX6_readComma_17 : decode cX6_readComma 17 = .ok (.iconst 0, 1) := by decide +kernel
theorem dX6_readComma_18 : decode cX6_readComma 18 = .ok (.ireturn, 1) := by decide +kernel
theorem dX6_readComma_19 : decode cX6_readComma 19 = .ok (.aload_n 0, 1) := by decide +kernel
theorem dX6_readComma_20 : decode cX6_readComma 20 = .ok (.dup, 1) := by decide +kernel
theorem dX6_readComma_21 : decode cX6_readComma 21 = .ok (.getfield 22, 3) := by decide +kernel
theorem dX6_readComma_24 : decode cX6_readComma 24 = .ok (.iconst 1, 1) := by decide +kernel
theorem dX6_readComma_25 : decode cX6_readComma 25 = .ok (.iadd, 1) := by decide +kernel
theorem dX6_readComma_26 : decode cX6_readComma 26 = .ok (.putfield 22, 3) := by decide +kernel
theorem dX6_readComma_29 : decode cX6_readComma 29 = .ok (.iconst 1, 1) := by decide +kernel
theorem dX6_readComma_30 : decode cX6_readComma 30 = .ok (.ireturn, 1) := by decide +kernel
theorem dX6_readNumber_0 : decode cX6_readNumber 0 = .ok (.iconst 0, 1) := by decide +kernel
theorem dX6_readNumber_1 : decode cX6_readNumber 1 = .ok (.istore_n 3, 1) := by decide +kernel
theorem dX6_readNumber_2 : decode cX6_readNumber 2 = .ok (.iconst 0, 1) := by decide +kernel
theorem dX6_readNumber_3 : decode cX6_readNumber 3 = .ok (.istore 4, 2) := by decide +kernel
theorem dX6_readNumber_5 : decode cX6_readNumber 5 = .ok (.aload_n 0, 1) := by decide +kernel
theorem dX6_readNumber_6 : decode cX6_readNumber 6 = .ok (.invokevirtual 35, 3) := by decide +kernel
theorem dX6_readNumber_9 : decode cX6_readNumber 9 = .ok (.istore 5, 2) := by decide +kernel
theorem dX6_readNumber_11 : decode cX6_readNumber 11 = .ok (.iload 4, 2) := by decide +kernel
theorem dX6_readNumber_13 : decode cX6_readNumber 13 = .ok (.iconst 3, 1) := by decide +kernel
theorem dX6_readNumber_14 : decode cX6_readNumber 14 = .ok (.if_icmp .ge 51, 3) := by decide +kernel
theorem dX6_readNumber_17 : decode cX6_readNumber 17 = .ok (.iload 5, 2) := by decide +kernel
theorem dX6_readNumber_19 : decode cX6_readNumber 19 = .ok (.invokestatic 76, 3) := by decide +kernel
theorem dX6_readNumber_22 : decode cX6_readNumber 22 = .ok (.ifCond .eq 43, 3) := by decide +kernel
theorem dX6_readNumber_25 : decode cX6_readNumber 25 = .ok (.iload_n 3, 1) := by decide +kernel
theorem dX6_readNumber_26 : decode cX6_readNumber 26 = .ok (.bipush 10, 2) := by decide +kernel
theorem dX6_readNumber_28 : decode cX6_readNumber 28 = .ok (.imul, 1) := by decide +kernel
theorem dX6_readNumber_29 : decode cX6_readNumber 29 = .ok (.iload 5, 2) := by decide +kernel
theorem dX6_readNumber_31 : decode cX6_readNumber 31 = .ok (.iadd, 1) := by decide +kernel
theorem dX6_readNumber_32 : decode cX6_readNumber 32 = .ok (.bipush 48, 2) := by decide +kernel
theorem dX6_readNumber_34 : decode cX6_readNumber 34 = .ok (.isub, 1) := by decide +kernel
theorem dX6_readNumber_35 : decode cX6_readNumber 35 = .ok (.istore_n 3, 1) := by decide +kernel
theorem dX6_readNumber_36 : decode cX6_readNumber 36 = .ok (.iinc 4 1, 3) := by decide +kernel
theorem dX6_readNumber_39 : decode cX6_readNumber 39 = .ok (.aload_n 0, 1) := by decide +kernel
theorem dX6_readNumber_40 : decode cX6_readNumber 40 = .ok (.dup, 1) := by decide +kernel
theorem dX6_readNumber_41 : decode cX6_readNumber 41 = .ok (.getfield 22, 3) := by decide +kernel
theorem dX6_readNumber_44 : decode cX6_readNumber 44 = .ok (.iconst 1, 1) := by decide +kernel
theorem dX6_readNumber_45 : decode cX6_readNumber 45 = .ok (.iadd, 1) := by decide +kernel
theorem dX6_readNumber_46 : decode cX6_readNumber 46 = .ok (.putfield 22, 3) := by decide +kernel
theorem dX6_readNumber_49 : decode cX6_readNumber 49 = .ok (.aload_n 0, 1) := by decide +kernel
theorem dX6_readNumber_50 : decode cX6_readNumber 50 = .ok (.getfield 18, 3) := by decide +kernel
theorem dX6_readNumber_53 : decode cX6_readNumber 53 = .ok (.aload_n 0, 1) := by decide +kernel
theorem dX6_readNumber_54 : decode cX6_readNumber 54 = .ok (.getfield 22, 3) := by decide +kernel
theorem dX6_readNumber_57 : decode cX6_readNumber 57 = .ok (.invokevirtual 79, 3) := by decide +kernel
theorem dX6_readNumber_60 : decode cX6_readNumber 60 = .ok (.istore 5, 2) := by decide +kernel
theorem dX6_readNumber_62 : decode cX6_readNumber 62 = .ok (.goto (-51), 3) := by decide +kernel
theorem dX6_readNumber_65 : decode cX6_readNumber 65 = .ok (.iload 4, 2) := by decide +kernel
theorem dX6_readNumber_67 : decode cX6_readNumber 67 = .ok (.ifCond .eq 11, 3) := by decide +kernel
theorem dX6_readNumber_70 : decode cX6_readNumber 70 = .ok (.iload 5, 2) := by decide +kernel
theorem dX6_readNumber_72 : decode cX6_readNumber 72 = .ok (.invokestatic 76, 3) := by decide +kernel
theorem dX6_readNumber_75 : decode cX6_readNumber 75 = .ok (.ifCond .eq 13, 3) := by decide +kernel
theorem dX6_readNumber_78 : decode cX6_readNumber 78 = .ok (.aload_n 0, 1) := by decide +kernel
theorem dX6_readNumber_79 : decode cX6_readNumber 79 = .ok (.aload_n 0, 1) := by decide +kernel
theorem dX6_readNumber_80 : decode cX6_readNumber 80 = .ok (.getfield 22, 3) := by decide +kernel
theorem dX6_readNumber_83 : decode cX6_readNumber 83 = .ok (.putfield 57, 3) := by decide +kernel
theorem dX6_readNumber_86 : decode cX6_readNumber 86 = .ok (.iconst (-1), 1) := by decide +kernel
theorem dX6_readNumber_87 : decode cX6_readNumber 87 = .ok (.ireturn, 1) := by decide +kernel
theorem dX6_readNumber_88 : decode cX6_readNumber 88 = .ok (.iload_n 3, 1) := by decide +kernel
theorem dX6_readNumber_89 : decode cX6_readNumber 89 = .ok (.iload_n 1, 1) := by decide +kernel
theorem dX6_readNumber_90 : decode cX6_readNumber 90 = .ok (.if_icmp .lt 8, 3) := by decide +kernel
theorem dX6_readNumber_93 : decode cX6_readNumber 93 = .ok (.iload_n 3, 1) := by decide +kernel
theorem dX6_readNumber_94 : decode cX6_readNumber 94 = .ok (.iload_n 2, 1) := by decide +kernel
theorem dX6_readNumber_95 : decode cX6_readNumber 95 = .ok (.if_icmp .le 15, 3) := by decide +kernel
theorem dX6_readNumber_98 : decode cX6_readNumber 98 = .ok (.aload_n 0, 1) := by decide +kernel
theorem dX6_readNumber_99 : decode cX6_readNumber 99 = .ok (.aload_n 0, 1) := by decide +kernel
theorem dX6_readNumber_100 : decode cX6_readNumber 100 = .ok (.getfield 22, 3) := by decide +kernel
theorem dX6_readNumber_103 : decode cX6_readNumber 103 = .ok (.iconst 1, 1) := by decide +kernel
theorem dX6_readNumber_104 : decode cX6_readNumber 104 = .ok (.isub, 1) := by decide +kernel
theorem dX6_readNumber_105 : decode cX6_readNumber 105 = .ok (.putfield 57, 3) := by decide +kernel
theorem dX6_readNumber_108 : decode cX6_readNumber 108 = .ok (.iconst (-1), 1) := by decide +kernel
theorem dX6_readNumber_109 : decode cX6_readNumber 109 = .ok (.ireturn, 1) := by decide +kernel
theorem dX6_readNumber_110 : decode cX6_readNumber 110 = .ok (.iload_n 3, 1) := by decide +kernel
theorem dX6_readNumber_111 : decode cX6_readNumber 111 = .ok (.ireturn, 1) := by decide +kernel
theorem dX6_isDigit_0 : decode cX6_isDigit 0 = .ok (.iload_n 0, 1) := by decide +kernel
theorem dX6_isDigit_1 : decode cX6_isDigit 1 = .ok (.bipush 48, 2) := by decide +kernel
theorem dX6_isDigit_3 : decode cX6_isDigit 3 = .ok (.if_icmp .lt 13, 3) := by decide +kernel
theorem dX6_isDigit_6 : decode cX6_isDigit 6 = .ok (.iload_n 0, 1) := by decide +kernel
theorem dX6_isDigit_7 : decode cX6_isDigit 7 = .ok (.bipush 57, 2) := by decide +kernel
theorem dX6_isDigit_9 : decode cX6_isDigit 9 = .ok (.if_icmp .gt 7, 3) := by decide +kernel
theorem dX6_isDigit_12 : decode cX6_isDigit 12 = .ok (.iconst 1, 1) := by decide +kernel
theorem dX6_isDigit_13 : decode cX6_isDigit 13 = .ok (.goto 4, 3) := by decide +kernel
theorem dX6_isDigit_16 : decode cX6_isDigit 16 = .ok (.iconst 0, 1) := by decide +kernel
theorem dX6_isDigit_17 : decode cX6_isDigit 17 = .ok (.ireturn, 1) := by decide +kernel
theorem dX6_nextSign_0 : decode cX6_nextSign 0 = .ok (.aload_n 0, 1) := by decide +kernel
theorem dX6_nextSign_1 : decode cX6_nextSign 1 = .ok (.getfield 22, 3) := by decide +kernel
theorem dX6_nextSign_4 : decode cX6_nextSign 4 = .ok (.aload_n 0, 1) := by decide +kernel
theorem dX6_nextSign_5 : decode cX6_nextSign 5 = .ok (.getfield 18, 3) := by decide +kernel
theorem dX6_nextSign_8 : decode cX6_nextSign 8 = .ok (.getfield 84, 3) := by decide +kernel
theorem dX6_nextSign_11 : decode cX6_nextSign 11 = .ok (.if_icmp .ge 32, 3) := by decide +kernel
theorem dX6_nextSign_14 : decode cX6_nextSign 14 = .ok (.aload_n 0, 1) := by decide +kernel
theorem dX6_nextSign_15 : decode cX6_nextSign 15 = .ok (.getfield 18, 3) := by decide +kernel
theorem dX6_nextSign_18 : decode cX6_nextSign 18 = .ok (.aload_n 0, 1) := by decide +kernel
theorem dX6_nextSign_19 : decode cX6_nextSign 19 = .ok (.getfield 22, 3) := by decide +kernel
theorem dX6_nextSign_22 : decode cX6_nextSign 22 = .ok (.invokevirtual 79, 3) := by decide +kernel
theorem dX6_nextSign_25 : decode cX6_nextSign 25 = .ok (.bipush 32, 2) := by decide +kernel
theorem dX6_nextSign_27 : decode cX6_nextSign 27 = .ok (.if_icmp .ne 16, 3) := by decide +kernel
theorem dX6_nextSign_30 : decode cX6_nextSign 30 = .ok (.aload_n 0, 1) := by decide +kernel
theorem dX6_nextSign_31 : decode cX6_nextSign 31 = .ok (.dup, 1) := by decide +kernel
theorem dX6_nextSign_32 : decode cX6_nextSign 32 = .ok (.getfield 22, 3) := by decide +kernel
theorem dX6_nextSign_35 : decode cX6_nextSign 35 = .ok (.iconst 1, 1) := by decide +kernel
theorem dX6_nextSign_36 : decode cX6_nextSign 36 = .ok (.iadd, 1) := by decide +kernel
theorem dX6_nextSign_37 : decode cX6_nextSign 37 = .ok (.putfield 22, 3) := by decide +kernel
theorem dX6_nextSign_40 : decode cX6_nextSign 40 = .ok (.goto (-40), 3) := by decide +kernel
theorem dX6_nextSign_43 : decode cX6_nextSign 43 = .ok (.aload_n 0, 1) := by decide +kernel
theorem dX6_nextSign_44 : decode cX6_nextSign 44 = .ok (.getfield 18, 3) := by decide +kernel
theorem dX6_nextSign_47 : decode cX6_nextSign 47 = .ok (.aload_n 0, 1) := by decide +kernel
theorem dX6_nextSign_48 : decode cX6_nextSign 48 = .ok (.getfield 22, 3) := by decide +kernel
theorem dX6_nextSign_51 : decode cX6_nextSign 51 = .ok (.invokevirtual 79, 3) := by decide +kernel
theorem dX6_nextSign_54 : decode cX6_nextSign 54 = .ok (.ireturn, 1) := by decide +kernel
theorem dX8_init_0 : decode cX8_init 0 = .ok (.aload_n 0, 1) := by decide +kernel
theorem dX8_init_1 : decode cX8_init 1 = .ok (.invokespecial 3, 3) := by decide +kernel
theorem dX8_init_4 : decode cX8_init 4 = .ok (.aload_n 0, 1) := by decide +kernel
theorem dX8_init_5 : decode cX8_init 5 = .ok (.sipush 240, 3) := by decide +kernel
theorem dX8_init_8 : decode cX8_init 8 = .ok (.newarray .int, 2) := by decide +kernel
theorem dX8_init_10 : decode cX8_init 10 = .ok (.putfield 9, 3) := by decide +kernel
theorem dX8_init_13 : decode cX8_init 13 = .ok (.return_, 1) := by decide +kernel
theorem dX8_bytesIn_0 : decode cX8_bytesIn 0 = .ok (.iconst 0, 1) := by decide +kernel
theorem dX8_bytesIn_1 : decode cX8_bytesIn 1 = .ok (.istore_n 1, 1) := by decide +kernel
theorem dX8_bytesIn_2 : decode cX8_bytesIn 2 = .ok (.bipush 24, 2) := by decide +kernel
theorem dX8_bytesIn_4 : decode cX8_bytesIn 4 = .ok (.istore_n 2, 1) := by decide +kernel
theorem dX8_bytesIn_5 : decode cX8_bytesIn 5 = .ok (.iload_n 2, 1) := by decide +kernel
theorem dX8_bytesIn_6 : decode cX8_bytesIn 6 = .ok (.ifCond .lt 22, 3) := by decide +kernel
theorem dX8_bytesIn_9 : decode cX8_bytesIn 9 = .ok (.iload_n 0, 1) := by decide +kernel
theorem dX8_bytesIn_10 : decode cX8_bytesIn 10 = .ok (.iload_n 2, 1) := by decide +kernel
theorem dX8_bytesIn_11 : decode cX8_bytesIn 11 = .ok (.iushr, 1) := by decide +kernel
theorem dX8_bytesIn_12 : decode cX8_bytesIn 12 = .ok (.sipush 255, 3) := by decide +kernel
theorem dX8_bytesIn_15 : decode cX8_bytesIn 15 = .ok (.iand, 1) := by decide +kernel
theorem dX8_bytesIn_16 : decode cX8_bytesIn 16 = .ok (.ifCond .eq 6, 3) := by decide +kernel
theorem dX8_bytesIn_19 : decode cX8_bytesIn 19 = .ok (.iinc 1 1, 3) := by decide +kernel
theorem dX8_bytesIn_22 : decode cX8_bytesIn 22 = .ok (.iinc 2 (-8), 3) := by decide +kernel
theorem dX8_bytesIn_25 : decode cX8_bytesIn 25 = .ok (.goto (-20), 3) := by decide +kernel
theorem dX8_bytesIn_28 : decode cX8_bytesIn 28 = .ok (.iload_n 1, 1) := by decide +kernel
theorem dX8_bytesIn_29 : decode cX8_bytesIn 29 = .ok (.ireturn, 1) := by decide +kernel
theorem dX8_addBytes_0 : decode cX8_addBytes 0 = .ok (.bipush 24, 2) := by decide +kernel
theorem dX8_addBytes_2 : decode cX8_addBytes 2 = .ok (.istore_n 2, 1) := by decide +kernel
theorem dX8_addBytes_3 : decode cX8_addBytes 3 = .ok (.iload_n 2, 1) := by decide +kernel
theorem dX8_addBytes_4 : decode cX8_addBytes 4 = .ok (.ifCond .lt 51, 3) := by decide +kernel
theorem dX8_addBytes_7 : decode cX8_addBytes 7 = .ok (.iload_n 1, 1) := by decide +kernel
theorem dX8_addBytes_8 : decode cX8_addBytes 8 = .ok (.iload_n 2, 1) := by decide +kernel
theorem dX8_addBytes_9 : decode cX8_addBytes 9 = .ok (.iushr, 1) := by decide +kernel
theorem dX8_addBytes_10 : decode cX8_addBytes 10 = .ok (.sipush 255, 3) := by decide +kernel
theorem dX8_addBytes_13 : decode cX8_addBytes 13 = .ok (.iand, 1) := by decide +kernel
theorem dX8_addBytes_14 : decode cX8_addBytes 14 = .ok (.istore_n 3, 1) := by decide +kernel
theorem dX8_addBytes_15 : decode cX8_addBytes 15 = .ok (.iload_n 3, 1) := by decide +kernel
theorem dX8_addBytes_16 : decode cX8_addBytes 16 = .ok (.ifCond .eq 33, 3) := by decide +kernel
theorem dX8_addBytes_19 : decode cX8_addBytes 19 = .ok (.aload_n 0, 1) := by decide +kernel
theorem dX8_addBytes_20 : decode cX8_addBytes 20 = .ok (.getfield 15, 3) := by decide +kernel
theorem dX8_addBytes_23 : decode cX8_addBytes 23 = .ok (.sipush 240, 3) := by decide +kernel
theorem dX8_addBytes_26 : decode cX8_addBytes 26 = .ok (.if_icmp .ge 23, 3) := by decide +kernel
theorem dX8_addBytes_29 : decode cX8_addBytes 29 = .ok (.aload_n 0, 1) := by decide +kernel
theorem dX8_addBytes_30 : decode cX8_addBytes 30 = .ok (.getfield 9, 3) := by decide +kernel
theorem dX8_addBytes_33 : decode cX8_addBytes 33 = .ok (.aload_n 0, 1) := by decide +kernel
theorem dX8_addBytes_34 : decode cX8_addBytes 34 = .ok (.getfield 15, 3) := by decide +kernel
theorem dX8_addBytes_37 : decode cX8_addBytes 37 = .ok (.iload_n 3, 1) := by decide +kernel
theorem dX8_addBytes_38 : decode cX8_addBytes 38 = .ok (.iastore, 1) := by decide +kernel
theorem dX8_addBytes_39 : decode cX8_addBytes 39 = .ok (.aload_n 0, 1) := by decide +kernel
theorem dX8_addBytes_40 : decode cX8_addBytes 40 = .ok (.dup, 1) := by decide +kernel
theorem dX8_addBytes_41 : decode cX8_addBytes 41 = .ok (.getfield 15, 3) := by decide +kernel
theorem dX8_addBytes_44 : decode cX8_addBytes 44 = .ok (.iconst 1, 1) := by decide +kernel
theorem dX8_addBytes_45 : decode cX8_addBytes 45 = .ok (.iadd, 1) := by decide +kernel
theorem dX8_addBytes_46 : decode cX8_addBytes 46 = .ok (.putfield 15, 3) := by decide +kernel
theorem dX8_addBytes_49 : decode cX8_addBytes 49 = .ok (.iinc 2 (-8), 3) := by decide +kernel
theorem dX8_addBytes_52 : decode cX8_addBytes 52 = .ok (.goto (-49), 3) := by decide +kernel
theorem dX8_addBytes_55 : decode cX8_addBytes 55 = .ok (.return_, 1) := by decide +kernel
theorem dX8_byteAt_0 : decode cX8_byteAt 0 = .ok (.iload_n 1, 1) := by decide +kernel
theorem dX8_byteAt_1 : decode cX8_byteAt 1 = .ok (.ifCond .lt 20, 3) := by decide +kernel
theorem dX8_byteAt_4 : decode cX8_byteAt 4 = .ok (.iload_n 1, 1) := by decide +kernel
theorem dX8_byteAt_5 : decode cX8_byteAt 5 = .ok (.aload_n 0, 1) := by decide +kernel
theorem dX8_byteAt_6 : decode cX8_byteAt 6 = .ok (.getfield 15, 3) := by decide +kernel
theorem dX8_byteAt_9 : decode cX8_byteAt 9 = .ok (.if_icmp .ge 12, 3) := by decide +kernel
theorem dX8_byteAt_12 : decode cX8_byteAt 12 = .ok (.aload_n 0, 1) := by decide +kernel
theorem dX8_byteAt_13 : decode cX8_byteAt 13 = .ok (.getfield 9, 3) := by decide +kernel
theorem dX8_byteAt_16 : decode cX8_byteAt 16 = .ok (.iload_n 1, 1) := by decide +kernel
theorem dX8_byteAt_17 : decode cX8_byteAt 17 = .ok (.iaload, 1) := by decide +kernel
theorem dX8_byteAt_18 : decode cX8_byteAt 18 = .ok (.goto 4, 3) := by decide +kernel
theorem dX8_byteAt_21 : decode cX8_byteAt 21 = .ok (.iconst 0, 1) := by decide +kernel
theorem dX8_byteAt_22 : decode cX8_byteAt 22 = .ok (.ireturn, 1) := by decide +kernel
